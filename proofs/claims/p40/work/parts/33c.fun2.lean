noncomputable def fX0_canLoseOne (k : Nat) (x1 : Int32) (m : Mem) : Option Int32 := (if x1 = (16 : Int32) then some (1 : Int32) else (fX0_sidesOf k x1 m).bind fun q1 => (if q1 < (4 : Int32) then some (0 : Int32) else some (1 : Int32)))
theorem ufX0_canLoseOne {xs : List Int32} {d : Nat} {r : jR} {K : Mem → List jE} (hK : Ctx shC K) (hd : 1 ≤ d) {k : Nat} (hk : k < 3) {x1 : Int32} {m : Mem} {L : List (Nat × Value)} (l0 : jget L 0 = some (.ref (cw k 2))) (l1 : jget L 1 = some (.int x1)) {t : Int32} (h : fX0_canLoseOne k x1 m = some t) (hq : (qI r (K m)) t) : RunD (jcs xs) d 2 (some .boolean) jt_X0_canLoseOne (0, L, [], (K m)) r := by
  unfold fX0_canLoseOne at h
  refine R_iload_n (p := 1) rfl l1 rfl ?_
  refine R_bipush (p := 3) rfl kb_16 rfl ?_
  by_cases hc : x1 = (16 : Int32)
  · replace h := ite_t h hc
    refine R_iceq_t rfl hc ?_
    refine R_iconst (p := 16) rfl ki_1 rfl ?_
    refine R_goto rfl ?_
    obtain rfl := Option.some.inj h
    exact R_zreturn rfl rfl (by decide) hq
  · replace h := ite_f h hc
    refine R_iceq_f (p := 6) rfl hc rfl ?_
    refine R_aload_n (p := 7) rfl l0 rfl ?_
    refine R_iload_n (p := 8) rfl l1 rfl ?_
    obtain ⟨q1, eq1, h⟩ := bind_some h
    refine R_cV2v (p := 11) hK rfl (s_w2 hk) (tfX0_sidesOf hK (Nat.le_trans (by decide) hd) hk eq1) rfl rfl ?_
    refine R_iconst (p := 12) rfl ki_4 rfl ?_
    by_cases hc : q1 < (4 : Int32)
    · replace h := ite_t h hc
      refine R_iclt_t rfl hc ?_
      refine R_iconst (p := 20) rfl ki_0 rfl ?_
      obtain rfl := Option.some.inj h
      exact R_zreturn rfl rfl (by decide) hq
    · replace h := ite_f h hc
      refine R_iclt_f (p := 15) rfl hc rfl ?_
      refine R_iconst (p := 16) rfl ki_1 rfl ?_
      refine R_goto rfl ?_
      obtain rfl := Option.some.inj h
      exact R_zreturn rfl rfl (by decide) hq
theorem tfX0_canLoseOne {xs : List Int32} {d : Nat} {K : Mem → List jE} (hK : Ctx shC K) (hd : 2 ≤ d) {k : Nat} (hk : k < 3) {x1 : Int32} {m : Mem} {t : Int32} (h : fX0_canLoseOne k x1 m = some t) : CallD (jcs xs) d 18 [.ref (cw k 2), .int x1] (K m) (some (.int t), (K m)) := by
  obtain ⟨d, rfl⟩ : ∃ z, d = z + 1 := ⟨d - 1, by omega⟩
  refine CallD_of jmt_X0_canLoseOne rfl ⟨rfl, Nat.le_of_ble_eq_true rfl⟩ ?_
  exact ufX0_canLoseOne hK (Nat.le_of_succ_le_succ hd) hk rfl rfl h rfl
noncomputable def lX0_canBurst_61 (k : Nat) (x1 : Int32) (x2 : Int32) (x3 : Int32) (x4 : Int32) (x5 : Int32) (m : Mem) (s : Int32) : Option ((Int32) ⊕ Int32) := (if x5 ≤ s then some (.inr (1 : Int32)) else (fX0_at k x1 s m).bind fun q7 => (if q7 = x3 then some (.inl (s + (1 : Int32))) else (if q7 = x4 then some (.inl (s + (1 : Int32))) else (fX0_placeOf k x2 q7 m).bind fun q8 => (if q8 < 0 then some (.inl (s + (1 : Int32))) else some (.inr (0 : Int32))))))
noncomputable def gX0_canBurst_61 (xs : List Int32) (d : Nat) (r : jR) (K : Mem → List jE) (k : Nat) (x1 : Int32) (x2 : Int32) (x3 : Int32) (x4 : Int32) (x5 : Int32) (m : Mem) (s : Int32) : Prop := ∀ L, jget L 0 = some (.ref (cw k 2)) → jget L 1 = some (.int x1) → jget L 2 = some (.int x2) → jget L 3 = some (.int x3) → jget L 4 = some (.int x4) → jget L 5 = some (.int x5) → jget L 6 = some (.int s) → RunD (jcs xs) d 8 (some .boolean) jt_X0_canBurst (61, L, [], (K m)) r
noncomputable def fX0_canBurst (k : Nat) (x1 : Int32) (x2 : Int32) (m : Mem) : Option Int32 := (fX0_isWall k x1 x2 m).bind fun q1 => (if q1 = 0 then some (0 : Int32) else (fX0_aheadOf k x1 x2 m).bind fun q2 => (fX0_behind k x1 x2 m).bind fun q3 => (if q2 = q3 then some (0 : Int32) else (fX0_canLoseOne k q2 m).bind fun q4 => (if q4 = 0 then some (0 : Int32) else (fX0_canLoseOne k q3 m).bind fun q5 => (if q5 = 0 then some (0 : Int32) else (fX0_sidesOf k x1 m).bind fun q6 => lp (lX0_canBurst_61 k x1 x2 q2 q3 q6 m) fu (0 : Int32)))))
theorem BX0_canBurst_61 {xs : List Int32} {d : Nat} {r : jR} {K : Mem → List jE} (hK : Ctx shC K) (hd : 3 ≤ d) {k : Nat} (hk : k < 3)  {x1 : Int32} {x2 : Int32} {x3 : Int32} {x4 : Int32} {x5 : Int32} {m : Mem} (s : Int32) {t : (Int32) ⊕ Int32} (h : lX0_canBurst_61 k x1 x2 x3 x4 x5 m s = some t) (hq : sQ (gX0_canBurst_61 xs d r K k x1 x2 x3 x4 x5 m) (qI r (K m)) t) : gX0_canBurst_61 xs d r K k x1 x2 x3 x4 x5 m s := by
  intro L l0 l1 l2 l3 l4 l5 l6
  unfold lX0_canBurst_61 at h
  refine R_iload (p := 63) rfl l6 rfl ?_
  refine R_iload (p := 65) rfl l5 rfl ?_
  by_cases hc : x5 ≤ s
  · replace h := ite_t h hc
    refine R_icge_t rfl hc ?_
    refine R_iconst (p := 109) rfl ki_1 rfl ?_
    obtain rfl := Option.some.inj h
    exact R_zreturn rfl rfl (by decide) hq
  · replace h := ite_f h hc
    refine R_icge_f (p := 68) rfl hc rfl ?_
    refine R_aload_n (p := 69) rfl l0 rfl ?_
    refine R_iload_n (p := 70) rfl l1 rfl ?_
    refine R_iload (p := 72) rfl l6 rfl ?_
    obtain ⟨q7, eq7, h⟩ := bind_some h
    refine R_cV3v (p := 75) hK rfl (s_w2 hk) (tfX0_at hK (Nat.le_trans (by decide) hd) hk eq7) rfl rfl ?_
    refine R_istore (p := 77) rfl rfl rfl ?_
    refine R_iload (p := 79) rfl jg_self rfl ?_
    refine R_iload_n (p := 80) rfl (jg_ne l3 rfl) rfl ?_
    by_cases hc : q7 = x3
    · replace h := ite_t h hc
      refine R_iceq_t rfl hc ?_
      refine R_iinc (p := 105) rfl (jg_ne l6 rfl) rfl ki_1 rfl ?_
      refine R_goto rfl ?_
      obtain rfl := Option.some.inj h
      exact hq _ (jg_ne (jg_ne l0 rfl) rfl) (jg_ne (jg_ne l1 rfl) rfl) (jg_ne (jg_ne l2 rfl) rfl) (jg_ne (jg_ne l3 rfl) rfl) (jg_ne (jg_ne l4 rfl) rfl) (jg_ne (jg_ne l5 rfl) rfl) jg_self
    · replace h := ite_f h hc
      refine R_iceq_f (p := 83) rfl hc rfl ?_
      refine R_iload (p := 85) rfl jg_self rfl ?_
      refine R_iload (p := 87) rfl (jg_ne l4 rfl) rfl ?_
      by_cases hc : q7 = x4
      · replace h := ite_t h hc
        refine R_iceq_t rfl hc ?_
        refine R_iinc (p := 105) rfl (jg_ne l6 rfl) rfl ki_1 rfl ?_
        refine R_goto rfl ?_
        obtain rfl := Option.some.inj h
        exact hq _ (jg_ne (jg_ne l0 rfl) rfl) (jg_ne (jg_ne l1 rfl) rfl) (jg_ne (jg_ne l2 rfl) rfl) (jg_ne (jg_ne l3 rfl) rfl) (jg_ne (jg_ne l4 rfl) rfl) (jg_ne (jg_ne l5 rfl) rfl) jg_self
      · replace h := ite_f h hc
        refine R_iceq_f (p := 90) rfl hc rfl ?_
        refine R_aload_n (p := 91) rfl (jg_ne l0 rfl) rfl ?_
        refine R_iload_n (p := 92) rfl (jg_ne l2 rfl) rfl ?_
        refine R_iload (p := 94) rfl jg_self rfl ?_
        obtain ⟨q8, eq8, h⟩ := bind_some h
        refine R_cV3v (p := 97) hK rfl (s_w2 hk) (tfX0_placeOf hK (Nat.le_trans (by decide) hd) hk eq8) rfl rfl ?_
        by_cases hc : q8 < 0
        · replace h := ite_t h hc
          refine R_iflt_t rfl hc ?_
          refine R_iinc (p := 105) rfl (jg_ne l6 rfl) rfl ki_1 rfl ?_
          refine R_goto rfl ?_
          obtain rfl := Option.some.inj h
          exact hq _ (jg_ne (jg_ne l0 rfl) rfl) (jg_ne (jg_ne l1 rfl) rfl) (jg_ne (jg_ne l2 rfl) rfl) (jg_ne (jg_ne l3 rfl) rfl) (jg_ne (jg_ne l4 rfl) rfl) (jg_ne (jg_ne l5 rfl) rfl) jg_self
        · replace h := ite_f h hc
          refine R_iflt_f (p := 100) rfl hc rfl ?_
          refine R_iconst (p := 101) rfl ki_0 rfl ?_
          obtain rfl := Option.some.inj h
          exact R_zreturn rfl rfl (by decide) hq
theorem LX0_canBurst_61 {xs : List Int32} {d : Nat} {r : jR} {K : Mem → List jE} (hK : Ctx shC K) (hd : 3 ≤ d) {k : Nat} (hk : k < 3)  {x1 : Int32} {x2 : Int32} {x3 : Int32} {x4 : Int32} {x5 : Int32} {m : Mem} (n : Nat) (s : Int32) {t : Int32} (h : lp (lX0_canBurst_61 k x1 x2 x3 x4 x5 m) n s = some t) (hq : (qI r (K m)) t) : gX0_canBurst_61 xs d r K k x1 x2 x3 x4 x5 m s := lp_ind (G := gX0_canBurst_61 xs d r K k x1 x2 x3 x4 x5 m) (Qe := (qI r (K m))) (fun s t h hq => BX0_canBurst_61 hK hd hk s h hq) n s t h hq
theorem ufX0_canBurst {xs : List Int32} {d : Nat} {r : jR} {K : Mem → List jE} (hK : Ctx shC K) (hd : 3 ≤ d) {k : Nat} (hk : k < 3) {x1 : Int32} {x2 : Int32} {m : Mem} {L : List (Nat × Value)} (l0 : jget L 0 = some (.ref (cw k 2))) (l1 : jget L 1 = some (.int x1)) (l2 : jget L 2 = some (.int x2)) {t : Int32} (h : fX0_canBurst k x1 x2 m = some t) (hq : (qI r (K m)) t) : RunD (jcs xs) d 8 (some .boolean) jt_X0_canBurst (0, L, [], (K m)) r := by
  unfold fX0_canBurst at h
  refine R_aload_n (p := 1) rfl l0 rfl ?_
  refine R_iload_n (p := 2) rfl l1 rfl ?_
  refine R_iload_n (p := 3) rfl l2 rfl ?_
  obtain ⟨q1, eq1, h⟩ := bind_some h
  refine R_cV3v (p := 6) hK rfl (s_w2 hk) (tfX0_isWall hK (Nat.le_trans (by decide) hd) hk eq1) rfl rfl ?_
  by_cases hc : q1 = 0
  · replace h := ite_t h hc
    refine R_ifne_f (p := 9) rfl (fun z => z hc) rfl ?_
    refine R_iconst (p := 10) rfl ki_0 rfl ?_
    obtain rfl := Option.some.inj h
    exact R_zreturn rfl rfl (by decide) hq
  · replace h := ite_f h hc
    refine R_ifne_t rfl hc ?_
    refine R_aload_n (p := 12) rfl l0 rfl ?_
    refine R_iload_n (p := 13) rfl l1 rfl ?_
    refine R_iload_n (p := 14) rfl l2 rfl ?_
    obtain ⟨q2, eq2, h⟩ := bind_some h
    refine R_cV3v (p := 17) hK rfl (s_w2 hk) (tfX0_aheadOf hK (Nat.le_trans (by decide) hd) hk eq2) rfl rfl ?_
    refine R_istore_n (p := 18) rfl rfl rfl ?_
    refine R_aload_n (p := 19) rfl (jg_ne l0 rfl) rfl ?_
    refine R_iload_n (p := 20) rfl (jg_ne l1 rfl) rfl ?_
    refine R_iload_n (p := 21) rfl (jg_ne l2 rfl) rfl ?_
    obtain ⟨q3, eq3, h⟩ := bind_some h
    refine R_cV3v (p := 24) hK rfl (s_w2 hk) (tfX0_behind hK (Nat.le_trans (by decide) hd) hk eq3) rfl rfl ?_
    refine R_istore (p := 26) rfl rfl rfl ?_
    refine R_iload_n (p := 27) rfl (jg_ne jg_self rfl) rfl ?_
    refine R_iload (p := 29) rfl jg_self rfl ?_
    by_cases hc : q2 = q3
    · replace h := ite_t h hc
      refine R_iceq_t rfl hc ?_
      refine R_iconst (p := 50) rfl ki_0 rfl ?_
      obtain rfl := Option.some.inj h
      exact R_zreturn rfl rfl (by decide) hq
    · replace h := ite_f h hc
      refine R_iceq_f (p := 32) rfl hc rfl ?_
      refine R_aload_n (p := 33) rfl (jg_ne (jg_ne l0 rfl) rfl) rfl ?_
      refine R_iload_n (p := 34) rfl (jg_ne jg_self rfl) rfl ?_
      obtain ⟨q4, eq4, h⟩ := bind_some h
      refine R_cV2v (p := 37) hK rfl (s_w2 hk) (tfX0_canLoseOne hK (Nat.le_trans (by decide) hd) hk eq4) rfl rfl ?_
      by_cases hc : q4 = 0
      · replace h := ite_t h hc
        refine R_ifeq_t rfl hc ?_
        refine R_iconst (p := 50) rfl ki_0 rfl ?_
        obtain rfl := Option.some.inj h
        exact R_zreturn rfl rfl (by decide) hq
      · replace h := ite_f h hc
        refine R_ifeq_f (p := 40) rfl hc rfl ?_
        refine R_aload_n (p := 41) rfl (jg_ne (jg_ne l0 rfl) rfl) rfl ?_
        refine R_iload (p := 43) rfl jg_self rfl ?_
        obtain ⟨q5, eq5, h⟩ := bind_some h
        refine R_cV2v (p := 46) hK rfl (s_w2 hk) (tfX0_canLoseOne hK (Nat.le_trans (by decide) hd) hk eq5) rfl rfl ?_
        by_cases hc : q5 = 0
        · replace h := ite_t h hc
          refine R_ifne_f (p := 49) rfl (fun z => z hc) rfl ?_
          refine R_iconst (p := 50) rfl ki_0 rfl ?_
          obtain rfl := Option.some.inj h
          exact R_zreturn rfl rfl (by decide) hq
        · replace h := ite_f h hc
          refine R_ifne_t rfl hc ?_
          refine R_aload_n (p := 52) rfl (jg_ne (jg_ne l0 rfl) rfl) rfl ?_
          refine R_iload_n (p := 53) rfl (jg_ne (jg_ne l1 rfl) rfl) rfl ?_
          obtain ⟨q6, eq6, h⟩ := bind_some h
          refine R_cV2v (p := 56) hK rfl (s_w2 hk) (tfX0_sidesOf hK (Nat.le_trans (by decide) hd) hk eq6) rfl rfl ?_
          refine R_istore (p := 58) rfl rfl rfl ?_
          refine R_iconst (p := 59) rfl ki_0 rfl ?_
          refine R_istore (p := 61) rfl rfl rfl ?_
          exact LX0_canBurst_61 hK hd hk _ _ h hq _ (jg_ne (jg_ne (jg_ne (jg_ne l0 rfl) rfl) rfl) rfl) (jg_ne (jg_ne (jg_ne (jg_ne l1 rfl) rfl) rfl) rfl) (jg_ne (jg_ne (jg_ne (jg_ne l2 rfl) rfl) rfl) rfl) (jg_ne (jg_ne (jg_ne jg_self rfl) rfl) rfl) (jg_ne (jg_ne jg_self rfl) rfl) (jg_ne jg_self rfl) jg_self
theorem tfX0_canBurst {xs : List Int32} {d : Nat} {K : Mem → List jE} (hK : Ctx shC K) (hd : 4 ≤ d) {k : Nat} (hk : k < 3) {x1 : Int32} {x2 : Int32} {m : Mem} {t : Int32} (h : fX0_canBurst k x1 x2 m = some t) : CallD (jcs xs) d 22 [.ref (cw k 2), .int x1, .int x2] (K m) (some (.int t), (K m)) := by
  obtain ⟨d, rfl⟩ : ∃ z, d = z + 1 := ⟨d - 1, by omega⟩
  refine CallD_of jmt_X0_canBurst rfl ⟨rfl, Nat.le_of_ble_eq_true rfl⟩ ?_
  exact ufX0_canBurst hK (Nat.le_of_succ_le_succ hd) hk rfl rfl rfl h rfl
noncomputable def fX0_canVanish (k : Nat) (x1 : Int32) (m : Mem) : Option Int32 := (fX0_sidesOf k x1 m).bind fun q1 => (if q1 = (3 : Int32) then (fX0_at k x1 (0 : Int32) m).bind fun q2 => (fX0_canLoseOne k q2 m).bind fun q3 => (if q3 = 0 then some (0 : Int32) else (fX0_at k x1 (1 : Int32) m).bind fun q4 => (fX0_canLoseOne k q4 m).bind fun q5 => (if q5 = 0 then some (0 : Int32) else (fX0_at k x1 (2 : Int32) m).bind fun q6 => (fX0_canLoseOne k q6 m).bind fun q7 => (if q7 = 0 then some (0 : Int32) else some (1 : Int32)))) else some (0 : Int32))
theorem ufX0_canVanish {xs : List Int32} {d : Nat} {r : jR} {K : Mem → List jE} (hK : Ctx shC K) (hd : 2 ≤ d) {k : Nat} (hk : k < 3) {x1 : Int32} {m : Mem} {L : List (Nat × Value)} (l0 : jget L 0 = some (.ref (cw k 2))) (l1 : jget L 1 = some (.int x1)) {t : Int32} (h : fX0_canVanish k x1 m = some t) (hq : (qI r (K m)) t) : RunD (jcs xs) d 2 (some .boolean) jt_X0_canVanish (0, L, [], (K m)) r := by
  unfold fX0_canVanish at h
  refine R_aload_n (p := 1) rfl l0 rfl ?_
  refine R_iload_n (p := 2) rfl l1 rfl ?_
  obtain ⟨q1, eq1, h⟩ := bind_some h
  refine R_cV2v (p := 5) hK rfl (s_w2 hk) (tfX0_sidesOf hK (Nat.le_trans (by decide) hd) hk eq1) rfl rfl ?_
  refine R_iconst (p := 6) rfl ki_3 rfl ?_
  by_cases hc : q1 = (3 : Int32)
  · replace h := ite_t h hc
    refine R_iceq_t rfl hc ?_
    refine R_aload_n (p := 12) rfl l0 rfl ?_
    refine R_aload_n (p := 13) rfl l0 rfl ?_
    refine R_iload_n (p := 14) rfl l1 rfl ?_
    refine R_iconst (p := 15) rfl ki_0 rfl ?_
    obtain ⟨q2, eq2, h⟩ := bind_some h
    refine R_cV3v (p := 18) hK rfl (s_w2 hk) (tfX0_at hK (Nat.le_trans (by decide) hd) hk eq2) rfl rfl ?_
    obtain ⟨q3, eq3, h⟩ := bind_some h
    refine R_cV2v (p := 21) hK rfl (s_w2 hk) (tfX0_canLoseOne hK (Nat.le_trans (by decide) hd) hk eq3) rfl rfl ?_
    by_cases hc : q3 = 0
    · replace h := ite_t h hc
      refine R_ifeq_t rfl hc ?_
      refine R_iconst (p := 55) rfl ki_0 rfl ?_
      obtain rfl := Option.some.inj h
      exact R_zreturn rfl rfl (by decide) hq
    · replace h := ite_f h hc
      refine R_ifeq_f (p := 24) rfl hc rfl ?_
      refine R_aload_n (p := 25) rfl l0 rfl ?_
      refine R_aload_n (p := 26) rfl l0 rfl ?_
      refine R_iload_n (p := 27) rfl l1 rfl ?_
      refine R_iconst (p := 28) rfl ki_1 rfl ?_
      obtain ⟨q4, eq4, h⟩ := bind_some h
      refine R_cV3v (p := 31) hK rfl (s_w2 hk) (tfX0_at hK (Nat.le_trans (by decide) hd) hk eq4) rfl rfl ?_
      obtain ⟨q5, eq5, h⟩ := bind_some h
      refine R_cV2v (p := 34) hK rfl (s_w2 hk) (tfX0_canLoseOne hK (Nat.le_trans (by decide) hd) hk eq5) rfl rfl ?_
      by_cases hc : q5 = 0
      · replace h := ite_t h hc
        refine R_ifeq_t rfl hc ?_
        refine R_iconst (p := 55) rfl ki_0 rfl ?_
        obtain rfl := Option.some.inj h
        exact R_zreturn rfl rfl (by decide) hq
      · replace h := ite_f h hc
        refine R_ifeq_f (p := 37) rfl hc rfl ?_
        refine R_aload_n (p := 38) rfl l0 rfl ?_
        refine R_aload_n (p := 39) rfl l0 rfl ?_
        refine R_iload_n (p := 40) rfl l1 rfl ?_
        refine R_iconst (p := 41) rfl ki_2 rfl ?_
        obtain ⟨q6, eq6, h⟩ := bind_some h
        refine R_cV3v (p := 44) hK rfl (s_w2 hk) (tfX0_at hK (Nat.le_trans (by decide) hd) hk eq6) rfl rfl ?_
        obtain ⟨q7, eq7, h⟩ := bind_some h
        refine R_cV2v (p := 47) hK rfl (s_w2 hk) (tfX0_canLoseOne hK (Nat.le_trans (by decide) hd) hk eq7) rfl rfl ?_
        by_cases hc : q7 = 0
        · replace h := ite_t h hc
          refine R_ifeq_t rfl hc ?_
          refine R_iconst (p := 55) rfl ki_0 rfl ?_
          obtain rfl := Option.some.inj h
          exact R_zreturn rfl rfl (by decide) hq
        · replace h := ite_f h hc
          refine R_ifeq_f (p := 50) rfl hc rfl ?_
          refine R_iconst (p := 51) rfl ki_1 rfl ?_
          refine R_goto rfl ?_
          obtain rfl := Option.some.inj h
          exact R_zreturn rfl rfl (by decide) hq
  · replace h := ite_f h hc
    refine R_iceq_f (p := 9) rfl hc rfl ?_
    refine R_iconst (p := 10) rfl ki_0 rfl ?_
    obtain rfl := Option.some.inj h
    exact R_zreturn rfl rfl (by decide) hq
theorem tfX0_canVanish {xs : List Int32} {d : Nat} {K : Mem → List jE} (hK : Ctx shC K) (hd : 3 ≤ d) {k : Nat} (hk : k < 3) {x1 : Int32} {m : Mem} {t : Int32} (h : fX0_canVanish k x1 m = some t) : CallD (jcs xs) d 21 [.ref (cw k 2), .int x1] (K m) (some (.int t), (K m)) := by
  obtain ⟨d, rfl⟩ : ∃ z, d = z + 1 := ⟨d - 1, by omega⟩
  refine CallD_of jmt_X0_canVanish rfl ⟨rfl, Nat.le_of_ble_eq_true rfl⟩ ?_
  exact ufX0_canVanish hK (Nat.le_of_succ_le_succ hd) hk rfl rfl h rfl
noncomputable def bX8_can_42 (m : Mem) : Option (Int32 × Mem) := (fX8_no (1 : Int32) m).bind fun q2 => some (q2.1, q2.2)
noncomputable def bX8_can_89 (x1 : Int32) (x2 : Int32) (x3 : Int32) (y0 : Int32) (m : Mem) : Option (Int32 × Mem) := (if y0 = 0 then (fX8_no (3 : Int32) m).bind fun q5 => some (q5.1, q5.2) else (if x1 = (0 : Int32) then (fX0_canTurn 0 x2 x3 m).bind fun q6 => (if q6 = 0 then some ((0 : Int32), m) else some ((1 : Int32), m)) else (if x1 = (1 : Int32) then (fX0_canBurst 0 x2 x3 m).bind fun q8 => (if q8 = 0 then some ((0 : Int32), m) else some ((1 : Int32), m)) else (fX0_canVanish 0 x2 m).bind fun q10 => (if q10 = 0 then some ((0 : Int32), m) else some ((1 : Int32), m)))))
noncomputable def bX8_can_48 (x1 : Int32) (x2 : Int32) (x3 : Int32) (m : Mem) : Option (Int32 × Mem) := (if x1 = (2 : Int32) then (if inb x2 16 then (if (m (cw 0 7) x2.toNatClampNeg) = (3 : Int32) then bX8_can_89 x1 x2 x3 (1 : Int32) m else bX8_can_89 x1 x2 x3 (0 : Int32) m) else none) else (fX0_isWall 0 x2 x3 m).bind fun q11 => bX8_can_89 x1 x2 x3 q11 m)
noncomputable def fX8_can (x1 : Int32) (x2 : Int32) (x3 : Int32) (m : Mem) : Option (Int32 × Mem) := (if (fX8_within x1 (0 : Int32) (2 : Int32)) = 0 then bX8_can_42 m else (if (fX0_has 0 x2 m) = 0 then bX8_can_42 m else (if x1 = (2 : Int32) then bX8_can_48 x1 x2 x3 m else (if (fX0_has 0 x3 m) = 0 then bX8_can_42 m else bX8_can_48 x1 x2 x3 m))))
theorem tbX8_can_42 {xs : List Int32} {d : Nat} {r : jR} {K : Mem → List jE} (hK : Ctx shC K) (hd : 4 ≤ d)  {m : Mem} {L : List (Nat × Value)} (l0 : jget L 0 = some (.ref 0)) {t : (Int32 × Mem)} (h : bX8_can_42 m = some t) (hq : (qIM r K) t) : RunD (jcs xs) d 5 (some .int) jt_X8_can (42, L, [], (K m)) r := by
  unfold bX8_can_42 at h
  refine R_aload_n (p := 43) rfl l0 rfl ?_
  refine R_iconst (p := 44) rfl ki_1 rfl ?_
  obtain ⟨q2, eq2, h⟩ := bind_some h
  refine R_cV2v (p := 47) hK rfl rfl (tfX8_no hK (Nat.le_trans (by decide) hd)  eq2) rfl rfl ?_
  obtain rfl := Option.some.inj h
  exact R_ireturn rfl rfl hq
theorem tbX8_can_89 {xs : List Int32} {d : Nat} {r : jR} {K : Mem → List jE} (hK : Ctx shC K) (hd : 4 ≤ d)  {x1 : Int32} {x2 : Int32} {x3 : Int32} {y0 : Int32} {m : Mem} {L : List (Nat × Value)} (l0 : jget L 0 = some (.ref 0)) (l1 : jget L 1 = some (.int x1)) (l2 : jget L 2 = some (.int x2)) (l3 : jget L 3 = some (.int x3)) {t : (Int32 × Mem)} (h : bX8_can_89 x1 x2 x3 y0 m = some t) (hq : (qIM r K) t) : RunD (jcs xs) d 5 (some .int) jt_X8_can (89, L, [.int y0], (K m)) r := by
  unfold bX8_can_89 at h
  refine R_istore (p := 91) rfl rfl rfl ?_
  refine R_iload (p := 93) rfl jg_self rfl ?_
  by_cases hc : y0 = 0
  · replace h := ite_t h hc
    refine R_ifne_f (p := 96) rfl (fun z => z hc) rfl ?_
    refine R_aload_n (p := 97) rfl (jg_ne l0 rfl) rfl ?_
    refine R_iconst (p := 98) rfl ki_3 rfl ?_
    obtain ⟨q5, eq5, h⟩ := bind_some h
    refine R_cV2v (p := 101) hK rfl rfl (tfX8_no hK (Nat.le_trans (by decide) hd)  eq5) rfl rfl ?_
    obtain rfl := Option.some.inj h
    exact R_ireturn rfl rfl hq
  · replace h := ite_f h hc
    refine R_ifne_t rfl hc ?_
    refine R_iload_n (p := 103) rfl (jg_ne l1 rfl) rfl ?_
    by_cases n7 : x1 = (0 : Int32)
    · replace h := ite_t h n7
      refine R_lsw (p := 128) rfl rfl (by rw [n7]; decide +kernel) ?_
      refine R_aload_n (p := 129) rfl (jg_ne l0 rfl) rfl ?_
      refine R_getR (p := 132) (q := (cw 0 1)) hK rfl rfl rfl rfl ?_
      refine R_getR (p := 135) (q := (cw 0 2)) hK rfl (s_w1 (by decide)) rfl rfl ?_
      refine R_iload_n (p := 136) rfl (jg_ne l2 rfl) rfl ?_
      refine R_iload_n (p := 137) rfl (jg_ne l3 rfl) rfl ?_
      obtain ⟨q6, eq6, h⟩ := bind_some h
      refine R_cV3v (p := 140) hK rfl (s_w2 (by decide)) (tfX0_canTurn hK (Nat.le_trans (by decide) hd) (by decide) eq6) rfl rfl ?_
      by_cases hc : q6 = 0
      · replace h := ite_t h hc
        refine R_ifeq_t rfl hc ?_
        refine R_iconst (p := 148) rfl ki_0 rfl ?_
        obtain rfl := Option.some.inj h
        exact R_ireturn rfl rfl hq
      · replace h := ite_f h hc
        refine R_ifeq_f (p := 143) rfl hc rfl ?_
        refine R_iconst (p := 144) rfl ki_1 rfl ?_
        refine R_goto rfl ?_
        obtain rfl := Option.some.inj h
        exact R_ireturn rfl rfl hq
    replace h := ite_f h n7
    by_cases n9 : x1 = (1 : Int32)
    · replace h := ite_t h n9
      refine R_lsw (p := 149) rfl rfl (by rw [n9]; decide +kernel) ?_
      refine R_aload_n (p := 150) rfl (jg_ne l0 rfl) rfl ?_
      refine R_getR (p := 153) (q := (cw 0 1)) hK rfl rfl rfl rfl ?_
      refine R_getR (p := 156) (q := (cw 0 2)) hK rfl (s_w1 (by decide)) rfl rfl ?_
      refine R_iload_n (p := 157) rfl (jg_ne l2 rfl) rfl ?_
      refine R_iload_n (p := 158) rfl (jg_ne l3 rfl) rfl ?_
      obtain ⟨q8, eq8, h⟩ := bind_some h
      refine R_cV3v (p := 161) hK rfl (s_w2 (by decide)) (tfX0_canBurst hK (Nat.le_trans (by decide) hd) (by decide) eq8) rfl rfl ?_
      by_cases hc : q8 = 0
      · replace h := ite_t h hc
        refine R_ifeq_t rfl hc ?_
        refine R_iconst (p := 169) rfl ki_0 rfl ?_
        obtain rfl := Option.some.inj h
        exact R_ireturn rfl rfl hq
      · replace h := ite_f h hc
        refine R_ifeq_f (p := 164) rfl hc rfl ?_
        refine R_iconst (p := 165) rfl ki_1 rfl ?_
        refine R_goto rfl ?_
        obtain rfl := Option.some.inj h
        exact R_ireturn rfl rfl hq
    replace h := ite_f h n9
    refine R_lsw (p := 170) rfl rfl (lsw_d [(0 : Int32), (1 : Int32)] (List.forall_mem_cons.mpr ⟨n7, List.forall_mem_cons.mpr ⟨n9, fun _ h9 => absurd h9 List.not_mem_nil⟩⟩) (by decide +kernel) rfl) ?_
    refine R_aload_n (p := 171) rfl (jg_ne l0 rfl) rfl ?_
    refine R_getR (p := 174) (q := (cw 0 1)) hK rfl rfl rfl rfl ?_
    refine R_getR (p := 177) (q := (cw 0 2)) hK rfl (s_w1 (by decide)) rfl rfl ?_
    refine R_iload_n (p := 178) rfl (jg_ne l2 rfl) rfl ?_
    obtain ⟨q10, eq10, h⟩ := bind_some h
    refine R_cV2v (p := 181) hK rfl (s_w2 (by decide)) (tfX0_canVanish hK (Nat.le_trans (by decide) hd) (by decide) eq10) rfl rfl ?_
    by_cases hc : q10 = 0
    · replace h := ite_t h hc
      refine R_ifeq_t rfl hc ?_
      refine R_iconst (p := 189) rfl ki_0 rfl ?_
      obtain rfl := Option.some.inj h
      exact R_ireturn rfl rfl hq
    · replace h := ite_f h hc
      refine R_ifeq_f (p := 184) rfl hc rfl ?_
      refine R_iconst (p := 185) rfl ki_1 rfl ?_
      refine R_goto rfl ?_
      obtain rfl := Option.some.inj h
      exact R_ireturn rfl rfl hq
theorem tbX8_can_48 {xs : List Int32} {d : Nat} {r : jR} {K : Mem → List jE} (hK : Ctx shC K) (hd : 4 ≤ d)  {x1 : Int32} {x2 : Int32} {x3 : Int32} {m : Mem} {L : List (Nat × Value)} (l0 : jget L 0 = some (.ref 0)) (l1 : jget L 1 = some (.int x1)) (l2 : jget L 2 = some (.int x2)) (l3 : jget L 3 = some (.int x3)) {t : (Int32 × Mem)} (h : bX8_can_48 x1 x2 x3 m = some t) (hq : (qIM r K) t) : RunD (jcs xs) d 5 (some .int) jt_X8_can (48, L, [], (K m)) r := by
  unfold bX8_can_48 at h
  refine R_iload_n (p := 49) rfl l1 rfl ?_
  refine R_iconst (p := 50) rfl ki_2 rfl ?_
  by_cases hc : x1 = (2 : Int32)
  · replace h := ite_t h hc
    refine R_icne_f (p := 53) rfl (fun z => z hc) rfl ?_
    refine R_aload_n (p := 54) rfl l0 rfl ?_
    refine R_getR (p := 57) (q := (cw 0 1)) hK rfl rfl rfl rfl ?_
    refine R_getR (p := 60) (q := (cw 0 2)) hK rfl (s_w1 (by decide)) rfl rfl ?_
    refine R_getR (p := 63) (q := (cw 0 7)) hK rfl (s_w2 (by decide)) rfl rfl ?_
    refine R_iload_n (p := 64) rfl l2 rfl ?_
    obtain ⟨b4, h⟩ := gd h
    refine R_iald (p := 65) hK rfl (s_w7 (by decide)) b4 rfl ?_
    refine R_iconst (p := 66) rfl ki_3 rfl ?_
    by_cases hc : (m (cw 0 7) x2.toNatClampNeg) = (3 : Int32)
    · replace h := ite_t h hc
      refine R_icne_f (p := 69) rfl (fun z => z hc) rfl ?_
      refine R_iconst (p := 70) rfl ki_1 rfl ?_
      refine R_goto rfl ?_
      exact tbX8_can_89 hK hd l0 l1 l2 l3 h hq
    · replace h := ite_f h hc
      refine R_icne_t rfl hc ?_
      refine R_iconst (p := 74) rfl ki_0 rfl ?_
      refine R_goto rfl ?_
      exact tbX8_can_89 hK hd l0 l1 l2 l3 h hq
  · replace h := ite_f h hc
    refine R_icne_t rfl hc ?_
    refine R_aload_n (p := 78) rfl l0 rfl ?_
    refine R_getR (p := 81) (q := (cw 0 1)) hK rfl rfl rfl rfl ?_
    refine R_getR (p := 84) (q := (cw 0 2)) hK rfl (s_w1 (by decide)) rfl rfl ?_
    refine R_iload_n (p := 85) rfl l2 rfl ?_
    refine R_iload_n (p := 86) rfl l3 rfl ?_
    obtain ⟨q11, eq11, h⟩ := bind_some h
    refine R_cV3v (p := 89) hK rfl (s_w2 (by decide)) (tfX0_isWall hK (Nat.le_trans (by decide) hd) (by decide) eq11) rfl rfl ?_
    exact tbX8_can_89 hK hd l0 l1 l2 l3 h hq
theorem ufX8_can {xs : List Int32} {d : Nat} {r : jR} {K : Mem → List jE} (hK : Ctx shC K) (hd : 4 ≤ d) {x1 : Int32} {x2 : Int32} {x3 : Int32} {m : Mem} {L : List (Nat × Value)} (l0 : jget L 0 = some (.ref 0)) (l1 : jget L 1 = some (.int x1)) (l2 : jget L 2 = some (.int x2)) (l3 : jget L 3 = some (.int x3)) {t : (Int32 × Mem)} (h : fX8_can x1 x2 x3 m = some t) (hq : (qIM r K) t) : RunD (jcs xs) d 5 (some .int) jt_X8_can (0, L, [], (K m)) r := by
  unfold fX8_can at h
  refine R_iload_n (p := 1) rfl l1 rfl ?_
  refine R_iconst (p := 2) rfl ki_0 rfl ?_
  refine R_iconst (p := 3) rfl ki_2 rfl ?_
  refine R_cS3v (p := 6) rfl (tfX8_within (Nat.le_trans (by decide) hd) ) rfl rfl ?_
  by_cases hc : (fX8_within x1 (0 : Int32) (2 : Int32)) = 0
  · replace h := ite_t h hc
    refine R_ifeq_t rfl hc ?_
    exact tbX8_can_42 hK hd l0 h hq
  · replace h := ite_f h hc
    refine R_ifeq_f (p := 9) rfl hc rfl ?_
    refine R_aload_n (p := 10) rfl l0 rfl ?_
    refine R_getR (p := 13) (q := (cw 0 1)) hK rfl rfl rfl rfl ?_
    refine R_getR (p := 16) (q := (cw 0 2)) hK rfl (s_w1 (by decide)) rfl rfl ?_
    refine R_iload_n (p := 17) rfl l2 rfl ?_
    refine R_cV2v (p := 20) hK rfl (s_w2 (by decide)) (tfX0_has hK (Nat.le_trans (by decide) hd) (by decide)) rfl rfl ?_
    by_cases hc : (fX0_has 0 x2 m) = 0
    · replace h := ite_t h hc
      refine R_ifeq_t rfl hc ?_
      exact tbX8_can_42 hK hd l0 h hq
    · replace h := ite_f h hc
      refine R_ifeq_f (p := 23) rfl hc rfl ?_
      refine R_iload_n (p := 24) rfl l1 rfl ?_
      refine R_iconst (p := 25) rfl ki_2 rfl ?_
      by_cases hc : x1 = (2 : Int32)
      · replace h := ite_t h hc
        refine R_iceq_t rfl hc ?_
        exact tbX8_can_48 hK hd l0 l1 l2 l3 h hq
      · replace h := ite_f h hc
        refine R_iceq_f (p := 28) rfl hc rfl ?_
        refine R_aload_n (p := 29) rfl l0 rfl ?_
        refine R_getR (p := 32) (q := (cw 0 1)) hK rfl rfl rfl rfl ?_
        refine R_getR (p := 35) (q := (cw 0 2)) hK rfl (s_w1 (by decide)) rfl rfl ?_
        refine R_iload_n (p := 36) rfl l3 rfl ?_
        refine R_cV2v (p := 39) hK rfl (s_w2 (by decide)) (tfX0_has hK (Nat.le_trans (by decide) hd) (by decide)) rfl rfl ?_
        by_cases hc : (fX0_has 0 x3 m) = 0
        · replace h := ite_t h hc
          refine R_ifne_f (p := 42) rfl (fun z => z hc) rfl ?_
          exact tbX8_can_42 hK hd l0 h hq
        · replace h := ite_f h hc
          refine R_ifne_t rfl hc ?_
          exact tbX8_can_48 hK hd l0 l1 l2 l3 h hq
theorem tfX8_can {xs : List Int32} {d : Nat} {K : Mem → List jE} (hK : Ctx shC K) (hd : 5 ≤ d) {x1 : Int32} {x2 : Int32} {x3 : Int32} {m : Mem} {t : (Int32 × Mem)} (h : fX8_can x1 x2 x3 m = some t) : CallD (jcs xs) d 112 [.ref 0, .int x1, .int x2, .int x3] (K m) (some (.int t.1), K t.2) := by
  obtain ⟨d, rfl⟩ : ∃ z, d = z + 1 := ⟨d - 1, by omega⟩
  refine CallD_of jmt_X8_can rfl ⟨rfl, Nat.le_of_ble_eq_true rfl⟩ ?_
  exact ufX8_can hK (Nat.le_of_succ_le_succ hd) rfl rfl rfl rfl h rfl
noncomputable def fX9_canTurn (x1 : Int32) (x2 : Int32) (m : Mem) : Option Int32 := (fX9_ahead x1 x2 m).bind fun q1 => (fX9_behind x1 x2 m).bind fun q2 => (fX9_sidesOf x1 m).bind fun q3 => (if q3 < (4 : Int32) then some (0 : Int32) else (fX9_sidesOf x2 m).bind fun q4 => (if q4 < (4 : Int32) then some (0 : Int32) else (if q1 = q2 then some (0 : Int32) else (if q1 = (16 : Int32) then (fX9_isWall q2 q1 m).bind fun q5 => (if q5 = 0 then some (1 : Int32) else some (0 : Int32)) else (fX9_isWall q1 q2 m).bind fun q6 => (if q6 = 0 then some (1 : Int32) else some (0 : Int32))))))
theorem ufX9_canTurn {xs : List Int32} {d : Nat} {r : jR} {K : Mem → List jE} (hK : Ctx shR K) (hd : 4 ≤ d) {x1 : Int32} {x2 : Int32} {m : Mem} {L : List (Nat × Value)} (l0 : jget L 0 = some (.ref 137)) (l1 : jget L 1 = some (.int x1)) (l2 : jget L 2 = some (.int x2)) {t : Int32} (h : fX9_canTurn x1 x2 m = some t) (hq : (qI r (K m)) t) : RunD (jcs xs) d 5 (some .boolean) jt_X9_canTurn (0, L, [], (K m)) r := by
  unfold fX9_canTurn at h
  refine R_aload_n (p := 1) rfl l0 rfl ?_
  refine R_iload_n (p := 2) rfl l1 rfl ?_
  refine R_iload_n (p := 3) rfl l2 rfl ?_
  obtain ⟨q1, eq1, h⟩ := bind_some h
  refine R_cV3v (p := 6) hK rfl rfl (tfX9_ahead hK (Nat.le_trans (by decide) hd)  eq1) rfl rfl ?_
  refine R_istore_n (p := 7) rfl rfl rfl ?_
  refine R_aload_n (p := 8) rfl (jg_ne l0 rfl) rfl ?_
  refine R_iload_n (p := 9) rfl (jg_ne l1 rfl) rfl ?_
  refine R_iload_n (p := 10) rfl (jg_ne l2 rfl) rfl ?_
  obtain ⟨q2, eq2, h⟩ := bind_some h
  refine R_cV3v (p := 13) hK rfl rfl (tfX9_behind hK (Nat.le_trans (by decide) hd)  eq2) rfl rfl ?_
  refine R_istore (p := 15) rfl rfl rfl ?_
  refine R_aload_n (p := 16) rfl (jg_ne (jg_ne l0 rfl) rfl) rfl ?_
  refine R_iload_n (p := 17) rfl (jg_ne (jg_ne l1 rfl) rfl) rfl ?_
  obtain ⟨q3, eq3, h⟩ := bind_some h
  refine R_cV2v (p := 20) hK rfl rfl (tfX9_sidesOf hK (Nat.le_trans (by decide) hd)  eq3) rfl rfl ?_
  refine R_iconst (p := 21) rfl ki_4 rfl ?_
  by_cases hc : q3 < (4 : Int32)
  · replace h := ite_t h hc
    refine R_iclt_t rfl hc ?_
    refine R_iconst (p := 40) rfl ki_0 rfl ?_
    obtain rfl := Option.some.inj h
    exact R_zreturn rfl rfl (by decide) hq
  · replace h := ite_f h hc
    refine R_iclt_f (p := 24) rfl hc rfl ?_
    refine R_aload_n (p := 25) rfl (jg_ne (jg_ne l0 rfl) rfl) rfl ?_
    refine R_iload_n (p := 26) rfl (jg_ne (jg_ne l2 rfl) rfl) rfl ?_
    obtain ⟨q4, eq4, h⟩ := bind_some h
    refine R_cV2v (p := 29) hK rfl rfl (tfX9_sidesOf hK (Nat.le_trans (by decide) hd)  eq4) rfl rfl ?_
    refine R_iconst (p := 30) rfl ki_4 rfl ?_
    by_cases hc : q4 < (4 : Int32)
    · replace h := ite_t h hc
      refine R_iclt_t rfl hc ?_
      refine R_iconst (p := 40) rfl ki_0 rfl ?_
      obtain rfl := Option.some.inj h
      exact R_zreturn rfl rfl (by decide) hq
    · replace h := ite_f h hc
      refine R_iclt_f (p := 33) rfl hc rfl ?_
      refine R_iload_n (p := 34) rfl (jg_ne jg_self rfl) rfl ?_
      refine R_iload (p := 36) rfl jg_self rfl ?_
      by_cases hc : q1 = q2
      · replace h := ite_t h hc
        refine R_icne_f (p := 39) rfl (fun z => z hc) rfl ?_
        refine R_iconst (p := 40) rfl ki_0 rfl ?_
        obtain rfl := Option.some.inj h
        exact R_zreturn rfl rfl (by decide) hq
      · replace h := ite_f h hc
        refine R_icne_t rfl hc ?_
        refine R_iload_n (p := 42) rfl (jg_ne jg_self rfl) rfl ?_
        refine R_bipush (p := 44) rfl kb_16 rfl ?_
        by_cases hc : q1 = (16 : Int32)
        · replace h := ite_t h hc
          refine R_icne_f (p := 47) rfl (fun z => z hc) rfl ?_
          refine R_aload_n (p := 48) rfl (jg_ne (jg_ne l0 rfl) rfl) rfl ?_
          refine R_iload (p := 50) rfl jg_self rfl ?_
          refine R_iload_n (p := 51) rfl (jg_ne jg_self rfl) rfl ?_
          obtain ⟨q5, eq5, h⟩ := bind_some h
          refine R_cV3v (p := 54) hK rfl rfl (tfX9_isWall hK (Nat.le_trans (by decide) hd)  eq5) rfl rfl ?_
          by_cases hc : q5 = 0
          · replace h := ite_t h hc
            refine R_ifne_f (p := 57) rfl (fun z => z hc) rfl ?_
            refine R_iconst (p := 58) rfl ki_1 rfl ?_
            refine R_goto rfl ?_
            obtain rfl := Option.some.inj h
            exact R_zreturn rfl rfl (by decide) hq
          · replace h := ite_f h hc
            refine R_ifne_t rfl hc ?_
            refine R_iconst (p := 62) rfl ki_0 rfl ?_
            refine R_goto rfl ?_
            obtain rfl := Option.some.inj h
            exact R_zreturn rfl rfl (by decide) hq
        · replace h := ite_f h hc
          refine R_icne_t rfl hc ?_
          refine R_aload_n (p := 66) rfl (jg_ne (jg_ne l0 rfl) rfl) rfl ?_
          refine R_iload_n (p := 67) rfl (jg_ne jg_self rfl) rfl ?_
          refine R_iload (p := 69) rfl jg_self rfl ?_
          obtain ⟨q6, eq6, h⟩ := bind_some h
          refine R_cV3v (p := 72) hK rfl rfl (tfX9_isWall hK (Nat.le_trans (by decide) hd)  eq6) rfl rfl ?_
          by_cases hc : q6 = 0
          · replace h := ite_t h hc
            refine R_ifne_f (p := 75) rfl (fun z => z hc) rfl ?_
            refine R_iconst (p := 76) rfl ki_1 rfl ?_
            refine R_goto rfl ?_
            obtain rfl := Option.some.inj h
            exact R_zreturn rfl rfl (by decide) hq
          · replace h := ite_f h hc
            refine R_ifne_t rfl hc ?_
            refine R_iconst (p := 80) rfl ki_0 rfl ?_
            obtain rfl := Option.some.inj h
            exact R_zreturn rfl rfl (by decide) hq
theorem tfX9_canTurn {xs : List Int32} {d : Nat} {K : Mem → List jE} (hK : Ctx shR K) (hd : 5 ≤ d) {x1 : Int32} {x2 : Int32} {m : Mem} {t : Int32} (h : fX9_canTurn x1 x2 m = some t) : CallD (jcs xs) d 180 [.ref 137, .int x1, .int x2] (K m) (some (.int t), (K m)) := by
  obtain ⟨d, rfl⟩ : ∃ z, d = z + 1 := ⟨d - 1, by omega⟩
  refine CallD_of jmt_X9_canTurn rfl ⟨rfl, Nat.le_of_ble_eq_true rfl⟩ ?_
  exact ufX9_canTurn hK (Nat.le_of_succ_le_succ hd) rfl rfl rfl h rfl
noncomputable def lX9_canBurst_63 (x1 : Int32) (x2 : Int32) (x3 : Int32) (x4 : Int32) (m : Mem) (s : Int32 × Int32) : Option ((Int32 × Int32) ⊕ Int32) := (fX9_sidesOf x1 m).bind fun q3 => (if q3 ≤ s.2 then (if s.1 = 0 ∨ s.1 = 1 then some (.inr s.1) else none) else (fX9_of x1 ((6 : Int32) + s.2) m).bind fun q5 => (if s.1 = 0 then some (.inl ((0 : Int32), (s.2 + (1 : Int32)))) else (if q5 = x3 then some (.inl ((1 : Int32), (s.2 + (1 : Int32)))) else (if q5 = x4 then some (.inl ((1 : Int32), (s.2 + (1 : Int32)))) else (fX9_isWall x2 q5 m).bind fun q6 => (if q6 = 0 then some (.inl ((1 : Int32), (s.2 + (1 : Int32)))) else some (.inl ((0 : Int32), (s.2 + (1 : Int32)))))))))
noncomputable def gX9_canBurst_63 (xs : List Int32) (d : Nat) (r : jR) (K : Mem → List jE) (x1 : Int32) (x2 : Int32) (x3 : Int32) (x4 : Int32) (m : Mem) (s : Int32 × Int32) : Prop := ∀ L, jget L 0 = some (.ref 137) → jget L 1 = some (.int x1) → jget L 2 = some (.int x2) → jget L 3 = some (.int x3) → jget L 4 = some (.int x4) → jget L 5 = some (.int s.1) → jget L 6 = some (.int s.2) → RunD (jcs xs) d 8 (some .boolean) jt_X9_canBurst (63, L, [], (K m)) r
noncomputable def bX9_canBurst_36 (x1 : Int32) (x2 : Int32) (x3 : Int32) (x4 : Int32) (m : Mem) : Option Int32 := (if x4 = (16 : Int32) then lp (lX9_canBurst_63 x1 x2 x3 x4 m) fu ((1 : Int32), (0 : Int32)) else (fX9_sidesOf x4 m).bind fun q7 => (if q7 ≤ (3 : Int32) then lp (lX9_canBurst_63 x1 x2 x3 x4 m) fu ((0 : Int32), (0 : Int32)) else lp (lX9_canBurst_63 x1 x2 x3 x4 m) fu ((1 : Int32), (0 : Int32))))
noncomputable def fX9_canBurst (x1 : Int32) (x2 : Int32) (m : Mem) : Option Int32 := (fX9_ahead x1 x2 m).bind fun q1 => (fX9_behind x1 x2 m).bind fun q2 => (if q1 = q2 then lp (lX9_canBurst_63 x1 x2 q1 q2 m) fu ((0 : Int32), (0 : Int32)) else (if q1 = (16 : Int32) then bX9_canBurst_36 x1 x2 q1 q2 m else (fX9_sidesOf q1 m).bind fun q8 => (if q8 ≤ (3 : Int32) then lp (lX9_canBurst_63 x1 x2 q1 q2 m) fu ((0 : Int32), (0 : Int32)) else bX9_canBurst_36 x1 x2 q1 q2 m)))
theorem BX9_canBurst_63 {xs : List Int32} {d : Nat} {r : jR} {K : Mem → List jE} (hK : Ctx shR K) (hd : 4 ≤ d)  {x1 : Int32} {x2 : Int32} {x3 : Int32} {x4 : Int32} {m : Mem} (s : Int32 × Int32) {t : (Int32 × Int32) ⊕ Int32} (h : lX9_canBurst_63 x1 x2 x3 x4 m s = some t) (hq : sQ (gX9_canBurst_63 xs d r K x1 x2 x3 x4 m) (qI r (K m)) t) : gX9_canBurst_63 xs d r K x1 x2 x3 x4 m s := by
  intro L l0 l1 l2 l3 l4 l5 l6
  unfold lX9_canBurst_63 at h
  refine R_iload (p := 65) rfl l6 rfl ?_
  refine R_aload_n (p := 66) rfl l0 rfl ?_
  refine R_iload_n (p := 67) rfl l1 rfl ?_
  obtain ⟨q3, eq3, h⟩ := bind_some h
  refine R_cV2v (p := 70) hK rfl rfl (tfX9_sidesOf hK (Nat.le_trans (by decide) hd)  eq3) rfl rfl ?_
  by_cases hc : q3 ≤ s.2
  · replace h := ite_t h hc
    refine R_icge_t rfl hc ?_
    refine R_iload (p := 128) rfl l5 rfl ?_
    obtain ⟨b4, h⟩ := gd h
    obtain rfl := Option.some.inj h
    exact R_zreturn rfl rfl b4 hq
  · replace h := ite_f h hc
    refine R_icge_f (p := 73) rfl hc rfl ?_
    refine R_aload_n (p := 74) rfl l0 rfl ?_
    refine R_iload_n (p := 75) rfl l1 rfl ?_
    refine R_bipush (p := 77) rfl kb_6 rfl ?_
    refine R_iload (p := 79) rfl l6 rfl ?_
    refine R_iadd (p := 80) rfl rfl ?_
    obtain ⟨q5, eq5, h⟩ := bind_some h
    refine R_cV3v (p := 83) hK rfl rfl (tfX9_of hK (Nat.le_trans (by decide) hd)  eq5) rfl rfl ?_
    refine R_istore (p := 85) rfl rfl rfl ?_
    refine R_iload (p := 87) rfl (jg_ne l5 rfl) rfl ?_
    by_cases hc : s.1 = 0
    · replace h := ite_t h hc
      refine R_ifeq_t rfl hc ?_
      refine R_iconst (p := 118) rfl ki_0 rfl ?_
      refine R_istore (p := 120) rfl rfl rfl ?_
      refine R_iinc (p := 123) rfl (jg_ne (jg_ne l6 rfl) rfl) rfl ki_1 rfl ?_
      refine R_goto rfl ?_
      obtain rfl := Option.some.inj h
      exact hq _ (jg_ne (jg_ne (jg_ne l0 rfl) rfl) rfl) (jg_ne (jg_ne (jg_ne l1 rfl) rfl) rfl) (jg_ne (jg_ne (jg_ne l2 rfl) rfl) rfl) (jg_ne (jg_ne (jg_ne l3 rfl) rfl) rfl) (jg_ne (jg_ne (jg_ne l4 rfl) rfl) rfl) (jg_ne jg_self rfl) jg_self
    · replace h := ite_f h hc
      refine R_ifeq_f (p := 90) rfl hc rfl ?_
      refine R_iload (p := 92) rfl jg_self rfl ?_
      refine R_iload_n (p := 93) rfl (jg_ne l3 rfl) rfl ?_
      by_cases hc : q5 = x3
      · replace h := ite_t h hc
        refine R_iceq_t rfl hc ?_
        refine R_iconst (p := 114) rfl ki_1 rfl ?_
        refine R_goto rfl ?_
        refine R_istore (p := 120) rfl rfl rfl ?_
        refine R_iinc (p := 123) rfl (jg_ne (jg_ne l6 rfl) rfl) rfl ki_1 rfl ?_
        refine R_goto rfl ?_
        obtain rfl := Option.some.inj h
        exact hq _ (jg_ne (jg_ne (jg_ne l0 rfl) rfl) rfl) (jg_ne (jg_ne (jg_ne l1 rfl) rfl) rfl) (jg_ne (jg_ne (jg_ne l2 rfl) rfl) rfl) (jg_ne (jg_ne (jg_ne l3 rfl) rfl) rfl) (jg_ne (jg_ne (jg_ne l4 rfl) rfl) rfl) (jg_ne jg_self rfl) jg_self
      · replace h := ite_f h hc
        refine R_iceq_f (p := 96) rfl hc rfl ?_
        refine R_iload (p := 98) rfl jg_self rfl ?_
        refine R_iload (p := 100) rfl (jg_ne l4 rfl) rfl ?_
        by_cases hc : q5 = x4
        · replace h := ite_t h hc
          refine R_iceq_t rfl hc ?_
          refine R_iconst (p := 114) rfl ki_1 rfl ?_
          refine R_goto rfl ?_
          refine R_istore (p := 120) rfl rfl rfl ?_
          refine R_iinc (p := 123) rfl (jg_ne (jg_ne l6 rfl) rfl) rfl ki_1 rfl ?_
          refine R_goto rfl ?_
          obtain rfl := Option.some.inj h
          exact hq _ (jg_ne (jg_ne (jg_ne l0 rfl) rfl) rfl) (jg_ne (jg_ne (jg_ne l1 rfl) rfl) rfl) (jg_ne (jg_ne (jg_ne l2 rfl) rfl) rfl) (jg_ne (jg_ne (jg_ne l3 rfl) rfl) rfl) (jg_ne (jg_ne (jg_ne l4 rfl) rfl) rfl) (jg_ne jg_self rfl) jg_self
        · replace h := ite_f h hc
          refine R_iceq_f (p := 103) rfl hc rfl ?_
          refine R_aload_n (p := 104) rfl (jg_ne l0 rfl) rfl ?_
          refine R_iload_n (p := 105) rfl (jg_ne l2 rfl) rfl ?_
          refine R_iload (p := 107) rfl jg_self rfl ?_
          obtain ⟨q6, eq6, h⟩ := bind_some h
          refine R_cV3v (p := 110) hK rfl rfl (tfX9_isWall hK (Nat.le_trans (by decide) hd)  eq6) rfl rfl ?_
          by_cases hc : q6 = 0
          · replace h := ite_t h hc
            refine R_ifne_f (p := 113) rfl (fun z => z hc) rfl ?_
            refine R_iconst (p := 114) rfl ki_1 rfl ?_
            refine R_goto rfl ?_
            refine R_istore (p := 120) rfl rfl rfl ?_
            refine R_iinc (p := 123) rfl (jg_ne (jg_ne l6 rfl) rfl) rfl ki_1 rfl ?_
            refine R_goto rfl ?_
            obtain rfl := Option.some.inj h
            exact hq _ (jg_ne (jg_ne (jg_ne l0 rfl) rfl) rfl) (jg_ne (jg_ne (jg_ne l1 rfl) rfl) rfl) (jg_ne (jg_ne (jg_ne l2 rfl) rfl) rfl) (jg_ne (jg_ne (jg_ne l3 rfl) rfl) rfl) (jg_ne (jg_ne (jg_ne l4 rfl) rfl) rfl) (jg_ne jg_self rfl) jg_self
          · replace h := ite_f h hc
            refine R_ifne_t rfl hc ?_
            refine R_iconst (p := 118) rfl ki_0 rfl ?_
            refine R_istore (p := 120) rfl rfl rfl ?_
            refine R_iinc (p := 123) rfl (jg_ne (jg_ne l6 rfl) rfl) rfl ki_1 rfl ?_
            refine R_goto rfl ?_
            obtain rfl := Option.some.inj h
            exact hq _ (jg_ne (jg_ne (jg_ne l0 rfl) rfl) rfl) (jg_ne (jg_ne (jg_ne l1 rfl) rfl) rfl) (jg_ne (jg_ne (jg_ne l2 rfl) rfl) rfl) (jg_ne (jg_ne (jg_ne l3 rfl) rfl) rfl) (jg_ne (jg_ne (jg_ne l4 rfl) rfl) rfl) (jg_ne jg_self rfl) jg_self
theorem LX9_canBurst_63 {xs : List Int32} {d : Nat} {r : jR} {K : Mem → List jE} (hK : Ctx shR K) (hd : 4 ≤ d)  {x1 : Int32} {x2 : Int32} {x3 : Int32} {x4 : Int32} {m : Mem} (n : Nat) (s : Int32 × Int32) {t : Int32} (h : lp (lX9_canBurst_63 x1 x2 x3 x4 m) n s = some t) (hq : (qI r (K m)) t) : gX9_canBurst_63 xs d r K x1 x2 x3 x4 m s := lp_ind (G := gX9_canBurst_63 xs d r K x1 x2 x3 x4 m) (Qe := (qI r (K m))) (fun s t h hq => BX9_canBurst_63 hK hd s h hq) n s t h hq
theorem tbX9_canBurst_36 {xs : List Int32} {d : Nat} {r : jR} {K : Mem → List jE} (hK : Ctx shR K) (hd : 4 ≤ d)  {x1 : Int32} {x2 : Int32} {x3 : Int32} {x4 : Int32} {m : Mem} {L : List (Nat × Value)} (l0 : jget L 0 = some (.ref 137)) (l1 : jget L 1 = some (.int x1)) (l2 : jget L 2 = some (.int x2)) (l3 : jget L 3 = some (.int x3)) (l4 : jget L 4 = some (.int x4)) {t : Int32} (h : bX9_canBurst_36 x1 x2 x3 x4 m = some t) (hq : (qI r (K m)) t) : RunD (jcs xs) d 8 (some .boolean) jt_X9_canBurst (36, L, [], (K m)) r := by
  unfold bX9_canBurst_36 at h
  refine R_iload (p := 38) rfl l4 rfl ?_
  refine R_bipush (p := 40) rfl kb_16 rfl ?_
  by_cases hc : x4 = (16 : Int32)
  · replace h := ite_t h hc
    refine R_iceq_t rfl hc ?_
    refine R_iconst (p := 54) rfl ki_1 rfl ?_
    refine R_goto rfl ?_
    refine R_istore (p := 60) rfl rfl rfl ?_
    refine R_iconst (p := 61) rfl ki_0 rfl ?_
    refine R_istore (p := 63) rfl rfl rfl ?_
    exact LX9_canBurst_63 hK hd _ _ h hq _ (jg_ne (jg_ne l0 rfl) rfl) (jg_ne (jg_ne l1 rfl) rfl) (jg_ne (jg_ne l2 rfl) rfl) (jg_ne (jg_ne l3 rfl) rfl) (jg_ne (jg_ne l4 rfl) rfl) (jg_ne jg_self rfl) jg_self
  · replace h := ite_f h hc
    refine R_iceq_f (p := 43) rfl hc rfl ?_
    refine R_aload_n (p := 44) rfl l0 rfl ?_
    refine R_iload (p := 46) rfl l4 rfl ?_
    obtain ⟨q7, eq7, h⟩ := bind_some h
    refine R_cV2v (p := 49) hK rfl rfl (tfX9_sidesOf hK (Nat.le_trans (by decide) hd)  eq7) rfl rfl ?_
    refine R_iconst (p := 50) rfl ki_3 rfl ?_
    by_cases hc : q7 ≤ (3 : Int32)
    · replace h := ite_t h hc
      refine R_icle_t rfl hc ?_
      refine R_iconst (p := 58) rfl ki_0 rfl ?_
      refine R_istore (p := 60) rfl rfl rfl ?_
      refine R_iconst (p := 61) rfl ki_0 rfl ?_
      refine R_istore (p := 63) rfl rfl rfl ?_
      exact LX9_canBurst_63 hK hd _ _ h hq _ (jg_ne (jg_ne l0 rfl) rfl) (jg_ne (jg_ne l1 rfl) rfl) (jg_ne (jg_ne l2 rfl) rfl) (jg_ne (jg_ne l3 rfl) rfl) (jg_ne (jg_ne l4 rfl) rfl) (jg_ne jg_self rfl) jg_self
    · replace h := ite_f h hc
      refine R_icle_f (p := 53) rfl hc rfl ?_
      refine R_iconst (p := 54) rfl ki_1 rfl ?_
      refine R_goto rfl ?_
      refine R_istore (p := 60) rfl rfl rfl ?_
      refine R_iconst (p := 61) rfl ki_0 rfl ?_
      refine R_istore (p := 63) rfl rfl rfl ?_
      exact LX9_canBurst_63 hK hd _ _ h hq _ (jg_ne (jg_ne l0 rfl) rfl) (jg_ne (jg_ne l1 rfl) rfl) (jg_ne (jg_ne l2 rfl) rfl) (jg_ne (jg_ne l3 rfl) rfl) (jg_ne (jg_ne l4 rfl) rfl) (jg_ne jg_self rfl) jg_self
theorem ufX9_canBurst {xs : List Int32} {d : Nat} {r : jR} {K : Mem → List jE} (hK : Ctx shR K) (hd : 4 ≤ d) {x1 : Int32} {x2 : Int32} {m : Mem} {L : List (Nat × Value)} (l0 : jget L 0 = some (.ref 137)) (l1 : jget L 1 = some (.int x1)) (l2 : jget L 2 = some (.int x2)) {t : Int32} (h : fX9_canBurst x1 x2 m = some t) (hq : (qI r (K m)) t) : RunD (jcs xs) d 8 (some .boolean) jt_X9_canBurst (0, L, [], (K m)) r := by
  unfold fX9_canBurst at h
  refine R_aload_n (p := 1) rfl l0 rfl ?_
  refine R_iload_n (p := 2) rfl l1 rfl ?_
  refine R_iload_n (p := 3) rfl l2 rfl ?_
  obtain ⟨q1, eq1, h⟩ := bind_some h
  refine R_cV3v (p := 6) hK rfl rfl (tfX9_ahead hK (Nat.le_trans (by decide) hd)  eq1) rfl rfl ?_
  refine R_istore_n (p := 7) rfl rfl rfl ?_
  refine R_aload_n (p := 8) rfl (jg_ne l0 rfl) rfl ?_
  refine R_iload_n (p := 9) rfl (jg_ne l1 rfl) rfl ?_
  refine R_iload_n (p := 10) rfl (jg_ne l2 rfl) rfl ?_
  obtain ⟨q2, eq2, h⟩ := bind_some h
  refine R_cV3v (p := 13) hK rfl rfl (tfX9_behind hK (Nat.le_trans (by decide) hd)  eq2) rfl rfl ?_
  refine R_istore (p := 15) rfl rfl rfl ?_
  refine R_iload_n (p := 16) rfl (jg_ne jg_self rfl) rfl ?_
  refine R_iload (p := 18) rfl jg_self rfl ?_
  by_cases hc : q1 = q2
  · replace h := ite_t h hc
    refine R_iceq_t rfl hc ?_
    refine R_iconst (p := 58) rfl ki_0 rfl ?_
    refine R_istore (p := 60) rfl rfl rfl ?_
    refine R_iconst (p := 61) rfl ki_0 rfl ?_
    refine R_istore (p := 63) rfl rfl rfl ?_
    exact LX9_canBurst_63 hK hd _ _ h hq _ (jg_ne (jg_ne (jg_ne (jg_ne l0 rfl) rfl) rfl) rfl) (jg_ne (jg_ne (jg_ne (jg_ne l1 rfl) rfl) rfl) rfl) (jg_ne (jg_ne (jg_ne (jg_ne l2 rfl) rfl) rfl) rfl) (jg_ne (jg_ne (jg_ne jg_self rfl) rfl) rfl) (jg_ne (jg_ne jg_self rfl) rfl) (jg_ne jg_self rfl) jg_self
  · replace h := ite_f h hc
    refine R_iceq_f (p := 21) rfl hc rfl ?_
    refine R_iload_n (p := 22) rfl (jg_ne jg_self rfl) rfl ?_
    refine R_bipush (p := 24) rfl kb_16 rfl ?_
    by_cases hc : q1 = (16 : Int32)
    · replace h := ite_t h hc
      refine R_iceq_t rfl hc ?_
      exact tbX9_canBurst_36 hK hd (jg_ne (jg_ne l0 rfl) rfl) (jg_ne (jg_ne l1 rfl) rfl) (jg_ne (jg_ne l2 rfl) rfl) (jg_ne jg_self rfl) jg_self h hq
    · replace h := ite_f h hc
      refine R_iceq_f (p := 27) rfl hc rfl ?_
      refine R_aload_n (p := 28) rfl (jg_ne (jg_ne l0 rfl) rfl) rfl ?_
      refine R_iload_n (p := 29) rfl (jg_ne jg_self rfl) rfl ?_
      obtain ⟨q8, eq8, h⟩ := bind_some h
      refine R_cV2v (p := 32) hK rfl rfl (tfX9_sidesOf hK (Nat.le_trans (by decide) hd)  eq8) rfl rfl ?_
      refine R_iconst (p := 33) rfl ki_3 rfl ?_
      by_cases hc : q8 ≤ (3 : Int32)
      · replace h := ite_t h hc
        refine R_icle_t rfl hc ?_
        refine R_iconst (p := 58) rfl ki_0 rfl ?_
        refine R_istore (p := 60) rfl rfl rfl ?_
        refine R_iconst (p := 61) rfl ki_0 rfl ?_
        refine R_istore (p := 63) rfl rfl rfl ?_
        exact LX9_canBurst_63 hK hd _ _ h hq _ (jg_ne (jg_ne (jg_ne (jg_ne l0 rfl) rfl) rfl) rfl) (jg_ne (jg_ne (jg_ne (jg_ne l1 rfl) rfl) rfl) rfl) (jg_ne (jg_ne (jg_ne (jg_ne l2 rfl) rfl) rfl) rfl) (jg_ne (jg_ne (jg_ne jg_self rfl) rfl) rfl) (jg_ne (jg_ne jg_self rfl) rfl) (jg_ne jg_self rfl) jg_self
      · replace h := ite_f h hc
        refine R_icle_f (p := 36) rfl hc rfl ?_
        exact tbX9_canBurst_36 hK hd (jg_ne (jg_ne l0 rfl) rfl) (jg_ne (jg_ne l1 rfl) rfl) (jg_ne (jg_ne l2 rfl) rfl) (jg_ne jg_self rfl) jg_self h hq
theorem tfX9_canBurst {xs : List Int32} {d : Nat} {K : Mem → List jE} (hK : Ctx shR K) (hd : 5 ≤ d) {x1 : Int32} {x2 : Int32} {m : Mem} {t : Int32} (h : fX9_canBurst x1 x2 m = some t) : CallD (jcs xs) d 184 [.ref 137, .int x1, .int x2] (K m) (some (.int t), (K m)) := by
  obtain ⟨d, rfl⟩ : ∃ z, d = z + 1 := ⟨d - 1, by omega⟩
  refine CallD_of jmt_X9_canBurst rfl ⟨rfl, Nat.le_of_ble_eq_true rfl⟩ ?_
  exact ufX9_canBurst hK (Nat.le_of_succ_le_succ hd) rfl rfl rfl h rfl
noncomputable def lX9_canVanish_4 (x1 : Int32) (m : Mem) (s : Int32 × Int32) : Option ((Int32 × Int32) ⊕ Int32) := (fX9_sidesOf x1 m).bind fun q1 => (if q1 ≤ s.2 then (if s.1 = 0 ∨ s.1 = 1 then some (.inr s.1) else none) else (fX9_of x1 ((6 : Int32) + s.2) m).bind fun q3 => (if s.1 = 0 then some (.inl ((0 : Int32), (s.2 + (1 : Int32)))) else (if q3 = (16 : Int32) then some (.inl ((1 : Int32), (s.2 + (1 : Int32)))) else (fX9_sidesOf q3 m).bind fun q4 => (if q4 ≤ (3 : Int32) then some (.inl ((0 : Int32), (s.2 + (1 : Int32)))) else some (.inl ((1 : Int32), (s.2 + (1 : Int32))))))))
noncomputable def gX9_canVanish_4 (xs : List Int32) (d : Nat) (r : jR) (K : Mem → List jE) (x1 : Int32) (m : Mem) (s : Int32 × Int32) : Prop := ∀ L, jget L 0 = some (.ref 137) → jget L 1 = some (.int x1) → jget L 2 = some (.int s.1) → jget L 3 = some (.int s.2) → RunD (jcs xs) d 5 (some .boolean) jt_X9_canVanish (4, L, [], (K m)) r
noncomputable def fX9_canVanish (x1 : Int32) (m : Mem) : Option Int32 := lp (lX9_canVanish_4 x1 m) fu ((1 : Int32), (0 : Int32))
theorem BX9_canVanish_4 {xs : List Int32} {d : Nat} {r : jR} {K : Mem → List jE} (hK : Ctx shR K) (hd : 2 ≤ d)  {x1 : Int32} {m : Mem} (s : Int32 × Int32) {t : (Int32 × Int32) ⊕ Int32} (h : lX9_canVanish_4 x1 m s = some t) (hq : sQ (gX9_canVanish_4 xs d r K x1 m) (qI r (K m)) t) : gX9_canVanish_4 xs d r K x1 m s := by
  intro L l0 l1 l2 l3
  unfold lX9_canVanish_4 at h
  refine R_iload_n (p := 5) rfl l3 rfl ?_
  refine R_aload_n (p := 6) rfl l0 rfl ?_
  refine R_iload_n (p := 7) rfl l1 rfl ?_
  obtain ⟨q1, eq1, h⟩ := bind_some h
  refine R_cV2v (p := 10) hK rfl rfl (tfX9_sidesOf hK (Nat.le_trans (by decide) hd)  eq1) rfl rfl ?_
  by_cases hc : q1 ≤ s.2
  · replace h := ite_t h hc
    refine R_icge_t rfl hc ?_
    refine R_iload_n (p := 58) rfl l2 rfl ?_
    obtain ⟨b2, h⟩ := gd h
    obtain rfl := Option.some.inj h
    exact R_zreturn rfl rfl b2 hq
  · replace h := ite_f h hc
    refine R_icge_f (p := 13) rfl hc rfl ?_
    refine R_aload_n (p := 14) rfl l0 rfl ?_
    refine R_iload_n (p := 15) rfl l1 rfl ?_
    refine R_bipush (p := 17) rfl kb_6 rfl ?_
    refine R_iload_n (p := 18) rfl l3 rfl ?_
    refine R_iadd (p := 19) rfl rfl ?_
    obtain ⟨q3, eq3, h⟩ := bind_some h
    refine R_cV3v (p := 22) hK rfl rfl (tfX9_of hK (Nat.le_trans (by decide) hd)  eq3) rfl rfl ?_
    refine R_istore (p := 24) rfl rfl rfl ?_
    refine R_iload_n (p := 25) rfl (jg_ne l2 rfl) rfl ?_
    by_cases hc : s.1 = 0
    · replace h := ite_t h hc
      refine R_ifeq_t rfl hc ?_
      refine R_iconst (p := 50) rfl ki_0 rfl ?_
      refine R_istore_n (p := 51) rfl rfl rfl ?_
      refine R_iinc (p := 54) rfl (jg_ne (jg_ne l3 rfl) rfl) rfl ki_1 rfl ?_
      refine R_goto rfl ?_
      obtain rfl := Option.some.inj h
      exact hq _ (jg_ne (jg_ne (jg_ne l0 rfl) rfl) rfl) (jg_ne (jg_ne (jg_ne l1 rfl) rfl) rfl) (jg_ne jg_self rfl) jg_self
    · replace h := ite_f h hc
      refine R_ifeq_f (p := 28) rfl hc rfl ?_
      refine R_iload (p := 30) rfl jg_self rfl ?_
      refine R_bipush (p := 32) rfl kb_16 rfl ?_
      by_cases hc : q3 = (16 : Int32)
      · replace h := ite_t h hc
        refine R_iceq_t rfl hc ?_
        refine R_iconst (p := 46) rfl ki_1 rfl ?_
        refine R_goto rfl ?_
        refine R_istore_n (p := 51) rfl rfl rfl ?_
        refine R_iinc (p := 54) rfl (jg_ne (jg_ne l3 rfl) rfl) rfl ki_1 rfl ?_
        refine R_goto rfl ?_
        obtain rfl := Option.some.inj h
        exact hq _ (jg_ne (jg_ne (jg_ne l0 rfl) rfl) rfl) (jg_ne (jg_ne (jg_ne l1 rfl) rfl) rfl) (jg_ne jg_self rfl) jg_self
      · replace h := ite_f h hc
        refine R_iceq_f (p := 35) rfl hc rfl ?_
        refine R_aload_n (p := 36) rfl (jg_ne l0 rfl) rfl ?_
        refine R_iload (p := 38) rfl jg_self rfl ?_
        obtain ⟨q4, eq4, h⟩ := bind_some h
        refine R_cV2v (p := 41) hK rfl rfl (tfX9_sidesOf hK (Nat.le_trans (by decide) hd)  eq4) rfl rfl ?_
        refine R_iconst (p := 42) rfl ki_3 rfl ?_
        by_cases hc : q4 ≤ (3 : Int32)
        · replace h := ite_t h hc
          refine R_icle_t rfl hc ?_
          refine R_iconst (p := 50) rfl ki_0 rfl ?_
          refine R_istore_n (p := 51) rfl rfl rfl ?_
          refine R_iinc (p := 54) rfl (jg_ne (jg_ne l3 rfl) rfl) rfl ki_1 rfl ?_
          refine R_goto rfl ?_
          obtain rfl := Option.some.inj h
          exact hq _ (jg_ne (jg_ne (jg_ne l0 rfl) rfl) rfl) (jg_ne (jg_ne (jg_ne l1 rfl) rfl) rfl) (jg_ne jg_self rfl) jg_self
        · replace h := ite_f h hc
          refine R_icle_f (p := 45) rfl hc rfl ?_
          refine R_iconst (p := 46) rfl ki_1 rfl ?_
          refine R_goto rfl ?_
          refine R_istore_n (p := 51) rfl rfl rfl ?_
          refine R_iinc (p := 54) rfl (jg_ne (jg_ne l3 rfl) rfl) rfl ki_1 rfl ?_
          refine R_goto rfl ?_
          obtain rfl := Option.some.inj h
          exact hq _ (jg_ne (jg_ne (jg_ne l0 rfl) rfl) rfl) (jg_ne (jg_ne (jg_ne l1 rfl) rfl) rfl) (jg_ne jg_self rfl) jg_self
theorem LX9_canVanish_4 {xs : List Int32} {d : Nat} {r : jR} {K : Mem → List jE} (hK : Ctx shR K) (hd : 2 ≤ d)  {x1 : Int32} {m : Mem} (n : Nat) (s : Int32 × Int32) {t : Int32} (h : lp (lX9_canVanish_4 x1 m) n s = some t) (hq : (qI r (K m)) t) : gX9_canVanish_4 xs d r K x1 m s := lp_ind (G := gX9_canVanish_4 xs d r K x1 m) (Qe := (qI r (K m))) (fun s t h hq => BX9_canVanish_4 hK hd s h hq) n s t h hq
theorem ufX9_canVanish {xs : List Int32} {d : Nat} {r : jR} {K : Mem → List jE} (hK : Ctx shR K) (hd : 2 ≤ d) {x1 : Int32} {m : Mem} {L : List (Nat × Value)} (l0 : jget L 0 = some (.ref 137)) (l1 : jget L 1 = some (.int x1)) {t : Int32} (h : fX9_canVanish x1 m = some t) (hq : (qI r (K m)) t) : RunD (jcs xs) d 5 (some .boolean) jt_X9_canVanish (0, L, [], (K m)) r := by
  unfold fX9_canVanish at h
  refine R_iconst (p := 1) rfl ki_1 rfl ?_
  refine R_istore_n (p := 2) rfl rfl rfl ?_
  refine R_iconst (p := 3) rfl ki_0 rfl ?_
  refine R_istore_n (p := 4) rfl rfl rfl ?_
  exact LX9_canVanish_4 hK hd _ _ h hq _ (jg_ne (jg_ne l0 rfl) rfl) (jg_ne (jg_ne l1 rfl) rfl) (jg_ne jg_self rfl) jg_self
theorem tfX9_canVanish {xs : List Int32} {d : Nat} {K : Mem → List jE} (hK : Ctx shR K) (hd : 3 ≤ d) {x1 : Int32} {m : Mem} {t : Int32} (h : fX9_canVanish x1 m = some t) : CallD (jcs xs) d 182 [.ref 137, .int x1] (K m) (some (.int t), (K m)) := by
  obtain ⟨d, rfl⟩ : ∃ z, d = z + 1 := ⟨d - 1, by omega⟩
  refine CallD_of jmt_X9_canVanish rfl ⟨rfl, Nat.le_of_ble_eq_true rfl⟩ ?_
  exact ufX9_canVanish hK (Nat.le_of_succ_le_succ hd) rfl rfl h rfl
noncomputable def bX9_can_31 (m : Mem) : Option (Int32 × Mem) := (fX9_finding (-1000001 : Int32) m).bind fun q2 => some (q2.1, q2.2)
noncomputable def bX9_can_103 (y0 : Int32) (m : Mem) : Option (Int32 × Mem) := (if y0 = 0 then some ((0 : Int32), m) else some ((1 : Int32), m))
noncomputable def bX9_can_71 (x1 : Int32) (x2 : Int32) (x3 : Int32) (m : Mem) : Option (Int32 × Mem) := (if x1 = 0 then (fX9_canTurn x2 x3 m).bind fun q5 => bX9_can_103 q5 m else (if x1 = (1 : Int32) then (fX9_canBurst x2 x3 m).bind fun q6 => bX9_can_103 q6 m else (fX9_canVanish x2 m).bind fun q7 => bX9_can_103 q7 m))
noncomputable def bX9_can_64 (m : Mem) : Option (Int32 × Mem) := (fX9_finding (-1000003 : Int32) m).bind fun q8 => some (q8.1, q8.2)
noncomputable def bX9_can_38 (x1 : Int32) (x2 : Int32) (x3 : Int32) (m : Mem) : Option (Int32 × Mem) := (if x1 = (2 : Int32) then (fX9_sidesOf x2 m).bind fun q4 => (if q4 = (3 : Int32) then bX9_can_71 x1 x2 x3 m else bX9_can_64 m) else (fX9_isWall x2 x3 m).bind fun q9 => (if q9 = 0 then bX9_can_64 m else bX9_can_71 x1 x2 x3 m))
noncomputable def fX9_can (x1 : Int32) (x2 : Int32) (x3 : Int32) (m : Mem) : Option (Int32 × Mem) := (if (fX9_within x1 (0 : Int32) (2 : Int32)) = 0 then bX9_can_31 m else (fX9_is x2 m).bind fun q3 => (if q3 = 0 then bX9_can_31 m else (if (2 : Int32) ≤ x1 then bX9_can_38 x1 x2 x3 m else (fX9_areTwo x2 x3 m).bind fun q10 => (if q10 = 0 then bX9_can_31 m else bX9_can_38 x1 x2 x3 m))))
theorem tbX9_can_31 {xs : List Int32} {d : Nat} {r : jR} {K : Mem → List jE} (hK : Ctx shR K) (hd : 5 ≤ d)  {m : Mem} {L : List (Nat × Value)} (l0 : jget L 0 = some (.ref 137)) {t : (Int32 × Mem)} (h : bX9_can_31 m = some t) (hq : (qIM r K) t) : RunD (jcs xs) d 5 (some .int) jt_X9_can (31, L, [], (K m)) r := by
  unfold bX9_can_31 at h
  refine R_aload_n (p := 32) rfl l0 rfl ?_
  refine R_ldc (p := 34) rfl kl_m1000001 rfl ?_
  obtain ⟨q2, eq2, h⟩ := bind_some h
  refine R_cV2v (p := 37) hK rfl rfl (tfX9_finding hK (Nat.le_trans (by decide) hd)  eq2) rfl rfl ?_
  obtain rfl := Option.some.inj h
  exact R_ireturn rfl rfl hq
theorem tbX9_can_103 {xs : List Int32} {d : Nat} {r : jR} {K : Mem → List jE} (hK : Ctx shR K) (hd : 5 ≤ d)  {y0 : Int32} {m : Mem} {L : List (Nat × Value)}  {t : (Int32 × Mem)} (h : bX9_can_103 y0 m = some t) (hq : (qIM r K) t) : RunD (jcs xs) d 5 (some .int) jt_X9_can (103, L, [.int y0], (K m)) r := by
  unfold bX9_can_103 at h
  refine R_istore (p := 105) rfl rfl rfl ?_
  refine R_iload (p := 107) rfl jg_self rfl ?_
  by_cases hc : y0 = 0
  · replace h := ite_t h hc
    refine R_ifeq_t rfl hc ?_
    refine R_iconst (p := 115) rfl ki_0 rfl ?_
    obtain rfl := Option.some.inj h
    exact R_ireturn rfl rfl hq
  · replace h := ite_f h hc
    refine R_ifeq_f (p := 110) rfl hc rfl ?_
    refine R_iconst (p := 111) rfl ki_1 rfl ?_
    refine R_goto rfl ?_
    obtain rfl := Option.some.inj h
    exact R_ireturn rfl rfl hq
theorem tbX9_can_71 {xs : List Int32} {d : Nat} {r : jR} {K : Mem → List jE} (hK : Ctx shR K) (hd : 5 ≤ d)  {x1 : Int32} {x2 : Int32} {x3 : Int32} {m : Mem} {L : List (Nat × Value)} (l0 : jget L 0 = some (.ref 137)) (l1 : jget L 1 = some (.int x1)) (l2 : jget L 2 = some (.int x2)) (l3 : jget L 3 = some (.int x3)) {t : (Int32 × Mem)} (h : bX9_can_71 x1 x2 x3 m = some t) (hq : (qIM r K) t) : RunD (jcs xs) d 5 (some .int) jt_X9_can (71, L, [], (K m)) r := by
  unfold bX9_can_71 at h
  refine R_iload_n (p := 72) rfl l1 rfl ?_
  by_cases hc : x1 = 0
  · replace h := ite_t h hc
    refine R_ifne_f (p := 75) rfl (fun z => z hc) rfl ?_
    refine R_aload_n (p := 76) rfl l0 rfl ?_
    refine R_iload_n (p := 77) rfl l2 rfl ?_
    refine R_iload_n (p := 78) rfl l3 rfl ?_
    obtain ⟨q5, eq5, h⟩ := bind_some h
    refine R_cV3v (p := 81) hK rfl rfl (tfX9_canTurn hK (Nat.le_trans (by decide) hd)  eq5) rfl rfl ?_
    refine R_goto rfl ?_
    exact tbX9_can_103 hK hd  h hq
  · replace h := ite_f h hc
    refine R_ifne_t rfl hc ?_
    refine R_iload_n (p := 85) rfl l1 rfl ?_
    refine R_iconst (p := 86) rfl ki_1 rfl ?_
    by_cases hc : x1 = (1 : Int32)
    · replace h := ite_t h hc
      refine R_icne_f (p := 89) rfl (fun z => z hc) rfl ?_
      refine R_aload_n (p := 90) rfl l0 rfl ?_
      refine R_iload_n (p := 91) rfl l2 rfl ?_
      refine R_iload_n (p := 92) rfl l3 rfl ?_
      obtain ⟨q6, eq6, h⟩ := bind_some h
      refine R_cV3v (p := 95) hK rfl rfl (tfX9_canBurst hK (Nat.le_trans (by decide) hd)  eq6) rfl rfl ?_
      refine R_goto rfl ?_
      exact tbX9_can_103 hK hd  h hq
    · replace h := ite_f h hc
      refine R_icne_t rfl hc ?_
      refine R_aload_n (p := 99) rfl l0 rfl ?_
      refine R_iload_n (p := 100) rfl l2 rfl ?_
      obtain ⟨q7, eq7, h⟩ := bind_some h
      refine R_cV2v (p := 103) hK rfl rfl (tfX9_canVanish hK (Nat.le_trans (by decide) hd)  eq7) rfl rfl ?_
      exact tbX9_can_103 hK hd  h hq
theorem tbX9_can_64 {xs : List Int32} {d : Nat} {r : jR} {K : Mem → List jE} (hK : Ctx shR K) (hd : 5 ≤ d)  {m : Mem} {L : List (Nat × Value)} (l0 : jget L 0 = some (.ref 137)) {t : (Int32 × Mem)} (h : bX9_can_64 m = some t) (hq : (qIM r K) t) : RunD (jcs xs) d 5 (some .int) jt_X9_can (64, L, [], (K m)) r := by
  unfold bX9_can_64 at h
  refine R_aload_n (p := 65) rfl l0 rfl ?_
  refine R_ldc (p := 67) rfl kl_m1000003 rfl ?_
  obtain ⟨q8, eq8, h⟩ := bind_some h
  refine R_cV2v (p := 70) hK rfl rfl (tfX9_finding hK (Nat.le_trans (by decide) hd)  eq8) rfl rfl ?_
  obtain rfl := Option.some.inj h
  exact R_ireturn rfl rfl hq
theorem tbX9_can_38 {xs : List Int32} {d : Nat} {r : jR} {K : Mem → List jE} (hK : Ctx shR K) (hd : 5 ≤ d)  {x1 : Int32} {x2 : Int32} {x3 : Int32} {m : Mem} {L : List (Nat × Value)} (l0 : jget L 0 = some (.ref 137)) (l1 : jget L 1 = some (.int x1)) (l2 : jget L 2 = some (.int x2)) (l3 : jget L 3 = some (.int x3)) {t : (Int32 × Mem)} (h : bX9_can_38 x1 x2 x3 m = some t) (hq : (qIM r K) t) : RunD (jcs xs) d 5 (some .int) jt_X9_can (38, L, [], (K m)) r := by
  unfold bX9_can_38 at h
  refine R_iload_n (p := 39) rfl l1 rfl ?_
  refine R_iconst (p := 40) rfl ki_2 rfl ?_
  by_cases hc : x1 = (2 : Int32)
  · replace h := ite_t h hc
    refine R_icne_f (p := 43) rfl (fun z => z hc) rfl ?_
    refine R_aload_n (p := 44) rfl l0 rfl ?_
    refine R_iload_n (p := 45) rfl l2 rfl ?_
    obtain ⟨q4, eq4, h⟩ := bind_some h
    refine R_cV2v (p := 48) hK rfl rfl (tfX9_sidesOf hK (Nat.le_trans (by decide) hd)  eq4) rfl rfl ?_
    refine R_iconst (p := 49) rfl ki_3 rfl ?_
    by_cases hc : q4 = (3 : Int32)
    · replace h := ite_t h hc
      refine R_iceq_t rfl hc ?_
      exact tbX9_can_71 hK hd l0 l1 l2 l3 h hq
    · replace h := ite_f h hc
      refine R_iceq_f (p := 52) rfl hc rfl ?_
      refine R_goto rfl ?_
      exact tbX9_can_64 hK hd l0 h hq
  · replace h := ite_f h hc
    refine R_icne_t rfl hc ?_
    refine R_aload_n (p := 56) rfl l0 rfl ?_
    refine R_iload_n (p := 57) rfl l2 rfl ?_
    refine R_iload_n (p := 58) rfl l3 rfl ?_
    obtain ⟨q9, eq9, h⟩ := bind_some h
    refine R_cV3v (p := 61) hK rfl rfl (tfX9_isWall hK (Nat.le_trans (by decide) hd)  eq9) rfl rfl ?_
    by_cases hc : q9 = 0
    · replace h := ite_t h hc
      refine R_ifne_f (p := 64) rfl (fun z => z hc) rfl ?_
      exact tbX9_can_64 hK hd l0 h hq
    · replace h := ite_f h hc
      refine R_ifne_t rfl hc ?_
      exact tbX9_can_71 hK hd l0 l1 l2 l3 h hq
theorem ufX9_can {xs : List Int32} {d : Nat} {r : jR} {K : Mem → List jE} (hK : Ctx shR K) (hd : 5 ≤ d) {x1 : Int32} {x2 : Int32} {x3 : Int32} {m : Mem} {L : List (Nat × Value)} (l0 : jget L 0 = some (.ref 137)) (l1 : jget L 1 = some (.int x1)) (l2 : jget L 2 = some (.int x2)) (l3 : jget L 3 = some (.int x3)) {t : (Int32 × Mem)} (h : fX9_can x1 x2 x3 m = some t) (hq : (qIM r K) t) : RunD (jcs xs) d 5 (some .int) jt_X9_can (0, L, [], (K m)) r := by
  unfold fX9_can at h
  refine R_iload_n (p := 1) rfl l1 rfl ?_
  refine R_iconst (p := 2) rfl ki_0 rfl ?_
  refine R_iconst (p := 3) rfl ki_2 rfl ?_
  refine R_cS3v (p := 6) rfl (tfX9_within (Nat.le_trans (by decide) hd) ) rfl rfl ?_
  by_cases hc : (fX9_within x1 (0 : Int32) (2 : Int32)) = 0
  · replace h := ite_t h hc
    refine R_ifeq_t rfl hc ?_
    exact tbX9_can_31 hK hd l0 h hq
  · replace h := ite_f h hc
    refine R_ifeq_f (p := 9) rfl hc rfl ?_
    refine R_aload_n (p := 10) rfl l0 rfl ?_
    refine R_iload_n (p := 11) rfl l2 rfl ?_
    obtain ⟨q3, eq3, h⟩ := bind_some h
    refine R_cV2v (p := 14) hK rfl rfl (tfX9_is hK (Nat.le_trans (by decide) hd)  eq3) rfl rfl ?_
    by_cases hc : q3 = 0
    · replace h := ite_t h hc
      refine R_ifeq_t rfl hc ?_
      exact tbX9_can_31 hK hd l0 h hq
    · replace h := ite_f h hc
      refine R_ifeq_f (p := 17) rfl hc rfl ?_
      refine R_iload_n (p := 18) rfl l1 rfl ?_
      refine R_iconst (p := 19) rfl ki_2 rfl ?_
      by_cases hc : (2 : Int32) ≤ x1
      · replace h := ite_t h hc
        refine R_icge_t rfl hc ?_
        exact tbX9_can_38 hK hd l0 l1 l2 l3 h hq
      · replace h := ite_f h hc
        refine R_icge_f (p := 22) rfl hc rfl ?_
        refine R_aload_n (p := 23) rfl l0 rfl ?_
        refine R_iload_n (p := 24) rfl l2 rfl ?_
        refine R_iload_n (p := 25) rfl l3 rfl ?_
        obtain ⟨q10, eq10, h⟩ := bind_some h
        refine R_cV3v (p := 28) hK rfl rfl (tfX9_areTwo hK (Nat.le_trans (by decide) hd)  eq10) rfl rfl ?_
        by_cases hc : q10 = 0
        · replace h := ite_t h hc
          refine R_ifne_f (p := 31) rfl (fun z => z hc) rfl ?_
          exact tbX9_can_31 hK hd l0 h hq
        · replace h := ite_f h hc
          refine R_ifne_t rfl hc ?_
          exact tbX9_can_38 hK hd l0 l1 l2 l3 h hq
theorem tfX9_can {xs : List Int32} {d : Nat} {K : Mem → List jE} (hK : Ctx shR K) (hd : 6 ≤ d) {x1 : Int32} {x2 : Int32} {x3 : Int32} {m : Mem} {t : (Int32 × Mem)} (h : fX9_can x1 x2 x3 m = some t) : CallD (jcs xs) d 186 [.ref 137, .int x1, .int x2, .int x3] (K m) (some (.int t.1), K t.2) := by
  obtain ⟨d, rfl⟩ : ∃ z, d = z + 1 := ⟨d - 1, by omega⟩
  refine CallD_of jmt_X9_can rfl ⟨rfl, Nat.le_of_ble_eq_true rfl⟩ ?_
  exact ufX9_can hK (Nat.le_of_succ_le_succ hd) rfl rfl rfl rfl h rfl
noncomputable def bX0_takeOut_66 (k : Nat) (x1 : Int32) (x4 : Int32) (m : Mem) : Option Mem := (if inb x1 16 then some (mput m (cw k 7) x1.toNatClampNeg x4) else none)
noncomputable def lX0_takeOut_24 (k : Nat) (x1 : Int32) (x4 : Int32) (s : Int32 × Mem) : Option ((Int32 × Mem) ⊕ Mem) := (if x4 ≤ s.1 then (bX0_takeOut_66 k x1 x4 s.2).map Sum.inr else (if (30 : Int32) ≤ (s.1 + (1 : Int32)) then (bX0_takeOut_66 k x1 x4 s.2).map Sum.inr else (if inb x1 16 then (if inb x1 16 then (if inb (s.1 + (1 : Int32)) 30 then (if inb s.1 30 then some (.inl ((s.1 + (1 : Int32)), (mput s.2 (cw k (9 + x1.toNatClampNeg)) s.1.toNatClampNeg (s.2 (cw k (9 + x1.toNatClampNeg)) (s.1 + (1 : Int32)).toNatClampNeg)))) else none) else none) else none) else none)))
noncomputable def gX0_takeOut_24 (xs : List Int32) (d : Nat) (r : jR) (K : Mem → List jE) (k : Nat) (x1 : Int32) (x4 : Int32) (s : Int32 × Mem) : Prop := ∀ L, jget L 0 = some (.ref (cw k 2)) → jget L 1 = some (.int x1) → jget L 4 = some (.int x4) → jget L 5 = some (.int s.1) → RunD (jcs xs) d 6 (none) jt_X0_takeOut (24, L, [], (K s.2)) r
noncomputable def fX0_takeOut (k : Nat) (x1 : Int32) (x2 : Int32) (m : Mem) : Option Mem := (fX0_placeOf k x1 x2 m).bind fun q1 => (if 0 ≤ q1 then (fX0_sidesOf k x1 m).bind fun q2 => lp (lX0_takeOut_24 k x1 (q2 - (1 : Int32))) fu (q1, m) else some m)
theorem tbX0_takeOut_66 {xs : List Int32} {d : Nat} {r : jR} {K : Mem → List jE} (hK : Ctx shC K) (hd : 1 ≤ d) {k : Nat} (hk : k < 3)  {x1 : Int32} {x4 : Int32} {m : Mem} {L : List (Nat × Value)} (l0 : jget L 0 = some (.ref (cw k 2))) (l1 : jget L 1 = some (.int x1)) (l4 : jget L 4 = some (.int x4)) {t : Mem} (h : bX0_takeOut_66 k x1 x4 m = some t) (hq : (qM r K) t) : RunD (jcs xs) d 6 (none) jt_X0_takeOut (66, L, [], (K m)) r := by
  unfold bX0_takeOut_66 at h
  refine R_aload_n (p := 67) rfl l0 rfl ?_
  refine R_getR (p := 70) (q := (cw k 7)) hK rfl (s_w2 hk) rfl rfl ?_
  refine R_iload_n (p := 71) rfl l1 rfl ?_
  refine R_iload (p := 73) rfl l4 rfl ?_
  obtain ⟨b3, h⟩ := gd h
  refine R_iast (p := 74) hK rfl (s_w7 hk) b3 rfl ?_
  obtain rfl := Option.some.inj h
  exact R_return rfl rfl hq
theorem BX0_takeOut_24 {xs : List Int32} {d : Nat} {r : jR} {K : Mem → List jE} (hK : Ctx shC K) (hd : 1 ≤ d) {k : Nat} (hk : k < 3)  {x1 : Int32} {x4 : Int32} (s : Int32 × Mem) {t : (Int32 × Mem) ⊕ Mem} (h : lX0_takeOut_24 k x1 x4 s = some t) (hq : sQ (gX0_takeOut_24 xs d r K k x1 x4) (qM r K) t) : gX0_takeOut_24 xs d r K k x1 x4 s := by
  intro L l0 l1 l4 l5
  unfold lX0_takeOut_24 at h
  refine R_iload (p := 26) rfl l5 rfl ?_
  refine R_iload (p := 28) rfl l4 rfl ?_
  by_cases hc : x4 ≤ s.1
  · replace h := ite_t h hc
    refine R_icge_t rfl hc ?_
    obtain ⟨w9, h9, rfl⟩ := map_inr h
    replace h := h9
    exact tbX0_takeOut_66 hK hd hk l0 l1 l4 h hq
  · replace h := ite_f h hc
    refine R_icge_f (p := 31) rfl hc rfl ?_
    refine R_iload (p := 33) rfl l5 rfl ?_
    refine R_iconst (p := 34) rfl ki_1 rfl ?_
    refine R_iadd (p := 35) rfl rfl ?_
    refine R_bipush (p := 37) rfl kb_30 rfl ?_
    by_cases hc : (30 : Int32) ≤ (s.1 + (1 : Int32))
    · replace h := ite_t h hc
      refine R_icge_t rfl hc ?_
      obtain ⟨w9, h9, rfl⟩ := map_inr h
      replace h := h9
      exact tbX0_takeOut_66 hK hd hk l0 l1 l4 h hq
    · replace h := ite_f h hc
      refine R_icge_f (p := 40) rfl hc rfl ?_
      refine R_aload_n (p := 41) rfl l0 rfl ?_
      refine R_getR (p := 44) (q := (cw k 8)) hK rfl (s_w2 hk) rfl rfl ?_
      refine R_iload_n (p := 45) rfl l1 rfl ?_
      obtain ⟨b4, h⟩ := gd h
      refine R_aald (p := 46) (q := (cw k (9 + x1.toNatClampNeg))) hK rfl (s_w8 hk) (by decide) b4.1 (l_ring b4.2) rfl ?_
      refine R_iload (p := 48) rfl l5 rfl ?_
      refine R_aload_n (p := 49) rfl l0 rfl ?_
      refine R_getR (p := 52) (q := (cw k 8)) hK rfl (s_w2 hk) rfl rfl ?_
      refine R_iload_n (p := 53) rfl l1 rfl ?_
      obtain ⟨b5, h⟩ := gd h
      refine R_aald (p := 54) (q := (cw k (9 + x1.toNatClampNeg))) hK rfl (s_w8 hk) (by decide) b5.1 (l_ring b5.2) rfl ?_
      refine R_iload (p := 56) rfl l5 rfl ?_
      refine R_iconst (p := 57) rfl ki_1 rfl ?_
      refine R_iadd (p := 58) rfl rfl ?_
      obtain ⟨b6, h⟩ := gd h
      refine R_iald (p := 59) hK rfl (s_ring hk b5.2) b6 rfl ?_
      obtain ⟨b7, h⟩ := gd h
      refine R_iast (p := 60) hK rfl (s_ring hk b4.2) b7 rfl ?_
      refine R_iinc (p := 63) rfl l5 rfl ki_1 rfl ?_
      refine R_goto rfl ?_
      obtain rfl := Option.some.inj h
      exact hq _ (jg_ne l0 rfl) (jg_ne l1 rfl) (jg_ne l4 rfl) jg_self
theorem LX0_takeOut_24 {xs : List Int32} {d : Nat} {r : jR} {K : Mem → List jE} (hK : Ctx shC K) (hd : 1 ≤ d) {k : Nat} (hk : k < 3)  {x1 : Int32} {x4 : Int32} (n : Nat) (s : Int32 × Mem) {t : Mem} (h : lp (lX0_takeOut_24 k x1 x4) n s = some t) (hq : (qM r K) t) : gX0_takeOut_24 xs d r K k x1 x4 s := lp_ind (G := gX0_takeOut_24 xs d r K k x1 x4) (Qe := (qM r K)) (fun s t h hq => BX0_takeOut_24 hK hd hk s h hq) n s t h hq
theorem ufX0_takeOut {xs : List Int32} {d : Nat} {r : jR} {K : Mem → List jE} (hK : Ctx shC K) (hd : 1 ≤ d) {k : Nat} (hk : k < 3) {x1 : Int32} {x2 : Int32} {m : Mem} {L : List (Nat × Value)} (l0 : jget L 0 = some (.ref (cw k 2))) (l1 : jget L 1 = some (.int x1)) (l2 : jget L 2 = some (.int x2)) {t : Mem} (h : fX0_takeOut k x1 x2 m = some t) (hq : (qM r K) t) : RunD (jcs xs) d 6 (none) jt_X0_takeOut (0, L, [], (K m)) r := by
  unfold fX0_takeOut at h
  refine R_aload_n (p := 1) rfl l0 rfl ?_
  refine R_iload_n (p := 2) rfl l1 rfl ?_
  refine R_iload_n (p := 3) rfl l2 rfl ?_
  obtain ⟨q1, eq1, h⟩ := bind_some h
  refine R_cV3v (p := 6) hK rfl (s_w2 hk) (tfX0_placeOf hK (Nat.le_trans (by decide) hd) hk eq1) rfl rfl ?_
  refine R_istore_n (p := 7) rfl rfl rfl ?_
  refine R_iload_n (p := 8) rfl jg_self rfl ?_
  by_cases hc : 0 ≤ q1
  · replace h := ite_t h hc
    refine R_ifge_t rfl hc ?_
    refine R_aload_n (p := 13) rfl (jg_ne l0 rfl) rfl ?_
    refine R_iload_n (p := 14) rfl (jg_ne l1 rfl) rfl ?_
    obtain ⟨q2, eq2, h⟩ := bind_some h
    refine R_cV2v (p := 17) hK rfl (s_w2 hk) (tfX0_sidesOf hK (Nat.le_trans (by decide) hd) hk eq2) rfl rfl ?_
    refine R_iconst (p := 18) rfl ki_1 rfl ?_
    refine R_isub (p := 19) rfl rfl ?_
    refine R_istore (p := 21) rfl rfl rfl ?_
    refine R_iload_n (p := 22) rfl (jg_ne jg_self rfl) rfl ?_
    refine R_istore (p := 24) rfl rfl rfl ?_
    exact LX0_takeOut_24 hK hd hk _ _ h hq _ (jg_ne (jg_ne (jg_ne l0 rfl) rfl) rfl) (jg_ne (jg_ne (jg_ne l1 rfl) rfl) rfl) (jg_ne jg_self rfl) jg_self
  · replace h := ite_f h hc
    refine R_ifge_f (p := 11) rfl hc rfl ?_
    obtain rfl := Option.some.inj h
    exact R_return rfl rfl hq
theorem tfX0_takeOut {xs : List Int32} {d : Nat} {K : Mem → List jE} (hK : Ctx shC K) (hd : 2 ≤ d) {k : Nat} (hk : k < 3) {x1 : Int32} {x2 : Int32} {m : Mem} {t : Mem} (h : fX0_takeOut k x1 x2 m = some t) : CallD (jcs xs) d 29 [.ref (cw k 2), .int x1, .int x2] (K m) (none, K t) := by
  obtain ⟨d, rfl⟩ : ∃ z, d = z + 1 := ⟨d - 1, by omega⟩
  refine CallD_of jmt_X0_takeOut rfl ⟨rfl, Nat.le_of_ble_eq_true rfl⟩ ?_
  exact ufX0_takeOut hK (Nat.le_of_succ_le_succ hd) hk rfl rfl rfl h rfl
noncomputable def lX0_putBehind_32 (k : Nat) (x1 : Int32) (x3 : Int32) (x4 : Int32) (x5 : Int32) (s : Int32 × Mem) : Option ((Int32 × Mem) ⊕ Mem) := (if s.1 ≤ (x4 + (1 : Int32)) then (if inb x1 16 then (if inb (x4 + (1 : Int32)) 30 then (if inb x1 16 then some (.inr (mput (mput s.2 (cw k (9 + x1.toNatClampNeg)) (x4 + (1 : Int32)).toNatClampNeg x3) (cw k 7) x1.toNatClampNeg (x5 + (1 : Int32)))) else none) else none) else none) else (if inb x1 16 then (if inb x1 16 then (if inb (s.1 - (1 : Int32)) 30 then (if inb s.1 30 then some (.inl ((s.1 + (-1 : Int32)), (mput s.2 (cw k (9 + x1.toNatClampNeg)) s.1.toNatClampNeg (s.2 (cw k (9 + x1.toNatClampNeg)) (s.1 - (1 : Int32)).toNatClampNeg)))) else none) else none) else none) else none))
noncomputable def gX0_putBehind_32 (xs : List Int32) (d : Nat) (r : jR) (K : Mem → List jE) (k : Nat) (x1 : Int32) (x3 : Int32) (x4 : Int32) (x5 : Int32) (s : Int32 × Mem) : Prop := ∀ L, jget L 0 = some (.ref (cw k 2)) → jget L 1 = some (.int x1) → jget L 3 = some (.int x3) → jget L 4 = some (.int x4) → jget L 5 = some (.int x5) → jget L 6 = some (.int s.1) → RunD (jcs xs) d 7 (none) jt_X0_putBehind (32, L, [], (K s.2)) r
noncomputable def fX0_putBehind (k : Nat) (x1 : Int32) (x2 : Int32) (x3 : Int32) (m : Mem) : Option Mem := (fX0_placeOf k x1 x2 m).bind fun q1 => (fX0_sidesOf k x1 m).bind fun q2 => (if q1 < 0 then some m else (if q2 < (30 : Int32) then lp (lX0_putBehind_32 k x1 x3 q1 q2) fu (q2, m) else some m))
theorem BX0_putBehind_32 {xs : List Int32} {d : Nat} {r : jR} {K : Mem → List jE} (hK : Ctx shC K) (hd : 1 ≤ d) {k : Nat} (hk : k < 3)  {x1 : Int32} {x3 : Int32} {x4 : Int32} {x5 : Int32} (s : Int32 × Mem) {t : (Int32 × Mem) ⊕ Mem} (h : lX0_putBehind_32 k x1 x3 x4 x5 s = some t) (hq : sQ (gX0_putBehind_32 xs d r K k x1 x3 x4 x5) (qM r K) t) : gX0_putBehind_32 xs d r K k x1 x3 x4 x5 s := by
  intro L l0 l1 l3 l4 l5 l6
  unfold lX0_putBehind_32 at h
  refine R_iload (p := 34) rfl l6 rfl ?_
  refine R_iload (p := 36) rfl l4 rfl ?_
  refine R_iconst (p := 37) rfl ki_1 rfl ?_
  refine R_iadd (p := 38) rfl rfl ?_
  by_cases hc : s.1 ≤ (x4 + (1 : Int32))
  · replace h := ite_t h hc
    refine R_icle_t rfl hc ?_
    refine R_aload_n (p := 68) rfl l0 rfl ?_
    refine R_getR (p := 71) (q := (cw k 8)) hK rfl (s_w2 hk) rfl rfl ?_
    refine R_iload_n (p := 72) rfl l1 rfl ?_
    obtain ⟨b3, h⟩ := gd h
    refine R_aald (p := 73) (q := (cw k (9 + x1.toNatClampNeg))) hK rfl (s_w8 hk) (by decide) b3.1 (l_ring b3.2) rfl ?_
    refine R_iload (p := 75) rfl l4 rfl ?_
    refine R_iconst (p := 76) rfl ki_1 rfl ?_
    refine R_iadd (p := 77) rfl rfl ?_
    refine R_iload_n (p := 78) rfl l3 rfl ?_
    obtain ⟨b4, h⟩ := gd h
    refine R_iast (p := 79) hK rfl (s_ring hk b3.2) b4 rfl ?_
    refine R_aload_n (p := 80) rfl l0 rfl ?_
    refine R_getR (p := 83) (q := (cw k 7)) hK rfl (s_w2 hk) rfl rfl ?_
    refine R_iload_n (p := 84) rfl l1 rfl ?_
    refine R_iload (p := 86) rfl l5 rfl ?_
    refine R_iconst (p := 87) rfl ki_1 rfl ?_
    refine R_iadd (p := 88) rfl rfl ?_
    obtain ⟨b5, h⟩ := gd h
    refine R_iast (p := 89) hK rfl (s_w7 hk) b5 rfl ?_
    obtain rfl := Option.some.inj h
    exact R_return rfl rfl hq
  · replace h := ite_f h hc
    refine R_icle_f (p := 41) rfl hc rfl ?_
    refine R_aload_n (p := 42) rfl l0 rfl ?_
    refine R_getR (p := 45) (q := (cw k 8)) hK rfl (s_w2 hk) rfl rfl ?_
    refine R_iload_n (p := 46) rfl l1 rfl ?_
    obtain ⟨b6, h⟩ := gd h
    refine R_aald (p := 47) (q := (cw k (9 + x1.toNatClampNeg))) hK rfl (s_w8 hk) (by decide) b6.1 (l_ring b6.2) rfl ?_
    refine R_iload (p := 49) rfl l6 rfl ?_
    refine R_aload_n (p := 50) rfl l0 rfl ?_
    refine R_getR (p := 53) (q := (cw k 8)) hK rfl (s_w2 hk) rfl rfl ?_
    refine R_iload_n (p := 54) rfl l1 rfl ?_
    obtain ⟨b7, h⟩ := gd h
    refine R_aald (p := 55) (q := (cw k (9 + x1.toNatClampNeg))) hK rfl (s_w8 hk) (by decide) b7.1 (l_ring b7.2) rfl ?_
    refine R_iload (p := 57) rfl l6 rfl ?_
    refine R_iconst (p := 58) rfl ki_1 rfl ?_
    refine R_isub (p := 59) rfl rfl ?_
    obtain ⟨b8, h⟩ := gd h
    refine R_iald (p := 60) hK rfl (s_ring hk b7.2) b8 rfl ?_
    obtain ⟨b9, h⟩ := gd h
    refine R_iast (p := 61) hK rfl (s_ring hk b6.2) b9 rfl ?_
    refine R_iinc (p := 64) rfl l6 rfl ki_m1 rfl ?_
    refine R_goto rfl ?_
    obtain rfl := Option.some.inj h
    exact hq _ (jg_ne l0 rfl) (jg_ne l1 rfl) (jg_ne l3 rfl) (jg_ne l4 rfl) (jg_ne l5 rfl) jg_self
theorem LX0_putBehind_32 {xs : List Int32} {d : Nat} {r : jR} {K : Mem → List jE} (hK : Ctx shC K) (hd : 1 ≤ d) {k : Nat} (hk : k < 3)  {x1 : Int32} {x3 : Int32} {x4 : Int32} {x5 : Int32} (n : Nat) (s : Int32 × Mem) {t : Mem} (h : lp (lX0_putBehind_32 k x1 x3 x4 x5) n s = some t) (hq : (qM r K) t) : gX0_putBehind_32 xs d r K k x1 x3 x4 x5 s := lp_ind (G := gX0_putBehind_32 xs d r K k x1 x3 x4 x5) (Qe := (qM r K)) (fun s t h hq => BX0_putBehind_32 hK hd hk s h hq) n s t h hq
theorem ufX0_putBehind {xs : List Int32} {d : Nat} {r : jR} {K : Mem → List jE} (hK : Ctx shC K) (hd : 1 ≤ d) {k : Nat} (hk : k < 3) {x1 : Int32} {x2 : Int32} {x3 : Int32} {m : Mem} {L : List (Nat × Value)} (l0 : jget L 0 = some (.ref (cw k 2))) (l1 : jget L 1 = some (.int x1)) (l2 : jget L 2 = some (.int x2)) (l3 : jget L 3 = some (.int x3)) {t : Mem} (h : fX0_putBehind k x1 x2 x3 m = some t) (hq : (qM r K) t) : RunD (jcs xs) d 7 (none) jt_X0_putBehind (0, L, [], (K m)) r := by
  unfold fX0_putBehind at h
  refine R_aload_n (p := 1) rfl l0 rfl ?_
  refine R_iload_n (p := 2) rfl l1 rfl ?_
  refine R_iload_n (p := 3) rfl l2 rfl ?_
  obtain ⟨q1, eq1, h⟩ := bind_some h
  refine R_cV3v (p := 6) hK rfl (s_w2 hk) (tfX0_placeOf hK (Nat.le_trans (by decide) hd) hk eq1) rfl rfl ?_
  refine R_istore (p := 8) rfl rfl rfl ?_
  refine R_aload_n (p := 9) rfl (jg_ne l0 rfl) rfl ?_
  refine R_iload_n (p := 10) rfl (jg_ne l1 rfl) rfl ?_
  obtain ⟨q2, eq2, h⟩ := bind_some h
  refine R_cV2v (p := 13) hK rfl (s_w2 hk) (tfX0_sidesOf hK (Nat.le_trans (by decide) hd) hk eq2) rfl rfl ?_
  refine R_istore (p := 15) rfl rfl rfl ?_
  refine R_iload (p := 17) rfl (jg_ne jg_self rfl) rfl ?_
  by_cases hc : q1 < 0
  · replace h := ite_t h hc
    refine R_iflt_t rfl hc ?_
    obtain rfl := Option.some.inj h
    exact R_return rfl rfl hq
  · replace h := ite_f h hc
    refine R_iflt_f (p := 20) rfl hc rfl ?_
    refine R_iload (p := 22) rfl jg_self rfl ?_
    refine R_bipush (p := 24) rfl kb_30 rfl ?_
    by_cases hc : q2 < (30 : Int32)
    · replace h := ite_t h hc
      refine R_iclt_t rfl hc ?_
      refine R_iload (p := 30) rfl jg_self rfl ?_
      refine R_istore (p := 32) rfl rfl rfl ?_
      exact LX0_putBehind_32 hK hd hk _ _ h hq _ (jg_ne (jg_ne (jg_ne l0 rfl) rfl) rfl) (jg_ne (jg_ne (jg_ne l1 rfl) rfl) rfl) (jg_ne (jg_ne (jg_ne l3 rfl) rfl) rfl) (jg_ne (jg_ne jg_self rfl) rfl) (jg_ne jg_self rfl) jg_self
    · replace h := ite_f h hc
      refine R_iclt_f (p := 27) rfl hc rfl ?_
      obtain rfl := Option.some.inj h
      exact R_return rfl rfl hq
theorem tfX0_putBehind {xs : List Int32} {d : Nat} {K : Mem → List jE} (hK : Ctx shC K) (hd : 2 ≤ d) {k : Nat} (hk : k < 3) {x1 : Int32} {x2 : Int32} {x3 : Int32} {m : Mem} {t : Mem} (h : fX0_putBehind k x1 x2 x3 m = some t) : CallD (jcs xs) d 30 [.ref (cw k 2), .int x1, .int x2, .int x3] (K m) (none, K t) := by
  obtain ⟨d, rfl⟩ : ∃ z, d = z + 1 := ⟨d - 1, by omega⟩
  refine CallD_of jmt_X0_putBehind rfl ⟨rfl, Nat.le_of_ble_eq_true rfl⟩ ?_
  exact ufX0_putBehind hK (Nat.le_of_succ_le_succ hd) hk rfl rfl rfl rfl h rfl
noncomputable def fX0_turnOver (k : Nat) (x1 : Int32) (x2 : Int32) (m : Mem) : Option Mem := (fX0_aheadOf k x1 x2 m).bind fun q1 => (fX0_behind k x1 x2 m).bind fun q2 => (fX0_takeOut k x1 x2 m).bind fun q3 => (fX0_takeOut k x2 x1 q3).bind fun q4 => (fX0_putBehind k q1 x2 q2 q4).bind fun q5 => (fX0_putBehind k q2 x1 q1 q5).bind fun q6 => some (mput q6 (cw k 2) 6 ((q6 (cw k 2) 6) + (1 : Int32)))
theorem ufX0_turnOver {xs : List Int32} {d : Nat} {r : jR} {K : Mem → List jE} (hK : Ctx shC K) (hd : 3 ≤ d) {k : Nat} (hk : k < 3) {x1 : Int32} {x2 : Int32} {m : Mem} {L : List (Nat × Value)} (l0 : jget L 0 = some (.ref (cw k 2))) (l1 : jget L 1 = some (.int x1)) (l2 : jget L 2 = some (.int x2)) {t : Mem} (h : fX0_turnOver k x1 x2 m = some t) (hq : (qM r K) t) : RunD (jcs xs) d 5 (none) jt_X0_turnOver (0, L, [], (K m)) r := by
  unfold fX0_turnOver at h
  refine R_aload_n (p := 1) rfl l0 rfl ?_
  refine R_iload_n (p := 2) rfl l1 rfl ?_
  refine R_iload_n (p := 3) rfl l2 rfl ?_
  obtain ⟨q1, eq1, h⟩ := bind_some h
  refine R_cV3v (p := 6) hK rfl (s_w2 hk) (tfX0_aheadOf hK (Nat.le_trans (by decide) hd) hk eq1) rfl rfl ?_
  refine R_istore_n (p := 7) rfl rfl rfl ?_
  refine R_aload_n (p := 8) rfl (jg_ne l0 rfl) rfl ?_
  refine R_iload_n (p := 9) rfl (jg_ne l1 rfl) rfl ?_
  refine R_iload_n (p := 10) rfl (jg_ne l2 rfl) rfl ?_
  obtain ⟨q2, eq2, h⟩ := bind_some h
  refine R_cV3v (p := 13) hK rfl (s_w2 hk) (tfX0_behind hK (Nat.le_trans (by decide) hd) hk eq2) rfl rfl ?_
  refine R_istore (p := 15) rfl rfl rfl ?_
  refine R_aload_n (p := 16) rfl (jg_ne (jg_ne l0 rfl) rfl) rfl ?_
  refine R_iload_n (p := 17) rfl (jg_ne (jg_ne l1 rfl) rfl) rfl ?_
  refine R_iload_n (p := 18) rfl (jg_ne (jg_ne l2 rfl) rfl) rfl ?_
  obtain ⟨q3, eq3, h⟩ := bind_some h
  refine R_cV3n (p := 21) hK rfl (s_w2 hk) (tfX0_takeOut hK (Nat.le_trans (by decide) hd) hk eq3) rfl rfl ?_
  refine R_aload_n (p := 22) rfl (jg_ne (jg_ne l0 rfl) rfl) rfl ?_
  refine R_iload_n (p := 23) rfl (jg_ne (jg_ne l2 rfl) rfl) rfl ?_
  refine R_iload_n (p := 24) rfl (jg_ne (jg_ne l1 rfl) rfl) rfl ?_
  obtain ⟨q4, eq4, h⟩ := bind_some h
  refine R_cV3n (p := 27) hK rfl (s_w2 hk) (tfX0_takeOut hK (Nat.le_trans (by decide) hd) hk eq4) rfl rfl ?_
  refine R_aload_n (p := 28) rfl (jg_ne (jg_ne l0 rfl) rfl) rfl ?_
  refine R_iload_n (p := 29) rfl (jg_ne jg_self rfl) rfl ?_
  refine R_iload_n (p := 30) rfl (jg_ne (jg_ne l2 rfl) rfl) rfl ?_
  refine R_iload (p := 32) rfl jg_self rfl ?_
  obtain ⟨q5, eq5, h⟩ := bind_some h
  refine R_cV4n (p := 35) hK rfl (s_w2 hk) (tfX0_putBehind hK (Nat.le_trans (by decide) hd) hk eq5) rfl rfl ?_
  refine R_aload_n (p := 36) rfl (jg_ne (jg_ne l0 rfl) rfl) rfl ?_
  refine R_iload (p := 38) rfl jg_self rfl ?_
  refine R_iload_n (p := 39) rfl (jg_ne (jg_ne l1 rfl) rfl) rfl ?_
  refine R_iload_n (p := 40) rfl (jg_ne jg_self rfl) rfl ?_
  obtain ⟨q6, eq6, h⟩ := bind_some h
  refine R_cV4n (p := 43) hK rfl (s_w2 hk) (tfX0_putBehind hK (Nat.le_trans (by decide) hd) hk eq6) rfl rfl ?_
  refine R_aload_n (p := 44) rfl (jg_ne (jg_ne l0 rfl) rfl) rfl ?_
  refine R_dupa (p := 45) rfl rfl ?_
  refine R_getI (p := 48) hK rfl (s_w2 hk) rfl rfl ?_
  refine R_iconst (p := 49) rfl ki_1 rfl ?_
  refine R_iadd (p := 50) rfl rfl ?_
  refine R_putI (p := 53) hK rfl (s_w2 hk) rfl rfl rfl ?_
  obtain rfl := Option.some.inj h
  exact R_return rfl rfl hq
theorem tfX0_turnOver {xs : List Int32} {d : Nat} {K : Mem → List jE} (hK : Ctx shC K) (hd : 4 ≤ d) {k : Nat} (hk : k < 3) {x1 : Int32} {x2 : Int32} {m : Mem} {t : Mem} (h : fX0_turnOver k x1 x2 m = some t) : CallD (jcs xs) d 23 [.ref (cw k 2), .int x1, .int x2] (K m) (none, K t) := by
  obtain ⟨d, rfl⟩ : ∃ z, d = z + 1 := ⟨d - 1, by omega⟩
  refine CallD_of jmt_X0_turnOver rfl ⟨rfl, Nat.le_of_ble_eq_true rfl⟩ ?_
  exact ufX0_turnOver hK (Nat.le_of_succ_le_succ hd) hk rfl rfl rfl h rfl
noncomputable def fX8_turn (x1 : Int32) (x2 : Int32) (m : Mem) : Option (Int32 × Mem) := (if (fX8_areBubbles x1 x2 m) = 0 then (fX8_no (1 : Int32) m).bind fun q2 => some (q2.1, q2.2) else (fX0_canTurn 0 x1 x2 m).bind fun q3 => (if q3 = 0 then (fX8_no (3 : Int32) m).bind fun q4 => some (q4.1, q4.2) else (fX0_turnOver 0 x1 x2 m).bind fun q5 => (if inb x1 16 then some ((q5 (cw 0 7) x1.toNatClampNeg), q5) else none)))
theorem ufX8_turn {xs : List Int32} {d : Nat} {r : jR} {K : Mem → List jE} (hK : Ctx shC K) (hd : 4 ≤ d) {x1 : Int32} {x2 : Int32} {m : Mem} {L : List (Nat × Value)} (l0 : jget L 0 = some (.ref 0)) (l1 : jget L 1 = some (.int x1)) (l2 : jget L 2 = some (.int x2)) {t : (Int32 × Mem)} (h : fX8_turn x1 x2 m = some t) (hq : (qIM r K) t) : RunD (jcs xs) d 3 (some .int) jt_X8_turn (0, L, [], (K m)) r := by
  unfold fX8_turn at h
  refine R_aload_n (p := 1) rfl l0 rfl ?_
  refine R_iload_n (p := 2) rfl l1 rfl ?_
  refine R_iload_n (p := 3) rfl l2 rfl ?_
  refine R_cV3v (p := 6) hK rfl rfl (tfX8_areBubbles hK (Nat.le_trans (by decide) hd) ) rfl rfl ?_
  by_cases hc : (fX8_areBubbles x1 x2 m) = 0
  · replace h := ite_t h hc
    refine R_ifne_f (p := 9) rfl (fun z => z hc) rfl ?_
    refine R_aload_n (p := 10) rfl l0 rfl ?_
    refine R_iconst (p := 11) rfl ki_1 rfl ?_
    obtain ⟨q2, eq2, h⟩ := bind_some h
    refine R_cV2v (p := 14) hK rfl rfl (tfX8_no hK (Nat.le_trans (by decide) hd)  eq2) rfl rfl ?_
    obtain rfl := Option.some.inj h
    exact R_ireturn rfl rfl hq
  · replace h := ite_f h hc
    refine R_ifne_t rfl hc ?_
    refine R_aload_n (p := 16) rfl l0 rfl ?_
    refine R_getR (p := 19) (q := (cw 0 1)) hK rfl rfl rfl rfl ?_
    refine R_getR (p := 22) (q := (cw 0 2)) hK rfl (s_w1 (by decide)) rfl rfl ?_
    refine R_iload_n (p := 23) rfl l1 rfl ?_
    refine R_iload_n (p := 24) rfl l2 rfl ?_
    obtain ⟨q3, eq3, h⟩ := bind_some h
    refine R_cV3v (p := 27) hK rfl (s_w2 (by decide)) (tfX0_canTurn hK (Nat.le_trans (by decide) hd) (by decide) eq3) rfl rfl ?_
    by_cases hc : q3 = 0
    · replace h := ite_t h hc
      refine R_ifne_f (p := 30) rfl (fun z => z hc) rfl ?_
      refine R_aload_n (p := 31) rfl l0 rfl ?_
      refine R_iconst (p := 32) rfl ki_3 rfl ?_
      obtain ⟨q4, eq4, h⟩ := bind_some h
      refine R_cV2v (p := 35) hK rfl rfl (tfX8_no hK (Nat.le_trans (by decide) hd)  eq4) rfl rfl ?_
      obtain rfl := Option.some.inj h
      exact R_ireturn rfl rfl hq
    · replace h := ite_f h hc
      refine R_ifne_t rfl hc ?_
      refine R_aload_n (p := 37) rfl l0 rfl ?_
      refine R_getR (p := 40) (q := (cw 0 1)) hK rfl rfl rfl rfl ?_
      refine R_getR (p := 43) (q := (cw 0 2)) hK rfl (s_w1 (by decide)) rfl rfl ?_
      refine R_iload_n (p := 44) rfl l1 rfl ?_
      refine R_iload_n (p := 45) rfl l2 rfl ?_
      obtain ⟨q5, eq5, h⟩ := bind_some h
      refine R_cV3n (p := 48) hK rfl (s_w2 (by decide)) (tfX0_turnOver hK (Nat.le_trans (by decide) hd) (by decide) eq5) rfl rfl ?_
      refine R_aload_n (p := 49) rfl l0 rfl ?_
      refine R_getR (p := 52) (q := (cw 0 1)) hK rfl rfl rfl rfl ?_
      refine R_getR (p := 55) (q := (cw 0 2)) hK rfl (s_w1 (by decide)) rfl rfl ?_
      refine R_getR (p := 58) (q := (cw 0 7)) hK rfl (s_w2 (by decide)) rfl rfl ?_
      refine R_iload_n (p := 59) rfl l1 rfl ?_
      obtain ⟨b6, h⟩ := gd h
      refine R_iald (p := 60) hK rfl (s_w7 (by decide)) b6 rfl ?_
      obtain rfl := Option.some.inj h
      exact R_ireturn rfl rfl hq
theorem tfX8_turn {xs : List Int32} {d : Nat} {K : Mem → List jE} (hK : Ctx shC K) (hd : 5 ≤ d) {x1 : Int32} {x2 : Int32} {m : Mem} {t : (Int32 × Mem)} (h : fX8_turn x1 x2 m = some t) : CallD (jcs xs) d 113 [.ref 0, .int x1, .int x2] (K m) (some (.int t.1), K t.2) := by
  obtain ⟨d, rfl⟩ : ∃ z, d = z + 1 := ⟨d - 1, by omega⟩
  refine CallD_of jmt_X8_turn rfl ⟨rfl, Nat.le_of_ble_eq_true rfl⟩ ?_
  exact ufX8_turn hK (Nat.le_of_succ_le_succ hd) rfl rfl rfl h rfl
noncomputable def lX9_shuts_15 (x1 : Int32) (s : Int32 × Mem) : Option ((Int32 × Mem) ⊕ Mem) := (fX9_sidesOf x1 s.2).bind fun q3 => (if q3 ≤ s.1 then some (.inr s.2) else (fX9_of x1 (((6 : Int32) + s.1) + (1 : Int32)) s.2).bind fun q4 => (fX9_tells x1 ((6 : Int32) + s.1) q4 s.2).bind fun q5 => some (.inl ((s.1 + (1 : Int32)), q5)))
noncomputable def gX9_shuts_15 (xs : List Int32) (d : Nat) (r : jR) (K : Mem → List jE) (x1 : Int32) (s : Int32 × Mem) : Prop := ∀ L, jget L 0 = some (.ref 137) → jget L 1 = some (.int x1) → jget L 3 = some (.int s.1) → RunD (jcs xs) d 4 (none) jt_X9_shuts (15, L, [], (K s.2)) r
noncomputable def fX9_shuts (x1 : Int32) (x2 : Int32) (m : Mem) : Option Mem := (fX9_sidesOf x1 m).bind fun q1 => (fX9_tells x1 (5 : Int32) (q1 - (1 : Int32)) m).bind fun q2 => lp (lX9_shuts_15 x1) fu (x2, q2)
theorem BX9_shuts_15 {xs : List Int32} {d : Nat} {r : jR} {K : Mem → List jE} (hK : Ctx shR K) (hd : 2 ≤ d)  {x1 : Int32} (s : Int32 × Mem) {t : (Int32 × Mem) ⊕ Mem} (h : lX9_shuts_15 x1 s = some t) (hq : sQ (gX9_shuts_15 xs d r K x1) (qM r K) t) : gX9_shuts_15 xs d r K x1 s := by
  intro L l0 l1 l3
  unfold lX9_shuts_15 at h
  refine R_iload_n (p := 16) rfl l3 rfl ?_
  refine R_aload_n (p := 17) rfl l0 rfl ?_
  refine R_iload_n (p := 18) rfl l1 rfl ?_
  obtain ⟨q3, eq3, h⟩ := bind_some h
  refine R_cV2v (p := 21) hK rfl rfl (tfX9_sidesOf hK (Nat.le_trans (by decide) hd)  eq3) rfl rfl ?_
  by_cases hc : q3 ≤ s.1
  · replace h := ite_t h hc
    refine R_icge_t rfl hc ?_
    obtain rfl := Option.some.inj h
    exact R_return rfl rfl hq
  · replace h := ite_f h hc
    refine R_icge_f (p := 24) rfl hc rfl ?_
    refine R_aload_n (p := 25) rfl l0 rfl ?_
    refine R_iload_n (p := 26) rfl l1 rfl ?_
    refine R_bipush (p := 28) rfl kb_6 rfl ?_
    refine R_iload_n (p := 29) rfl l3 rfl ?_
    refine R_iadd (p := 30) rfl rfl ?_
    refine R_aload_n (p := 31) rfl l0 rfl ?_
    refine R_iload_n (p := 32) rfl l1 rfl ?_
    refine R_bipush (p := 34) rfl kb_6 rfl ?_
    refine R_iload_n (p := 35) rfl l3 rfl ?_
    refine R_iadd (p := 36) rfl rfl ?_
    refine R_iconst (p := 37) rfl ki_1 rfl ?_
    refine R_iadd (p := 38) rfl rfl ?_
    obtain ⟨q4, eq4, h⟩ := bind_some h
    refine R_cV3v (p := 41) hK rfl rfl (tfX9_of hK (Nat.le_trans (by decide) hd)  eq4) rfl rfl ?_
    obtain ⟨q5, eq5, h⟩ := bind_some h
    refine R_cV4n (p := 44) hK rfl rfl (tfX9_tells hK (Nat.le_trans (by decide) hd)  eq5) rfl rfl ?_
    refine R_iinc (p := 47) rfl l3 rfl ki_1 rfl ?_
    refine R_goto rfl ?_
    obtain rfl := Option.some.inj h
    exact hq _ (jg_ne l0 rfl) (jg_ne l1 rfl) jg_self
theorem LX9_shuts_15 {xs : List Int32} {d : Nat} {r : jR} {K : Mem → List jE} (hK : Ctx shR K) (hd : 2 ≤ d)  {x1 : Int32} (n : Nat) (s : Int32 × Mem) {t : Mem} (h : lp (lX9_shuts_15 x1) n s = some t) (hq : (qM r K) t) : gX9_shuts_15 xs d r K x1 s := lp_ind (G := gX9_shuts_15 xs d r K x1) (Qe := (qM r K)) (fun s t h hq => BX9_shuts_15 hK hd s h hq) n s t h hq
theorem ufX9_shuts {xs : List Int32} {d : Nat} {r : jR} {K : Mem → List jE} (hK : Ctx shR K) (hd : 2 ≤ d) {x1 : Int32} {x2 : Int32} {m : Mem} {L : List (Nat × Value)} (l0 : jget L 0 = some (.ref 137)) (l1 : jget L 1 = some (.int x1)) (l2 : jget L 2 = some (.int x2)) {t : Mem} (h : fX9_shuts x1 x2 m = some t) (hq : (qM r K) t) : RunD (jcs xs) d 4 (none) jt_X9_shuts (0, L, [], (K m)) r := by
  unfold fX9_shuts at h
  refine R_aload_n (p := 1) rfl l0 rfl ?_
  refine R_iload_n (p := 2) rfl l1 rfl ?_
  refine R_iconst (p := 3) rfl ki_5 rfl ?_
  refine R_aload_n (p := 4) rfl l0 rfl ?_
  refine R_iload_n (p := 5) rfl l1 rfl ?_
  obtain ⟨q1, eq1, h⟩ := bind_some h
  refine R_cV2v (p := 8) hK rfl rfl (tfX9_sidesOf hK (Nat.le_trans (by decide) hd)  eq1) rfl rfl ?_
  refine R_iconst (p := 9) rfl ki_1 rfl ?_
  refine R_isub (p := 10) rfl rfl ?_
  obtain ⟨q2, eq2, h⟩ := bind_some h
  refine R_cV4n (p := 13) hK rfl rfl (tfX9_tells hK (Nat.le_trans (by decide) hd)  eq2) rfl rfl ?_
  refine R_iload_n (p := 14) rfl l2 rfl ?_
  refine R_istore_n (p := 15) rfl rfl rfl ?_
  exact LX9_shuts_15 hK hd _ _ h hq _ (jg_ne l0 rfl) (jg_ne l1 rfl) jg_self
theorem tfX9_shuts {xs : List Int32} {d : Nat} {K : Mem → List jE} (hK : Ctx shR K) (hd : 3 ≤ d) {x1 : Int32} {x2 : Int32} {m : Mem} {t : Mem} (h : fX9_shuts x1 x2 m = some t) : CallD (jcs xs) d 159 [.ref 137, .int x1, .int x2] (K m) (none, K t) := by
  obtain ⟨d, rfl⟩ : ∃ z, d = z + 1 := ⟨d - 1, by omega⟩
  refine CallD_of jmt_X9_shuts rfl ⟨rfl, Nat.le_of_ble_eq_true rfl⟩ ?_
  exact ufX9_shuts hK (Nat.le_of_succ_le_succ hd) rfl rfl rfl h rfl
noncomputable def lX9_opens_7 (x1 : Int32) (x2 : Int32) (x3 : Int32) (s : Int32 × Mem) : Option ((Int32 × Mem) ⊕ Mem) := (if s.1 ≤ x2 then (fX9_tells x1 ((6 : Int32) + x2) x3 s.2).bind fun q2 => (fX9_sidesOf x1 q2).bind fun q3 => (fX9_tells x1 (5 : Int32) (q3 + (1 : Int32)) q2).bind fun q4 => some (.inr q4) else (fX9_of x1 (((6 : Int32) + s.1) - (1 : Int32)) s.2).bind fun q5 => (fX9_tells x1 ((6 : Int32) + s.1) q5 s.2).bind fun q6 => some (.inl ((s.1 + (-1 : Int32)), q6)))
noncomputable def gX9_opens_7 (xs : List Int32) (d : Nat) (r : jR) (K : Mem → List jE) (x1 : Int32) (x2 : Int32) (x3 : Int32) (s : Int32 × Mem) : Prop := ∀ L, jget L 0 = some (.ref 137) → jget L 1 = some (.int x1) → jget L 2 = some (.int x2) → jget L 3 = some (.int x3) → jget L 4 = some (.int s.1) → RunD (jcs xs) d 5 (none) jt_X9_opens (7, L, [], (K s.2)) r
noncomputable def fX9_opens (x1 : Int32) (x2 : Int32) (x3 : Int32) (m : Mem) : Option Mem := (fX9_sidesOf x1 m).bind fun q1 => lp (lX9_opens_7 x1 x2 x3) fu (q1, m)
theorem BX9_opens_7 {xs : List Int32} {d : Nat} {r : jR} {K : Mem → List jE} (hK : Ctx shR K) (hd : 2 ≤ d)  {x1 : Int32} {x2 : Int32} {x3 : Int32} (s : Int32 × Mem) {t : (Int32 × Mem) ⊕ Mem} (h : lX9_opens_7 x1 x2 x3 s = some t) (hq : sQ (gX9_opens_7 xs d r K x1 x2 x3) (qM r K) t) : gX9_opens_7 xs d r K x1 x2 x3 s := by
  intro L l0 l1 l2 l3 l4
  unfold lX9_opens_7 at h
  refine R_iload (p := 9) rfl l4 rfl ?_
  refine R_iload_n (p := 10) rfl l2 rfl ?_
  by_cases hc : s.1 ≤ x2
  · replace h := ite_t h hc
    refine R_icle_t rfl hc ?_
    refine R_aload_n (p := 42) rfl l0 rfl ?_
    refine R_iload_n (p := 43) rfl l1 rfl ?_
    refine R_bipush (p := 45) rfl kb_6 rfl ?_
    refine R_iload_n (p := 46) rfl l2 rfl ?_
    refine R_iadd (p := 47) rfl rfl ?_
    refine R_iload_n (p := 48) rfl l3 rfl ?_
    obtain ⟨q2, eq2, h⟩ := bind_some h
    refine R_cV4n (p := 51) hK rfl rfl (tfX9_tells hK (Nat.le_trans (by decide) hd)  eq2) rfl rfl ?_
    refine R_aload_n (p := 52) rfl l0 rfl ?_
    refine R_iload_n (p := 53) rfl l1 rfl ?_
    refine R_iconst (p := 54) rfl ki_5 rfl ?_
    refine R_aload_n (p := 55) rfl l0 rfl ?_
    refine R_iload_n (p := 56) rfl l1 rfl ?_
    obtain ⟨q3, eq3, h⟩ := bind_some h
    refine R_cV2v (p := 59) hK rfl rfl (tfX9_sidesOf hK (Nat.le_trans (by decide) hd)  eq3) rfl rfl ?_
    refine R_iconst (p := 60) rfl ki_1 rfl ?_
    refine R_iadd (p := 61) rfl rfl ?_
    obtain ⟨q4, eq4, h⟩ := bind_some h
    refine R_cV4n (p := 64) hK rfl rfl (tfX9_tells hK (Nat.le_trans (by decide) hd)  eq4) rfl rfl ?_
    obtain rfl := Option.some.inj h
    exact R_return rfl rfl hq
  · replace h := ite_f h hc
    refine R_icle_f (p := 13) rfl hc rfl ?_
    refine R_aload_n (p := 14) rfl l0 rfl ?_
    refine R_iload_n (p := 15) rfl l1 rfl ?_
    refine R_bipush (p := 17) rfl kb_6 rfl ?_
    refine R_iload (p := 19) rfl l4 rfl ?_
    refine R_iadd (p := 20) rfl rfl ?_
    refine R_aload_n (p := 21) rfl l0 rfl ?_
    refine R_iload_n (p := 22) rfl l1 rfl ?_
    refine R_bipush (p := 24) rfl kb_6 rfl ?_
    refine R_iload (p := 26) rfl l4 rfl ?_
    refine R_iadd (p := 27) rfl rfl ?_
    refine R_iconst (p := 28) rfl ki_1 rfl ?_
    refine R_isub (p := 29) rfl rfl ?_
    obtain ⟨q5, eq5, h⟩ := bind_some h
    refine R_cV3v (p := 32) hK rfl rfl (tfX9_of hK (Nat.le_trans (by decide) hd)  eq5) rfl rfl ?_
    obtain ⟨q6, eq6, h⟩ := bind_some h
    refine R_cV4n (p := 35) hK rfl rfl (tfX9_tells hK (Nat.le_trans (by decide) hd)  eq6) rfl rfl ?_
    refine R_iinc (p := 38) rfl l4 rfl ki_m1 rfl ?_
    refine R_goto rfl ?_
    obtain rfl := Option.some.inj h
    exact hq _ (jg_ne l0 rfl) (jg_ne l1 rfl) (jg_ne l2 rfl) (jg_ne l3 rfl) jg_self
theorem LX9_opens_7 {xs : List Int32} {d : Nat} {r : jR} {K : Mem → List jE} (hK : Ctx shR K) (hd : 2 ≤ d)  {x1 : Int32} {x2 : Int32} {x3 : Int32} (n : Nat) (s : Int32 × Mem) {t : Mem} (h : lp (lX9_opens_7 x1 x2 x3) n s = some t) (hq : (qM r K) t) : gX9_opens_7 xs d r K x1 x2 x3 s := lp_ind (G := gX9_opens_7 xs d r K x1 x2 x3) (Qe := (qM r K)) (fun s t h hq => BX9_opens_7 hK hd s h hq) n s t h hq
theorem ufX9_opens {xs : List Int32} {d : Nat} {r : jR} {K : Mem → List jE} (hK : Ctx shR K) (hd : 2 ≤ d) {x1 : Int32} {x2 : Int32} {x3 : Int32} {m : Mem} {L : List (Nat × Value)} (l0 : jget L 0 = some (.ref 137)) (l1 : jget L 1 = some (.int x1)) (l2 : jget L 2 = some (.int x2)) (l3 : jget L 3 = some (.int x3)) {t : Mem} (h : fX9_opens x1 x2 x3 m = some t) (hq : (qM r K) t) : RunD (jcs xs) d 5 (none) jt_X9_opens (0, L, [], (K m)) r := by
  unfold fX9_opens at h
  refine R_aload_n (p := 1) rfl l0 rfl ?_
  refine R_iload_n (p := 2) rfl l1 rfl ?_
  obtain ⟨q1, eq1, h⟩ := bind_some h
  refine R_cV2v (p := 5) hK rfl rfl (tfX9_sidesOf hK (Nat.le_trans (by decide) hd)  eq1) rfl rfl ?_
  refine R_istore (p := 7) rfl rfl rfl ?_
  exact LX9_opens_7 hK hd _ _ h hq _ (jg_ne l0 rfl) (jg_ne l1 rfl) (jg_ne l2 rfl) (jg_ne l3 rfl) jg_self
theorem tfX9_opens {xs : List Int32} {d : Nat} {K : Mem → List jE} (hK : Ctx shR K) (hd : 3 ≤ d) {x1 : Int32} {x2 : Int32} {x3 : Int32} {m : Mem} {t : Mem} (h : fX9_opens x1 x2 x3 m = some t) : CallD (jcs xs) d 158 [.ref 137, .int x1, .int x2, .int x3] (K m) (none, K t) := by
  obtain ⟨d, rfl⟩ : ∃ z, d = z + 1 := ⟨d - 1, by omega⟩
  refine CallD_of jmt_X9_opens rfl ⟨rfl, Nat.le_of_ble_eq_true rfl⟩ ?_
  exact ufX9_opens hK (Nat.le_of_succ_le_succ hd) rfl rfl rfl rfl h rfl
noncomputable def bX9_turns_81 (m : Mem) : Option Mem := some (mput m 138 8 ((m 138 8) + (1 : Int32)))
noncomputable def bX9_turns_58 (x1 : Int32) (x3 : Int32) (x4 : Int32) (m : Mem) : Option Mem := (if x4 = (16 : Int32) then bX9_turns_81 m else (fX9_placeIn x4 x1 m).bind fun q7 => (fX9_opens x4 (q7 + (1 : Int32)) x3 m).bind fun q8 => bX9_turns_81 q8)
noncomputable def fX9_turns (x1 : Int32) (x2 : Int32) (m : Mem) : Option Mem := (fX9_ahead x1 x2 m).bind fun q1 => (fX9_behind x1 x2 m).bind fun q2 => (fX9_placeIn x1 x2 m).bind fun q3 => (fX9_shuts x1 q3 m).bind fun q4 => (fX9_placeIn x2 x1 q4).bind fun q5 => (fX9_shuts x2 q5 q4).bind fun q6 => (if q1 = (16 : Int32) then bX9_turns_58 x1 q1 q2 q6 else (fX9_placeIn q1 x2 q6).bind fun q9 => (fX9_opens q1 (q9 + (1 : Int32)) q2 q6).bind fun q10 => bX9_turns_58 x1 q1 q2 q10)
theorem tbX9_turns_81 {xs : List Int32} {d : Nat} {r : jR} {K : Mem → List jE} (hK : Ctx shR K) (hd : 4 ≤ d)  {m : Mem} {L : List (Nat × Value)} (l0 : jget L 0 = some (.ref 137)) {t : Mem} (h : bX9_turns_81 m = some t) (hq : (qM r K) t) : RunD (jcs xs) d 5 (none) jt_X9_turns (81, L, [], (K m)) r := by
  unfold bX9_turns_81 at h
  refine R_aload_n (p := 82) rfl l0 rfl ?_
  refine R_getR (p := 85) (q := 138) hK rfl rfl rfl rfl ?_
  refine R_bipush (p := 87) rfl kb_8 rfl ?_
  refine R_dup2ia (p := 88) rfl rfl ?_
  refine R_ialk (p := 89) hK rfl rfl (by decide) kn_8 rfl ?_
  refine R_iconst (p := 90) rfl ki_1 rfl ?_
  refine R_iadd (p := 91) rfl rfl ?_
  refine R_iask (p := 92) hK rfl rfl (by decide) kn_8 rfl ?_
  obtain rfl := Option.some.inj h
  exact R_return rfl rfl hq
theorem tbX9_turns_58 {xs : List Int32} {d : Nat} {r : jR} {K : Mem → List jE} (hK : Ctx shR K) (hd : 4 ≤ d)  {x1 : Int32} {x3 : Int32} {x4 : Int32} {m : Mem} {L : List (Nat × Value)} (l0 : jget L 0 = some (.ref 137)) (l1 : jget L 1 = some (.int x1)) (l3 : jget L 3 = some (.int x3)) (l4 : jget L 4 = some (.int x4)) {t : Mem} (h : bX9_turns_58 x1 x3 x4 m = some t) (hq : (qM r K) t) : RunD (jcs xs) d 5 (none) jt_X9_turns (58, L, [], (K m)) r := by
  unfold bX9_turns_58 at h
  refine R_iload (p := 60) rfl l4 rfl ?_
  refine R_bipush (p := 62) rfl kb_16 rfl ?_
  by_cases hc : x4 = (16 : Int32)
  · replace h := ite_t h hc
    refine R_iceq_t rfl hc ?_
    exact tbX9_turns_81 hK hd l0 h hq
  · replace h := ite_f h hc
    refine R_iceq_f (p := 65) rfl hc rfl ?_
    refine R_aload_n (p := 66) rfl l0 rfl ?_
    refine R_iload (p := 68) rfl l4 rfl ?_
    refine R_aload_n (p := 69) rfl l0 rfl ?_
    refine R_iload (p := 71) rfl l4 rfl ?_
    refine R_iload_n (p := 72) rfl l1 rfl ?_
    obtain ⟨q7, eq7, h⟩ := bind_some h
    refine R_cV3v (p := 75) hK rfl rfl (tfX9_placeIn hK (Nat.le_trans (by decide) hd)  eq7) rfl rfl ?_
    refine R_iconst (p := 76) rfl ki_1 rfl ?_
    refine R_iadd (p := 77) rfl rfl ?_
    refine R_iload_n (p := 78) rfl l3 rfl ?_
    obtain ⟨q8, eq8, h⟩ := bind_some h
    refine R_cV4n (p := 81) hK rfl rfl (tfX9_opens hK (Nat.le_trans (by decide) hd)  eq8) rfl rfl ?_
    exact tbX9_turns_81 hK hd l0 h hq
theorem ufX9_turns {xs : List Int32} {d : Nat} {r : jR} {K : Mem → List jE} (hK : Ctx shR K) (hd : 4 ≤ d) {x1 : Int32} {x2 : Int32} {m : Mem} {L : List (Nat × Value)} (l0 : jget L 0 = some (.ref 137)) (l1 : jget L 1 = some (.int x1)) (l2 : jget L 2 = some (.int x2)) {t : Mem} (h : fX9_turns x1 x2 m = some t) (hq : (qM r K) t) : RunD (jcs xs) d 5 (none) jt_X9_turns (0, L, [], (K m)) r := by
  unfold fX9_turns at h
  refine R_aload_n (p := 1) rfl l0 rfl ?_
  refine R_iload_n (p := 2) rfl l1 rfl ?_
  refine R_iload_n (p := 3) rfl l2 rfl ?_
  obtain ⟨q1, eq1, h⟩ := bind_some h
  refine R_cV3v (p := 6) hK rfl rfl (tfX9_ahead hK (Nat.le_trans (by decide) hd)  eq1) rfl rfl ?_
  refine R_istore_n (p := 7) rfl rfl rfl ?_
  refine R_aload_n (p := 8) rfl (jg_ne l0 rfl) rfl ?_
  refine R_iload_n (p := 9) rfl (jg_ne l1 rfl) rfl ?_
  refine R_iload_n (p := 10) rfl (jg_ne l2 rfl) rfl ?_
  obtain ⟨q2, eq2, h⟩ := bind_some h
  refine R_cV3v (p := 13) hK rfl rfl (tfX9_behind hK (Nat.le_trans (by decide) hd)  eq2) rfl rfl ?_
  refine R_istore (p := 15) rfl rfl rfl ?_
  refine R_aload_n (p := 16) rfl (jg_ne (jg_ne l0 rfl) rfl) rfl ?_
  refine R_iload_n (p := 17) rfl (jg_ne (jg_ne l1 rfl) rfl) rfl ?_
  refine R_aload_n (p := 18) rfl (jg_ne (jg_ne l0 rfl) rfl) rfl ?_
  refine R_iload_n (p := 19) rfl (jg_ne (jg_ne l1 rfl) rfl) rfl ?_
  refine R_iload_n (p := 20) rfl (jg_ne (jg_ne l2 rfl) rfl) rfl ?_
  obtain ⟨q3, eq3, h⟩ := bind_some h
  refine R_cV3v (p := 23) hK rfl rfl (tfX9_placeIn hK (Nat.le_trans (by decide) hd)  eq3) rfl rfl ?_
  obtain ⟨q4, eq4, h⟩ := bind_some h
  refine R_cV3n (p := 26) hK rfl rfl (tfX9_shuts hK (Nat.le_trans (by decide) hd)  eq4) rfl rfl ?_
  refine R_aload_n (p := 27) rfl (jg_ne (jg_ne l0 rfl) rfl) rfl ?_
  refine R_iload_n (p := 28) rfl (jg_ne (jg_ne l2 rfl) rfl) rfl ?_
  refine R_aload_n (p := 29) rfl (jg_ne (jg_ne l0 rfl) rfl) rfl ?_
  refine R_iload_n (p := 30) rfl (jg_ne (jg_ne l2 rfl) rfl) rfl ?_
  refine R_iload_n (p := 31) rfl (jg_ne (jg_ne l1 rfl) rfl) rfl ?_
  obtain ⟨q5, eq5, h⟩ := bind_some h
  refine R_cV3v (p := 34) hK rfl rfl (tfX9_placeIn hK (Nat.le_trans (by decide) hd)  eq5) rfl rfl ?_
  obtain ⟨q6, eq6, h⟩ := bind_some h
  refine R_cV3n (p := 37) hK rfl rfl (tfX9_shuts hK (Nat.le_trans (by decide) hd)  eq6) rfl rfl ?_
  refine R_iload_n (p := 38) rfl (jg_ne jg_self rfl) rfl ?_
  refine R_bipush (p := 40) rfl kb_16 rfl ?_
  by_cases hc : q1 = (16 : Int32)
  · replace h := ite_t h hc
    refine R_iceq_t rfl hc ?_
    exact tbX9_turns_58 hK hd (jg_ne (jg_ne l0 rfl) rfl) (jg_ne (jg_ne l1 rfl) rfl) (jg_ne jg_self rfl) jg_self h hq
  · replace h := ite_f h hc
    refine R_iceq_f (p := 43) rfl hc rfl ?_
    refine R_aload_n (p := 44) rfl (jg_ne (jg_ne l0 rfl) rfl) rfl ?_
    refine R_iload_n (p := 45) rfl (jg_ne jg_self rfl) rfl ?_
    refine R_aload_n (p := 46) rfl (jg_ne (jg_ne l0 rfl) rfl) rfl ?_
    refine R_iload_n (p := 47) rfl (jg_ne jg_self rfl) rfl ?_
    refine R_iload_n (p := 48) rfl (jg_ne (jg_ne l2 rfl) rfl) rfl ?_
    obtain ⟨q9, eq9, h⟩ := bind_some h
    refine R_cV3v (p := 51) hK rfl rfl (tfX9_placeIn hK (Nat.le_trans (by decide) hd)  eq9) rfl rfl ?_
    refine R_iconst (p := 52) rfl ki_1 rfl ?_
    refine R_iadd (p := 53) rfl rfl ?_
    refine R_iload (p := 55) rfl jg_self rfl ?_
    obtain ⟨q10, eq10, h⟩ := bind_some h
    refine R_cV4n (p := 58) hK rfl rfl (tfX9_opens hK (Nat.le_trans (by decide) hd)  eq10) rfl rfl ?_
    exact tbX9_turns_58 hK hd (jg_ne (jg_ne l0 rfl) rfl) (jg_ne (jg_ne l1 rfl) rfl) (jg_ne jg_self rfl) jg_self h hq
theorem tfX9_turns {xs : List Int32} {d : Nat} {K : Mem → List jE} (hK : Ctx shR K) (hd : 5 ≤ d) {x1 : Int32} {x2 : Int32} {m : Mem} {t : Mem} (h : fX9_turns x1 x2 m = some t) : CallD (jcs xs) d 181 [.ref 137, .int x1, .int x2] (K m) (none, K t) := by
  obtain ⟨d, rfl⟩ : ∃ z, d = z + 1 := ⟨d - 1, by omega⟩
  refine CallD_of jmt_X9_turns rfl ⟨rfl, Nat.le_of_ble_eq_true rfl⟩ ?_
  exact ufX9_turns hK (Nat.le_of_succ_le_succ hd) rfl rfl rfl h rfl
noncomputable def bX9_turn_34 (m : Mem) : Option (Int32 × Mem) := (fX9_finding (-1000003 : Int32) m).bind fun q4 => some (q4.1, q4.2)
noncomputable def fX9_turn (x1 : Int32) (x2 : Int32) (m : Mem) : Option (Int32 × Mem) := (fX9_areTwo x1 x2 m).bind fun q1 => (if q1 = 0 then (fX9_finding (-1000001 : Int32) m).bind fun q2 => some (q2.1, q2.2) else (fX9_isWall x1 x2 m).bind fun q3 => (if q3 = 0 then bX9_turn_34 m else (fX9_canTurn x1 x2 m).bind fun q5 => (if q5 = 0 then bX9_turn_34 m else (fX9_turns x1 x2 m).bind fun q6 => (fX9_sidesOf x1 q6).bind fun q7 => some (q7, q6))))
theorem tbX9_turn_34 {xs : List Int32} {d : Nat} {r : jR} {K : Mem → List jE} (hK : Ctx shR K) (hd : 5 ≤ d)  {m : Mem} {L : List (Nat × Value)} (l0 : jget L 0 = some (.ref 137)) {t : (Int32 × Mem)} (h : bX9_turn_34 m = some t) (hq : (qIM r K) t) : RunD (jcs xs) d 3 (some .int) jt_X9_turn (34, L, [], (K m)) r := by
  unfold bX9_turn_34 at h
  refine R_aload_n (p := 35) rfl l0 rfl ?_
  refine R_ldc (p := 37) rfl kl_m1000003 rfl ?_
  obtain ⟨q4, eq4, h⟩ := bind_some h
  refine R_cV2v (p := 40) hK rfl rfl (tfX9_finding hK (Nat.le_trans (by decide) hd)  eq4) rfl rfl ?_
  obtain rfl := Option.some.inj h
  exact R_ireturn rfl rfl hq
theorem ufX9_turn {xs : List Int32} {d : Nat} {r : jR} {K : Mem → List jE} (hK : Ctx shR K) (hd : 5 ≤ d) {x1 : Int32} {x2 : Int32} {m : Mem} {L : List (Nat × Value)} (l0 : jget L 0 = some (.ref 137)) (l1 : jget L 1 = some (.int x1)) (l2 : jget L 2 = some (.int x2)) {t : (Int32 × Mem)} (h : fX9_turn x1 x2 m = some t) (hq : (qIM r K) t) : RunD (jcs xs) d 3 (some .int) jt_X9_turn (0, L, [], (K m)) r := by
  unfold fX9_turn at h
  refine R_aload_n (p := 1) rfl l0 rfl ?_
  refine R_iload_n (p := 2) rfl l1 rfl ?_
  refine R_iload_n (p := 3) rfl l2 rfl ?_
  obtain ⟨q1, eq1, h⟩ := bind_some h
  refine R_cV3v (p := 6) hK rfl rfl (tfX9_areTwo hK (Nat.le_trans (by decide) hd)  eq1) rfl rfl ?_
  by_cases hc : q1 = 0
  · replace h := ite_t h hc
    refine R_ifne_f (p := 9) rfl (fun z => z hc) rfl ?_
    refine R_aload_n (p := 10) rfl l0 rfl ?_
    refine R_ldc (p := 12) rfl kl_m1000001 rfl ?_
    obtain ⟨q2, eq2, h⟩ := bind_some h
    refine R_cV2v (p := 15) hK rfl rfl (tfX9_finding hK (Nat.le_trans (by decide) hd)  eq2) rfl rfl ?_
    obtain rfl := Option.some.inj h
    exact R_ireturn rfl rfl hq
  · replace h := ite_f h hc
    refine R_ifne_t rfl hc ?_
    refine R_aload_n (p := 17) rfl l0 rfl ?_
    refine R_iload_n (p := 18) rfl l1 rfl ?_
    refine R_iload_n (p := 19) rfl l2 rfl ?_
    obtain ⟨q3, eq3, h⟩ := bind_some h
    refine R_cV3v (p := 22) hK rfl rfl (tfX9_isWall hK (Nat.le_trans (by decide) hd)  eq3) rfl rfl ?_
    by_cases hc : q3 = 0
    · replace h := ite_t h hc
      refine R_ifeq_t rfl hc ?_
      exact tbX9_turn_34 hK hd l0 h hq
    · replace h := ite_f h hc
      refine R_ifeq_f (p := 25) rfl hc rfl ?_
      refine R_aload_n (p := 26) rfl l0 rfl ?_
      refine R_iload_n (p := 27) rfl l1 rfl ?_
      refine R_iload_n (p := 28) rfl l2 rfl ?_
      obtain ⟨q5, eq5, h⟩ := bind_some h
      refine R_cV3v (p := 31) hK rfl rfl (tfX9_canTurn hK (Nat.le_trans (by decide) hd)  eq5) rfl rfl ?_
      by_cases hc : q5 = 0
      · replace h := ite_t h hc
        refine R_ifne_f (p := 34) rfl (fun z => z hc) rfl ?_
        exact tbX9_turn_34 hK hd l0 h hq
      · replace h := ite_f h hc
        refine R_ifne_t rfl hc ?_
        refine R_aload_n (p := 42) rfl l0 rfl ?_
        refine R_iload_n (p := 43) rfl l1 rfl ?_
        refine R_iload_n (p := 44) rfl l2 rfl ?_
        obtain ⟨q6, eq6, h⟩ := bind_some h
        refine R_cV3n (p := 47) hK rfl rfl (tfX9_turns hK (Nat.le_trans (by decide) hd)  eq6) rfl rfl ?_
        refine R_aload_n (p := 48) rfl l0 rfl ?_
        refine R_iload_n (p := 49) rfl l1 rfl ?_
        obtain ⟨q7, eq7, h⟩ := bind_some h
        refine R_cV2v (p := 52) hK rfl rfl (tfX9_sidesOf hK (Nat.le_trans (by decide) hd)  eq7) rfl rfl ?_
        obtain rfl := Option.some.inj h
        exact R_ireturn rfl rfl hq
theorem tfX9_turn {xs : List Int32} {d : Nat} {K : Mem → List jE} (hK : Ctx shR K) (hd : 6 ≤ d) {x1 : Int32} {x2 : Int32} {m : Mem} {t : (Int32 × Mem)} (h : fX9_turn x1 x2 m = some t) : CallD (jcs xs) d 187 [.ref 137, .int x1, .int x2] (K m) (some (.int t.1), K t.2) := by
  obtain ⟨d, rfl⟩ : ∃ z, d = z + 1 := ⟨d - 1, by omega⟩
  refine CallD_of jmt_X9_turn rfl ⟨rfl, Nat.le_of_ble_eq_true rfl⟩ ?_
  exact ufX9_turn hK (Nat.le_of_succ_le_succ hd) rfl rfl rfl h rfl
noncomputable def fX0_bury (k : Nat) (x1 : Int32) (m : Mem) : Option Mem := (if (fX0_has k x1 m) = 0 then some m else (if inb x1 16 then some (mput (mput m (cw k 2) 0 ((m (cw k 2) 0) &&& ((jShl (1 : Int32) x1) ^^^ (-1 : Int32)))) (cw k 7) x1.toNatClampNeg (0 : Int32)) else none))
theorem ufX0_bury {xs : List Int32} {d : Nat} {r : jR} {K : Mem → List jE} (hK : Ctx shC K) (hd : 1 ≤ d) {k : Nat} (hk : k < 3) {x1 : Int32} {m : Mem} {L : List (Nat × Value)} (l0 : jget L 0 = some (.ref (cw k 2))) (l1 : jget L 1 = some (.int x1)) {t : Mem} (h : fX0_bury k x1 m = some t) (hq : (qM r K) t) : RunD (jcs xs) d 2 (none) jt_X0_bury (0, L, [], (K m)) r := by
  unfold fX0_bury at h
  refine R_aload_n (p := 1) rfl l0 rfl ?_
  refine R_iload_n (p := 2) rfl l1 rfl ?_
  refine R_cV2v (p := 5) hK rfl (s_w2 hk) (tfX0_has hK (Nat.le_trans (by decide) hd) hk) rfl rfl ?_
  by_cases hc : (fX0_has k x1 m) = 0
  · replace h := ite_t h hc
    refine R_ifeq_t rfl hc ?_
    obtain rfl := Option.some.inj h
    exact R_return rfl rfl hq
  · replace h := ite_f h hc
    refine R_ifeq_f (p := 8) rfl hc rfl ?_
    refine R_aload_n (p := 9) rfl l0 rfl ?_
    refine R_dupa (p := 10) rfl rfl ?_
    refine R_getI (p := 13) hK rfl (s_w2 hk) rfl rfl ?_
    refine R_iconst (p := 14) rfl ki_1 rfl ?_
    refine R_iload_n (p := 15) rfl l1 rfl ?_
    refine R_ishl (p := 16) rfl rfl ?_
    refine R_iconst (p := 17) rfl ki_m1 rfl ?_
    refine R_ixor (p := 18) rfl rfl ?_
    refine R_iand (p := 19) rfl rfl ?_
    refine R_putI (p := 22) hK rfl (s_w2 hk) rfl rfl rfl ?_
    refine R_aload_n (p := 23) rfl l0 rfl ?_
    refine R_getR (p := 26) (q := (cw k 7)) hK rfl (s_w2 hk) rfl rfl ?_
    refine R_iload_n (p := 27) rfl l1 rfl ?_
    refine R_iconst (p := 28) rfl ki_0 rfl ?_
    obtain ⟨b2, h⟩ := gd h
    refine R_iast (p := 29) hK rfl (s_w7 hk) b2 rfl ?_
    obtain rfl := Option.some.inj h
    exact R_return rfl rfl hq
theorem tfX0_bury {xs : List Int32} {d : Nat} {K : Mem → List jE} (hK : Ctx shC K) (hd : 2 ≤ d) {k : Nat} (hk : k < 3) {x1 : Int32} {m : Mem} {t : Mem} (h : fX0_bury k x1 m = some t) : CallD (jcs xs) d 28 [.ref (cw k 2), .int x1] (K m) (none, K t) := by
  obtain ⟨d, rfl⟩ : ∃ z, d = z + 1 := ⟨d - 1, by omega⟩
  refine CallD_of jmt_X0_bury rfl ⟨rfl, Nat.le_of_ble_eq_true rfl⟩ ?_
  exact ufX0_bury hK (Nat.le_of_succ_le_succ hd) hk rfl rfl h rfl
noncomputable def lX0_lose_8 (k : Nat) (x1 : Int32) (x2 : Int32) (s : Int32 × Mem) : Option ((Int32 × Mem) ⊕ Mem) := (if x2 ≤ s.1 then (fX0_bury k x1 s.2).bind fun q2 => some (.inr (mput q2 (cw k 2) 7 ((q2 (cw k 2) 7) + (1 : Int32)))) else (fX0_at k x1 s.1 s.2).bind fun q3 => (fX0_takeOut k q3 x1 s.2).bind fun q4 => some (.inl ((s.1 + (1 : Int32)), q4)))
noncomputable def gX0_lose_8 (xs : List Int32) (d : Nat) (r : jR) (K : Mem → List jE) (k : Nat) (x1 : Int32) (x2 : Int32) (s : Int32 × Mem) : Prop := ∀ L, jget L 0 = some (.ref (cw k 2)) → jget L 1 = some (.int x1) → jget L 2 = some (.int x2) → jget L 3 = some (.int s.1) → RunD (jcs xs) d 4 (none) jt_X0_lose (8, L, [], (K s.2)) r
noncomputable def fX0_lose (k : Nat) (x1 : Int32) (m : Mem) : Option Mem := (fX0_sidesOf k x1 m).bind fun q1 => lp (lX0_lose_8 k x1 q1) fu ((0 : Int32), m)
theorem BX0_lose_8 {xs : List Int32} {d : Nat} {r : jR} {K : Mem → List jE} (hK : Ctx shC K) (hd : 2 ≤ d) {k : Nat} (hk : k < 3)  {x1 : Int32} {x2 : Int32} (s : Int32 × Mem) {t : (Int32 × Mem) ⊕ Mem} (h : lX0_lose_8 k x1 x2 s = some t) (hq : sQ (gX0_lose_8 xs d r K k x1 x2) (qM r K) t) : gX0_lose_8 xs d r K k x1 x2 s := by
  intro L l0 l1 l2 l3
  unfold lX0_lose_8 at h
  refine R_iload_n (p := 9) rfl l3 rfl ?_
  refine R_iload_n (p := 10) rfl l2 rfl ?_
  by_cases hc : x2 ≤ s.1
  · replace h := ite_t h hc
    refine R_icge_t rfl hc ?_
    refine R_aload_n (p := 31) rfl l0 rfl ?_
    refine R_iload_n (p := 32) rfl l1 rfl ?_
    obtain ⟨q2, eq2, h⟩ := bind_some h
    refine R_cV2n (p := 35) hK rfl (s_w2 hk) (tfX0_bury hK (Nat.le_trans (by decide) hd) hk eq2) rfl rfl ?_
    refine R_aload_n (p := 36) rfl l0 rfl ?_
    refine R_dupa (p := 37) rfl rfl ?_
    refine R_getI (p := 40) hK rfl (s_w2 hk) rfl rfl ?_
    refine R_iconst (p := 41) rfl ki_1 rfl ?_
    refine R_iadd (p := 42) rfl rfl ?_
    refine R_putI (p := 45) hK rfl (s_w2 hk) rfl rfl rfl ?_
    obtain rfl := Option.some.inj h
    exact R_return rfl rfl hq
  · replace h := ite_f h hc
    refine R_icge_f (p := 13) rfl hc rfl ?_
    refine R_aload_n (p := 14) rfl l0 rfl ?_
    refine R_aload_n (p := 15) rfl l0 rfl ?_
    refine R_iload_n (p := 16) rfl l1 rfl ?_
    refine R_iload_n (p := 17) rfl l3 rfl ?_
    obtain ⟨q3, eq3, h⟩ := bind_some h
    refine R_cV3v (p := 20) hK rfl (s_w2 hk) (tfX0_at hK (Nat.le_trans (by decide) hd) hk eq3) rfl rfl ?_
    refine R_iload_n (p := 21) rfl l1 rfl ?_
    obtain ⟨q4, eq4, h⟩ := bind_some h
    refine R_cV3n (p := 24) hK rfl (s_w2 hk) (tfX0_takeOut hK (Nat.le_trans (by decide) hd) hk eq4) rfl rfl ?_
    refine R_iinc (p := 27) rfl l3 rfl ki_1 rfl ?_
    refine R_goto rfl ?_
    obtain rfl := Option.some.inj h
    exact hq _ (jg_ne l0 rfl) (jg_ne l1 rfl) (jg_ne l2 rfl) jg_self
theorem LX0_lose_8 {xs : List Int32} {d : Nat} {r : jR} {K : Mem → List jE} (hK : Ctx shC K) (hd : 2 ≤ d) {k : Nat} (hk : k < 3)  {x1 : Int32} {x2 : Int32} (n : Nat) (s : Int32 × Mem) {t : Mem} (h : lp (lX0_lose_8 k x1 x2) n s = some t) (hq : (qM r K) t) : gX0_lose_8 xs d r K k x1 x2 s := lp_ind (G := gX0_lose_8 xs d r K k x1 x2) (Qe := (qM r K)) (fun s t h hq => BX0_lose_8 hK hd hk s h hq) n s t h hq
theorem ufX0_lose {xs : List Int32} {d : Nat} {r : jR} {K : Mem → List jE} (hK : Ctx shC K) (hd : 2 ≤ d) {k : Nat} (hk : k < 3) {x1 : Int32} {m : Mem} {L : List (Nat × Value)} (l0 : jget L 0 = some (.ref (cw k 2))) (l1 : jget L 1 = some (.int x1)) {t : Mem} (h : fX0_lose k x1 m = some t) (hq : (qM r K) t) : RunD (jcs xs) d 4 (none) jt_X0_lose (0, L, [], (K m)) r := by
  unfold fX0_lose at h
  refine R_aload_n (p := 1) rfl l0 rfl ?_
  refine R_iload_n (p := 2) rfl l1 rfl ?_
  obtain ⟨q1, eq1, h⟩ := bind_some h
  refine R_cV2v (p := 5) hK rfl (s_w2 hk) (tfX0_sidesOf hK (Nat.le_trans (by decide) hd) hk eq1) rfl rfl ?_
  refine R_istore_n (p := 6) rfl rfl rfl ?_
  refine R_iconst (p := 7) rfl ki_0 rfl ?_
  refine R_istore_n (p := 8) rfl rfl rfl ?_
  exact LX0_lose_8 hK hd hk _ _ h hq _ (jg_ne (jg_ne l0 rfl) rfl) (jg_ne (jg_ne l1 rfl) rfl) (jg_ne jg_self rfl) jg_self
theorem tfX0_lose {xs : List Int32} {d : Nat} {K : Mem → List jE} (hK : Ctx shC K) (hd : 3 ≤ d) {k : Nat} (hk : k < 3) {x1 : Int32} {m : Mem} {t : Mem} (h : fX0_lose k x1 m = some t) : CallD (jcs xs) d 24 [.ref (cw k 2), .int x1] (K m) (none, K t) := by
  obtain ⟨d, rfl⟩ : ∃ z, d = z + 1 := ⟨d - 1, by omega⟩
  refine CallD_of jmt_X0_lose rfl ⟨rfl, Nat.le_of_ble_eq_true rfl⟩ ?_
  exact ufX0_lose hK (Nat.le_of_succ_le_succ hd) hk rfl rfl h rfl
noncomputable def fX8_vanish (x1 : Int32) (m : Mem) : Option (Int32 × Mem) := (if (fX0_has 0 x1 m) = 0 then (fX8_no (1 : Int32) m).bind fun q2 => some (q2.1, q2.2) else (fX0_canVanish 0 x1 m).bind fun q3 => (if q3 = 0 then (fX8_no (3 : Int32) m).bind fun q4 => some (q4.1, q4.2) else (fX0_lose 0 x1 m).bind fun q5 => some ((fX0_howMany 0 q5), q5)))
theorem ufX8_vanish {xs : List Int32} {d : Nat} {r : jR} {K : Mem → List jE} (hK : Ctx shC K) (hd : 3 ≤ d) {x1 : Int32} {m : Mem} {L : List (Nat × Value)} (l0 : jget L 0 = some (.ref 0)) (l1 : jget L 1 = some (.int x1)) {t : (Int32 × Mem)} (h : fX8_vanish x1 m = some t) (hq : (qIM r K) t) : RunD (jcs xs) d 2 (some .int) jt_X8_vanish (0, L, [], (K m)) r := by
  unfold fX8_vanish at h
  refine R_aload_n (p := 1) rfl l0 rfl ?_
  refine R_getR (p := 4) (q := (cw 0 1)) hK rfl rfl rfl rfl ?_
  refine R_getR (p := 7) (q := (cw 0 2)) hK rfl (s_w1 (by decide)) rfl rfl ?_
  refine R_iload_n (p := 8) rfl l1 rfl ?_
  refine R_cV2v (p := 11) hK rfl (s_w2 (by decide)) (tfX0_has hK (Nat.le_trans (by decide) hd) (by decide)) rfl rfl ?_
  by_cases hc : (fX0_has 0 x1 m) = 0
  · replace h := ite_t h hc
    refine R_ifne_f (p := 14) rfl (fun z => z hc) rfl ?_
    refine R_aload_n (p := 15) rfl l0 rfl ?_
    refine R_iconst (p := 16) rfl ki_1 rfl ?_
    obtain ⟨q2, eq2, h⟩ := bind_some h
    refine R_cV2v (p := 19) hK rfl rfl (tfX8_no hK (Nat.le_trans (by decide) hd)  eq2) rfl rfl ?_
    obtain rfl := Option.some.inj h
    exact R_ireturn rfl rfl hq
  · replace h := ite_f h hc
    refine R_ifne_t rfl hc ?_
    refine R_aload_n (p := 21) rfl l0 rfl ?_
    refine R_getR (p := 24) (q := (cw 0 1)) hK rfl rfl rfl rfl ?_
    refine R_getR (p := 27) (q := (cw 0 2)) hK rfl (s_w1 (by decide)) rfl rfl ?_
    refine R_iload_n (p := 28) rfl l1 rfl ?_
    obtain ⟨q3, eq3, h⟩ := bind_some h
    refine R_cV2v (p := 31) hK rfl (s_w2 (by decide)) (tfX0_canVanish hK (Nat.le_trans (by decide) hd) (by decide) eq3) rfl rfl ?_
    by_cases hc : q3 = 0
    · replace h := ite_t h hc
      refine R_ifne_f (p := 34) rfl (fun z => z hc) rfl ?_
      refine R_aload_n (p := 35) rfl l0 rfl ?_
      refine R_iconst (p := 36) rfl ki_3 rfl ?_
      obtain ⟨q4, eq4, h⟩ := bind_some h
      refine R_cV2v (p := 39) hK rfl rfl (tfX8_no hK (Nat.le_trans (by decide) hd)  eq4) rfl rfl ?_
      obtain rfl := Option.some.inj h
      exact R_ireturn rfl rfl hq
    · replace h := ite_f h hc
      refine R_ifne_t rfl hc ?_
      refine R_aload_n (p := 41) rfl l0 rfl ?_
      refine R_getR (p := 44) (q := (cw 0 1)) hK rfl rfl rfl rfl ?_
      refine R_getR (p := 47) (q := (cw 0 2)) hK rfl (s_w1 (by decide)) rfl rfl ?_
      refine R_iload_n (p := 48) rfl l1 rfl ?_
      obtain ⟨q5, eq5, h⟩ := bind_some h
      refine R_cV2n (p := 51) hK rfl (s_w2 (by decide)) (tfX0_lose hK (Nat.le_trans (by decide) hd) (by decide) eq5) rfl rfl ?_
      refine R_aload_n (p := 52) rfl l0 rfl ?_
      refine R_getR (p := 55) (q := (cw 0 1)) hK rfl rfl rfl rfl ?_
      refine R_getR (p := 58) (q := (cw 0 2)) hK rfl (s_w1 (by decide)) rfl rfl ?_
      refine R_cV1v (p := 61) hK rfl (s_w2 (by decide)) (tfX0_howMany hK (Nat.le_trans (by decide) hd) (by decide)) rfl rfl ?_
      obtain rfl := Option.some.inj h
      exact R_ireturn rfl rfl hq
theorem tfX8_vanish {xs : List Int32} {d : Nat} {K : Mem → List jE} (hK : Ctx shC K) (hd : 4 ≤ d) {x1 : Int32} {m : Mem} {t : (Int32 × Mem)} (h : fX8_vanish x1 m = some t) : CallD (jcs xs) d 114 [.ref 0, .int x1] (K m) (some (.int t.1), K t.2) := by
  obtain ⟨d, rfl⟩ : ∃ z, d = z + 1 := ⟨d - 1, by omega⟩
  refine CallD_of jmt_X8_vanish rfl ⟨rfl, Nat.le_of_ble_eq_true rfl⟩ ?_
  exact ufX8_vanish hK (Nat.le_of_succ_le_succ hd) rfl rfl h rfl
noncomputable def lX9_vanishes_2 (x1 : Int32) (s : Int32 × Mem) : Option ((Int32 × Mem) ⊕ Mem) := (fX9_sidesOf x1 s.2).bind fun q1 => (if q1 ≤ s.1 then (fX9_tells x1 (0 : Int32) (0 : Int32) s.2).bind fun q2 => some (.inr (mput q2 138 9 ((q2 138 9) + (1 : Int32)))) else (fX9_of x1 ((6 : Int32) + s.1) s.2).bind fun q3 => (if q3 = (16 : Int32) then some (.inl ((s.1 + (1 : Int32)), s.2)) else (fX9_placeIn q3 x1 s.2).bind fun q4 => (fX9_shuts q3 q4 s.2).bind fun q5 => some (.inl ((s.1 + (1 : Int32)), q5))))
noncomputable def gX9_vanishes_2 (xs : List Int32) (d : Nat) (r : jR) (K : Mem → List jE) (x1 : Int32) (s : Int32 × Mem) : Prop := ∀ L, jget L 0 = some (.ref 137) → jget L 1 = some (.int x1) → jget L 2 = some (.int s.1) → RunD (jcs xs) d 4 (none) jt_X9_vanishes (2, L, [], (K s.2)) r
noncomputable def fX9_vanishes (x1 : Int32) (m : Mem) : Option Mem := lp (lX9_vanishes_2 x1) fu ((0 : Int32), m)
theorem BX9_vanishes_2 {xs : List Int32} {d : Nat} {r : jR} {K : Mem → List jE} (hK : Ctx shR K) (hd : 3 ≤ d)  {x1 : Int32} (s : Int32 × Mem) {t : (Int32 × Mem) ⊕ Mem} (h : lX9_vanishes_2 x1 s = some t) (hq : sQ (gX9_vanishes_2 xs d r K x1) (qM r K) t) : gX9_vanishes_2 xs d r K x1 s := by
  intro L l0 l1 l2
  unfold lX9_vanishes_2 at h
  refine R_iload_n (p := 3) rfl l2 rfl ?_
  refine R_aload_n (p := 4) rfl l0 rfl ?_
  refine R_iload_n (p := 5) rfl l1 rfl ?_
  obtain ⟨q1, eq1, h⟩ := bind_some h
  refine R_cV2v (p := 8) hK rfl rfl (tfX9_sidesOf hK (Nat.le_trans (by decide) hd)  eq1) rfl rfl ?_
  by_cases hc : q1 ≤ s.1
  · replace h := ite_t h hc
    refine R_icge_t rfl hc ?_
    refine R_aload_n (p := 45) rfl l0 rfl ?_
    refine R_iload_n (p := 46) rfl l1 rfl ?_
    refine R_iconst (p := 47) rfl ki_0 rfl ?_
    refine R_iconst (p := 48) rfl ki_0 rfl ?_
    obtain ⟨q2, eq2, h⟩ := bind_some h
    refine R_cV4n (p := 51) hK rfl rfl (tfX9_tells hK (Nat.le_trans (by decide) hd)  eq2) rfl rfl ?_
    refine R_aload_n (p := 52) rfl l0 rfl ?_
    refine R_getR (p := 55) (q := 138) hK rfl rfl rfl rfl ?_
    refine R_bipush (p := 57) rfl kb_9 rfl ?_
    refine R_dup2ia (p := 58) rfl rfl ?_
    refine R_ialk (p := 59) hK rfl rfl (by decide) kn_9 rfl ?_
    refine R_iconst (p := 60) rfl ki_1 rfl ?_
    refine R_iadd (p := 61) rfl rfl ?_
    refine R_iask (p := 62) hK rfl rfl (by decide) kn_9 rfl ?_
    obtain rfl := Option.some.inj h
    exact R_return rfl rfl hq
  · replace h := ite_f h hc
    refine R_icge_f (p := 11) rfl hc rfl ?_
    refine R_aload_n (p := 12) rfl l0 rfl ?_
    refine R_iload_n (p := 13) rfl l1 rfl ?_
    refine R_bipush (p := 15) rfl kb_6 rfl ?_
    refine R_iload_n (p := 16) rfl l2 rfl ?_
    refine R_iadd (p := 17) rfl rfl ?_
    obtain ⟨q3, eq3, h⟩ := bind_some h
    refine R_cV3v (p := 20) hK rfl rfl (tfX9_of hK (Nat.le_trans (by decide) hd)  eq3) rfl rfl ?_
    refine R_istore_n (p := 21) rfl rfl rfl ?_
    refine R_iload_n (p := 22) rfl jg_self rfl ?_
    refine R_bipush (p := 24) rfl kb_16 rfl ?_
    by_cases hc : q3 = (16 : Int32)
    · replace h := ite_t h hc
      refine R_iceq_t rfl hc ?_
      refine R_iinc (p := 41) rfl (jg_ne l2 rfl) rfl ki_1 rfl ?_
      refine R_goto rfl ?_
      obtain rfl := Option.some.inj h
      exact hq _ (jg_ne (jg_ne l0 rfl) rfl) (jg_ne (jg_ne l1 rfl) rfl) jg_self
    · replace h := ite_f h hc
      refine R_iceq_f (p := 27) rfl hc rfl ?_
      refine R_aload_n (p := 28) rfl (jg_ne l0 rfl) rfl ?_
      refine R_iload_n (p := 29) rfl jg_self rfl ?_
      refine R_aload_n (p := 30) rfl (jg_ne l0 rfl) rfl ?_
      refine R_iload_n (p := 31) rfl jg_self rfl ?_
      refine R_iload_n (p := 32) rfl (jg_ne l1 rfl) rfl ?_
      obtain ⟨q4, eq4, h⟩ := bind_some h
      refine R_cV3v (p := 35) hK rfl rfl (tfX9_placeIn hK (Nat.le_trans (by decide) hd)  eq4) rfl rfl ?_
      obtain ⟨q5, eq5, h⟩ := bind_some h
      refine R_cV3n (p := 38) hK rfl rfl (tfX9_shuts hK (Nat.le_trans (by decide) hd)  eq5) rfl rfl ?_
      refine R_iinc (p := 41) rfl (jg_ne l2 rfl) rfl ki_1 rfl ?_
      refine R_goto rfl ?_
      obtain rfl := Option.some.inj h
      exact hq _ (jg_ne (jg_ne l0 rfl) rfl) (jg_ne (jg_ne l1 rfl) rfl) jg_self
theorem LX9_vanishes_2 {xs : List Int32} {d : Nat} {r : jR} {K : Mem → List jE} (hK : Ctx shR K) (hd : 3 ≤ d)  {x1 : Int32} (n : Nat) (s : Int32 × Mem) {t : Mem} (h : lp (lX9_vanishes_2 x1) n s = some t) (hq : (qM r K) t) : gX9_vanishes_2 xs d r K x1 s := lp_ind (G := gX9_vanishes_2 xs d r K x1) (Qe := (qM r K)) (fun s t h hq => BX9_vanishes_2 hK hd s h hq) n s t h hq
theorem ufX9_vanishes {xs : List Int32} {d : Nat} {r : jR} {K : Mem → List jE} (hK : Ctx shR K) (hd : 3 ≤ d) {x1 : Int32} {m : Mem} {L : List (Nat × Value)} (l0 : jget L 0 = some (.ref 137)) (l1 : jget L 1 = some (.int x1)) {t : Mem} (h : fX9_vanishes x1 m = some t) (hq : (qM r K) t) : RunD (jcs xs) d 4 (none) jt_X9_vanishes (0, L, [], (K m)) r := by
  unfold fX9_vanishes at h
  refine R_iconst (p := 1) rfl ki_0 rfl ?_
  refine R_istore_n (p := 2) rfl rfl rfl ?_
  exact LX9_vanishes_2 hK hd _ _ h hq _ (jg_ne l0 rfl) (jg_ne l1 rfl) jg_self
theorem tfX9_vanishes {xs : List Int32} {d : Nat} {K : Mem → List jE} (hK : Ctx shR K) (hd : 4 ≤ d) {x1 : Int32} {m : Mem} {t : Mem} (h : fX9_vanishes x1 m = some t) : CallD (jcs xs) d 183 [.ref 137, .int x1] (K m) (none, K t) := by
  obtain ⟨d, rfl⟩ : ∃ z, d = z + 1 := ⟨d - 1, by omega⟩
  refine CallD_of jmt_X9_vanishes rfl ⟨rfl, Nat.le_of_ble_eq_true rfl⟩ ?_
  exact ufX9_vanishes hK (Nat.le_of_succ_le_succ hd) rfl rfl h rfl
noncomputable def lX9_many_4 (m : Mem) (s : Int32 × Int32) : Option ((Int32 × Int32) ⊕ Int32) := (if (16 : Int32) ≤ s.2 then some (.inr s.1) else (fX9_of s.2 (0 : Int32) m).bind fun q1 => some (.inl ((s.1 + q1), (s.2 + (1 : Int32)))))
noncomputable def gX9_many_4 (xs : List Int32) (d : Nat) (r : jR) (K : Mem → List jE) (m : Mem) (s : Int32 × Int32) : Prop := ∀ L, jget L 0 = some (.ref 137) → jget L 1 = some (.int s.1) → jget L 2 = some (.int s.2) → RunD (jcs xs) d 3 (some .int) jt_X9_many (4, L, [], (K m)) r
noncomputable def fX9_many (m : Mem) : Option Int32 := lp (lX9_many_4 m) fu ((0 : Int32), (0 : Int32))
theorem BX9_many_4 {xs : List Int32} {d : Nat} {r : jR} {K : Mem → List jE} (hK : Ctx shR K) (hd : 1 ≤ d)  {m : Mem} (s : Int32 × Int32) {t : (Int32 × Int32) ⊕ Int32} (h : lX9_many_4 m s = some t) (hq : sQ (gX9_many_4 xs d r K m) (qI r (K m)) t) : gX9_many_4 xs d r K m s := by
  intro L l0 l1 l2
  unfold lX9_many_4 at h
  refine R_iload_n (p := 5) rfl l2 rfl ?_
  refine R_bipush (p := 7) rfl kb_16 rfl ?_
  by_cases hc : (16 : Int32) ≤ s.2
  · replace h := ite_t h hc
    refine R_icge_t rfl hc ?_
    refine R_iload_n (p := 26) rfl l1 rfl ?_
    obtain rfl := Option.some.inj h
    exact R_ireturn rfl rfl hq
  · replace h := ite_f h hc
    refine R_icge_f (p := 10) rfl hc rfl ?_
    refine R_iload_n (p := 11) rfl l1 rfl ?_
    refine R_aload_n (p := 12) rfl l0 rfl ?_
    refine R_iload_n (p := 13) rfl l2 rfl ?_
    refine R_iconst (p := 14) rfl ki_0 rfl ?_
    obtain ⟨q1, eq1, h⟩ := bind_some h
    refine R_cV3v (p := 17) hK rfl rfl (tfX9_of hK (Nat.le_trans (by decide) hd)  eq1) rfl rfl ?_
    refine R_iadd (p := 18) rfl rfl ?_
    refine R_istore_n (p := 19) rfl rfl rfl ?_
    refine R_iinc (p := 22) rfl (jg_ne l2 rfl) rfl ki_1 rfl ?_
    refine R_goto rfl ?_
    obtain rfl := Option.some.inj h
    exact hq _ (jg_ne (jg_ne l0 rfl) rfl) (jg_ne jg_self rfl) jg_self
theorem LX9_many_4 {xs : List Int32} {d : Nat} {r : jR} {K : Mem → List jE} (hK : Ctx shR K) (hd : 1 ≤ d)  {m : Mem} (n : Nat) (s : Int32 × Int32) {t : Int32} (h : lp (lX9_many_4 m) n s = some t) (hq : (qI r (K m)) t) : gX9_many_4 xs d r K m s := lp_ind (G := gX9_many_4 xs d r K m) (Qe := (qI r (K m))) (fun s t h hq => BX9_many_4 hK hd s h hq) n s t h hq
theorem ufX9_many {xs : List Int32} {d : Nat} {r : jR} {K : Mem → List jE} (hK : Ctx shR K) (hd : 1 ≤ d) {m : Mem} {L : List (Nat × Value)} (l0 : jget L 0 = some (.ref 137)) {t : Int32} (h : fX9_many m = some t) (hq : (qI r (K m)) t) : RunD (jcs xs) d 3 (some .int) jt_X9_many (0, L, [], (K m)) r := by
  unfold fX9_many at h
  refine R_iconst (p := 1) rfl ki_0 rfl ?_
  refine R_istore_n (p := 2) rfl rfl rfl ?_
  refine R_iconst (p := 3) rfl ki_0 rfl ?_
  refine R_istore_n (p := 4) rfl rfl rfl ?_
  exact LX9_many_4 hK hd _ _ h hq _ (jg_ne (jg_ne l0 rfl) rfl) (jg_ne jg_self rfl) jg_self
theorem tfX9_many {xs : List Int32} {d : Nat} {K : Mem → List jE} (hK : Ctx shR K) (hd : 2 ≤ d) {m : Mem} {t : Int32} (h : fX9_many m = some t) : CallD (jcs xs) d 188 [.ref 137] (K m) (some (.int t), (K m)) := by
  obtain ⟨d, rfl⟩ : ∃ z, d = z + 1 := ⟨d - 1, by omega⟩
  refine CallD_of jmt_X9_many rfl ⟨rfl, Nat.le_of_ble_eq_true rfl⟩ ?_
  exact ufX9_many hK (Nat.le_of_succ_le_succ hd) rfl h rfl
noncomputable def bX9_vanish_32 (m : Mem) : Option (Int32 × Mem) := (fX9_finding (-1000003 : Int32) m).bind fun q5 => some (q5.1, q5.2)
noncomputable def fX9_vanish (x1 : Int32) (m : Mem) : Option (Int32 × Mem) := (fX9_is x1 m).bind fun q1 => (if q1 = 0 then (fX9_finding (-1000001 : Int32) m).bind fun q2 => some (q2.1, q2.2) else (fX9_sidesOf x1 m).bind fun q3 => (if q3 = (3 : Int32) then (fX9_canVanish x1 m).bind fun q4 => (if q4 = 0 then bX9_vanish_32 m else (fX9_vanishes x1 m).bind fun q6 => (fX9_many q6).bind fun q7 => some (q7, q6)) else bX9_vanish_32 m))
theorem tbX9_vanish_32 {xs : List Int32} {d : Nat} {r : jR} {K : Mem → List jE} (hK : Ctx shR K) (hd : 4 ≤ d)  {m : Mem} {L : List (Nat × Value)} (l0 : jget L 0 = some (.ref 137)) {t : (Int32 × Mem)} (h : bX9_vanish_32 m = some t) (hq : (qIM r K) t) : RunD (jcs xs) d 2 (some .int) jt_X9_vanish (32, L, [], (K m)) r := by
  unfold bX9_vanish_32 at h
  refine R_aload_n (p := 33) rfl l0 rfl ?_
  refine R_ldc (p := 35) rfl kl_m1000003 rfl ?_
  obtain ⟨q5, eq5, h⟩ := bind_some h
  refine R_cV2v (p := 38) hK rfl rfl (tfX9_finding hK (Nat.le_trans (by decide) hd)  eq5) rfl rfl ?_
  obtain rfl := Option.some.inj h
  exact R_ireturn rfl rfl hq
theorem ufX9_vanish {xs : List Int32} {d : Nat} {r : jR} {K : Mem → List jE} (hK : Ctx shR K) (hd : 4 ≤ d) {x1 : Int32} {m : Mem} {L : List (Nat × Value)} (l0 : jget L 0 = some (.ref 137)) (l1 : jget L 1 = some (.int x1)) {t : (Int32 × Mem)} (h : fX9_vanish x1 m = some t) (hq : (qIM r K) t) : RunD (jcs xs) d 2 (some .int) jt_X9_vanish (0, L, [], (K m)) r := by
  unfold fX9_vanish at h
  refine R_aload_n (p := 1) rfl l0 rfl ?_
  refine R_iload_n (p := 2) rfl l1 rfl ?_
  obtain ⟨q1, eq1, h⟩ := bind_some h
  refine R_cV2v (p := 5) hK rfl rfl (tfX9_is hK (Nat.le_trans (by decide) hd)  eq1) rfl rfl ?_
  by_cases hc : q1 = 0
  · replace h := ite_t h hc
    refine R_ifne_f (p := 8) rfl (fun z => z hc) rfl ?_
    refine R_aload_n (p := 9) rfl l0 rfl ?_
    refine R_ldc (p := 11) rfl kl_m1000001 rfl ?_
    obtain ⟨q2, eq2, h⟩ := bind_some h
    refine R_cV2v (p := 14) hK rfl rfl (tfX9_finding hK (Nat.le_trans (by decide) hd)  eq2) rfl rfl ?_
    obtain rfl := Option.some.inj h
    exact R_ireturn rfl rfl hq
  · replace h := ite_f h hc
    refine R_ifne_t rfl hc ?_
    refine R_aload_n (p := 16) rfl l0 rfl ?_
    refine R_iload_n (p := 17) rfl l1 rfl ?_
    obtain ⟨q3, eq3, h⟩ := bind_some h
    refine R_cV2v (p := 20) hK rfl rfl (tfX9_sidesOf hK (Nat.le_trans (by decide) hd)  eq3) rfl rfl ?_
    refine R_iconst (p := 21) rfl ki_3 rfl ?_
    by_cases hc : q3 = (3 : Int32)
    · replace h := ite_t h hc
      refine R_icne_f (p := 24) rfl (fun z => z hc) rfl ?_
      refine R_aload_n (p := 25) rfl l0 rfl ?_
      refine R_iload_n (p := 26) rfl l1 rfl ?_
      obtain ⟨q4, eq4, h⟩ := bind_some h
      refine R_cV2v (p := 29) hK rfl rfl (tfX9_canVanish hK (Nat.le_trans (by decide) hd)  eq4) rfl rfl ?_
      by_cases hc : q4 = 0
      · replace h := ite_t h hc
        refine R_ifne_f (p := 32) rfl (fun z => z hc) rfl ?_
        exact tbX9_vanish_32 hK hd l0 h hq
      · replace h := ite_f h hc
        refine R_ifne_t rfl hc ?_
        refine R_aload_n (p := 40) rfl l0 rfl ?_
        refine R_iload_n (p := 41) rfl l1 rfl ?_
        obtain ⟨q6, eq6, h⟩ := bind_some h
        refine R_cV2n (p := 44) hK rfl rfl (tfX9_vanishes hK (Nat.le_trans (by decide) hd)  eq6) rfl rfl ?_
        refine R_aload_n (p := 45) rfl l0 rfl ?_
        obtain ⟨q7, eq7, h⟩ := bind_some h
        refine R_cV1v (p := 48) hK rfl rfl (tfX9_many hK (Nat.le_trans (by decide) hd)  eq7) rfl rfl ?_
        obtain rfl := Option.some.inj h
        exact R_ireturn rfl rfl hq
    · replace h := ite_f h hc
      refine R_icne_t rfl hc ?_
      exact tbX9_vanish_32 hK hd l0 h hq
theorem tfX9_vanish {xs : List Int32} {d : Nat} {K : Mem → List jE} (hK : Ctx shR K) (hd : 5 ≤ d) {x1 : Int32} {m : Mem} {t : (Int32 × Mem)} (h : fX9_vanish x1 m = some t) : CallD (jcs xs) d 189 [.ref 137, .int x1] (K m) (some (.int t.1), K t.2) := by
  obtain ⟨d, rfl⟩ : ∃ z, d = z + 1 := ⟨d - 1, by omega⟩
  refine CallD_of jmt_X9_vanish rfl ⟨rfl, Nat.le_of_ble_eq_true rfl⟩ ?_
  exact ufX9_vanish hK (Nat.le_of_succ_le_succ hd) rfl rfl h rfl
noncomputable def fJ9_min_7cf53 (x0 : Int32) (x1 : Int32) : Int32 := (if x1 < x0 then x1 else x0)
theorem ufJ9_min_7cf53 {xs : List Int32} {d : Nat} {r : jR} {hh : List jE} (hd : 0 ≤ d) {x0 : Int32} {x1 : Int32} {L : List (Nat × Value)} (l0 : jget L 0 = some (.int x0)) (l1 : jget L 1 = some (.int x1)) {t : Int32} (h : fJ9_min_7cf53 x0 x1 = t) (hq : (qI r hh) t) : RunD (jcs xs) d 2 (some .int) jt_J9_min_7cf53 (0, L, [], hh) r := by
  unfold fJ9_min_7cf53 at h
  refine R_iload_n (p := 1) rfl l0 rfl ?_
  refine R_iload_n (p := 2) rfl l1 rfl ?_
  by_cases hc : x1 < x0
  · replace h := ite_t h hc
    refine R_icgt_t rfl hc ?_
    refine R_iload_n (p := 10) rfl l1 rfl ?_
    subst h
    exact R_ireturn rfl rfl hq
  · replace h := ite_f h hc
    refine R_icgt_f (p := 5) rfl hc rfl ?_
    refine R_iload_n (p := 6) rfl l0 rfl ?_
    refine R_goto rfl ?_
    subst h
    exact R_ireturn rfl rfl hq
theorem tfJ9_min_7cf53 {xs : List Int32} {d : Nat} {hh : List jE} (hd : 1 ≤ d) {x0 : Int32} {x1 : Int32} : CallD (jcs xs) d 261 [.int x0, .int x1] hh (some (.int (fJ9_min_7cf53 x0 x1)), hh) := by
  obtain ⟨d, rfl⟩ : ∃ z, d = z + 1 := ⟨d - 1, by omega⟩
  refine CallD_of jmt_J9_min_7cf53 rfl ⟨rfl, Nat.le_of_ble_eq_true rfl⟩ ?_
  exact ufJ9_min_7cf53 (Nat.le_of_succ_le_succ hd) rfl rfl rfl rfl
noncomputable def fJ9_max_7cf53 (x0 : Int32) (x1 : Int32) : Int32 := (if x0 < x1 then x1 else x0)
theorem ufJ9_max_7cf53 {xs : List Int32} {d : Nat} {r : jR} {hh : List jE} (hd : 0 ≤ d) {x0 : Int32} {x1 : Int32} {L : List (Nat × Value)} (l0 : jget L 0 = some (.int x0)) (l1 : jget L 1 = some (.int x1)) {t : Int32} (h : fJ9_max_7cf53 x0 x1 = t) (hq : (qI r hh) t) : RunD (jcs xs) d 2 (some .int) jt_J9_max_7cf53 (0, L, [], hh) r := by
  unfold fJ9_max_7cf53 at h
  refine R_iload_n (p := 1) rfl l0 rfl ?_
  refine R_iload_n (p := 2) rfl l1 rfl ?_
  by_cases hc : x0 < x1
  · replace h := ite_t h hc
    refine R_iclt_t rfl hc ?_
    refine R_iload_n (p := 10) rfl l1 rfl ?_
    subst h
    exact R_ireturn rfl rfl hq
  · replace h := ite_f h hc
    refine R_iclt_f (p := 5) rfl hc rfl ?_
    refine R_iload_n (p := 6) rfl l0 rfl ?_
    refine R_goto rfl ?_
    subst h
    exact R_ireturn rfl rfl hq
theorem tfJ9_max_7cf53 {xs : List Int32} {d : Nat} {hh : List jE} (hd : 1 ≤ d) {x0 : Int32} {x1 : Int32} : CallD (jcs xs) d 259 [.int x0, .int x1] hh (some (.int (fJ9_max_7cf53 x0 x1)), hh) := by
  obtain ⟨d, rfl⟩ : ∃ z, d = z + 1 := ⟨d - 1, by omega⟩
  refine CallD_of jmt_J9_max_7cf53 rfl ⟨rfl, Nat.le_of_ble_eq_true rfl⟩ ?_
  exact ufJ9_max_7cf53 (Nat.le_of_succ_le_succ hd) rfl rfl rfl rfl
noncomputable def lX0_joinRings_84 (k : Nat) (x2 : Int32) (x4 : Int32) (x6 : Int32) (s : Int32 × Int32 × Mem) : Option ((Int32 × Int32 × Mem) ⊕ (Int32 × Mem)) := (if x6 ≤ s.2.1 then some (.inr (s.1, s.2.2)) else (if (30 : Int32) ≤ s.1 then some (.inr (s.1, s.2.2)) else (fX0_at k x2 (x4 + s.2.1) s.2.2).bind fun q5 => (if inb s.1 30 then some (.inl ((s.1 + (1 : Int32)), (s.2.1 + (1 : Int32)), (mput s.2.2 (cw k 25) s.1.toNatClampNeg q5))) else none)))
noncomputable def gX0_joinRings_84 (xs : List Int32) (d : Nat) (r : jR) (K : Mem → List jE) (k : Nat) (x2 : Int32) (x4 : Int32) (x6 : Int32) (s : Int32 × Int32 × Mem) : Prop := ∀ L, jget L 0 = some (.ref (cw k 2)) → jget L 2 = some (.int x2) → jget L 4 = some (.int x4) → jget L 6 = some (.int x6) → jget L 3 = some (.int s.1) → jget L 7 = some (.int s.2.1) → RunD (jcs xs) d 8 (some .int) jt_X0_joinRings (84, L, [], (K s.2.2)) r
noncomputable def bX0_joinRings_62 (k : Nat) (x1 : Int32) (x2 : Int32) (x3 : Int32) (m : Mem) : Option (Int32 × Mem) := (fX0_placeOf k x2 x1 m).bind fun q3 => (fX0_sidesOf k x2 m).bind fun q4 => lp (lX0_joinRings_84 k x2 (q3 + (2 : Int32)) (q4 - (3 : Int32))) fu (x3, (0 : Int32), m)
noncomputable def lX0_joinRings_24 (k : Nat) (x1 : Int32) (x2 : Int32) (x4 : Int32) (x5 : Int32) (s : Int32 × Int32 × Mem) : Option ((Int32 × Int32 × Mem) ⊕ (Int32 × Mem)) := (if x5 ≤ s.2.1 then (bX0_joinRings_62 k x1 x2 s.1 s.2.2).map Sum.inr else (if (30 : Int32) ≤ s.1 then (bX0_joinRings_62 k x1 x2 s.1 s.2.2).map Sum.inr else (fX0_at k x1 (x4 + s.2.1) s.2.2).bind fun q7 => (if inb s.1 30 then some (.inl ((s.1 + (1 : Int32)), (s.2.1 + (1 : Int32)), (mput s.2.2 (cw k 25) s.1.toNatClampNeg q7))) else none)))
noncomputable def gX0_joinRings_24 (xs : List Int32) (d : Nat) (r : jR) (K : Mem → List jE) (k : Nat) (x1 : Int32) (x2 : Int32) (x4 : Int32) (x5 : Int32) (s : Int32 × Int32 × Mem) : Prop := ∀ L, jget L 0 = some (.ref (cw k 2)) → jget L 1 = some (.int x1) → jget L 2 = some (.int x2) → jget L 4 = some (.int x4) → jget L 5 = some (.int x5) → jget L 3 = some (.int s.1) → jget L 6 = some (.int s.2.1) → RunD (jcs xs) d 8 (some .int) jt_X0_joinRings (24, L, [], (K s.2.2)) r
noncomputable def fX0_joinRings (k : Nat) (x1 : Int32) (x2 : Int32) (m : Mem) : Option (Int32 × Mem) := (fX0_placeOf k x1 x2 m).bind fun q1 => (fX0_sidesOf k x1 m).bind fun q2 => lp (lX0_joinRings_24 k x1 x2 (q1 + (1 : Int32)) (q2 - (1 : Int32))) fu ((0 : Int32), (0 : Int32), m)
theorem BX0_joinRings_84 {xs : List Int32} {d : Nat} {r : jR} {K : Mem → List jE} (hK : Ctx shC K) (hd : 2 ≤ d) {k : Nat} (hk : k < 3)  {x2 : Int32} {x4 : Int32} {x6 : Int32} (s : Int32 × Int32 × Mem) {t : (Int32 × Int32 × Mem) ⊕ (Int32 × Mem)} (h : lX0_joinRings_84 k x2 x4 x6 s = some t) (hq : sQ (gX0_joinRings_84 xs d r K k x2 x4 x6) (qIM r K) t) : gX0_joinRings_84 xs d r K k x2 x4 x6 s := by
  intro L l0 l2 l4 l6 l3 l7
  unfold lX0_joinRings_84 at h
  refine R_iload (p := 86) rfl l7 rfl ?_
  refine R_iload (p := 88) rfl l6 rfl ?_
  by_cases hc : x6 ≤ s.2.1
  · replace h := ite_t h hc
    refine R_icge_t rfl hc ?_
    refine R_iload_n (p := 123) rfl l3 rfl ?_
    obtain rfl := Option.some.inj h
    exact R_ireturn rfl rfl hq
  · replace h := ite_f h hc
    refine R_icge_f (p := 91) rfl hc rfl ?_
    refine R_iload_n (p := 92) rfl l3 rfl ?_
    refine R_bipush (p := 94) rfl kb_30 rfl ?_
    by_cases hc : (30 : Int32) ≤ s.1
    · replace h := ite_t h hc
      refine R_icge_t rfl hc ?_
      refine R_iload_n (p := 123) rfl l3 rfl ?_
      obtain rfl := Option.some.inj h
      exact R_ireturn rfl rfl hq
    · replace h := ite_f h hc
      refine R_icge_f (p := 97) rfl hc rfl ?_
      refine R_aload_n (p := 98) rfl l0 rfl ?_
      refine R_getR (p := 101) (q := (cw k 25)) hK rfl (s_w2 hk) rfl rfl ?_
      refine R_iload_n (p := 102) rfl l3 rfl ?_
      refine R_aload_n (p := 103) rfl l0 rfl ?_
      refine R_iload_n (p := 104) rfl l2 rfl ?_
      refine R_iload (p := 106) rfl l4 rfl ?_
      refine R_iload (p := 108) rfl l7 rfl ?_
      refine R_iadd (p := 109) rfl rfl ?_
      obtain ⟨q5, eq5, h⟩ := bind_some h
      refine R_cV3v (p := 112) hK rfl (s_w2 hk) (tfX0_at hK (Nat.le_trans (by decide) hd) hk eq5) rfl rfl ?_
      obtain ⟨b6, h⟩ := gd h
      refine R_iast (p := 113) hK rfl (s_w25 hk) b6 rfl ?_
      refine R_iinc (p := 116) rfl l3 rfl ki_1 rfl ?_
      refine R_iinc (p := 119) rfl (jg_ne l7 rfl) rfl ki_1 rfl ?_
      refine R_goto rfl ?_
      obtain rfl := Option.some.inj h
      exact hq _ (jg_ne (jg_ne l0 rfl) rfl) (jg_ne (jg_ne l2 rfl) rfl) (jg_ne (jg_ne l4 rfl) rfl) (jg_ne (jg_ne l6 rfl) rfl) (jg_ne jg_self rfl) jg_self
theorem LX0_joinRings_84 {xs : List Int32} {d : Nat} {r : jR} {K : Mem → List jE} (hK : Ctx shC K) (hd : 2 ≤ d) {k : Nat} (hk : k < 3)  {x2 : Int32} {x4 : Int32} {x6 : Int32} (n : Nat) (s : Int32 × Int32 × Mem) {t : (Int32 × Mem)} (h : lp (lX0_joinRings_84 k x2 x4 x6) n s = some t) (hq : (qIM r K) t) : gX0_joinRings_84 xs d r K k x2 x4 x6 s := lp_ind (G := gX0_joinRings_84 xs d r K k x2 x4 x6) (Qe := (qIM r K)) (fun s t h hq => BX0_joinRings_84 hK hd hk s h hq) n s t h hq
theorem tbX0_joinRings_62 {xs : List Int32} {d : Nat} {r : jR} {K : Mem → List jE} (hK : Ctx shC K) (hd : 2 ≤ d) {k : Nat} (hk : k < 3)  {x1 : Int32} {x2 : Int32} {x3 : Int32} {m : Mem} {L : List (Nat × Value)} (l0 : jget L 0 = some (.ref (cw k 2))) (l1 : jget L 1 = some (.int x1)) (l2 : jget L 2 = some (.int x2)) (l3 : jget L 3 = some (.int x3)) {t : (Int32 × Mem)} (h : bX0_joinRings_62 k x1 x2 x3 m = some t) (hq : (qIM r K) t) : RunD (jcs xs) d 8 (some .int) jt_X0_joinRings (62, L, [], (K m)) r := by
  unfold bX0_joinRings_62 at h
  refine R_aload_n (p := 63) rfl l0 rfl ?_
  refine R_iload_n (p := 64) rfl l2 rfl ?_
  refine R_iload_n (p := 65) rfl l1 rfl ?_
  obtain ⟨q3, eq3, h⟩ := bind_some h
  refine R_cV3v (p := 68) hK rfl (s_w2 hk) (tfX0_placeOf hK (Nat.le_trans (by decide) hd) hk eq3) rfl rfl ?_
  refine R_iconst (p := 69) rfl ki_2 rfl ?_
  refine R_iadd (p := 70) rfl rfl ?_
  refine R_istore (p := 72) rfl rfl rfl ?_
  refine R_aload_n (p := 73) rfl (jg_ne l0 rfl) rfl ?_
  refine R_iload_n (p := 74) rfl (jg_ne l2 rfl) rfl ?_
  obtain ⟨q4, eq4, h⟩ := bind_some h
  refine R_cV2v (p := 77) hK rfl (s_w2 hk) (tfX0_sidesOf hK (Nat.le_trans (by decide) hd) hk eq4) rfl rfl ?_
  refine R_iconst (p := 78) rfl ki_3 rfl ?_
  refine R_isub (p := 79) rfl rfl ?_
  refine R_istore (p := 81) rfl rfl rfl ?_
  refine R_iconst (p := 82) rfl ki_0 rfl ?_
  refine R_istore (p := 84) rfl rfl rfl ?_
  exact LX0_joinRings_84 hK hd hk _ _ h hq _ (jg_ne (jg_ne (jg_ne l0 rfl) rfl) rfl) (jg_ne (jg_ne (jg_ne l2 rfl) rfl) rfl) (jg_ne (jg_ne jg_self rfl) rfl) (jg_ne jg_self rfl) (jg_ne (jg_ne (jg_ne l3 rfl) rfl) rfl) jg_self
theorem BX0_joinRings_24 {xs : List Int32} {d : Nat} {r : jR} {K : Mem → List jE} (hK : Ctx shC K) (hd : 2 ≤ d) {k : Nat} (hk : k < 3)  {x1 : Int32} {x2 : Int32} {x4 : Int32} {x5 : Int32} (s : Int32 × Int32 × Mem) {t : (Int32 × Int32 × Mem) ⊕ (Int32 × Mem)} (h : lX0_joinRings_24 k x1 x2 x4 x5 s = some t) (hq : sQ (gX0_joinRings_24 xs d r K k x1 x2 x4 x5) (qIM r K) t) : gX0_joinRings_24 xs d r K k x1 x2 x4 x5 s := by
  intro L l0 l1 l2 l4 l5 l3 l6
  unfold lX0_joinRings_24 at h
  refine R_iload (p := 26) rfl l6 rfl ?_
  refine R_iload (p := 28) rfl l5 rfl ?_
  by_cases hc : x5 ≤ s.2.1
  · replace h := ite_t h hc
    refine R_icge_t rfl hc ?_
    obtain ⟨w9, h9, rfl⟩ := map_inr h
    replace h := h9
    exact tbX0_joinRings_62 hK hd hk l0 l1 l2 l3 h hq
  · replace h := ite_f h hc
    refine R_icge_f (p := 31) rfl hc rfl ?_
    refine R_iload_n (p := 32) rfl l3 rfl ?_
    refine R_bipush (p := 34) rfl kb_30 rfl ?_
    by_cases hc : (30 : Int32) ≤ s.1
    · replace h := ite_t h hc
      refine R_icge_t rfl hc ?_
      obtain ⟨w9, h9, rfl⟩ := map_inr h
      replace h := h9
      exact tbX0_joinRings_62 hK hd hk l0 l1 l2 l3 h hq
    · replace h := ite_f h hc
      refine R_icge_f (p := 37) rfl hc rfl ?_
      refine R_aload_n (p := 38) rfl l0 rfl ?_
      refine R_getR (p := 41) (q := (cw k 25)) hK rfl (s_w2 hk) rfl rfl ?_
      refine R_iload_n (p := 42) rfl l3 rfl ?_
      refine R_aload_n (p := 43) rfl l0 rfl ?_
      refine R_iload_n (p := 44) rfl l1 rfl ?_
      refine R_iload (p := 46) rfl l4 rfl ?_
      refine R_iload (p := 48) rfl l6 rfl ?_
      refine R_iadd (p := 49) rfl rfl ?_
      obtain ⟨q7, eq7, h⟩ := bind_some h
      refine R_cV3v (p := 52) hK rfl (s_w2 hk) (tfX0_at hK (Nat.le_trans (by decide) hd) hk eq7) rfl rfl ?_
      obtain ⟨b8, h⟩ := gd h
      refine R_iast (p := 53) hK rfl (s_w25 hk) b8 rfl ?_
      refine R_iinc (p := 56) rfl l3 rfl ki_1 rfl ?_
      refine R_iinc (p := 59) rfl (jg_ne l6 rfl) rfl ki_1 rfl ?_
      refine R_goto rfl ?_
      obtain rfl := Option.some.inj h
      exact hq _ (jg_ne (jg_ne l0 rfl) rfl) (jg_ne (jg_ne l1 rfl) rfl) (jg_ne (jg_ne l2 rfl) rfl) (jg_ne (jg_ne l4 rfl) rfl) (jg_ne (jg_ne l5 rfl) rfl) (jg_ne jg_self rfl) jg_self
theorem LX0_joinRings_24 {xs : List Int32} {d : Nat} {r : jR} {K : Mem → List jE} (hK : Ctx shC K) (hd : 2 ≤ d) {k : Nat} (hk : k < 3)  {x1 : Int32} {x2 : Int32} {x4 : Int32} {x5 : Int32} (n : Nat) (s : Int32 × Int32 × Mem) {t : (Int32 × Mem)} (h : lp (lX0_joinRings_24 k x1 x2 x4 x5) n s = some t) (hq : (qIM r K) t) : gX0_joinRings_24 xs d r K k x1 x2 x4 x5 s := lp_ind (G := gX0_joinRings_24 xs d r K k x1 x2 x4 x5) (Qe := (qIM r K)) (fun s t h hq => BX0_joinRings_24 hK hd hk s h hq) n s t h hq
theorem ufX0_joinRings {xs : List Int32} {d : Nat} {r : jR} {K : Mem → List jE} (hK : Ctx shC K) (hd : 2 ≤ d) {k : Nat} (hk : k < 3) {x1 : Int32} {x2 : Int32} {m : Mem} {L : List (Nat × Value)} (l0 : jget L 0 = some (.ref (cw k 2))) (l1 : jget L 1 = some (.int x1)) (l2 : jget L 2 = some (.int x2)) {t : (Int32 × Mem)} (h : fX0_joinRings k x1 x2 m = some t) (hq : (qIM r K) t) : RunD (jcs xs) d 8 (some .int) jt_X0_joinRings (0, L, [], (K m)) r := by
  unfold fX0_joinRings at h
  refine R_iconst (p := 1) rfl ki_0 rfl ?_
  refine R_istore_n (p := 2) rfl rfl rfl ?_
  refine R_aload_n (p := 3) rfl (jg_ne l0 rfl) rfl ?_
  refine R_iload_n (p := 4) rfl (jg_ne l1 rfl) rfl ?_
  refine R_iload_n (p := 5) rfl (jg_ne l2 rfl) rfl ?_
  obtain ⟨q1, eq1, h⟩ := bind_some h
  refine R_cV3v (p := 8) hK rfl (s_w2 hk) (tfX0_placeOf hK (Nat.le_trans (by decide) hd) hk eq1) rfl rfl ?_
  refine R_iconst (p := 9) rfl ki_1 rfl ?_
  refine R_iadd (p := 10) rfl rfl ?_
  refine R_istore (p := 12) rfl rfl rfl ?_
  refine R_aload_n (p := 13) rfl (jg_ne (jg_ne l0 rfl) rfl) rfl ?_
  refine R_iload_n (p := 14) rfl (jg_ne (jg_ne l1 rfl) rfl) rfl ?_
  obtain ⟨q2, eq2, h⟩ := bind_some h
  refine R_cV2v (p := 17) hK rfl (s_w2 hk) (tfX0_sidesOf hK (Nat.le_trans (by decide) hd) hk eq2) rfl rfl ?_
  refine R_iconst (p := 18) rfl ki_1 rfl ?_
  refine R_isub (p := 19) rfl rfl ?_
  refine R_istore (p := 21) rfl rfl rfl ?_
  refine R_iconst (p := 22) rfl ki_0 rfl ?_
  refine R_istore (p := 24) rfl rfl rfl ?_
  exact LX0_joinRings_24 hK hd hk _ _ h hq _ (jg_ne (jg_ne (jg_ne (jg_ne l0 rfl) rfl) rfl) rfl) (jg_ne (jg_ne (jg_ne (jg_ne l1 rfl) rfl) rfl) rfl) (jg_ne (jg_ne (jg_ne (jg_ne l2 rfl) rfl) rfl) rfl) (jg_ne (jg_ne jg_self rfl) rfl) (jg_ne jg_self rfl) (jg_ne (jg_ne (jg_ne jg_self rfl) rfl) rfl) jg_self
theorem tfX0_joinRings {xs : List Int32} {d : Nat} {K : Mem → List jE} (hK : Ctx shC K) (hd : 3 ≤ d) {k : Nat} (hk : k < 3) {x1 : Int32} {x2 : Int32} {m : Mem} {t : (Int32 × Mem)} (h : fX0_joinRings k x1 x2 m = some t) : CallD (jcs xs) d 26 [.ref (cw k 2), .int x1, .int x2] (K m) (some (.int t.1), K t.2) := by
  obtain ⟨d, rfl⟩ : ∃ z, d = z + 1 := ⟨d - 1, by omega⟩
  refine CallD_of jmt_X0_joinRings rfl ⟨rfl, Nat.le_of_ble_eq_true rfl⟩ ?_
  exact ufX0_joinRings hK (Nat.le_of_succ_le_succ hd) hk rfl rfl rfl h rfl
noncomputable def fX0_standForBoth (k : Nat) (x1 : Int32) (x2 : Int32) (x3 : Int32) (m : Mem) : Option Mem := (fX0_placeOf k x1 x3 m).bind fun q1 => (fX0_placeOf k x1 x2 m).bind fun q2 => (if q2 < 0 then (if q1 < 0 then some m else (if (30 : Int32) ≤ q1 then some m else (if inb x1 16 then (if inb q1 30 then some (mput m (cw k (9 + x1.toNatClampNeg)) q1.toNatClampNeg x2) else none) else none))) else (fX0_takeOut k x1 x3 m).bind fun q5 => some q5)
theorem ufX0_standForBoth {xs : List Int32} {d : Nat} {r : jR} {K : Mem → List jE} (hK : Ctx shC K) (hd : 2 ≤ d) {k : Nat} (hk : k < 3) {x1 : Int32} {x2 : Int32} {x3 : Int32} {m : Mem} {L : List (Nat × Value)} (l0 : jget L 0 = some (.ref (cw k 2))) (l1 : jget L 1 = some (.int x1)) (l2 : jget L 2 = some (.int x2)) (l3 : jget L 3 = some (.int x3)) {t : Mem} (h : fX0_standForBoth k x1 x2 x3 m = some t) (hq : (qM r K) t) : RunD (jcs xs) d 5 (none) jt_X0_standForBoth (0, L, [], (K m)) r := by
  unfold fX0_standForBoth at h
  refine R_aload_n (p := 1) rfl l0 rfl ?_
  refine R_iload_n (p := 2) rfl l1 rfl ?_
  refine R_iload_n (p := 3) rfl l3 rfl ?_
  obtain ⟨q1, eq1, h⟩ := bind_some h
  refine R_cV3v (p := 6) hK rfl (s_w2 hk) (tfX0_placeOf hK (Nat.le_trans (by decide) hd) hk eq1) rfl rfl ?_
  refine R_istore (p := 8) rfl rfl rfl ?_
  refine R_aload_n (p := 9) rfl (jg_ne l0 rfl) rfl ?_
  refine R_iload_n (p := 10) rfl (jg_ne l1 rfl) rfl ?_
  refine R_iload_n (p := 11) rfl (jg_ne l2 rfl) rfl ?_
  obtain ⟨q2, eq2, h⟩ := bind_some h
  refine R_cV3v (p := 14) hK rfl (s_w2 hk) (tfX0_placeOf hK (Nat.le_trans (by decide) hd) hk eq2) rfl rfl ?_
  by_cases hc : q2 < 0
  · replace h := ite_t h hc
    refine R_iflt_t rfl hc ?_
    refine R_iload (p := 28) rfl jg_self rfl ?_
    by_cases hc : q1 < 0
    · replace h := ite_t h hc
      refine R_iflt_t rfl hc ?_
      obtain rfl := Option.some.inj h
      exact R_return rfl rfl hq
    · replace h := ite_f h hc
      refine R_iflt_f (p := 31) rfl hc rfl ?_
      refine R_iload (p := 33) rfl jg_self rfl ?_
      refine R_bipush (p := 35) rfl kb_30 rfl ?_
      by_cases hc : (30 : Int32) ≤ q1
      · replace h := ite_t h hc
        refine R_icge_t rfl hc ?_
        obtain rfl := Option.some.inj h
        exact R_return rfl rfl hq
      · replace h := ite_f h hc
        refine R_icge_f (p := 38) rfl hc rfl ?_
        refine R_aload_n (p := 39) rfl (jg_ne l0 rfl) rfl ?_
        refine R_getR (p := 42) (q := (cw k 8)) hK rfl (s_w2 hk) rfl rfl ?_
        refine R_iload_n (p := 43) rfl (jg_ne l1 rfl) rfl ?_
        obtain ⟨b3, h⟩ := gd h
        refine R_aald (p := 44) (q := (cw k (9 + x1.toNatClampNeg))) hK rfl (s_w8 hk) (by decide) b3.1 (l_ring b3.2) rfl ?_
        refine R_iload (p := 46) rfl jg_self rfl ?_
        refine R_iload_n (p := 47) rfl (jg_ne l2 rfl) rfl ?_
        obtain ⟨b4, h⟩ := gd h
        refine R_iast (p := 48) hK rfl (s_ring hk b3.2) b4 rfl ?_
        obtain rfl := Option.some.inj h
        exact R_return rfl rfl hq
  · replace h := ite_f h hc
    refine R_iflt_f (p := 17) rfl hc rfl ?_
    refine R_aload_n (p := 18) rfl (jg_ne l0 rfl) rfl ?_
    refine R_iload_n (p := 19) rfl (jg_ne l1 rfl) rfl ?_
    refine R_iload_n (p := 20) rfl (jg_ne l3 rfl) rfl ?_
    obtain ⟨q5, eq5, h⟩ := bind_some h
    refine R_cV3n (p := 23) hK rfl (s_w2 hk) (tfX0_takeOut hK (Nat.le_trans (by decide) hd) hk eq5) rfl rfl ?_
    refine R_goto rfl ?_
    obtain rfl := Option.some.inj h
    exact R_return rfl rfl hq
theorem tfX0_standForBoth {xs : List Int32} {d : Nat} {K : Mem → List jE} (hK : Ctx shC K) (hd : 3 ≤ d) {k : Nat} (hk : k < 3) {x1 : Int32} {x2 : Int32} {x3 : Int32} {m : Mem} {t : Mem} (h : fX0_standForBoth k x1 x2 x3 m = some t) : CallD (jcs xs) d 27 [.ref (cw k 2), .int x1, .int x2, .int x3] (K m) (none, K t) := by
  obtain ⟨d, rfl⟩ : ∃ z, d = z + 1 := ⟨d - 1, by omega⟩
  refine CallD_of jmt_X0_standForBoth rfl ⟨rfl, Nat.le_of_ble_eq_true rfl⟩ ?_
  exact ufX0_standForBoth hK (Nat.le_of_succ_le_succ hd) hk rfl rfl rfl rfl h rfl
noncomputable def lX0_unite_43 (k : Nat) (x3 : Int32) (x4 : Int32) (x5 : Int32) (s : Int32 × Mem) : Option ((Int32 × Mem) ⊕ Mem) := (if (16 : Int32) ≤ s.1 then (if inb x3 16 then (if cpin (0 : Int32) (0 : Int32) x5 30 30 then (if inb x3 16 then (if inb x3 16 then (if inb x3 16 then (if inb x4 16 then (if inb x3 16 then (if inb x3 16 then (if inb x4 16 then (if inb x3 16 then (fX0_bury k x4 (mput (mput (mput (mput (mcpy s.2 (cw k 25) (cw k (9 + x3.toNatClampNeg)) 0 0 x5.toNatClampNeg) (cw k 7) x3.toNatClampNeg x5) (cw k 3) x3.toNatClampNeg (6 : Int32)) (cw k 4) x3.toNatClampNeg (fJ9_min_7cf53 (99999 : Int32) (((mput (mput (mcpy s.2 (cw k 25) (cw k (9 + x3.toNatClampNeg)) 0 0 x5.toNatClampNeg) (cw k 7) x3.toNatClampNeg x5) (cw k 3) x3.toNatClampNeg (6 : Int32)) (cw k 4) x3.toNatClampNeg) + ((mput (mput (mcpy s.2 (cw k 25) (cw k (9 + x3.toNatClampNeg)) 0 0 x5.toNatClampNeg) (cw k 7) x3.toNatClampNeg x5) (cw k 3) x3.toNatClampNeg (6 : Int32)) (cw k 4) x4.toNatClampNeg)))) (cw k 5) x3.toNatClampNeg (fJ9_min_7cf53 (99999 : Int32) (((mput (mput (mput (mcpy s.2 (cw k 25) (cw k (9 + x3.toNatClampNeg)) 0 0 x5.toNatClampNeg) (cw k 7) x3.toNatClampNeg x5) (cw k 3) x3.toNatClampNeg (6 : Int32)) (cw k 4) x3.toNatClampNeg (fJ9_min_7cf53 (99999 : Int32) (((mput (mput (mcpy s.2 (cw k 25) (cw k (9 + x3.toNatClampNeg)) 0 0 x5.toNatClampNeg) (cw k 7) x3.toNatClampNeg x5) (cw k 3) x3.toNatClampNeg (6 : Int32)) (cw k 4) x3.toNatClampNeg) + ((mput (mput (mcpy s.2 (cw k 25) (cw k (9 + x3.toNatClampNeg)) 0 0 x5.toNatClampNeg) (cw k 7) x3.toNatClampNeg x5) (cw k 3) x3.toNatClampNeg (6 : Int32)) (cw k 4) x4.toNatClampNeg)))) (cw k 5) x3.toNatClampNeg) + ((mput (mput (mput (mcpy s.2 (cw k 25) (cw k (9 + x3.toNatClampNeg)) 0 0 x5.toNatClampNeg) (cw k 7) x3.toNatClampNeg x5) (cw k 3) x3.toNatClampNeg (6 : Int32)) (cw k 4) x3.toNatClampNeg (fJ9_min_7cf53 (99999 : Int32) (((mput (mput (mcpy s.2 (cw k 25) (cw k (9 + x3.toNatClampNeg)) 0 0 x5.toNatClampNeg) (cw k 7) x3.toNatClampNeg x5) (cw k 3) x3.toNatClampNeg (6 : Int32)) (cw k 4) x3.toNatClampNeg) + ((mput (mput (mcpy s.2 (cw k 25) (cw k (9 + x3.toNatClampNeg)) 0 0 x5.toNatClampNeg) (cw k 7) x3.toNatClampNeg x5) (cw k 3) x3.toNatClampNeg (6 : Int32)) (cw k 4) x4.toNatClampNeg)))) (cw k 5) x4.toNatClampNeg))))).bind fun q18 => some (.inr (mput q18 (cw k 2) 8 ((q18 (cw k 2) 8) + (1 : Int32)))) else none) else none) else none) else none) else none) else none) else none) else none) else none) else none) else (if s.1 = x3 then some (.inl ((s.1 + (1 : Int32)), s.2)) else (fX0_placeOf k s.1 x4 s.2).bind fun q19 => (if q19 < 0 then some (.inl ((s.1 + (1 : Int32)), s.2)) else (fX0_standForBoth k s.1 x3 x4 s.2).bind fun q20 => some (.inl ((s.1 + (1 : Int32)), q20)))))
noncomputable def gX0_unite_43 (xs : List Int32) (d : Nat) (r : jR) (K : Mem → List jE) (k : Nat) (x3 : Int32) (x4 : Int32) (x5 : Int32) (s : Int32 × Mem) : Prop := ∀ L, jget L 0 = some (.ref (cw k 2)) → jget L 3 = some (.int x3) → jget L 4 = some (.int x4) → jget L 5 = some (.int x5) → jget L 6 = some (.int s.1) → RunD (jcs xs) d 7 (none) jt_X0_unite (43, L, [], (K s.2)) r
noncomputable def fX0_unite (k : Nat) (x1 : Int32) (x2 : Int32) (m : Mem) : Option Mem := (if (fX0_has k (fJ9_min_7cf53 x1 x2) m) = 0 then some m else (if (fX0_has k (fJ9_max_7cf53 x1 x2) m) = 0 then some m else (fX0_joinRings k (fJ9_min_7cf53 x1 x2) (fJ9_max_7cf53 x1 x2) m).bind fun q5 => lp (lX0_unite_43 k (fJ9_min_7cf53 x1 x2) (fJ9_max_7cf53 x1 x2) q5.1) fu ((0 : Int32), q5.2)))
theorem BX0_unite_43 {xs : List Int32} {d : Nat} {r : jR} {K : Mem → List jE} (hK : Ctx shC K) (hd : 3 ≤ d) {k : Nat} (hk : k < 3)  {x3 : Int32} {x4 : Int32} {x5 : Int32} (s : Int32 × Mem) {t : (Int32 × Mem) ⊕ Mem} (h : lX0_unite_43 k x3 x4 x5 s = some t) (hq : sQ (gX0_unite_43 xs d r K k x3 x4 x5) (qM r K) t) : gX0_unite_43 xs d r K k x3 x4 x5 s := by
  intro L l0 l3 l4 l5 l6
  unfold lX0_unite_43 at h
  refine R_iload (p := 45) rfl l6 rfl ?_
  refine R_bipush (p := 47) rfl kb_16 rfl ?_
  by_cases hc : (16 : Int32) ≤ s.1
  · replace h := ite_t h hc
    refine R_icge_t rfl hc ?_
    refine R_aload_n (p := 83) rfl l0 rfl ?_
    refine R_getR (p := 86) (q := (cw k 25)) hK rfl (s_w2 hk) rfl rfl ?_
    refine R_iconst (p := 87) rfl ki_0 rfl ?_
    refine R_aload_n (p := 88) rfl l0 rfl ?_
    refine R_getR (p := 91) (q := (cw k 8)) hK rfl (s_w2 hk) rfl rfl ?_
    refine R_iload_n (p := 92) rfl l3 rfl ?_
    obtain ⟨b6, h⟩ := gd h
    refine R_aald (p := 93) (q := (cw k (9 + x3.toNatClampNeg))) hK rfl (s_w8 hk) (by decide) b6.1 (l_ring b6.2) rfl ?_
    refine R_iconst (p := 94) rfl ki_0 rfl ?_
    refine R_iload (p := 96) rfl l5 rfl ?_
    obtain ⟨b7, h⟩ := gd h
    refine R_copk (p := 99) hK rfl (s_w25 hk) (s_ring hk b6.2) b7 kn_0.1 kn_0.1 rfl rfl rfl ?_
    refine R_aload_n (p := 100) rfl l0 rfl ?_
    refine R_getR (p := 103) (q := (cw k 7)) hK rfl (s_w2 hk) rfl rfl ?_
    refine R_iload_n (p := 104) rfl l3 rfl ?_
    refine R_iload (p := 106) rfl l5 rfl ?_
    obtain ⟨b8, h⟩ := gd h
    refine R_iast (p := 107) hK rfl (s_w7 hk) b8 rfl ?_
    refine R_aload_n (p := 108) rfl l0 rfl ?_
    refine R_getR (p := 111) (q := (cw k 3)) hK rfl (s_w2 hk) rfl rfl ?_
    refine R_iload_n (p := 112) rfl l3 rfl ?_
    refine R_bipush (p := 114) rfl kb_6 rfl ?_
    obtain ⟨b9, h⟩ := gd h
    refine R_iast (p := 115) hK rfl (s_w3 hk) b9 rfl ?_
    refine R_aload_n (p := 116) rfl l0 rfl ?_
    refine R_getR (p := 119) (q := (cw k 4)) hK rfl (s_w2 hk) rfl rfl ?_
    refine R_iload_n (p := 120) rfl l3 rfl ?_
    refine R_ldc (p := 122) rfl kl_99999 rfl ?_
    refine R_aload_n (p := 123) rfl l0 rfl ?_
    refine R_getR (p := 126) (q := (cw k 4)) hK rfl (s_w2 hk) rfl rfl ?_
    refine R_iload_n (p := 127) rfl l3 rfl ?_
    obtain ⟨b10, h⟩ := gd h
    refine R_iald (p := 128) hK rfl (s_w4 hk) b10 rfl ?_
    refine R_aload_n (p := 129) rfl l0 rfl ?_
    refine R_getR (p := 132) (q := (cw k 4)) hK rfl (s_w2 hk) rfl rfl ?_
    refine R_iload (p := 134) rfl l4 rfl ?_
    obtain ⟨b11, h⟩ := gd h
    refine R_iald (p := 135) hK rfl (s_w4 hk) b11 rfl ?_
    refine R_iadd (p := 136) rfl rfl ?_
    refine R_cS2v (p := 139) rfl (tfJ9_min_7cf53 (Nat.le_trans (by decide) hd) ) rfl rfl ?_
    obtain ⟨b13, h⟩ := gd h
    refine R_iast (p := 140) hK rfl (s_w4 hk) b13 rfl ?_
    refine R_aload_n (p := 141) rfl l0 rfl ?_
    refine R_getR (p := 144) (q := (cw k 5)) hK rfl (s_w2 hk) rfl rfl ?_
    refine R_iload_n (p := 145) rfl l3 rfl ?_
    refine R_ldc (p := 147) rfl kl_99999 rfl ?_
    refine R_aload_n (p := 148) rfl l0 rfl ?_
    refine R_getR (p := 151) (q := (cw k 5)) hK rfl (s_w2 hk) rfl rfl ?_
    refine R_iload_n (p := 152) rfl l3 rfl ?_
    obtain ⟨b14, h⟩ := gd h
    refine R_iald (p := 153) hK rfl (s_w5 hk) b14 rfl ?_
    refine R_aload_n (p := 154) rfl l0 rfl ?_
    refine R_getR (p := 157) (q := (cw k 5)) hK rfl (s_w2 hk) rfl rfl ?_
    refine R_iload (p := 159) rfl l4 rfl ?_
    obtain ⟨b15, h⟩ := gd h
    refine R_iald (p := 160) hK rfl (s_w5 hk) b15 rfl ?_
    refine R_iadd (p := 161) rfl rfl ?_
    refine R_cS2v (p := 164) rfl (tfJ9_min_7cf53 (Nat.le_trans (by decide) hd) ) rfl rfl ?_
    obtain ⟨b17, h⟩ := gd h
    refine R_iast (p := 165) hK rfl (s_w5 hk) b17 rfl ?_
    refine R_aload_n (p := 166) rfl l0 rfl ?_
    refine R_iload (p := 168) rfl l4 rfl ?_
    obtain ⟨q18, eq18, h⟩ := bind_some h
    refine R_cV2n (p := 171) hK rfl (s_w2 hk) (tfX0_bury hK (Nat.le_trans (by decide) hd) hk eq18) rfl rfl ?_
    refine R_aload_n (p := 172) rfl l0 rfl ?_
    refine R_dupa (p := 173) rfl rfl ?_
    refine R_getI (p := 176) hK rfl (s_w2 hk) rfl rfl ?_
    refine R_iconst (p := 177) rfl ki_1 rfl ?_
    refine R_iadd (p := 178) rfl rfl ?_
    refine R_putI (p := 181) hK rfl (s_w2 hk) rfl rfl rfl ?_
    obtain rfl := Option.some.inj h
    exact R_return rfl rfl hq
  · replace h := ite_f h hc
    refine R_icge_f (p := 50) rfl hc rfl ?_
    refine R_iload (p := 52) rfl l6 rfl ?_
    refine R_iload_n (p := 53) rfl l3 rfl ?_
    by_cases hc : s.1 = x3
    · replace h := ite_t h hc
      refine R_iceq_t rfl hc ?_
      refine R_iinc (p := 79) rfl l6 rfl ki_1 rfl ?_
      refine R_goto rfl ?_
      obtain rfl := Option.some.inj h
      exact hq _ (jg_ne l0 rfl) (jg_ne l3 rfl) (jg_ne l4 rfl) (jg_ne l5 rfl) jg_self
    · replace h := ite_f h hc
      refine R_iceq_f (p := 56) rfl hc rfl ?_
      refine R_aload_n (p := 57) rfl l0 rfl ?_
      refine R_iload (p := 59) rfl l6 rfl ?_
      refine R_iload (p := 61) rfl l4 rfl ?_
      obtain ⟨q19, eq19, h⟩ := bind_some h
      refine R_cV3v (p := 64) hK rfl (s_w2 hk) (tfX0_placeOf hK (Nat.le_trans (by decide) hd) hk eq19) rfl rfl ?_
      by_cases hc : q19 < 0
      · replace h := ite_t h hc
        refine R_iflt_t rfl hc ?_
        refine R_iinc (p := 79) rfl l6 rfl ki_1 rfl ?_
        refine R_goto rfl ?_
        obtain rfl := Option.some.inj h
        exact hq _ (jg_ne l0 rfl) (jg_ne l3 rfl) (jg_ne l4 rfl) (jg_ne l5 rfl) jg_self
      · replace h := ite_f h hc
        refine R_iflt_f (p := 67) rfl hc rfl ?_
        refine R_aload_n (p := 68) rfl l0 rfl ?_
        refine R_iload (p := 70) rfl l6 rfl ?_
        refine R_iload_n (p := 71) rfl l3 rfl ?_
        refine R_iload (p := 73) rfl l4 rfl ?_
        obtain ⟨q20, eq20, h⟩ := bind_some h
        refine R_cV4n (p := 76) hK rfl (s_w2 hk) (tfX0_standForBoth hK (Nat.le_trans (by decide) hd) hk eq20) rfl rfl ?_
        refine R_iinc (p := 79) rfl l6 rfl ki_1 rfl ?_
        refine R_goto rfl ?_
        obtain rfl := Option.some.inj h
        exact hq _ (jg_ne l0 rfl) (jg_ne l3 rfl) (jg_ne l4 rfl) (jg_ne l5 rfl) jg_self
theorem LX0_unite_43 {xs : List Int32} {d : Nat} {r : jR} {K : Mem → List jE} (hK : Ctx shC K) (hd : 3 ≤ d) {k : Nat} (hk : k < 3)  {x3 : Int32} {x4 : Int32} {x5 : Int32} (n : Nat) (s : Int32 × Mem) {t : Mem} (h : lp (lX0_unite_43 k x3 x4 x5) n s = some t) (hq : (qM r K) t) : gX0_unite_43 xs d r K k x3 x4 x5 s := lp_ind (G := gX0_unite_43 xs d r K k x3 x4 x5) (Qe := (qM r K)) (fun s t h hq => BX0_unite_43 hK hd hk s h hq) n s t h hq
theorem ufX0_unite {xs : List Int32} {d : Nat} {r : jR} {K : Mem → List jE} (hK : Ctx shC K) (hd : 3 ≤ d) {k : Nat} (hk : k < 3) {x1 : Int32} {x2 : Int32} {m : Mem} {L : List (Nat × Value)} (l0 : jget L 0 = some (.ref (cw k 2))) (l1 : jget L 1 = some (.int x1)) (l2 : jget L 2 = some (.int x2)) {t : Mem} (h : fX0_unite k x1 x2 m = some t) (hq : (qM r K) t) : RunD (jcs xs) d 7 (none) jt_X0_unite (0, L, [], (K m)) r := by
  unfold fX0_unite at h
  refine R_iload_n (p := 1) rfl l1 rfl ?_
  refine R_iload_n (p := 2) rfl l2 rfl ?_
  refine R_cS2v (p := 5) rfl (tfJ9_min_7cf53 (Nat.le_trans (by decide) hd) ) rfl rfl ?_
  refine R_istore_n (p := 6) rfl rfl rfl ?_
  refine R_iload_n (p := 7) rfl (jg_ne l1 rfl) rfl ?_
  refine R_iload_n (p := 8) rfl (jg_ne l2 rfl) rfl ?_
  refine R_cS2v (p := 11) rfl (tfJ9_max_7cf53 (Nat.le_trans (by decide) hd) ) rfl rfl ?_
  refine R_istore (p := 13) rfl rfl rfl ?_
  refine R_aload_n (p := 14) rfl (jg_ne (jg_ne l0 rfl) rfl) rfl ?_
  refine R_iload_n (p := 15) rfl (jg_ne jg_self rfl) rfl ?_
  refine R_cV2v (p := 18) hK rfl (s_w2 hk) (tfX0_has hK (Nat.le_trans (by decide) hd) hk) rfl rfl ?_
  by_cases hc : (fX0_has k (fJ9_min_7cf53 x1 x2) m) = 0
  · replace h := ite_t h hc
    refine R_ifeq_t rfl hc ?_
    obtain rfl := Option.some.inj h
    exact R_return rfl rfl hq
  · replace h := ite_f h hc
    refine R_ifeq_f (p := 21) rfl hc rfl ?_
    refine R_aload_n (p := 22) rfl (jg_ne (jg_ne l0 rfl) rfl) rfl ?_
    refine R_iload (p := 24) rfl jg_self rfl ?_
    refine R_cV2v (p := 27) hK rfl (s_w2 hk) (tfX0_has hK (Nat.le_trans (by decide) hd) hk) rfl rfl ?_
    by_cases hc : (fX0_has k (fJ9_max_7cf53 x1 x2) m) = 0
    · replace h := ite_t h hc
      refine R_ifne_f (p := 30) rfl (fun z => z hc) rfl ?_
      obtain rfl := Option.some.inj h
      exact R_return rfl rfl hq
    · replace h := ite_f h hc
      refine R_ifne_t rfl hc ?_
      refine R_aload_n (p := 32) rfl (jg_ne (jg_ne l0 rfl) rfl) rfl ?_
      refine R_iload_n (p := 33) rfl (jg_ne jg_self rfl) rfl ?_
      refine R_iload (p := 35) rfl jg_self rfl ?_
      obtain ⟨q5, eq5, h⟩ := bind_some h
      refine R_cV3v (p := 38) hK rfl (s_w2 hk) (tfX0_joinRings hK (Nat.le_trans (by decide) hd) hk eq5) rfl rfl ?_
      refine R_istore (p := 40) rfl rfl rfl ?_
      refine R_iconst (p := 41) rfl ki_0 rfl ?_
      refine R_istore (p := 43) rfl rfl rfl ?_
      exact LX0_unite_43 hK hd hk _ _ h hq _ (jg_ne (jg_ne (jg_ne (jg_ne l0 rfl) rfl) rfl) rfl) (jg_ne (jg_ne (jg_ne jg_self rfl) rfl) rfl) (jg_ne (jg_ne jg_self rfl) rfl) (jg_ne jg_self rfl) jg_self
theorem tfX0_unite {xs : List Int32} {d : Nat} {K : Mem → List jE} (hK : Ctx shC K) (hd : 4 ≤ d) {k : Nat} (hk : k < 3) {x1 : Int32} {x2 : Int32} {m : Mem} {t : Mem} (h : fX0_unite k x1 x2 m = some t) : CallD (jcs xs) d 25 [.ref (cw k 2), .int x1, .int x2] (K m) (none, K t) := by
  obtain ⟨d, rfl⟩ : ∃ z, d = z + 1 := ⟨d - 1, by omega⟩
  refine CallD_of jmt_X0_unite rfl ⟨rfl, Nat.le_of_ble_eq_true rfl⟩ ?_
  exact ufX0_unite hK (Nat.le_of_succ_le_succ hd) hk rfl rfl rfl h rfl
noncomputable def fX8_burst (x1 : Int32) (x2 : Int32) (m : Mem) : Option (Int32 × Mem) := (if (fX8_areBubbles x1 x2 m) = 0 then (fX8_no (1 : Int32) m).bind fun q2 => some (q2.1, q2.2) else (fX0_canBurst 0 x1 x2 m).bind fun q3 => (if q3 = 0 then (fX8_no (3 : Int32) m).bind fun q4 => some (q4.1, q4.2) else (fX0_unite 0 x1 x2 m).bind fun q5 => some ((fJ9_min_7cf53 x1 x2), q5)))
theorem ufX8_burst {xs : List Int32} {d : Nat} {r : jR} {K : Mem → List jE} (hK : Ctx shC K) (hd : 4 ≤ d) {x1 : Int32} {x2 : Int32} {m : Mem} {L : List (Nat × Value)} (l0 : jget L 0 = some (.ref 0)) (l1 : jget L 1 = some (.int x1)) (l2 : jget L 2 = some (.int x2)) {t : (Int32 × Mem)} (h : fX8_burst x1 x2 m = some t) (hq : (qIM r K) t) : RunD (jcs xs) d 3 (some .int) jt_X8_burst (0, L, [], (K m)) r := by
  unfold fX8_burst at h
  refine R_aload_n (p := 1) rfl l0 rfl ?_
  refine R_iload_n (p := 2) rfl l1 rfl ?_
  refine R_iload_n (p := 3) rfl l2 rfl ?_
  refine R_cV3v (p := 6) hK rfl rfl (tfX8_areBubbles hK (Nat.le_trans (by decide) hd) ) rfl rfl ?_
  by_cases hc : (fX8_areBubbles x1 x2 m) = 0
  · replace h := ite_t h hc
    refine R_ifne_f (p := 9) rfl (fun z => z hc) rfl ?_
    refine R_aload_n (p := 10) rfl l0 rfl ?_
    refine R_iconst (p := 11) rfl ki_1 rfl ?_
    obtain ⟨q2, eq2, h⟩ := bind_some h
    refine R_cV2v (p := 14) hK rfl rfl (tfX8_no hK (Nat.le_trans (by decide) hd)  eq2) rfl rfl ?_
    obtain rfl := Option.some.inj h
    exact R_ireturn rfl rfl hq
  · replace h := ite_f h hc
    refine R_ifne_t rfl hc ?_
    refine R_aload_n (p := 16) rfl l0 rfl ?_
    refine R_getR (p := 19) (q := (cw 0 1)) hK rfl rfl rfl rfl ?_
    refine R_getR (p := 22) (q := (cw 0 2)) hK rfl (s_w1 (by decide)) rfl rfl ?_
    refine R_iload_n (p := 23) rfl l1 rfl ?_
    refine R_iload_n (p := 24) rfl l2 rfl ?_
    obtain ⟨q3, eq3, h⟩ := bind_some h
    refine R_cV3v (p := 27) hK rfl (s_w2 (by decide)) (tfX0_canBurst hK (Nat.le_trans (by decide) hd) (by decide) eq3) rfl rfl ?_
    by_cases hc : q3 = 0
    · replace h := ite_t h hc
      refine R_ifne_f (p := 30) rfl (fun z => z hc) rfl ?_
      refine R_aload_n (p := 31) rfl l0 rfl ?_
      refine R_iconst (p := 32) rfl ki_3 rfl ?_
      obtain ⟨q4, eq4, h⟩ := bind_some h
      refine R_cV2v (p := 35) hK rfl rfl (tfX8_no hK (Nat.le_trans (by decide) hd)  eq4) rfl rfl ?_
      obtain rfl := Option.some.inj h
      exact R_ireturn rfl rfl hq
    · replace h := ite_f h hc
      refine R_ifne_t rfl hc ?_
      refine R_aload_n (p := 37) rfl l0 rfl ?_
      refine R_getR (p := 40) (q := (cw 0 1)) hK rfl rfl rfl rfl ?_
      refine R_getR (p := 43) (q := (cw 0 2)) hK rfl (s_w1 (by decide)) rfl rfl ?_
      refine R_iload_n (p := 44) rfl l1 rfl ?_
      refine R_iload_n (p := 45) rfl l2 rfl ?_
      obtain ⟨q5, eq5, h⟩ := bind_some h
      refine R_cV3n (p := 48) hK rfl (s_w2 (by decide)) (tfX0_unite hK (Nat.le_trans (by decide) hd) (by decide) eq5) rfl rfl ?_
      refine R_iload_n (p := 49) rfl l1 rfl ?_
      refine R_iload_n (p := 50) rfl l2 rfl ?_
      refine R_cS2v (p := 53) rfl (tfJ9_min_7cf53 (Nat.le_trans (by decide) hd) ) rfl rfl ?_
      obtain rfl := Option.some.inj h
      exact R_ireturn rfl rfl hq
theorem tfX8_burst {xs : List Int32} {d : Nat} {K : Mem → List jE} (hK : Ctx shC K) (hd : 5 ≤ d) {x1 : Int32} {x2 : Int32} {m : Mem} {t : (Int32 × Mem)} (h : fX8_burst x1 x2 m = some t) : CallD (jcs xs) d 115 [.ref 0, .int x1, .int x2] (K m) (some (.int t.1), K t.2) := by
  obtain ⟨d, rfl⟩ : ∃ z, d = z + 1 := ⟨d - 1, by omega⟩
  refine CallD_of jmt_X8_burst rfl ⟨rfl, Nat.le_of_ble_eq_true rfl⟩ ?_
  exact ufX8_burst hK (Nat.le_of_succ_le_succ hd) rfl rfl rfl h rfl
noncomputable def lX9_bursts_213 (x3 : Int32) (x4 : Int32) (x7 : Int32) (s : Int32 × Mem) : Option ((Int32 × Mem) ⊕ (Int32 × Mem)) := (if x7 ≤ s.1 then (fX9_tells x3 (5 : Int32) x7 s.2).bind fun q7 => (fX9_tells x3 (1 : Int32) (6 : Int32) q7).bind fun q8 => (fX9_of x3 (2 : Int32) q8).bind fun q9 => (fX9_of x4 (2 : Int32) q8).bind fun q10 => (fX9_tells x3 (2 : Int32) (fJ9_min_7cf53 (99999 : Int32) (q9 + q10)) q8).bind fun q12 => (fX9_of x3 (3 : Int32) q12).bind fun q13 => (fX9_of x4 (3 : Int32) q12).bind fun q14 => (fX9_tells x3 (3 : Int32) (fJ9_min_7cf53 (99999 : Int32) (q13 + q14)) q12).bind fun q16 => (fX9_tells x4 (0 : Int32) (0 : Int32) q16).bind fun q17 => some (.inr (x3, (mput q17 138 10 ((q17 138 10) + (1 : Int32))))) else (if inb s.1 100 then (fX9_tells x3 ((6 : Int32) + s.1) (s.2 142 s.1.toNatClampNeg) s.2).bind fun q19 => some (.inl ((s.1 + (1 : Int32)), q19)) else none))
noncomputable def gX9_bursts_213 (xs : List Int32) (d : Nat) (r : jR) (K : Mem → List jE) (x3 : Int32) (x4 : Int32) (x7 : Int32) (s : Int32 × Mem) : Prop := ∀ L, jget L 0 = some (.ref 137) → jget L 3 = some (.int x3) → jget L 4 = some (.int x4) → jget L 7 = some (.int x7) → jget L 8 = some (.int s.1) → RunD (jcs xs) d 9 (some .int) jt_X9_bursts (213, L, [], (K s.2)) r
noncomputable def lX9_bursts_119 (x3 : Int32) (x4 : Int32) (x7 : Int32) (s : Int32 × Mem) : Option ((Int32 × Mem) ⊕ (Int32 × Mem)) := (if (16 : Int32) ≤ s.1 then (lp (lX9_bursts_213 x3 x4 x7) fu ((0 : Int32), s.2)).map Sum.inr else (if s.1 = x3 then some (.inl ((s.1 + (1 : Int32)), s.2)) else (if s.1 = x4 then some (.inl ((s.1 + (1 : Int32)), s.2)) else (fX9_is s.1 s.2).bind fun q20 => (if q20 = 0 then some (.inl ((s.1 + (1 : Int32)), s.2)) else (fX9_isWall s.1 x4 s.2).bind fun q21 => (if q21 = 0 then some (.inl ((s.1 + (1 : Int32)), s.2)) else (fX9_isWall s.1 x3 s.2).bind fun q22 => (if q22 = 0 then (fX9_placeIn s.1 x4 s.2).bind fun q23 => (fX9_tells s.1 ((6 : Int32) + q23) x3 s.2).bind fun q24 => some (.inl ((s.1 + (1 : Int32)), q24)) else (fX9_placeIn s.1 x4 s.2).bind fun q25 => (fX9_shuts s.1 q25 s.2).bind fun q26 => some (.inl ((s.1 + (1 : Int32)), q26))))))))
noncomputable def gX9_bursts_119 (xs : List Int32) (d : Nat) (r : jR) (K : Mem → List jE) (x3 : Int32) (x4 : Int32) (x7 : Int32) (s : Int32 × Mem) : Prop := ∀ L, jget L 0 = some (.ref 137) → jget L 3 = some (.int x3) → jget L 4 = some (.int x4) → jget L 7 = some (.int x7) → jget L 8 = some (.int s.1) → RunD (jcs xs) d 9 (some .int) jt_X9_bursts (119, L, [], (K s.2)) r
noncomputable def lX9_bursts_76 (x3 : Int32) (x4 : Int32) (x6 : Int32) (s : Int32 × Int32 × Mem) : Option ((Int32 × Int32 × Mem) ⊕ (Int32 × Mem)) := (fX9_sidesOf x4 s.2.2).bind fun q6 => (if (q6 - (1 : Int32)) ≤ s.2.1 then (lp (lX9_bursts_119 x3 x4 s.1) fu ((0 : Int32), s.2.2)).map Sum.inr else (fX9_at x4 (x6 + s.2.1) s.2.2).bind fun q27 => (if inb s.1 100 then some (.inl ((s.1 + (1 : Int32)), (s.2.1 + (1 : Int32)), (mput s.2.2 142 s.1.toNatClampNeg q27))) else none))
noncomputable def gX9_bursts_76 (xs : List Int32) (d : Nat) (r : jR) (K : Mem → List jE) (x3 : Int32) (x4 : Int32) (x6 : Int32) (s : Int32 × Int32 × Mem) : Prop := ∀ L, jget L 0 = some (.ref 137) → jget L 3 = some (.int x3) → jget L 4 = some (.int x4) → jget L 6 = some (.int x6) → jget L 7 = some (.int s.1) → jget L 8 = some (.int s.2.1) → RunD (jcs xs) d 9 (some .int) jt_X9_bursts (76, L, [], (K s.2.2)) r
noncomputable def lX9_bursts_37 (x3 : Int32) (x4 : Int32) (x5 : Int32) (x6 : Int32) (s : Int32 × Int32 × Mem) : Option ((Int32 × Int32 × Mem) ⊕ (Int32 × Mem)) := (fX9_sidesOf x3 s.2.2).bind fun q5 => (if q5 ≤ s.2.1 then (lp (lX9_bursts_76 x3 x4 x6) fu (s.1, (2 : Int32), s.2.2)).map Sum.inr else (fX9_at x3 (x5 + s.2.1) s.2.2).bind fun q29 => (if inb s.1 100 then some (.inl ((s.1 + (1 : Int32)), (s.2.1 + (1 : Int32)), (mput s.2.2 142 s.1.toNatClampNeg q29))) else none))
noncomputable def gX9_bursts_37 (xs : List Int32) (d : Nat) (r : jR) (K : Mem → List jE) (x3 : Int32) (x4 : Int32) (x5 : Int32) (x6 : Int32) (s : Int32 × Int32 × Mem) : Prop := ∀ L, jget L 0 = some (.ref 137) → jget L 3 = some (.int x3) → jget L 4 = some (.int x4) → jget L 5 = some (.int x5) → jget L 6 = some (.int x6) → jget L 7 = some (.int s.1) → jget L 8 = some (.int s.2.1) → RunD (jcs xs) d 9 (some .int) jt_X9_bursts (37, L, [], (K s.2.2)) r
noncomputable def fX9_bursts (x1 : Int32) (x2 : Int32) (m : Mem) : Option (Int32 × Mem) := (fX9_placeIn (fJ9_min_7cf53 x1 x2) (fJ9_max_7cf53 x1 x2) m).bind fun q3 => (fX9_placeIn (fJ9_max_7cf53 x1 x2) (fJ9_min_7cf53 x1 x2) m).bind fun q4 => lp (lX9_bursts_37 (fJ9_min_7cf53 x1 x2) (fJ9_max_7cf53 x1 x2) q3 q4) fu ((0 : Int32), (1 : Int32), m)
theorem BX9_bursts_213 {xs : List Int32} {d : Nat} {r : jR} {K : Mem → List jE} (hK : Ctx shR K) (hd : 4 ≤ d)  {x3 : Int32} {x4 : Int32} {x7 : Int32} (s : Int32 × Mem) {t : (Int32 × Mem) ⊕ (Int32 × Mem)} (h : lX9_bursts_213 x3 x4 x7 s = some t) (hq : sQ (gX9_bursts_213 xs d r K x3 x4 x7) (qIM r K) t) : gX9_bursts_213 xs d r K x3 x4 x7 s := by
  intro L l0 l3 l4 l7 l8
  unfold lX9_bursts_213 at h
  refine R_iload (p := 215) rfl l8 rfl ?_
  refine R_iload (p := 217) rfl l7 rfl ?_
  by_cases hc : x7 ≤ s.1
  · replace h := ite_t h hc
    refine R_icge_t rfl hc ?_
    refine R_aload_n (p := 244) rfl l0 rfl ?_
    refine R_iload_n (p := 245) rfl l3 rfl ?_
    refine R_iconst (p := 246) rfl ki_5 rfl ?_
    refine R_iload (p := 248) rfl l7 rfl ?_
    obtain ⟨q7, eq7, h⟩ := bind_some h
    refine R_cV4n (p := 251) hK rfl rfl (tfX9_tells hK (Nat.le_trans (by decide) hd)  eq7) rfl rfl ?_
    refine R_aload_n (p := 252) rfl l0 rfl ?_
    refine R_iload_n (p := 253) rfl l3 rfl ?_
    refine R_iconst (p := 254) rfl ki_1 rfl ?_
    refine R_bipush (p := 256) rfl kb_6 rfl ?_
    obtain ⟨q8, eq8, h⟩ := bind_some h
    refine R_cV4n (p := 259) hK rfl rfl (tfX9_tells hK (Nat.le_trans (by decide) hd)  eq8) rfl rfl ?_
    refine R_aload_n (p := 260) rfl l0 rfl ?_
    refine R_iload_n (p := 261) rfl l3 rfl ?_
    refine R_iconst (p := 262) rfl ki_2 rfl ?_
    refine R_ldc (p := 264) rfl kl_99999 rfl ?_
    refine R_aload_n (p := 265) rfl l0 rfl ?_
    refine R_iload_n (p := 266) rfl l3 rfl ?_
    refine R_iconst (p := 267) rfl ki_2 rfl ?_
    obtain ⟨q9, eq9, h⟩ := bind_some h
    refine R_cV3v (p := 270) hK rfl rfl (tfX9_of hK (Nat.le_trans (by decide) hd)  eq9) rfl rfl ?_
    refine R_aload_n (p := 271) rfl l0 rfl ?_
    refine R_iload (p := 273) rfl l4 rfl ?_
    refine R_iconst (p := 274) rfl ki_2 rfl ?_
    obtain ⟨q10, eq10, h⟩ := bind_some h
    refine R_cV3v (p := 277) hK rfl rfl (tfX9_of hK (Nat.le_trans (by decide) hd)  eq10) rfl rfl ?_
    refine R_iadd (p := 278) rfl rfl ?_
    refine R_cS2v (p := 281) rfl (tfJ9_min_7cf53 (Nat.le_trans (by decide) hd) ) rfl rfl ?_
    obtain ⟨q12, eq12, h⟩ := bind_some h
    refine R_cV4n (p := 284) hK rfl rfl (tfX9_tells hK (Nat.le_trans (by decide) hd)  eq12) rfl rfl ?_
    refine R_aload_n (p := 285) rfl l0 rfl ?_
    refine R_iload_n (p := 286) rfl l3 rfl ?_
    refine R_iconst (p := 287) rfl ki_3 rfl ?_
    refine R_ldc (p := 289) rfl kl_99999 rfl ?_
    refine R_aload_n (p := 290) rfl l0 rfl ?_
    refine R_iload_n (p := 291) rfl l3 rfl ?_
    refine R_iconst (p := 292) rfl ki_3 rfl ?_
    obtain ⟨q13, eq13, h⟩ := bind_some h
    refine R_cV3v (p := 295) hK rfl rfl (tfX9_of hK (Nat.le_trans (by decide) hd)  eq13) rfl rfl ?_
    refine R_aload_n (p := 296) rfl l0 rfl ?_
    refine R_iload (p := 298) rfl l4 rfl ?_
    refine R_iconst (p := 299) rfl ki_3 rfl ?_
    obtain ⟨q14, eq14, h⟩ := bind_some h
    refine R_cV3v (p := 302) hK rfl rfl (tfX9_of hK (Nat.le_trans (by decide) hd)  eq14) rfl rfl ?_
    refine R_iadd (p := 303) rfl rfl ?_
    refine R_cS2v (p := 306) rfl (tfJ9_min_7cf53 (Nat.le_trans (by decide) hd) ) rfl rfl ?_
    obtain ⟨q16, eq16, h⟩ := bind_some h
    refine R_cV4n (p := 309) hK rfl rfl (tfX9_tells hK (Nat.le_trans (by decide) hd)  eq16) rfl rfl ?_
    refine R_aload_n (p := 310) rfl l0 rfl ?_
    refine R_iload (p := 312) rfl l4 rfl ?_
    refine R_iconst (p := 313) rfl ki_0 rfl ?_
    refine R_iconst (p := 314) rfl ki_0 rfl ?_
    obtain ⟨q17, eq17, h⟩ := bind_some h
    refine R_cV4n (p := 317) hK rfl rfl (tfX9_tells hK (Nat.le_trans (by decide) hd)  eq17) rfl rfl ?_
    refine R_aload_n (p := 318) rfl l0 rfl ?_
    refine R_getR (p := 321) (q := 138) hK rfl rfl rfl rfl ?_
    refine R_bipush (p := 323) rfl kb_10 rfl ?_
    refine R_dup2ia (p := 324) rfl rfl ?_
    refine R_ialk (p := 325) hK rfl rfl (by decide) kn_10 rfl ?_
    refine R_iconst (p := 326) rfl ki_1 rfl ?_
    refine R_iadd (p := 327) rfl rfl ?_
    refine R_iask (p := 328) hK rfl rfl (by decide) kn_10 rfl ?_
    refine R_iload_n (p := 329) rfl l3 rfl ?_
    obtain rfl := Option.some.inj h
    exact R_ireturn rfl rfl hq
  · replace h := ite_f h hc
    refine R_icge_f (p := 220) rfl hc rfl ?_
    refine R_aload_n (p := 221) rfl l0 rfl ?_
    refine R_iload_n (p := 222) rfl l3 rfl ?_
    refine R_bipush (p := 224) rfl kb_6 rfl ?_
    refine R_iload (p := 226) rfl l8 rfl ?_
    refine R_iadd (p := 227) rfl rfl ?_
    refine R_aload_n (p := 228) rfl l0 rfl ?_
    refine R_getR (p := 231) (q := 142) hK rfl rfl rfl rfl ?_
    refine R_iload (p := 233) rfl l8 rfl ?_
    obtain ⟨b18, h⟩ := gd h
    refine R_iald (p := 234) hK rfl rfl b18 rfl ?_
    obtain ⟨q19, eq19, h⟩ := bind_some h
    refine R_cV4n (p := 237) hK rfl rfl (tfX9_tells hK (Nat.le_trans (by decide) hd)  eq19) rfl rfl ?_
    refine R_iinc (p := 240) rfl l8 rfl ki_1 rfl ?_
    refine R_goto rfl ?_
    obtain rfl := Option.some.inj h
    exact hq _ (jg_ne l0 rfl) (jg_ne l3 rfl) (jg_ne l4 rfl) (jg_ne l7 rfl) jg_self
theorem LX9_bursts_213 {xs : List Int32} {d : Nat} {r : jR} {K : Mem → List jE} (hK : Ctx shR K) (hd : 4 ≤ d)  {x3 : Int32} {x4 : Int32} {x7 : Int32} (n : Nat) (s : Int32 × Mem) {t : (Int32 × Mem)} (h : lp (lX9_bursts_213 x3 x4 x7) n s = some t) (hq : (qIM r K) t) : gX9_bursts_213 xs d r K x3 x4 x7 s := lp_ind (G := gX9_bursts_213 xs d r K x3 x4 x7) (Qe := (qIM r K)) (fun s t h hq => BX9_bursts_213 hK hd s h hq) n s t h hq
theorem BX9_bursts_119 {xs : List Int32} {d : Nat} {r : jR} {K : Mem → List jE} (hK : Ctx shR K) (hd : 4 ≤ d)  {x3 : Int32} {x4 : Int32} {x7 : Int32} (s : Int32 × Mem) {t : (Int32 × Mem) ⊕ (Int32 × Mem)} (h : lX9_bursts_119 x3 x4 x7 s = some t) (hq : sQ (gX9_bursts_119 xs d r K x3 x4 x7) (qIM r K) t) : gX9_bursts_119 xs d r K x3 x4 x7 s := by
  intro L l0 l3 l4 l7 l8
  unfold lX9_bursts_119 at h
  refine R_iload (p := 121) rfl l8 rfl ?_
  refine R_bipush (p := 123) rfl kb_16 rfl ?_
  by_cases hc : (16 : Int32) ≤ s.1
  · replace h := ite_t h hc
    refine R_icge_t rfl hc ?_
    refine R_iconst (p := 211) rfl ki_0 rfl ?_
    refine R_istore (p := 213) rfl rfl rfl ?_
    obtain ⟨w9, h9, rfl⟩ := map_inr h
    replace h := h9
    exact LX9_bursts_213 hK hd _ _ h hq _ (jg_ne l0 rfl) (jg_ne l3 rfl) (jg_ne l4 rfl) (jg_ne l7 rfl) jg_self
  · replace h := ite_f h hc
    refine R_icge_f (p := 126) rfl hc rfl ?_
    refine R_iload (p := 128) rfl l8 rfl ?_
    refine R_iload_n (p := 129) rfl l3 rfl ?_
    by_cases hc : s.1 = x3
    · replace h := ite_t h hc
      refine R_iceq_t rfl hc ?_
      refine R_iinc (p := 207) rfl l8 rfl ki_1 rfl ?_
      refine R_goto rfl ?_
      obtain rfl := Option.some.inj h
      exact hq _ (jg_ne l0 rfl) (jg_ne l3 rfl) (jg_ne l4 rfl) (jg_ne l7 rfl) jg_self
    · replace h := ite_f h hc
      refine R_iceq_f (p := 132) rfl hc rfl ?_
      refine R_iload (p := 134) rfl l8 rfl ?_
      refine R_iload (p := 136) rfl l4 rfl ?_
      by_cases hc : s.1 = x4
      · replace h := ite_t h hc
        refine R_iceq_t rfl hc ?_
        refine R_iinc (p := 207) rfl l8 rfl ki_1 rfl ?_
        refine R_goto rfl ?_
        obtain rfl := Option.some.inj h
        exact hq _ (jg_ne l0 rfl) (jg_ne l3 rfl) (jg_ne l4 rfl) (jg_ne l7 rfl) jg_self
      · replace h := ite_f h hc
        refine R_iceq_f (p := 139) rfl hc rfl ?_
        refine R_aload_n (p := 140) rfl l0 rfl ?_
        refine R_iload (p := 142) rfl l8 rfl ?_
        obtain ⟨q20, eq20, h⟩ := bind_some h
        refine R_cV2v (p := 145) hK rfl rfl (tfX9_is hK (Nat.le_trans (by decide) hd)  eq20) rfl rfl ?_
        by_cases hc : q20 = 0
        · replace h := ite_t h hc
          refine R_ifeq_t rfl hc ?_
          refine R_iinc (p := 207) rfl l8 rfl ki_1 rfl ?_
          refine R_goto rfl ?_
          obtain rfl := Option.some.inj h
          exact hq _ (jg_ne l0 rfl) (jg_ne l3 rfl) (jg_ne l4 rfl) (jg_ne l7 rfl) jg_self
        · replace h := ite_f h hc
          refine R_ifeq_f (p := 148) rfl hc rfl ?_
          refine R_aload_n (p := 149) rfl l0 rfl ?_
          refine R_iload (p := 151) rfl l8 rfl ?_
          refine R_iload (p := 153) rfl l4 rfl ?_
          obtain ⟨q21, eq21, h⟩ := bind_some h
          refine R_cV3v (p := 156) hK rfl rfl (tfX9_isWall hK (Nat.le_trans (by decide) hd)  eq21) rfl rfl ?_
          by_cases hc : q21 = 0
          · replace h := ite_t h hc
            refine R_ifeq_t rfl hc ?_
            refine R_iinc (p := 207) rfl l8 rfl ki_1 rfl ?_
            refine R_goto rfl ?_
            obtain rfl := Option.some.inj h
            exact hq _ (jg_ne l0 rfl) (jg_ne l3 rfl) (jg_ne l4 rfl) (jg_ne l7 rfl) jg_self
          · replace h := ite_f h hc
            refine R_ifeq_f (p := 159) rfl hc rfl ?_
            refine R_aload_n (p := 160) rfl l0 rfl ?_
            refine R_iload (p := 162) rfl l8 rfl ?_
            refine R_iload_n (p := 163) rfl l3 rfl ?_
            obtain ⟨q22, eq22, h⟩ := bind_some h
            refine R_cV3v (p := 166) hK rfl rfl (tfX9_isWall hK (Nat.le_trans (by decide) hd)  eq22) rfl rfl ?_
            by_cases hc : q22 = 0
            · replace h := ite_t h hc
              refine R_ifeq_t rfl hc ?_
              refine R_aload_n (p := 187) rfl l0 rfl ?_
              refine R_iload (p := 189) rfl l8 rfl ?_
              refine R_bipush (p := 191) rfl kb_6 rfl ?_
              refine R_aload_n (p := 192) rfl l0 rfl ?_
              refine R_iload (p := 194) rfl l8 rfl ?_
              refine R_iload (p := 196) rfl l4 rfl ?_
              obtain ⟨q23, eq23, h⟩ := bind_some h
              refine R_cV3v (p := 199) hK rfl rfl (tfX9_placeIn hK (Nat.le_trans (by decide) hd)  eq23) rfl rfl ?_
              refine R_iadd (p := 200) rfl rfl ?_
              refine R_iload_n (p := 201) rfl l3 rfl ?_
              obtain ⟨q24, eq24, h⟩ := bind_some h
              refine R_cV4n (p := 204) hK rfl rfl (tfX9_tells hK (Nat.le_trans (by decide) hd)  eq24) rfl rfl ?_
              refine R_iinc (p := 207) rfl l8 rfl ki_1 rfl ?_
              refine R_goto rfl ?_
              obtain rfl := Option.some.inj h
              exact hq _ (jg_ne l0 rfl) (jg_ne l3 rfl) (jg_ne l4 rfl) (jg_ne l7 rfl) jg_self
            · replace h := ite_f h hc
              refine R_ifeq_f (p := 169) rfl hc rfl ?_
              refine R_aload_n (p := 170) rfl l0 rfl ?_
              refine R_iload (p := 172) rfl l8 rfl ?_
              refine R_aload_n (p := 173) rfl l0 rfl ?_
              refine R_iload (p := 175) rfl l8 rfl ?_
              refine R_iload (p := 177) rfl l4 rfl ?_
              obtain ⟨q25, eq25, h⟩ := bind_some h
              refine R_cV3v (p := 180) hK rfl rfl (tfX9_placeIn hK (Nat.le_trans (by decide) hd)  eq25) rfl rfl ?_
              obtain ⟨q26, eq26, h⟩ := bind_some h
              refine R_cV3n (p := 183) hK rfl rfl (tfX9_shuts hK (Nat.le_trans (by decide) hd)  eq26) rfl rfl ?_
              refine R_goto rfl ?_
              refine R_iinc (p := 207) rfl l8 rfl ki_1 rfl ?_
              refine R_goto rfl ?_
              obtain rfl := Option.some.inj h
              exact hq _ (jg_ne l0 rfl) (jg_ne l3 rfl) (jg_ne l4 rfl) (jg_ne l7 rfl) jg_self
theorem LX9_bursts_119 {xs : List Int32} {d : Nat} {r : jR} {K : Mem → List jE} (hK : Ctx shR K) (hd : 4 ≤ d)  {x3 : Int32} {x4 : Int32} {x7 : Int32} (n : Nat) (s : Int32 × Mem) {t : (Int32 × Mem)} (h : lp (lX9_bursts_119 x3 x4 x7) n s = some t) (hq : (qIM r K) t) : gX9_bursts_119 xs d r K x3 x4 x7 s := lp_ind (G := gX9_bursts_119 xs d r K x3 x4 x7) (Qe := (qIM r K)) (fun s t h hq => BX9_bursts_119 hK hd s h hq) n s t h hq
theorem BX9_bursts_76 {xs : List Int32} {d : Nat} {r : jR} {K : Mem → List jE} (hK : Ctx shR K) (hd : 4 ≤ d)  {x3 : Int32} {x4 : Int32} {x6 : Int32} (s : Int32 × Int32 × Mem) {t : (Int32 × Int32 × Mem) ⊕ (Int32 × Mem)} (h : lX9_bursts_76 x3 x4 x6 s = some t) (hq : sQ (gX9_bursts_76 xs d r K x3 x4 x6) (qIM r K) t) : gX9_bursts_76 xs d r K x3 x4 x6 s := by
  intro L l0 l3 l4 l6 l7 l8
  unfold lX9_bursts_76 at h
  refine R_iload (p := 78) rfl l8 rfl ?_
  refine R_aload_n (p := 79) rfl l0 rfl ?_
  refine R_iload (p := 81) rfl l4 rfl ?_
  obtain ⟨q6, eq6, h⟩ := bind_some h
  refine R_cV2v (p := 84) hK rfl rfl (tfX9_sidesOf hK (Nat.le_trans (by decide) hd)  eq6) rfl rfl ?_
  refine R_iconst (p := 85) rfl ki_1 rfl ?_
  refine R_isub (p := 86) rfl rfl ?_
  by_cases hc : (q6 - (1 : Int32)) ≤ s.2.1
  · replace h := ite_t h hc
    refine R_icge_t rfl hc ?_
    refine R_iconst (p := 117) rfl ki_0 rfl ?_
    refine R_istore (p := 119) rfl rfl rfl ?_
    obtain ⟨w9, h9, rfl⟩ := map_inr h
    replace h := h9
    exact LX9_bursts_119 hK hd _ _ h hq _ (jg_ne l0 rfl) (jg_ne l3 rfl) (jg_ne l4 rfl) (jg_ne l7 rfl) jg_self
  · replace h := ite_f h hc
    refine R_icge_f (p := 89) rfl hc rfl ?_
    refine R_aload_n (p := 90) rfl l0 rfl ?_
    refine R_getR (p := 93) (q := 142) hK rfl rfl rfl rfl ?_
    refine R_iload (p := 95) rfl l7 rfl ?_
    refine R_aload_n (p := 96) rfl l0 rfl ?_
    refine R_iload (p := 98) rfl l4 rfl ?_
    refine R_iload (p := 100) rfl l6 rfl ?_
    refine R_iload (p := 102) rfl l8 rfl ?_
    refine R_iadd (p := 103) rfl rfl ?_
    obtain ⟨q27, eq27, h⟩ := bind_some h
    refine R_cV3v (p := 106) hK rfl rfl (tfX9_at hK (Nat.le_trans (by decide) hd)  eq27) rfl rfl ?_
    obtain ⟨b28, h⟩ := gd h
    refine R_iast (p := 107) hK rfl rfl b28 rfl ?_
    refine R_iinc (p := 110) rfl l7 rfl ki_1 rfl ?_
    refine R_iinc (p := 113) rfl (jg_ne l8 rfl) rfl ki_1 rfl ?_
    refine R_goto rfl ?_
    obtain rfl := Option.some.inj h
    exact hq _ (jg_ne (jg_ne l0 rfl) rfl) (jg_ne (jg_ne l3 rfl) rfl) (jg_ne (jg_ne l4 rfl) rfl) (jg_ne (jg_ne l6 rfl) rfl) (jg_ne jg_self rfl) jg_self
theorem LX9_bursts_76 {xs : List Int32} {d : Nat} {r : jR} {K : Mem → List jE} (hK : Ctx shR K) (hd : 4 ≤ d)  {x3 : Int32} {x4 : Int32} {x6 : Int32} (n : Nat) (s : Int32 × Int32 × Mem) {t : (Int32 × Mem)} (h : lp (lX9_bursts_76 x3 x4 x6) n s = some t) (hq : (qIM r K) t) : gX9_bursts_76 xs d r K x3 x4 x6 s := lp_ind (G := gX9_bursts_76 xs d r K x3 x4 x6) (Qe := (qIM r K)) (fun s t h hq => BX9_bursts_76 hK hd s h hq) n s t h hq
theorem BX9_bursts_37 {xs : List Int32} {d : Nat} {r : jR} {K : Mem → List jE} (hK : Ctx shR K) (hd : 4 ≤ d)  {x3 : Int32} {x4 : Int32} {x5 : Int32} {x6 : Int32} (s : Int32 × Int32 × Mem) {t : (Int32 × Int32 × Mem) ⊕ (Int32 × Mem)} (h : lX9_bursts_37 x3 x4 x5 x6 s = some t) (hq : sQ (gX9_bursts_37 xs d r K x3 x4 x5 x6) (qIM r K) t) : gX9_bursts_37 xs d r K x3 x4 x5 x6 s := by
  intro L l0 l3 l4 l5 l6 l7 l8
  unfold lX9_bursts_37 at h
  refine R_iload (p := 39) rfl l8 rfl ?_
  refine R_aload_n (p := 40) rfl l0 rfl ?_
  refine R_iload_n (p := 41) rfl l3 rfl ?_
  obtain ⟨q5, eq5, h⟩ := bind_some h
  refine R_cV2v (p := 44) hK rfl rfl (tfX9_sidesOf hK (Nat.le_trans (by decide) hd)  eq5) rfl rfl ?_
  by_cases hc : q5 ≤ s.2.1
  · replace h := ite_t h hc
    refine R_icge_t rfl hc ?_
    refine R_iconst (p := 74) rfl ki_2 rfl ?_
    refine R_istore (p := 76) rfl rfl rfl ?_
    obtain ⟨w9, h9, rfl⟩ := map_inr h
    replace h := h9
    exact LX9_bursts_76 hK hd _ _ h hq _ (jg_ne l0 rfl) (jg_ne l3 rfl) (jg_ne l4 rfl) (jg_ne l6 rfl) (jg_ne l7 rfl) jg_self
  · replace h := ite_f h hc
    refine R_icge_f (p := 47) rfl hc rfl ?_
    refine R_aload_n (p := 48) rfl l0 rfl ?_
    refine R_getR (p := 51) (q := 142) hK rfl rfl rfl rfl ?_
    refine R_iload (p := 53) rfl l7 rfl ?_
    refine R_aload_n (p := 54) rfl l0 rfl ?_
    refine R_iload_n (p := 55) rfl l3 rfl ?_
    refine R_iload (p := 57) rfl l5 rfl ?_
    refine R_iload (p := 59) rfl l8 rfl ?_
    refine R_iadd (p := 60) rfl rfl ?_
    obtain ⟨q29, eq29, h⟩ := bind_some h
    refine R_cV3v (p := 63) hK rfl rfl (tfX9_at hK (Nat.le_trans (by decide) hd)  eq29) rfl rfl ?_
    obtain ⟨b30, h⟩ := gd h
    refine R_iast (p := 64) hK rfl rfl b30 rfl ?_
    refine R_iinc (p := 67) rfl l7 rfl ki_1 rfl ?_
    refine R_iinc (p := 70) rfl (jg_ne l8 rfl) rfl ki_1 rfl ?_
    refine R_goto rfl ?_
    obtain rfl := Option.some.inj h
    exact hq _ (jg_ne (jg_ne l0 rfl) rfl) (jg_ne (jg_ne l3 rfl) rfl) (jg_ne (jg_ne l4 rfl) rfl) (jg_ne (jg_ne l5 rfl) rfl) (jg_ne (jg_ne l6 rfl) rfl) (jg_ne jg_self rfl) jg_self
theorem LX9_bursts_37 {xs : List Int32} {d : Nat} {r : jR} {K : Mem → List jE} (hK : Ctx shR K) (hd : 4 ≤ d)  {x3 : Int32} {x4 : Int32} {x5 : Int32} {x6 : Int32} (n : Nat) (s : Int32 × Int32 × Mem) {t : (Int32 × Mem)} (h : lp (lX9_bursts_37 x3 x4 x5 x6) n s = some t) (hq : (qIM r K) t) : gX9_bursts_37 xs d r K x3 x4 x5 x6 s := lp_ind (G := gX9_bursts_37 xs d r K x3 x4 x5 x6) (Qe := (qIM r K)) (fun s t h hq => BX9_bursts_37 hK hd s h hq) n s t h hq
theorem ufX9_bursts {xs : List Int32} {d : Nat} {r : jR} {K : Mem → List jE} (hK : Ctx shR K) (hd : 4 ≤ d) {x1 : Int32} {x2 : Int32} {m : Mem} {L : List (Nat × Value)} (l0 : jget L 0 = some (.ref 137)) (l1 : jget L 1 = some (.int x1)) (l2 : jget L 2 = some (.int x2)) {t : (Int32 × Mem)} (h : fX9_bursts x1 x2 m = some t) (hq : (qIM r K) t) : RunD (jcs xs) d 9 (some .int) jt_X9_bursts (0, L, [], (K m)) r := by
  unfold fX9_bursts at h
  refine R_iload_n (p := 1) rfl l1 rfl ?_
  refine R_iload_n (p := 2) rfl l2 rfl ?_
  refine R_cS2v (p := 5) rfl (tfJ9_min_7cf53 (Nat.le_trans (by decide) hd) ) rfl rfl ?_
  refine R_istore_n (p := 6) rfl rfl rfl ?_
  refine R_iload_n (p := 7) rfl (jg_ne l1 rfl) rfl ?_
  refine R_iload_n (p := 8) rfl (jg_ne l2 rfl) rfl ?_
  refine R_cS2v (p := 11) rfl (tfJ9_max_7cf53 (Nat.le_trans (by decide) hd) ) rfl rfl ?_
  refine R_istore (p := 13) rfl rfl rfl ?_
  refine R_aload_n (p := 14) rfl (jg_ne (jg_ne l0 rfl) rfl) rfl ?_
  refine R_iload_n (p := 15) rfl (jg_ne jg_self rfl) rfl ?_
  refine R_iload (p := 17) rfl jg_self rfl ?_
  obtain ⟨q3, eq3, h⟩ := bind_some h
  refine R_cV3v (p := 20) hK rfl rfl (tfX9_placeIn hK (Nat.le_trans (by decide) hd)  eq3) rfl rfl ?_
  refine R_istore (p := 22) rfl rfl rfl ?_
  refine R_aload_n (p := 23) rfl (jg_ne (jg_ne (jg_ne l0 rfl) rfl) rfl) rfl ?_
  refine R_iload (p := 25) rfl (jg_ne jg_self rfl) rfl ?_
  refine R_iload_n (p := 26) rfl (jg_ne (jg_ne jg_self rfl) rfl) rfl ?_
  obtain ⟨q4, eq4, h⟩ := bind_some h
  refine R_cV3v (p := 29) hK rfl rfl (tfX9_placeIn hK (Nat.le_trans (by decide) hd)  eq4) rfl rfl ?_
  refine R_istore (p := 31) rfl rfl rfl ?_
  refine R_iconst (p := 32) rfl ki_0 rfl ?_
  refine R_istore (p := 34) rfl rfl rfl ?_
  refine R_iconst (p := 35) rfl ki_1 rfl ?_
  refine R_istore (p := 37) rfl rfl rfl ?_
  exact LX9_bursts_37 hK hd _ _ h hq _ (jg_ne (jg_ne (jg_ne (jg_ne (jg_ne (jg_ne l0 rfl) rfl) rfl) rfl) rfl) rfl) (jg_ne (jg_ne (jg_ne (jg_ne (jg_ne jg_self rfl) rfl) rfl) rfl) rfl) (jg_ne (jg_ne (jg_ne (jg_ne jg_self rfl) rfl) rfl) rfl) (jg_ne (jg_ne (jg_ne jg_self rfl) rfl) rfl) (jg_ne (jg_ne jg_self rfl) rfl) (jg_ne jg_self rfl) jg_self
theorem tfX9_bursts {xs : List Int32} {d : Nat} {K : Mem → List jE} (hK : Ctx shR K) (hd : 5 ≤ d) {x1 : Int32} {x2 : Int32} {m : Mem} {t : (Int32 × Mem)} (h : fX9_bursts x1 x2 m = some t) : CallD (jcs xs) d 185 [.ref 137, .int x1, .int x2] (K m) (some (.int t.1), K t.2) := by
  obtain ⟨d, rfl⟩ : ∃ z, d = z + 1 := ⟨d - 1, by omega⟩
  refine CallD_of jmt_X9_bursts rfl ⟨rfl, Nat.le_of_ble_eq_true rfl⟩ ?_
  exact ufX9_bursts hK (Nat.le_of_succ_le_succ hd) rfl rfl rfl h rfl
