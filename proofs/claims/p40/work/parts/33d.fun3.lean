noncomputable def bX9_burst_34 (m : Mem) : Option (Int32 × Mem) := (fX9_finding (-1000003 : Int32) m).bind fun q4 => some (q4.1, q4.2)
noncomputable def fX9_burst (x1 : Int32) (x2 : Int32) (m : Mem) : Option (Int32 × Mem) := (fX9_areTwo x1 x2 m).bind fun q1 => (if q1 = 0 then (fX9_finding (-1000001 : Int32) m).bind fun q2 => some (q2.1, q2.2) else (fX9_isWall x1 x2 m).bind fun q3 => (if q3 = 0 then bX9_burst_34 m else (fX9_canBurst x1 x2 m).bind fun q5 => (if q5 = 0 then bX9_burst_34 m else (fX9_bursts x1 x2 m).bind fun q6 => some (q6.1, q6.2))))
theorem tbX9_burst_34 {xs : List Int32} {d : Nat} {r : jR} {K : Mem → List jE} (hK : Ctx shR K) (hd : 5 ≤ d)  {m : Mem} {L : List (Nat × Value)} (l0 : jget L 0 = some (.ref 137)) {t : (Int32 × Mem)} (h : bX9_burst_34 m = some t) (hq : (qIM r K) t) : RunD (jcs xs) d 3 (some .int) jt_X9_burst (34, L, [], (K m)) r := by
  unfold bX9_burst_34 at h
  refine R_aload_n (p := 35) rfl l0 rfl ?_
  refine R_ldc (p := 37) rfl kl_m1000003 rfl ?_
  obtain ⟨q4, eq4, h⟩ := bind_some h
  refine R_cV2v (p := 40) hK rfl rfl (tfX9_finding hK (Nat.le_trans (by decide) hd)  eq4) rfl rfl ?_
  obtain rfl := Option.some.inj h
  exact R_ireturn rfl rfl hq
theorem ufX9_burst {xs : List Int32} {d : Nat} {r : jR} {K : Mem → List jE} (hK : Ctx shR K) (hd : 5 ≤ d) {x1 : Int32} {x2 : Int32} {m : Mem} {L : List (Nat × Value)} (l0 : jget L 0 = some (.ref 137)) (l1 : jget L 1 = some (.int x1)) (l2 : jget L 2 = some (.int x2)) {t : (Int32 × Mem)} (h : fX9_burst x1 x2 m = some t) (hq : (qIM r K) t) : RunD (jcs xs) d 3 (some .int) jt_X9_burst (0, L, [], (K m)) r := by
  unfold fX9_burst at h
  refine R_aload_n (p := 1) rfl l0 rfl ?_
  refine R_iload_n (p := 2) rfl l1 rfl ?_
  refine R_iload_n (p := 3) rfl l2 rfl ?_
  obtain ⟨q1, eq1, h⟩ := bind_some h
  refine R_cV3v (p := 6) hK rfl rfl (tfX9_areTwo hK (Nat.le_trans (by decide) hd)  eq1) rfl rfl ?_
  by_cases hc : q1 = 0
  · replace h := ite_t h hc
    refine R_ifne_f (p := 9) rfl (fun z => z hc) rfl ?_
    refine R_aload_n (p := 10) rfl l0 rfl ?_
    refine R_ldc (p := 12) rfl kl_m1000001 rfl ?_
    obtain ⟨q2, eq2, h⟩ := bind_some h
    refine R_cV2v (p := 15) hK rfl rfl (tfX9_finding hK (Nat.le_trans (by decide) hd)  eq2) rfl rfl ?_
    obtain rfl := Option.some.inj h
    exact R_ireturn rfl rfl hq
  · replace h := ite_f h hc
    refine R_ifne_t rfl hc ?_
    refine R_aload_n (p := 17) rfl l0 rfl ?_
    refine R_iload_n (p := 18) rfl l1 rfl ?_
    refine R_iload_n (p := 19) rfl l2 rfl ?_
    obtain ⟨q3, eq3, h⟩ := bind_some h
    refine R_cV3v (p := 22) hK rfl rfl (tfX9_isWall hK (Nat.le_trans (by decide) hd)  eq3) rfl rfl ?_
    by_cases hc : q3 = 0
    · replace h := ite_t h hc
      refine R_ifeq_t rfl hc ?_
      exact tbX9_burst_34 hK hd l0 h hq
    · replace h := ite_f h hc
      refine R_ifeq_f (p := 25) rfl hc rfl ?_
      refine R_aload_n (p := 26) rfl l0 rfl ?_
      refine R_iload_n (p := 27) rfl l1 rfl ?_
      refine R_iload_n (p := 28) rfl l2 rfl ?_
      obtain ⟨q5, eq5, h⟩ := bind_some h
      refine R_cV3v (p := 31) hK rfl rfl (tfX9_canBurst hK (Nat.le_trans (by decide) hd)  eq5) rfl rfl ?_
      by_cases hc : q5 = 0
      · replace h := ite_t h hc
        refine R_ifne_f (p := 34) rfl (fun z => z hc) rfl ?_
        exact tbX9_burst_34 hK hd l0 h hq
      · replace h := ite_f h hc
        refine R_ifne_t rfl hc ?_
        refine R_aload_n (p := 42) rfl l0 rfl ?_
        refine R_iload_n (p := 43) rfl l1 rfl ?_
        refine R_iload_n (p := 44) rfl l2 rfl ?_
        obtain ⟨q6, eq6, h⟩ := bind_some h
        refine R_cV3v (p := 47) hK rfl rfl (tfX9_bursts hK (Nat.le_trans (by decide) hd)  eq6) rfl rfl ?_
        obtain rfl := Option.some.inj h
        exact R_ireturn rfl rfl hq
theorem tfX9_burst {xs : List Int32} {d : Nat} {K : Mem → List jE} (hK : Ctx shR K) (hd : 6 ≤ d) {x1 : Int32} {x2 : Int32} {m : Mem} {t : (Int32 × Mem)} (h : fX9_burst x1 x2 m = some t) : CallD (jcs xs) d 190 [.ref 137, .int x1, .int x2] (K m) (some (.int t.1), K t.2) := by
  obtain ⟨d, rfl⟩ : ∃ z, d = z + 1 := ⟨d - 1, by omega⟩
  refine CallD_of jmt_X9_burst rfl ⟨rfl, Nat.le_of_ble_eq_true rfl⟩ ?_
  exact ufX9_burst hK (Nat.le_of_succ_le_succ hd) rfl rfl rfl h rfl
noncomputable def lX7_takeBytes_3 (k : Nat) (x1 : Int64) (x3 : Int32) (s : Int32 × Mem) : Option ((Int32 × Mem) ⊕ Mem) := (if x3 ≤ s.1 then some (.inr s.2) else (if (60 : Int32) ≤ (s.2 (cw k 1) 3) then some (.inr s.2) else (if inb (s.2 (cw k 1) 3) 60 then some (.inl ((s.1 + (1 : Int32)), (mput (mput s.2 (cw k 36) (s.2 (cw k 1) 3).toNatClampNeg (((lUshr x1 ((8 : Int32) * s.1)) &&& (255 : Int64)).toInt32)) (cw k 1) 3 (((mput s.2 (cw k 36) (s.2 (cw k 1) 3).toNatClampNeg (((lUshr x1 ((8 : Int32) * s.1)) &&& (255 : Int64)).toInt32)) (cw k 1) 3) + (1 : Int32))))) else none)))
noncomputable def gX7_takeBytes_3 (xs : List Int32) (d : Nat) (r : jR) (K : Mem → List jE) (k : Nat) (x1 : Int64) (x3 : Int32) (s : Int32 × Mem) : Prop := ∀ L, jget L 0 = some (.ref (cw k 1)) → jget L 1 = some (.long x1) → jget L 3 = some (.int x3) → jget L 4 = some (.int s.1) → RunD (jcs xs) d 5 (none) jt_X7_takeBytes (3, L, [], (K s.2)) r
noncomputable def fX7_takeBytes (k : Nat) (x1 : Int64) (x3 : Int32) (m : Mem) : Option Mem := lp (lX7_takeBytes_3 k x1 x3) fu ((0 : Int32), m)
theorem BX7_takeBytes_3 {xs : List Int32} {d : Nat} {r : jR} {K : Mem → List jE} (hK : Ctx shC K) (hd : 0 ≤ d) {k : Nat} (hk : k < 3)  {x1 : Int64} {x3 : Int32} (s : Int32 × Mem) {t : (Int32 × Mem) ⊕ Mem} (h : lX7_takeBytes_3 k x1 x3 s = some t) (hq : sQ (gX7_takeBytes_3 xs d r K k x1 x3) (qM r K) t) : gX7_takeBytes_3 xs d r K k x1 x3 s := by
  intro L l0 l1 l3 l4
  unfold lX7_takeBytes_3 at h
  refine R_iload (p := 5) rfl l4 rfl ?_
  refine R_iload_n (p := 6) rfl l3 rfl ?_
  by_cases hc : x3 ≤ s.1
  · replace h := ite_t h hc
    refine R_icge_t rfl hc ?_
    obtain rfl := Option.some.inj h
    exact R_return rfl rfl hq
  · replace h := ite_f h hc
    refine R_icge_f (p := 9) rfl hc rfl ?_
    refine R_aload_n (p := 10) rfl l0 rfl ?_
    refine R_getI (p := 13) hK rfl (s_w1 hk) rfl rfl ?_
    refine R_bipush (p := 15) rfl kb_60 rfl ?_
    by_cases hc : (60 : Int32) ≤ (s.2 (cw k 1) 3)
    · replace h := ite_t h hc
      refine R_icge_t rfl hc ?_
      obtain rfl := Option.some.inj h
      exact R_return rfl rfl hq
    · replace h := ite_f h hc
      refine R_icge_f (p := 18) rfl hc rfl ?_
      refine R_aload_n (p := 19) rfl l0 rfl ?_
      refine R_getR (p := 22) (q := (cw k 36)) hK rfl (s_w1 hk) rfl rfl ?_
      refine R_aload_n (p := 23) rfl l0 rfl ?_
      refine R_getI (p := 26) hK rfl (s_w1 hk) rfl rfl ?_
      refine R_lload_n (p := 27) rfl l1 rfl ?_
      refine R_bipush (p := 29) rfl kb_8 rfl ?_
      refine R_iload (p := 31) rfl l4 rfl ?_
      refine R_imul (p := 32) rfl rfl ?_
      refine R_lushr (p := 33) rfl rfl ?_
      refine R_ldc2_w (p := 36) rfl rfl ?_
      refine R_land (p := 37) rfl rfl ?_
      refine R_l2i (p := 38) rfl rfl ?_
      obtain ⟨b1, h⟩ := gd h
      refine R_iast (p := 39) hK rfl (s_w36 hk) b1 rfl ?_
      refine R_aload_n (p := 40) rfl l0 rfl ?_
      refine R_dupa (p := 41) rfl rfl ?_
      refine R_getI (p := 44) hK rfl (s_w1 hk) rfl rfl ?_
      refine R_iconst (p := 45) rfl ki_1 rfl ?_
      refine R_iadd (p := 46) rfl rfl ?_
      refine R_putI (p := 49) hK rfl (s_w1 hk) rfl rfl rfl ?_
      refine R_iinc (p := 52) rfl l4 rfl ki_1 rfl ?_
      refine R_goto rfl ?_
      obtain rfl := Option.some.inj h
      exact hq _ (jg_ne l0 rfl) (jg_ne l1 rfl) (jg_ne l3 rfl) jg_self
theorem LX7_takeBytes_3 {xs : List Int32} {d : Nat} {r : jR} {K : Mem → List jE} (hK : Ctx shC K) (hd : 0 ≤ d) {k : Nat} (hk : k < 3)  {x1 : Int64} {x3 : Int32} (n : Nat) (s : Int32 × Mem) {t : Mem} (h : lp (lX7_takeBytes_3 k x1 x3) n s = some t) (hq : (qM r K) t) : gX7_takeBytes_3 xs d r K k x1 x3 s := lp_ind (G := gX7_takeBytes_3 xs d r K k x1 x3) (Qe := (qM r K)) (fun s t h hq => BX7_takeBytes_3 hK hd hk s h hq) n s t h hq
theorem ufX7_takeBytes {xs : List Int32} {d : Nat} {r : jR} {K : Mem → List jE} (hK : Ctx shC K) (hd : 0 ≤ d) {k : Nat} (hk : k < 3) {x1 : Int64} {x3 : Int32} {m : Mem} {L : List (Nat × Value)} (l0 : jget L 0 = some (.ref (cw k 1))) (l1 : jget L 1 = some (.long x1)) (l3 : jget L 3 = some (.int x3)) {t : Mem} (h : fX7_takeBytes k x1 x3 m = some t) (hq : (qM r K) t) : RunD (jcs xs) d 5 (none) jt_X7_takeBytes (0, L, [], (K m)) r := by
  unfold fX7_takeBytes at h
  refine R_iconst (p := 1) rfl ki_0 rfl ?_
  refine R_istore (p := 3) rfl rfl rfl ?_
  exact LX7_takeBytes_3 hK hd hk _ _ h hq _ (jg_ne l0 rfl) (jg_ne l1 rfl) (jg_ne l3 rfl) jg_self
theorem tfX7_takeBytes {xs : List Int32} {d : Nat} {K : Mem → List jE} (hK : Ctx shC K) (hd : 1 ≤ d) {k : Nat} (hk : k < 3) {x1 : Int64} {x3 : Int32} {m : Mem} {t : Mem} (h : fX7_takeBytes k x1 x3 m = some t) : CallD (jcs xs) d 83 [.ref (cw k 1), .long x1, .int x3] (K m) (none, K t) := by
  obtain ⟨d, rfl⟩ : ∃ z, d = z + 1 := ⟨d - 1, by omega⟩
  refine CallD_of jmt_X7_takeBytes rfl ⟨rfl, Nat.le_of_ble_eq_true rfl⟩ ?_
  exact ufX7_takeBytes hK (Nat.le_of_succ_le_succ hd) hk rfl rfl rfl h rfl
noncomputable def fX8_feed (x1 : Int64) (x3 : Int32) (m : Mem) : Option (Int32 × Mem) := (if (fX8_within x3 (1 : Int32) (8 : Int32)) = 0 then (fX8_no (1 : Int32) m).bind fun q2 => some (q2.1, q2.2) else (if ((m (cw 0 1) 3) + x3) ≤ (60 : Int32) then (fX7_takeBytes 0 x1 x3 m).bind fun q3 => some ((q3 (cw 0 1) 3), q3) else (fX8_no (4 : Int32) m).bind fun q4 => some (q4.1, q4.2)))
theorem ufX8_feed {xs : List Int32} {d : Nat} {r : jR} {K : Mem → List jE} (hK : Ctx shC K) (hd : 1 ≤ d) {x1 : Int64} {x3 : Int32} {m : Mem} {L : List (Nat × Value)} (l0 : jget L 0 = some (.ref 0)) (l1 : jget L 1 = some (.long x1)) (l3 : jget L 3 = some (.int x3)) {t : (Int32 × Mem)} (h : fX8_feed x1 x3 m = some t) (hq : (qIM r K) t) : RunD (jcs xs) d 4 (some .int) jt_X8_feed (0, L, [], (K m)) r := by
  unfold fX8_feed at h
  refine R_iload_n (p := 1) rfl l3 rfl ?_
  refine R_iconst (p := 2) rfl ki_1 rfl ?_
  refine R_bipush (p := 4) rfl kb_8 rfl ?_
  refine R_cS3v (p := 7) rfl (tfX8_within (Nat.le_trans (by decide) hd) ) rfl rfl ?_
  by_cases hc : (fX8_within x3 (1 : Int32) (8 : Int32)) = 0
  · replace h := ite_t h hc
    refine R_ifne_f (p := 10) rfl (fun z => z hc) rfl ?_
    refine R_aload_n (p := 11) rfl l0 rfl ?_
    refine R_iconst (p := 12) rfl ki_1 rfl ?_
    obtain ⟨q2, eq2, h⟩ := bind_some h
    refine R_cV2v (p := 15) hK rfl rfl (tfX8_no hK (Nat.le_trans (by decide) hd)  eq2) rfl rfl ?_
    obtain rfl := Option.some.inj h
    exact R_ireturn rfl rfl hq
  · replace h := ite_f h hc
    refine R_ifne_t rfl hc ?_
    refine R_aload_n (p := 17) rfl l0 rfl ?_
    refine R_getR (p := 20) (q := (cw 0 1)) hK rfl rfl rfl rfl ?_
    refine R_getI (p := 23) hK rfl (s_w1 (by decide)) rfl rfl ?_
    refine R_iload_n (p := 24) rfl l3 rfl ?_
    refine R_iadd (p := 25) rfl rfl ?_
    refine R_bipush (p := 27) rfl kb_60 rfl ?_
    by_cases hc : ((m (cw 0 1) 3) + x3) ≤ (60 : Int32)
    · replace h := ite_t h hc
      refine R_icle_t rfl hc ?_
      refine R_aload_n (p := 37) rfl l0 rfl ?_
      refine R_getR (p := 40) (q := (cw 0 1)) hK rfl rfl rfl rfl ?_
      refine R_lload_n (p := 41) rfl l1 rfl ?_
      refine R_iload_n (p := 42) rfl l3 rfl ?_
      obtain ⟨q3, eq3, h⟩ := bind_some h
      refine R_cV3n (p := 45) hK rfl (s_w1 (by decide)) (tfX7_takeBytes hK (Nat.le_trans (by decide) hd) (by decide) eq3) rfl rfl ?_
      refine R_aload_n (p := 46) rfl l0 rfl ?_
      refine R_getR (p := 49) (q := (cw 0 1)) hK rfl rfl rfl rfl ?_
      refine R_getI (p := 52) hK rfl (s_w1 (by decide)) rfl rfl ?_
      obtain rfl := Option.some.inj h
      exact R_ireturn rfl rfl hq
    · replace h := ite_f h hc
      refine R_icle_f (p := 30) rfl hc rfl ?_
      refine R_aload_n (p := 31) rfl l0 rfl ?_
      refine R_iconst (p := 32) rfl ki_4 rfl ?_
      obtain ⟨q4, eq4, h⟩ := bind_some h
      refine R_cV2v (p := 35) hK rfl rfl (tfX8_no hK (Nat.le_trans (by decide) hd)  eq4) rfl rfl ?_
      obtain rfl := Option.some.inj h
      exact R_ireturn rfl rfl hq
theorem tfX8_feed {xs : List Int32} {d : Nat} {K : Mem → List jE} (hK : Ctx shC K) (hd : 2 ≤ d) {x1 : Int64} {x3 : Int32} {m : Mem} {t : (Int32 × Mem)} (h : fX8_feed x1 x3 m = some t) : CallD (jcs xs) d 117 [.ref 0, .long x1, .int x3] (K m) (some (.int t.1), K t.2) := by
  obtain ⟨d, rfl⟩ : ∃ z, d = z + 1 := ⟨d - 1, by omega⟩
  refine CallD_of jmt_X8_feed rfl ⟨rfl, Nat.le_of_ble_eq_true rfl⟩ ?_
  exact ufX8_feed hK (Nat.le_of_succ_le_succ hd) rfl rfl rfl h rfl
noncomputable def lX9_feed_40 (x1 : Int64) (x3 : Int32) (s : Int32 × Mem) : Option ((Int32 × Mem) ⊕ (Int32 × Mem)) := (if x3 ≤ s.1 then some (.inr ((s.2 138 1), s.2)) else (if inb ((812 : Int32) + (s.2 138 1)) 1082 then some (.inl ((s.1 + (1 : Int32)), (mput (mput s.2 138 ((812 : Int32) + (s.2 138 1)).toNatClampNeg (((lShr x1 ((8 : Int32) * s.1)) &&& (255 : Int64)).toInt32)) 138 1 (((mput s.2 138 ((812 : Int32) + (s.2 138 1)).toNatClampNeg (((lShr x1 ((8 : Int32) * s.1)) &&& (255 : Int64)).toInt32)) 138 1) + (1 : Int32))))) else none))
noncomputable def gX9_feed_40 (xs : List Int32) (d : Nat) (r : jR) (K : Mem → List jE) (x1 : Int64) (x3 : Int32) (s : Int32 × Mem) : Prop := ∀ L, jget L 0 = some (.ref 137) → jget L 1 = some (.long x1) → jget L 3 = some (.int x3) → jget L 4 = some (.int s.1) → RunD (jcs xs) d 5 (some .int) jt_X9_feed (40, L, [], (K s.2)) r
noncomputable def fX9_feed (x1 : Int64) (x3 : Int32) (m : Mem) : Option (Int32 × Mem) := (if (fX9_within x3 (1 : Int32) (8 : Int32)) = 0 then (fX9_finding (-1000001 : Int32) m).bind fun q2 => some (q2.1, q2.2) else (if ((m 138 1) + x3) ≤ (60 : Int32) then lp (lX9_feed_40 x1 x3) fu ((0 : Int32), m) else (fX9_finding (-1000004 : Int32) m).bind fun q4 => some (q4.1, q4.2)))
theorem BX9_feed_40 {xs : List Int32} {d : Nat} {r : jR} {K : Mem → List jE} (hK : Ctx shR K) (hd : 1 ≤ d)  {x1 : Int64} {x3 : Int32} (s : Int32 × Mem) {t : (Int32 × Mem) ⊕ (Int32 × Mem)} (h : lX9_feed_40 x1 x3 s = some t) (hq : sQ (gX9_feed_40 xs d r K x1 x3) (qIM r K) t) : gX9_feed_40 xs d r K x1 x3 s := by
  intro L l0 l1 l3 l4
  unfold lX9_feed_40 at h
  refine R_iload (p := 42) rfl l4 rfl ?_
  refine R_iload_n (p := 43) rfl l3 rfl ?_
  by_cases hc : x3 ≤ s.1
  · replace h := ite_t h hc
    refine R_icge_t rfl hc ?_
    refine R_aload_n (p := 90) rfl l0 rfl ?_
    refine R_getR (p := 93) (q := 138) hK rfl rfl rfl rfl ?_
    refine R_iconst (p := 94) rfl ki_1 rfl ?_
    refine R_ialk (p := 95) hK rfl rfl (by decide) kn_1 rfl ?_
    obtain rfl := Option.some.inj h
    exact R_ireturn rfl rfl hq
  · replace h := ite_f h hc
    refine R_icge_f (p := 46) rfl hc rfl ?_
    refine R_aload_n (p := 47) rfl l0 rfl ?_
    refine R_getR (p := 50) (q := 138) hK rfl rfl rfl rfl ?_
    refine R_sipush (p := 53) rfl ks_812 rfl ?_
    refine R_aload_n (p := 54) rfl l0 rfl ?_
    refine R_getR (p := 57) (q := 138) hK rfl rfl rfl rfl ?_
    refine R_iconst (p := 58) rfl ki_1 rfl ?_
    refine R_ialk (p := 59) hK rfl rfl (by decide) kn_1 rfl ?_
    refine R_iadd (p := 60) rfl rfl ?_
    refine R_lload_n (p := 61) rfl l1 rfl ?_
    refine R_bipush (p := 63) rfl kb_8 rfl ?_
    refine R_iload (p := 65) rfl l4 rfl ?_
    refine R_imul (p := 66) rfl rfl ?_
    refine R_lshr (p := 67) rfl rfl ?_
    refine R_ldc2_w (p := 70) rfl rfl ?_
    refine R_land (p := 71) rfl rfl ?_
    refine R_l2i (p := 72) rfl rfl ?_
    obtain ⟨b3, h⟩ := gd h
    refine R_iast (p := 73) hK rfl rfl b3 rfl ?_
    refine R_aload_n (p := 74) rfl l0 rfl ?_
    refine R_getR (p := 77) (q := 138) hK rfl rfl rfl rfl ?_
    refine R_iconst (p := 78) rfl ki_1 rfl ?_
    refine R_dup2ia (p := 79) rfl rfl ?_
    refine R_ialk (p := 80) hK rfl rfl (by decide) kn_1 rfl ?_
    refine R_iconst (p := 81) rfl ki_1 rfl ?_
    refine R_iadd (p := 82) rfl rfl ?_
    refine R_iask (p := 83) hK rfl rfl (by decide) kn_1 rfl ?_
    refine R_iinc (p := 86) rfl l4 rfl ki_1 rfl ?_
    refine R_goto rfl ?_
    obtain rfl := Option.some.inj h
    exact hq _ (jg_ne l0 rfl) (jg_ne l1 rfl) (jg_ne l3 rfl) jg_self
theorem LX9_feed_40 {xs : List Int32} {d : Nat} {r : jR} {K : Mem → List jE} (hK : Ctx shR K) (hd : 1 ≤ d)  {x1 : Int64} {x3 : Int32} (n : Nat) (s : Int32 × Mem) {t : (Int32 × Mem)} (h : lp (lX9_feed_40 x1 x3) n s = some t) (hq : (qIM r K) t) : gX9_feed_40 xs d r K x1 x3 s := lp_ind (G := gX9_feed_40 xs d r K x1 x3) (Qe := (qIM r K)) (fun s t h hq => BX9_feed_40 hK hd s h hq) n s t h hq
theorem ufX9_feed {xs : List Int32} {d : Nat} {r : jR} {K : Mem → List jE} (hK : Ctx shR K) (hd : 1 ≤ d) {x1 : Int64} {x3 : Int32} {m : Mem} {L : List (Nat × Value)} (l0 : jget L 0 = some (.ref 137)) (l1 : jget L 1 = some (.long x1)) (l3 : jget L 3 = some (.int x3)) {t : (Int32 × Mem)} (h : fX9_feed x1 x3 m = some t) (hq : (qIM r K) t) : RunD (jcs xs) d 5 (some .int) jt_X9_feed (0, L, [], (K m)) r := by
  unfold fX9_feed at h
  refine R_iload_n (p := 1) rfl l3 rfl ?_
  refine R_iconst (p := 2) rfl ki_1 rfl ?_
  refine R_bipush (p := 4) rfl kb_8 rfl ?_
  refine R_cS3v (p := 7) rfl (tfX9_within (Nat.le_trans (by decide) hd) ) rfl rfl ?_
  by_cases hc : (fX9_within x3 (1 : Int32) (8 : Int32)) = 0
  · replace h := ite_t h hc
    refine R_ifne_f (p := 10) rfl (fun z => z hc) rfl ?_
    refine R_aload_n (p := 11) rfl l0 rfl ?_
    refine R_ldc (p := 13) rfl kl_m1000001 rfl ?_
    obtain ⟨q2, eq2, h⟩ := bind_some h
    refine R_cV2v (p := 16) hK rfl rfl (tfX9_finding hK (Nat.le_trans (by decide) hd)  eq2) rfl rfl ?_
    obtain rfl := Option.some.inj h
    exact R_ireturn rfl rfl hq
  · replace h := ite_f h hc
    refine R_ifne_t rfl hc ?_
    refine R_aload_n (p := 18) rfl l0 rfl ?_
    refine R_getR (p := 21) (q := 138) hK rfl rfl rfl rfl ?_
    refine R_iconst (p := 22) rfl ki_1 rfl ?_
    refine R_ialk (p := 23) hK rfl rfl (by decide) kn_1 rfl ?_
    refine R_iload_n (p := 24) rfl l3 rfl ?_
    refine R_iadd (p := 25) rfl rfl ?_
    refine R_bipush (p := 27) rfl kb_60 rfl ?_
    by_cases hc : ((m 138 1) + x3) ≤ (60 : Int32)
    · replace h := ite_t h hc
      refine R_icle_t rfl hc ?_
      refine R_iconst (p := 38) rfl ki_0 rfl ?_
      refine R_istore (p := 40) rfl rfl rfl ?_
      exact LX9_feed_40 hK hd _ _ h hq _ (jg_ne l0 rfl) (jg_ne l1 rfl) (jg_ne l3 rfl) jg_self
    · replace h := ite_f h hc
      refine R_icle_f (p := 30) rfl hc rfl ?_
      refine R_aload_n (p := 31) rfl l0 rfl ?_
      refine R_ldc (p := 33) rfl kl_m1000004 rfl ?_
      obtain ⟨q4, eq4, h⟩ := bind_some h
      refine R_cV2v (p := 36) hK rfl rfl (tfX9_finding hK (Nat.le_trans (by decide) hd)  eq4) rfl rfl ?_
      obtain rfl := Option.some.inj h
      exact R_ireturn rfl rfl hq
theorem tfX9_feed {xs : List Int32} {d : Nat} {K : Mem → List jE} (hK : Ctx shR K) (hd : 2 ≤ d) {x1 : Int64} {x3 : Int32} {m : Mem} {t : (Int32 × Mem)} (h : fX9_feed x1 x3 m = some t) : CallD (jcs xs) d 191 [.ref 137, .long x1, .int x3] (K m) (some (.int t.1), K t.2) := by
  obtain ⟨d, rfl⟩ : ∃ z, d = z + 1 := ⟨d - 1, by omega⟩
  refine CallD_of jmt_X9_feed rfl ⟨rfl, Nat.le_of_ble_eq_true rfl⟩ ?_
  exact ufX9_feed hK (Nat.le_of_succ_le_succ hd) rfl rfl rfl h rfl
noncomputable def fX2_namesOf (x0 : Int32) : Nat := (if x0 = (0 : Int32) then 11 else (if x0 = (1 : Int32) then 12 else 13))
theorem ufX2_namesOf {xs : List Int32} {d : Nat} {r : jR} {hh : List jE} (hd : 0 ≤ d) {x0 : Int32} {L : List (Nat × Value)} (l0 : jget L 0 = some (.int x0)) {t : Nat} (h : fX2_namesOf x0 = t) (hq : (qS r hh) t) : RunD (jcs xs) d 1 (some (.object "java/lang/String")) jt_X2_namesOf (0, L, [], hh) r := by
  unfold fX2_namesOf at h
  refine R_iload_n (p := 1) rfl l0 rfl ?_
  by_cases n1 : x0 = (0 : Int32)
  · replace h := ite_t h n1
    refine R_lsw (p := 28) rfl rfl (by rw [n1]; decide +kernel) ?_
    refine R_ldcs (p := 30) rfl rfl ?_
    subst h
    exact R_areturn rfl rfl hq
  replace h := ite_f h n1
  by_cases n2 : x0 = (1 : Int32)
  · replace h := ite_t h n2
    refine R_lsw (p := 31) rfl rfl (by rw [n2]; decide +kernel) ?_
    refine R_ldcs (p := 33) rfl rfl ?_
    subst h
    exact R_areturn rfl rfl hq
  replace h := ite_f h n2
  refine R_lsw (p := 34) rfl rfl (lsw_d [(0 : Int32), (1 : Int32)] (List.forall_mem_cons.mpr ⟨n1, List.forall_mem_cons.mpr ⟨n2, fun _ h9 => absurd h9 List.not_mem_nil⟩⟩) (by decide +kernel) rfl) ?_
  refine R_ldcs (p := 36) rfl rfl ?_
  subst h
  exact R_areturn rfl rfl hq
theorem tfX2_namesOf {xs : List Int32} {d : Nat} {hh : List jE} (hd : 1 ≤ d) {x0 : Int32} : CallD (jcs xs) d 37 [.int x0] hh (some (.ref (jK0 + fX2_namesOf x0)), hh) := by
  obtain ⟨d, rfl⟩ : ∃ z, d = z + 1 := ⟨d - 1, by omega⟩
  refine CallD_of jmt_X2_namesOf rfl ⟨rfl, Nat.le_of_ble_eq_true rfl⟩ ?_
  exact ufX2_namesOf (Nat.le_of_succ_le_succ hd) rfl rfl rfl
noncomputable def fX2_next (m : Mem) : Option Int32 := (if (m 118 6) = 0 then (if (m 118 0) < 0 then some (-1 : Int32) else (if (m 118 4) ≤ (m 118 0) then some (-1 : Int32) else (if (60 : Int32) ≤ (m 118 0) then some (-1 : Int32) else (if inb (m 118 0) 60 then some (m 120 (m 118 0).toNatClampNeg) else none)))) else some (-1 : Int32))
theorem ufX2_next {xs : List Int32} {d : Nat} {r : jR} {K : Mem → List jE} (hK : Ctx shC K) (hd : 0 ≤ d) {m : Mem} {L : List (Nat × Value)} (l0 : jget L 0 = some (.ref 118)) {t : Int32} (h : fX2_next m = some t) (hq : (qI r (K m)) t) : RunD (jcs xs) d 1 (some .int) jt_X2_next (0, L, [], (K m)) r := by
  unfold fX2_next at h
  refine R_aload_n (p := 1) rfl l0 rfl ?_
  refine R_getI (p := 4) hK rfl rfl rfl rfl ?_
  by_cases hc : (m 118 6) = 0
  · replace h := ite_t h hc
    refine R_ifne_f (p := 7) rfl (fun z => z hc) rfl ?_
    refine R_aload_n (p := 8) rfl l0 rfl ?_
    refine R_getI (p := 11) hK rfl rfl rfl rfl ?_
    by_cases hc : (m 118 0) < 0
    · replace h := ite_t h hc
      refine R_iflt_t rfl hc ?_
      refine R_iconst (p := 47) rfl ki_m1 rfl ?_
      obtain rfl := Option.some.inj h
      exact R_ireturn rfl rfl hq
    · replace h := ite_f h hc
      refine R_iflt_f (p := 14) rfl hc rfl ?_
      refine R_aload_n (p := 15) rfl l0 rfl ?_
      refine R_getI (p := 18) hK rfl rfl rfl rfl ?_
      refine R_aload_n (p := 19) rfl l0 rfl ?_
      refine R_getI (p := 22) hK rfl rfl rfl rfl ?_
      by_cases hc : (m 118 4) ≤ (m 118 0)
      · replace h := ite_t h hc
        refine R_icge_t rfl hc ?_
        refine R_iconst (p := 47) rfl ki_m1 rfl ?_
        obtain rfl := Option.some.inj h
        exact R_ireturn rfl rfl hq
      · replace h := ite_f h hc
        refine R_icge_f (p := 25) rfl hc rfl ?_
        refine R_aload_n (p := 26) rfl l0 rfl ?_
        refine R_getI (p := 29) hK rfl rfl rfl rfl ?_
        refine R_bipush (p := 31) rfl kb_60 rfl ?_
        by_cases hc : (60 : Int32) ≤ (m 118 0)
        · replace h := ite_t h hc
          refine R_icge_t rfl hc ?_
          refine R_iconst (p := 47) rfl ki_m1 rfl ?_
          obtain rfl := Option.some.inj h
          exact R_ireturn rfl rfl hq
        · replace h := ite_f h hc
          refine R_icge_f (p := 34) rfl hc rfl ?_
          refine R_aload_n (p := 35) rfl l0 rfl ?_
          refine R_getR (p := 38) (q := 120) hK rfl rfl rfl rfl ?_
          refine R_aload_n (p := 39) rfl l0 rfl ?_
          refine R_getI (p := 42) hK rfl rfl rfl rfl ?_
          obtain ⟨b1, h⟩ := gd h
          refine R_iald (p := 43) hK rfl rfl b1 rfl ?_
          refine R_goto rfl ?_
          obtain rfl := Option.some.inj h
          exact R_ireturn rfl rfl hq
  · replace h := ite_f h hc
    refine R_ifne_t rfl hc ?_
    refine R_iconst (p := 47) rfl ki_m1 rfl ?_
    obtain rfl := Option.some.inj h
    exact R_ireturn rfl rfl hq
theorem tfX2_next {xs : List Int32} {d : Nat} {K : Mem → List jE} (hK : Ctx shC K) (hd : 1 ≤ d) {m : Mem} {t : Int32} (h : fX2_next m = some t) : CallD (jcs xs) d 39 [.ref 118] (K m) (some (.int t), (K m)) := by
  obtain ⟨d, rfl⟩ : ∃ z, d = z + 1 := ⟨d - 1, by omega⟩
  refine CallD_of jmt_X2_next rfl ⟨rfl, Nat.le_of_ble_eq_true rfl⟩ ?_
  exact ufX2_next hK (Nat.le_of_succ_le_succ hd) rfl h rfl
noncomputable def fX2_nextIs (x1 : Int32) (m : Mem) : Option Int32 := (fX2_next m).bind fun q1 => (if q1 = x1 then some (1 : Int32) else some (0 : Int32))
theorem ufX2_nextIs {xs : List Int32} {d : Nat} {r : jR} {K : Mem → List jE} (hK : Ctx shC K) (hd : 1 ≤ d) {x1 : Int32} {m : Mem} {L : List (Nat × Value)} (l0 : jget L 0 = some (.ref 118)) (l1 : jget L 1 = some (.int x1)) {t : Int32} (h : fX2_nextIs x1 m = some t) (hq : (qI r (K m)) t) : RunD (jcs xs) d 2 (some .boolean) jt_X2_nextIs (0, L, [], (K m)) r := by
  unfold fX2_nextIs at h
  refine R_aload_n (p := 1) rfl l0 rfl ?_
  obtain ⟨q1, eq1, h⟩ := bind_some h
  refine R_cV1v (p := 4) hK rfl rfl (tfX2_next hK (Nat.le_trans (by decide) hd)  eq1) rfl rfl ?_
  refine R_iload_n (p := 5) rfl l1 rfl ?_
  by_cases hc : q1 = x1
  · replace h := ite_t h hc
    refine R_icne_f (p := 8) rfl (fun z => z hc) rfl ?_
    refine R_iconst (p := 9) rfl ki_1 rfl ?_
    refine R_goto rfl ?_
    obtain rfl := Option.some.inj h
    exact R_zreturn rfl rfl (by decide) hq
  · replace h := ite_f h hc
    refine R_icne_t rfl hc ?_
    refine R_iconst (p := 13) rfl ki_0 rfl ?_
    obtain rfl := Option.some.inj h
    exact R_zreturn rfl rfl (by decide) hq
theorem tfX2_nextIs {xs : List Int32} {d : Nat} {K : Mem → List jE} (hK : Ctx shC K) (hd : 2 ≤ d) {x1 : Int32} {m : Mem} {t : Int32} (h : fX2_nextIs x1 m = some t) : CallD (jcs xs) d 40 [.ref 118, .int x1] (K m) (some (.int t), (K m)) := by
  obtain ⟨d, rfl⟩ : ∃ z, d = z + 1 := ⟨d - 1, by omega⟩
  refine CallD_of jmt_X2_nextIs rfl ⟨rfl, Nat.le_of_ble_eq_true rfl⟩ ?_
  exact ufX2_nextIs hK (Nat.le_of_succ_le_succ hd) rfl rfl h rfl
noncomputable def fX2_note (x1 : Int32) (m : Mem) : Option Mem := (if (60 : Int32) ≤ (m 118 1) then some m else (if inb (m 118 1) 60 then some (mput (mput m 119 (m 118 1).toNatClampNeg x1) 118 1 (((mput m 119 (m 118 1).toNatClampNeg x1) 118 1) + (1 : Int32))) else none))
theorem ufX2_note {xs : List Int32} {d : Nat} {r : jR} {K : Mem → List jE} (hK : Ctx shC K) (hd : 0 ≤ d) {x1 : Int32} {m : Mem} {L : List (Nat × Value)} (l0 : jget L 0 = some (.ref 118)) (l1 : jget L 1 = some (.int x1)) {t : Mem} (h : fX2_note x1 m = some t) (hq : (qM r K) t) : RunD (jcs xs) d 2 (none) jt_X2_note (0, L, [], (K m)) r := by
  unfold fX2_note at h
  refine R_aload_n (p := 1) rfl l0 rfl ?_
  refine R_getI (p := 4) hK rfl rfl rfl rfl ?_
  refine R_bipush (p := 6) rfl kb_60 rfl ?_
  by_cases hc : (60 : Int32) ≤ (m 118 1)
  · replace h := ite_t h hc
    refine R_icge_t rfl hc ?_
    obtain rfl := Option.some.inj h
    exact R_return rfl rfl hq
  · replace h := ite_f h hc
    refine R_icge_f (p := 9) rfl hc rfl ?_
    refine R_aload_n (p := 10) rfl l0 rfl ?_
    refine R_getR (p := 13) (q := 119) hK rfl rfl rfl rfl ?_
    refine R_aload_n (p := 14) rfl l0 rfl ?_
    refine R_getI (p := 17) hK rfl rfl rfl rfl ?_
    refine R_iload_n (p := 18) rfl l1 rfl ?_
    obtain ⟨b1, h⟩ := gd h
    refine R_iast (p := 19) hK rfl rfl b1 rfl ?_
    refine R_aload_n (p := 20) rfl l0 rfl ?_
    refine R_dupa (p := 21) rfl rfl ?_
    refine R_getI (p := 24) hK rfl rfl rfl rfl ?_
    refine R_iconst (p := 25) rfl ki_1 rfl ?_
    refine R_iadd (p := 26) rfl rfl ?_
    refine R_putI (p := 29) hK rfl rfl rfl rfl rfl ?_
    obtain rfl := Option.some.inj h
    exact R_return rfl rfl hq
theorem tfX2_note {xs : List Int32} {d : Nat} {K : Mem → List jE} (hK : Ctx shC K) (hd : 1 ≤ d) {x1 : Int32} {m : Mem} {t : Mem} (h : fX2_note x1 m = some t) : CallD (jcs xs) d 41 [.ref 118, .int x1] (K m) (none, K t) := by
  obtain ⟨d, rfl⟩ : ∃ z, d = z + 1 := ⟨d - 1, by omega⟩
  refine CallD_of jmt_X2_note rfl ⟨rfl, Nat.le_of_ble_eq_true rfl⟩ ?_
  exact ufX2_note hK (Nat.le_of_succ_le_succ hd) rfl rfl h rfl
noncomputable def bX2_product_40 (e : Int32 → Mem → Option Mem) (x1 : Int32) (x2 : Int32) (m : Mem) : Option ((Int32 × Mem) ⊕ Mem) := (fX2_next m).bind fun q5 => (e x1 (mput m 118 0 ((m 118 0) + (1 : Int32)))).bind fun q6 => (fX2_note (fX5_ofSign (jI2c q5)) q6).bind fun q8 => some (.inl ((x2 + (1 : Int32)), q8))
noncomputable def lX2_product_7 (e : Int32 → Mem → Option Mem) (x1 : Int32) (s : Int32 × Mem) : Option ((Int32 × Mem) ⊕ Mem) := (if (60 : Int32) ≤ s.1 then some (.inr s.2) else (fX2_nextIs (42 : Int32) s.2).bind fun q2 => (if q2 = 0 then (fX2_nextIs (47 : Int32) s.2).bind fun q3 => (if q3 = 0 then (fX2_nextIs (37 : Int32) s.2).bind fun q4 => (if q4 = 0 then some (.inr s.2) else bX2_product_40 e x1 s.1 s.2) else bX2_product_40 e x1 s.1 s.2) else bX2_product_40 e x1 s.1 s.2))
noncomputable def gX2_product_7 (xs : List Int32) (d : Nat) (r : jR) (K : Mem → List jE) (x1 : Int32) (s : Int32 × Mem) : Prop := ∀ L, jget L 0 = some (.ref 118) → jget L 1 = some (.int x1) → jget L 2 = some (.int s.1) → RunD (jcs xs) d 4 (none) jt_X2_product (7, L, [], (K s.2)) r
noncomputable def fX2_product (e : Int32 → Mem → Option Mem) (x1 : Int32) (m : Mem) : Option Mem := (e x1 m).bind fun q1 => lp (lX2_product_7 e x1) fu ((0 : Int32), q1)
theorem tbX2_product_40 {xs : List Int32} {d : Nat} {r : jR} {K : Mem → List jE} (hK : Ctx shC K) {d0 : Nat} (hd : d0 + 2 ≤ d) {e : Int32 → Mem → Option Mem} (he : ∀ d9, d0 ≤ d9 → ∀ (x1 : Int32) (m9 : Mem) (q9 : Mem), e x1 m9 = some q9 → CallD (jcs xs) d9 47 [.ref 118, .int x1] (K m9) (none, K q9))  {x1 : Int32} {x2 : Int32} {m : Mem} {L : List (Nat × Value)} (l0 : jget L 0 = some (.ref 118)) (l1 : jget L 1 = some (.int x1)) (l2 : jget L 2 = some (.int x2)) {t : ((Int32 × Mem) ⊕ Mem)} (h : bX2_product_40 e x1 x2 m = some t) (hq : (sQ (gX2_product_7 xs d r K x1) (qM r K)) t) : RunD (jcs xs) d 4 (none) jt_X2_product (40, L, [], (K m)) r := by
  unfold bX2_product_40 at h
  refine R_aload_n (p := 41) rfl l0 rfl ?_
  obtain ⟨q5, eq5, h⟩ := bind_some h
  refine R_cV1v (p := 44) hK rfl rfl (tfX2_next hK (Nat.le_trans (Nat.le_trans (by decide) (Nat.le_add_left _ _)) hd)  eq5) rfl rfl ?_
  refine R_i2c (p := 45) rfl rfl ?_
  refine R_istore_n (p := 46) rfl rfl rfl ?_
  refine R_aload_n (p := 47) rfl (jg_ne l0 rfl) rfl ?_
  refine R_dupa (p := 48) rfl rfl ?_
  refine R_getI (p := 51) hK rfl rfl rfl rfl ?_
  refine R_iconst (p := 52) rfl ki_1 rfl ?_
  refine R_iadd (p := 53) rfl rfl ?_
  refine R_putI (p := 56) hK rfl rfl rfl rfl rfl ?_
  refine R_aload_n (p := 57) rfl (jg_ne l0 rfl) rfl ?_
  refine R_iload_n (p := 58) rfl (jg_ne l1 rfl) rfl ?_
  obtain ⟨q6, eq6, h⟩ := bind_some h
  refine R_cV2n (p := 61) hK rfl rfl (he _ (Nat.le_trans (Nat.le_add_right _ _) hd) _ _ _ eq6) rfl rfl ?_
  refine R_aload_n (p := 62) rfl (jg_ne l0 rfl) rfl ?_
  refine R_iload_n (p := 63) rfl jg_self rfl ?_
  refine R_cS1v (p := 66) rfl (tfX5_ofSign (Nat.le_trans (Nat.le_trans (by decide) (Nat.le_add_left _ _)) hd) ) rfl rfl ?_
  obtain ⟨q8, eq8, h⟩ := bind_some h
  refine R_cV2n (p := 69) hK rfl rfl (tfX2_note hK (Nat.le_trans (Nat.le_trans (by decide) (Nat.le_add_left _ _)) hd)  eq8) rfl rfl ?_
  refine R_iinc (p := 72) rfl (jg_ne l2 rfl) rfl ki_1 rfl ?_
  refine R_goto rfl ?_
  obtain rfl := Option.some.inj h
  exact hq _ (jg_ne (jg_ne l0 rfl) rfl) (jg_ne (jg_ne l1 rfl) rfl) jg_self
theorem BX2_product_7 {xs : List Int32} {d : Nat} {r : jR} {K : Mem → List jE} (hK : Ctx shC K) {d0 : Nat} (hd : d0 + 2 ≤ d) {e : Int32 → Mem → Option Mem} (he : ∀ d9, d0 ≤ d9 → ∀ (x1 : Int32) (m9 : Mem) (q9 : Mem), e x1 m9 = some q9 → CallD (jcs xs) d9 47 [.ref 118, .int x1] (K m9) (none, K q9))  {x1 : Int32} (s : Int32 × Mem) {t : (Int32 × Mem) ⊕ Mem} (h : lX2_product_7 e x1 s = some t) (hq : sQ (gX2_product_7 xs d r K x1) (qM r K) t) : gX2_product_7 xs d r K x1 s := by
  intro L l0 l1 l2
  unfold lX2_product_7 at h
  refine R_iload_n (p := 8) rfl l2 rfl ?_
  refine R_bipush (p := 10) rfl kb_60 rfl ?_
  by_cases hc : (60 : Int32) ≤ s.1
  · replace h := ite_t h hc
    refine R_icge_t rfl hc ?_
    obtain rfl := Option.some.inj h
    exact R_return rfl rfl hq
  · replace h := ite_f h hc
    refine R_icge_f (p := 13) rfl hc rfl ?_
    refine R_aload_n (p := 14) rfl l0 rfl ?_
    refine R_bipush (p := 16) rfl kb_42 rfl ?_
    obtain ⟨q2, eq2, h⟩ := bind_some h
    refine R_cV2v (p := 19) hK rfl rfl (tfX2_nextIs hK (Nat.le_trans (Nat.le_trans (by decide) (Nat.le_add_left _ _)) hd)  eq2) rfl rfl ?_
    by_cases hc : q2 = 0
    · replace h := ite_t h hc
      refine R_ifne_f (p := 22) rfl (fun z => z hc) rfl ?_
      refine R_aload_n (p := 23) rfl l0 rfl ?_
      refine R_bipush (p := 25) rfl kb_47 rfl ?_
      obtain ⟨q3, eq3, h⟩ := bind_some h
      refine R_cV2v (p := 28) hK rfl rfl (tfX2_nextIs hK (Nat.le_trans (Nat.le_trans (by decide) (Nat.le_add_left _ _)) hd)  eq3) rfl rfl ?_
      by_cases hc : q3 = 0
      · replace h := ite_t h hc
        refine R_ifne_f (p := 31) rfl (fun z => z hc) rfl ?_
        refine R_aload_n (p := 32) rfl l0 rfl ?_
        refine R_bipush (p := 34) rfl kb_37 rfl ?_
        obtain ⟨q4, eq4, h⟩ := bind_some h
        refine R_cV2v (p := 37) hK rfl rfl (tfX2_nextIs hK (Nat.le_trans (Nat.le_trans (by decide) (Nat.le_add_left _ _)) hd)  eq4) rfl rfl ?_
        by_cases hc : q4 = 0
        · replace h := ite_t h hc
          refine R_ifeq_t rfl hc ?_
          obtain rfl := Option.some.inj h
          exact R_return rfl rfl hq
        · replace h := ite_f h hc
          refine R_ifeq_f (p := 40) rfl hc rfl ?_
          exact tbX2_product_40 hK hd he l0 l1 l2 h hq
      · replace h := ite_f h hc
        refine R_ifne_t rfl hc ?_
        exact tbX2_product_40 hK hd he l0 l1 l2 h hq
    · replace h := ite_f h hc
      refine R_ifne_t rfl hc ?_
      exact tbX2_product_40 hK hd he l0 l1 l2 h hq
theorem LX2_product_7 {xs : List Int32} {d : Nat} {r : jR} {K : Mem → List jE} (hK : Ctx shC K) {d0 : Nat} (hd : d0 + 2 ≤ d) {e : Int32 → Mem → Option Mem} (he : ∀ d9, d0 ≤ d9 → ∀ (x1 : Int32) (m9 : Mem) (q9 : Mem), e x1 m9 = some q9 → CallD (jcs xs) d9 47 [.ref 118, .int x1] (K m9) (none, K q9))  {x1 : Int32} (n : Nat) (s : Int32 × Mem) {t : Mem} (h : lp (lX2_product_7 e x1) n s = some t) (hq : (qM r K) t) : gX2_product_7 xs d r K x1 s := lp_ind (G := gX2_product_7 xs d r K x1) (Qe := (qM r K)) (fun s t h hq => BX2_product_7 hK hd he s h hq) n s t h hq
theorem ufX2_product {xs : List Int32} {d : Nat} {r : jR} {K : Mem → List jE} (hK : Ctx shC K) {d0 : Nat} (hd : d0 + 2 ≤ d) {e : Int32 → Mem → Option Mem} (he : ∀ d9, d0 ≤ d9 → ∀ (x1 : Int32) (m9 : Mem) (q9 : Mem), e x1 m9 = some q9 → CallD (jcs xs) d9 47 [.ref 118, .int x1] (K m9) (none, K q9)) {x1 : Int32} {m : Mem} {L : List (Nat × Value)} (l0 : jget L 0 = some (.ref 118)) (l1 : jget L 1 = some (.int x1)) {t : Mem} (h : fX2_product e x1 m = some t) (hq : (qM r K) t) : RunD (jcs xs) d 4 (none) jt_X2_product (0, L, [], (K m)) r := by
  unfold fX2_product at h
  refine R_aload_n (p := 1) rfl l0 rfl ?_
  refine R_iload_n (p := 2) rfl l1 rfl ?_
  obtain ⟨q1, eq1, h⟩ := bind_some h
  refine R_cV2n (p := 5) hK rfl rfl (he _ (Nat.le_trans (Nat.le_add_right _ _) hd) _ _ _ eq1) rfl rfl ?_
  refine R_iconst (p := 6) rfl ki_0 rfl ?_
  refine R_istore_n (p := 7) rfl rfl rfl ?_
  exact LX2_product_7 hK hd he _ _ h hq _ (jg_ne l0 rfl) (jg_ne l1 rfl) jg_self
theorem tfX2_product {xs : List Int32} {d : Nat} {K : Mem → List jE} (hK : Ctx shC K) {d0 : Nat} (hd : d0 + 3 ≤ d) {e : Int32 → Mem → Option Mem} (he : ∀ d9, d0 ≤ d9 → ∀ (x1 : Int32) (m9 : Mem) (q9 : Mem), e x1 m9 = some q9 → CallD (jcs xs) d9 47 [.ref 118, .int x1] (K m9) (none, K q9)) {x1 : Int32} {m : Mem} {t : Mem} (h : fX2_product e x1 m = some t) : CallD (jcs xs) d 46 [.ref 118, .int x1] (K m) (none, K t) := by
  obtain ⟨d, rfl⟩ : ∃ z, d = z + 1 := ⟨d - 1, by omega⟩
  refine CallD_of jmt_X2_product rfl ⟨rfl, Nat.le_of_ble_eq_true rfl⟩ ?_
  exact ufX2_product hK (Nat.le_of_succ_le_succ hd) he rfl rfl h rfl
noncomputable def bX2_sum_31 (e : Int32 → Mem → Option Mem) (x1 : Int32) (x2 : Int32) (m : Mem) : Option ((Int32 × Mem) ⊕ Mem) := (fX2_next m).bind fun q4 => (fX2_product e x1 (mput m 118 0 ((m 118 0) + (1 : Int32)))).bind fun q5 => (fX2_note (fX5_ofSign (jI2c q4)) q5).bind fun q7 => some (.inl ((x2 + (1 : Int32)), q7))
noncomputable def lX2_sum_7 (e : Int32 → Mem → Option Mem) (x1 : Int32) (s : Int32 × Mem) : Option ((Int32 × Mem) ⊕ Mem) := (if (60 : Int32) ≤ s.1 then some (.inr s.2) else (fX2_nextIs (43 : Int32) s.2).bind fun q2 => (if q2 = 0 then (fX2_nextIs (45 : Int32) s.2).bind fun q3 => (if q3 = 0 then some (.inr s.2) else bX2_sum_31 e x1 s.1 s.2) else bX2_sum_31 e x1 s.1 s.2))
noncomputable def gX2_sum_7 (xs : List Int32) (d : Nat) (r : jR) (K : Mem → List jE) (x1 : Int32) (s : Int32 × Mem) : Prop := ∀ L, jget L 0 = some (.ref 118) → jget L 1 = some (.int x1) → jget L 2 = some (.int s.1) → RunD (jcs xs) d 4 (none) jt_X2_sum (7, L, [], (K s.2)) r
noncomputable def fX2_sum (e : Int32 → Mem → Option Mem) (x1 : Int32) (m : Mem) : Option Mem := (fX2_product e x1 m).bind fun q1 => lp (lX2_sum_7 e x1) fu ((0 : Int32), q1)
theorem tbX2_sum_31 {xs : List Int32} {d : Nat} {r : jR} {K : Mem → List jE} (hK : Ctx shC K) {d0 : Nat} (hd : d0 + 3 ≤ d) {e : Int32 → Mem → Option Mem} (he : ∀ d9, d0 ≤ d9 → ∀ (x1 : Int32) (m9 : Mem) (q9 : Mem), e x1 m9 = some q9 → CallD (jcs xs) d9 47 [.ref 118, .int x1] (K m9) (none, K q9))  {x1 : Int32} {x2 : Int32} {m : Mem} {L : List (Nat × Value)} (l0 : jget L 0 = some (.ref 118)) (l1 : jget L 1 = some (.int x1)) (l2 : jget L 2 = some (.int x2)) {t : ((Int32 × Mem) ⊕ Mem)} (h : bX2_sum_31 e x1 x2 m = some t) (hq : (sQ (gX2_sum_7 xs d r K x1) (qM r K)) t) : RunD (jcs xs) d 4 (none) jt_X2_sum (31, L, [], (K m)) r := by
  unfold bX2_sum_31 at h
  refine R_aload_n (p := 32) rfl l0 rfl ?_
  obtain ⟨q4, eq4, h⟩ := bind_some h
  refine R_cV1v (p := 35) hK rfl rfl (tfX2_next hK (Nat.le_trans (Nat.le_trans (by decide) (Nat.le_add_left _ _)) hd)  eq4) rfl rfl ?_
  refine R_i2c (p := 36) rfl rfl ?_
  refine R_istore_n (p := 37) rfl rfl rfl ?_
  refine R_aload_n (p := 38) rfl (jg_ne l0 rfl) rfl ?_
  refine R_dupa (p := 39) rfl rfl ?_
  refine R_getI (p := 42) hK rfl rfl rfl rfl ?_
  refine R_iconst (p := 43) rfl ki_1 rfl ?_
  refine R_iadd (p := 44) rfl rfl ?_
  refine R_putI (p := 47) hK rfl rfl rfl rfl rfl ?_
  refine R_aload_n (p := 48) rfl (jg_ne l0 rfl) rfl ?_
  refine R_iload_n (p := 49) rfl (jg_ne l1 rfl) rfl ?_
  obtain ⟨q5, eq5, h⟩ := bind_some h
  refine R_cV2n (p := 52) hK rfl rfl (tfX2_product hK (Nat.le_trans (Nat.add_le_add_left (by decide) _) hd) he  eq5) rfl rfl ?_
  refine R_aload_n (p := 53) rfl (jg_ne l0 rfl) rfl ?_
  refine R_iload_n (p := 54) rfl jg_self rfl ?_
  refine R_cS1v (p := 57) rfl (tfX5_ofSign (Nat.le_trans (Nat.le_trans (by decide) (Nat.le_add_left _ _)) hd) ) rfl rfl ?_
  obtain ⟨q7, eq7, h⟩ := bind_some h
  refine R_cV2n (p := 60) hK rfl rfl (tfX2_note hK (Nat.le_trans (Nat.le_trans (by decide) (Nat.le_add_left _ _)) hd)  eq7) rfl rfl ?_
  refine R_iinc (p := 63) rfl (jg_ne l2 rfl) rfl ki_1 rfl ?_
  refine R_goto rfl ?_
  obtain rfl := Option.some.inj h
  exact hq _ (jg_ne (jg_ne l0 rfl) rfl) (jg_ne (jg_ne l1 rfl) rfl) jg_self
theorem BX2_sum_7 {xs : List Int32} {d : Nat} {r : jR} {K : Mem → List jE} (hK : Ctx shC K) {d0 : Nat} (hd : d0 + 3 ≤ d) {e : Int32 → Mem → Option Mem} (he : ∀ d9, d0 ≤ d9 → ∀ (x1 : Int32) (m9 : Mem) (q9 : Mem), e x1 m9 = some q9 → CallD (jcs xs) d9 47 [.ref 118, .int x1] (K m9) (none, K q9))  {x1 : Int32} (s : Int32 × Mem) {t : (Int32 × Mem) ⊕ Mem} (h : lX2_sum_7 e x1 s = some t) (hq : sQ (gX2_sum_7 xs d r K x1) (qM r K) t) : gX2_sum_7 xs d r K x1 s := by
  intro L l0 l1 l2
  unfold lX2_sum_7 at h
  refine R_iload_n (p := 8) rfl l2 rfl ?_
  refine R_bipush (p := 10) rfl kb_60 rfl ?_
  by_cases hc : (60 : Int32) ≤ s.1
  · replace h := ite_t h hc
    refine R_icge_t rfl hc ?_
    obtain rfl := Option.some.inj h
    exact R_return rfl rfl hq
  · replace h := ite_f h hc
    refine R_icge_f (p := 13) rfl hc rfl ?_
    refine R_aload_n (p := 14) rfl l0 rfl ?_
    refine R_bipush (p := 16) rfl kb_43 rfl ?_
    obtain ⟨q2, eq2, h⟩ := bind_some h
    refine R_cV2v (p := 19) hK rfl rfl (tfX2_nextIs hK (Nat.le_trans (Nat.le_trans (by decide) (Nat.le_add_left _ _)) hd)  eq2) rfl rfl ?_
    by_cases hc : q2 = 0
    · replace h := ite_t h hc
      refine R_ifne_f (p := 22) rfl (fun z => z hc) rfl ?_
      refine R_aload_n (p := 23) rfl l0 rfl ?_
      refine R_bipush (p := 25) rfl kb_45 rfl ?_
      obtain ⟨q3, eq3, h⟩ := bind_some h
      refine R_cV2v (p := 28) hK rfl rfl (tfX2_nextIs hK (Nat.le_trans (Nat.le_trans (by decide) (Nat.le_add_left _ _)) hd)  eq3) rfl rfl ?_
      by_cases hc : q3 = 0
      · replace h := ite_t h hc
        refine R_ifeq_t rfl hc ?_
        obtain rfl := Option.some.inj h
        exact R_return rfl rfl hq
      · replace h := ite_f h hc
        refine R_ifeq_f (p := 31) rfl hc rfl ?_
        exact tbX2_sum_31 hK hd he l0 l1 l2 h hq
    · replace h := ite_f h hc
      refine R_ifne_t rfl hc ?_
      exact tbX2_sum_31 hK hd he l0 l1 l2 h hq
theorem LX2_sum_7 {xs : List Int32} {d : Nat} {r : jR} {K : Mem → List jE} (hK : Ctx shC K) {d0 : Nat} (hd : d0 + 3 ≤ d) {e : Int32 → Mem → Option Mem} (he : ∀ d9, d0 ≤ d9 → ∀ (x1 : Int32) (m9 : Mem) (q9 : Mem), e x1 m9 = some q9 → CallD (jcs xs) d9 47 [.ref 118, .int x1] (K m9) (none, K q9))  {x1 : Int32} (n : Nat) (s : Int32 × Mem) {t : Mem} (h : lp (lX2_sum_7 e x1) n s = some t) (hq : (qM r K) t) : gX2_sum_7 xs d r K x1 s := lp_ind (G := gX2_sum_7 xs d r K x1) (Qe := (qM r K)) (fun s t h hq => BX2_sum_7 hK hd he s h hq) n s t h hq
theorem ufX2_sum {xs : List Int32} {d : Nat} {r : jR} {K : Mem → List jE} (hK : Ctx shC K) {d0 : Nat} (hd : d0 + 3 ≤ d) {e : Int32 → Mem → Option Mem} (he : ∀ d9, d0 ≤ d9 → ∀ (x1 : Int32) (m9 : Mem) (q9 : Mem), e x1 m9 = some q9 → CallD (jcs xs) d9 47 [.ref 118, .int x1] (K m9) (none, K q9)) {x1 : Int32} {m : Mem} {L : List (Nat × Value)} (l0 : jget L 0 = some (.ref 118)) (l1 : jget L 1 = some (.int x1)) {t : Mem} (h : fX2_sum e x1 m = some t) (hq : (qM r K) t) : RunD (jcs xs) d 4 (none) jt_X2_sum (0, L, [], (K m)) r := by
  unfold fX2_sum at h
  refine R_aload_n (p := 1) rfl l0 rfl ?_
  refine R_iload_n (p := 2) rfl l1 rfl ?_
  obtain ⟨q1, eq1, h⟩ := bind_some h
  refine R_cV2n (p := 5) hK rfl rfl (tfX2_product hK (Nat.le_trans (Nat.add_le_add_left (by decide) _) hd) he  eq1) rfl rfl ?_
  refine R_iconst (p := 6) rfl ki_0 rfl ?_
  refine R_istore_n (p := 7) rfl rfl rfl ?_
  exact LX2_sum_7 hK hd he _ _ h hq _ (jg_ne l0 rfl) (jg_ne l1 rfl) jg_self
theorem tfX2_sum {xs : List Int32} {d : Nat} {K : Mem → List jE} (hK : Ctx shC K) {d0 : Nat} (hd : d0 + 4 ≤ d) {e : Int32 → Mem → Option Mem} (he : ∀ d9, d0 ≤ d9 → ∀ (x1 : Int32) (m9 : Mem) (q9 : Mem), e x1 m9 = some q9 → CallD (jcs xs) d9 47 [.ref 118, .int x1] (K m9) (none, K q9)) {x1 : Int32} {m : Mem} {t : Mem} (h : fX2_sum e x1 m = some t) : CallD (jcs xs) d 45 [.ref 118, .int x1] (K m) (none, K t) := by
  obtain ⟨d, rfl⟩ : ∃ z, d = z + 1 := ⟨d - 1, by omega⟩
  refine CallD_of jmt_X2_sum rfl ⟨rfl, Nat.le_of_ble_eq_true rfl⟩ ?_
  exact ufX2_sum hK (Nat.le_of_succ_le_succ hd) he rfl rfl h rfl
noncomputable def bX2_compared_32 (e : Int32 → Mem → Option Mem) (x1 : Int32) (m : Mem) : Option Mem := (fX2_next m).bind fun q5 => (fX2_sum e x1 (mput m 118 0 ((m 118 0) + (1 : Int32)))).bind fun q6 => (fX2_note (fX5_ofSign (jI2c q5)) q6).bind fun q8 => some q8
noncomputable def fX2_compared (e : Int32 → Mem → Option Mem) (x1 : Int32) (m : Mem) : Option Mem := (fX2_sum e x1 m).bind fun q1 => (fX2_nextIs (60 : Int32) q1).bind fun q2 => (if q2 = 0 then (fX2_nextIs (61 : Int32) q1).bind fun q3 => (if q3 = 0 then (fX2_nextIs (62 : Int32) q1).bind fun q4 => (if q4 = 0 then some q1 else bX2_compared_32 e x1 q1) else bX2_compared_32 e x1 q1) else bX2_compared_32 e x1 q1)
theorem tbX2_compared_32 {xs : List Int32} {d : Nat} {r : jR} {K : Mem → List jE} (hK : Ctx shC K) {d0 : Nat} (hd : d0 + 4 ≤ d) {e : Int32 → Mem → Option Mem} (he : ∀ d9, d0 ≤ d9 → ∀ (x1 : Int32) (m9 : Mem) (q9 : Mem), e x1 m9 = some q9 → CallD (jcs xs) d9 47 [.ref 118, .int x1] (K m9) (none, K q9))  {x1 : Int32} {m : Mem} {L : List (Nat × Value)} (l0 : jget L 0 = some (.ref 118)) (l1 : jget L 1 = some (.int x1)) {t : Mem} (h : bX2_compared_32 e x1 m = some t) (hq : (qM r K) t) : RunD (jcs xs) d 3 (none) jt_X2_compared (32, L, [], (K m)) r := by
  unfold bX2_compared_32 at h
  refine R_aload_n (p := 33) rfl l0 rfl ?_
  obtain ⟨q5, eq5, h⟩ := bind_some h
  refine R_cV1v (p := 36) hK rfl rfl (tfX2_next hK (Nat.le_trans (Nat.le_trans (by decide) (Nat.le_add_left _ _)) hd)  eq5) rfl rfl ?_
  refine R_i2c (p := 37) rfl rfl ?_
  refine R_istore_n (p := 38) rfl rfl rfl ?_
  refine R_aload_n (p := 39) rfl (jg_ne l0 rfl) rfl ?_
  refine R_dupa (p := 40) rfl rfl ?_
  refine R_getI (p := 43) hK rfl rfl rfl rfl ?_
  refine R_iconst (p := 44) rfl ki_1 rfl ?_
  refine R_iadd (p := 45) rfl rfl ?_
  refine R_putI (p := 48) hK rfl rfl rfl rfl rfl ?_
  refine R_aload_n (p := 49) rfl (jg_ne l0 rfl) rfl ?_
  refine R_iload_n (p := 50) rfl (jg_ne l1 rfl) rfl ?_
  obtain ⟨q6, eq6, h⟩ := bind_some h
  refine R_cV2n (p := 53) hK rfl rfl (tfX2_sum hK (Nat.le_trans (Nat.add_le_add_left (by decide) _) hd) he  eq6) rfl rfl ?_
  refine R_aload_n (p := 54) rfl (jg_ne l0 rfl) rfl ?_
  refine R_iload_n (p := 55) rfl jg_self rfl ?_
  refine R_cS1v (p := 58) rfl (tfX5_ofSign (Nat.le_trans (Nat.le_trans (by decide) (Nat.le_add_left _ _)) hd) ) rfl rfl ?_
  obtain ⟨q8, eq8, h⟩ := bind_some h
  refine R_cV2n (p := 61) hK rfl rfl (tfX2_note hK (Nat.le_trans (Nat.le_trans (by decide) (Nat.le_add_left _ _)) hd)  eq8) rfl rfl ?_
  obtain rfl := Option.some.inj h
  exact R_return rfl rfl hq
theorem ufX2_compared {xs : List Int32} {d : Nat} {r : jR} {K : Mem → List jE} (hK : Ctx shC K) {d0 : Nat} (hd : d0 + 4 ≤ d) {e : Int32 → Mem → Option Mem} (he : ∀ d9, d0 ≤ d9 → ∀ (x1 : Int32) (m9 : Mem) (q9 : Mem), e x1 m9 = some q9 → CallD (jcs xs) d9 47 [.ref 118, .int x1] (K m9) (none, K q9)) {x1 : Int32} {m : Mem} {L : List (Nat × Value)} (l0 : jget L 0 = some (.ref 118)) (l1 : jget L 1 = some (.int x1)) {t : Mem} (h : fX2_compared e x1 m = some t) (hq : (qM r K) t) : RunD (jcs xs) d 3 (none) jt_X2_compared (0, L, [], (K m)) r := by
  unfold fX2_compared at h
  refine R_aload_n (p := 1) rfl l0 rfl ?_
  refine R_iload_n (p := 2) rfl l1 rfl ?_
  obtain ⟨q1, eq1, h⟩ := bind_some h
  refine R_cV2n (p := 5) hK rfl rfl (tfX2_sum hK (Nat.le_trans (Nat.add_le_add_left (by decide) _) hd) he  eq1) rfl rfl ?_
  refine R_aload_n (p := 6) rfl l0 rfl ?_
  refine R_bipush (p := 8) rfl kb_60 rfl ?_
  obtain ⟨q2, eq2, h⟩ := bind_some h
  refine R_cV2v (p := 11) hK rfl rfl (tfX2_nextIs hK (Nat.le_trans (Nat.le_trans (by decide) (Nat.le_add_left _ _)) hd)  eq2) rfl rfl ?_
  by_cases hc : q2 = 0
  · replace h := ite_t h hc
    refine R_ifne_f (p := 14) rfl (fun z => z hc) rfl ?_
    refine R_aload_n (p := 15) rfl l0 rfl ?_
    refine R_bipush (p := 17) rfl kb_61 rfl ?_
    obtain ⟨q3, eq3, h⟩ := bind_some h
    refine R_cV2v (p := 20) hK rfl rfl (tfX2_nextIs hK (Nat.le_trans (Nat.le_trans (by decide) (Nat.le_add_left _ _)) hd)  eq3) rfl rfl ?_
    by_cases hc : q3 = 0
    · replace h := ite_t h hc
      refine R_ifne_f (p := 23) rfl (fun z => z hc) rfl ?_
      refine R_aload_n (p := 24) rfl l0 rfl ?_
      refine R_bipush (p := 26) rfl kb_62 rfl ?_
      obtain ⟨q4, eq4, h⟩ := bind_some h
      refine R_cV2v (p := 29) hK rfl rfl (tfX2_nextIs hK (Nat.le_trans (Nat.le_trans (by decide) (Nat.le_add_left _ _)) hd)  eq4) rfl rfl ?_
      by_cases hc : q4 = 0
      · replace h := ite_t h hc
        refine R_ifeq_t rfl hc ?_
        obtain rfl := Option.some.inj h
        exact R_return rfl rfl hq
      · replace h := ite_f h hc
        refine R_ifeq_f (p := 32) rfl hc rfl ?_
        exact tbX2_compared_32 hK hd he l0 l1 h hq
    · replace h := ite_f h hc
      refine R_ifne_t rfl hc ?_
      exact tbX2_compared_32 hK hd he l0 l1 h hq
  · replace h := ite_f h hc
    refine R_ifne_t rfl hc ?_
    exact tbX2_compared_32 hK hd he l0 l1 h hq
theorem tfX2_compared {xs : List Int32} {d : Nat} {K : Mem → List jE} (hK : Ctx shC K) {d0 : Nat} (hd : d0 + 5 ≤ d) {e : Int32 → Mem → Option Mem} (he : ∀ d9, d0 ≤ d9 → ∀ (x1 : Int32) (m9 : Mem) (q9 : Mem), e x1 m9 = some q9 → CallD (jcs xs) d9 47 [.ref 118, .int x1] (K m9) (none, K q9)) {x1 : Int32} {m : Mem} {t : Mem} (h : fX2_compared e x1 m = some t) : CallD (jcs xs) d 44 [.ref 118, .int x1] (K m) (none, K t) := by
  obtain ⟨d, rfl⟩ : ∃ z, d = z + 1 := ⟨d - 1, by omega⟩
  refine CallD_of jmt_X2_compared rfl ⟨rfl, Nat.le_of_ble_eq_true rfl⟩ ?_
  exact ufX2_compared hK (Nat.le_of_succ_le_succ hd) he rfl rfl h rfl
noncomputable def lX2_both_7 (e : Int32 → Mem → Option Mem) (x1 : Int32) (s : Int32 × Mem) : Option ((Int32 × Mem) ⊕ Mem) := (if (60 : Int32) ≤ s.1 then some (.inr s.2) else (fX2_nextIs (38 : Int32) s.2).bind fun q2 => (if q2 = 0 then some (.inr s.2) else (fX2_compared e x1 (mput s.2 118 0 ((s.2 118 0) + (1 : Int32)))).bind fun q3 => (fX2_note (fX5_ofSign (38 : Int32)) q3).bind fun q5 => some (.inl ((s.1 + (1 : Int32)), q5))))
noncomputable def gX2_both_7 (xs : List Int32) (d : Nat) (r : jR) (K : Mem → List jE) (x1 : Int32) (s : Int32 × Mem) : Prop := ∀ L, jget L 0 = some (.ref 118) → jget L 1 = some (.int x1) → jget L 2 = some (.int s.1) → RunD (jcs xs) d 3 (none) jt_X2_both (7, L, [], (K s.2)) r
noncomputable def fX2_both (e : Int32 → Mem → Option Mem) (x1 : Int32) (m : Mem) : Option Mem := (fX2_compared e x1 m).bind fun q1 => lp (lX2_both_7 e x1) fu ((0 : Int32), q1)
theorem BX2_both_7 {xs : List Int32} {d : Nat} {r : jR} {K : Mem → List jE} (hK : Ctx shC K) {d0 : Nat} (hd : d0 + 5 ≤ d) {e : Int32 → Mem → Option Mem} (he : ∀ d9, d0 ≤ d9 → ∀ (x1 : Int32) (m9 : Mem) (q9 : Mem), e x1 m9 = some q9 → CallD (jcs xs) d9 47 [.ref 118, .int x1] (K m9) (none, K q9))  {x1 : Int32} (s : Int32 × Mem) {t : (Int32 × Mem) ⊕ Mem} (h : lX2_both_7 e x1 s = some t) (hq : sQ (gX2_both_7 xs d r K x1) (qM r K) t) : gX2_both_7 xs d r K x1 s := by
  intro L l0 l1 l2
  unfold lX2_both_7 at h
  refine R_iload_n (p := 8) rfl l2 rfl ?_
  refine R_bipush (p := 10) rfl kb_60 rfl ?_
  by_cases hc : (60 : Int32) ≤ s.1
  · replace h := ite_t h hc
    refine R_icge_t rfl hc ?_
    obtain rfl := Option.some.inj h
    exact R_return rfl rfl hq
  · replace h := ite_f h hc
    refine R_icge_f (p := 13) rfl hc rfl ?_
    refine R_aload_n (p := 14) rfl l0 rfl ?_
    refine R_bipush (p := 16) rfl kb_38 rfl ?_
    obtain ⟨q2, eq2, h⟩ := bind_some h
    refine R_cV2v (p := 19) hK rfl rfl (tfX2_nextIs hK (Nat.le_trans (Nat.le_trans (by decide) (Nat.le_add_left _ _)) hd)  eq2) rfl rfl ?_
    by_cases hc : q2 = 0
    · replace h := ite_t h hc
      refine R_ifeq_t rfl hc ?_
      obtain rfl := Option.some.inj h
      exact R_return rfl rfl hq
    · replace h := ite_f h hc
      refine R_ifeq_f (p := 22) rfl hc rfl ?_
      refine R_aload_n (p := 23) rfl l0 rfl ?_
      refine R_dupa (p := 24) rfl rfl ?_
      refine R_getI (p := 27) hK rfl rfl rfl rfl ?_
      refine R_iconst (p := 28) rfl ki_1 rfl ?_
      refine R_iadd (p := 29) rfl rfl ?_
      refine R_putI (p := 32) hK rfl rfl rfl rfl rfl ?_
      refine R_aload_n (p := 33) rfl l0 rfl ?_
      refine R_iload_n (p := 34) rfl l1 rfl ?_
      obtain ⟨q3, eq3, h⟩ := bind_some h
      refine R_cV2n (p := 37) hK rfl rfl (tfX2_compared hK (Nat.le_trans (Nat.add_le_add_left (by decide) _) hd) he  eq3) rfl rfl ?_
      refine R_aload_n (p := 38) rfl l0 rfl ?_
      refine R_bipush (p := 40) rfl kb_38 rfl ?_
      refine R_cS1v (p := 43) rfl (tfX5_ofSign (Nat.le_trans (Nat.le_trans (by decide) (Nat.le_add_left _ _)) hd) ) rfl rfl ?_
      obtain ⟨q5, eq5, h⟩ := bind_some h
      refine R_cV2n (p := 46) hK rfl rfl (tfX2_note hK (Nat.le_trans (Nat.le_trans (by decide) (Nat.le_add_left _ _)) hd)  eq5) rfl rfl ?_
      refine R_iinc (p := 49) rfl l2 rfl ki_1 rfl ?_
      refine R_goto rfl ?_
      obtain rfl := Option.some.inj h
      exact hq _ (jg_ne l0 rfl) (jg_ne l1 rfl) jg_self
theorem LX2_both_7 {xs : List Int32} {d : Nat} {r : jR} {K : Mem → List jE} (hK : Ctx shC K) {d0 : Nat} (hd : d0 + 5 ≤ d) {e : Int32 → Mem → Option Mem} (he : ∀ d9, d0 ≤ d9 → ∀ (x1 : Int32) (m9 : Mem) (q9 : Mem), e x1 m9 = some q9 → CallD (jcs xs) d9 47 [.ref 118, .int x1] (K m9) (none, K q9))  {x1 : Int32} (n : Nat) (s : Int32 × Mem) {t : Mem} (h : lp (lX2_both_7 e x1) n s = some t) (hq : (qM r K) t) : gX2_both_7 xs d r K x1 s := lp_ind (G := gX2_both_7 xs d r K x1) (Qe := (qM r K)) (fun s t h hq => BX2_both_7 hK hd he s h hq) n s t h hq
theorem ufX2_both {xs : List Int32} {d : Nat} {r : jR} {K : Mem → List jE} (hK : Ctx shC K) {d0 : Nat} (hd : d0 + 5 ≤ d) {e : Int32 → Mem → Option Mem} (he : ∀ d9, d0 ≤ d9 → ∀ (x1 : Int32) (m9 : Mem) (q9 : Mem), e x1 m9 = some q9 → CallD (jcs xs) d9 47 [.ref 118, .int x1] (K m9) (none, K q9)) {x1 : Int32} {m : Mem} {L : List (Nat × Value)} (l0 : jget L 0 = some (.ref 118)) (l1 : jget L 1 = some (.int x1)) {t : Mem} (h : fX2_both e x1 m = some t) (hq : (qM r K) t) : RunD (jcs xs) d 3 (none) jt_X2_both (0, L, [], (K m)) r := by
  unfold fX2_both at h
  refine R_aload_n (p := 1) rfl l0 rfl ?_
  refine R_iload_n (p := 2) rfl l1 rfl ?_
  obtain ⟨q1, eq1, h⟩ := bind_some h
  refine R_cV2n (p := 5) hK rfl rfl (tfX2_compared hK (Nat.le_trans (Nat.add_le_add_left (by decide) _) hd) he  eq1) rfl rfl ?_
  refine R_iconst (p := 6) rfl ki_0 rfl ?_
  refine R_istore_n (p := 7) rfl rfl rfl ?_
  exact LX2_both_7 hK hd he _ _ h hq _ (jg_ne l0 rfl) (jg_ne l1 rfl) jg_self
theorem tfX2_both {xs : List Int32} {d : Nat} {K : Mem → List jE} (hK : Ctx shC K) {d0 : Nat} (hd : d0 + 6 ≤ d) {e : Int32 → Mem → Option Mem} (he : ∀ d9, d0 ≤ d9 → ∀ (x1 : Int32) (m9 : Mem) (q9 : Mem), e x1 m9 = some q9 → CallD (jcs xs) d9 47 [.ref 118, .int x1] (K m9) (none, K q9)) {x1 : Int32} {m : Mem} {t : Mem} (h : fX2_both e x1 m = some t) : CallD (jcs xs) d 43 [.ref 118, .int x1] (K m) (none, K t) := by
  obtain ⟨d, rfl⟩ : ∃ z, d = z + 1 := ⟨d - 1, by omega⟩
  refine CallD_of jmt_X2_both rfl ⟨rfl, Nat.le_of_ble_eq_true rfl⟩ ?_
  exact ufX2_both hK (Nat.le_of_succ_le_succ hd) he rfl rfl h rfl
noncomputable def lX2_either_7 (e : Int32 → Mem → Option Mem) (x1 : Int32) (s : Int32 × Mem) : Option ((Int32 × Mem) ⊕ Mem) := (if (60 : Int32) ≤ s.1 then some (.inr s.2) else (fX2_nextIs (124 : Int32) s.2).bind fun q2 => (if q2 = 0 then some (.inr s.2) else (fX2_both e x1 (mput s.2 118 0 ((s.2 118 0) + (1 : Int32)))).bind fun q3 => (fX2_note (fX5_ofSign (124 : Int32)) q3).bind fun q5 => some (.inl ((s.1 + (1 : Int32)), q5))))
noncomputable def gX2_either_7 (xs : List Int32) (d : Nat) (r : jR) (K : Mem → List jE) (x1 : Int32) (s : Int32 × Mem) : Prop := ∀ L, jget L 0 = some (.ref 118) → jget L 1 = some (.int x1) → jget L 2 = some (.int s.1) → RunD (jcs xs) d 3 (none) jt_X2_either (7, L, [], (K s.2)) r
noncomputable def fX2_either (e : Int32 → Mem → Option Mem) (x1 : Int32) (m : Mem) : Option Mem := (fX2_both e x1 m).bind fun q1 => lp (lX2_either_7 e x1) fu ((0 : Int32), q1)
theorem BX2_either_7 {xs : List Int32} {d : Nat} {r : jR} {K : Mem → List jE} (hK : Ctx shC K) {d0 : Nat} (hd : d0 + 6 ≤ d) {e : Int32 → Mem → Option Mem} (he : ∀ d9, d0 ≤ d9 → ∀ (x1 : Int32) (m9 : Mem) (q9 : Mem), e x1 m9 = some q9 → CallD (jcs xs) d9 47 [.ref 118, .int x1] (K m9) (none, K q9))  {x1 : Int32} (s : Int32 × Mem) {t : (Int32 × Mem) ⊕ Mem} (h : lX2_either_7 e x1 s = some t) (hq : sQ (gX2_either_7 xs d r K x1) (qM r K) t) : gX2_either_7 xs d r K x1 s := by
  intro L l0 l1 l2
  unfold lX2_either_7 at h
  refine R_iload_n (p := 8) rfl l2 rfl ?_
  refine R_bipush (p := 10) rfl kb_60 rfl ?_
  by_cases hc : (60 : Int32) ≤ s.1
  · replace h := ite_t h hc
    refine R_icge_t rfl hc ?_
    obtain rfl := Option.some.inj h
    exact R_return rfl rfl hq
  · replace h := ite_f h hc
    refine R_icge_f (p := 13) rfl hc rfl ?_
    refine R_aload_n (p := 14) rfl l0 rfl ?_
    refine R_bipush (p := 16) rfl kb_124 rfl ?_
    obtain ⟨q2, eq2, h⟩ := bind_some h
    refine R_cV2v (p := 19) hK rfl rfl (tfX2_nextIs hK (Nat.le_trans (Nat.le_trans (by decide) (Nat.le_add_left _ _)) hd)  eq2) rfl rfl ?_
    by_cases hc : q2 = 0
    · replace h := ite_t h hc
      refine R_ifeq_t rfl hc ?_
      obtain rfl := Option.some.inj h
      exact R_return rfl rfl hq
    · replace h := ite_f h hc
      refine R_ifeq_f (p := 22) rfl hc rfl ?_
      refine R_aload_n (p := 23) rfl l0 rfl ?_
      refine R_dupa (p := 24) rfl rfl ?_
      refine R_getI (p := 27) hK rfl rfl rfl rfl ?_
      refine R_iconst (p := 28) rfl ki_1 rfl ?_
      refine R_iadd (p := 29) rfl rfl ?_
      refine R_putI (p := 32) hK rfl rfl rfl rfl rfl ?_
      refine R_aload_n (p := 33) rfl l0 rfl ?_
      refine R_iload_n (p := 34) rfl l1 rfl ?_
      obtain ⟨q3, eq3, h⟩ := bind_some h
      refine R_cV2n (p := 37) hK rfl rfl (tfX2_both hK (Nat.le_trans (Nat.add_le_add_left (by decide) _) hd) he  eq3) rfl rfl ?_
      refine R_aload_n (p := 38) rfl l0 rfl ?_
      refine R_bipush (p := 40) rfl kb_124 rfl ?_
      refine R_cS1v (p := 43) rfl (tfX5_ofSign (Nat.le_trans (Nat.le_trans (by decide) (Nat.le_add_left _ _)) hd) ) rfl rfl ?_
      obtain ⟨q5, eq5, h⟩ := bind_some h
      refine R_cV2n (p := 46) hK rfl rfl (tfX2_note hK (Nat.le_trans (Nat.le_trans (by decide) (Nat.le_add_left _ _)) hd)  eq5) rfl rfl ?_
      refine R_iinc (p := 49) rfl l2 rfl ki_1 rfl ?_
      refine R_goto rfl ?_
      obtain rfl := Option.some.inj h
      exact hq _ (jg_ne l0 rfl) (jg_ne l1 rfl) jg_self
theorem LX2_either_7 {xs : List Int32} {d : Nat} {r : jR} {K : Mem → List jE} (hK : Ctx shC K) {d0 : Nat} (hd : d0 + 6 ≤ d) {e : Int32 → Mem → Option Mem} (he : ∀ d9, d0 ≤ d9 → ∀ (x1 : Int32) (m9 : Mem) (q9 : Mem), e x1 m9 = some q9 → CallD (jcs xs) d9 47 [.ref 118, .int x1] (K m9) (none, K q9))  {x1 : Int32} (n : Nat) (s : Int32 × Mem) {t : Mem} (h : lp (lX2_either_7 e x1) n s = some t) (hq : (qM r K) t) : gX2_either_7 xs d r K x1 s := lp_ind (G := gX2_either_7 xs d r K x1) (Qe := (qM r K)) (fun s t h hq => BX2_either_7 hK hd he s h hq) n s t h hq
theorem ufX2_either {xs : List Int32} {d : Nat} {r : jR} {K : Mem → List jE} (hK : Ctx shC K) {d0 : Nat} (hd : d0 + 6 ≤ d) {e : Int32 → Mem → Option Mem} (he : ∀ d9, d0 ≤ d9 → ∀ (x1 : Int32) (m9 : Mem) (q9 : Mem), e x1 m9 = some q9 → CallD (jcs xs) d9 47 [.ref 118, .int x1] (K m9) (none, K q9)) {x1 : Int32} {m : Mem} {L : List (Nat × Value)} (l0 : jget L 0 = some (.ref 118)) (l1 : jget L 1 = some (.int x1)) {t : Mem} (h : fX2_either e x1 m = some t) (hq : (qM r K) t) : RunD (jcs xs) d 3 (none) jt_X2_either (0, L, [], (K m)) r := by
  unfold fX2_either at h
  refine R_aload_n (p := 1) rfl l0 rfl ?_
  refine R_iload_n (p := 2) rfl l1 rfl ?_
  obtain ⟨q1, eq1, h⟩ := bind_some h
  refine R_cV2n (p := 5) hK rfl rfl (tfX2_both hK (Nat.le_trans (Nat.add_le_add_left (by decide) _) hd) he  eq1) rfl rfl ?_
  refine R_iconst (p := 6) rfl ki_0 rfl ?_
  refine R_istore_n (p := 7) rfl rfl rfl ?_
  exact LX2_either_7 hK hd he _ _ h hq _ (jg_ne l0 rfl) (jg_ne l1 rfl) jg_self
theorem tfX2_either {xs : List Int32} {d : Nat} {K : Mem → List jE} (hK : Ctx shC K) {d0 : Nat} (hd : d0 + 7 ≤ d) {e : Int32 → Mem → Option Mem} (he : ∀ d9, d0 ≤ d9 → ∀ (x1 : Int32) (m9 : Mem) (q9 : Mem), e x1 m9 = some q9 → CallD (jcs xs) d9 47 [.ref 118, .int x1] (K m9) (none, K q9)) {x1 : Int32} {m : Mem} {t : Mem} (h : fX2_either e x1 m = some t) : CallD (jcs xs) d 42 [.ref 118, .int x1] (K m) (none, K t) := by
  obtain ⟨d, rfl⟩ : ∃ z, d = z + 1 := ⟨d - 1, by omega⟩
  refine CallD_of jmt_X2_either rfl ⟨rfl, Nat.le_of_ble_eq_true rfl⟩ ?_
  exact ufX2_either hK (Nat.le_of_succ_le_succ hd) he rfl rfl h rfl
noncomputable def fJ0_isLatin1_aae02 (z0 : Nat) : Int32 := (1 : Int32)
theorem ufJ0_isLatin1_aae02 {xs : List Int32} {d : Nat} {r : jR} {hh : List jE} (hd : 0 ≤ d) {z0 : Nat} (hz0 : strq z0) {L : List (Nat × Value)} (l0 : jget L 0 = some (.ref (jK0 + z0))) {t : Int32} (h : fJ0_isLatin1_aae02 z0 = t) (hq : (qI r hh) t) : RunD (jcs xs) d 1 (some .boolean) jt_J0_isLatin1_aae02 (0, L, [], hh) r := by
  unfold fJ0_isLatin1_aae02 at h
  refine R_getz (p := 3) rfl rfl ?_
  refine R_ifeq_f (p := 6) rfl (by decide) rfl ?_
  refine R_aload_n (p := 7) rfl l0 rfl ?_
  refine R_getc (p := 10) rfl hz0 rfl ?_
  refine R_ifne_f (p := 13) rfl (by decide) rfl ?_
  refine R_iconst (p := 14) rfl ki_1 rfl ?_
  refine R_goto rfl ?_
  subst h
  exact R_zreturn rfl rfl (by decide) hq
theorem tfJ0_isLatin1_aae02 {xs : List Int32} {d : Nat} {hh : List jE} (hd : 1 ≤ d) {z0 : Nat} (hz0 : strq z0) : CallD (jcs xs) d 270 [.ref (jK0 + z0)] hh (some (.int (fJ0_isLatin1_aae02 z0)), hh) := by
  obtain ⟨d, rfl⟩ : ∃ z, d = z + 1 := ⟨d - 1, by omega⟩
  refine CallD_of jmt_J0_isLatin1_aae02 rfl ⟨rfl, Nat.le_of_ble_eq_true rfl⟩ ?_
  exact ufJ0_isLatin1_aae02 (Nat.le_of_succ_le_succ hd) hz0 rfl rfl rfl
noncomputable def fJ0_coder_7d493 (z0 : Nat) : Int32 := (0 : Int32)
theorem ufJ0_coder_7d493 {xs : List Int32} {d : Nat} {r : jR} {hh : List jE} (hd : 0 ≤ d) {z0 : Nat} (hz0 : strq z0) {L : List (Nat × Value)} (l0 : jget L 0 = some (.ref (jK0 + z0))) {t : Int32} (h : fJ0_coder_7d493 z0 = t) (hq : (qI r hh) t) : RunD (jcs xs) d 1 (some .byte) jt_J0_coder_7d493 (0, L, [], hh) r := by
  unfold fJ0_coder_7d493 at h
  refine R_getz (p := 3) rfl rfl ?_
  refine R_ifeq_f (p := 6) rfl (by decide) rfl ?_
  refine R_aload_n (p := 7) rfl l0 rfl ?_
  refine R_getc (p := 10) rfl hz0 rfl ?_
  refine R_goto rfl ?_
  subst h
  exact R_breturn rfl rfl rfl hq
theorem tfJ0_coder_7d493 {xs : List Int32} {d : Nat} {hh : List jE} (hd : 1 ≤ d) {z0 : Nat} (hz0 : strq z0) : CallD (jcs xs) d 269 [.ref (jK0 + z0)] hh (some (.int (fJ0_coder_7d493 z0)), hh) := by
  obtain ⟨d, rfl⟩ : ∃ z, d = z + 1 := ⟨d - 1, by omega⟩
  refine CallD_of jmt_J0_coder_7d493 rfl ⟨rfl, Nat.le_of_ble_eq_true rfl⟩ ?_
  exact ufJ0_coder_7d493 (Nat.le_of_succ_le_succ hd) hz0 rfl rfl rfl
noncomputable def fJ0_length_8abf5 (z0 : Nat) : Int32 := (jShr (sLen z0) (fJ0_coder_7d493 z0))
theorem ufJ0_length_8abf5 {xs : List Int32} {d : Nat} {r : jR} {hh : List jE} (hd : 1 ≤ d) {z0 : Nat} (hz0 : strq z0) {L : List (Nat × Value)} (l0 : jget L 0 = some (.ref (jK0 + z0))) {t : Int32} (h : fJ0_length_8abf5 z0 = t) (hq : (qI r hh) t) : RunD (jcs xs) d 1 (some .int) jt_J0_length_8abf5 (0, L, [], hh) r := by
  unfold fJ0_length_8abf5 at h
  refine R_aload_n (p := 1) rfl l0 rfl ?_
  refine R_getv (p := 4) rfl hz0 rfl ?_
  refine R_blen (p := 5) rfl hz0 rfl ?_
  refine R_aload_n (p := 6) rfl l0 rfl ?_
  refine R_cK1v (p := 9) rfl (strq_q hz0) (tfJ0_coder_7d493 (Nat.le_trans (by decide) hd) hz0) rfl rfl ?_
  refine R_ishr (p := 10) rfl rfl ?_
  subst h
  exact R_ireturn rfl rfl hq
theorem tfJ0_length_8abf5 {xs : List Int32} {d : Nat} {hh : List jE} (hd : 2 ≤ d) {z0 : Nat} (hz0 : strq z0) : CallD (jcs xs) d 265 [.ref (jK0 + z0)] hh (some (.int (fJ0_length_8abf5 z0)), hh) := by
  obtain ⟨d, rfl⟩ : ∃ z, d = z + 1 := ⟨d - 1, by omega⟩
  refine CallD_of jmt_J0_length_8abf5 rfl ⟨rfl, Nat.le_of_ble_eq_true rfl⟩ ?_
  exact ufJ0_length_8abf5 (Nat.le_of_succ_le_succ hd) hz0 rfl rfl rfl
noncomputable def fJ1_canEncode_9a6ad (x0 : Int32) : Int32 := (if x0 < 0 then (0 : Int32) else (if (255 : Int32) < x0 then (0 : Int32) else (1 : Int32)))
theorem ufJ1_canEncode_9a6ad {xs : List Int32} {d : Nat} {r : jR} {hh : List jE} (hd : 0 ≤ d) {x0 : Int32} {L : List (Nat × Value)} (l0 : jget L 0 = some (.int x0)) {t : Int32} (h : fJ1_canEncode_9a6ad x0 = t) (hq : (qI r hh) t) : RunD (jcs xs) d 1 (some .boolean) jt_J1_canEncode_9a6ad (0, L, [], hh) r := by
  unfold fJ1_canEncode_9a6ad at h
  refine R_iload_n (p := 1) rfl l0 rfl ?_
  by_cases hc : x0 < 0
  · replace h := ite_t h hc
    refine R_iflt_t rfl hc ?_
    refine R_iconst (p := 16) rfl ki_0 rfl ?_
    subst h
    exact R_zreturn rfl rfl (by decide) hq
  · replace h := ite_f h hc
    refine R_iflt_f (p := 4) rfl hc rfl ?_
    refine R_iload_n (p := 5) rfl l0 rfl ?_
    refine R_sipush (p := 8) rfl ks_255 rfl ?_
    by_cases hc : (255 : Int32) < x0
    · replace h := ite_t h hc
      refine R_icgt_t rfl hc ?_
      refine R_iconst (p := 16) rfl ki_0 rfl ?_
      subst h
      exact R_zreturn rfl rfl (by decide) hq
    · replace h := ite_f h hc
      refine R_icgt_f (p := 11) rfl hc rfl ?_
      refine R_iconst (p := 12) rfl ki_1 rfl ?_
      refine R_goto rfl ?_
      subst h
      exact R_zreturn rfl rfl (by decide) hq
theorem tfJ1_canEncode_9a6ad {xs : List Int32} {d : Nat} {hh : List jE} (hd : 1 ≤ d) {x0 : Int32} : CallD (jcs xs) d 272 [.int x0] hh (some (.int (fJ1_canEncode_9a6ad x0)), hh) := by
  obtain ⟨d, rfl⟩ : ∃ z, d = z + 1 := ⟨d - 1, by omega⟩
  refine CallD_of jmt_J1_canEncode_9a6ad rfl ⟨rfl, Nat.le_of_ble_eq_true rfl⟩ ?_
  exact ufJ1_canEncode_9a6ad (Nat.le_of_succ_le_succ hd) rfl rfl rfl
noncomputable def lJ1_indexOfChar_4cfef_7 (z0 : Nat) (x3 : Int32) (x4 : Int32) (s : Int32) : Option ((Int32) ⊕ Int32) := (if x3 ≤ s then some (.inr (-1 : Int32)) else (jat (jstx z0) s).bind fun q1 => (if q1 = x4 then some (.inr s) else some (.inl (s + (1 : Int32)))))
noncomputable def gJ1_indexOfChar_4cfef_7 (xs : List Int32) (d : Nat) (r : jR) (hh : List jE) (z0 : Nat) (x3 : Int32) (x4 : Int32) (s : Int32) : Prop := ∀ L, jget L 0 = some (.ref (jK0 + z0 + 20)) → jget L 3 = some (.int x3) → jget L 4 = some (.int x4) → jget L 5 = some (.int s) → RunD (jcs xs) d 6 (some .int) jt_J1_indexOfChar_4cfef (7, L, [], hh) r
noncomputable def fJ1_indexOfChar_4cfef (z0 : Nat) (x1 : Int32) (x2 : Int32) (x3 : Int32) : Option Int32 := lp (lJ1_indexOfChar_4cfef_7 z0 x3 (x1.toInt8.toInt32)) fu x2
theorem BJ1_indexOfChar_4cfef_7 {xs : List Int32} {d : Nat} {r : jR} {hh : List jE} (hd : 0 ≤ d) {z0 : Nat} (hz0 : strq z0)  {x3 : Int32} {x4 : Int32} (s : Int32) {t : (Int32) ⊕ Int32} (h : lJ1_indexOfChar_4cfef_7 z0 x3 x4 s = some t) (hq : sQ (gJ1_indexOfChar_4cfef_7 xs d r hh z0 x3 x4) (qI r hh) t) : gJ1_indexOfChar_4cfef_7 xs d r hh z0 x3 x4 s := by
  intro L l0 l3 l4 l5
  unfold lJ1_indexOfChar_4cfef_7 at h
  refine R_iload (p := 9) rfl l5 rfl ?_
  refine R_iload_n (p := 10) rfl l3 rfl ?_
  by_cases hc : x3 ≤ s
  · replace h := ite_t h hc
    refine R_icge_t rfl hc ?_
    refine R_iconst (p := 32) rfl ki_m1 rfl ?_
    obtain rfl := Option.some.inj h
    exact R_ireturn rfl rfl hq
  · replace h := ite_f h hc
    refine R_icge_f (p := 13) rfl hc rfl ?_
    refine R_aload_n (p := 14) rfl l0 rfl ?_
    refine R_iload (p := 16) rfl l5 rfl ?_
    obtain ⟨q1, eq1, h⟩ := bind_some h
    refine R_bald (p := 17) rfl hz0 eq1 rfl ?_
    refine R_iload (p := 19) rfl l4 rfl ?_
    by_cases hc : q1 = x4
    · replace h := ite_t h hc
      refine R_icne_f (p := 22) rfl (fun z => z hc) rfl ?_
      refine R_iload (p := 24) rfl l5 rfl ?_
      obtain rfl := Option.some.inj h
      exact R_ireturn rfl rfl hq
    · replace h := ite_f h hc
      refine R_icne_t rfl hc ?_
      refine R_iinc (p := 28) rfl l5 rfl ki_1 rfl ?_
      refine R_goto rfl ?_
      obtain rfl := Option.some.inj h
      exact hq _ (jg_ne l0 rfl) (jg_ne l3 rfl) (jg_ne l4 rfl) jg_self
theorem LJ1_indexOfChar_4cfef_7 {xs : List Int32} {d : Nat} {r : jR} {hh : List jE} (hd : 0 ≤ d) {z0 : Nat} (hz0 : strq z0)  {x3 : Int32} {x4 : Int32} (n : Nat) (s : Int32) {t : Int32} (h : lp (lJ1_indexOfChar_4cfef_7 z0 x3 x4) n s = some t) (hq : (qI r hh) t) : gJ1_indexOfChar_4cfef_7 xs d r hh z0 x3 x4 s := lp_ind (G := gJ1_indexOfChar_4cfef_7 xs d r hh z0 x3 x4) (Qe := (qI r hh)) (fun s t h hq => BJ1_indexOfChar_4cfef_7 hd hz0 s h hq) n s t h hq
theorem ufJ1_indexOfChar_4cfef {xs : List Int32} {d : Nat} {r : jR} {hh : List jE} (hd : 0 ≤ d) {z0 : Nat} (hz0 : strq z0) {x1 : Int32} {x2 : Int32} {x3 : Int32} {L : List (Nat × Value)} (l0 : jget L 0 = some (.ref (jK0 + z0 + 20))) (l1 : jget L 1 = some (.int x1)) (l2 : jget L 2 = some (.int x2)) (l3 : jget L 3 = some (.int x3)) {t : Int32} (h : fJ1_indexOfChar_4cfef z0 x1 x2 x3 = some t) (hq : (qI r hh) t) : RunD (jcs xs) d 6 (some .int) jt_J1_indexOfChar_4cfef (0, L, [], hh) r := by
  unfold fJ1_indexOfChar_4cfef at h
  refine R_iload_n (p := 1) rfl l1 rfl ?_
  refine R_i2b (p := 2) rfl rfl ?_
  refine R_istore (p := 4) rfl rfl rfl ?_
  refine R_iload_n (p := 5) rfl (jg_ne l2 rfl) rfl ?_
  refine R_istore (p := 7) rfl rfl rfl ?_
  exact LJ1_indexOfChar_4cfef_7 hd hz0 _ _ h hq _ (jg_ne (jg_ne l0 rfl) rfl) (jg_ne (jg_ne l3 rfl) rfl) (jg_ne jg_self rfl) jg_self
theorem tfJ1_indexOfChar_4cfef {xs : List Int32} {d : Nat} {hh : List jE} (hd : 1 ≤ d) {z0 : Nat} (hz0 : strq z0) {x1 : Int32} {x2 : Int32} {x3 : Int32} {t : Int32} (h : fJ1_indexOfChar_4cfef z0 x1 x2 x3 = some t) : CallD (jcs xs) d 274 [.ref (jK0 + z0 + 20), .int x1, .int x2, .int x3] hh (some (.int t), hh) := by
  obtain ⟨d, rfl⟩ : ∃ z, d = z + 1 := ⟨d - 1, by omega⟩
  refine CallD_of jmt_J1_indexOfChar_4cfef rfl ⟨rfl, Nat.le_of_ble_eq_true rfl⟩ ?_
  exact ufJ1_indexOfChar_4cfef (Nat.le_of_succ_le_succ hd) hz0 rfl rfl rfl rfl h rfl
noncomputable def fJ1_indexOf_4cfef (z0 : Nat) (x1 : Int32) (x2 : Int32) (x3 : Int32) : Option Int32 := (if (fJ1_canEncode_9a6ad x1) = 0 then some (-1 : Int32) else (if (fJ9_max_7cf53 x2 (0 : Int32)) < (fJ9_min_7cf53 x3 (sLen z0)) then (fJ1_indexOfChar_4cfef z0 x1 (fJ9_max_7cf53 x2 (0 : Int32)) (fJ9_min_7cf53 x3 (sLen z0))).bind fun q4 => some q4 else some (-1 : Int32)))
theorem ufJ1_indexOf_4cfef {xs : List Int32} {d : Nat} {r : jR} {hh : List jE} (hd : 1 ≤ d) {z0 : Nat} (hz0 : strq z0) {x1 : Int32} {x2 : Int32} {x3 : Int32} {L : List (Nat × Value)} (l0 : jget L 0 = some (.ref (jK0 + z0 + 20))) (l1 : jget L 1 = some (.int x1)) (l2 : jget L 2 = some (.int x2)) (l3 : jget L 3 = some (.int x3)) {t : Int32} (h : fJ1_indexOf_4cfef z0 x1 x2 x3 = some t) (hq : (qI r hh) t) : RunD (jcs xs) d 4 (some .int) jt_J1_indexOf_4cfef (0, L, [], hh) r := by
  unfold fJ1_indexOf_4cfef at h
  refine R_iload_n (p := 1) rfl l1 rfl ?_
  refine R_cS1v (p := 4) rfl (tfJ1_canEncode_9a6ad (Nat.le_trans (by decide) hd) ) rfl rfl ?_
  by_cases hc : (fJ1_canEncode_9a6ad x1) = 0
  · replace h := ite_t h hc
    refine R_ifne_f (p := 7) rfl (fun z => z hc) rfl ?_
    refine R_iconst (p := 8) rfl ki_m1 rfl ?_
    obtain rfl := Option.some.inj h
    exact R_ireturn rfl rfl hq
  · replace h := ite_f h hc
    refine R_ifne_t rfl hc ?_
    refine R_iload_n (p := 10) rfl l2 rfl ?_
    refine R_iconst (p := 11) rfl ki_0 rfl ?_
    refine R_cS2v (p := 14) rfl (tfJ9_max_7cf53 (Nat.le_trans (by decide) hd) ) rfl rfl ?_
    refine R_istore_n (p := 15) rfl rfl rfl ?_
    refine R_iload_n (p := 16) rfl (jg_ne l3 rfl) rfl ?_
    refine R_aload_n (p := 17) rfl (jg_ne l0 rfl) rfl ?_
    refine R_blen (p := 18) rfl hz0 rfl ?_
    refine R_cS2v (p := 21) rfl (tfJ9_min_7cf53 (Nat.le_trans (by decide) hd) ) rfl rfl ?_
    refine R_istore_n (p := 22) rfl rfl rfl ?_
    refine R_iload_n (p := 23) rfl (jg_ne jg_self rfl) rfl ?_
    refine R_iload_n (p := 24) rfl jg_self rfl ?_
    by_cases hc : (fJ9_max_7cf53 x2 (0 : Int32)) < (fJ9_min_7cf53 x3 (sLen z0))
    · replace h := ite_t h hc
      refine R_iclt_t rfl hc ?_
      refine R_aload_n (p := 30) rfl (jg_ne (jg_ne l0 rfl) rfl) rfl ?_
      refine R_iload_n (p := 31) rfl (jg_ne (jg_ne l1 rfl) rfl) rfl ?_
      refine R_iload_n (p := 32) rfl (jg_ne jg_self rfl) rfl ?_
      refine R_iload_n (p := 33) rfl jg_self rfl ?_
      obtain ⟨q4, eq4, h⟩ := bind_some h
      refine R_cS4v (p := 36) rfl (tfJ1_indexOfChar_4cfef (Nat.le_trans (by decide) hd) hz0 eq4) rfl rfl ?_
      obtain rfl := Option.some.inj h
      exact R_ireturn rfl rfl hq
    · replace h := ite_f h hc
      refine R_iclt_f (p := 27) rfl hc rfl ?_
      refine R_iconst (p := 28) rfl ki_m1 rfl ?_
      obtain rfl := Option.some.inj h
      exact R_ireturn rfl rfl hq
theorem tfJ1_indexOf_4cfef {xs : List Int32} {d : Nat} {hh : List jE} (hd : 2 ≤ d) {z0 : Nat} (hz0 : strq z0) {x1 : Int32} {x2 : Int32} {x3 : Int32} {t : Int32} (h : fJ1_indexOf_4cfef z0 x1 x2 x3 = some t) : CallD (jcs xs) d 273 [.ref (jK0 + z0 + 20), .int x1, .int x2, .int x3] hh (some (.int t), hh) := by
  obtain ⟨d, rfl⟩ : ∃ z, d = z + 1 := ⟨d - 1, by omega⟩
  refine CallD_of jmt_J1_indexOf_4cfef rfl ⟨rfl, Nat.le_of_ble_eq_true rfl⟩ ?_
  exact ufJ1_indexOf_4cfef (Nat.le_of_succ_le_succ hd) hz0 rfl rfl rfl rfl h rfl
noncomputable def fJ0_indexOf_7cf53 (z0 : Nat) (x1 : Int32) (x2 : Int32) : Option Int32 := (if (fJ0_isLatin1_aae02 z0) = 0 then none else (fJ1_indexOf_4cfef z0 x1 x2 (fJ0_length_8abf5 z0)).bind fun q4 => some q4)
theorem ufJ0_indexOf_7cf53 {xs : List Int32} {d : Nat} {r : jR} {hh : List jE} (hd : 2 ≤ d) {z0 : Nat} (hz0 : strq z0) {x1 : Int32} {x2 : Int32} {L : List (Nat × Value)} (l0 : jget L 0 = some (.ref (jK0 + z0))) (l1 : jget L 1 = some (.int x1)) (l2 : jget L 2 = some (.int x2)) {t : Int32} (h : fJ0_indexOf_7cf53 z0 x1 x2 = some t) (hq : (qI r hh) t) : RunD (jcs xs) d 3 (some .int) jt_J0_indexOf_7cf53 (0, L, [], hh) r := by
  unfold fJ0_indexOf_7cf53 at h
  refine R_aload_n (p := 1) rfl l0 rfl ?_
  refine R_cK1v (p := 4) rfl (strq_q hz0) (tfJ0_isLatin1_aae02 (Nat.le_trans (by decide) hd) hz0) rfl rfl ?_
  by_cases hc : (fJ0_isLatin1_aae02 z0) = 0
  · replace h := ite_t h hc
    refine R_ifeq_t rfl hc ?_
    refine R_aload_n (p := 24) rfl l0 rfl ?_
    refine R_getv (p := 27) rfl hz0 rfl ?_
    refine R_iload_n (p := 28) rfl l1 rfl ?_
    refine R_iload_n (p := 29) rfl l2 rfl ?_
    refine R_aload_n (p := 30) rfl l0 rfl ?_
    refine R_cK1v (p := 33) rfl (strq_q hz0) (tfJ0_length_8abf5 (Nat.le_trans (by decide) hd) hz0) rfl rfl ?_
    cases h
  · replace h := ite_f h hc
    refine R_ifeq_f (p := 7) rfl hc rfl ?_
    refine R_aload_n (p := 8) rfl l0 rfl ?_
    refine R_getv (p := 11) rfl hz0 rfl ?_
    refine R_iload_n (p := 12) rfl l1 rfl ?_
    refine R_iload_n (p := 13) rfl l2 rfl ?_
    refine R_aload_n (p := 14) rfl l0 rfl ?_
    refine R_cK1v (p := 17) rfl (strq_q hz0) (tfJ0_length_8abf5 (Nat.le_trans (by decide) hd) hz0) rfl rfl ?_
    obtain ⟨q4, eq4, h⟩ := bind_some h
    refine R_cS4v (p := 20) rfl (tfJ1_indexOf_4cfef (Nat.le_trans (by decide) hd) hz0 eq4) rfl rfl ?_
    refine R_goto rfl ?_
    obtain rfl := Option.some.inj h
    exact R_ireturn rfl rfl hq
theorem tfJ0_indexOf_7cf53 {xs : List Int32} {d : Nat} {hh : List jE} (hd : 3 ≤ d) {z0 : Nat} (hz0 : strq z0) {x1 : Int32} {x2 : Int32} {t : Int32} (h : fJ0_indexOf_7cf53 z0 x1 x2 = some t) : CallD (jcs xs) d 268 [.ref (jK0 + z0), .int x1, .int x2] hh (some (.int t), hh) := by
  obtain ⟨d, rfl⟩ : ∃ z, d = z + 1 := ⟨d - 1, by omega⟩
  refine CallD_of jmt_J0_indexOf_7cf53 rfl ⟨rfl, Nat.le_of_ble_eq_true rfl⟩ ?_
  exact ufJ0_indexOf_7cf53 (Nat.le_of_succ_le_succ hd) hz0 rfl rfl rfl h rfl
noncomputable def fJ0_indexOf_0f7a4 (z0 : Nat) (x1 : Int32) : Option Int32 := (fJ0_indexOf_7cf53 z0 x1 (0 : Int32)).bind fun q1 => some q1
theorem ufJ0_indexOf_0f7a4 {xs : List Int32} {d : Nat} {r : jR} {hh : List jE} (hd : 3 ≤ d) {z0 : Nat} (hz0 : strq z0) {x1 : Int32} {L : List (Nat × Value)} (l0 : jget L 0 = some (.ref (jK0 + z0))) (l1 : jget L 1 = some (.int x1)) {t : Int32} (h : fJ0_indexOf_0f7a4 z0 x1 = some t) (hq : (qI r hh) t) : RunD (jcs xs) d 2 (some .int) jt_J0_indexOf_0f7a4 (0, L, [], hh) r := by
  unfold fJ0_indexOf_0f7a4 at h
  refine R_aload_n (p := 1) rfl l0 rfl ?_
  refine R_iload_n (p := 2) rfl l1 rfl ?_
  refine R_iconst (p := 3) rfl ki_0 rfl ?_
  obtain ⟨q1, eq1, h⟩ := bind_some h
  refine R_cK3v (p := 6) rfl (strq_q hz0) (tfJ0_indexOf_7cf53 (Nat.le_trans (by decide) hd) hz0 eq1) rfl rfl ?_
  obtain rfl := Option.some.inj h
  exact R_ireturn rfl rfl hq
theorem tfJ0_indexOf_0f7a4 {xs : List Int32} {d : Nat} {hh : List jE} (hd : 4 ≤ d) {z0 : Nat} (hz0 : strq z0) {x1 : Int32} {t : Int32} (h : fJ0_indexOf_0f7a4 z0 x1 = some t) : CallD (jcs xs) d 267 [.ref (jK0 + z0), .int x1] hh (some (.int t), hh) := by
  obtain ⟨d, rfl⟩ : ∃ z, d = z + 1 := ⟨d - 1, by omega⟩
  refine CallD_of jmt_J0_indexOf_0f7a4 rfl ⟨rfl, Nat.le_of_ble_eq_true rfl⟩ ?_
  exact ufJ0_indexOf_0f7a4 (Nat.le_of_succ_le_succ hd) hz0 rfl rfl h rfl
noncomputable def fX2_isDigit (x0 : Int32) : Int32 := (if x0 < (48 : Int32) then (0 : Int32) else (if (57 : Int32) < x0 then (0 : Int32) else (1 : Int32)))
theorem ufX2_isDigit {xs : List Int32} {d : Nat} {r : jR} {hh : List jE} (hd : 0 ≤ d) {x0 : Int32} {L : List (Nat × Value)} (l0 : jget L 0 = some (.int x0)) {t : Int32} (h : fX2_isDigit x0 = t) (hq : (qI r hh) t) : RunD (jcs xs) d 1 (some .boolean) jt_X2_isDigit (0, L, [], hh) r := by
  unfold fX2_isDigit at h
  refine R_iload_n (p := 1) rfl l0 rfl ?_
  refine R_bipush (p := 3) rfl kb_48 rfl ?_
  by_cases hc : x0 < (48 : Int32)
  · replace h := ite_t h hc
    refine R_iclt_t rfl hc ?_
    refine R_iconst (p := 17) rfl ki_0 rfl ?_
    subst h
    exact R_zreturn rfl rfl (by decide) hq
  · replace h := ite_f h hc
    refine R_iclt_f (p := 6) rfl hc rfl ?_
    refine R_iload_n (p := 7) rfl l0 rfl ?_
    refine R_bipush (p := 9) rfl kb_57 rfl ?_
    by_cases hc : (57 : Int32) < x0
    · replace h := ite_t h hc
      refine R_icgt_t rfl hc ?_
      refine R_iconst (p := 17) rfl ki_0 rfl ?_
      subst h
      exact R_zreturn rfl rfl (by decide) hq
    · replace h := ite_f h hc
      refine R_icgt_f (p := 12) rfl hc rfl ?_
      refine R_iconst (p := 13) rfl ki_1 rfl ?_
      refine R_goto rfl ?_
      subst h
      exact R_zreturn rfl rfl (by decide) hq
theorem tfX2_isDigit {xs : List Int32} {d : Nat} {hh : List jE} (hd : 1 ≤ d) {x0 : Int32} : CallD (jcs xs) d 49 [.int x0] hh (some (.int (fX2_isDigit x0)), hh) := by
  obtain ⟨d, rfl⟩ : ∃ z, d = z + 1 := ⟨d - 1, by omega⟩
  refine CallD_of jmt_X2_isDigit rfl ⟨rfl, Nat.le_of_ble_eq_true rfl⟩ ?_
  exact ufX2_isDigit (Nat.le_of_succ_le_succ hd) rfl rfl rfl
noncomputable def fX2_close (m : Mem) : Option Mem := (fX2_nextIs (41 : Int32) m).bind fun q1 => (if q1 = 0 then some (mput m 118 6 (1 : Int32)) else some (mput m 118 0 ((m 118 0) + (1 : Int32))))
theorem ufX2_close {xs : List Int32} {d : Nat} {r : jR} {K : Mem → List jE} (hK : Ctx shC K) (hd : 2 ≤ d) {m : Mem} {L : List (Nat × Value)} (l0 : jget L 0 = some (.ref 118)) {t : Mem} (h : fX2_close m = some t) (hq : (qM r K) t) : RunD (jcs xs) d 1 (none) jt_X2_close (0, L, [], (K m)) r := by
  unfold fX2_close at h
  refine R_aload_n (p := 1) rfl l0 rfl ?_
  refine R_bipush (p := 3) rfl kb_41 rfl ?_
  obtain ⟨q1, eq1, h⟩ := bind_some h
  refine R_cV2v (p := 6) hK rfl rfl (tfX2_nextIs hK (Nat.le_trans (by decide) hd)  eq1) rfl rfl ?_
  by_cases hc : q1 = 0
  · replace h := ite_t h hc
    refine R_ifeq_t rfl hc ?_
    refine R_aload_n (p := 23) rfl l0 rfl ?_
    refine R_iconst (p := 24) rfl ki_1 rfl ?_
    refine R_putI (p := 27) hK rfl rfl rfl (jfit_z (by decide)) rfl ?_
    obtain rfl := Option.some.inj h
    exact R_return rfl rfl hq
  · replace h := ite_f h hc
    refine R_ifeq_f (p := 9) rfl hc rfl ?_
    refine R_aload_n (p := 10) rfl l0 rfl ?_
    refine R_dupa (p := 11) rfl rfl ?_
    refine R_getI (p := 14) hK rfl rfl rfl rfl ?_
    refine R_iconst (p := 15) rfl ki_1 rfl ?_
    refine R_iadd (p := 16) rfl rfl ?_
    refine R_putI (p := 19) hK rfl rfl rfl rfl rfl ?_
    refine R_goto rfl ?_
    obtain rfl := Option.some.inj h
    exact R_return rfl rfl hq
theorem tfX2_close {xs : List Int32} {d : Nat} {K : Mem → List jE} (hK : Ctx shC K) (hd : 3 ≤ d) {m : Mem} {t : Mem} (h : fX2_close m = some t) : CallD (jcs xs) d 48 [.ref 118] (K m) (none, K t) := by
  obtain ⟨d, rfl⟩ : ∃ z, d = z + 1 := ⟨d - 1, by omega⟩
  refine CallD_of jmt_X2_close rfl ⟨rfl, Nat.le_of_ble_eq_true rfl⟩ ?_
  exact ufX2_close hK (Nat.le_of_succ_le_succ hd) rfl h rfl
noncomputable def fX5_ofName (x0 : Int32) : Int32 := ((-1 : Int32) - x0)
theorem ufX5_ofName {xs : List Int32} {d : Nat} {r : jR} {hh : List jE} (hd : 0 ≤ d) {x0 : Int32} {L : List (Nat × Value)} (l0 : jget L 0 = some (.int x0)) {t : Int32} (h : fX5_ofName x0 = t) (hq : (qI r hh) t) : RunD (jcs xs) d 1 (some .int) jt_X5_ofName (0, L, [], hh) r := by
  unfold fX5_ofName at h
  refine R_iconst (p := 1) rfl ki_m1 rfl ?_
  refine R_iload_n (p := 2) rfl l0 rfl ?_
  refine R_isub (p := 3) rfl rfl ?_
  subst h
  exact R_ireturn rfl rfl hq
theorem tfX5_ofName {xs : List Int32} {d : Nat} {hh : List jE} (hd : 1 ≤ d) {x0 : Int32} : CallD (jcs xs) d 65 [.int x0] hh (some (.int (fX5_ofName x0)), hh) := by
  obtain ⟨d, rfl⟩ : ∃ z, d = z + 1 := ⟨d - 1, by omega⟩
  refine CallD_of jmt_X5_ofName rfl ⟨rfl, Nat.le_of_ble_eq_true rfl⟩ ?_
  exact ufX5_ofName (Nat.le_of_succ_le_succ hd) rfl rfl rfl
noncomputable def bX2_number_48 (x1 : Int32) (m : Mem) : Option Mem := (fX2_note x1 m).bind fun q1 => some q1
noncomputable def lX2_number_4 (s : Int32 × Int32 × Mem) : Option ((Int32 × Int32 × Mem) ⊕ Mem) := (if (4 : Int32) ≤ s.2.1 then (bX2_number_48 s.1 s.2.2).map Sum.inr else (fX2_next s.2.2).bind fun q2 => (if (fX2_isDigit q2) = 0 then (bX2_number_48 s.1 s.2.2).map Sum.inr else (fX2_next s.2.2).bind fun q4 => some (.inl ((((s.1 * (10 : Int32)) + q4) - (48 : Int32)), (s.2.1 + (1 : Int32)), (mput s.2.2 118 0 ((s.2.2 118 0) + (1 : Int32)))))))
noncomputable def gX2_number_4 (xs : List Int32) (d : Nat) (r : jR) (K : Mem → List jE) (s : Int32 × Int32 × Mem) : Prop := ∀ L, jget L 0 = some (.ref 118) → jget L 1 = some (.int s.1) → jget L 2 = some (.int s.2.1) → RunD (jcs xs) d 3 (none) jt_X2_number (4, L, [], (K s.2.2)) r
noncomputable def fX2_number (m : Mem) : Option Mem := lp (lX2_number_4) fu ((0 : Int32), (0 : Int32), m)
theorem tbX2_number_48 {xs : List Int32} {d : Nat} {r : jR} {K : Mem → List jE} (hK : Ctx shC K) (hd : 1 ≤ d)  {x1 : Int32} {m : Mem} {L : List (Nat × Value)} (l0 : jget L 0 = some (.ref 118)) (l1 : jget L 1 = some (.int x1)) {t : Mem} (h : bX2_number_48 x1 m = some t) (hq : (qM r K) t) : RunD (jcs xs) d 3 (none) jt_X2_number (48, L, [], (K m)) r := by
  unfold bX2_number_48 at h
  refine R_aload_n (p := 49) rfl l0 rfl ?_
  refine R_iload_n (p := 50) rfl l1 rfl ?_
  obtain ⟨q1, eq1, h⟩ := bind_some h
  refine R_cV2n (p := 53) hK rfl rfl (tfX2_note hK (Nat.le_trans (by decide) hd)  eq1) rfl rfl ?_
  obtain rfl := Option.some.inj h
  exact R_return rfl rfl hq
theorem BX2_number_4 {xs : List Int32} {d : Nat} {r : jR} {K : Mem → List jE} (hK : Ctx shC K) (hd : 1 ≤ d)  (s : Int32 × Int32 × Mem) {t : (Int32 × Int32 × Mem) ⊕ Mem} (h : lX2_number_4 s = some t) (hq : sQ (gX2_number_4 xs d r K) (qM r K) t) : gX2_number_4 xs d r K s := by
  intro L l0 l1 l2
  unfold lX2_number_4 at h
  refine R_iload_n (p := 5) rfl l2 rfl ?_
  refine R_iconst (p := 6) rfl ki_4 rfl ?_
  by_cases hc : (4 : Int32) ≤ s.2.1
  · replace h := ite_t h hc
    refine R_icge_t rfl hc ?_
    obtain ⟨w9, h9, rfl⟩ := map_inr h
    replace h := h9
    exact tbX2_number_48 hK hd l0 l1 h hq
  · replace h := ite_f h hc
    refine R_icge_f (p := 9) rfl hc rfl ?_
    refine R_aload_n (p := 10) rfl l0 rfl ?_
    obtain ⟨q2, eq2, h⟩ := bind_some h
    refine R_cV1v (p := 13) hK rfl rfl (tfX2_next hK (Nat.le_trans (by decide) hd)  eq2) rfl rfl ?_
    refine R_cS1v (p := 16) rfl (tfX2_isDigit (Nat.le_trans (by decide) hd) ) rfl rfl ?_
    by_cases hc : (fX2_isDigit q2) = 0
    · replace h := ite_t h hc
      refine R_ifeq_t rfl hc ?_
      obtain ⟨w9, h9, rfl⟩ := map_inr h
      replace h := h9
      exact tbX2_number_48 hK hd l0 l1 h hq
    · replace h := ite_f h hc
      refine R_ifeq_f (p := 19) rfl hc rfl ?_
      refine R_iload_n (p := 20) rfl l1 rfl ?_
      refine R_bipush (p := 22) rfl kb_10 rfl ?_
      refine R_imul (p := 23) rfl rfl ?_
      refine R_aload_n (p := 24) rfl l0 rfl ?_
      obtain ⟨q4, eq4, h⟩ := bind_some h
      refine R_cV1v (p := 27) hK rfl rfl (tfX2_next hK (Nat.le_trans (by decide) hd)  eq4) rfl rfl ?_
      refine R_iadd (p := 28) rfl rfl ?_
      refine R_bipush (p := 30) rfl kb_48 rfl ?_
      refine R_isub (p := 31) rfl rfl ?_
      refine R_istore_n (p := 32) rfl rfl rfl ?_
      refine R_aload_n (p := 33) rfl (jg_ne l0 rfl) rfl ?_
      refine R_dupa (p := 34) rfl rfl ?_
      refine R_getI (p := 37) hK rfl rfl rfl rfl ?_
      refine R_iconst (p := 38) rfl ki_1 rfl ?_
      refine R_iadd (p := 39) rfl rfl ?_
      refine R_putI (p := 42) hK rfl rfl rfl rfl rfl ?_
      refine R_iinc (p := 45) rfl (jg_ne l2 rfl) rfl ki_1 rfl ?_
      refine R_goto rfl ?_
      obtain rfl := Option.some.inj h
      exact hq _ (jg_ne (jg_ne l0 rfl) rfl) (jg_ne jg_self rfl) jg_self
theorem LX2_number_4 {xs : List Int32} {d : Nat} {r : jR} {K : Mem → List jE} (hK : Ctx shC K) (hd : 1 ≤ d)  (n : Nat) (s : Int32 × Int32 × Mem) {t : Mem} (h : lp (lX2_number_4) n s = some t) (hq : (qM r K) t) : gX2_number_4 xs d r K s := lp_ind (G := gX2_number_4 xs d r K) (Qe := (qM r K)) (fun s t h hq => BX2_number_4 hK hd s h hq) n s t h hq
theorem ufX2_number {xs : List Int32} {d : Nat} {r : jR} {K : Mem → List jE} (hK : Ctx shC K) (hd : 1 ≤ d) {m : Mem} {L : List (Nat × Value)} (l0 : jget L 0 = some (.ref 118)) {t : Mem} (h : fX2_number m = some t) (hq : (qM r K) t) : RunD (jcs xs) d 3 (none) jt_X2_number (0, L, [], (K m)) r := by
  unfold fX2_number at h
  refine R_iconst (p := 1) rfl ki_0 rfl ?_
  refine R_istore_n (p := 2) rfl rfl rfl ?_
  refine R_iconst (p := 3) rfl ki_0 rfl ?_
  refine R_istore_n (p := 4) rfl rfl rfl ?_
  exact LX2_number_4 hK hd _ _ h hq _ (jg_ne (jg_ne l0 rfl) rfl) (jg_ne jg_self rfl) jg_self
theorem tfX2_number {xs : List Int32} {d : Nat} {K : Mem → List jE} (hK : Ctx shC K) (hd : 2 ≤ d) {m : Mem} {t : Mem} (h : fX2_number m = some t) : CallD (jcs xs) d 50 [.ref 118] (K m) (none, K t) := by
  obtain ⟨d, rfl⟩ : ∃ z, d = z + 1 := ⟨d - 1, by omega⟩
  refine CallD_of jmt_X2_number rfl ⟨rfl, Nat.le_of_ble_eq_true rfl⟩ ?_
  exact ufX2_number hK (Nat.le_of_succ_le_succ hd) rfl h rfl
noncomputable def lX2_single_146 (e : Int32 → Mem → Option Mem) (x2 : Int32) (s : Int32 × Mem) : Option ((Int32 × Mem) ⊕ Mem) := (if x2 ≤ s.1 then some (.inr s.2) else (fX2_note (fX5_ofSign (33 : Int32)) s.2).bind fun q6 => some (.inl ((s.1 + (1 : Int32)), q6)))
noncomputable def gX2_single_146 (xs : List Int32) (d : Nat) (r : jR) (K : Mem → List jE) (x2 : Int32) (s : Int32 × Mem) : Prop := ∀ L, jget L 0 = some (.ref 118) → jget L 2 = some (.int x2) → jget L 5 = some (.int s.1) → RunD (jcs xs) d 6 (none) jt_X2_single (146, L, [], (K s.2)) r
noncomputable def bX2_single_138 (e : Int32 → Mem → Option Mem) (x1 : Int32) (x2 : Int32) (m : Mem) : Option Mem := lp (lX2_single_146 e x2) fu (x1, (mput m 118 6 (1 : Int32)))
noncomputable def bX2_single_103 (e : Int32 → Mem → Option Mem) (x1 : Int32) (x2 : Int32) (x3 : Int32) (m : Mem) : Option Mem := (if x3 = (40 : Int32) then (if (5 : Int32) ≤ x2 then bX2_single_138 e x1 x2 m else (fX2_either e (x2 + (1 : Int32)) (mput m 118 0 ((m 118 0) + (1 : Int32)))).bind fun q7 => (fX2_close q7).bind fun q8 => lp (lX2_single_146 e x2) fu (x1, q8)) else bX2_single_138 e x1 x2 m)
noncomputable def bX2_single_54 (e : Int32 → Mem → Option Mem) (x1 : Int32) (x2 : Int32) (x3 : Int32) (y0 : Int32) (m : Mem) : Option Mem := (if (fX2_isDigit x3) = 0 then (if y0 < 0 then bX2_single_103 e x1 x2 x3 m else (if (5 : Int32) ≤ y0 then bX2_single_103 e x1 x2 x3 m else (fX2_note (fX5_ofName y0) (mput m 118 0 ((m 118 0) + (1 : Int32)))).bind fun q10 => lp (lX2_single_146 e x2) fu (x1, q10))) else (fX2_number m).bind fun q11 => lp (lX2_single_146 e x2) fu (x1, q11))
noncomputable def bX2_single_32 (e : Int32 → Mem → Option Mem) (x1 : Int32) (x2 : Int32) (m : Mem) : Option Mem := (fX2_next m).bind fun q1 => (if 0 ≤ q1 then (if strq ((m 118 5).toNatClampNeg) then (fJ0_indexOf_0f7a4 ((m 118 5).toNatClampNeg) (jI2c q1)).bind fun q3 => bX2_single_54 e x1 x2 q1 q3 m else none) else bX2_single_54 e x1 x2 q1 (-1 : Int32) m)
noncomputable def lX2_single_2 (e : Int32 → Mem → Option Mem) (x1 : Int32) (s : Int32 × Mem) : Option ((Int32 × Mem) ⊕ Mem) := (if (5 : Int32) ≤ s.1 then (bX2_single_32 e x1 s.1 s.2).map Sum.inr else (fX2_nextIs (33 : Int32) s.2).bind fun q12 => (if q12 = 0 then (bX2_single_32 e x1 s.1 s.2).map Sum.inr else some (.inl ((s.1 + (1 : Int32)), (mput s.2 118 0 ((s.2 118 0) + (1 : Int32)))))))
noncomputable def gX2_single_2 (xs : List Int32) (d : Nat) (r : jR) (K : Mem → List jE) (x1 : Int32) (s : Int32 × Mem) : Prop := ∀ L, jget L 0 = some (.ref 118) → jget L 1 = some (.int x1) → jget L 2 = some (.int s.1) → RunD (jcs xs) d 6 (none) jt_X2_single (2, L, [], (K s.2)) r
noncomputable def fX2_single (e : Int32 → Mem → Option Mem) (x1 : Int32) (m : Mem) : Option Mem := lp (lX2_single_2 e x1) fu (x1, m)
theorem BX2_single_146 {xs : List Int32} {d : Nat} {r : jR} {K : Mem → List jE} (hK : Ctx shC K) {d0 : Nat} (hd : d0 + 7 ≤ d) {e : Int32 → Mem → Option Mem} (he : ∀ d9, d0 ≤ d9 → ∀ (x1 : Int32) (m9 : Mem) (q9 : Mem), e x1 m9 = some q9 → CallD (jcs xs) d9 47 [.ref 118, .int x1] (K m9) (none, K q9))  {x2 : Int32} (s : Int32 × Mem) {t : (Int32 × Mem) ⊕ Mem} (h : lX2_single_146 e x2 s = some t) (hq : sQ (gX2_single_146 xs d r K x2) (qM r K) t) : gX2_single_146 xs d r K x2 s := by
  intro L l0 l2 l5
  unfold lX2_single_146 at h
  refine R_iload (p := 148) rfl l5 rfl ?_
  refine R_iload_n (p := 149) rfl l2 rfl ?_
  by_cases hc : x2 ≤ s.1
  · replace h := ite_t h hc
    refine R_icge_t rfl hc ?_
    obtain rfl := Option.some.inj h
    exact R_return rfl rfl hq
  · replace h := ite_f h hc
    refine R_icge_f (p := 152) rfl hc rfl ?_
    refine R_aload_n (p := 153) rfl l0 rfl ?_
    refine R_bipush (p := 155) rfl kb_33 rfl ?_
    refine R_cS1v (p := 158) rfl (tfX5_ofSign (Nat.le_trans (Nat.le_trans (by decide) (Nat.le_add_left _ _)) hd) ) rfl rfl ?_
    obtain ⟨q6, eq6, h⟩ := bind_some h
    refine R_cV2n (p := 161) hK rfl rfl (tfX2_note hK (Nat.le_trans (Nat.le_trans (by decide) (Nat.le_add_left _ _)) hd)  eq6) rfl rfl ?_
    refine R_iinc (p := 164) rfl l5 rfl ki_1 rfl ?_
    refine R_goto rfl ?_
    obtain rfl := Option.some.inj h
    exact hq _ (jg_ne l0 rfl) (jg_ne l2 rfl) jg_self
theorem LX2_single_146 {xs : List Int32} {d : Nat} {r : jR} {K : Mem → List jE} (hK : Ctx shC K) {d0 : Nat} (hd : d0 + 7 ≤ d) {e : Int32 → Mem → Option Mem} (he : ∀ d9, d0 ≤ d9 → ∀ (x1 : Int32) (m9 : Mem) (q9 : Mem), e x1 m9 = some q9 → CallD (jcs xs) d9 47 [.ref 118, .int x1] (K m9) (none, K q9))  {x2 : Int32} (n : Nat) (s : Int32 × Mem) {t : Mem} (h : lp (lX2_single_146 e x2) n s = some t) (hq : (qM r K) t) : gX2_single_146 xs d r K x2 s := lp_ind (G := gX2_single_146 xs d r K x2) (Qe := (qM r K)) (fun s t h hq => BX2_single_146 hK hd he s h hq) n s t h hq
theorem tbX2_single_138 {xs : List Int32} {d : Nat} {r : jR} {K : Mem → List jE} (hK : Ctx shC K) {d0 : Nat} (hd : d0 + 7 ≤ d) {e : Int32 → Mem → Option Mem} (he : ∀ d9, d0 ≤ d9 → ∀ (x1 : Int32) (m9 : Mem) (q9 : Mem), e x1 m9 = some q9 → CallD (jcs xs) d9 47 [.ref 118, .int x1] (K m9) (none, K q9))  {x1 : Int32} {x2 : Int32} {m : Mem} {L : List (Nat × Value)} (l0 : jget L 0 = some (.ref 118)) (l1 : jget L 1 = some (.int x1)) (l2 : jget L 2 = some (.int x2)) {t : Mem} (h : bX2_single_138 e x1 x2 m = some t) (hq : (qM r K) t) : RunD (jcs xs) d 6 (none) jt_X2_single (138, L, [], (K m)) r := by
  unfold bX2_single_138 at h
  refine R_aload_n (p := 139) rfl l0 rfl ?_
  refine R_iconst (p := 140) rfl ki_1 rfl ?_
  refine R_putI (p := 143) hK rfl rfl rfl (jfit_z (by decide)) rfl ?_
  refine R_iload_n (p := 144) rfl l1 rfl ?_
  refine R_istore (p := 146) rfl rfl rfl ?_
  exact LX2_single_146 hK hd he _ _ h hq _ (jg_ne l0 rfl) (jg_ne l2 rfl) jg_self
theorem tbX2_single_103 {xs : List Int32} {d : Nat} {r : jR} {K : Mem → List jE} (hK : Ctx shC K) {d0 : Nat} (hd : d0 + 7 ≤ d) {e : Int32 → Mem → Option Mem} (he : ∀ d9, d0 ≤ d9 → ∀ (x1 : Int32) (m9 : Mem) (q9 : Mem), e x1 m9 = some q9 → CallD (jcs xs) d9 47 [.ref 118, .int x1] (K m9) (none, K q9))  {x1 : Int32} {x2 : Int32} {x3 : Int32} {m : Mem} {L : List (Nat × Value)} (l0 : jget L 0 = some (.ref 118)) (l1 : jget L 1 = some (.int x1)) (l2 : jget L 2 = some (.int x2)) (l3 : jget L 3 = some (.int x3)) {t : Mem} (h : bX2_single_103 e x1 x2 x3 m = some t) (hq : (qM r K) t) : RunD (jcs xs) d 6 (none) jt_X2_single (103, L, [], (K m)) r := by
  unfold bX2_single_103 at h
  refine R_iload_n (p := 104) rfl l3 rfl ?_
  refine R_bipush (p := 106) rfl kb_40 rfl ?_
  by_cases hc : x3 = (40 : Int32)
  · replace h := ite_t h hc
    refine R_icne_f (p := 109) rfl (fun z => z hc) rfl ?_
    refine R_iload_n (p := 110) rfl l2 rfl ?_
    refine R_iconst (p := 111) rfl ki_5 rfl ?_
    by_cases hc : (5 : Int32) ≤ x2
    · replace h := ite_t h hc
      refine R_icge_t rfl hc ?_
      exact tbX2_single_138 hK hd he l0 l1 l2 h hq
    · replace h := ite_f h hc
      refine R_icge_f (p := 114) rfl hc rfl ?_
      refine R_aload_n (p := 115) rfl l0 rfl ?_
      refine R_dupa (p := 116) rfl rfl ?_
      refine R_getI (p := 119) hK rfl rfl rfl rfl ?_
      refine R_iconst (p := 120) rfl ki_1 rfl ?_
      refine R_iadd (p := 121) rfl rfl ?_
      refine R_putI (p := 124) hK rfl rfl rfl rfl rfl ?_
      refine R_aload_n (p := 125) rfl l0 rfl ?_
      refine R_iload_n (p := 126) rfl l2 rfl ?_
      refine R_iconst (p := 127) rfl ki_1 rfl ?_
      refine R_iadd (p := 128) rfl rfl ?_
      obtain ⟨q7, eq7, h⟩ := bind_some h
      refine R_cV2n (p := 131) hK rfl rfl (tfX2_either hK (Nat.le_trans (Nat.add_le_add_left (by decide) _) hd) he  eq7) rfl rfl ?_
      refine R_aload_n (p := 132) rfl l0 rfl ?_
      obtain ⟨q8, eq8, h⟩ := bind_some h
      refine R_cV1n (p := 135) hK rfl rfl (tfX2_close hK (Nat.le_trans (Nat.le_trans (by decide) (Nat.le_add_left _ _)) hd)  eq8) rfl rfl ?_
      refine R_goto rfl ?_
      refine R_iload_n (p := 144) rfl l1 rfl ?_
      refine R_istore (p := 146) rfl rfl rfl ?_
      exact LX2_single_146 hK hd he _ _ h hq _ (jg_ne l0 rfl) (jg_ne l2 rfl) jg_self
  · replace h := ite_f h hc
    refine R_icne_t rfl hc ?_
    exact tbX2_single_138 hK hd he l0 l1 l2 h hq
theorem tbX2_single_54 {xs : List Int32} {d : Nat} {r : jR} {K : Mem → List jE} (hK : Ctx shC K) {d0 : Nat} (hd : d0 + 7 ≤ d) {e : Int32 → Mem → Option Mem} (he : ∀ d9, d0 ≤ d9 → ∀ (x1 : Int32) (m9 : Mem) (q9 : Mem), e x1 m9 = some q9 → CallD (jcs xs) d9 47 [.ref 118, .int x1] (K m9) (none, K q9))  {x1 : Int32} {x2 : Int32} {x3 : Int32} {y0 : Int32} {m : Mem} {L : List (Nat × Value)} (l0 : jget L 0 = some (.ref 118)) (l1 : jget L 1 = some (.int x1)) (l2 : jget L 2 = some (.int x2)) (l3 : jget L 3 = some (.int x3)) {t : Mem} (h : bX2_single_54 e x1 x2 x3 y0 m = some t) (hq : (qM r K) t) : RunD (jcs xs) d 6 (none) jt_X2_single (54, L, [.int y0], (K m)) r := by
  unfold bX2_single_54 at h
  refine R_istore (p := 56) rfl rfl rfl ?_
  refine R_iload_n (p := 57) rfl (jg_ne l3 rfl) rfl ?_
  refine R_cS1v (p := 60) rfl (tfX2_isDigit (Nat.le_trans (Nat.le_trans (by decide) (Nat.le_add_left _ _)) hd) ) rfl rfl ?_
  by_cases hc : (fX2_isDigit x3) = 0
  · replace h := ite_t h hc
    refine R_ifeq_t rfl hc ?_
    refine R_iload (p := 72) rfl jg_self rfl ?_
    by_cases hc : y0 < 0
    · replace h := ite_t h hc
      refine R_iflt_t rfl hc ?_
      exact tbX2_single_103 hK hd he (jg_ne l0 rfl) (jg_ne l1 rfl) (jg_ne l2 rfl) (jg_ne l3 rfl) h hq
    · replace h := ite_f h hc
      refine R_iflt_f (p := 75) rfl hc rfl ?_
      refine R_iload (p := 77) rfl jg_self rfl ?_
      refine R_iconst (p := 78) rfl ki_5 rfl ?_
      by_cases hc : (5 : Int32) ≤ y0
      · replace h := ite_t h hc
        refine R_icge_t rfl hc ?_
        exact tbX2_single_103 hK hd he (jg_ne l0 rfl) (jg_ne l1 rfl) (jg_ne l2 rfl) (jg_ne l3 rfl) h hq
      · replace h := ite_f h hc
        refine R_icge_f (p := 81) rfl hc rfl ?_
        refine R_aload_n (p := 82) rfl (jg_ne l0 rfl) rfl ?_
        refine R_dupa (p := 83) rfl rfl ?_
        refine R_getI (p := 86) hK rfl rfl rfl rfl ?_
        refine R_iconst (p := 87) rfl ki_1 rfl ?_
        refine R_iadd (p := 88) rfl rfl ?_
        refine R_putI (p := 91) hK rfl rfl rfl rfl rfl ?_
        refine R_aload_n (p := 92) rfl (jg_ne l0 rfl) rfl ?_
        refine R_iload (p := 94) rfl jg_self rfl ?_
        refine R_cS1v (p := 97) rfl (tfX5_ofName (Nat.le_trans (Nat.le_trans (by decide) (Nat.le_add_left _ _)) hd) ) rfl rfl ?_
        obtain ⟨q10, eq10, h⟩ := bind_some h
        refine R_cV2n (p := 100) hK rfl rfl (tfX2_note hK (Nat.le_trans (Nat.le_trans (by decide) (Nat.le_add_left _ _)) hd)  eq10) rfl rfl ?_
        refine R_goto rfl ?_
        refine R_iload_n (p := 144) rfl (jg_ne l1 rfl) rfl ?_
        refine R_istore (p := 146) rfl rfl rfl ?_
        exact LX2_single_146 hK hd he _ _ h hq _ (jg_ne (jg_ne l0 rfl) rfl) (jg_ne (jg_ne l2 rfl) rfl) jg_self
  · replace h := ite_f h hc
    refine R_ifeq_f (p := 63) rfl hc rfl ?_
    refine R_aload_n (p := 64) rfl (jg_ne l0 rfl) rfl ?_
    obtain ⟨q11, eq11, h⟩ := bind_some h
    refine R_cV1n (p := 67) hK rfl rfl (tfX2_number hK (Nat.le_trans (Nat.le_trans (by decide) (Nat.le_add_left _ _)) hd)  eq11) rfl rfl ?_
    refine R_goto rfl ?_
    refine R_iload_n (p := 144) rfl (jg_ne l1 rfl) rfl ?_
    refine R_istore (p := 146) rfl rfl rfl ?_
    exact LX2_single_146 hK hd he _ _ h hq _ (jg_ne (jg_ne l0 rfl) rfl) (jg_ne (jg_ne l2 rfl) rfl) jg_self
theorem tbX2_single_32 {xs : List Int32} {d : Nat} {r : jR} {K : Mem → List jE} (hK : Ctx shC K) {d0 : Nat} (hd : d0 + 7 ≤ d) {e : Int32 → Mem → Option Mem} (he : ∀ d9, d0 ≤ d9 → ∀ (x1 : Int32) (m9 : Mem) (q9 : Mem), e x1 m9 = some q9 → CallD (jcs xs) d9 47 [.ref 118, .int x1] (K m9) (none, K q9))  {x1 : Int32} {x2 : Int32} {m : Mem} {L : List (Nat × Value)} (l0 : jget L 0 = some (.ref 118)) (l1 : jget L 1 = some (.int x1)) (l2 : jget L 2 = some (.int x2)) {t : Mem} (h : bX2_single_32 e x1 x2 m = some t) (hq : (qM r K) t) : RunD (jcs xs) d 6 (none) jt_X2_single (32, L, [], (K m)) r := by
  unfold bX2_single_32 at h
  refine R_aload_n (p := 33) rfl l0 rfl ?_
  obtain ⟨q1, eq1, h⟩ := bind_some h
  refine R_cV1v (p := 36) hK rfl rfl (tfX2_next hK (Nat.le_trans (Nat.le_trans (by decide) (Nat.le_add_left _ _)) hd)  eq1) rfl rfl ?_
  refine R_istore_n (p := 37) rfl rfl rfl ?_
  refine R_iload_n (p := 38) rfl jg_self rfl ?_
  by_cases hc : 0 ≤ q1
  · replace h := ite_t h hc
    refine R_ifge_t rfl hc ?_
    refine R_aload_n (p := 46) rfl (jg_ne l0 rfl) rfl ?_
    refine R_getS (p := 49) hK rfl rfl rfl rfl ?_
    refine R_iload_n (p := 50) rfl jg_self rfl ?_
    refine R_i2c (p := 51) rfl rfl ?_
    obtain ⟨b2, h⟩ := gd h
    obtain ⟨q3, eq3, h⟩ := bind_some h
    refine R_cK2v (p := 54) rfl (strq_q b2) (tfJ0_indexOf_0f7a4 (Nat.le_trans (Nat.le_trans (by decide) (Nat.le_add_left _ _)) hd) b2 eq3) rfl rfl ?_
    exact tbX2_single_54 hK hd he (jg_ne l0 rfl) (jg_ne l1 rfl) (jg_ne l2 rfl) jg_self h hq
  · replace h := ite_f h hc
    refine R_ifge_f (p := 41) rfl hc rfl ?_
    refine R_iconst (p := 42) rfl ki_m1 rfl ?_
    refine R_goto rfl ?_
    exact tbX2_single_54 hK hd he (jg_ne l0 rfl) (jg_ne l1 rfl) (jg_ne l2 rfl) jg_self h hq
theorem BX2_single_2 {xs : List Int32} {d : Nat} {r : jR} {K : Mem → List jE} (hK : Ctx shC K) {d0 : Nat} (hd : d0 + 7 ≤ d) {e : Int32 → Mem → Option Mem} (he : ∀ d9, d0 ≤ d9 → ∀ (x1 : Int32) (m9 : Mem) (q9 : Mem), e x1 m9 = some q9 → CallD (jcs xs) d9 47 [.ref 118, .int x1] (K m9) (none, K q9))  {x1 : Int32} (s : Int32 × Mem) {t : (Int32 × Mem) ⊕ Mem} (h : lX2_single_2 e x1 s = some t) (hq : sQ (gX2_single_2 xs d r K x1) (qM r K) t) : gX2_single_2 xs d r K x1 s := by
  intro L l0 l1 l2
  unfold lX2_single_2 at h
  refine R_iload_n (p := 3) rfl l2 rfl ?_
  refine R_iconst (p := 4) rfl ki_5 rfl ?_
  by_cases hc : (5 : Int32) ≤ s.1
  · replace h := ite_t h hc
    refine R_icge_t rfl hc ?_
    obtain ⟨w9, h9, rfl⟩ := map_inr h
    replace h := h9
    exact tbX2_single_32 hK hd he l0 l1 l2 h hq
  · replace h := ite_f h hc
    refine R_icge_f (p := 7) rfl hc rfl ?_
    refine R_aload_n (p := 8) rfl l0 rfl ?_
    refine R_bipush (p := 10) rfl kb_33 rfl ?_
    obtain ⟨q12, eq12, h⟩ := bind_some h
    refine R_cV2v (p := 13) hK rfl rfl (tfX2_nextIs hK (Nat.le_trans (Nat.le_trans (by decide) (Nat.le_add_left _ _)) hd)  eq12) rfl rfl ?_
    by_cases hc : q12 = 0
    · replace h := ite_t h hc
      refine R_ifeq_t rfl hc ?_
      obtain ⟨w9, h9, rfl⟩ := map_inr h
      replace h := h9
      exact tbX2_single_32 hK hd he l0 l1 l2 h hq
    · replace h := ite_f h hc
      refine R_ifeq_f (p := 16) rfl hc rfl ?_
      refine R_aload_n (p := 17) rfl l0 rfl ?_
      refine R_dupa (p := 18) rfl rfl ?_
      refine R_getI (p := 21) hK rfl rfl rfl rfl ?_
      refine R_iconst (p := 22) rfl ki_1 rfl ?_
      refine R_iadd (p := 23) rfl rfl ?_
      refine R_putI (p := 26) hK rfl rfl rfl rfl rfl ?_
      refine R_iinc (p := 29) rfl l2 rfl ki_1 rfl ?_
      refine R_goto rfl ?_
      obtain rfl := Option.some.inj h
      exact hq _ (jg_ne l0 rfl) (jg_ne l1 rfl) jg_self
theorem LX2_single_2 {xs : List Int32} {d : Nat} {r : jR} {K : Mem → List jE} (hK : Ctx shC K) {d0 : Nat} (hd : d0 + 7 ≤ d) {e : Int32 → Mem → Option Mem} (he : ∀ d9, d0 ≤ d9 → ∀ (x1 : Int32) (m9 : Mem) (q9 : Mem), e x1 m9 = some q9 → CallD (jcs xs) d9 47 [.ref 118, .int x1] (K m9) (none, K q9))  {x1 : Int32} (n : Nat) (s : Int32 × Mem) {t : Mem} (h : lp (lX2_single_2 e x1) n s = some t) (hq : (qM r K) t) : gX2_single_2 xs d r K x1 s := lp_ind (G := gX2_single_2 xs d r K x1) (Qe := (qM r K)) (fun s t h hq => BX2_single_2 hK hd he s h hq) n s t h hq
theorem ufX2_single {xs : List Int32} {d : Nat} {r : jR} {K : Mem → List jE} (hK : Ctx shC K) {d0 : Nat} (hd : d0 + 7 ≤ d) {e : Int32 → Mem → Option Mem} (he : ∀ d9, d0 ≤ d9 → ∀ (x1 : Int32) (m9 : Mem) (q9 : Mem), e x1 m9 = some q9 → CallD (jcs xs) d9 47 [.ref 118, .int x1] (K m9) (none, K q9)) {x1 : Int32} {m : Mem} {L : List (Nat × Value)} (l0 : jget L 0 = some (.ref 118)) (l1 : jget L 1 = some (.int x1)) {t : Mem} (h : fX2_single e x1 m = some t) (hq : (qM r K) t) : RunD (jcs xs) d 6 (none) jt_X2_single (0, L, [], (K m)) r := by
  unfold fX2_single at h
  refine R_iload_n (p := 1) rfl l1 rfl ?_
  refine R_istore_n (p := 2) rfl rfl rfl ?_
  exact LX2_single_2 hK hd he _ _ h hq _ (jg_ne l0 rfl) (jg_ne l1 rfl) jg_self
theorem tfX2_single {xs : List Int32} {d : Nat} {K : Mem → List jE} (hK : Ctx shC K) {d0 : Nat} (hd : d0 + 8 ≤ d) {e : Int32 → Mem → Option Mem} (he : ∀ d9, d0 ≤ d9 → ∀ (x1 : Int32) (m9 : Mem) (q9 : Mem), e x1 m9 = some q9 → CallD (jcs xs) d9 47 [.ref 118, .int x1] (K m9) (none, K q9)) {x1 : Int32} {m : Mem} {t : Mem} (h : fX2_single e x1 m = some t) : CallD (jcs xs) d 47 [.ref 118, .int x1] (K m) (none, K t) := by
  obtain ⟨d, rfl⟩ : ∃ z, d = z + 1 := ⟨d - 1, by omega⟩
  refine CallD_of jmt_X2_single rfl ⟨rfl, Nat.le_of_ble_eq_true rfl⟩ ?_
  exact ufX2_single hK (Nat.le_of_succ_le_succ hd) he rfl rfl h rfl
noncomputable def nX2_single : Nat → Int32 → Mem → Option Mem
  | 0, _, _ => none
  | n9 + 1, a0, a1 => fX2_single (nX2_single n9) a0 a1
theorem tnX2_single {xs : List Int32} {K : Mem → List jE} (hK : Ctx shC K) : ∀ n9, ∀ d9, n9 * 8 ≤ d9 → ∀ (x1 : Int32) (m9 : Mem) (q9 : Mem), nX2_single n9 x1 m9 = some q9 → CallD (jcs xs) d9 47 [.ref 118, .int x1] (K m9) (none, K q9)
  | 0, _, _, _, _, _, h => by cases h
  | n9 + 1, d, hd, _, _, _, h => CallD.up (by rw [Nat.succ_mul] at hd; exact hd) (tfX2_single hK (d0 := n9 * 8) (Nat.le_refl _) (tnX2_single hK n9) h)
noncomputable def fX2_read_60 (c1 : Nat) (x2 : Int32) (x3 : Int32) (m : Mem) : Option (Int32 × Mem) := (if cpin (0 : Int32) (0 : Int32) ((mput m 118 4 (fJ9_max_7cf53 (0 : Int32) (fJ9_min_7cf53 x2 (fJ9_min_7cf53 (60 : Int32) (60 : Int32))))) 118 4) 60 60 then (if (fX2_namesOf x3) < 100 then (fX2_either (nX2_single 8) (0 : Int32) (mput (mput (mput (mput (mcpy (mput m 118 4 (fJ9_max_7cf53 (0 : Int32) (fJ9_min_7cf53 x2 (fJ9_min_7cf53 (60 : Int32) (60 : Int32))))) c1 120 0 0 ((mput m 118 4 (fJ9_max_7cf53 (0 : Int32) (fJ9_min_7cf53 x2 (fJ9_min_7cf53 (60 : Int32) (60 : Int32))))) 118 4).toNatClampNeg) 118 5 (Int32.ofNat (fX2_namesOf x3))) 118 0 (0 : Int32)) 118 1 (0 : Int32)) 118 6 (0 : Int32))).bind fun q7 => (if (q7 118 6) = 0 then (if (q7 118 0) = (q7 118 4) then some ((1 : Int32), q7) else some ((0 : Int32), q7)) else some ((0 : Int32), q7)) else none) else none)
theorem ufX2_read_60 {xs : List Int32} {d : Nat} {r : jR} {K : Mem → List jE} (hK : Ctx shC K) (hd : 71 ≤ d) {c1 : Nat} (hc1 : shC c1 = some (.inr (.inl 60))) {x2 : Int32} {x3 : Int32} {m : Mem} {L : List (Nat × Value)} (l0 : jget L 0 = some (.ref 118)) (l1 : jget L 1 = some (.ref c1)) (l2 : jget L 2 = some (.int x2)) (l3 : jget L 3 = some (.int x3)) {t : (Int32 × Mem)} (h : fX2_read_60 c1 x2 x3 m = some t) (hq : (qIM r K) t) : RunD (jcs xs) d 4 (some .boolean) jt_X2_read (0, L, [], (K m)) r := by
  unfold fX2_read_60 at h
  refine R_aload_n (p := 1) rfl l0 rfl ?_
  refine R_iconst (p := 2) rfl ki_0 rfl ?_
  refine R_iload_n (p := 3) rfl l2 rfl ?_
  refine R_aload_n (p := 4) rfl l1 rfl ?_
  refine R_alen (p := 5) (x := (60 : Int32)) hK rfl hc1 rfl rfl ?_
  refine R_bipush (p := 7) rfl kb_60 rfl ?_
  refine R_cS2v (p := 10) rfl (tfJ9_min_7cf53 (Nat.le_trans (by decide) hd) ) rfl rfl ?_
  refine R_cS2v (p := 13) rfl (tfJ9_min_7cf53 (Nat.le_trans (by decide) hd) ) rfl rfl ?_
  refine R_cS2v (p := 16) rfl (tfJ9_max_7cf53 (Nat.le_trans (by decide) hd) ) rfl rfl ?_
  refine R_putI (p := 19) hK rfl rfl rfl rfl rfl ?_
  refine R_aload_n (p := 20) rfl l1 rfl ?_
  refine R_iconst (p := 21) rfl ki_0 rfl ?_
  refine R_aload_n (p := 22) rfl l0 rfl ?_
  refine R_getR (p := 25) (q := 120) hK rfl rfl rfl rfl ?_
  refine R_iconst (p := 26) rfl ki_0 rfl ?_
  refine R_aload_n (p := 27) rfl l0 rfl ?_
  refine R_getI (p := 30) hK rfl rfl rfl rfl ?_
  obtain ⟨b4, h⟩ := gd h
  refine R_copk (p := 33) hK rfl hc1 rfl b4 kn_0.1 kn_0.1 rfl rfl rfl ?_
  refine R_aload_n (p := 34) rfl l0 rfl ?_
  refine R_iload_n (p := 35) rfl l3 rfl ?_
  refine R_cS1v (p := 38) rfl (tfX2_namesOf (Nat.le_trans (by decide) hd) ) rfl rfl ?_
  obtain ⟨b6, h⟩ := gd h
  refine R_putS (x := Int32.ofNat (fX2_namesOf x3)) (p := 41) hK rfl rfl rfl (strnum b6) rfl ?_
  refine R_aload_n (p := 42) rfl l0 rfl ?_
  refine R_iconst (p := 43) rfl ki_0 rfl ?_
  refine R_putI (p := 46) hK rfl rfl rfl rfl rfl ?_
  refine R_aload_n (p := 47) rfl l0 rfl ?_
  refine R_iconst (p := 48) rfl ki_0 rfl ?_
  refine R_putI (p := 51) hK rfl rfl rfl rfl rfl ?_
  refine R_aload_n (p := 52) rfl l0 rfl ?_
  refine R_iconst (p := 53) rfl ki_0 rfl ?_
  refine R_putI (p := 56) hK rfl rfl rfl (jfit_z (by decide)) rfl ?_
  refine R_aload_n (p := 57) rfl l0 rfl ?_
  refine R_iconst (p := 58) rfl ki_0 rfl ?_
  obtain ⟨q7, eq7, h⟩ := bind_some h
  refine R_cV2n (p := 61) hK rfl rfl (tfX2_either hK (Nat.le_trans (by decide) hd) (fun d9 h9 => tnX2_single hK 8 d9 h9)  eq7) rfl rfl ?_
  refine R_aload_n (p := 62) rfl l0 rfl ?_
  refine R_getI (p := 65) hK rfl rfl rfl rfl ?_
  by_cases hc : (q7 118 6) = 0
  · replace h := ite_t h hc
    refine R_ifne_f (p := 68) rfl (fun z => z hc) rfl ?_
    refine R_aload_n (p := 69) rfl l0 rfl ?_
    refine R_getI (p := 72) hK rfl rfl rfl rfl ?_
    refine R_aload_n (p := 73) rfl l0 rfl ?_
    refine R_getI (p := 76) hK rfl rfl rfl rfl ?_
    by_cases hc : (q7 118 0) = (q7 118 4)
    · replace h := ite_t h hc
      refine R_icne_f (p := 79) rfl (fun z => z hc) rfl ?_
      refine R_iconst (p := 80) rfl ki_1 rfl ?_
      refine R_goto rfl ?_
      obtain rfl := Option.some.inj h
      exact R_zreturn rfl rfl (by decide) hq
    · replace h := ite_f h hc
      refine R_icne_t rfl hc ?_
      refine R_iconst (p := 84) rfl ki_0 rfl ?_
      obtain rfl := Option.some.inj h
      exact R_zreturn rfl rfl (by decide) hq
  · replace h := ite_f h hc
    refine R_ifne_t rfl hc ?_
    refine R_iconst (p := 84) rfl ki_0 rfl ?_
    obtain rfl := Option.some.inj h
    exact R_zreturn rfl rfl (by decide) hq
theorem tfX2_read_60 {xs : List Int32} {d : Nat} {K : Mem → List jE} (hK : Ctx shC K) (hd : 72 ≤ d) {c1 : Nat} (hc1 : shC c1 = some (.inr (.inl 60))) {x2 : Int32} {x3 : Int32} {m : Mem} {t : (Int32 × Mem)} (h : fX2_read_60 c1 x2 x3 m = some t) : CallD (jcs xs) d 38 [.ref 118, .ref c1, .int x2, .int x3] (K m) (some (.int t.1), K t.2) := by
  obtain ⟨d, rfl⟩ : ∃ z, d = z + 1 := ⟨d - 1, by omega⟩
  refine CallD_of jmt_X2_read rfl ⟨rfl, Nat.le_of_ble_eq_true rfl⟩ ?_
  exact ufX2_read_60 hK (Nat.le_of_succ_le_succ hd) hc1 rfl rfl rfl rfl h rfl
noncomputable def fX5_take_60 (k : Nat) (u : Nat) (c1 : Nat) (x2 : Int32) (m : Mem) : Option Mem := (if x2 < 0 then some m else (if (60 : Int32) < x2 then some m else (if (60 : Int32) < x2 then some m else (if cpin (0 : Int32) (0 : Int32) x2 60 60 then some (mput (mcpy m c1 (cw k (28 + 3 * u)) 0 0 x2.toNatClampNeg) (cw k (27 + 3 * u)) 0 x2) else none))))
theorem ufX5_take_60 {xs : List Int32} {d : Nat} {r : jR} {K : Mem → List jE} (hK : Ctx shC K) (hd : 0 ≤ d) {k : Nat} {u : Nat} {c1 : Nat} (hk : k < 3) (hu : u < 3) (hc1 : shC c1 = some (.inr (.inl 60))) {x2 : Int32} {m : Mem} {L : List (Nat × Value)} (l0 : jget L 0 = some (.ref (cw k (27 + 3 * u)))) (l1 : jget L 1 = some (.ref c1)) (l2 : jget L 2 = some (.int x2)) {t : Mem} (h : fX5_take_60 k u c1 x2 m = some t) (hq : (qM r K) t) : RunD (jcs xs) d 3 (none) jt_X5_take (0, L, [], (K m)) r := by
  unfold fX5_take_60 at h
  refine R_iload_n (p := 1) rfl l2 rfl ?_
  by_cases hc : x2 < 0
  · replace h := ite_t h hc
    refine R_iflt_t rfl hc ?_
    obtain rfl := Option.some.inj h
    exact R_return rfl rfl hq
  · replace h := ite_f h hc
    refine R_iflt_f (p := 4) rfl hc rfl ?_
    refine R_iload_n (p := 5) rfl l2 rfl ?_
    refine R_bipush (p := 7) rfl kb_60 rfl ?_
    by_cases hc : (60 : Int32) < x2
    · replace h := ite_t h hc
      refine R_icgt_t rfl hc ?_
      obtain rfl := Option.some.inj h
      exact R_return rfl rfl hq
    · replace h := ite_f h hc
      refine R_icgt_f (p := 10) rfl hc rfl ?_
      refine R_iload_n (p := 11) rfl l2 rfl ?_
      refine R_aload_n (p := 12) rfl l1 rfl ?_
      refine R_alen (p := 13) (x := (60 : Int32)) hK rfl hc1 rfl rfl ?_
      by_cases hc : (60 : Int32) < x2
      · replace h := ite_t h hc
        refine R_icgt_t rfl hc ?_
        obtain rfl := Option.some.inj h
        exact R_return rfl rfl hq
      · replace h := ite_f h hc
        refine R_icgt_f (p := 16) rfl hc rfl ?_
        refine R_aload_n (p := 17) rfl l1 rfl ?_
        refine R_iconst (p := 18) rfl ki_0 rfl ?_
        refine R_aload_n (p := 19) rfl l0 rfl ?_
        refine R_getR (p := 22) (q := (cw k (28 + 3 * u))) hK rfl (s_text hk hu) rfl rfl ?_
        refine R_iconst (p := 23) rfl ki_0 rfl ?_
        refine R_iload_n (p := 24) rfl l2 rfl ?_
        obtain ⟨b1, h⟩ := gd h
        refine R_copk (p := 27) hK rfl hc1 (s_text28 hk hu) b1 kn_0.1 kn_0.1 rfl rfl rfl ?_
        refine R_aload_n (p := 28) rfl l0 rfl ?_
        refine R_iload_n (p := 29) rfl l2 rfl ?_
        refine R_putI (p := 32) hK rfl (s_text hk hu) rfl rfl rfl ?_
        obtain rfl := Option.some.inj h
        exact R_return rfl rfl hq
theorem tfX5_take_60 {xs : List Int32} {d : Nat} {K : Mem → List jE} (hK : Ctx shC K) (hd : 1 ≤ d) {k : Nat} {u : Nat} {c1 : Nat} (hk : k < 3) (hu : u < 3) (hc1 : shC c1 = some (.inr (.inl 60))) {x2 : Int32} {m : Mem} {t : Mem} (h : fX5_take_60 k u c1 x2 m = some t) : CallD (jcs xs) d 68 [.ref (cw k (27 + 3 * u)), .ref c1, .int x2] (K m) (none, K t) := by
  obtain ⟨d, rfl⟩ : ∃ z, d = z + 1 := ⟨d - 1, by omega⟩
  refine CallD_of jmt_X5_take rfl ⟨rfl, Nat.le_of_ble_eq_true rfl⟩ ?_
  exact ufX5_take_60 hK (Nat.le_of_succ_le_succ hd) hk hu hc1 rfl rfl rfl h rfl
noncomputable def fX8_text (x1 : Int32) (m : Mem) : Option (Int32 × Mem) := (if (fX8_within x1 (0 : Int32) (2 : Int32)) = 0 then (fX8_no (1 : Int32) m).bind fun q2 => some (q2.1, q2.2) else (fX2_read_60 (cw 0 36) (m (cw 0 1) 3) x1 m).bind fun q3 => (if q3.1 = 0 then some (((-10 : Int32) - ((mput q3.2 (cw 0 1) 3 (0 : Int32)) 118 0)), (mput q3.2 (cw 0 1) 3 (0 : Int32))) else (if inb x1 3 then (fX5_take_60 0 x1.toNatClampNeg 119 ((mput q3.2 (cw 0 1) 3 (0 : Int32)) 118 1) (mput q3.2 (cw 0 1) 3 (0 : Int32))).bind fun q5 => some ((1 : Int32), q5) else none)))
theorem ufX8_text {xs : List Int32} {d : Nat} {r : jR} {K : Mem → List jE} (hK : Ctx shC K) (hd : 72 ≤ d) {x1 : Int32} {m : Mem} {L : List (Nat × Value)} (l0 : jget L 0 = some (.ref 0)) (l1 : jget L 1 = some (.int x1)) {t : (Int32 × Mem)} (h : fX8_text x1 m = some t) (hq : (qIM r K) t) : RunD (jcs xs) d 3 (some .int) jt_X8_text (0, L, [], (K m)) r := by
  unfold fX8_text at h
  refine R_iload_n (p := 1) rfl l1 rfl ?_
  refine R_iconst (p := 2) rfl ki_0 rfl ?_
  refine R_iconst (p := 3) rfl ki_2 rfl ?_
  refine R_cS3v (p := 6) rfl (tfX8_within (Nat.le_trans (by decide) hd) ) rfl rfl ?_
  by_cases hc : (fX8_within x1 (0 : Int32) (2 : Int32)) = 0
  · replace h := ite_t h hc
    refine R_ifne_f (p := 9) rfl (fun z => z hc) rfl ?_
    refine R_aload_n (p := 10) rfl l0 rfl ?_
    refine R_iconst (p := 11) rfl ki_1 rfl ?_
    obtain ⟨q2, eq2, h⟩ := bind_some h
    refine R_cV2v (p := 14) hK rfl rfl (tfX8_no hK (Nat.le_trans (by decide) hd)  eq2) rfl rfl ?_
    obtain rfl := Option.some.inj h
    exact R_ireturn rfl rfl hq
  · replace h := ite_f h hc
    refine R_ifne_t rfl hc ?_
    refine R_aload_n (p := 16) rfl l0 rfl ?_
    refine R_getR (p := 19) (q := 118) hK rfl rfl rfl rfl ?_
    refine R_aload_n (p := 20) rfl l0 rfl ?_
    refine R_getR (p := 23) (q := (cw 0 1)) hK rfl rfl rfl rfl ?_
    refine R_getR (p := 26) (q := (cw 0 36)) hK rfl (s_w1 (by decide)) rfl rfl ?_
    refine R_aload_n (p := 27) rfl l0 rfl ?_
    refine R_getR (p := 30) (q := (cw 0 1)) hK rfl rfl rfl rfl ?_
    refine R_getI (p := 33) hK rfl (s_w1 (by decide)) rfl rfl ?_
    refine R_iload_n (p := 34) rfl l1 rfl ?_
    obtain ⟨q3, eq3, h⟩ := bind_some h
    refine R_cV4v (p := 37) hK rfl rfl (tfX2_read_60 hK (Nat.le_trans (by decide) hd) (s_w36 (by decide)) eq3) rfl rfl ?_
    refine R_istore_n (p := 38) rfl rfl rfl ?_
    refine R_aload_n (p := 39) rfl (jg_ne l0 rfl) rfl ?_
    refine R_getR (p := 42) (q := (cw 0 1)) hK rfl rfl rfl rfl ?_
    refine R_iconst (p := 43) rfl ki_0 rfl ?_
    refine R_putI (p := 46) hK rfl (s_w1 (by decide)) rfl rfl rfl ?_
    refine R_iload_n (p := 47) rfl jg_self rfl ?_
    by_cases hc : q3.1 = 0
    · replace h := ite_t h hc
      refine R_ifne_f (p := 50) rfl (fun z => z hc) rfl ?_
      refine R_bipush (p := 52) rfl kb_m10 rfl ?_
      refine R_aload_n (p := 53) rfl (jg_ne l0 rfl) rfl ?_
      refine R_getR (p := 56) (q := 118) hK rfl rfl rfl rfl ?_
      refine R_getI (p := 59) hK rfl rfl rfl rfl ?_
      refine R_isub (p := 60) rfl rfl ?_
      obtain rfl := Option.some.inj h
      exact R_ireturn rfl rfl hq
    · replace h := ite_f h hc
      refine R_ifne_t rfl hc ?_
      refine R_aload_n (p := 62) rfl (jg_ne l0 rfl) rfl ?_
      refine R_getR (p := 65) (q := (cw 0 1)) hK rfl rfl rfl rfl ?_
      refine R_getR (p := 68) (q := (cw 0 26)) hK rfl (s_w1 (by decide)) rfl rfl ?_
      refine R_iload_n (p := 69) rfl (jg_ne l1 rfl) rfl ?_
      obtain ⟨b4, h⟩ := gd h
      refine R_aald (p := 70) (q := (cw 0 (27 + 3 * x1.toNatClampNeg))) hK rfl (s_w26 (by decide)) (by decide) b4.1 (l_text b4.2) rfl ?_
      refine R_aload_n (p := 71) rfl (jg_ne l0 rfl) rfl ?_
      refine R_getR (p := 74) (q := 118) hK rfl rfl rfl rfl ?_
      refine R_getR (p := 77) (q := 119) hK rfl rfl rfl rfl ?_
      refine R_aload_n (p := 78) rfl (jg_ne l0 rfl) rfl ?_
      refine R_getR (p := 81) (q := 118) hK rfl rfl rfl rfl ?_
      refine R_getI (p := 84) hK rfl rfl rfl rfl ?_
      obtain ⟨q5, eq5, h⟩ := bind_some h
      refine R_cV3n (p := 87) hK rfl (s_text (by decide) b4.2) (tfX5_take_60 hK (Nat.le_trans (by decide) hd) (by decide) b4.2 rfl eq5) rfl rfl ?_
      refine R_iconst (p := 88) rfl ki_1 rfl ?_
      obtain rfl := Option.some.inj h
      exact R_ireturn rfl rfl hq
theorem tfX8_text {xs : List Int32} {d : Nat} {K : Mem → List jE} (hK : Ctx shC K) (hd : 73 ≤ d) {x1 : Int32} {m : Mem} {t : (Int32 × Mem)} (h : fX8_text x1 m = some t) : CallD (jcs xs) d 118 [.ref 0, .int x1] (K m) (some (.int t.1), K t.2) := by
  obtain ⟨d, rfl⟩ : ∃ z, d = z + 1 := ⟨d - 1, by omega⟩
  refine CallD_of jmt_X8_text rfl ⟨rfl, Nat.le_of_ble_eq_true rfl⟩ ?_
  exact ufX8_text hK (Nat.le_of_succ_le_succ hd) rfl rfl h rfl
noncomputable def fX9_here (m : Mem) : Option Int32 := (if (m 137 10) = 0 then (if (m 138 1) ≤ (m 137 7) then some (-1 : Int32) else (if inb ((812 : Int32) + (m 137 7)) 1082 then some (m 138 ((812 : Int32) + (m 137 7)).toNatClampNeg) else none)) else some (-1 : Int32))
theorem ufX9_here {xs : List Int32} {d : Nat} {r : jR} {K : Mem → List jE} (hK : Ctx shR K) (hd : 0 ≤ d) {m : Mem} {L : List (Nat × Value)} (l0 : jget L 0 = some (.ref 137)) {t : Int32} (h : fX9_here m = some t) (hq : (qI r (K m)) t) : RunD (jcs xs) d 1 (some .int) jt_X9_here (0, L, [], (K m)) r := by
  unfold fX9_here at h
  refine R_aload_n (p := 1) rfl l0 rfl ?_
  refine R_getI (p := 4) hK rfl rfl rfl rfl ?_
  by_cases hc : (m 137 10) = 0
  · replace h := ite_t h hc
    refine R_ifne_f (p := 7) rfl (fun z => z hc) rfl ?_
    refine R_aload_n (p := 8) rfl l0 rfl ?_
    refine R_getI (p := 11) hK rfl rfl rfl rfl ?_
    refine R_aload_n (p := 12) rfl l0 rfl ?_
    refine R_getR (p := 15) (q := 138) hK rfl rfl rfl rfl ?_
    refine R_iconst (p := 16) rfl ki_1 rfl ?_
    refine R_ialk (p := 17) hK rfl rfl (by decide) kn_1 rfl ?_
    by_cases hc : (m 138 1) ≤ (m 137 7)
    · replace h := ite_t h hc
      refine R_icge_t rfl hc ?_
      refine R_iconst (p := 37) rfl ki_m1 rfl ?_
      obtain rfl := Option.some.inj h
      exact R_ireturn rfl rfl hq
    · replace h := ite_f h hc
      refine R_icge_f (p := 20) rfl hc rfl ?_
      refine R_aload_n (p := 21) rfl l0 rfl ?_
      refine R_getR (p := 24) (q := 138) hK rfl rfl rfl rfl ?_
      refine R_sipush (p := 27) rfl ks_812 rfl ?_
      refine R_aload_n (p := 28) rfl l0 rfl ?_
      refine R_getI (p := 31) hK rfl rfl rfl rfl ?_
      refine R_iadd (p := 32) rfl rfl ?_
      obtain ⟨b1, h⟩ := gd h
      refine R_iald (p := 33) hK rfl rfl b1 rfl ?_
      refine R_goto rfl ?_
      obtain rfl := Option.some.inj h
      exact R_ireturn rfl rfl hq
  · replace h := ite_f h hc
    refine R_ifne_t rfl hc ?_
    refine R_iconst (p := 37) rfl ki_m1 rfl ?_
    obtain rfl := Option.some.inj h
    exact R_ireturn rfl rfl hq
theorem tfX9_here {xs : List Int32} {d : Nat} {K : Mem → List jE} (hK : Ctx shR K) (hd : 1 ≤ d) {m : Mem} {t : Int32} (h : fX9_here m = some t) : CallD (jcs xs) d 192 [.ref 137] (K m) (some (.int t), (K m)) := by
  obtain ⟨d, rfl⟩ : ∃ z, d = z + 1 := ⟨d - 1, by omega⟩
  refine CallD_of jmt_X9_here rfl ⟨rfl, Nat.le_of_ble_eq_true rfl⟩ ?_
  exact ufX9_here hK (Nat.le_of_succ_le_succ hd) rfl h rfl
noncomputable def bX9_takes_28 (x2 : Int32) (y1 : Int32) (y2 : Int32) (m : Mem) : Option (Int32 × Mem) := (if x2 = 0 ∨ x2 = 1 then some (x2, (mput m 137 7 (y1 + y2))) else none)
noncomputable def bX9_takes_13 (y0 : Int32) (m : Mem) : Option (Int32 × Mem) := (if y0 = 0 then bX9_takes_28 y0 (m 137 7) (0 : Int32) m else bX9_takes_28 y0 (m 137 7) (1 : Int32) m)
noncomputable def fX9_takes (x1 : Int32) (m : Mem) : Option (Int32 × Mem) := (fX9_here m).bind fun q1 => (if q1 = x1 then bX9_takes_13 (1 : Int32) m else bX9_takes_13 (0 : Int32) m)
theorem tbX9_takes_28 {xs : List Int32} {d : Nat} {r : jR} {K : Mem → List jE} (hK : Ctx shR K) (hd : 1 ≤ d)  {x2 : Int32} {y1 : Int32} {y2 : Int32} {m : Mem} {L : List (Nat × Value)} (l2 : jget L 2 = some (.int x2)) {t : (Int32 × Mem)} (h : bX9_takes_28 x2 y1 y2 m = some t) (hq : (qIM r K) t) : RunD (jcs xs) d 3 (some .boolean) jt_X9_takes (28, L, [.int y2, .int y1, .ref 137], (K m)) r := by
  unfold bX9_takes_28 at h
  refine R_iadd (p := 29) rfl rfl ?_
  refine R_putI (p := 32) hK rfl rfl rfl rfl rfl ?_
  refine R_iload_n (p := 33) rfl l2 rfl ?_
  obtain ⟨b2, h⟩ := gd h
  obtain rfl := Option.some.inj h
  exact R_zreturn rfl rfl b2 hq
theorem tbX9_takes_13 {xs : List Int32} {d : Nat} {r : jR} {K : Mem → List jE} (hK : Ctx shR K) (hd : 1 ≤ d)  {y0 : Int32} {m : Mem} {L : List (Nat × Value)} (l0 : jget L 0 = some (.ref 137)) {t : (Int32 × Mem)} (h : bX9_takes_13 y0 m = some t) (hq : (qIM r K) t) : RunD (jcs xs) d 3 (some .boolean) jt_X9_takes (13, L, [.int y0], (K m)) r := by
  unfold bX9_takes_13 at h
  refine R_istore_n (p := 14) rfl rfl rfl ?_
  refine R_aload_n (p := 15) rfl (jg_ne l0 rfl) rfl ?_
  refine R_dupa (p := 16) rfl rfl ?_
  refine R_getI (p := 19) hK rfl rfl rfl rfl ?_
  refine R_iload_n (p := 20) rfl jg_self rfl ?_
  by_cases hc : y0 = 0
  · replace h := ite_t h hc
    refine R_ifeq_t rfl hc ?_
    refine R_iconst (p := 28) rfl ki_0 rfl ?_
    exact tbX9_takes_28 hK hd jg_self h hq
  · replace h := ite_f h hc
    refine R_ifeq_f (p := 23) rfl hc rfl ?_
    refine R_iconst (p := 24) rfl ki_1 rfl ?_
    refine R_goto rfl ?_
    exact tbX9_takes_28 hK hd jg_self h hq
theorem ufX9_takes {xs : List Int32} {d : Nat} {r : jR} {K : Mem → List jE} (hK : Ctx shR K) (hd : 1 ≤ d) {x1 : Int32} {m : Mem} {L : List (Nat × Value)} (l0 : jget L 0 = some (.ref 137)) (l1 : jget L 1 = some (.int x1)) {t : (Int32 × Mem)} (h : fX9_takes x1 m = some t) (hq : (qIM r K) t) : RunD (jcs xs) d 3 (some .boolean) jt_X9_takes (0, L, [], (K m)) r := by
  unfold fX9_takes at h
  refine R_aload_n (p := 1) rfl l0 rfl ?_
  obtain ⟨q1, eq1, h⟩ := bind_some h
  refine R_cV1v (p := 4) hK rfl rfl (tfX9_here hK (Nat.le_trans (by decide) hd)  eq1) rfl rfl ?_
  refine R_iload_n (p := 5) rfl l1 rfl ?_
  by_cases hc : q1 = x1
  · replace h := ite_t h hc
    refine R_icne_f (p := 8) rfl (fun z => z hc) rfl ?_
    refine R_iconst (p := 9) rfl ki_1 rfl ?_
    refine R_goto rfl ?_
    exact tbX9_takes_13 hK hd l0 h hq
  · replace h := ite_f h hc
    refine R_icne_t rfl hc ?_
    refine R_iconst (p := 13) rfl ki_0 rfl ?_
    exact tbX9_takes_13 hK hd l0 h hq
theorem tfX9_takes {xs : List Int32} {d : Nat} {K : Mem → List jE} (hK : Ctx shR K) (hd : 2 ≤ d) {x1 : Int32} {m : Mem} {t : (Int32 × Mem)} (h : fX9_takes x1 m = some t) : CallD (jcs xs) d 193 [.ref 137, .int x1] (K m) (some (.int t.1), K t.2) := by
  obtain ⟨d, rfl⟩ : ∃ z, d = z + 1 := ⟨d - 1, by omega⟩
  refine CallD_of jmt_X9_takes rfl ⟨rfl, Nat.le_of_ble_eq_true rfl⟩ ?_
  exact ufX9_takes hK (Nat.le_of_succ_le_succ hd) rfl rfl h rfl
noncomputable def fX9_codes (x1 : Int32) (m : Mem) : Option Mem := (if (m 137 10) = 0 then (if inb (m 137 12) 60 then some (mput (mput m 144 (m 137 12).toNatClampNeg x1) 137 12 (((mput m 144 (m 137 12).toNatClampNeg x1) 137 12) + (1 : Int32))) else none) else some m)
theorem ufX9_codes {xs : List Int32} {d : Nat} {r : jR} {K : Mem → List jE} (hK : Ctx shR K) (hd : 0 ≤ d) {x1 : Int32} {m : Mem} {L : List (Nat × Value)} (l0 : jget L 0 = some (.ref 137)) (l1 : jget L 1 = some (.int x1)) {t : Mem} (h : fX9_codes x1 m = some t) (hq : (qM r K) t) : RunD (jcs xs) d 2 (none) jt_X9_codes (0, L, [], (K m)) r := by
  unfold fX9_codes at h
  refine R_aload_n (p := 1) rfl l0 rfl ?_
  refine R_getI (p := 4) hK rfl rfl rfl rfl ?_
  by_cases hc : (m 137 10) = 0
  · replace h := ite_t h hc
    refine R_ifne_f (p := 7) rfl (fun z => z hc) rfl ?_
    refine R_aload_n (p := 8) rfl l0 rfl ?_
    refine R_getR (p := 11) (q := 144) hK rfl rfl rfl rfl ?_
    refine R_aload_n (p := 12) rfl l0 rfl ?_
    refine R_getI (p := 15) hK rfl rfl rfl rfl ?_
    refine R_iload_n (p := 16) rfl l1 rfl ?_
    obtain ⟨b1, h⟩ := gd h
    refine R_iast (p := 17) hK rfl rfl b1 rfl ?_
    refine R_aload_n (p := 18) rfl l0 rfl ?_
    refine R_dupa (p := 19) rfl rfl ?_
    refine R_getI (p := 22) hK rfl rfl rfl rfl ?_
    refine R_iconst (p := 23) rfl ki_1 rfl ?_
    refine R_iadd (p := 24) rfl rfl ?_
    refine R_putI (p := 27) hK rfl rfl rfl rfl rfl ?_
    obtain rfl := Option.some.inj h
    exact R_return rfl rfl hq
  · replace h := ite_f h hc
    refine R_ifne_t rfl hc ?_
    obtain rfl := Option.some.inj h
    exact R_return rfl rfl hq
theorem tfX9_codes {xs : List Int32} {d : Nat} {K : Mem → List jE} (hK : Ctx shR K) (hd : 1 ≤ d) {x1 : Int32} {m : Mem} {t : Mem} (h : fX9_codes x1 m = some t) : CallD (jcs xs) d 194 [.ref 137, .int x1] (K m) (none, K t) := by
  obtain ⟨d, rfl⟩ : ∃ z, d = z + 1 := ⟨d - 1, by omega⟩
  refine CallD_of jmt_X9_codes rfl ⟨rfl, Nat.le_of_ble_eq_true rfl⟩ ?_
  exact ufX9_codes hK (Nat.le_of_succ_le_succ hd) rfl rfl h rfl
noncomputable def lX9_product_51 (e : Mem → Option Mem) (s : Int32 × Mem) : Option ((Int32 × Mem) ⊕ Mem) := (if s.1 ≤ 0 then some (.inr s.2) else (e s.2).bind fun q5 => (fX9_codes s.1 q5).bind fun q6 => (fX9_takes (42 : Int32) q6).bind fun q7 => (if q7.1 = 0 then (fX9_takes (47 : Int32) q7.2).bind fun q8 => (if q8.1 = 0 then (fX9_takes (37 : Int32) q8.2).bind fun q9 => (if q9.1 = 0 then some (.inl ((0 : Int32), q9.2)) else some (.inl ((20009 : Int32), q9.2))) else some (.inl ((20008 : Int32), q8.2))) else some (.inl ((20007 : Int32), q7.2))))
noncomputable def gX9_product_51 (xs : List Int32) (d : Nat) (r : jR) (K : Mem → List jE) (s : Int32 × Mem) : Prop := ∀ L, jget L 0 = some (.ref 137) → jget L 1 = some (.int s.1) → RunD (jcs xs) d 2 (none) jt_X9_product (51, L, [], (K s.2)) r
noncomputable def fX9_product (e : Mem → Option Mem) (m : Mem) : Option Mem := (e m).bind fun q1 => (fX9_takes (42 : Int32) q1).bind fun q2 => (if q2.1 = 0 then (fX9_takes (47 : Int32) q2.2).bind fun q3 => (if q3.1 = 0 then (fX9_takes (37 : Int32) q3.2).bind fun q4 => (if q4.1 = 0 then lp (lX9_product_51 e) fu ((0 : Int32), q4.2) else lp (lX9_product_51 e) fu ((20009 : Int32), q4.2)) else lp (lX9_product_51 e) fu ((20008 : Int32), q3.2)) else lp (lX9_product_51 e) fu ((20007 : Int32), q2.2))
theorem BX9_product_51 {xs : List Int32} {d : Nat} {r : jR} {K : Mem → List jE} (hK : Ctx shR K) {d0 : Nat} (hd : d0 + 2 ≤ d) {e : Mem → Option Mem} (he : ∀ d9, d0 ≤ d9 → ∀  (m9 : Mem) (q9 : Mem), e m9 = some q9 → CallD (jcs xs) d9 201 [.ref 137] (K m9) (none, K q9))  (s : Int32 × Mem) {t : (Int32 × Mem) ⊕ Mem} (h : lX9_product_51 e s = some t) (hq : sQ (gX9_product_51 xs d r K) (qM r K) t) : gX9_product_51 xs d r K s := by
  intro L l0 l1
  unfold lX9_product_51 at h
  refine R_iload_n (p := 52) rfl l1 rfl ?_
  by_cases hc : s.1 ≤ 0
  · replace h := ite_t h hc
    refine R_ifle_t rfl hc ?_
    obtain rfl := Option.some.inj h
    exact R_return rfl rfl hq
  · replace h := ite_f h hc
    refine R_ifle_f (p := 55) rfl hc rfl ?_
    refine R_aload_n (p := 56) rfl l0 rfl ?_
    obtain ⟨q5, eq5, h⟩ := bind_some h
    refine R_cV1n (p := 59) hK rfl rfl (he _ (Nat.le_trans (Nat.le_add_right _ _) hd) _ _ eq5) rfl rfl ?_
    refine R_aload_n (p := 60) rfl l0 rfl ?_
    refine R_iload_n (p := 61) rfl l1 rfl ?_
    obtain ⟨q6, eq6, h⟩ := bind_some h
    refine R_cV2n (p := 64) hK rfl rfl (tfX9_codes hK (Nat.le_trans (Nat.le_trans (by decide) (Nat.le_add_left _ _)) hd)  eq6) rfl rfl ?_
    refine R_aload_n (p := 65) rfl l0 rfl ?_
    refine R_bipush (p := 67) rfl kb_42 rfl ?_
    obtain ⟨q7, eq7, h⟩ := bind_some h
    refine R_cV2v (p := 70) hK rfl rfl (tfX9_takes hK (Nat.le_trans (Nat.le_trans (by decide) (Nat.le_add_left _ _)) hd)  eq7) rfl rfl ?_
    by_cases hc : q7.1 = 0
    · replace h := ite_t h hc
      refine R_ifeq_t rfl hc ?_
      refine R_aload_n (p := 80) rfl l0 rfl ?_
      refine R_bipush (p := 82) rfl kb_47 rfl ?_
      obtain ⟨q8, eq8, h⟩ := bind_some h
      refine R_cV2v (p := 85) hK rfl rfl (tfX9_takes hK (Nat.le_trans (Nat.le_trans (by decide) (Nat.le_add_left _ _)) hd)  eq8) rfl rfl ?_
      by_cases hc : q8.1 = 0
      · replace h := ite_t h hc
        refine R_ifeq_t rfl hc ?_
        refine R_aload_n (p := 95) rfl l0 rfl ?_
        refine R_bipush (p := 97) rfl kb_37 rfl ?_
        obtain ⟨q9, eq9, h⟩ := bind_some h
        refine R_cV2v (p := 100) hK rfl rfl (tfX9_takes hK (Nat.le_trans (Nat.le_trans (by decide) (Nat.le_add_left _ _)) hd)  eq9) rfl rfl ?_
        by_cases hc : q9.1 = 0
        · replace h := ite_t h hc
          refine R_ifeq_t rfl hc ?_
          refine R_iconst (p := 110) rfl ki_0 rfl ?_
          refine R_istore_n (p := 111) rfl rfl rfl ?_
          refine R_goto rfl ?_
          obtain rfl := Option.some.inj h
          exact hq _ (jg_ne l0 rfl) jg_self
        · replace h := ite_f h hc
          refine R_ifeq_f (p := 103) rfl hc rfl ?_
          refine R_sipush (p := 106) rfl ks_20009 rfl ?_
          refine R_goto rfl ?_
          refine R_istore_n (p := 111) rfl rfl rfl ?_
          refine R_goto rfl ?_
          obtain rfl := Option.some.inj h
          exact hq _ (jg_ne l0 rfl) jg_self
      · replace h := ite_f h hc
        refine R_ifeq_f (p := 88) rfl hc rfl ?_
        refine R_sipush (p := 91) rfl ks_20008 rfl ?_
        refine R_goto rfl ?_
        refine R_istore_n (p := 111) rfl rfl rfl ?_
        refine R_goto rfl ?_
        obtain rfl := Option.some.inj h
        exact hq _ (jg_ne l0 rfl) jg_self
    · replace h := ite_f h hc
      refine R_ifeq_f (p := 73) rfl hc rfl ?_
      refine R_sipush (p := 76) rfl ks_20007 rfl ?_
      refine R_goto rfl ?_
      refine R_istore_n (p := 111) rfl rfl rfl ?_
      refine R_goto rfl ?_
      obtain rfl := Option.some.inj h
      exact hq _ (jg_ne l0 rfl) jg_self
theorem LX9_product_51 {xs : List Int32} {d : Nat} {r : jR} {K : Mem → List jE} (hK : Ctx shR K) {d0 : Nat} (hd : d0 + 2 ≤ d) {e : Mem → Option Mem} (he : ∀ d9, d0 ≤ d9 → ∀  (m9 : Mem) (q9 : Mem), e m9 = some q9 → CallD (jcs xs) d9 201 [.ref 137] (K m9) (none, K q9))  (n : Nat) (s : Int32 × Mem) {t : Mem} (h : lp (lX9_product_51 e) n s = some t) (hq : (qM r K) t) : gX9_product_51 xs d r K s := lp_ind (G := gX9_product_51 xs d r K) (Qe := (qM r K)) (fun s t h hq => BX9_product_51 hK hd he s h hq) n s t h hq
theorem ufX9_product {xs : List Int32} {d : Nat} {r : jR} {K : Mem → List jE} (hK : Ctx shR K) {d0 : Nat} (hd : d0 + 2 ≤ d) {e : Mem → Option Mem} (he : ∀ d9, d0 ≤ d9 → ∀  (m9 : Mem) (q9 : Mem), e m9 = some q9 → CallD (jcs xs) d9 201 [.ref 137] (K m9) (none, K q9)) {m : Mem} {L : List (Nat × Value)} (l0 : jget L 0 = some (.ref 137)) {t : Mem} (h : fX9_product e m = some t) (hq : (qM r K) t) : RunD (jcs xs) d 2 (none) jt_X9_product (0, L, [], (K m)) r := by
  unfold fX9_product at h
  refine R_aload_n (p := 1) rfl l0 rfl ?_
  obtain ⟨q1, eq1, h⟩ := bind_some h
  refine R_cV1n (p := 4) hK rfl rfl (he _ (Nat.le_trans (Nat.le_add_right _ _) hd) _ _ eq1) rfl rfl ?_
  refine R_aload_n (p := 5) rfl l0 rfl ?_
  refine R_bipush (p := 7) rfl kb_42 rfl ?_
  obtain ⟨q2, eq2, h⟩ := bind_some h
  refine R_cV2v (p := 10) hK rfl rfl (tfX9_takes hK (Nat.le_trans (Nat.le_trans (by decide) (Nat.le_add_left _ _)) hd)  eq2) rfl rfl ?_
  by_cases hc : q2.1 = 0
  · replace h := ite_t h hc
    refine R_ifeq_t rfl hc ?_
    refine R_aload_n (p := 20) rfl l0 rfl ?_
    refine R_bipush (p := 22) rfl kb_47 rfl ?_
    obtain ⟨q3, eq3, h⟩ := bind_some h
    refine R_cV2v (p := 25) hK rfl rfl (tfX9_takes hK (Nat.le_trans (Nat.le_trans (by decide) (Nat.le_add_left _ _)) hd)  eq3) rfl rfl ?_
    by_cases hc : q3.1 = 0
    · replace h := ite_t h hc
      refine R_ifeq_t rfl hc ?_
      refine R_aload_n (p := 35) rfl l0 rfl ?_
      refine R_bipush (p := 37) rfl kb_37 rfl ?_
      obtain ⟨q4, eq4, h⟩ := bind_some h
      refine R_cV2v (p := 40) hK rfl rfl (tfX9_takes hK (Nat.le_trans (Nat.le_trans (by decide) (Nat.le_add_left _ _)) hd)  eq4) rfl rfl ?_
      by_cases hc : q4.1 = 0
      · replace h := ite_t h hc
        refine R_ifeq_t rfl hc ?_
        refine R_iconst (p := 50) rfl ki_0 rfl ?_
        refine R_istore_n (p := 51) rfl rfl rfl ?_
        exact LX9_product_51 hK hd he _ _ h hq _ (jg_ne l0 rfl) jg_self
      · replace h := ite_f h hc
        refine R_ifeq_f (p := 43) rfl hc rfl ?_
        refine R_sipush (p := 46) rfl ks_20009 rfl ?_
        refine R_goto rfl ?_
        refine R_istore_n (p := 51) rfl rfl rfl ?_
        exact LX9_product_51 hK hd he _ _ h hq _ (jg_ne l0 rfl) jg_self
    · replace h := ite_f h hc
      refine R_ifeq_f (p := 28) rfl hc rfl ?_
      refine R_sipush (p := 31) rfl ks_20008 rfl ?_
      refine R_goto rfl ?_
      refine R_istore_n (p := 51) rfl rfl rfl ?_
      exact LX9_product_51 hK hd he _ _ h hq _ (jg_ne l0 rfl) jg_self
  · replace h := ite_f h hc
    refine R_ifeq_f (p := 13) rfl hc rfl ?_
    refine R_sipush (p := 16) rfl ks_20007 rfl ?_
    refine R_goto rfl ?_
    refine R_istore_n (p := 51) rfl rfl rfl ?_
    exact LX9_product_51 hK hd he _ _ h hq _ (jg_ne l0 rfl) jg_self
theorem tfX9_product {xs : List Int32} {d : Nat} {K : Mem → List jE} (hK : Ctx shR K) {d0 : Nat} (hd : d0 + 3 ≤ d) {e : Mem → Option Mem} (he : ∀ d9, d0 ≤ d9 → ∀  (m9 : Mem) (q9 : Mem), e m9 = some q9 → CallD (jcs xs) d9 201 [.ref 137] (K m9) (none, K q9)) {m : Mem} {t : Mem} (h : fX9_product e m = some t) : CallD (jcs xs) d 199 [.ref 137] (K m) (none, K t) := by
  obtain ⟨d, rfl⟩ : ∃ z, d = z + 1 := ⟨d - 1, by omega⟩
  refine CallD_of jmt_X9_product rfl ⟨rfl, Nat.le_of_ble_eq_true rfl⟩ ?_
  exact ufX9_product hK (Nat.le_of_succ_le_succ hd) he rfl h rfl
noncomputable def lX9_sum_36 (e : Mem → Option Mem) (s : Int32 × Mem) : Option ((Int32 × Mem) ⊕ Mem) := (if s.1 ≤ 0 then some (.inr s.2) else (fX9_product e s.2).bind fun q4 => (fX9_codes s.1 q4).bind fun q5 => (fX9_takes (43 : Int32) q5).bind fun q6 => (if q6.1 = 0 then (fX9_takes (45 : Int32) q6.2).bind fun q7 => (if q7.1 = 0 then some (.inl ((0 : Int32), q7.2)) else some (.inl ((20006 : Int32), q7.2))) else some (.inl ((20005 : Int32), q6.2))))
noncomputable def gX9_sum_36 (xs : List Int32) (d : Nat) (r : jR) (K : Mem → List jE) (s : Int32 × Mem) : Prop := ∀ L, jget L 0 = some (.ref 137) → jget L 1 = some (.int s.1) → RunD (jcs xs) d 2 (none) jt_X9_sum (36, L, [], (K s.2)) r
noncomputable def fX9_sum (e : Mem → Option Mem) (m : Mem) : Option Mem := (fX9_product e m).bind fun q1 => (fX9_takes (43 : Int32) q1).bind fun q2 => (if q2.1 = 0 then (fX9_takes (45 : Int32) q2.2).bind fun q3 => (if q3.1 = 0 then lp (lX9_sum_36 e) fu ((0 : Int32), q3.2) else lp (lX9_sum_36 e) fu ((20006 : Int32), q3.2)) else lp (lX9_sum_36 e) fu ((20005 : Int32), q2.2))
theorem BX9_sum_36 {xs : List Int32} {d : Nat} {r : jR} {K : Mem → List jE} (hK : Ctx shR K) {d0 : Nat} (hd : d0 + 3 ≤ d) {e : Mem → Option Mem} (he : ∀ d9, d0 ≤ d9 → ∀  (m9 : Mem) (q9 : Mem), e m9 = some q9 → CallD (jcs xs) d9 201 [.ref 137] (K m9) (none, K q9))  (s : Int32 × Mem) {t : (Int32 × Mem) ⊕ Mem} (h : lX9_sum_36 e s = some t) (hq : sQ (gX9_sum_36 xs d r K) (qM r K) t) : gX9_sum_36 xs d r K s := by
  intro L l0 l1
  unfold lX9_sum_36 at h
  refine R_iload_n (p := 37) rfl l1 rfl ?_
  by_cases hc : s.1 ≤ 0
  · replace h := ite_t h hc
    refine R_ifle_t rfl hc ?_
    obtain rfl := Option.some.inj h
    exact R_return rfl rfl hq
  · replace h := ite_f h hc
    refine R_ifle_f (p := 40) rfl hc rfl ?_
    refine R_aload_n (p := 41) rfl l0 rfl ?_
    obtain ⟨q4, eq4, h⟩ := bind_some h
    refine R_cV1n (p := 44) hK rfl rfl (tfX9_product hK (Nat.le_trans (Nat.add_le_add_left (by decide) _) hd) he  eq4) rfl rfl ?_
    refine R_aload_n (p := 45) rfl l0 rfl ?_
    refine R_iload_n (p := 46) rfl l1 rfl ?_
    obtain ⟨q5, eq5, h⟩ := bind_some h
    refine R_cV2n (p := 49) hK rfl rfl (tfX9_codes hK (Nat.le_trans (Nat.le_trans (by decide) (Nat.le_add_left _ _)) hd)  eq5) rfl rfl ?_
    refine R_aload_n (p := 50) rfl l0 rfl ?_
    refine R_bipush (p := 52) rfl kb_43 rfl ?_
    obtain ⟨q6, eq6, h⟩ := bind_some h
    refine R_cV2v (p := 55) hK rfl rfl (tfX9_takes hK (Nat.le_trans (Nat.le_trans (by decide) (Nat.le_add_left _ _)) hd)  eq6) rfl rfl ?_
    by_cases hc : q6.1 = 0
    · replace h := ite_t h hc
      refine R_ifeq_t rfl hc ?_
      refine R_aload_n (p := 65) rfl l0 rfl ?_
      refine R_bipush (p := 67) rfl kb_45 rfl ?_
      obtain ⟨q7, eq7, h⟩ := bind_some h
      refine R_cV2v (p := 70) hK rfl rfl (tfX9_takes hK (Nat.le_trans (Nat.le_trans (by decide) (Nat.le_add_left _ _)) hd)  eq7) rfl rfl ?_
      by_cases hc : q7.1 = 0
      · replace h := ite_t h hc
        refine R_ifeq_t rfl hc ?_
        refine R_iconst (p := 80) rfl ki_0 rfl ?_
        refine R_istore_n (p := 81) rfl rfl rfl ?_
        refine R_goto rfl ?_
        obtain rfl := Option.some.inj h
        exact hq _ (jg_ne l0 rfl) jg_self
      · replace h := ite_f h hc
        refine R_ifeq_f (p := 73) rfl hc rfl ?_
        refine R_sipush (p := 76) rfl ks_20006 rfl ?_
        refine R_goto rfl ?_
        refine R_istore_n (p := 81) rfl rfl rfl ?_
        refine R_goto rfl ?_
        obtain rfl := Option.some.inj h
        exact hq _ (jg_ne l0 rfl) jg_self
    · replace h := ite_f h hc
      refine R_ifeq_f (p := 58) rfl hc rfl ?_
      refine R_sipush (p := 61) rfl ks_20005 rfl ?_
      refine R_goto rfl ?_
      refine R_istore_n (p := 81) rfl rfl rfl ?_
      refine R_goto rfl ?_
      obtain rfl := Option.some.inj h
      exact hq _ (jg_ne l0 rfl) jg_self
theorem LX9_sum_36 {xs : List Int32} {d : Nat} {r : jR} {K : Mem → List jE} (hK : Ctx shR K) {d0 : Nat} (hd : d0 + 3 ≤ d) {e : Mem → Option Mem} (he : ∀ d9, d0 ≤ d9 → ∀  (m9 : Mem) (q9 : Mem), e m9 = some q9 → CallD (jcs xs) d9 201 [.ref 137] (K m9) (none, K q9))  (n : Nat) (s : Int32 × Mem) {t : Mem} (h : lp (lX9_sum_36 e) n s = some t) (hq : (qM r K) t) : gX9_sum_36 xs d r K s := lp_ind (G := gX9_sum_36 xs d r K) (Qe := (qM r K)) (fun s t h hq => BX9_sum_36 hK hd he s h hq) n s t h hq
theorem ufX9_sum {xs : List Int32} {d : Nat} {r : jR} {K : Mem → List jE} (hK : Ctx shR K) {d0 : Nat} (hd : d0 + 3 ≤ d) {e : Mem → Option Mem} (he : ∀ d9, d0 ≤ d9 → ∀  (m9 : Mem) (q9 : Mem), e m9 = some q9 → CallD (jcs xs) d9 201 [.ref 137] (K m9) (none, K q9)) {m : Mem} {L : List (Nat × Value)} (l0 : jget L 0 = some (.ref 137)) {t : Mem} (h : fX9_sum e m = some t) (hq : (qM r K) t) : RunD (jcs xs) d 2 (none) jt_X9_sum (0, L, [], (K m)) r := by
  unfold fX9_sum at h
  refine R_aload_n (p := 1) rfl l0 rfl ?_
  obtain ⟨q1, eq1, h⟩ := bind_some h
  refine R_cV1n (p := 4) hK rfl rfl (tfX9_product hK (Nat.le_trans (Nat.add_le_add_left (by decide) _) hd) he  eq1) rfl rfl ?_
  refine R_aload_n (p := 5) rfl l0 rfl ?_
  refine R_bipush (p := 7) rfl kb_43 rfl ?_
  obtain ⟨q2, eq2, h⟩ := bind_some h
  refine R_cV2v (p := 10) hK rfl rfl (tfX9_takes hK (Nat.le_trans (Nat.le_trans (by decide) (Nat.le_add_left _ _)) hd)  eq2) rfl rfl ?_
  by_cases hc : q2.1 = 0
  · replace h := ite_t h hc
    refine R_ifeq_t rfl hc ?_
    refine R_aload_n (p := 20) rfl l0 rfl ?_
    refine R_bipush (p := 22) rfl kb_45 rfl ?_
    obtain ⟨q3, eq3, h⟩ := bind_some h
    refine R_cV2v (p := 25) hK rfl rfl (tfX9_takes hK (Nat.le_trans (Nat.le_trans (by decide) (Nat.le_add_left _ _)) hd)  eq3) rfl rfl ?_
    by_cases hc : q3.1 = 0
    · replace h := ite_t h hc
      refine R_ifeq_t rfl hc ?_
      refine R_iconst (p := 35) rfl ki_0 rfl ?_
      refine R_istore_n (p := 36) rfl rfl rfl ?_
      exact LX9_sum_36 hK hd he _ _ h hq _ (jg_ne l0 rfl) jg_self
    · replace h := ite_f h hc
      refine R_ifeq_f (p := 28) rfl hc rfl ?_
      refine R_sipush (p := 31) rfl ks_20006 rfl ?_
      refine R_goto rfl ?_
      refine R_istore_n (p := 36) rfl rfl rfl ?_
      exact LX9_sum_36 hK hd he _ _ h hq _ (jg_ne l0 rfl) jg_self
  · replace h := ite_f h hc
    refine R_ifeq_f (p := 13) rfl hc rfl ?_
    refine R_sipush (p := 16) rfl ks_20005 rfl ?_
    refine R_goto rfl ?_
    refine R_istore_n (p := 36) rfl rfl rfl ?_
    exact LX9_sum_36 hK hd he _ _ h hq _ (jg_ne l0 rfl) jg_self
theorem tfX9_sum {xs : List Int32} {d : Nat} {K : Mem → List jE} (hK : Ctx shR K) {d0 : Nat} (hd : d0 + 4 ≤ d) {e : Mem → Option Mem} (he : ∀ d9, d0 ≤ d9 → ∀  (m9 : Mem) (q9 : Mem), e m9 = some q9 → CallD (jcs xs) d9 201 [.ref 137] (K m9) (none, K q9)) {m : Mem} {t : Mem} (h : fX9_sum e m = some t) : CallD (jcs xs) d 198 [.ref 137] (K m) (none, K t) := by
  obtain ⟨d, rfl⟩ : ∃ z, d = z + 1 := ⟨d - 1, by omega⟩
  refine CallD_of jmt_X9_sum rfl ⟨rfl, Nat.le_of_ble_eq_true rfl⟩ ?_
  exact ufX9_sum hK (Nat.le_of_succ_le_succ hd) he rfl h rfl
noncomputable def bX9_compared_50 (e : Mem → Option Mem) (y0 : Int32) (m : Mem) : Option Mem := (if y0 ≤ 0 then some m else (fX9_sum e m).bind fun q5 => (fX9_codes y0 q5).bind fun q6 => some q6)
noncomputable def fX9_compared (e : Mem → Option Mem) (m : Mem) : Option Mem := (fX9_sum e m).bind fun q1 => (fX9_takes (60 : Int32) q1).bind fun q2 => (if q2.1 = 0 then (fX9_takes (61 : Int32) q2.2).bind fun q3 => (if q3.1 = 0 then (fX9_takes (62 : Int32) q3.2).bind fun q4 => (if q4.1 = 0 then bX9_compared_50 e (0 : Int32) q4.2 else bX9_compared_50 e (20004 : Int32) q4.2) else bX9_compared_50 e (20003 : Int32) q3.2) else bX9_compared_50 e (20002 : Int32) q2.2)
theorem tbX9_compared_50 {xs : List Int32} {d : Nat} {r : jR} {K : Mem → List jE} (hK : Ctx shR K) {d0 : Nat} (hd : d0 + 4 ≤ d) {e : Mem → Option Mem} (he : ∀ d9, d0 ≤ d9 → ∀  (m9 : Mem) (q9 : Mem), e m9 = some q9 → CallD (jcs xs) d9 201 [.ref 137] (K m9) (none, K q9))  {y0 : Int32} {m : Mem} {L : List (Nat × Value)} (l0 : jget L 0 = some (.ref 137)) {t : Mem} (h : bX9_compared_50 e y0 m = some t) (hq : (qM r K) t) : RunD (jcs xs) d 2 (none) jt_X9_compared (50, L, [.int y0], (K m)) r := by
  unfold bX9_compared_50 at h
  refine R_istore_n (p := 51) rfl rfl rfl ?_
  refine R_iload_n (p := 52) rfl jg_self rfl ?_
  by_cases hc : y0 ≤ 0
  · replace h := ite_t h hc
    refine R_ifle_t rfl hc ?_
    obtain rfl := Option.some.inj h
    exact R_return rfl rfl hq
  · replace h := ite_f h hc
    refine R_ifle_f (p := 55) rfl hc rfl ?_
    refine R_aload_n (p := 56) rfl (jg_ne l0 rfl) rfl ?_
    obtain ⟨q5, eq5, h⟩ := bind_some h
    refine R_cV1n (p := 59) hK rfl rfl (tfX9_sum hK (Nat.le_trans (Nat.add_le_add_left (by decide) _) hd) he  eq5) rfl rfl ?_
    refine R_aload_n (p := 60) rfl (jg_ne l0 rfl) rfl ?_
    refine R_iload_n (p := 61) rfl jg_self rfl ?_
    obtain ⟨q6, eq6, h⟩ := bind_some h
    refine R_cV2n (p := 64) hK rfl rfl (tfX9_codes hK (Nat.le_trans (Nat.le_trans (by decide) (Nat.le_add_left _ _)) hd)  eq6) rfl rfl ?_
    obtain rfl := Option.some.inj h
    exact R_return rfl rfl hq
theorem ufX9_compared {xs : List Int32} {d : Nat} {r : jR} {K : Mem → List jE} (hK : Ctx shR K) {d0 : Nat} (hd : d0 + 4 ≤ d) {e : Mem → Option Mem} (he : ∀ d9, d0 ≤ d9 → ∀  (m9 : Mem) (q9 : Mem), e m9 = some q9 → CallD (jcs xs) d9 201 [.ref 137] (K m9) (none, K q9)) {m : Mem} {L : List (Nat × Value)} (l0 : jget L 0 = some (.ref 137)) {t : Mem} (h : fX9_compared e m = some t) (hq : (qM r K) t) : RunD (jcs xs) d 2 (none) jt_X9_compared (0, L, [], (K m)) r := by
  unfold fX9_compared at h
  refine R_aload_n (p := 1) rfl l0 rfl ?_
  obtain ⟨q1, eq1, h⟩ := bind_some h
  refine R_cV1n (p := 4) hK rfl rfl (tfX9_sum hK (Nat.le_trans (Nat.add_le_add_left (by decide) _) hd) he  eq1) rfl rfl ?_
  refine R_aload_n (p := 5) rfl l0 rfl ?_
  refine R_bipush (p := 7) rfl kb_60 rfl ?_
  obtain ⟨q2, eq2, h⟩ := bind_some h
  refine R_cV2v (p := 10) hK rfl rfl (tfX9_takes hK (Nat.le_trans (Nat.le_trans (by decide) (Nat.le_add_left _ _)) hd)  eq2) rfl rfl ?_
  by_cases hc : q2.1 = 0
  · replace h := ite_t h hc
    refine R_ifeq_t rfl hc ?_
    refine R_aload_n (p := 20) rfl l0 rfl ?_
    refine R_bipush (p := 22) rfl kb_61 rfl ?_
    obtain ⟨q3, eq3, h⟩ := bind_some h
    refine R_cV2v (p := 25) hK rfl rfl (tfX9_takes hK (Nat.le_trans (Nat.le_trans (by decide) (Nat.le_add_left _ _)) hd)  eq3) rfl rfl ?_
    by_cases hc : q3.1 = 0
    · replace h := ite_t h hc
      refine R_ifeq_t rfl hc ?_
      refine R_aload_n (p := 35) rfl l0 rfl ?_
      refine R_bipush (p := 37) rfl kb_62 rfl ?_
      obtain ⟨q4, eq4, h⟩ := bind_some h
      refine R_cV2v (p := 40) hK rfl rfl (tfX9_takes hK (Nat.le_trans (Nat.le_trans (by decide) (Nat.le_add_left _ _)) hd)  eq4) rfl rfl ?_
      by_cases hc : q4.1 = 0
      · replace h := ite_t h hc
        refine R_ifeq_t rfl hc ?_
        refine R_iconst (p := 50) rfl ki_0 rfl ?_
        exact tbX9_compared_50 hK hd he l0 h hq
      · replace h := ite_f h hc
        refine R_ifeq_f (p := 43) rfl hc rfl ?_
        refine R_sipush (p := 46) rfl ks_20004 rfl ?_
        refine R_goto rfl ?_
        exact tbX9_compared_50 hK hd he l0 h hq
    · replace h := ite_f h hc
      refine R_ifeq_f (p := 28) rfl hc rfl ?_
      refine R_sipush (p := 31) rfl ks_20003 rfl ?_
      refine R_goto rfl ?_
      exact tbX9_compared_50 hK hd he l0 h hq
  · replace h := ite_f h hc
    refine R_ifeq_f (p := 13) rfl hc rfl ?_
    refine R_sipush (p := 16) rfl ks_20002 rfl ?_
    refine R_goto rfl ?_
    exact tbX9_compared_50 hK hd he l0 h hq
theorem tfX9_compared {xs : List Int32} {d : Nat} {K : Mem → List jE} (hK : Ctx shR K) {d0 : Nat} (hd : d0 + 5 ≤ d) {e : Mem → Option Mem} (he : ∀ d9, d0 ≤ d9 → ∀  (m9 : Mem) (q9 : Mem), e m9 = some q9 → CallD (jcs xs) d9 201 [.ref 137] (K m9) (none, K q9)) {m : Mem} {t : Mem} (h : fX9_compared e m = some t) : CallD (jcs xs) d 197 [.ref 137] (K m) (none, K t) := by
  obtain ⟨d, rfl⟩ : ∃ z, d = z + 1 := ⟨d - 1, by omega⟩
  refine CallD_of jmt_X9_compared rfl ⟨rfl, Nat.le_of_ble_eq_true rfl⟩ ?_
  exact ufX9_compared hK (Nat.le_of_succ_le_succ hd) he rfl h rfl
noncomputable def lX9_both_4 (e : Mem → Option Mem) (s : Mem) : Option ((Mem) ⊕ Mem) := (fX9_takes (38 : Int32) s).bind fun q2 => (if q2.1 = 0 then some (.inr q2.2) else (fX9_compared e q2.2).bind fun q3 => (fX9_codes (20001 : Int32) q3).bind fun q4 => some (.inl q4))
noncomputable def gX9_both_4 (xs : List Int32) (d : Nat) (r : jR) (K : Mem → List jE) (s : Mem) : Prop := ∀ L, jget L 0 = some (.ref 137) → RunD (jcs xs) d 1 (none) jt_X9_both (4, L, [], (K s)) r
noncomputable def fX9_both (e : Mem → Option Mem) (m : Mem) : Option Mem := (fX9_compared e m).bind fun q1 => lp (lX9_both_4 e) fu q1
theorem BX9_both_4 {xs : List Int32} {d : Nat} {r : jR} {K : Mem → List jE} (hK : Ctx shR K) {d0 : Nat} (hd : d0 + 5 ≤ d) {e : Mem → Option Mem} (he : ∀ d9, d0 ≤ d9 → ∀  (m9 : Mem) (q9 : Mem), e m9 = some q9 → CallD (jcs xs) d9 201 [.ref 137] (K m9) (none, K q9))  (s : Mem) {t : (Mem) ⊕ Mem} (h : lX9_both_4 e s = some t) (hq : sQ (gX9_both_4 xs d r K) (qM r K) t) : gX9_both_4 xs d r K s := by
  intro L l0
  unfold lX9_both_4 at h
  refine R_aload_n (p := 5) rfl l0 rfl ?_
  refine R_bipush (p := 7) rfl kb_38 rfl ?_
  obtain ⟨q2, eq2, h⟩ := bind_some h
  refine R_cV2v (p := 10) hK rfl rfl (tfX9_takes hK (Nat.le_trans (Nat.le_trans (by decide) (Nat.le_add_left _ _)) hd)  eq2) rfl rfl ?_
  by_cases hc : q2.1 = 0
  · replace h := ite_t h hc
    refine R_ifeq_t rfl hc ?_
    obtain rfl := Option.some.inj h
    exact R_return rfl rfl hq
  · replace h := ite_f h hc
    refine R_ifeq_f (p := 13) rfl hc rfl ?_
    refine R_aload_n (p := 14) rfl l0 rfl ?_
    obtain ⟨q3, eq3, h⟩ := bind_some h
    refine R_cV1n (p := 17) hK rfl rfl (tfX9_compared hK (Nat.le_trans (Nat.add_le_add_left (by decide) _) hd) he  eq3) rfl rfl ?_
    refine R_aload_n (p := 18) rfl l0 rfl ?_
    refine R_sipush (p := 21) rfl ks_20001 rfl ?_
    obtain ⟨q4, eq4, h⟩ := bind_some h
    refine R_cV2n (p := 24) hK rfl rfl (tfX9_codes hK (Nat.le_trans (Nat.le_trans (by decide) (Nat.le_add_left _ _)) hd)  eq4) rfl rfl ?_
    refine R_goto rfl ?_
    obtain rfl := Option.some.inj h
    exact hq _ l0
theorem LX9_both_4 {xs : List Int32} {d : Nat} {r : jR} {K : Mem → List jE} (hK : Ctx shR K) {d0 : Nat} (hd : d0 + 5 ≤ d) {e : Mem → Option Mem} (he : ∀ d9, d0 ≤ d9 → ∀  (m9 : Mem) (q9 : Mem), e m9 = some q9 → CallD (jcs xs) d9 201 [.ref 137] (K m9) (none, K q9))  (n : Nat) (s : Mem) {t : Mem} (h : lp (lX9_both_4 e) n s = some t) (hq : (qM r K) t) : gX9_both_4 xs d r K s := lp_ind (G := gX9_both_4 xs d r K) (Qe := (qM r K)) (fun s t h hq => BX9_both_4 hK hd he s h hq) n s t h hq
theorem ufX9_both {xs : List Int32} {d : Nat} {r : jR} {K : Mem → List jE} (hK : Ctx shR K) {d0 : Nat} (hd : d0 + 5 ≤ d) {e : Mem → Option Mem} (he : ∀ d9, d0 ≤ d9 → ∀  (m9 : Mem) (q9 : Mem), e m9 = some q9 → CallD (jcs xs) d9 201 [.ref 137] (K m9) (none, K q9)) {m : Mem} {L : List (Nat × Value)} (l0 : jget L 0 = some (.ref 137)) {t : Mem} (h : fX9_both e m = some t) (hq : (qM r K) t) : RunD (jcs xs) d 1 (none) jt_X9_both (0, L, [], (K m)) r := by
  unfold fX9_both at h
  refine R_aload_n (p := 1) rfl l0 rfl ?_
  obtain ⟨q1, eq1, h⟩ := bind_some h
  refine R_cV1n (p := 4) hK rfl rfl (tfX9_compared hK (Nat.le_trans (Nat.add_le_add_left (by decide) _) hd) he  eq1) rfl rfl ?_
  exact LX9_both_4 hK hd he _ _ h hq _ l0
theorem tfX9_both {xs : List Int32} {d : Nat} {K : Mem → List jE} (hK : Ctx shR K) {d0 : Nat} (hd : d0 + 6 ≤ d) {e : Mem → Option Mem} (he : ∀ d9, d0 ≤ d9 → ∀  (m9 : Mem) (q9 : Mem), e m9 = some q9 → CallD (jcs xs) d9 201 [.ref 137] (K m9) (none, K q9)) {m : Mem} {t : Mem} (h : fX9_both e m = some t) : CallD (jcs xs) d 196 [.ref 137] (K m) (none, K t) := by
  obtain ⟨d, rfl⟩ : ∃ z, d = z + 1 := ⟨d - 1, by omega⟩
  refine CallD_of jmt_X9_both rfl ⟨rfl, Nat.le_of_ble_eq_true rfl⟩ ?_
  exact ufX9_both hK (Nat.le_of_succ_le_succ hd) he rfl h rfl
noncomputable def lX9_either_4 (e : Mem → Option Mem) (s : Mem) : Option ((Mem) ⊕ Mem) := (fX9_takes (124 : Int32) s).bind fun q2 => (if q2.1 = 0 then some (.inr q2.2) else (fX9_both e q2.2).bind fun q3 => (fX9_codes (20000 : Int32) q3).bind fun q4 => some (.inl q4))
noncomputable def gX9_either_4 (xs : List Int32) (d : Nat) (r : jR) (K : Mem → List jE) (s : Mem) : Prop := ∀ L, jget L 0 = some (.ref 137) → RunD (jcs xs) d 1 (none) jt_X9_either (4, L, [], (K s)) r
noncomputable def fX9_either (e : Mem → Option Mem) (m : Mem) : Option Mem := (fX9_both e m).bind fun q1 => lp (lX9_either_4 e) fu q1
theorem BX9_either_4 {xs : List Int32} {d : Nat} {r : jR} {K : Mem → List jE} (hK : Ctx shR K) {d0 : Nat} (hd : d0 + 6 ≤ d) {e : Mem → Option Mem} (he : ∀ d9, d0 ≤ d9 → ∀  (m9 : Mem) (q9 : Mem), e m9 = some q9 → CallD (jcs xs) d9 201 [.ref 137] (K m9) (none, K q9))  (s : Mem) {t : (Mem) ⊕ Mem} (h : lX9_either_4 e s = some t) (hq : sQ (gX9_either_4 xs d r K) (qM r K) t) : gX9_either_4 xs d r K s := by
  intro L l0
  unfold lX9_either_4 at h
  refine R_aload_n (p := 5) rfl l0 rfl ?_
  refine R_bipush (p := 7) rfl kb_124 rfl ?_
  obtain ⟨q2, eq2, h⟩ := bind_some h
  refine R_cV2v (p := 10) hK rfl rfl (tfX9_takes hK (Nat.le_trans (Nat.le_trans (by decide) (Nat.le_add_left _ _)) hd)  eq2) rfl rfl ?_
  by_cases hc : q2.1 = 0
  · replace h := ite_t h hc
    refine R_ifeq_t rfl hc ?_
    obtain rfl := Option.some.inj h
    exact R_return rfl rfl hq
  · replace h := ite_f h hc
    refine R_ifeq_f (p := 13) rfl hc rfl ?_
    refine R_aload_n (p := 14) rfl l0 rfl ?_
    obtain ⟨q3, eq3, h⟩ := bind_some h
    refine R_cV1n (p := 17) hK rfl rfl (tfX9_both hK (Nat.le_trans (Nat.add_le_add_left (by decide) _) hd) he  eq3) rfl rfl ?_
    refine R_aload_n (p := 18) rfl l0 rfl ?_
    refine R_sipush (p := 21) rfl ks_20000 rfl ?_
    obtain ⟨q4, eq4, h⟩ := bind_some h
    refine R_cV2n (p := 24) hK rfl rfl (tfX9_codes hK (Nat.le_trans (Nat.le_trans (by decide) (Nat.le_add_left _ _)) hd)  eq4) rfl rfl ?_
    refine R_goto rfl ?_
    obtain rfl := Option.some.inj h
    exact hq _ l0
theorem LX9_either_4 {xs : List Int32} {d : Nat} {r : jR} {K : Mem → List jE} (hK : Ctx shR K) {d0 : Nat} (hd : d0 + 6 ≤ d) {e : Mem → Option Mem} (he : ∀ d9, d0 ≤ d9 → ∀  (m9 : Mem) (q9 : Mem), e m9 = some q9 → CallD (jcs xs) d9 201 [.ref 137] (K m9) (none, K q9))  (n : Nat) (s : Mem) {t : Mem} (h : lp (lX9_either_4 e) n s = some t) (hq : (qM r K) t) : gX9_either_4 xs d r K s := lp_ind (G := gX9_either_4 xs d r K) (Qe := (qM r K)) (fun s t h hq => BX9_either_4 hK hd he s h hq) n s t h hq
theorem ufX9_either {xs : List Int32} {d : Nat} {r : jR} {K : Mem → List jE} (hK : Ctx shR K) {d0 : Nat} (hd : d0 + 6 ≤ d) {e : Mem → Option Mem} (he : ∀ d9, d0 ≤ d9 → ∀  (m9 : Mem) (q9 : Mem), e m9 = some q9 → CallD (jcs xs) d9 201 [.ref 137] (K m9) (none, K q9)) {m : Mem} {L : List (Nat × Value)} (l0 : jget L 0 = some (.ref 137)) {t : Mem} (h : fX9_either e m = some t) (hq : (qM r K) t) : RunD (jcs xs) d 1 (none) jt_X9_either (0, L, [], (K m)) r := by
  unfold fX9_either at h
  refine R_aload_n (p := 1) rfl l0 rfl ?_
  obtain ⟨q1, eq1, h⟩ := bind_some h
  refine R_cV1n (p := 4) hK rfl rfl (tfX9_both hK (Nat.le_trans (Nat.add_le_add_left (by decide) _) hd) he  eq1) rfl rfl ?_
  exact LX9_either_4 hK hd he _ _ h hq _ l0
theorem tfX9_either {xs : List Int32} {d : Nat} {K : Mem → List jE} (hK : Ctx shR K) {d0 : Nat} (hd : d0 + 7 ≤ d) {e : Mem → Option Mem} (he : ∀ d9, d0 ≤ d9 → ∀  (m9 : Mem) (q9 : Mem), e m9 = some q9 → CallD (jcs xs) d9 201 [.ref 137] (K m9) (none, K q9)) {m : Mem} {t : Mem} (h : fX9_either e m = some t) : CallD (jcs xs) d 195 [.ref 137] (K m) (none, K t) := by
  obtain ⟨d, rfl⟩ : ∃ z, d = z + 1 := ⟨d - 1, by omega⟩
  refine CallD_of jmt_X9_either rfl ⟨rfl, Nat.le_of_ble_eq_true rfl⟩ ?_
  exact ufX9_either hK (Nat.le_of_succ_le_succ hd) he rfl h rfl
noncomputable def fJ1_charAt_3b067 (z0 : Nat) (x1 : Int32) : Option Int32 := (if 0 ≤ x1 ∧ x1 < (sLen z0) then (jat (jstx z0) x1).bind fun q2 => (if jchar (jI2c (q2 &&& (255 : Int32))) = true then some (jI2c (q2 &&& (255 : Int32))) else none) else none)
theorem ufJ1_charAt_3b067 {xs : List Int32} {d : Nat} {r : jR} {hh : List jE} (hd : 2 ≤ d) {z0 : Nat} (hz0 : strq z0) {x1 : Int32} {L : List (Nat × Value)} (l0 : jget L 0 = some (.ref (jK0 + z0 + 20))) (l1 : jget L 1 = some (.int x1)) {t : Int32} (h : fJ1_charAt_3b067 z0 x1 = some t) (hq : (qI r hh) t) : RunD (jcs xs) d 2 (some .char) jt_J1_charAt_3b067 (0, L, [], hh) r := by
  unfold fJ1_charAt_3b067 at h
  refine R_iload_n (p := 1) rfl l1 rfl ?_
  refine R_aload_n (p := 2) rfl l0 rfl ?_
  refine R_blen (p := 3) rfl hz0 rfl ?_
  obtain ⟨b1, h⟩ := gd h
  refine R_cS2n (p := 6) rfl (C_chk (Nat.le_trans (by decide) hd) b1) rfl rfl ?_
  refine R_aload_n (p := 7) rfl l0 rfl ?_
  refine R_iload_n (p := 8) rfl l1 rfl ?_
  obtain ⟨q2, eq2, h⟩ := bind_some h
  refine R_bald (p := 9) rfl hz0 eq2 rfl ?_
  refine R_sipush (p := 12) rfl ks_255 rfl ?_
  refine R_iand (p := 13) rfl rfl ?_
  refine R_i2c (p := 14) rfl rfl ?_
  obtain ⟨b3, h⟩ := gd h
  obtain rfl := Option.some.inj h
  exact R_creturn rfl rfl b3 hq
theorem tfJ1_charAt_3b067 {xs : List Int32} {d : Nat} {hh : List jE} (hd : 3 ≤ d) {z0 : Nat} (hz0 : strq z0) {x1 : Int32} {t : Int32} (h : fJ1_charAt_3b067 z0 x1 = some t) : CallD (jcs xs) d 271 [.ref (jK0 + z0 + 20), .int x1] hh (some (.int t), hh) := by
  obtain ⟨d, rfl⟩ : ∃ z, d = z + 1 := ⟨d - 1, by omega⟩
  refine CallD_of jmt_J1_charAt_3b067 rfl ⟨rfl, Nat.le_of_ble_eq_true rfl⟩ ?_
  exact ufJ1_charAt_3b067 (Nat.le_of_succ_le_succ hd) hz0 rfl rfl h rfl
noncomputable def fJ0_charAt_5068e (z0 : Nat) (x1 : Int32) : Option Int32 := (if (fJ0_isLatin1_aae02 z0) = 0 then none else (fJ1_charAt_3b067 z0 x1).bind fun q2 => (if jchar q2 = true then some q2 else none))
theorem ufJ0_charAt_5068e {xs : List Int32} {d : Nat} {r : jR} {hh : List jE} (hd : 3 ≤ d) {z0 : Nat} (hz0 : strq z0) {x1 : Int32} {L : List (Nat × Value)} (l0 : jget L 0 = some (.ref (jK0 + z0))) (l1 : jget L 1 = some (.int x1)) {t : Int32} (h : fJ0_charAt_5068e z0 x1 = some t) (hq : (qI r hh) t) : RunD (jcs xs) d 2 (some .char) jt_J0_charAt_5068e (0, L, [], hh) r := by
  unfold fJ0_charAt_5068e at h
  refine R_aload_n (p := 1) rfl l0 rfl ?_
  refine R_cK1v (p := 4) rfl (strq_q hz0) (tfJ0_isLatin1_aae02 (Nat.le_trans (by decide) hd) hz0) rfl rfl ?_
  by_cases hc : (fJ0_isLatin1_aae02 z0) = 0
  · replace h := ite_t h hc
    refine R_ifeq_t rfl hc ?_
    refine R_aload_n (p := 17) rfl l0 rfl ?_
    refine R_getv (p := 20) rfl hz0 rfl ?_
    refine R_iload_n (p := 21) rfl l1 rfl ?_
    cases h
  · replace h := ite_f h hc
    refine R_ifeq_f (p := 7) rfl hc rfl ?_
    refine R_aload_n (p := 8) rfl l0 rfl ?_
    refine R_getv (p := 11) rfl hz0 rfl ?_
    refine R_iload_n (p := 12) rfl l1 rfl ?_
    obtain ⟨q2, eq2, h⟩ := bind_some h
    refine R_cS2v (p := 15) rfl (tfJ1_charAt_3b067 (Nat.le_trans (by decide) hd) hz0 eq2) rfl rfl ?_
    obtain ⟨b3, h⟩ := gd h
    obtain rfl := Option.some.inj h
    exact R_creturn rfl rfl b3 hq
theorem tfJ0_charAt_5068e {xs : List Int32} {d : Nat} {hh : List jE} (hd : 4 ≤ d) {z0 : Nat} (hz0 : strq z0) {x1 : Int32} {t : Int32} (h : fJ0_charAt_5068e z0 x1 = some t) : CallD (jcs xs) d 266 [.ref (jK0 + z0), .int x1] hh (some (.int t), hh) := by
  obtain ⟨d, rfl⟩ : ∃ z, d = z + 1 := ⟨d - 1, by omega⟩
  refine CallD_of jmt_J0_charAt_5068e rfl ⟨rfl, Nat.le_of_ble_eq_true rfl⟩ ?_
  exact ufJ0_charAt_5068e (Nat.le_of_succ_le_succ hd) hz0 rfl rfl h rfl
noncomputable def lX9_nameOf_4 (x1 : Int32) (m : Mem) (s : Int32 × Int32) : Option ((Int32 × Int32) ⊕ Int32) := (if inb (m 137 9) 3 then (if strq ((14 + (m 137 9).toNatClampNeg)) then (if (fJ0_length_8abf5 ((14 + (m 137 9).toNatClampNeg))) ≤ s.2 then some (.inr s.1) else (if inb (m 137 9) 3 then (if strq ((14 + (m 137 9).toNatClampNeg)) then (fJ0_charAt_5068e ((14 + (m 137 9).toNatClampNeg)) s.2).bind fun q6 => (if q6 = x1 then some (.inl (s.2, (s.2 + (1 : Int32)))) else some (.inl (s.1, (s.2 + (1 : Int32))))) else none) else none)) else none) else none)
noncomputable def gX9_nameOf_4 (xs : List Int32) (d : Nat) (r : jR) (K : Mem → List jE) (x1 : Int32) (m : Mem) (s : Int32 × Int32) : Prop := ∀ L, jget L 0 = some (.ref 137) → jget L 1 = some (.int x1) → jget L 2 = some (.int s.1) → jget L 3 = some (.int s.2) → RunD (jcs xs) d 4 (some .int) jt_X9_nameOf (4, L, [], (K m)) r
noncomputable def fX9_nameOf (x1 : Int32) (m : Mem) : Option Int32 := lp (lX9_nameOf_4 x1 m) fu ((-1 : Int32), (0 : Int32))
theorem BX9_nameOf_4 {xs : List Int32} {d : Nat} {r : jR} {K : Mem → List jE} (hK : Ctx shR K) (hd : 4 ≤ d)  {x1 : Int32} {m : Mem} (s : Int32 × Int32) {t : (Int32 × Int32) ⊕ Int32} (h : lX9_nameOf_4 x1 m s = some t) (hq : sQ (gX9_nameOf_4 xs d r K x1 m) (qI r (K m)) t) : gX9_nameOf_4 xs d r K x1 m s := by
  intro L l0 l1 l2 l3
  unfold lX9_nameOf_4 at h
  refine R_iload_n (p := 5) rfl l3 rfl ?_
  refine R_aload_n (p := 6) rfl l0 rfl ?_
  refine R_getR (p := 9) (q := 143) hK rfl rfl rfl rfl ?_
  refine R_aload_n (p := 10) rfl l0 rfl ?_
  refine R_getI (p := 13) hK rfl rfl rfl rfl ?_
  obtain ⟨b1, h⟩ := gd h
  refine R_aald (p := 14) (q := (jK0 + (14 + (m 137 9).toNatClampNeg))) hK rfl rfl (by decide) b1.1 (l_str b1.2) rfl ?_
  obtain ⟨b2, h⟩ := gd h
  refine R_cK1v (p := 17) rfl (strq_q b2) (tfJ0_length_8abf5 (Nat.le_trans (by decide) hd) b2) rfl rfl ?_
  by_cases hc : (fJ0_length_8abf5 ((14 + (m 137 9).toNatClampNeg))) ≤ s.2
  · replace h := ite_t h hc
    refine R_icge_t rfl hc ?_
    refine R_iload_n (p := 50) rfl l2 rfl ?_
    obtain rfl := Option.some.inj h
    exact R_ireturn rfl rfl hq
  · replace h := ite_f h hc
    refine R_icge_f (p := 20) rfl hc rfl ?_
    refine R_aload_n (p := 21) rfl l0 rfl ?_
    refine R_getR (p := 24) (q := 143) hK rfl rfl rfl rfl ?_
    refine R_aload_n (p := 25) rfl l0 rfl ?_
    refine R_getI (p := 28) hK rfl rfl rfl rfl ?_
    obtain ⟨b4, h⟩ := gd h
    refine R_aald (p := 29) (q := (jK0 + (14 + (m 137 9).toNatClampNeg))) hK rfl rfl (by decide) b4.1 (l_str b4.2) rfl ?_
    refine R_iload_n (p := 30) rfl l3 rfl ?_
    obtain ⟨b5, h⟩ := gd h
    obtain ⟨q6, eq6, h⟩ := bind_some h
    refine R_cK2v (p := 33) rfl (strq_q b5) (tfJ0_charAt_5068e (Nat.le_trans (by decide) hd) b5 eq6) rfl rfl ?_
    refine R_iload_n (p := 34) rfl l1 rfl ?_
    by_cases hc : q6 = x1
    · replace h := ite_t h hc
      refine R_icne_f (p := 37) rfl (fun z => z hc) rfl ?_
      refine R_iload_n (p := 38) rfl l3 rfl ?_
      refine R_goto rfl ?_
      refine R_istore_n (p := 43) rfl rfl rfl ?_
      refine R_iinc (p := 46) rfl (jg_ne l3 rfl) rfl ki_1 rfl ?_
      refine R_goto rfl ?_
      obtain rfl := Option.some.inj h
      exact hq _ (jg_ne (jg_ne l0 rfl) rfl) (jg_ne (jg_ne l1 rfl) rfl) (jg_ne jg_self rfl) jg_self
    · replace h := ite_f h hc
      refine R_icne_t rfl hc ?_
      refine R_iload_n (p := 42) rfl l2 rfl ?_
      refine R_istore_n (p := 43) rfl rfl rfl ?_
      refine R_iinc (p := 46) rfl (jg_ne l3 rfl) rfl ki_1 rfl ?_
      refine R_goto rfl ?_
      obtain rfl := Option.some.inj h
      exact hq _ (jg_ne (jg_ne l0 rfl) rfl) (jg_ne (jg_ne l1 rfl) rfl) (jg_ne jg_self rfl) jg_self
theorem LX9_nameOf_4 {xs : List Int32} {d : Nat} {r : jR} {K : Mem → List jE} (hK : Ctx shR K) (hd : 4 ≤ d)  {x1 : Int32} {m : Mem} (n : Nat) (s : Int32 × Int32) {t : Int32} (h : lp (lX9_nameOf_4 x1 m) n s = some t) (hq : (qI r (K m)) t) : gX9_nameOf_4 xs d r K x1 m s := lp_ind (G := gX9_nameOf_4 xs d r K x1 m) (Qe := (qI r (K m))) (fun s t h hq => BX9_nameOf_4 hK hd s h hq) n s t h hq
theorem ufX9_nameOf {xs : List Int32} {d : Nat} {r : jR} {K : Mem → List jE} (hK : Ctx shR K) (hd : 4 ≤ d) {x1 : Int32} {m : Mem} {L : List (Nat × Value)} (l0 : jget L 0 = some (.ref 137)) (l1 : jget L 1 = some (.int x1)) {t : Int32} (h : fX9_nameOf x1 m = some t) (hq : (qI r (K m)) t) : RunD (jcs xs) d 4 (some .int) jt_X9_nameOf (0, L, [], (K m)) r := by
  unfold fX9_nameOf at h
  refine R_iconst (p := 1) rfl ki_m1 rfl ?_
  refine R_istore_n (p := 2) rfl rfl rfl ?_
  refine R_iconst (p := 3) rfl ki_0 rfl ?_
  refine R_istore_n (p := 4) rfl rfl rfl ?_
  exact LX9_nameOf_4 hK hd _ _ h hq _ (jg_ne (jg_ne l0 rfl) rfl) (jg_ne (jg_ne l1 rfl) rfl) (jg_ne jg_self rfl) jg_self
theorem tfX9_nameOf {xs : List Int32} {d : Nat} {K : Mem → List jE} (hK : Ctx shR K) (hd : 5 ≤ d) {x1 : Int32} {m : Mem} {t : Int32} (h : fX9_nameOf x1 m = some t) : CallD (jcs xs) d 200 [.ref 137, .int x1] (K m) (some (.int t), (K m)) := by
  obtain ⟨d, rfl⟩ : ∃ z, d = z + 1 := ⟨d - 1, by omega⟩
  refine CallD_of jmt_X9_nameOf rfl ⟨rfl, Nat.le_of_ble_eq_true rfl⟩ ?_
  exact ufX9_nameOf hK (Nat.le_of_succ_le_succ hd) rfl rfl h rfl
noncomputable def bX9_one_103 (e : Mem → Option Mem) (m : Mem) : Option Mem := some (mput m 137 8 ((m 137 8) - (1 : Int32)))
noncomputable def bX9_one_100 (e : Mem → Option Mem) (y1 : Int32) (m : Mem) : Option Mem := (if y1 = 0 ∨ y1 = 1 then bX9_one_103 e (mput m 137 10 y1) else none)
noncomputable def bX9_one_31 (e : Mem → Option Mem) (x1 : Int32) (y1 : Int32) (m : Mem) : Option Mem := (if y1 = 0 ∨ y1 = 1 then (if ((mput m 137 10 y1) 137 10) = 0 then (if x1 = (33 : Int32) then (e (mput (mput (mput m 137 10 y1) 137 8 (((mput m 137 10 y1) 137 8) + (1 : Int32))) 137 7 (((mput (mput m 137 10 y1) 137 8 (((mput m 137 10 y1) 137 8) + (1 : Int32))) 137 7) + (1 : Int32)))).bind fun q3 => (fX9_codes (20010 : Int32) q3).bind fun q4 => bX9_one_103 e q4 else (fX9_either e (mput (mput (mput m 137 10 y1) 137 8 (((mput m 137 10 y1) 137 8) + (1 : Int32))) 137 7 (((mput (mput m 137 10 y1) 137 8 (((mput m 137 10 y1) 137 8) + (1 : Int32))) 137 7) + (1 : Int32)))).bind fun q5 => (fX9_takes (41 : Int32) q5).bind fun q6 => (if q6.1 = 0 then bX9_one_100 e (1 : Int32) q6.2 else bX9_one_100 e (0 : Int32) q6.2)) else some (mput m 137 10 y1)) else none)
noncomputable def bX9_one_17 (e : Mem → Option Mem) (x1 : Int32) (m : Mem) : Option Mem := (if (m 137 8) = (5 : Int32) then bX9_one_31 e x1 (1 : Int32) m else bX9_one_31 e x1 (0 : Int32) m)
noncomputable def bX9_one_218 (e : Mem → Option Mem) (x2 : Int32) (y1 : Int32) (m : Mem) : Option Mem := (if y1 = 0 ∨ y1 = 1 then (if ((mput m 137 10 y1) 137 10) = 0 then (fX9_codes ((10000 : Int32) + x2) (mput m 137 10 y1)).bind fun q11 => some (mput q11 137 7 ((q11 137 7) + (1 : Int32))) else some (mput m 137 10 y1)) else none)
noncomputable def bX9_one_200 (e : Mem → Option Mem) (y0 : Int32) (m : Mem) : Option Mem := (if (m 137 10) = 0 then (if 0 ≤ y0 then bX9_one_218 e y0 (0 : Int32) m else bX9_one_218 e y0 (1 : Int32) m) else bX9_one_218 e y0 (1 : Int32) m)
noncomputable def bX9_one_179 (e : Mem → Option Mem) (x2 : Int32) (m : Mem) : Option Mem := (fX9_codes x2 m).bind fun q12 => some q12
noncomputable def lX9_one_131 (e : Mem → Option Mem) (s : Int32 × Int32 × Mem) : Option ((Int32 × Int32 × Mem) ⊕ Mem) := (if (4 : Int32) ≤ s.2.1 then (bX9_one_179 e s.1 s.2.2).map Sum.inr else (fX9_here s.2.2).bind fun q13 => (if (fX9_within q13 (48 : Int32) (57 : Int32)) = 0 then (bX9_one_179 e s.1 s.2.2).map Sum.inr else (fX9_here s.2.2).bind fun q15 => some (.inl (((((10 : Int32) * s.1) + q15) - (48 : Int32)), (s.2.1 + (1 : Int32)), (mput s.2.2 137 7 ((s.2.2 137 7) + (1 : Int32)))))))
noncomputable def gX9_one_131 (xs : List Int32) (d : Nat) (r : jR) (K : Mem → List jE) (s : Int32 × Int32 × Mem) : Prop := ∀ L, jget L 0 = some (.ref 137) → jget L 2 = some (.int s.1) → jget L 3 = some (.int s.2.1) → RunD (jcs xs) d 4 (none) jt_X9_one (131, L, [], (K s.2.2)) r
noncomputable def fX9_one (e : Mem → Option Mem) (m : Mem) : Option Mem := (fX9_here m).bind fun q1 => (if q1 = (33 : Int32) then bX9_one_17 e q1 m else (if q1 = (40 : Int32) then bX9_one_17 e q1 m else (if (fX9_within q1 (48 : Int32) (57 : Int32)) = 0 then (if 0 ≤ q1 then (fX9_nameOf q1 m).bind fun q9 => bX9_one_200 e q9 m else bX9_one_200 e (-1 : Int32) m) else lp (lX9_one_131 e) fu ((0 : Int32), (0 : Int32), m))))
theorem tbX9_one_103 {xs : List Int32} {d : Nat} {r : jR} {K : Mem → List jE} (hK : Ctx shR K) {d0 : Nat} (hd : d0 + 7 ≤ d) {e : Mem → Option Mem} (he : ∀ d9, d0 ≤ d9 → ∀  (m9 : Mem) (q9 : Mem), e m9 = some q9 → CallD (jcs xs) d9 201 [.ref 137] (K m9) (none, K q9))  {m : Mem} {L : List (Nat × Value)} (l0 : jget L 0 = some (.ref 137)) {t : Mem} (h : bX9_one_103 e m = some t) (hq : (qM r K) t) : RunD (jcs xs) d 4 (none) jt_X9_one (103, L, [], (K m)) r := by
  unfold bX9_one_103 at h
  refine R_aload_n (p := 104) rfl l0 rfl ?_
  refine R_dupa (p := 105) rfl rfl ?_
  refine R_getI (p := 108) hK rfl rfl rfl rfl ?_
  refine R_iconst (p := 109) rfl ki_1 rfl ?_
  refine R_isub (p := 110) rfl rfl ?_
  refine R_putI (p := 113) hK rfl rfl rfl rfl rfl ?_
  refine R_goto rfl ?_
  obtain rfl := Option.some.inj h
  exact R_return rfl rfl hq
theorem tbX9_one_100 {xs : List Int32} {d : Nat} {r : jR} {K : Mem → List jE} (hK : Ctx shR K) {d0 : Nat} (hd : d0 + 7 ≤ d) {e : Mem → Option Mem} (he : ∀ d9, d0 ≤ d9 → ∀  (m9 : Mem) (q9 : Mem), e m9 = some q9 → CallD (jcs xs) d9 201 [.ref 137] (K m9) (none, K q9))  {y1 : Int32} {m : Mem} {L : List (Nat × Value)} (l0 : jget L 0 = some (.ref 137)) {t : Mem} (h : bX9_one_100 e y1 m = some t) (hq : (qM r K) t) : RunD (jcs xs) d 4 (none) jt_X9_one (100, L, [.int y1, .ref 137], (K m)) r := by
  unfold bX9_one_100 at h
  obtain ⟨b7, h⟩ := gd h
  refine R_putI (p := 103) hK rfl rfl rfl (jfit_z b7) rfl ?_
  exact tbX9_one_103 hK hd he l0 h hq
theorem tbX9_one_31 {xs : List Int32} {d : Nat} {r : jR} {K : Mem → List jE} (hK : Ctx shR K) {d0 : Nat} (hd : d0 + 7 ≤ d) {e : Mem → Option Mem} (he : ∀ d9, d0 ≤ d9 → ∀  (m9 : Mem) (q9 : Mem), e m9 = some q9 → CallD (jcs xs) d9 201 [.ref 137] (K m9) (none, K q9))  {x1 : Int32} {y1 : Int32} {m : Mem} {L : List (Nat × Value)} (l0 : jget L 0 = some (.ref 137)) (l1 : jget L 1 = some (.int x1)) {t : Mem} (h : bX9_one_31 e x1 y1 m = some t) (hq : (qM r K) t) : RunD (jcs xs) d 4 (none) jt_X9_one (31, L, [.int y1, .ref 137], (K m)) r := by
  unfold bX9_one_31 at h
  obtain ⟨b2, h⟩ := gd h
  refine R_putI (p := 34) hK rfl rfl rfl (jfit_z b2) rfl ?_
  refine R_aload_n (p := 35) rfl l0 rfl ?_
  refine R_getI (p := 38) hK rfl rfl rfl rfl ?_
  by_cases hc : ((mput m 137 10 y1) 137 10) = 0
  · replace h := ite_t h hc
    refine R_ifne_f (p := 41) rfl (fun z => z hc) rfl ?_
    refine R_aload_n (p := 42) rfl l0 rfl ?_
    refine R_dupa (p := 43) rfl rfl ?_
    refine R_getI (p := 46) hK rfl rfl rfl rfl ?_
    refine R_iconst (p := 47) rfl ki_1 rfl ?_
    refine R_iadd (p := 48) rfl rfl ?_
    refine R_putI (p := 51) hK rfl rfl rfl rfl rfl ?_
    refine R_aload_n (p := 52) rfl l0 rfl ?_
    refine R_dupa (p := 53) rfl rfl ?_
    refine R_getI (p := 56) hK rfl rfl rfl rfl ?_
    refine R_iconst (p := 57) rfl ki_1 rfl ?_
    refine R_iadd (p := 58) rfl rfl ?_
    refine R_putI (p := 61) hK rfl rfl rfl rfl rfl ?_
    refine R_iload_n (p := 62) rfl l1 rfl ?_
    refine R_bipush (p := 64) rfl kb_33 rfl ?_
    by_cases hc : x1 = (33 : Int32)
    · replace h := ite_t h hc
      refine R_icne_f (p := 67) rfl (fun z => z hc) rfl ?_
      refine R_aload_n (p := 68) rfl l0 rfl ?_
      obtain ⟨q3, eq3, h⟩ := bind_some h
      refine R_cV1n (p := 71) hK rfl rfl (he _ (Nat.le_trans (Nat.le_add_right _ _) hd) _ _ eq3) rfl rfl ?_
      refine R_aload_n (p := 72) rfl l0 rfl ?_
      refine R_sipush (p := 75) rfl ks_20010 rfl ?_
      obtain ⟨q4, eq4, h⟩ := bind_some h
      refine R_cV2n (p := 78) hK rfl rfl (tfX9_codes hK (Nat.le_trans (Nat.le_trans (by decide) (Nat.le_add_left _ _)) hd)  eq4) rfl rfl ?_
      refine R_goto rfl ?_
      exact tbX9_one_103 hK hd he l0 h hq
    · replace h := ite_f h hc
      refine R_icne_t rfl hc ?_
      refine R_aload_n (p := 82) rfl l0 rfl ?_
      obtain ⟨q5, eq5, h⟩ := bind_some h
      refine R_cV1n (p := 85) hK rfl rfl (tfX9_either hK (Nat.le_trans (Nat.add_le_add_left (by decide) _) hd) he  eq5) rfl rfl ?_
      refine R_aload_n (p := 86) rfl l0 rfl ?_
      refine R_aload_n (p := 87) rfl l0 rfl ?_
      refine R_bipush (p := 89) rfl kb_41 rfl ?_
      obtain ⟨q6, eq6, h⟩ := bind_some h
      refine R_cV2v (p := 92) hK rfl rfl (tfX9_takes hK (Nat.le_trans (Nat.le_trans (by decide) (Nat.le_add_left _ _)) hd)  eq6) rfl rfl ?_
      by_cases hc : q6.1 = 0
      · replace h := ite_t h hc
        refine R_ifne_f (p := 95) rfl (fun z => z hc) rfl ?_
        refine R_iconst (p := 96) rfl ki_1 rfl ?_
        refine R_goto rfl ?_
        exact tbX9_one_100 hK hd he l0 h hq
      · replace h := ite_f h hc
        refine R_ifne_t rfl hc ?_
        refine R_iconst (p := 100) rfl ki_0 rfl ?_
        exact tbX9_one_100 hK hd he l0 h hq
  · replace h := ite_f h hc
    refine R_ifne_t rfl hc ?_
    obtain rfl := Option.some.inj h
    exact R_return rfl rfl hq
theorem tbX9_one_17 {xs : List Int32} {d : Nat} {r : jR} {K : Mem → List jE} (hK : Ctx shR K) {d0 : Nat} (hd : d0 + 7 ≤ d) {e : Mem → Option Mem} (he : ∀ d9, d0 ≤ d9 → ∀  (m9 : Mem) (q9 : Mem), e m9 = some q9 → CallD (jcs xs) d9 201 [.ref 137] (K m9) (none, K q9))  {x1 : Int32} {m : Mem} {L : List (Nat × Value)} (l0 : jget L 0 = some (.ref 137)) (l1 : jget L 1 = some (.int x1)) {t : Mem} (h : bX9_one_17 e x1 m = some t) (hq : (qM r K) t) : RunD (jcs xs) d 4 (none) jt_X9_one (17, L, [], (K m)) r := by
  unfold bX9_one_17 at h
  refine R_aload_n (p := 18) rfl l0 rfl ?_
  refine R_aload_n (p := 19) rfl l0 rfl ?_
  refine R_getI (p := 22) hK rfl rfl rfl rfl ?_
  refine R_iconst (p := 23) rfl ki_5 rfl ?_
  by_cases hc : (m 137 8) = (5 : Int32)
  · replace h := ite_t h hc
    refine R_icne_f (p := 26) rfl (fun z => z hc) rfl ?_
    refine R_iconst (p := 27) rfl ki_1 rfl ?_
    refine R_goto rfl ?_
    exact tbX9_one_31 hK hd he l0 l1 h hq
  · replace h := ite_f h hc
    refine R_icne_t rfl hc ?_
    refine R_iconst (p := 31) rfl ki_0 rfl ?_
    exact tbX9_one_31 hK hd he l0 l1 h hq
theorem tbX9_one_218 {xs : List Int32} {d : Nat} {r : jR} {K : Mem → List jE} (hK : Ctx shR K) {d0 : Nat} (hd : d0 + 7 ≤ d) {e : Mem → Option Mem} (he : ∀ d9, d0 ≤ d9 → ∀  (m9 : Mem) (q9 : Mem), e m9 = some q9 → CallD (jcs xs) d9 201 [.ref 137] (K m9) (none, K q9))  {x2 : Int32} {y1 : Int32} {m : Mem} {L : List (Nat × Value)} (l0 : jget L 0 = some (.ref 137)) (l2 : jget L 2 = some (.int x2)) {t : Mem} (h : bX9_one_218 e x2 y1 m = some t) (hq : (qM r K) t) : RunD (jcs xs) d 4 (none) jt_X9_one (218, L, [.int y1, .ref 137], (K m)) r := by
  unfold bX9_one_218 at h
  obtain ⟨b10, h⟩ := gd h
  refine R_putI (p := 221) hK rfl rfl rfl (jfit_z b10) rfl ?_
  refine R_aload_n (p := 222) rfl l0 rfl ?_
  refine R_getI (p := 225) hK rfl rfl rfl rfl ?_
  by_cases hc : ((mput m 137 10 y1) 137 10) = 0
  · replace h := ite_t h hc
    refine R_ifne_f (p := 228) rfl (fun z => z hc) rfl ?_
    refine R_aload_n (p := 229) rfl l0 rfl ?_
    refine R_sipush (p := 232) rfl ks_10000 rfl ?_
    refine R_iload_n (p := 233) rfl l2 rfl ?_
    refine R_iadd (p := 234) rfl rfl ?_
    obtain ⟨q11, eq11, h⟩ := bind_some h
    refine R_cV2n (p := 237) hK rfl rfl (tfX9_codes hK (Nat.le_trans (Nat.le_trans (by decide) (Nat.le_add_left _ _)) hd)  eq11) rfl rfl ?_
    refine R_aload_n (p := 238) rfl l0 rfl ?_
    refine R_dupa (p := 239) rfl rfl ?_
    refine R_getI (p := 242) hK rfl rfl rfl rfl ?_
    refine R_iconst (p := 243) rfl ki_1 rfl ?_
    refine R_iadd (p := 244) rfl rfl ?_
    refine R_putI (p := 247) hK rfl rfl rfl rfl rfl ?_
    obtain rfl := Option.some.inj h
    exact R_return rfl rfl hq
  · replace h := ite_f h hc
    refine R_ifne_t rfl hc ?_
    obtain rfl := Option.some.inj h
    exact R_return rfl rfl hq
theorem tbX9_one_200 {xs : List Int32} {d : Nat} {r : jR} {K : Mem → List jE} (hK : Ctx shR K) {d0 : Nat} (hd : d0 + 7 ≤ d) {e : Mem → Option Mem} (he : ∀ d9, d0 ≤ d9 → ∀  (m9 : Mem) (q9 : Mem), e m9 = some q9 → CallD (jcs xs) d9 201 [.ref 137] (K m9) (none, K q9))  {y0 : Int32} {m : Mem} {L : List (Nat × Value)} (l0 : jget L 0 = some (.ref 137)) {t : Mem} (h : bX9_one_200 e y0 m = some t) (hq : (qM r K) t) : RunD (jcs xs) d 4 (none) jt_X9_one (200, L, [.int y0], (K m)) r := by
  unfold bX9_one_200 at h
  refine R_istore_n (p := 201) rfl rfl rfl ?_
  refine R_aload_n (p := 202) rfl (jg_ne l0 rfl) rfl ?_
  refine R_aload_n (p := 203) rfl (jg_ne l0 rfl) rfl ?_
  refine R_getI (p := 206) hK rfl rfl rfl rfl ?_
  by_cases hc : (m 137 10) = 0
  · replace h := ite_t h hc
    refine R_ifne_f (p := 209) rfl (fun z => z hc) rfl ?_
    refine R_iload_n (p := 210) rfl jg_self rfl ?_
    by_cases hc : 0 ≤ y0
    · replace h := ite_t h hc
      refine R_ifge_t rfl hc ?_
      refine R_iconst (p := 218) rfl ki_0 rfl ?_
      exact tbX9_one_218 hK hd he (jg_ne l0 rfl) jg_self h hq
    · replace h := ite_f h hc
      refine R_ifge_f (p := 213) rfl hc rfl ?_
      refine R_iconst (p := 214) rfl ki_1 rfl ?_
      refine R_goto rfl ?_
      exact tbX9_one_218 hK hd he (jg_ne l0 rfl) jg_self h hq
  · replace h := ite_f h hc
    refine R_ifne_t rfl hc ?_
    refine R_iconst (p := 214) rfl ki_1 rfl ?_
    refine R_goto rfl ?_
    exact tbX9_one_218 hK hd he (jg_ne l0 rfl) jg_self h hq
theorem tbX9_one_179 {xs : List Int32} {d : Nat} {r : jR} {K : Mem → List jE} (hK : Ctx shR K) {d0 : Nat} (hd : d0 + 7 ≤ d) {e : Mem → Option Mem} (he : ∀ d9, d0 ≤ d9 → ∀  (m9 : Mem) (q9 : Mem), e m9 = some q9 → CallD (jcs xs) d9 201 [.ref 137] (K m9) (none, K q9))  {x2 : Int32} {m : Mem} {L : List (Nat × Value)} (l0 : jget L 0 = some (.ref 137)) (l2 : jget L 2 = some (.int x2)) {t : Mem} (h : bX9_one_179 e x2 m = some t) (hq : (qM r K) t) : RunD (jcs xs) d 4 (none) jt_X9_one (179, L, [], (K m)) r := by
  unfold bX9_one_179 at h
  refine R_aload_n (p := 180) rfl l0 rfl ?_
  refine R_iload_n (p := 181) rfl l2 rfl ?_
  obtain ⟨q12, eq12, h⟩ := bind_some h
  refine R_cV2n (p := 184) hK rfl rfl (tfX9_codes hK (Nat.le_trans (Nat.le_trans (by decide) (Nat.le_add_left _ _)) hd)  eq12) rfl rfl ?_
  refine R_goto rfl ?_
  obtain rfl := Option.some.inj h
  exact R_return rfl rfl hq
theorem BX9_one_131 {xs : List Int32} {d : Nat} {r : jR} {K : Mem → List jE} (hK : Ctx shR K) {d0 : Nat} (hd : d0 + 7 ≤ d) {e : Mem → Option Mem} (he : ∀ d9, d0 ≤ d9 → ∀  (m9 : Mem) (q9 : Mem), e m9 = some q9 → CallD (jcs xs) d9 201 [.ref 137] (K m9) (none, K q9))  (s : Int32 × Int32 × Mem) {t : (Int32 × Int32 × Mem) ⊕ Mem} (h : lX9_one_131 e s = some t) (hq : sQ (gX9_one_131 xs d r K) (qM r K) t) : gX9_one_131 xs d r K s := by
  intro L l0 l2 l3
  unfold lX9_one_131 at h
  refine R_iload_n (p := 132) rfl l3 rfl ?_
  refine R_iconst (p := 133) rfl ki_4 rfl ?_
  by_cases hc : (4 : Int32) ≤ s.2.1
  · replace h := ite_t h hc
    refine R_icge_t rfl hc ?_
    obtain ⟨w9, h9, rfl⟩ := map_inr h
    replace h := h9
    exact tbX9_one_179 hK hd he l0 l2 h hq
  · replace h := ite_f h hc
    refine R_icge_f (p := 136) rfl hc rfl ?_
    refine R_aload_n (p := 137) rfl l0 rfl ?_
    obtain ⟨q13, eq13, h⟩ := bind_some h
    refine R_cV1v (p := 140) hK rfl rfl (tfX9_here hK (Nat.le_trans (Nat.le_trans (by decide) (Nat.le_add_left _ _)) hd)  eq13) rfl rfl ?_
    refine R_bipush (p := 142) rfl kb_48 rfl ?_
    refine R_bipush (p := 144) rfl kb_57 rfl ?_
    refine R_cS3v (p := 147) rfl (tfX9_within (Nat.le_trans (Nat.le_trans (by decide) (Nat.le_add_left _ _)) hd) ) rfl rfl ?_
    by_cases hc : (fX9_within q13 (48 : Int32) (57 : Int32)) = 0
    · replace h := ite_t h hc
      refine R_ifeq_t rfl hc ?_
      obtain ⟨w9, h9, rfl⟩ := map_inr h
      replace h := h9
      exact tbX9_one_179 hK hd he l0 l2 h hq
    · replace h := ite_f h hc
      refine R_ifeq_f (p := 150) rfl hc rfl ?_
      refine R_bipush (p := 152) rfl kb_10 rfl ?_
      refine R_iload_n (p := 153) rfl l2 rfl ?_
      refine R_imul (p := 154) rfl rfl ?_
      refine R_aload_n (p := 155) rfl l0 rfl ?_
      obtain ⟨q15, eq15, h⟩ := bind_some h
      refine R_cV1v (p := 158) hK rfl rfl (tfX9_here hK (Nat.le_trans (Nat.le_trans (by decide) (Nat.le_add_left _ _)) hd)  eq15) rfl rfl ?_
      refine R_iadd (p := 159) rfl rfl ?_
      refine R_bipush (p := 161) rfl kb_48 rfl ?_
      refine R_isub (p := 162) rfl rfl ?_
      refine R_istore_n (p := 163) rfl rfl rfl ?_
      refine R_aload_n (p := 164) rfl (jg_ne l0 rfl) rfl ?_
      refine R_dupa (p := 165) rfl rfl ?_
      refine R_getI (p := 168) hK rfl rfl rfl rfl ?_
      refine R_iconst (p := 169) rfl ki_1 rfl ?_
      refine R_iadd (p := 170) rfl rfl ?_
      refine R_putI (p := 173) hK rfl rfl rfl rfl rfl ?_
      refine R_iinc (p := 176) rfl (jg_ne l3 rfl) rfl ki_1 rfl ?_
      refine R_goto rfl ?_
      obtain rfl := Option.some.inj h
      exact hq _ (jg_ne (jg_ne l0 rfl) rfl) (jg_ne jg_self rfl) jg_self
theorem LX9_one_131 {xs : List Int32} {d : Nat} {r : jR} {K : Mem → List jE} (hK : Ctx shR K) {d0 : Nat} (hd : d0 + 7 ≤ d) {e : Mem → Option Mem} (he : ∀ d9, d0 ≤ d9 → ∀  (m9 : Mem) (q9 : Mem), e m9 = some q9 → CallD (jcs xs) d9 201 [.ref 137] (K m9) (none, K q9))  (n : Nat) (s : Int32 × Int32 × Mem) {t : Mem} (h : lp (lX9_one_131 e) n s = some t) (hq : (qM r K) t) : gX9_one_131 xs d r K s := lp_ind (G := gX9_one_131 xs d r K) (Qe := (qM r K)) (fun s t h hq => BX9_one_131 hK hd he s h hq) n s t h hq
theorem ufX9_one {xs : List Int32} {d : Nat} {r : jR} {K : Mem → List jE} (hK : Ctx shR K) {d0 : Nat} (hd : d0 + 7 ≤ d) {e : Mem → Option Mem} (he : ∀ d9, d0 ≤ d9 → ∀  (m9 : Mem) (q9 : Mem), e m9 = some q9 → CallD (jcs xs) d9 201 [.ref 137] (K m9) (none, K q9)) {m : Mem} {L : List (Nat × Value)} (l0 : jget L 0 = some (.ref 137)) {t : Mem} (h : fX9_one e m = some t) (hq : (qM r K) t) : RunD (jcs xs) d 4 (none) jt_X9_one (0, L, [], (K m)) r := by
  unfold fX9_one at h
  refine R_aload_n (p := 1) rfl l0 rfl ?_
  obtain ⟨q1, eq1, h⟩ := bind_some h
  refine R_cV1v (p := 4) hK rfl rfl (tfX9_here hK (Nat.le_trans (Nat.le_trans (by decide) (Nat.le_add_left _ _)) hd)  eq1) rfl rfl ?_
  refine R_istore_n (p := 5) rfl rfl rfl ?_
  refine R_iload_n (p := 6) rfl jg_self rfl ?_
  refine R_bipush (p := 8) rfl kb_33 rfl ?_
  by_cases hc : q1 = (33 : Int32)
  · replace h := ite_t h hc
    refine R_iceq_t rfl hc ?_
    exact tbX9_one_17 hK hd he (jg_ne l0 rfl) jg_self h hq
  · replace h := ite_f h hc
    refine R_iceq_f (p := 11) rfl hc rfl ?_
    refine R_iload_n (p := 12) rfl jg_self rfl ?_
    refine R_bipush (p := 14) rfl kb_40 rfl ?_
    by_cases hc : q1 = (40 : Int32)
    · replace h := ite_t h hc
      refine R_icne_f (p := 17) rfl (fun z => z hc) rfl ?_
      exact tbX9_one_17 hK hd he (jg_ne l0 rfl) jg_self h hq
    · replace h := ite_f h hc
      refine R_icne_t rfl hc ?_
      refine R_iload_n (p := 117) rfl jg_self rfl ?_
      refine R_bipush (p := 119) rfl kb_48 rfl ?_
      refine R_bipush (p := 121) rfl kb_57 rfl ?_
      refine R_cS3v (p := 124) rfl (tfX9_within (Nat.le_trans (Nat.le_trans (by decide) (Nat.le_add_left _ _)) hd) ) rfl rfl ?_
      by_cases hc : (fX9_within q1 (48 : Int32) (57 : Int32)) = 0
      · replace h := ite_t h hc
        refine R_ifeq_t rfl hc ?_
        refine R_iload_n (p := 188) rfl jg_self rfl ?_
        by_cases hc : 0 ≤ q1
        · replace h := ite_t h hc
          refine R_ifge_t rfl hc ?_
          refine R_aload_n (p := 196) rfl (jg_ne l0 rfl) rfl ?_
          refine R_iload_n (p := 197) rfl jg_self rfl ?_
          obtain ⟨q9, eq9, h⟩ := bind_some h
          refine R_cV2v (p := 200) hK rfl rfl (tfX9_nameOf hK (Nat.le_trans (Nat.le_trans (by decide) (Nat.le_add_left _ _)) hd)  eq9) rfl rfl ?_
          exact tbX9_one_200 hK hd he (jg_ne l0 rfl) h hq
        · replace h := ite_f h hc
          refine R_ifge_f (p := 191) rfl hc rfl ?_
          refine R_iconst (p := 192) rfl ki_m1 rfl ?_
          refine R_goto rfl ?_
          exact tbX9_one_200 hK hd he (jg_ne l0 rfl) h hq
      · replace h := ite_f h hc
        refine R_ifeq_f (p := 127) rfl hc rfl ?_
        refine R_iconst (p := 128) rfl ki_0 rfl ?_
        refine R_istore_n (p := 129) rfl rfl rfl ?_
        refine R_iconst (p := 130) rfl ki_0 rfl ?_
        refine R_istore_n (p := 131) rfl rfl rfl ?_
        exact LX9_one_131 hK hd he _ _ h hq _ (jg_ne (jg_ne (jg_ne l0 rfl) rfl) rfl) (jg_ne jg_self rfl) jg_self
theorem tfX9_one {xs : List Int32} {d : Nat} {K : Mem → List jE} (hK : Ctx shR K) {d0 : Nat} (hd : d0 + 8 ≤ d) {e : Mem → Option Mem} (he : ∀ d9, d0 ≤ d9 → ∀  (m9 : Mem) (q9 : Mem), e m9 = some q9 → CallD (jcs xs) d9 201 [.ref 137] (K m9) (none, K q9)) {m : Mem} {t : Mem} (h : fX9_one e m = some t) : CallD (jcs xs) d 201 [.ref 137] (K m) (none, K t) := by
  obtain ⟨d, rfl⟩ : ∃ z, d = z + 1 := ⟨d - 1, by omega⟩
  refine CallD_of jmt_X9_one rfl ⟨rfl, Nat.le_of_ble_eq_true rfl⟩ ?_
  exact ufX9_one hK (Nat.le_of_succ_le_succ hd) he rfl h rfl
