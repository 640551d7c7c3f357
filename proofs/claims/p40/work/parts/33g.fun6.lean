noncomputable def lX9_first_45 (x2 : Int32) (x3 : Int32) (m : Mem) (s : Int32 × Int32) : Option ((Int32 × Int32) ⊕ (Int32 × Mem)) := (if (16 : Int32) ≤ s.2 then (if 0 ≤ s.1 then some (.inr (s.1, m)) else (fX9_finding (-1000002 : Int32) m).bind fun q3 => some (.inr (q3.1, q3.2))) else (fX9_is s.2 m).bind fun q4 => (if q4 = 0 then some (.inl (s.1, (s.2 + (1 : Int32)))) else (if s.1 < 0 then some (.inl (s.2, (s.2 + (1 : Int32)))) else (fX9_of s.2 x2 m).bind fun q5 => (fX9_of s.1 x2 m).bind fun q6 => (if (x3 * q5) ≤ (x3 * q6) then some (.inl (s.1, (s.2 + (1 : Int32)))) else some (.inl (s.2, (s.2 + (1 : Int32))))))))
noncomputable def gX9_first_45 (xs : List Int32) (d : Nat) (r : jR) (K : Mem → List jE) (x2 : Int32) (x3 : Int32) (m : Mem) (s : Int32 × Int32) : Prop := ∀ L, jget L 0 = some (.ref 137) → jget L 2 = some (.int x2) → jget L 3 = some (.int x3) → jget L 4 = some (.int s.1) → jget L 5 = some (.int s.2) → RunD (jcs xs) d 6 (some .int) jt_X9_first (45, L, [], (K m)) r
noncomputable def bX9_first_26 (x1 : Int32) (y0 : Int32) (m : Mem) : Option (Int32 × Mem) := (if (x1 - x1 / (2 : Int32) * (2 : Int32)) = 0 then lp (lX9_first_45 y0 (1 : Int32) m) fu ((-1 : Int32), (0 : Int32)) else lp (lX9_first_45 y0 (-1 : Int32) m) fu ((-1 : Int32), (0 : Int32)))
noncomputable def fX9_first (x1 : Int32) (m : Mem) : Option (Int32 × Mem) := (if (fX9_within x1 (0 : Int32) (3 : Int32)) = 0 then (fX9_finding (-1000001 : Int32) m).bind fun q2 => some (q2.1, q2.2) else (if (2 : Int32) ≤ x1 then bX9_first_26 x1 (5 : Int32) m else bX9_first_26 x1 (2 : Int32) m))
theorem BX9_first_45 {xs : List Int32} {d : Nat} {r : jR} {K : Mem → List jE} (hK : Ctx shR K) (hd : 2 ≤ d)  {x2 : Int32} {x3 : Int32} {m : Mem} (s : Int32 × Int32) {t : (Int32 × Int32) ⊕ (Int32 × Mem)} (h : lX9_first_45 x2 x3 m s = some t) (hq : sQ (gX9_first_45 xs d r K x2 x3 m) (qIM r K) t) : gX9_first_45 xs d r K x2 x3 m s := by
  intro L l0 l2 l3 l4 l5
  unfold lX9_first_45 at h
  refine R_iload (p := 47) rfl l5 rfl ?_
  refine R_bipush (p := 49) rfl kb_16 rfl ?_
  by_cases hc : (16 : Int32) ≤ s.2
  · replace h := ite_t h hc
    refine R_icge_t rfl hc ?_
    refine R_iload (p := 104) rfl l4 rfl ?_
    by_cases hc : 0 ≤ s.1
    · replace h := ite_t h hc
      refine R_ifge_t rfl hc ?_
      refine R_iload (p := 118) rfl l4 rfl ?_
      obtain rfl := Option.some.inj h
      exact R_ireturn rfl rfl hq
    · replace h := ite_f h hc
      refine R_ifge_f (p := 107) rfl hc rfl ?_
      refine R_aload_n (p := 108) rfl l0 rfl ?_
      refine R_ldc (p := 110) rfl kl_m1000002 rfl ?_
      obtain ⟨q3, eq3, h⟩ := bind_some h
      refine R_cV2v (p := 113) hK rfl rfl (tfX9_finding hK (Nat.le_trans (by decide) hd)  eq3) rfl rfl ?_
      refine R_goto rfl ?_
      obtain rfl := Option.some.inj h
      exact R_ireturn rfl rfl hq
  · replace h := ite_f h hc
    refine R_icge_f (p := 52) rfl hc rfl ?_
    refine R_aload_n (p := 53) rfl l0 rfl ?_
    refine R_iload (p := 55) rfl l5 rfl ?_
    obtain ⟨q4, eq4, h⟩ := bind_some h
    refine R_cV2v (p := 58) hK rfl rfl (tfX9_is hK (Nat.le_trans (by decide) hd)  eq4) rfl rfl ?_
    by_cases hc : q4 = 0
    · replace h := ite_t h hc
      refine R_ifeq_t rfl hc ?_
      refine R_iload (p := 94) rfl l4 rfl ?_
      refine R_istore (p := 96) rfl rfl rfl ?_
      refine R_iinc (p := 99) rfl (jg_ne l5 rfl) rfl ki_1 rfl ?_
      refine R_goto rfl ?_
      obtain rfl := Option.some.inj h
      exact hq _ (jg_ne (jg_ne l0 rfl) rfl) (jg_ne (jg_ne l2 rfl) rfl) (jg_ne (jg_ne l3 rfl) rfl) (jg_ne jg_self rfl) jg_self
    · replace h := ite_f h hc
      refine R_ifeq_f (p := 61) rfl hc rfl ?_
      refine R_iload (p := 63) rfl l4 rfl ?_
      by_cases hc : s.1 < 0
      · replace h := ite_t h hc
        refine R_iflt_t rfl hc ?_
        refine R_iload (p := 89) rfl l5 rfl ?_
        refine R_goto rfl ?_
        refine R_istore (p := 96) rfl rfl rfl ?_
        refine R_iinc (p := 99) rfl (jg_ne l5 rfl) rfl ki_1 rfl ?_
        refine R_goto rfl ?_
        obtain rfl := Option.some.inj h
        exact hq _ (jg_ne (jg_ne l0 rfl) rfl) (jg_ne (jg_ne l2 rfl) rfl) (jg_ne (jg_ne l3 rfl) rfl) (jg_ne jg_self rfl) jg_self
      · replace h := ite_f h hc
        refine R_iflt_f (p := 66) rfl hc rfl ?_
        refine R_iload_n (p := 67) rfl l3 rfl ?_
        refine R_aload_n (p := 68) rfl l0 rfl ?_
        refine R_iload (p := 70) rfl l5 rfl ?_
        refine R_iload_n (p := 71) rfl l2 rfl ?_
        obtain ⟨q5, eq5, h⟩ := bind_some h
        refine R_cV3v (p := 74) hK rfl rfl (tfX9_of hK (Nat.le_trans (by decide) hd)  eq5) rfl rfl ?_
        refine R_imul (p := 75) rfl rfl ?_
        refine R_iload_n (p := 76) rfl l3 rfl ?_
        refine R_aload_n (p := 77) rfl l0 rfl ?_
        refine R_iload (p := 79) rfl l4 rfl ?_
        refine R_iload_n (p := 80) rfl l2 rfl ?_
        obtain ⟨q6, eq6, h⟩ := bind_some h
        refine R_cV3v (p := 83) hK rfl rfl (tfX9_of hK (Nat.le_trans (by decide) hd)  eq6) rfl rfl ?_
        refine R_imul (p := 84) rfl rfl ?_
        by_cases hc : (x3 * q5) ≤ (x3 * q6)
        · replace h := ite_t h hc
          refine R_icle_t rfl hc ?_
          refine R_iload (p := 94) rfl l4 rfl ?_
          refine R_istore (p := 96) rfl rfl rfl ?_
          refine R_iinc (p := 99) rfl (jg_ne l5 rfl) rfl ki_1 rfl ?_
          refine R_goto rfl ?_
          obtain rfl := Option.some.inj h
          exact hq _ (jg_ne (jg_ne l0 rfl) rfl) (jg_ne (jg_ne l2 rfl) rfl) (jg_ne (jg_ne l3 rfl) rfl) (jg_ne jg_self rfl) jg_self
        · replace h := ite_f h hc
          refine R_icle_f (p := 87) rfl hc rfl ?_
          refine R_iload (p := 89) rfl l5 rfl ?_
          refine R_goto rfl ?_
          refine R_istore (p := 96) rfl rfl rfl ?_
          refine R_iinc (p := 99) rfl (jg_ne l5 rfl) rfl ki_1 rfl ?_
          refine R_goto rfl ?_
          obtain rfl := Option.some.inj h
          exact hq _ (jg_ne (jg_ne l0 rfl) rfl) (jg_ne (jg_ne l2 rfl) rfl) (jg_ne (jg_ne l3 rfl) rfl) (jg_ne jg_self rfl) jg_self
theorem LX9_first_45 {xs : List Int32} {d : Nat} {r : jR} {K : Mem → List jE} (hK : Ctx shR K) (hd : 2 ≤ d)  {x2 : Int32} {x3 : Int32} {m : Mem} (n : Nat) (s : Int32 × Int32) {t : (Int32 × Mem)} (h : lp (lX9_first_45 x2 x3 m) n s = some t) (hq : (qIM r K) t) : gX9_first_45 xs d r K x2 x3 m s := lp_ind (G := gX9_first_45 xs d r K x2 x3 m) (Qe := (qIM r K)) (fun s t h hq => BX9_first_45 hK hd s h hq) n s t h hq
theorem tbX9_first_26 {xs : List Int32} {d : Nat} {r : jR} {K : Mem → List jE} (hK : Ctx shR K) (hd : 2 ≤ d)  {x1 : Int32} {y0 : Int32} {m : Mem} {L : List (Nat × Value)} (l0 : jget L 0 = some (.ref 137)) (l1 : jget L 1 = some (.int x1)) {t : (Int32 × Mem)} (h : bX9_first_26 x1 y0 m = some t) (hq : (qIM r K) t) : RunD (jcs xs) d 6 (some .int) jt_X9_first (26, L, [.int y0], (K m)) r := by
  unfold bX9_first_26 at h
  refine R_istore_n (p := 27) rfl rfl rfl ?_
  refine R_iload_n (p := 28) rfl (jg_ne l1 rfl) rfl ?_
  refine R_iconst (p := 29) rfl ki_2 rfl ?_
  refine R_irem (p := 30) rfl (by decide) rfl ?_
  by_cases hc : (x1 - x1 / (2 : Int32) * (2 : Int32)) = 0
  · replace h := ite_t h hc
    refine R_ifne_f (p := 33) rfl (fun z => z hc) rfl ?_
    refine R_iconst (p := 34) rfl ki_1 rfl ?_
    refine R_goto rfl ?_
    refine R_istore_n (p := 39) rfl rfl rfl ?_
    refine R_iconst (p := 40) rfl ki_m1 rfl ?_
    refine R_istore (p := 42) rfl rfl rfl ?_
    refine R_iconst (p := 43) rfl ki_0 rfl ?_
    refine R_istore (p := 45) rfl rfl rfl ?_
    exact LX9_first_45 hK hd _ _ h hq _ (jg_ne (jg_ne (jg_ne (jg_ne l0 rfl) rfl) rfl) rfl) (jg_ne (jg_ne (jg_ne jg_self rfl) rfl) rfl) (jg_ne (jg_ne jg_self rfl) rfl) (jg_ne jg_self rfl) jg_self
  · replace h := ite_f h hc
    refine R_ifne_t rfl hc ?_
    refine R_iconst (p := 38) rfl ki_m1 rfl ?_
    refine R_istore_n (p := 39) rfl rfl rfl ?_
    refine R_iconst (p := 40) rfl ki_m1 rfl ?_
    refine R_istore (p := 42) rfl rfl rfl ?_
    refine R_iconst (p := 43) rfl ki_0 rfl ?_
    refine R_istore (p := 45) rfl rfl rfl ?_
    exact LX9_first_45 hK hd _ _ h hq _ (jg_ne (jg_ne (jg_ne (jg_ne l0 rfl) rfl) rfl) rfl) (jg_ne (jg_ne (jg_ne jg_self rfl) rfl) rfl) (jg_ne (jg_ne jg_self rfl) rfl) (jg_ne jg_self rfl) jg_self
theorem ufX9_first {xs : List Int32} {d : Nat} {r : jR} {K : Mem → List jE} (hK : Ctx shR K) (hd : 2 ≤ d) {x1 : Int32} {m : Mem} {L : List (Nat × Value)} (l0 : jget L 0 = some (.ref 137)) (l1 : jget L 1 = some (.int x1)) {t : (Int32 × Mem)} (h : fX9_first x1 m = some t) (hq : (qIM r K) t) : RunD (jcs xs) d 6 (some .int) jt_X9_first (0, L, [], (K m)) r := by
  unfold fX9_first at h
  refine R_iload_n (p := 1) rfl l1 rfl ?_
  refine R_iconst (p := 2) rfl ki_0 rfl ?_
  refine R_iconst (p := 3) rfl ki_3 rfl ?_
  refine R_cS3v (p := 6) rfl (tfX9_within (Nat.le_trans (by decide) hd) ) rfl rfl ?_
  by_cases hc : (fX9_within x1 (0 : Int32) (3 : Int32)) = 0
  · replace h := ite_t h hc
    refine R_ifne_f (p := 9) rfl (fun z => z hc) rfl ?_
    refine R_aload_n (p := 10) rfl l0 rfl ?_
    refine R_ldc (p := 12) rfl kl_m1000001 rfl ?_
    obtain ⟨q2, eq2, h⟩ := bind_some h
    refine R_cV2v (p := 15) hK rfl rfl (tfX9_finding hK (Nat.le_trans (by decide) hd)  eq2) rfl rfl ?_
    obtain rfl := Option.some.inj h
    exact R_ireturn rfl rfl hq
  · replace h := ite_f h hc
    refine R_ifne_t rfl hc ?_
    refine R_iload_n (p := 17) rfl l1 rfl ?_
    refine R_iconst (p := 18) rfl ki_2 rfl ?_
    by_cases hc : (2 : Int32) ≤ x1
    · replace h := ite_t h hc
      refine R_icge_t rfl hc ?_
      refine R_iconst (p := 26) rfl ki_5 rfl ?_
      exact tbX9_first_26 hK hd l0 l1 h hq
    · replace h := ite_f h hc
      refine R_icge_f (p := 21) rfl hc rfl ?_
      refine R_iconst (p := 22) rfl ki_2 rfl ?_
      refine R_goto rfl ?_
      exact tbX9_first_26 hK hd l0 l1 h hq
theorem tfX9_first {xs : List Int32} {d : Nat} {K : Mem → List jE} (hK : Ctx shR K) (hd : 3 ≤ d) {x1 : Int32} {m : Mem} {t : (Int32 × Mem)} (h : fX9_first x1 m = some t) : CallD (jcs xs) d 228 [.ref 137, .int x1] (K m) (some (.int t.1), K t.2) := by
  obtain ⟨d, rfl⟩ : ∃ z, d = z + 1 := ⟨d - 1, by omega⟩
  refine CallD_of jmt_X9_first rfl ⟨rfl, Nat.le_of_ble_eq_true rfl⟩ ?_
  exact ufX9_first hK (Nat.le_of_succ_le_succ hd) rfl rfl h rfl
noncomputable def lX3_look_10 (k : Nat) (s : Int32 × Mem) : Option ((Int32 × Mem) ⊕ Mem) := (if (16 : Int32) ≤ s.1 then some (.inr s.2) else (fX0_bitsBeside k s.1 s.2).bind fun q1 => (if inb s.1 16 then some (.inl ((s.1 + (1 : Int32)), (mput s.2 123 s.1.toNatClampNeg q1))) else none))
noncomputable def gX3_look_10 (xs : List Int32) (d : Nat) (r : jR) (K : Mem → List jE) (k : Nat) (s : Int32 × Mem) : Prop := ∀ L, jget L 0 = some (.ref 121) → jget L 1 = some (.ref (cw k 2)) → jget L 2 = some (.int s.1) → RunD (jcs xs) d 3 (none) jt_X3_look (10, L, [], (K s.2)) r
noncomputable def fX3_look (k : Nat) (m : Mem) : Option Mem := lp (lX3_look_10 k) fu ((0 : Int32), (mput m 121 3 (m (cw k 2) 0)))
theorem BX3_look_10 {xs : List Int32} {d : Nat} {r : jR} {K : Mem → List jE} (hK : Ctx shC K) (hd : 3 ≤ d) {k : Nat} (hk : k < 3)  (s : Int32 × Mem) {t : (Int32 × Mem) ⊕ Mem} (h : lX3_look_10 k s = some t) (hq : sQ (gX3_look_10 xs d r K k) (qM r K) t) : gX3_look_10 xs d r K k s := by
  intro L l0 l1 l2
  unfold lX3_look_10 at h
  refine R_iload_n (p := 11) rfl l2 rfl ?_
  refine R_bipush (p := 13) rfl kb_16 rfl ?_
  by_cases hc : (16 : Int32) ≤ s.1
  · replace h := ite_t h hc
    refine R_icge_t rfl hc ?_
    obtain rfl := Option.some.inj h
    exact R_return rfl rfl hq
  · replace h := ite_f h hc
    refine R_icge_f (p := 16) rfl hc rfl ?_
    refine R_aload_n (p := 17) rfl l0 rfl ?_
    refine R_getR (p := 20) (q := 123) hK rfl rfl rfl rfl ?_
    refine R_iload_n (p := 21) rfl l2 rfl ?_
    refine R_aload_n (p := 22) rfl l1 rfl ?_
    refine R_iload_n (p := 23) rfl l2 rfl ?_
    obtain ⟨q1, eq1, h⟩ := bind_some h
    refine R_cV2v (p := 26) hK rfl (s_w2 hk) (tfX0_bitsBeside hK (Nat.le_trans (by decide) hd) hk eq1) rfl rfl ?_
    obtain ⟨b2, h⟩ := gd h
    refine R_iast (p := 27) hK rfl rfl b2 rfl ?_
    refine R_iinc (p := 30) rfl l2 rfl ki_1 rfl ?_
    refine R_goto rfl ?_
    obtain rfl := Option.some.inj h
    exact hq _ (jg_ne l0 rfl) (jg_ne l1 rfl) jg_self
theorem LX3_look_10 {xs : List Int32} {d : Nat} {r : jR} {K : Mem → List jE} (hK : Ctx shC K) (hd : 3 ≤ d) {k : Nat} (hk : k < 3)  (n : Nat) (s : Int32 × Mem) {t : Mem} (h : lp (lX3_look_10 k) n s = some t) (hq : (qM r K) t) : gX3_look_10 xs d r K k s := lp_ind (G := gX3_look_10 xs d r K k) (Qe := (qM r K)) (fun s t h hq => BX3_look_10 hK hd hk s h hq) n s t h hq
theorem ufX3_look {xs : List Int32} {d : Nat} {r : jR} {K : Mem → List jE} (hK : Ctx shC K) (hd : 3 ≤ d) {k : Nat} (hk : k < 3) {m : Mem} {L : List (Nat × Value)} (l0 : jget L 0 = some (.ref 121)) (l1 : jget L 1 = some (.ref (cw k 2))) {t : Mem} (h : fX3_look k m = some t) (hq : (qM r K) t) : RunD (jcs xs) d 3 (none) jt_X3_look (0, L, [], (K m)) r := by
  unfold fX3_look at h
  refine R_aload_n (p := 1) rfl l0 rfl ?_
  refine R_aload_n (p := 2) rfl l1 rfl ?_
  refine R_getI (p := 5) hK rfl (s_w2 hk) rfl rfl ?_
  refine R_putI (p := 8) hK rfl rfl rfl rfl rfl ?_
  refine R_iconst (p := 9) rfl ki_0 rfl ?_
  refine R_istore_n (p := 10) rfl rfl rfl ?_
  exact LX3_look_10 hK hd hk _ _ h hq _ (jg_ne l0 rfl) (jg_ne l1 rfl) jg_self
theorem tfX3_look {xs : List Int32} {d : Nat} {K : Mem → List jE} (hK : Ctx shC K) (hd : 4 ≤ d) {k : Nat} (hk : k < 3) {m : Mem} {t : Mem} (h : fX3_look k m = some t) : CallD (jcs xs) d 52 [.ref 121, .ref (cw k 2)] (K m) (none, K t) := by
  obtain ⟨d, rfl⟩ : ∃ z, d = z + 1 := ⟨d - 1, by omega⟩
  refine CallD_of jmt_X3_look rfl ⟨rfl, Nat.le_of_ble_eq_true rfl⟩ ?_
  exact ufX3_look hK (Nat.le_of_succ_le_succ hd) hk rfl rfl h rfl
noncomputable def lX3_besideAny_4 (x1 : Int32) (m : Mem) (s : Int32 × Int32) : Option ((Int32 × Int32) ⊕ Int32) := (if (16 : Int32) ≤ s.2 then some (.inr s.1) else (if ((jUshr x1 s.2) &&& (1 : Int32)) = (1 : Int32) then (if inb s.2 16 then some (.inl ((s.1 ||| (m 123 s.2.toNatClampNeg)), (s.2 + (1 : Int32)))) else none) else some (.inl (s.1, (s.2 + (1 : Int32))))))
noncomputable def gX3_besideAny_4 (xs : List Int32) (d : Nat) (r : jR) (K : Mem → List jE) (x1 : Int32) (m : Mem) (s : Int32 × Int32) : Prop := ∀ L, jget L 0 = some (.ref 121) → jget L 1 = some (.int x1) → jget L 2 = some (.int s.1) → jget L 3 = some (.int s.2) → RunD (jcs xs) d 4 (some .int) jt_X3_besideAny (4, L, [], (K m)) r
noncomputable def fX3_besideAny (x1 : Int32) (m : Mem) : Option Int32 := lp (lX3_besideAny_4 x1 m) fu ((0 : Int32), (0 : Int32))
theorem BX3_besideAny_4 {xs : List Int32} {d : Nat} {r : jR} {K : Mem → List jE} (hK : Ctx shC K) (hd : 0 ≤ d)  {x1 : Int32} {m : Mem} (s : Int32 × Int32) {t : (Int32 × Int32) ⊕ Int32} (h : lX3_besideAny_4 x1 m s = some t) (hq : sQ (gX3_besideAny_4 xs d r K x1 m) (qI r (K m)) t) : gX3_besideAny_4 xs d r K x1 m s := by
  intro L l0 l1 l2 l3
  unfold lX3_besideAny_4 at h
  refine R_iload_n (p := 5) rfl l3 rfl ?_
  refine R_bipush (p := 7) rfl kb_16 rfl ?_
  by_cases hc : (16 : Int32) ≤ s.2
  · replace h := ite_t h hc
    refine R_icge_t rfl hc ?_
    refine R_iload_n (p := 35) rfl l2 rfl ?_
    obtain rfl := Option.some.inj h
    exact R_ireturn rfl rfl hq
  · replace h := ite_f h hc
    refine R_icge_f (p := 10) rfl hc rfl ?_
    refine R_iload_n (p := 11) rfl l1 rfl ?_
    refine R_iload_n (p := 12) rfl l3 rfl ?_
    refine R_iushr (p := 13) rfl rfl ?_
    refine R_iconst (p := 14) rfl ki_1 rfl ?_
    refine R_iand (p := 15) rfl rfl ?_
    refine R_iconst (p := 16) rfl ki_1 rfl ?_
    by_cases hc : ((jUshr x1 s.2) &&& (1 : Int32)) = (1 : Int32)
    · replace h := ite_t h hc
      refine R_icne_f (p := 19) rfl (fun z => z hc) rfl ?_
      refine R_iload_n (p := 20) rfl l2 rfl ?_
      refine R_aload_n (p := 21) rfl l0 rfl ?_
      refine R_getR (p := 24) (q := 123) hK rfl rfl rfl rfl ?_
      refine R_iload_n (p := 25) rfl l3 rfl ?_
      obtain ⟨b1, h⟩ := gd h
      refine R_iald (p := 26) hK rfl rfl b1 rfl ?_
      refine R_ior (p := 27) rfl rfl ?_
      refine R_istore_n (p := 28) rfl rfl rfl ?_
      refine R_iinc (p := 31) rfl (jg_ne l3 rfl) rfl ki_1 rfl ?_
      refine R_goto rfl ?_
      obtain rfl := Option.some.inj h
      exact hq _ (jg_ne (jg_ne l0 rfl) rfl) (jg_ne (jg_ne l1 rfl) rfl) (jg_ne jg_self rfl) jg_self
    · replace h := ite_f h hc
      refine R_icne_t rfl hc ?_
      refine R_iinc (p := 31) rfl l3 rfl ki_1 rfl ?_
      refine R_goto rfl ?_
      obtain rfl := Option.some.inj h
      exact hq _ (jg_ne l0 rfl) (jg_ne l1 rfl) (jg_ne l2 rfl) jg_self
theorem LX3_besideAny_4 {xs : List Int32} {d : Nat} {r : jR} {K : Mem → List jE} (hK : Ctx shC K) (hd : 0 ≤ d)  {x1 : Int32} {m : Mem} (n : Nat) (s : Int32 × Int32) {t : Int32} (h : lp (lX3_besideAny_4 x1 m) n s = some t) (hq : (qI r (K m)) t) : gX3_besideAny_4 xs d r K x1 m s := lp_ind (G := gX3_besideAny_4 xs d r K x1 m) (Qe := (qI r (K m))) (fun s t h hq => BX3_besideAny_4 hK hd s h hq) n s t h hq
theorem ufX3_besideAny {xs : List Int32} {d : Nat} {r : jR} {K : Mem → List jE} (hK : Ctx shC K) (hd : 0 ≤ d) {x1 : Int32} {m : Mem} {L : List (Nat × Value)} (l0 : jget L 0 = some (.ref 121)) (l1 : jget L 1 = some (.int x1)) {t : Int32} (h : fX3_besideAny x1 m = some t) (hq : (qI r (K m)) t) : RunD (jcs xs) d 4 (some .int) jt_X3_besideAny (0, L, [], (K m)) r := by
  unfold fX3_besideAny at h
  refine R_iconst (p := 1) rfl ki_0 rfl ?_
  refine R_istore_n (p := 2) rfl rfl rfl ?_
  refine R_iconst (p := 3) rfl ki_0 rfl ?_
  refine R_istore_n (p := 4) rfl rfl rfl ?_
  exact LX3_besideAny_4 hK hd _ _ h hq _ (jg_ne (jg_ne l0 rfl) rfl) (jg_ne (jg_ne l1 rfl) rfl) (jg_ne jg_self rfl) jg_self
theorem tfX3_besideAny {xs : List Int32} {d : Nat} {K : Mem → List jE} (hK : Ctx shC K) (hd : 1 ≤ d) {x1 : Int32} {m : Mem} {t : Int32} (h : fX3_besideAny x1 m = some t) : CallD (jcs xs) d 54 [.ref 121, .int x1] (K m) (some (.int t), (K m)) := by
  obtain ⟨d, rfl⟩ : ∃ z, d = z + 1 := ⟨d - 1, by omega⟩
  refine CallD_of jmt_X3_besideAny rfl ⟨rfl, Nat.le_of_ble_eq_true rfl⟩ ?_
  exact ufX3_besideAny hK (Nat.le_of_succ_le_succ hd) rfl rfl h rfl
noncomputable def lX3_wallsBetween_7 (x2 : Int32) (m : Mem) (s : Int32 × Int32) : Option ((Int32 × Int32) ⊕ Int32) := (if (16 : Int32) ≤ s.2 then some (.inr (-1 : Int32)) else (if ((jUshr s.1 x2) &&& (1 : Int32)) = (1 : Int32) then some (.inr s.2) else (fX3_besideAny s.1 m).bind fun q1 => some (.inl ((s.1 ||| q1), (s.2 + (1 : Int32))))))
noncomputable def gX3_wallsBetween_7 (xs : List Int32) (d : Nat) (r : jR) (K : Mem → List jE) (x2 : Int32) (m : Mem) (s : Int32 × Int32) : Prop := ∀ L, jget L 0 = some (.ref 121) → jget L 2 = some (.int x2) → jget L 3 = some (.int s.1) → jget L 4 = some (.int s.2) → RunD (jcs xs) d 5 (some .int) jt_X3_wallsBetween (7, L, [], (K m)) r
noncomputable def fX3_wallsBetween (x1 : Int32) (x2 : Int32) (m : Mem) : Option Int32 := lp (lX3_wallsBetween_7 x2 m) fu ((jShl (1 : Int32) x1), (0 : Int32))
theorem BX3_wallsBetween_7 {xs : List Int32} {d : Nat} {r : jR} {K : Mem → List jE} (hK : Ctx shC K) (hd : 1 ≤ d)  {x2 : Int32} {m : Mem} (s : Int32 × Int32) {t : (Int32 × Int32) ⊕ Int32} (h : lX3_wallsBetween_7 x2 m s = some t) (hq : sQ (gX3_wallsBetween_7 xs d r K x2 m) (qI r (K m)) t) : gX3_wallsBetween_7 xs d r K x2 m s := by
  intro L l0 l2 l3 l4
  unfold lX3_wallsBetween_7 at h
  refine R_iload (p := 9) rfl l4 rfl ?_
  refine R_bipush (p := 11) rfl kb_16 rfl ?_
  by_cases hc : (16 : Int32) ≤ s.2
  · replace h := ite_t h hc
    refine R_icge_t rfl hc ?_
    refine R_iconst (p := 41) rfl ki_m1 rfl ?_
    obtain rfl := Option.some.inj h
    exact R_ireturn rfl rfl hq
  · replace h := ite_f h hc
    refine R_icge_f (p := 14) rfl hc rfl ?_
    refine R_iload_n (p := 15) rfl l3 rfl ?_
    refine R_iload_n (p := 16) rfl l2 rfl ?_
    refine R_iushr (p := 17) rfl rfl ?_
    refine R_iconst (p := 18) rfl ki_1 rfl ?_
    refine R_iand (p := 19) rfl rfl ?_
    refine R_iconst (p := 20) rfl ki_1 rfl ?_
    by_cases hc : ((jUshr s.1 x2) &&& (1 : Int32)) = (1 : Int32)
    · replace h := ite_t h hc
      refine R_icne_f (p := 23) rfl (fun z => z hc) rfl ?_
      refine R_iload (p := 25) rfl l4 rfl ?_
      obtain rfl := Option.some.inj h
      exact R_ireturn rfl rfl hq
    · replace h := ite_f h hc
      refine R_icne_t rfl hc ?_
      refine R_iload_n (p := 27) rfl l3 rfl ?_
      refine R_aload_n (p := 28) rfl l0 rfl ?_
      refine R_iload_n (p := 29) rfl l3 rfl ?_
      obtain ⟨q1, eq1, h⟩ := bind_some h
      refine R_cV2v (p := 32) hK rfl rfl (tfX3_besideAny hK (Nat.le_trans (by decide) hd)  eq1) rfl rfl ?_
      refine R_ior (p := 33) rfl rfl ?_
      refine R_istore_n (p := 34) rfl rfl rfl ?_
      refine R_iinc (p := 37) rfl (jg_ne l4 rfl) rfl ki_1 rfl ?_
      refine R_goto rfl ?_
      obtain rfl := Option.some.inj h
      exact hq _ (jg_ne (jg_ne l0 rfl) rfl) (jg_ne (jg_ne l2 rfl) rfl) (jg_ne jg_self rfl) jg_self
theorem LX3_wallsBetween_7 {xs : List Int32} {d : Nat} {r : jR} {K : Mem → List jE} (hK : Ctx shC K) (hd : 1 ≤ d)  {x2 : Int32} {m : Mem} (n : Nat) (s : Int32 × Int32) {t : Int32} (h : lp (lX3_wallsBetween_7 x2 m) n s = some t) (hq : (qI r (K m)) t) : gX3_wallsBetween_7 xs d r K x2 m s := lp_ind (G := gX3_wallsBetween_7 xs d r K x2 m) (Qe := (qI r (K m))) (fun s t h hq => BX3_wallsBetween_7 hK hd s h hq) n s t h hq
theorem ufX3_wallsBetween {xs : List Int32} {d : Nat} {r : jR} {K : Mem → List jE} (hK : Ctx shC K) (hd : 1 ≤ d) {x1 : Int32} {x2 : Int32} {m : Mem} {L : List (Nat × Value)} (l0 : jget L 0 = some (.ref 121)) (l1 : jget L 1 = some (.int x1)) (l2 : jget L 2 = some (.int x2)) {t : Int32} (h : fX3_wallsBetween x1 x2 m = some t) (hq : (qI r (K m)) t) : RunD (jcs xs) d 5 (some .int) jt_X3_wallsBetween (0, L, [], (K m)) r := by
  unfold fX3_wallsBetween at h
  refine R_iconst (p := 1) rfl ki_1 rfl ?_
  refine R_iload_n (p := 2) rfl l1 rfl ?_
  refine R_ishl (p := 3) rfl rfl ?_
  refine R_istore_n (p := 4) rfl rfl rfl ?_
  refine R_iconst (p := 5) rfl ki_0 rfl ?_
  refine R_istore (p := 7) rfl rfl rfl ?_
  exact LX3_wallsBetween_7 hK hd _ _ h hq _ (jg_ne (jg_ne l0 rfl) rfl) (jg_ne (jg_ne l2 rfl) rfl) (jg_ne jg_self rfl) jg_self
theorem tfX3_wallsBetween {xs : List Int32} {d : Nat} {K : Mem → List jE} (hK : Ctx shC K) (hd : 2 ≤ d) {x1 : Int32} {x2 : Int32} {m : Mem} {t : Int32} (h : fX3_wallsBetween x1 x2 m = some t) : CallD (jcs xs) d 53 [.ref 121, .int x1, .int x2] (K m) (some (.int t), (K m)) := by
  obtain ⟨d, rfl⟩ : ∃ z, d = z + 1 := ⟨d - 1, by omega⟩
  refine CallD_of jmt_X3_wallsBetween rfl ⟨rfl, Nat.le_of_ble_eq_true rfl⟩ ?_
  exact ufX3_wallsBetween hK (Nat.le_of_succ_le_succ hd) rfl rfl rfl h rfl
noncomputable def fX8_way (x1 : Int32) (x2 : Int32) (m : Mem) : Option (Int32 × Mem) := (if (fX8_areBubbles x1 x2 m) = 0 then (fX8_no (1 : Int32) m).bind fun q2 => some (q2.1, q2.2) else (fX3_look 0 m).bind fun q3 => (fX3_wallsBetween x1 x2 q3).bind fun q4 => (if 0 ≤ q4 then some (q4, q3) else (fX8_no (2 : Int32) q3).bind fun q5 => some (q5.1, q5.2)))
theorem ufX8_way {xs : List Int32} {d : Nat} {r : jR} {K : Mem → List jE} (hK : Ctx shC K) (hd : 4 ≤ d) {x1 : Int32} {x2 : Int32} {m : Mem} {L : List (Nat × Value)} (l0 : jget L 0 = some (.ref 0)) (l1 : jget L 1 = some (.int x1)) (l2 : jget L 2 = some (.int x2)) {t : (Int32 × Mem)} (h : fX8_way x1 x2 m = some t) (hq : (qIM r K) t) : RunD (jcs xs) d 4 (some .int) jt_X8_way (0, L, [], (K m)) r := by
  unfold fX8_way at h
  refine R_aload_n (p := 1) rfl l0 rfl ?_
  refine R_iload_n (p := 2) rfl l1 rfl ?_
  refine R_iload_n (p := 3) rfl l2 rfl ?_
  refine R_cV3v (p := 6) hK rfl rfl (tfX8_areBubbles hK (Nat.le_trans (by decide) hd) ) rfl rfl ?_
  by_cases hc : (fX8_areBubbles x1 x2 m) = 0
  · replace h := ite_t h hc
    refine R_ifne_f (p := 9) rfl (fun z => z hc) rfl ?_
    refine R_aload_n (p := 10) rfl l0 rfl ?_
    refine R_iconst (p := 11) rfl ki_1 rfl ?_
    obtain ⟨q2, eq2, h⟩ := bind_some h
    refine R_cV2v (p := 14) hK rfl rfl (tfX8_no hK (Nat.le_trans (by decide) hd)  eq2) rfl rfl ?_
    obtain rfl := Option.some.inj h
    exact R_ireturn rfl rfl hq
  · replace h := ite_f h hc
    refine R_ifne_t rfl hc ?_
    refine R_aload_n (p := 16) rfl l0 rfl ?_
    refine R_getR (p := 19) (q := 121) hK rfl rfl rfl rfl ?_
    refine R_aload_n (p := 20) rfl l0 rfl ?_
    refine R_getR (p := 23) (q := (cw 0 1)) hK rfl rfl rfl rfl ?_
    refine R_getR (p := 26) (q := (cw 0 2)) hK rfl (s_w1 (by decide)) rfl rfl ?_
    obtain ⟨q3, eq3, h⟩ := bind_some h
    refine R_cV2n (p := 29) hK rfl rfl (tfX3_look hK (Nat.le_trans (by decide) hd) (by decide) eq3) rfl rfl ?_
    refine R_aload_n (p := 30) rfl l0 rfl ?_
    refine R_getR (p := 33) (q := 121) hK rfl rfl rfl rfl ?_
    refine R_iload_n (p := 34) rfl l1 rfl ?_
    refine R_iload_n (p := 35) rfl l2 rfl ?_
    obtain ⟨q4, eq4, h⟩ := bind_some h
    refine R_cV3v (p := 38) hK rfl rfl (tfX3_wallsBetween hK (Nat.le_trans (by decide) hd)  eq4) rfl rfl ?_
    refine R_istore_n (p := 39) rfl rfl rfl ?_
    refine R_iload_n (p := 40) rfl jg_self rfl ?_
    by_cases hc : 0 ≤ q4
    · replace h := ite_t h hc
      refine R_ifge_t rfl hc ?_
      refine R_iload_n (p := 52) rfl jg_self rfl ?_
      obtain rfl := Option.some.inj h
      exact R_ireturn rfl rfl hq
    · replace h := ite_f h hc
      refine R_ifge_f (p := 43) rfl hc rfl ?_
      refine R_aload_n (p := 44) rfl (jg_ne l0 rfl) rfl ?_
      refine R_iconst (p := 45) rfl ki_2 rfl ?_
      obtain ⟨q5, eq5, h⟩ := bind_some h
      refine R_cV2v (p := 48) hK rfl rfl (tfX8_no hK (Nat.le_trans (by decide) hd)  eq5) rfl rfl ?_
      refine R_goto rfl ?_
      obtain rfl := Option.some.inj h
      exact R_ireturn rfl rfl hq
theorem tfX8_way {xs : List Int32} {d : Nat} {K : Mem → List jE} (hK : Ctx shC K) (hd : 5 ≤ d) {x1 : Int32} {x2 : Int32} {m : Mem} {t : (Int32 × Mem)} (h : fX8_way x1 x2 m = some t) : CallD (jcs xs) d 130 [.ref 0, .int x1, .int x2] (K m) (some (.int t.1), K t.2) := by
  obtain ⟨d, rfl⟩ : ∃ z, d = z + 1 := ⟨d - 1, by omega⟩
  refine CallD_of jmt_X8_way rfl ⟨rfl, Nat.le_of_ble_eq_true rfl⟩ ?_
  exact ufX8_way hK (Nat.le_of_succ_le_succ hd) rfl rfl rfl h rfl
noncomputable def fX9_has (x0 : Int32) (x1 : Int32) : Int32 := (if ((jShr x0 x1) &&& (1 : Int32)) = (1 : Int32) then (1 : Int32) else (0 : Int32))
theorem ufX9_has {xs : List Int32} {d : Nat} {r : jR} {hh : List jE} (hd : 0 ≤ d) {x0 : Int32} {x1 : Int32} {L : List (Nat × Value)} (l0 : jget L 0 = some (.int x0)) (l1 : jget L 1 = some (.int x1)) {t : Int32} (h : fX9_has x0 x1 = t) (hq : (qI r hh) t) : RunD (jcs xs) d 2 (some .boolean) jt_X9_has (0, L, [], hh) r := by
  unfold fX9_has at h
  refine R_iload_n (p := 1) rfl l0 rfl ?_
  refine R_iload_n (p := 2) rfl l1 rfl ?_
  refine R_ishr (p := 3) rfl rfl ?_
  refine R_iconst (p := 4) rfl ki_1 rfl ?_
  refine R_iand (p := 5) rfl rfl ?_
  refine R_iconst (p := 6) rfl ki_1 rfl ?_
  by_cases hc : ((jShr x0 x1) &&& (1 : Int32)) = (1 : Int32)
  · replace h := ite_t h hc
    refine R_icne_f (p := 9) rfl (fun z => z hc) rfl ?_
    refine R_iconst (p := 10) rfl ki_1 rfl ?_
    refine R_goto rfl ?_
    subst h
    exact R_zreturn rfl rfl (by decide) hq
  · replace h := ite_f h hc
    refine R_icne_t rfl hc ?_
    refine R_iconst (p := 14) rfl ki_0 rfl ?_
    subst h
    exact R_zreturn rfl rfl (by decide) hq
theorem tfX9_has {xs : List Int32} {d : Nat} {hh : List jE} (hd : 1 ≤ d) {x0 : Int32} {x1 : Int32} : CallD (jcs xs) d 149 [.int x0, .int x1] hh (some (.int (fX9_has x0 x1)), hh) := by
  obtain ⟨d, rfl⟩ : ∃ z, d = z + 1 := ⟨d - 1, by omega⟩
  refine CallD_of jmt_X9_has rfl ⟨rfl, Nat.le_of_ble_eq_true rfl⟩ ?_
  exact ufX9_has (Nat.le_of_succ_le_succ hd) rfl rfl rfl rfl
noncomputable def lX9_besides_4 (x1 : Int32) (m : Mem) (s : Int32 × Int32) : Option ((Int32 × Int32) ⊕ Int32) := (fX9_sidesOf x1 m).bind fun q1 => (if q1 ≤ s.2 then some (.inr s.1) else (fX9_of x1 ((6 : Int32) + s.2) m).bind fun q2 => (if q2 = (16 : Int32) then some (.inl ((s.1 ||| (0 : Int32)), (s.2 + (1 : Int32)))) else some (.inl ((s.1 ||| (jShl (1 : Int32) q2)), (s.2 + (1 : Int32))))))
noncomputable def gX9_besides_4 (xs : List Int32) (d : Nat) (r : jR) (K : Mem → List jE) (x1 : Int32) (m : Mem) (s : Int32 × Int32) : Prop := ∀ L, jget L 0 = some (.ref 137) → jget L 1 = some (.int x1) → jget L 2 = some (.int s.1) → jget L 3 = some (.int s.2) → RunD (jcs xs) d 5 (some .int) jt_X9_besides (4, L, [], (K m)) r
noncomputable def fX9_besides (x1 : Int32) (m : Mem) : Option Int32 := lp (lX9_besides_4 x1 m) fu ((0 : Int32), (0 : Int32))
theorem BX9_besides_4 {xs : List Int32} {d : Nat} {r : jR} {K : Mem → List jE} (hK : Ctx shR K) (hd : 2 ≤ d)  {x1 : Int32} {m : Mem} (s : Int32 × Int32) {t : (Int32 × Int32) ⊕ Int32} (h : lX9_besides_4 x1 m s = some t) (hq : sQ (gX9_besides_4 xs d r K x1 m) (qI r (K m)) t) : gX9_besides_4 xs d r K x1 m s := by
  intro L l0 l1 l2 l3
  unfold lX9_besides_4 at h
  refine R_iload_n (p := 5) rfl l3 rfl ?_
  refine R_aload_n (p := 6) rfl l0 rfl ?_
  refine R_iload_n (p := 7) rfl l1 rfl ?_
  obtain ⟨q1, eq1, h⟩ := bind_some h
  refine R_cV2v (p := 10) hK rfl rfl (tfX9_sidesOf hK (Nat.le_trans (by decide) hd)  eq1) rfl rfl ?_
  by_cases hc : q1 ≤ s.2
  · replace h := ite_t h hc
    refine R_icge_t rfl hc ?_
    refine R_iload_n (p := 49) rfl l2 rfl ?_
    obtain rfl := Option.some.inj h
    exact R_ireturn rfl rfl hq
  · replace h := ite_f h hc
    refine R_icge_f (p := 13) rfl hc rfl ?_
    refine R_aload_n (p := 14) rfl l0 rfl ?_
    refine R_iload_n (p := 15) rfl l1 rfl ?_
    refine R_bipush (p := 17) rfl kb_6 rfl ?_
    refine R_iload_n (p := 18) rfl l3 rfl ?_
    refine R_iadd (p := 19) rfl rfl ?_
    obtain ⟨q2, eq2, h⟩ := bind_some h
    refine R_cV3v (p := 22) hK rfl rfl (tfX9_of hK (Nat.le_trans (by decide) hd)  eq2) rfl rfl ?_
    refine R_istore (p := 24) rfl rfl rfl ?_
    refine R_iload_n (p := 25) rfl (jg_ne l2 rfl) rfl ?_
    refine R_iload (p := 27) rfl jg_self rfl ?_
    refine R_bipush (p := 29) rfl kb_16 rfl ?_
    by_cases hc : q2 = (16 : Int32)
    · replace h := ite_t h hc
      refine R_icne_f (p := 32) rfl (fun z => z hc) rfl ?_
      refine R_iconst (p := 33) rfl ki_0 rfl ?_
      refine R_goto rfl ?_
      refine R_ior (p := 41) rfl rfl ?_
      refine R_istore_n (p := 42) rfl rfl rfl ?_
      refine R_iinc (p := 45) rfl (jg_ne (jg_ne l3 rfl) rfl) rfl ki_1 rfl ?_
      refine R_goto rfl ?_
      obtain rfl := Option.some.inj h
      exact hq _ (jg_ne (jg_ne (jg_ne l0 rfl) rfl) rfl) (jg_ne (jg_ne (jg_ne l1 rfl) rfl) rfl) (jg_ne jg_self rfl) jg_self
    · replace h := ite_f h hc
      refine R_icne_t rfl hc ?_
      refine R_iconst (p := 37) rfl ki_1 rfl ?_
      refine R_iload (p := 39) rfl jg_self rfl ?_
      refine R_ishl (p := 40) rfl rfl ?_
      refine R_ior (p := 41) rfl rfl ?_
      refine R_istore_n (p := 42) rfl rfl rfl ?_
      refine R_iinc (p := 45) rfl (jg_ne (jg_ne l3 rfl) rfl) rfl ki_1 rfl ?_
      refine R_goto rfl ?_
      obtain rfl := Option.some.inj h
      exact hq _ (jg_ne (jg_ne (jg_ne l0 rfl) rfl) rfl) (jg_ne (jg_ne (jg_ne l1 rfl) rfl) rfl) (jg_ne jg_self rfl) jg_self
theorem LX9_besides_4 {xs : List Int32} {d : Nat} {r : jR} {K : Mem → List jE} (hK : Ctx shR K) (hd : 2 ≤ d)  {x1 : Int32} {m : Mem} (n : Nat) (s : Int32 × Int32) {t : Int32} (h : lp (lX9_besides_4 x1 m) n s = some t) (hq : (qI r (K m)) t) : gX9_besides_4 xs d r K x1 m s := lp_ind (G := gX9_besides_4 xs d r K x1 m) (Qe := (qI r (K m))) (fun s t h hq => BX9_besides_4 hK hd s h hq) n s t h hq
theorem ufX9_besides {xs : List Int32} {d : Nat} {r : jR} {K : Mem → List jE} (hK : Ctx shR K) (hd : 2 ≤ d) {x1 : Int32} {m : Mem} {L : List (Nat × Value)} (l0 : jget L 0 = some (.ref 137)) (l1 : jget L 1 = some (.int x1)) {t : Int32} (h : fX9_besides x1 m = some t) (hq : (qI r (K m)) t) : RunD (jcs xs) d 5 (some .int) jt_X9_besides (0, L, [], (K m)) r := by
  unfold fX9_besides at h
  refine R_iconst (p := 1) rfl ki_0 rfl ?_
  refine R_istore_n (p := 2) rfl rfl rfl ?_
  refine R_iconst (p := 3) rfl ki_0 rfl ?_
  refine R_istore_n (p := 4) rfl rfl rfl ?_
  exact LX9_besides_4 hK hd _ _ h hq _ (jg_ne (jg_ne l0 rfl) rfl) (jg_ne (jg_ne l1 rfl) rfl) (jg_ne jg_self rfl) jg_self
theorem tfX9_besides {xs : List Int32} {d : Nat} {K : Mem → List jE} (hK : Ctx shR K) (hd : 3 ≤ d) {x1 : Int32} {m : Mem} {t : Int32} (h : fX9_besides x1 m = some t) : CallD (jcs xs) d 229 [.ref 137, .int x1] (K m) (some (.int t), (K m)) := by
  obtain ⟨d, rfl⟩ : ∃ z, d = z + 1 := ⟨d - 1, by omega⟩
  refine CallD_of jmt_X9_besides rfl ⟨rfl, Nat.le_of_ble_eq_true rfl⟩ ?_
  exact ufX9_besides hK (Nat.le_of_succ_le_succ hd) rfl rfl h rfl
noncomputable def bX9_way_16 (m : Mem) : Option (Int32 × Mem) := (fX9_finding (-1000001 : Int32) m).bind fun q2 => some (q2.1, q2.2)
noncomputable def bX9_way_95 (x2 : Int32) (x3 : Int32) (x5 : Int32) (m : Mem) : Option (Int32 × Mem) := (if (fX9_has x3 x2) = 0 then (fX9_finding (-1000002 : Int32) m).bind fun q6 => some (q6.1, q6.2) else some (x5, m))
noncomputable def lX9_way_53 (x2 : Int32) (x4 : Int32) (x5 : Int32) (m : Mem) (s : Int32 × Int32) : Option ((Int32 × Int32) ⊕ ((Int32 × Int32 × Int32) ⊕ (Int32 × Mem))) := (if (16 : Int32) ≤ s.2 then some (.inr (.inl (s.1, x4, (x5 + (1 : Int32))))) else (if (fX9_has x4 s.2) = 0 then some (.inl ((s.1 ||| (0 : Int32)), (s.2 + (1 : Int32)))) else (fX9_besides s.2 m).bind fun q8 => some (.inl ((s.1 ||| q8), (s.2 + (1 : Int32))))))
noncomputable def gX9_way_53 (xs : List Int32) (d : Nat) (r : jR) (K : Mem → List jE) (x2 : Int32) (x4 : Int32) (x5 : Int32) (m : Mem) (s : Int32 × Int32) : Prop := ∀ L, jget L 0 = some (.ref 137) → jget L 2 = some (.int x2) → jget L 4 = some (.int x4) → jget L 5 = some (.int x5) → jget L 3 = some (.int s.1) → jget L 6 = some (.int s.2) → RunD (jcs xs) d 7 (some .int) jt_X9_way (53, L, [], (K m)) r
noncomputable def lX9_way_33 (x2 : Int32) (m : Mem) (s : Int32 × Int32 × Int32) : Option ((Int32 × Int32 × Int32) ⊕ (Int32 × Mem)) := (if (fX9_has s.1 x2) = 0 then (if s.1 = s.2.1 then (bX9_way_95 x2 s.1 s.2.2 m).map Sum.inr else lp (lX9_way_53 x2 s.1 s.2.2 m) fu (s.1, (0 : Int32))) else (bX9_way_95 x2 s.1 s.2.2 m).map Sum.inr)
noncomputable def gX9_way_33 (xs : List Int32) (d : Nat) (r : jR) (K : Mem → List jE) (x2 : Int32) (m : Mem) (s : Int32 × Int32 × Int32) : Prop := ∀ L, jget L 0 = some (.ref 137) → jget L 2 = some (.int x2) → jget L 3 = some (.int s.1) → jget L 4 = some (.int s.2.1) → jget L 5 = some (.int s.2.2) → RunD (jcs xs) d 7 (some .int) jt_X9_way (33, L, [], (K m)) r
noncomputable def fX9_way (x1 : Int32) (x2 : Int32) (m : Mem) : Option (Int32 × Mem) := (fX9_is x1 m).bind fun q1 => (if q1 = 0 then bX9_way_16 m else (fX9_is x2 m).bind fun q3 => (if q3 = 0 then bX9_way_16 m else lp (lX9_way_33 x2 m) fu ((jShl (1 : Int32) x1), (0 : Int32), (0 : Int32))))
theorem tbX9_way_16 {xs : List Int32} {d : Nat} {r : jR} {K : Mem → List jE} (hK : Ctx shR K) (hd : 3 ≤ d)  {m : Mem} {L : List (Nat × Value)} (l0 : jget L 0 = some (.ref 137)) {t : (Int32 × Mem)} (h : bX9_way_16 m = some t) (hq : (qIM r K) t) : RunD (jcs xs) d 7 (some .int) jt_X9_way (16, L, [], (K m)) r := by
  unfold bX9_way_16 at h
  refine R_aload_n (p := 17) rfl l0 rfl ?_
  refine R_ldc (p := 19) rfl kl_m1000001 rfl ?_
  obtain ⟨q2, eq2, h⟩ := bind_some h
  refine R_cV2v (p := 22) hK rfl rfl (tfX9_finding hK (Nat.le_trans (by decide) hd)  eq2) rfl rfl ?_
  obtain rfl := Option.some.inj h
  exact R_ireturn rfl rfl hq
theorem tbX9_way_95 {xs : List Int32} {d : Nat} {r : jR} {K : Mem → List jE} (hK : Ctx shR K) (hd : 3 ≤ d)  {x2 : Int32} {x3 : Int32} {x5 : Int32} {m : Mem} {L : List (Nat × Value)} (l0 : jget L 0 = some (.ref 137)) (l2 : jget L 2 = some (.int x2)) (l3 : jget L 3 = some (.int x3)) (l5 : jget L 5 = some (.int x5)) {t : (Int32 × Mem)} (h : bX9_way_95 x2 x3 x5 m = some t) (hq : (qIM r K) t) : RunD (jcs xs) d 7 (some .int) jt_X9_way (95, L, [], (K m)) r := by
  unfold bX9_way_95 at h
  refine R_iload_n (p := 96) rfl l3 rfl ?_
  refine R_iload_n (p := 97) rfl l2 rfl ?_
  refine R_cS2v (p := 100) rfl (tfX9_has (Nat.le_trans (by decide) hd) ) rfl rfl ?_
  by_cases hc : (fX9_has x3 x2) = 0
  · replace h := ite_t h hc
    refine R_ifeq_t rfl hc ?_
    refine R_aload_n (p := 109) rfl l0 rfl ?_
    refine R_ldc (p := 111) rfl kl_m1000002 rfl ?_
    obtain ⟨q6, eq6, h⟩ := bind_some h
    refine R_cV2v (p := 114) hK rfl rfl (tfX9_finding hK (Nat.le_trans (by decide) hd)  eq6) rfl rfl ?_
    obtain rfl := Option.some.inj h
    exact R_ireturn rfl rfl hq
  · replace h := ite_f h hc
    refine R_ifeq_f (p := 103) rfl hc rfl ?_
    refine R_iload (p := 105) rfl l5 rfl ?_
    refine R_goto rfl ?_
    obtain rfl := Option.some.inj h
    exact R_ireturn rfl rfl hq
theorem BX9_way_53 {xs : List Int32} {d : Nat} {r : jR} {K : Mem → List jE} (hK : Ctx shR K) (hd : 3 ≤ d)  {x2 : Int32} {x4 : Int32} {x5 : Int32} {m : Mem} (s : Int32 × Int32) {t : (Int32 × Int32) ⊕ ((Int32 × Int32 × Int32) ⊕ (Int32 × Mem))} (h : lX9_way_53 x2 x4 x5 m s = some t) (hq : sQ (gX9_way_53 xs d r K x2 x4 x5 m) (sQ (gX9_way_33 xs d r K x2 m) (qIM r K)) t) : gX9_way_53 xs d r K x2 x4 x5 m s := by
  intro L l0 l2 l4 l5 l3 l6
  unfold lX9_way_53 at h
  refine R_iload (p := 55) rfl l6 rfl ?_
  refine R_bipush (p := 57) rfl kb_16 rfl ?_
  by_cases hc : (16 : Int32) ≤ s.2
  · replace h := ite_t h hc
    refine R_icge_t rfl hc ?_
    refine R_iinc (p := 92) rfl l5 rfl ki_1 rfl ?_
    refine R_goto rfl ?_
    obtain rfl := Option.some.inj h
    exact hq _ (jg_ne l0 rfl) (jg_ne l2 rfl) (jg_ne l3 rfl) (jg_ne l4 rfl) jg_self
  · replace h := ite_f h hc
    refine R_icge_f (p := 60) rfl hc rfl ?_
    refine R_iload_n (p := 61) rfl l3 rfl ?_
    refine R_iload (p := 63) rfl l4 rfl ?_
    refine R_iload (p := 65) rfl l6 rfl ?_
    refine R_cS2v (p := 68) rfl (tfX9_has (Nat.le_trans (by decide) hd) ) rfl rfl ?_
    by_cases hc : (fX9_has x4 s.2) = 0
    · replace h := ite_t h hc
      refine R_ifeq_t rfl hc ?_
      refine R_iconst (p := 81) rfl ki_0 rfl ?_
      refine R_ior (p := 82) rfl rfl ?_
      refine R_istore_n (p := 83) rfl rfl rfl ?_
      refine R_iinc (p := 86) rfl (jg_ne l6 rfl) rfl ki_1 rfl ?_
      refine R_goto rfl ?_
      obtain rfl := Option.some.inj h
      exact hq _ (jg_ne (jg_ne l0 rfl) rfl) (jg_ne (jg_ne l2 rfl) rfl) (jg_ne (jg_ne l4 rfl) rfl) (jg_ne (jg_ne l5 rfl) rfl) (jg_ne jg_self rfl) jg_self
    · replace h := ite_f h hc
      refine R_ifeq_f (p := 71) rfl hc rfl ?_
      refine R_aload_n (p := 72) rfl l0 rfl ?_
      refine R_iload (p := 74) rfl l6 rfl ?_
      obtain ⟨q8, eq8, h⟩ := bind_some h
      refine R_cV2v (p := 77) hK rfl rfl (tfX9_besides hK (Nat.le_trans (by decide) hd)  eq8) rfl rfl ?_
      refine R_goto rfl ?_
      refine R_ior (p := 82) rfl rfl ?_
      refine R_istore_n (p := 83) rfl rfl rfl ?_
      refine R_iinc (p := 86) rfl (jg_ne l6 rfl) rfl ki_1 rfl ?_
      refine R_goto rfl ?_
      obtain rfl := Option.some.inj h
      exact hq _ (jg_ne (jg_ne l0 rfl) rfl) (jg_ne (jg_ne l2 rfl) rfl) (jg_ne (jg_ne l4 rfl) rfl) (jg_ne (jg_ne l5 rfl) rfl) (jg_ne jg_self rfl) jg_self
theorem LX9_way_53 {xs : List Int32} {d : Nat} {r : jR} {K : Mem → List jE} (hK : Ctx shR K) (hd : 3 ≤ d)  {x2 : Int32} {x4 : Int32} {x5 : Int32} {m : Mem} (n : Nat) (s : Int32 × Int32) {t : ((Int32 × Int32 × Int32) ⊕ (Int32 × Mem))} (h : lp (lX9_way_53 x2 x4 x5 m) n s = some t) (hq : (sQ (gX9_way_33 xs d r K x2 m) (qIM r K)) t) : gX9_way_53 xs d r K x2 x4 x5 m s := lp_ind (G := gX9_way_53 xs d r K x2 x4 x5 m) (Qe := (sQ (gX9_way_33 xs d r K x2 m) (qIM r K))) (fun s t h hq => BX9_way_53 hK hd s h hq) n s t h hq
theorem BX9_way_33 {xs : List Int32} {d : Nat} {r : jR} {K : Mem → List jE} (hK : Ctx shR K) (hd : 3 ≤ d)  {x2 : Int32} {m : Mem} (s : Int32 × Int32 × Int32) {t : (Int32 × Int32 × Int32) ⊕ (Int32 × Mem)} (h : lX9_way_33 x2 m s = some t) (hq : sQ (gX9_way_33 xs d r K x2 m) (qIM r K) t) : gX9_way_33 xs d r K x2 m s := by
  intro L l0 l2 l3 l4 l5
  unfold lX9_way_33 at h
  refine R_iload_n (p := 34) rfl l3 rfl ?_
  refine R_iload_n (p := 35) rfl l2 rfl ?_
  refine R_cS2v (p := 38) rfl (tfX9_has (Nat.le_trans (by decide) hd) ) rfl rfl ?_
  by_cases hc : (fX9_has s.1 x2) = 0
  · replace h := ite_t h hc
    refine R_ifne_f (p := 41) rfl (fun z => z hc) rfl ?_
    refine R_iload_n (p := 42) rfl l3 rfl ?_
    refine R_iload (p := 44) rfl l4 rfl ?_
    by_cases hc : s.1 = s.2.1
    · replace h := ite_t h hc
      refine R_iceq_t rfl hc ?_
      obtain ⟨w9, h9, rfl⟩ := map_inr h
      replace h := h9
      exact tbX9_way_95 hK hd l0 l2 l3 l5 h hq
    · replace h := ite_f h hc
      refine R_iceq_f (p := 47) rfl hc rfl ?_
      refine R_iload_n (p := 48) rfl l3 rfl ?_
      refine R_istore (p := 50) rfl rfl rfl ?_
      refine R_iconst (p := 51) rfl ki_0 rfl ?_
      refine R_istore (p := 53) rfl rfl rfl ?_
      exact LX9_way_53 hK hd _ _ h hq _ (jg_ne (jg_ne l0 rfl) rfl) (jg_ne (jg_ne l2 rfl) rfl) (jg_ne jg_self rfl) (jg_ne (jg_ne l5 rfl) rfl) (jg_ne (jg_ne l3 rfl) rfl) jg_self
  · replace h := ite_f h hc
    refine R_ifne_t rfl hc ?_
    obtain ⟨w9, h9, rfl⟩ := map_inr h
    replace h := h9
    exact tbX9_way_95 hK hd l0 l2 l3 l5 h hq
theorem LX9_way_33 {xs : List Int32} {d : Nat} {r : jR} {K : Mem → List jE} (hK : Ctx shR K) (hd : 3 ≤ d)  {x2 : Int32} {m : Mem} (n : Nat) (s : Int32 × Int32 × Int32) {t : (Int32 × Mem)} (h : lp (lX9_way_33 x2 m) n s = some t) (hq : (qIM r K) t) : gX9_way_33 xs d r K x2 m s := lp_ind (G := gX9_way_33 xs d r K x2 m) (Qe := (qIM r K)) (fun s t h hq => BX9_way_33 hK hd s h hq) n s t h hq
theorem ufX9_way {xs : List Int32} {d : Nat} {r : jR} {K : Mem → List jE} (hK : Ctx shR K) (hd : 3 ≤ d) {x1 : Int32} {x2 : Int32} {m : Mem} {L : List (Nat × Value)} (l0 : jget L 0 = some (.ref 137)) (l1 : jget L 1 = some (.int x1)) (l2 : jget L 2 = some (.int x2)) {t : (Int32 × Mem)} (h : fX9_way x1 x2 m = some t) (hq : (qIM r K) t) : RunD (jcs xs) d 7 (some .int) jt_X9_way (0, L, [], (K m)) r := by
  unfold fX9_way at h
  refine R_aload_n (p := 1) rfl l0 rfl ?_
  refine R_iload_n (p := 2) rfl l1 rfl ?_
  obtain ⟨q1, eq1, h⟩ := bind_some h
  refine R_cV2v (p := 5) hK rfl rfl (tfX9_is hK (Nat.le_trans (by decide) hd)  eq1) rfl rfl ?_
  by_cases hc : q1 = 0
  · replace h := ite_t h hc
    refine R_ifeq_t rfl hc ?_
    exact tbX9_way_16 hK hd l0 h hq
  · replace h := ite_f h hc
    refine R_ifeq_f (p := 8) rfl hc rfl ?_
    refine R_aload_n (p := 9) rfl l0 rfl ?_
    refine R_iload_n (p := 10) rfl l2 rfl ?_
    obtain ⟨q3, eq3, h⟩ := bind_some h
    refine R_cV2v (p := 13) hK rfl rfl (tfX9_is hK (Nat.le_trans (by decide) hd)  eq3) rfl rfl ?_
    by_cases hc : q3 = 0
    · replace h := ite_t h hc
      refine R_ifne_f (p := 16) rfl (fun z => z hc) rfl ?_
      exact tbX9_way_16 hK hd l0 h hq
    · replace h := ite_f h hc
      refine R_ifne_t rfl hc ?_
      refine R_iconst (p := 24) rfl ki_1 rfl ?_
      refine R_iload_n (p := 25) rfl l1 rfl ?_
      refine R_ishl (p := 26) rfl rfl ?_
      refine R_istore_n (p := 27) rfl rfl rfl ?_
      refine R_iconst (p := 28) rfl ki_0 rfl ?_
      refine R_istore (p := 30) rfl rfl rfl ?_
      refine R_iconst (p := 31) rfl ki_0 rfl ?_
      refine R_istore (p := 33) rfl rfl rfl ?_
      exact LX9_way_33 hK hd _ _ h hq _ (jg_ne (jg_ne (jg_ne l0 rfl) rfl) rfl) (jg_ne (jg_ne (jg_ne l2 rfl) rfl) rfl) (jg_ne (jg_ne jg_self rfl) rfl) (jg_ne jg_self rfl) jg_self
theorem tfX9_way {xs : List Int32} {d : Nat} {K : Mem → List jE} (hK : Ctx shR K) (hd : 4 ≤ d) {x1 : Int32} {x2 : Int32} {m : Mem} {t : (Int32 × Mem)} (h : fX9_way x1 x2 m = some t) : CallD (jcs xs) d 230 [.ref 137, .int x1, .int x2] (K m) (some (.int t.1), K t.2) := by
  obtain ⟨d, rfl⟩ : ∃ z, d = z + 1 := ⟨d - 1, by omega⟩
  refine CallD_of jmt_X9_way rfl ⟨rfl, Nat.le_of_ble_eq_true rfl⟩ ?_
  exact ufX9_way hK (Nat.le_of_succ_le_succ hd) rfl rfl rfl h rfl
noncomputable def lJ7_fill_53178_4_5 (c0 : Nat) (x1 : Int32) (x3 : Int32) (s : Int32 × Mem) : Option ((Int32 × Mem) ⊕ Mem) := (if x3 ≤ s.1 then some (.inr s.2) else (if inb s.1 4 then some (.inl ((s.1 + (1 : Int32)), (mput s.2 c0 s.1.toNatClampNeg x1))) else none))
noncomputable def gJ7_fill_53178_4_5 (xs : List Int32) (d : Nat) (r : jR) (K : Mem → List jE) (c0 : Nat) (x1 : Int32) (x3 : Int32) (s : Int32 × Mem) : Prop := ∀ L, jget L 0 = some (.ref c0) → jget L 1 = some (.int x1) → jget L 3 = some (.int x3) → jget L 2 = some (.int s.1) → RunD (jcs xs) d 4 (none) jt_J7_fill_53178 (5, L, [], (K s.2)) r
noncomputable def fJ7_fill_53178_4 (c0 : Nat) (x1 : Int32) (m : Mem) : Option Mem := lp (lJ7_fill_53178_4_5 c0 x1 (4 : Int32)) fu ((0 : Int32), m)
theorem BJ7_fill_53178_4_5 {xs : List Int32} {d : Nat} {r : jR} {sh : Nat → Option Shp} {K : Mem → List jE} (hK : Ctx sh K) (hd : 0 ≤ d) {c0 : Nat} (hc0 : sh c0 = some (.inr (.inl 4)))  {x1 : Int32} {x3 : Int32} (s : Int32 × Mem) {t : (Int32 × Mem) ⊕ Mem} (h : lJ7_fill_53178_4_5 c0 x1 x3 s = some t) (hq : sQ (gJ7_fill_53178_4_5 xs d r K c0 x1 x3) (qM r K) t) : gJ7_fill_53178_4_5 xs d r K c0 x1 x3 s := by
  intro L l0 l1 l3 l2
  unfold lJ7_fill_53178_4_5 at h
  refine R_iload_n (p := 6) rfl l2 rfl ?_
  refine R_iload_n (p := 7) rfl l3 rfl ?_
  by_cases hc : x3 ≤ s.1
  · replace h := ite_t h hc
    refine R_icge_t rfl hc ?_
    obtain rfl := Option.some.inj h
    exact R_return rfl rfl hq
  · replace h := ite_f h hc
    refine R_icge_f (p := 10) rfl hc rfl ?_
    refine R_aload_n (p := 11) rfl l0 rfl ?_
    refine R_iload_n (p := 12) rfl l2 rfl ?_
    refine R_iload_n (p := 13) rfl l1 rfl ?_
    obtain ⟨b1, h⟩ := gd h
    refine R_iast (p := 14) hK rfl hc0 b1 rfl ?_
    refine R_iinc (p := 17) rfl l2 rfl ki_1 rfl ?_
    refine R_goto rfl ?_
    obtain rfl := Option.some.inj h
    exact hq _ (jg_ne l0 rfl) (jg_ne l1 rfl) (jg_ne l3 rfl) jg_self
theorem LJ7_fill_53178_4_5 {xs : List Int32} {d : Nat} {r : jR} {sh : Nat → Option Shp} {K : Mem → List jE} (hK : Ctx sh K) (hd : 0 ≤ d) {c0 : Nat} (hc0 : sh c0 = some (.inr (.inl 4)))  {x1 : Int32} {x3 : Int32} (n : Nat) (s : Int32 × Mem) {t : Mem} (h : lp (lJ7_fill_53178_4_5 c0 x1 x3) n s = some t) (hq : (qM r K) t) : gJ7_fill_53178_4_5 xs d r K c0 x1 x3 s := lp_ind (G := gJ7_fill_53178_4_5 xs d r K c0 x1 x3) (Qe := (qM r K)) (fun s t h hq => BJ7_fill_53178_4_5 hK hd hc0 s h hq) n s t h hq
theorem ufJ7_fill_53178_4 {xs : List Int32} {d : Nat} {r : jR} {sh : Nat → Option Shp} {K : Mem → List jE} (hK : Ctx sh K) (hd : 0 ≤ d) {c0 : Nat} (hc0 : sh c0 = some (.inr (.inl 4))) {x1 : Int32} {m : Mem} {L : List (Nat × Value)} (l0 : jget L 0 = some (.ref c0)) (l1 : jget L 1 = some (.int x1)) {t : Mem} (h : fJ7_fill_53178_4 c0 x1 m = some t) (hq : (qM r K) t) : RunD (jcs xs) d 4 (none) jt_J7_fill_53178 (0, L, [], (K m)) r := by
  unfold fJ7_fill_53178_4 at h
  refine R_iconst (p := 1) rfl ki_0 rfl ?_
  refine R_istore_n (p := 2) rfl rfl rfl ?_
  refine R_aload_n (p := 3) rfl (jg_ne l0 rfl) rfl ?_
  refine R_alen (p := 4) (x := (4 : Int32)) hK rfl hc0 rfl rfl ?_
  refine R_istore_n (p := 5) rfl rfl rfl ?_
  exact LJ7_fill_53178_4_5 hK hd hc0 _ _ h hq _ (jg_ne (jg_ne l0 rfl) rfl) (jg_ne (jg_ne l1 rfl) rfl) jg_self (jg_ne jg_self rfl)
theorem tfJ7_fill_53178_4 {xs : List Int32} {d : Nat} {sh : Nat → Option Shp} {K : Mem → List jE} (hK : Ctx sh K) (hd : 1 ≤ d) {c0 : Nat} (hc0 : sh c0 = some (.inr (.inl 4))) {x1 : Int32} {m : Mem} {t : Mem} (h : fJ7_fill_53178_4 c0 x1 m = some t) : CallD (jcs xs) d 263 [.ref c0, .int x1] (K m) (none, K t) := by
  obtain ⟨d, rfl⟩ : ∃ z, d = z + 1 := ⟨d - 1, by omega⟩
  refine CallD_of jmt_J7_fill_53178 rfl ⟨rfl, Nat.le_of_ble_eq_true rfl⟩ ?_
  exact ufJ7_fill_53178_4 hK (Nat.le_of_succ_le_succ hd) hc0 rfl rfl h rfl
noncomputable def lX3_paintFrom_49 (e : Int32 → Int32 → Int32 → Mem → Option (Int32 × Mem)) (x1 : Int32) (x2 : Int32) (x3 : Int32) (x4 : Int32) (s : Int32 × Mem) : Option ((Int32 × Mem) ⊕ (Int32 × Mem)) := (if x4 ≤ s.1 then some (.inr ((0 : Int32), s.2)) else (if inb s.1 4 then (if inb x1 16 then (if ((s.2 124 s.1.toNatClampNeg) &&& (s.2 123 x1.toNatClampNeg)) = 0 then (if inb s.1 4 then (if inb s.1 4 then (if inb x1 16 then (e (x1 + (1 : Int32)) x2 (fJ9_max_7cf53 x3 (s.1 + (1 : Int32))) (mput (mput s.2 124 s.1.toNatClampNeg ((s.2 124 s.1.toNatClampNeg) ||| (jShl (1 : Int32) x1))) 122 x1.toNatClampNeg s.1)).bind fun q11 => (if q11.1 = 0 then (if inb s.1 4 then (if inb s.1 4 then some (.inl ((s.1 + (1 : Int32)), (mput q11.2 124 s.1.toNatClampNeg ((q11.2 124 s.1.toNatClampNeg) &&& ((jShl (1 : Int32) x1) ^^^ (-1 : Int32)))))) else none) else none) else some (.inr ((1 : Int32), q11.2))) else none) else none) else none) else some (.inl ((s.1 + (1 : Int32)), s.2))) else none) else none))
noncomputable def gX3_paintFrom_49 (xs : List Int32) (d : Nat) (r : jR) (K : Mem → List jE) (x1 : Int32) (x2 : Int32) (x3 : Int32) (x4 : Int32) (s : Int32 × Mem) : Prop := ∀ L, jget L 0 = some (.ref 121) → jget L 1 = some (.int x1) → jget L 2 = some (.int x2) → jget L 3 = some (.int x3) → jget L 4 = some (.int x4) → jget L 5 = some (.int s.1) → RunD (jcs xs) d 6 (some .boolean) jt_X3_paintFrom (49, L, [], (K s.2)) r
noncomputable def fX3_paintFrom (e : Int32 → Int32 → Int32 → Mem → Option (Int32 × Mem)) (x1 : Int32) (x2 : Int32) (x3 : Int32) (m : Mem) : Option (Int32 × Mem) := (if x1 < 0 then some ((1 : Int32), m) else (if x1 < (16 : Int32) then (if ((jUshr (m 121 3) x1) &&& (1 : Int32)) = 0 then (e (x1 + (1 : Int32)) x2 x3 m).bind fun q1 => (if q1.1 = 0 ∨ q1.1 = 1 then some (q1.1, q1.2) else none) else lp (lX3_paintFrom_49 e x1 x2 x3 (fJ9_min_7cf53 (4 : Int32) (fJ9_min_7cf53 x2 (x3 + (1 : Int32))))) fu ((0 : Int32), m)) else some ((1 : Int32), m)))
theorem BX3_paintFrom_49 {xs : List Int32} {d : Nat} {r : jR} {K : Mem → List jE} (hK : Ctx shC K) {d0 : Nat} (hd : d0 + 1 ≤ d) {e : Int32 → Int32 → Int32 → Mem → Option (Int32 × Mem)} (he : ∀ d9, d0 ≤ d9 → ∀ (x1 : Int32) (x2 : Int32) (x3 : Int32) (m9 : Mem) (q9 : (Int32 × Mem)), e x1 x2 x3 m9 = some q9 → CallD (jcs xs) d9 56 [.ref 121, .int x1, .int x2, .int x3] (K m9) (some (.int q9.1), K q9.2))  {x1 : Int32} {x2 : Int32} {x3 : Int32} {x4 : Int32} (s : Int32 × Mem) {t : (Int32 × Mem) ⊕ (Int32 × Mem)} (h : lX3_paintFrom_49 e x1 x2 x3 x4 s = some t) (hq : sQ (gX3_paintFrom_49 xs d r K x1 x2 x3 x4) (qIM r K) t) : gX3_paintFrom_49 xs d r K x1 x2 x3 x4 s := by
  intro L l0 l1 l2 l3 l4 l5
  unfold lX3_paintFrom_49 at h
  refine R_iload (p := 51) rfl l5 rfl ?_
  refine R_iload (p := 53) rfl l4 rfl ?_
  by_cases hc : x4 ≤ s.1
  · replace h := ite_t h hc
    refine R_icge_t rfl hc ?_
    refine R_iconst (p := 137) rfl ki_0 rfl ?_
    obtain rfl := Option.some.inj h
    exact R_zreturn rfl rfl (by decide) hq
  · replace h := ite_f h hc
    refine R_icge_f (p := 56) rfl hc rfl ?_
    refine R_aload_n (p := 57) rfl l0 rfl ?_
    refine R_getR (p := 60) (q := 124) hK rfl rfl rfl rfl ?_
    refine R_iload (p := 62) rfl l5 rfl ?_
    obtain ⟨b5, h⟩ := gd h
    refine R_iald (p := 63) hK rfl rfl b5 rfl ?_
    refine R_aload_n (p := 64) rfl l0 rfl ?_
    refine R_getR (p := 67) (q := 123) hK rfl rfl rfl rfl ?_
    refine R_iload_n (p := 68) rfl l1 rfl ?_
    obtain ⟨b6, h⟩ := gd h
    refine R_iald (p := 69) hK rfl rfl b6 rfl ?_
    refine R_iand (p := 70) rfl rfl ?_
    by_cases hc : ((s.2 124 s.1.toNatClampNeg) &&& (s.2 123 x1.toNatClampNeg)) = 0
    · replace h := ite_t h hc
      refine R_ifne_f (p := 73) rfl (fun z => z hc) rfl ?_
      refine R_aload_n (p := 74) rfl l0 rfl ?_
      refine R_getR (p := 77) (q := 124) hK rfl rfl rfl rfl ?_
      refine R_iload (p := 79) rfl l5 rfl ?_
      refine R_dup2ia (p := 80) rfl rfl ?_
      obtain ⟨b7, h⟩ := gd h
      refine R_iald (p := 81) hK rfl rfl b7 rfl ?_
      refine R_iconst (p := 82) rfl ki_1 rfl ?_
      refine R_iload_n (p := 83) rfl l1 rfl ?_
      refine R_ishl (p := 84) rfl rfl ?_
      refine R_ior (p := 85) rfl rfl ?_
      obtain ⟨b8, h⟩ := gd h
      refine R_iast (p := 86) hK rfl rfl b8 rfl ?_
      refine R_aload_n (p := 87) rfl l0 rfl ?_
      refine R_getR (p := 90) (q := 122) hK rfl rfl rfl rfl ?_
      refine R_iload_n (p := 91) rfl l1 rfl ?_
      refine R_iload (p := 93) rfl l5 rfl ?_
      obtain ⟨b9, h⟩ := gd h
      refine R_iast (p := 94) hK rfl rfl b9 rfl ?_
      refine R_aload_n (p := 95) rfl l0 rfl ?_
      refine R_iload_n (p := 96) rfl l1 rfl ?_
      refine R_iconst (p := 97) rfl ki_1 rfl ?_
      refine R_iadd (p := 98) rfl rfl ?_
      refine R_iload_n (p := 99) rfl l2 rfl ?_
      refine R_iload_n (p := 100) rfl l3 rfl ?_
      refine R_iload (p := 102) rfl l5 rfl ?_
      refine R_iconst (p := 103) rfl ki_1 rfl ?_
      refine R_iadd (p := 104) rfl rfl ?_
      refine R_cS2v (p := 107) rfl (tfJ9_max_7cf53 (Nat.le_trans (Nat.le_trans (by decide) (Nat.le_add_left _ _)) hd) ) rfl rfl ?_
      obtain ⟨q11, eq11, h⟩ := bind_some h
      refine R_cS4v (p := 110) rfl (he _ (Nat.le_trans (Nat.le_add_right _ _) hd) _ _ _ _ _ eq11) rfl rfl ?_
      by_cases hc : q11.1 = 0
      · replace h := ite_t h hc
        refine R_ifeq_t rfl hc ?_
        refine R_aload_n (p := 116) rfl l0 rfl ?_
        refine R_getR (p := 119) (q := 124) hK rfl rfl rfl rfl ?_
        refine R_iload (p := 121) rfl l5 rfl ?_
        refine R_dup2ia (p := 122) rfl rfl ?_
        obtain ⟨b12, h⟩ := gd h
        refine R_iald (p := 123) hK rfl rfl b12 rfl ?_
        refine R_iconst (p := 124) rfl ki_1 rfl ?_
        refine R_iload_n (p := 125) rfl l1 rfl ?_
        refine R_ishl (p := 126) rfl rfl ?_
        refine R_iconst (p := 127) rfl ki_m1 rfl ?_
        refine R_ixor (p := 128) rfl rfl ?_
        refine R_iand (p := 129) rfl rfl ?_
        obtain ⟨b13, h⟩ := gd h
        refine R_iast (p := 130) hK rfl rfl b13 rfl ?_
        refine R_iinc (p := 133) rfl l5 rfl ki_1 rfl ?_
        refine R_goto rfl ?_
        obtain rfl := Option.some.inj h
        exact hq _ (jg_ne l0 rfl) (jg_ne l1 rfl) (jg_ne l2 rfl) (jg_ne l3 rfl) (jg_ne l4 rfl) jg_self
      · replace h := ite_f h hc
        refine R_ifeq_f (p := 113) rfl hc rfl ?_
        refine R_iconst (p := 114) rfl ki_1 rfl ?_
        obtain rfl := Option.some.inj h
        exact R_zreturn rfl rfl (by decide) hq
    · replace h := ite_f h hc
      refine R_ifne_t rfl hc ?_
      refine R_iinc (p := 133) rfl l5 rfl ki_1 rfl ?_
      refine R_goto rfl ?_
      obtain rfl := Option.some.inj h
      exact hq _ (jg_ne l0 rfl) (jg_ne l1 rfl) (jg_ne l2 rfl) (jg_ne l3 rfl) (jg_ne l4 rfl) jg_self
theorem LX3_paintFrom_49 {xs : List Int32} {d : Nat} {r : jR} {K : Mem → List jE} (hK : Ctx shC K) {d0 : Nat} (hd : d0 + 1 ≤ d) {e : Int32 → Int32 → Int32 → Mem → Option (Int32 × Mem)} (he : ∀ d9, d0 ≤ d9 → ∀ (x1 : Int32) (x2 : Int32) (x3 : Int32) (m9 : Mem) (q9 : (Int32 × Mem)), e x1 x2 x3 m9 = some q9 → CallD (jcs xs) d9 56 [.ref 121, .int x1, .int x2, .int x3] (K m9) (some (.int q9.1), K q9.2))  {x1 : Int32} {x2 : Int32} {x3 : Int32} {x4 : Int32} (n : Nat) (s : Int32 × Mem) {t : (Int32 × Mem)} (h : lp (lX3_paintFrom_49 e x1 x2 x3 x4) n s = some t) (hq : (qIM r K) t) : gX3_paintFrom_49 xs d r K x1 x2 x3 x4 s := lp_ind (G := gX3_paintFrom_49 xs d r K x1 x2 x3 x4) (Qe := (qIM r K)) (fun s t h hq => BX3_paintFrom_49 hK hd he s h hq) n s t h hq
theorem ufX3_paintFrom {xs : List Int32} {d : Nat} {r : jR} {K : Mem → List jE} (hK : Ctx shC K) {d0 : Nat} (hd : d0 + 1 ≤ d) {e : Int32 → Int32 → Int32 → Mem → Option (Int32 × Mem)} (he : ∀ d9, d0 ≤ d9 → ∀ (x1 : Int32) (x2 : Int32) (x3 : Int32) (m9 : Mem) (q9 : (Int32 × Mem)), e x1 x2 x3 m9 = some q9 → CallD (jcs xs) d9 56 [.ref 121, .int x1, .int x2, .int x3] (K m9) (some (.int q9.1), K q9.2)) {x1 : Int32} {x2 : Int32} {x3 : Int32} {m : Mem} {L : List (Nat × Value)} (l0 : jget L 0 = some (.ref 121)) (l1 : jget L 1 = some (.int x1)) (l2 : jget L 2 = some (.int x2)) (l3 : jget L 3 = some (.int x3)) {t : (Int32 × Mem)} (h : fX3_paintFrom e x1 x2 x3 m = some t) (hq : (qIM r K) t) : RunD (jcs xs) d 6 (some .boolean) jt_X3_paintFrom (0, L, [], (K m)) r := by
  unfold fX3_paintFrom at h
  refine R_iload_n (p := 1) rfl l1 rfl ?_
  by_cases hc : x1 < 0
  · replace h := ite_t h hc
    refine R_iflt_t rfl hc ?_
    refine R_iconst (p := 11) rfl ki_1 rfl ?_
    obtain rfl := Option.some.inj h
    exact R_zreturn rfl rfl (by decide) hq
  · replace h := ite_f h hc
    refine R_iflt_f (p := 4) rfl hc rfl ?_
    refine R_iload_n (p := 5) rfl l1 rfl ?_
    refine R_bipush (p := 7) rfl kb_16 rfl ?_
    by_cases hc : x1 < (16 : Int32)
    · replace h := ite_t h hc
      refine R_iclt_t rfl hc ?_
      refine R_aload_n (p := 13) rfl l0 rfl ?_
      refine R_getI (p := 16) hK rfl rfl rfl rfl ?_
      refine R_iload_n (p := 17) rfl l1 rfl ?_
      refine R_iushr (p := 18) rfl rfl ?_
      refine R_iconst (p := 19) rfl ki_1 rfl ?_
      refine R_iand (p := 20) rfl rfl ?_
      by_cases hc : ((jUshr (m 121 3) x1) &&& (1 : Int32)) = 0
      · replace h := ite_t h hc
        refine R_ifne_f (p := 23) rfl (fun z => z hc) rfl ?_
        refine R_aload_n (p := 24) rfl l0 rfl ?_
        refine R_iload_n (p := 25) rfl l1 rfl ?_
        refine R_iconst (p := 26) rfl ki_1 rfl ?_
        refine R_iadd (p := 27) rfl rfl ?_
        refine R_iload_n (p := 28) rfl l2 rfl ?_
        refine R_iload_n (p := 29) rfl l3 rfl ?_
        obtain ⟨q1, eq1, h⟩ := bind_some h
        refine R_cS4v (p := 32) rfl (he _ (Nat.le_trans (Nat.le_add_right _ _) hd) _ _ _ _ _ eq1) rfl rfl ?_
        obtain ⟨b2, h⟩ := gd h
        obtain rfl := Option.some.inj h
        exact R_zreturn rfl rfl b2 hq
      · replace h := ite_f h hc
        refine R_ifne_t rfl hc ?_
        refine R_iconst (p := 34) rfl ki_4 rfl ?_
        refine R_iload_n (p := 35) rfl l2 rfl ?_
        refine R_iload_n (p := 36) rfl l3 rfl ?_
        refine R_iconst (p := 37) rfl ki_1 rfl ?_
        refine R_iadd (p := 38) rfl rfl ?_
        refine R_cS2v (p := 41) rfl (tfJ9_min_7cf53 (Nat.le_trans (Nat.le_trans (by decide) (Nat.le_add_left _ _)) hd) ) rfl rfl ?_
        refine R_cS2v (p := 44) rfl (tfJ9_min_7cf53 (Nat.le_trans (Nat.le_trans (by decide) (Nat.le_add_left _ _)) hd) ) rfl rfl ?_
        refine R_istore (p := 46) rfl rfl rfl ?_
        refine R_iconst (p := 47) rfl ki_0 rfl ?_
        refine R_istore (p := 49) rfl rfl rfl ?_
        exact LX3_paintFrom_49 hK hd he _ _ h hq _ (jg_ne (jg_ne l0 rfl) rfl) (jg_ne (jg_ne l1 rfl) rfl) (jg_ne (jg_ne l2 rfl) rfl) (jg_ne (jg_ne l3 rfl) rfl) (jg_ne jg_self rfl) jg_self
    · replace h := ite_f h hc
      refine R_iclt_f (p := 10) rfl hc rfl ?_
      refine R_iconst (p := 11) rfl ki_1 rfl ?_
      obtain rfl := Option.some.inj h
      exact R_zreturn rfl rfl (by decide) hq
theorem tfX3_paintFrom {xs : List Int32} {d : Nat} {K : Mem → List jE} (hK : Ctx shC K) {d0 : Nat} (hd : d0 + 2 ≤ d) {e : Int32 → Int32 → Int32 → Mem → Option (Int32 × Mem)} (he : ∀ d9, d0 ≤ d9 → ∀ (x1 : Int32) (x2 : Int32) (x3 : Int32) (m9 : Mem) (q9 : (Int32 × Mem)), e x1 x2 x3 m9 = some q9 → CallD (jcs xs) d9 56 [.ref 121, .int x1, .int x2, .int x3] (K m9) (some (.int q9.1), K q9.2)) {x1 : Int32} {x2 : Int32} {x3 : Int32} {m : Mem} {t : (Int32 × Mem)} (h : fX3_paintFrom e x1 x2 x3 m = some t) : CallD (jcs xs) d 56 [.ref 121, .int x1, .int x2, .int x3] (K m) (some (.int t.1), K t.2) := by
  obtain ⟨d, rfl⟩ : ∃ z, d = z + 1 := ⟨d - 1, by omega⟩
  refine CallD_of jmt_X3_paintFrom rfl ⟨rfl, Nat.le_of_ble_eq_true rfl⟩ ?_
  exact ufX3_paintFrom hK (Nat.le_of_succ_le_succ hd) he rfl rfl rfl rfl h rfl
noncomputable def nX3_paintFrom : Nat → Int32 → Int32 → Int32 → Mem → Option (Int32 × Mem)
  | 0, _, _, _, _ => none
  | n9 + 1, a0, a1, a2, a3 => fX3_paintFrom (nX3_paintFrom n9) a0 a1 a2 a3
theorem tnX3_paintFrom {xs : List Int32} {K : Mem → List jE} (hK : Ctx shC K) : ∀ n9, ∀ d9, n9 * 2 ≤ d9 → ∀ (x1 : Int32) (x2 : Int32) (x3 : Int32) (m9 : Mem) (q9 : (Int32 × Mem)), nX3_paintFrom n9 x1 x2 x3 m9 = some q9 → CallD (jcs xs) d9 56 [.ref 121, .int x1, .int x2, .int x3] (K m9) (some (.int q9.1), K q9.2)
  | 0, _, _, _, _, _, _, _, h => by cases h
  | n9 + 1, d, hd, _, _, _, _, _, h => CallD.up (by rw [Nat.succ_mul] at hd; exact hd) (tfX3_paintFrom hK (d0 := n9 * 2) (Nat.le_refl _) (tnX3_paintFrom hK n9) h)
noncomputable def fX3_canPaint (x1 : Int32) (m : Mem) : Option (Int32 × Mem) := (fJ7_fill_53178_4 124 (0 : Int32) m).bind fun q1 => (nX3_paintFrom 18 (0 : Int32) x1 (0 : Int32) q1).bind fun q2 => (if q2.1 = 0 ∨ q2.1 = 1 then some (q2.1, q2.2) else none)
theorem ufX3_canPaint {xs : List Int32} {d : Nat} {r : jR} {K : Mem → List jE} (hK : Ctx shC K) (hd : 36 ≤ d) {x1 : Int32} {m : Mem} {L : List (Nat × Value)} (l0 : jget L 0 = some (.ref 121)) (l1 : jget L 1 = some (.int x1)) {t : (Int32 × Mem)} (h : fX3_canPaint x1 m = some t) (hq : (qIM r K) t) : RunD (jcs xs) d 2 (some .boolean) jt_X3_canPaint (0, L, [], (K m)) r := by
  unfold fX3_canPaint at h
  refine R_aload_n (p := 1) rfl l0 rfl ?_
  refine R_getR (p := 4) (q := 124) hK rfl rfl rfl rfl ?_
  refine R_iconst (p := 5) rfl ki_0 rfl ?_
  obtain ⟨q1, eq1, h⟩ := bind_some h
  refine R_cS2n (p := 8) rfl (tfJ7_fill_53178_4 hK (Nat.le_trans (by decide) hd) rfl eq1) rfl rfl ?_
  refine R_aload_n (p := 9) rfl l0 rfl ?_
  refine R_iconst (p := 10) rfl ki_0 rfl ?_
  refine R_iload_n (p := 11) rfl l1 rfl ?_
  refine R_iconst (p := 12) rfl ki_0 rfl ?_
  obtain ⟨q2, eq2, h⟩ := bind_some h
  refine R_cS4v (p := 15) rfl (tnX3_paintFrom hK 18 _ (Nat.le_trans (by decide) hd) _ _ _ _ _ eq2) rfl rfl ?_
  obtain ⟨b3, h⟩ := gd h
  obtain rfl := Option.some.inj h
  exact R_zreturn rfl rfl b3 hq
theorem tfX3_canPaint {xs : List Int32} {d : Nat} {K : Mem → List jE} (hK : Ctx shC K) (hd : 37 ≤ d) {x1 : Int32} {m : Mem} {t : (Int32 × Mem)} (h : fX3_canPaint x1 m = some t) : CallD (jcs xs) d 55 [.ref 121, .int x1] (K m) (some (.int t.1), K t.2) := by
  obtain ⟨d, rfl⟩ : ∃ z, d = z + 1 := ⟨d - 1, by omega⟩
  refine CallD_of jmt_X3_canPaint rfl ⟨rfl, Nat.le_of_ble_eq_true rfl⟩ ?_
  exact ufX3_canPaint hK (Nat.le_of_succ_le_succ hd) rfl rfl h rfl
noncomputable def bX8_colour_23 (m : Mem) : Option (Int32 × Mem) := (fX8_no (1 : Int32) m).bind fun q2 => some (q2.1, q2.2)
noncomputable def fX8_colour (x1 : Int32) (x2 : Int32) (m : Mem) : Option (Int32 × Mem) := (if (fX8_within x1 (1 : Int32) (4 : Int32)) = 0 then bX8_colour_23 m else (if (fX0_has 0 x2 m) = 0 then bX8_colour_23 m else (fX3_look 0 m).bind fun q4 => (fX3_canPaint x1 q4).bind fun q5 => (if q5.1 = 0 then (fX8_no (2 : Int32) q5.2).bind fun q6 => some (q6.1, q6.2) else (if inb x2 16 then some ((q5.2 122 x2.toNatClampNeg), q5.2) else none))))
theorem tbX8_colour_23 {xs : List Int32} {d : Nat} {r : jR} {K : Mem → List jE} (hK : Ctx shC K) (hd : 37 ≤ d)  {m : Mem} {L : List (Nat × Value)} (l0 : jget L 0 = some (.ref 0)) {t : (Int32 × Mem)} (h : bX8_colour_23 m = some t) (hq : (qIM r K) t) : RunD (jcs xs) d 3 (some .int) jt_X8_colour (23, L, [], (K m)) r := by
  unfold bX8_colour_23 at h
  refine R_aload_n (p := 24) rfl l0 rfl ?_
  refine R_iconst (p := 25) rfl ki_1 rfl ?_
  obtain ⟨q2, eq2, h⟩ := bind_some h
  refine R_cV2v (p := 28) hK rfl rfl (tfX8_no hK (Nat.le_trans (by decide) hd)  eq2) rfl rfl ?_
  obtain rfl := Option.some.inj h
  exact R_ireturn rfl rfl hq
theorem ufX8_colour {xs : List Int32} {d : Nat} {r : jR} {K : Mem → List jE} (hK : Ctx shC K) (hd : 37 ≤ d) {x1 : Int32} {x2 : Int32} {m : Mem} {L : List (Nat × Value)} (l0 : jget L 0 = some (.ref 0)) (l1 : jget L 1 = some (.int x1)) (l2 : jget L 2 = some (.int x2)) {t : (Int32 × Mem)} (h : fX8_colour x1 x2 m = some t) (hq : (qIM r K) t) : RunD (jcs xs) d 3 (some .int) jt_X8_colour (0, L, [], (K m)) r := by
  unfold fX8_colour at h
  refine R_iload_n (p := 1) rfl l1 rfl ?_
  refine R_iconst (p := 2) rfl ki_1 rfl ?_
  refine R_iconst (p := 3) rfl ki_4 rfl ?_
  refine R_cS3v (p := 6) rfl (tfX8_within (Nat.le_trans (by decide) hd) ) rfl rfl ?_
  by_cases hc : (fX8_within x1 (1 : Int32) (4 : Int32)) = 0
  · replace h := ite_t h hc
    refine R_ifeq_t rfl hc ?_
    exact tbX8_colour_23 hK hd l0 h hq
  · replace h := ite_f h hc
    refine R_ifeq_f (p := 9) rfl hc rfl ?_
    refine R_aload_n (p := 10) rfl l0 rfl ?_
    refine R_getR (p := 13) (q := (cw 0 1)) hK rfl rfl rfl rfl ?_
    refine R_getR (p := 16) (q := (cw 0 2)) hK rfl (s_w1 (by decide)) rfl rfl ?_
    refine R_iload_n (p := 17) rfl l2 rfl ?_
    refine R_cV2v (p := 20) hK rfl (s_w2 (by decide)) (tfX0_has hK (Nat.le_trans (by decide) hd) (by decide)) rfl rfl ?_
    by_cases hc : (fX0_has 0 x2 m) = 0
    · replace h := ite_t h hc
      refine R_ifne_f (p := 23) rfl (fun z => z hc) rfl ?_
      exact tbX8_colour_23 hK hd l0 h hq
    · replace h := ite_f h hc
      refine R_ifne_t rfl hc ?_
      refine R_aload_n (p := 30) rfl l0 rfl ?_
      refine R_getR (p := 33) (q := 121) hK rfl rfl rfl rfl ?_
      refine R_aload_n (p := 34) rfl l0 rfl ?_
      refine R_getR (p := 37) (q := (cw 0 1)) hK rfl rfl rfl rfl ?_
      refine R_getR (p := 40) (q := (cw 0 2)) hK rfl (s_w1 (by decide)) rfl rfl ?_
      obtain ⟨q4, eq4, h⟩ := bind_some h
      refine R_cV2n (p := 43) hK rfl rfl (tfX3_look hK (Nat.le_trans (by decide) hd) (by decide) eq4) rfl rfl ?_
      refine R_aload_n (p := 44) rfl l0 rfl ?_
      refine R_getR (p := 47) (q := 121) hK rfl rfl rfl rfl ?_
      refine R_iload_n (p := 48) rfl l1 rfl ?_
      obtain ⟨q5, eq5, h⟩ := bind_some h
      refine R_cV2v (p := 51) hK rfl rfl (tfX3_canPaint hK (Nat.le_trans (by decide) hd)  eq5) rfl rfl ?_
      by_cases hc : q5.1 = 0
      · replace h := ite_t h hc
        refine R_ifeq_t rfl hc ?_
        refine R_aload_n (p := 67) rfl l0 rfl ?_
        refine R_iconst (p := 68) rfl ki_2 rfl ?_
        obtain ⟨q6, eq6, h⟩ := bind_some h
        refine R_cV2v (p := 71) hK rfl rfl (tfX8_no hK (Nat.le_trans (by decide) hd)  eq6) rfl rfl ?_
        obtain rfl := Option.some.inj h
        exact R_ireturn rfl rfl hq
      · replace h := ite_f h hc
        refine R_ifeq_f (p := 54) rfl hc rfl ?_
        refine R_aload_n (p := 55) rfl l0 rfl ?_
        refine R_getR (p := 58) (q := 121) hK rfl rfl rfl rfl ?_
        refine R_getR (p := 61) (q := 122) hK rfl rfl rfl rfl ?_
        refine R_iload_n (p := 62) rfl l2 rfl ?_
        obtain ⟨b7, h⟩ := gd h
        refine R_iald (p := 63) hK rfl rfl b7 rfl ?_
        refine R_goto rfl ?_
        obtain rfl := Option.some.inj h
        exact R_ireturn rfl rfl hq
theorem tfX8_colour {xs : List Int32} {d : Nat} {K : Mem → List jE} (hK : Ctx shC K) (hd : 38 ≤ d) {x1 : Int32} {x2 : Int32} {m : Mem} {t : (Int32 × Mem)} (h : fX8_colour x1 x2 m = some t) : CallD (jcs xs) d 131 [.ref 0, .int x1, .int x2] (K m) (some (.int t.1), K t.2) := by
  obtain ⟨d, rfl⟩ : ∃ z, d = z + 1 := ⟨d - 1, by omega⟩
  refine CallD_of jmt_X8_colour rfl ⟨rfl, Nat.le_of_ble_eq_true rfl⟩ ?_
  exact ufX8_colour hK (Nat.le_of_succ_le_succ hd) rfl rfl rfl h rfl
noncomputable def lX9_mayBe_5 (x1 : Int32) (x2 : Int32) (m : Mem) (s : Int32 × Int32) : Option ((Int32 × Int32) ⊕ Int32) := (if x1 ≤ s.2 then (if s.1 = 0 ∨ s.1 = 1 then some (.inr s.1) else none) else (if s.1 = 0 then some (.inl ((0 : Int32), (s.2 + (1 : Int32)))) else (fX9_is s.2 m).bind fun q2 => (if q2 = 0 then some (.inl ((1 : Int32), (s.2 + (1 : Int32)))) else (fX9_isWall x1 s.2 m).bind fun q3 => (if q3 = 0 then some (.inl ((1 : Int32), (s.2 + (1 : Int32)))) else (if inb s.2 16 then (if (m 148 s.2.toNatClampNeg) = x2 then some (.inl ((0 : Int32), (s.2 + (1 : Int32)))) else some (.inl ((1 : Int32), (s.2 + (1 : Int32))))) else none)))))
noncomputable def gX9_mayBe_5 (xs : List Int32) (d : Nat) (r : jR) (K : Mem → List jE) (x1 : Int32) (x2 : Int32) (m : Mem) (s : Int32 × Int32) : Prop := ∀ L, jget L 0 = some (.ref 137) → jget L 1 = some (.int x1) → jget L 2 = some (.int x2) → jget L 3 = some (.int s.1) → jget L 4 = some (.int s.2) → RunD (jcs xs) d 5 (some .boolean) jt_X9_mayBe (5, L, [], (K m)) r
noncomputable def fX9_mayBe (x1 : Int32) (x2 : Int32) (m : Mem) : Option Int32 := lp (lX9_mayBe_5 x1 x2 m) fu ((1 : Int32), (0 : Int32))
theorem BX9_mayBe_5 {xs : List Int32} {d : Nat} {r : jR} {K : Mem → List jE} (hK : Ctx shR K) (hd : 4 ≤ d)  {x1 : Int32} {x2 : Int32} {m : Mem} (s : Int32 × Int32) {t : (Int32 × Int32) ⊕ Int32} (h : lX9_mayBe_5 x1 x2 m s = some t) (hq : sQ (gX9_mayBe_5 xs d r K x1 x2 m) (qI r (K m)) t) : gX9_mayBe_5 xs d r K x1 x2 m s := by
  intro L l0 l1 l2 l3 l4
  unfold lX9_mayBe_5 at h
  refine R_iload (p := 7) rfl l4 rfl ?_
  refine R_iload_n (p := 8) rfl l1 rfl ?_
  by_cases hc : x1 ≤ s.2
  · replace h := ite_t h hc
    refine R_icge_t rfl hc ?_
    refine R_iload_n (p := 58) rfl l3 rfl ?_
    obtain ⟨b1, h⟩ := gd h
    obtain rfl := Option.some.inj h
    exact R_zreturn rfl rfl b1 hq
  · replace h := ite_f h hc
    refine R_icge_f (p := 11) rfl hc rfl ?_
    refine R_iload_n (p := 12) rfl l3 rfl ?_
    by_cases hc : s.1 = 0
    · replace h := ite_t h hc
      refine R_ifeq_t rfl hc ?_
      refine R_iconst (p := 50) rfl ki_0 rfl ?_
      refine R_istore_n (p := 51) rfl rfl rfl ?_
      refine R_iinc (p := 54) rfl (jg_ne l4 rfl) rfl ki_1 rfl ?_
      refine R_goto rfl ?_
      obtain rfl := Option.some.inj h
      exact hq _ (jg_ne (jg_ne l0 rfl) rfl) (jg_ne (jg_ne l1 rfl) rfl) (jg_ne (jg_ne l2 rfl) rfl) (jg_ne jg_self rfl) jg_self
    · replace h := ite_f h hc
      refine R_ifeq_f (p := 15) rfl hc rfl ?_
      refine R_aload_n (p := 16) rfl l0 rfl ?_
      refine R_iload (p := 18) rfl l4 rfl ?_
      obtain ⟨q2, eq2, h⟩ := bind_some h
      refine R_cV2v (p := 21) hK rfl rfl (tfX9_is hK (Nat.le_trans (by decide) hd)  eq2) rfl rfl ?_
      by_cases hc : q2 = 0
      · replace h := ite_t h hc
        refine R_ifeq_t rfl hc ?_
        refine R_iconst (p := 46) rfl ki_1 rfl ?_
        refine R_goto rfl ?_
        refine R_istore_n (p := 51) rfl rfl rfl ?_
        refine R_iinc (p := 54) rfl (jg_ne l4 rfl) rfl ki_1 rfl ?_
        refine R_goto rfl ?_
        obtain rfl := Option.some.inj h
        exact hq _ (jg_ne (jg_ne l0 rfl) rfl) (jg_ne (jg_ne l1 rfl) rfl) (jg_ne (jg_ne l2 rfl) rfl) (jg_ne jg_self rfl) jg_self
      · replace h := ite_f h hc
        refine R_ifeq_f (p := 24) rfl hc rfl ?_
        refine R_aload_n (p := 25) rfl l0 rfl ?_
        refine R_iload_n (p := 26) rfl l1 rfl ?_
        refine R_iload (p := 28) rfl l4 rfl ?_
        obtain ⟨q3, eq3, h⟩ := bind_some h
        refine R_cV3v (p := 31) hK rfl rfl (tfX9_isWall hK (Nat.le_trans (by decide) hd)  eq3) rfl rfl ?_
        by_cases hc : q3 = 0
        · replace h := ite_t h hc
          refine R_ifeq_t rfl hc ?_
          refine R_iconst (p := 46) rfl ki_1 rfl ?_
          refine R_goto rfl ?_
          refine R_istore_n (p := 51) rfl rfl rfl ?_
          refine R_iinc (p := 54) rfl (jg_ne l4 rfl) rfl ki_1 rfl ?_
          refine R_goto rfl ?_
          obtain rfl := Option.some.inj h
          exact hq _ (jg_ne (jg_ne l0 rfl) rfl) (jg_ne (jg_ne l1 rfl) rfl) (jg_ne (jg_ne l2 rfl) rfl) (jg_ne jg_self rfl) jg_self
        · replace h := ite_f h hc
          refine R_ifeq_f (p := 34) rfl hc rfl ?_
          refine R_aload_n (p := 35) rfl l0 rfl ?_
          refine R_getR (p := 38) (q := 148) hK rfl rfl rfl rfl ?_
          refine R_iload (p := 40) rfl l4 rfl ?_
          obtain ⟨b4, h⟩ := gd h
          refine R_iald (p := 41) hK rfl rfl b4 rfl ?_
          refine R_iload_n (p := 42) rfl l2 rfl ?_
          by_cases hc : (m 148 s.2.toNatClampNeg) = x2
          · replace h := ite_t h hc
            refine R_iceq_t rfl hc ?_
            refine R_iconst (p := 50) rfl ki_0 rfl ?_
            refine R_istore_n (p := 51) rfl rfl rfl ?_
            refine R_iinc (p := 54) rfl (jg_ne l4 rfl) rfl ki_1 rfl ?_
            refine R_goto rfl ?_
            obtain rfl := Option.some.inj h
            exact hq _ (jg_ne (jg_ne l0 rfl) rfl) (jg_ne (jg_ne l1 rfl) rfl) (jg_ne (jg_ne l2 rfl) rfl) (jg_ne jg_self rfl) jg_self
          · replace h := ite_f h hc
            refine R_iceq_f (p := 45) rfl hc rfl ?_
            refine R_iconst (p := 46) rfl ki_1 rfl ?_
            refine R_goto rfl ?_
            refine R_istore_n (p := 51) rfl rfl rfl ?_
            refine R_iinc (p := 54) rfl (jg_ne l4 rfl) rfl ki_1 rfl ?_
            refine R_goto rfl ?_
            obtain rfl := Option.some.inj h
            exact hq _ (jg_ne (jg_ne l0 rfl) rfl) (jg_ne (jg_ne l1 rfl) rfl) (jg_ne (jg_ne l2 rfl) rfl) (jg_ne jg_self rfl) jg_self
theorem LX9_mayBe_5 {xs : List Int32} {d : Nat} {r : jR} {K : Mem → List jE} (hK : Ctx shR K) (hd : 4 ≤ d)  {x1 : Int32} {x2 : Int32} {m : Mem} (n : Nat) (s : Int32 × Int32) {t : Int32} (h : lp (lX9_mayBe_5 x1 x2 m) n s = some t) (hq : (qI r (K m)) t) : gX9_mayBe_5 xs d r K x1 x2 m s := lp_ind (G := gX9_mayBe_5 xs d r K x1 x2 m) (Qe := (qI r (K m))) (fun s t h hq => BX9_mayBe_5 hK hd s h hq) n s t h hq
theorem ufX9_mayBe {xs : List Int32} {d : Nat} {r : jR} {K : Mem → List jE} (hK : Ctx shR K) (hd : 4 ≤ d) {x1 : Int32} {x2 : Int32} {m : Mem} {L : List (Nat × Value)} (l0 : jget L 0 = some (.ref 137)) (l1 : jget L 1 = some (.int x1)) (l2 : jget L 2 = some (.int x2)) {t : Int32} (h : fX9_mayBe x1 x2 m = some t) (hq : (qI r (K m)) t) : RunD (jcs xs) d 5 (some .boolean) jt_X9_mayBe (0, L, [], (K m)) r := by
  unfold fX9_mayBe at h
  refine R_iconst (p := 1) rfl ki_1 rfl ?_
  refine R_istore_n (p := 2) rfl rfl rfl ?_
  refine R_iconst (p := 3) rfl ki_0 rfl ?_
  refine R_istore (p := 5) rfl rfl rfl ?_
  exact LX9_mayBe_5 hK hd _ _ h hq _ (jg_ne (jg_ne l0 rfl) rfl) (jg_ne (jg_ne l1 rfl) rfl) (jg_ne (jg_ne l2 rfl) rfl) (jg_ne jg_self rfl) jg_self
theorem tfX9_mayBe {xs : List Int32} {d : Nat} {K : Mem → List jE} (hK : Ctx shR K) (hd : 5 ≤ d) {x1 : Int32} {x2 : Int32} {m : Mem} {t : Int32} (h : fX9_mayBe x1 x2 m = some t) : CallD (jcs xs) d 231 [.ref 137, .int x1, .int x2] (K m) (some (.int t), (K m)) := by
  obtain ⟨d, rfl⟩ : ∃ z, d = z + 1 := ⟨d - 1, by omega⟩
  refine CallD_of jmt_X9_mayBe rfl ⟨rfl, Nat.le_of_ble_eq_true rfl⟩ ?_
  exact ufX9_mayBe hK (Nat.le_of_succ_le_succ hd) rfl rfl rfl h rfl
noncomputable def lX9_coloured_27 (e : Int32 → Int32 → Mem → Option (Int32 × Mem)) (x1 : Int32) (x2 : Int32) (s : Int32 × Mem) : Option ((Int32 × Mem) ⊕ (Int32 × Mem)) := (if x2 ≤ s.1 then some (.inr ((0 : Int32), s.2)) else (fX9_mayBe x1 s.1 s.2).bind fun q4 => (if q4 = 0 then some (.inl ((s.1 + (1 : Int32)), s.2)) else (if inb x1 16 then (e (x1 + (1 : Int32)) x2 (mput s.2 148 x1.toNatClampNeg s.1)).bind fun q6 => (if q6.1 = 0 then some (.inl ((s.1 + (1 : Int32)), q6.2)) else some (.inr ((1 : Int32), q6.2))) else none)))
noncomputable def gX9_coloured_27 (xs : List Int32) (d : Nat) (r : jR) (K : Mem → List jE) (x1 : Int32) (x2 : Int32) (s : Int32 × Mem) : Prop := ∀ L, jget L 0 = some (.ref 137) → jget L 1 = some (.int x1) → jget L 2 = some (.int x2) → jget L 3 = some (.int s.1) → RunD (jcs xs) d 4 (some .boolean) jt_X9_coloured (27, L, [], (K s.2)) r
noncomputable def fX9_coloured (e : Int32 → Int32 → Mem → Option (Int32 × Mem)) (x1 : Int32) (x2 : Int32) (m : Mem) : Option (Int32 × Mem) := (if x1 = (16 : Int32) then some ((1 : Int32), m) else (fX9_is x1 m).bind fun q1 => (if q1 = 0 then (e (x1 + (1 : Int32)) x2 m).bind fun q2 => (if q2.1 = 0 ∨ q2.1 = 1 then some (q2.1, q2.2) else none) else lp (lX9_coloured_27 e x1 x2) fu ((0 : Int32), m)))
theorem BX9_coloured_27 {xs : List Int32} {d : Nat} {r : jR} {K : Mem → List jE} (hK : Ctx shR K) {d0 : Nat} (hd : d0 + 5 ≤ d) {e : Int32 → Int32 → Mem → Option (Int32 × Mem)} (he : ∀ d9, d0 ≤ d9 → ∀ (x1 : Int32) (x2 : Int32) (m9 : Mem) (q9 : (Int32 × Mem)), e x1 x2 m9 = some q9 → CallD (jcs xs) d9 232 [.ref 137, .int x1, .int x2] (K m9) (some (.int q9.1), K q9.2))  {x1 : Int32} {x2 : Int32} (s : Int32 × Mem) {t : (Int32 × Mem) ⊕ (Int32 × Mem)} (h : lX9_coloured_27 e x1 x2 s = some t) (hq : sQ (gX9_coloured_27 xs d r K x1 x2) (qIM r K) t) : gX9_coloured_27 xs d r K x1 x2 s := by
  intro L l0 l1 l2 l3
  unfold lX9_coloured_27 at h
  refine R_iload_n (p := 28) rfl l3 rfl ?_
  refine R_iload_n (p := 29) rfl l2 rfl ?_
  by_cases hc : x2 ≤ s.1
  · replace h := ite_t h hc
    refine R_icge_t rfl hc ?_
    refine R_iconst (p := 68) rfl ki_0 rfl ?_
    obtain rfl := Option.some.inj h
    exact R_zreturn rfl rfl (by decide) hq
  · replace h := ite_f h hc
    refine R_icge_f (p := 32) rfl hc rfl ?_
    refine R_aload_n (p := 33) rfl l0 rfl ?_
    refine R_iload_n (p := 34) rfl l1 rfl ?_
    refine R_iload_n (p := 35) rfl l3 rfl ?_
    obtain ⟨q4, eq4, h⟩ := bind_some h
    refine R_cV3v (p := 38) hK rfl rfl (tfX9_mayBe hK (Nat.le_trans (Nat.le_trans (by decide) (Nat.le_add_left _ _)) hd)  eq4) rfl rfl ?_
    by_cases hc : q4 = 0
    · replace h := ite_t h hc
      refine R_ifeq_t rfl hc ?_
      refine R_iinc (p := 64) rfl l3 rfl ki_1 rfl ?_
      refine R_goto rfl ?_
      obtain rfl := Option.some.inj h
      exact hq _ (jg_ne l0 rfl) (jg_ne l1 rfl) (jg_ne l2 rfl) jg_self
    · replace h := ite_f h hc
      refine R_ifeq_f (p := 41) rfl hc rfl ?_
      refine R_aload_n (p := 42) rfl l0 rfl ?_
      refine R_getR (p := 45) (q := 148) hK rfl rfl rfl rfl ?_
      refine R_iload_n (p := 46) rfl l1 rfl ?_
      refine R_iload_n (p := 47) rfl l3 rfl ?_
      obtain ⟨b5, h⟩ := gd h
      refine R_iast (p := 48) hK rfl rfl b5 rfl ?_
      refine R_aload_n (p := 49) rfl l0 rfl ?_
      refine R_iload_n (p := 50) rfl l1 rfl ?_
      refine R_iconst (p := 51) rfl ki_1 rfl ?_
      refine R_iadd (p := 52) rfl rfl ?_
      refine R_iload_n (p := 53) rfl l2 rfl ?_
      obtain ⟨q6, eq6, h⟩ := bind_some h
      refine R_cV3v (p := 56) hK rfl rfl (he _ (Nat.le_trans (Nat.le_add_right _ _) hd) _ _ _ _ eq6) rfl rfl ?_
      by_cases hc : q6.1 = 0
      · replace h := ite_t h hc
        refine R_ifeq_t rfl hc ?_
        refine R_iinc (p := 64) rfl l3 rfl ki_1 rfl ?_
        refine R_goto rfl ?_
        obtain rfl := Option.some.inj h
        exact hq _ (jg_ne l0 rfl) (jg_ne l1 rfl) (jg_ne l2 rfl) jg_self
      · replace h := ite_f h hc
        refine R_ifeq_f (p := 59) rfl hc rfl ?_
        refine R_iconst (p := 60) rfl ki_1 rfl ?_
        obtain rfl := Option.some.inj h
        exact R_zreturn rfl rfl (by decide) hq
theorem LX9_coloured_27 {xs : List Int32} {d : Nat} {r : jR} {K : Mem → List jE} (hK : Ctx shR K) {d0 : Nat} (hd : d0 + 5 ≤ d) {e : Int32 → Int32 → Mem → Option (Int32 × Mem)} (he : ∀ d9, d0 ≤ d9 → ∀ (x1 : Int32) (x2 : Int32) (m9 : Mem) (q9 : (Int32 × Mem)), e x1 x2 m9 = some q9 → CallD (jcs xs) d9 232 [.ref 137, .int x1, .int x2] (K m9) (some (.int q9.1), K q9.2))  {x1 : Int32} {x2 : Int32} (n : Nat) (s : Int32 × Mem) {t : (Int32 × Mem)} (h : lp (lX9_coloured_27 e x1 x2) n s = some t) (hq : (qIM r K) t) : gX9_coloured_27 xs d r K x1 x2 s := lp_ind (G := gX9_coloured_27 xs d r K x1 x2) (Qe := (qIM r K)) (fun s t h hq => BX9_coloured_27 hK hd he s h hq) n s t h hq
theorem ufX9_coloured {xs : List Int32} {d : Nat} {r : jR} {K : Mem → List jE} (hK : Ctx shR K) {d0 : Nat} (hd : d0 + 5 ≤ d) {e : Int32 → Int32 → Mem → Option (Int32 × Mem)} (he : ∀ d9, d0 ≤ d9 → ∀ (x1 : Int32) (x2 : Int32) (m9 : Mem) (q9 : (Int32 × Mem)), e x1 x2 m9 = some q9 → CallD (jcs xs) d9 232 [.ref 137, .int x1, .int x2] (K m9) (some (.int q9.1), K q9.2)) {x1 : Int32} {x2 : Int32} {m : Mem} {L : List (Nat × Value)} (l0 : jget L 0 = some (.ref 137)) (l1 : jget L 1 = some (.int x1)) (l2 : jget L 2 = some (.int x2)) {t : (Int32 × Mem)} (h : fX9_coloured e x1 x2 m = some t) (hq : (qIM r K) t) : RunD (jcs xs) d 4 (some .boolean) jt_X9_coloured (0, L, [], (K m)) r := by
  unfold fX9_coloured at h
  refine R_iload_n (p := 1) rfl l1 rfl ?_
  refine R_bipush (p := 3) rfl kb_16 rfl ?_
  by_cases hc : x1 = (16 : Int32)
  · replace h := ite_t h hc
    refine R_icne_f (p := 6) rfl (fun z => z hc) rfl ?_
    refine R_iconst (p := 7) rfl ki_1 rfl ?_
    obtain rfl := Option.some.inj h
    exact R_zreturn rfl rfl (by decide) hq
  · replace h := ite_f h hc
    refine R_icne_t rfl hc ?_
    refine R_aload_n (p := 9) rfl l0 rfl ?_
    refine R_iload_n (p := 10) rfl l1 rfl ?_
    obtain ⟨q1, eq1, h⟩ := bind_some h
    refine R_cV2v (p := 13) hK rfl rfl (tfX9_is hK (Nat.le_trans (Nat.le_trans (by decide) (Nat.le_add_left _ _)) hd)  eq1) rfl rfl ?_
    by_cases hc : q1 = 0
    · replace h := ite_t h hc
      refine R_ifne_f (p := 16) rfl (fun z => z hc) rfl ?_
      refine R_aload_n (p := 17) rfl l0 rfl ?_
      refine R_iload_n (p := 18) rfl l1 rfl ?_
      refine R_iconst (p := 19) rfl ki_1 rfl ?_
      refine R_iadd (p := 20) rfl rfl ?_
      refine R_iload_n (p := 21) rfl l2 rfl ?_
      obtain ⟨q2, eq2, h⟩ := bind_some h
      refine R_cV3v (p := 24) hK rfl rfl (he _ (Nat.le_trans (Nat.le_add_right _ _) hd) _ _ _ _ eq2) rfl rfl ?_
      obtain ⟨b3, h⟩ := gd h
      obtain rfl := Option.some.inj h
      exact R_zreturn rfl rfl b3 hq
    · replace h := ite_f h hc
      refine R_ifne_t rfl hc ?_
      refine R_iconst (p := 26) rfl ki_0 rfl ?_
      refine R_istore_n (p := 27) rfl rfl rfl ?_
      exact LX9_coloured_27 hK hd he _ _ h hq _ (jg_ne l0 rfl) (jg_ne l1 rfl) (jg_ne l2 rfl) jg_self
theorem tfX9_coloured {xs : List Int32} {d : Nat} {K : Mem → List jE} (hK : Ctx shR K) {d0 : Nat} (hd : d0 + 6 ≤ d) {e : Int32 → Int32 → Mem → Option (Int32 × Mem)} (he : ∀ d9, d0 ≤ d9 → ∀ (x1 : Int32) (x2 : Int32) (m9 : Mem) (q9 : (Int32 × Mem)), e x1 x2 m9 = some q9 → CallD (jcs xs) d9 232 [.ref 137, .int x1, .int x2] (K m9) (some (.int q9.1), K q9.2)) {x1 : Int32} {x2 : Int32} {m : Mem} {t : (Int32 × Mem)} (h : fX9_coloured e x1 x2 m = some t) : CallD (jcs xs) d 232 [.ref 137, .int x1, .int x2] (K m) (some (.int t.1), K t.2) := by
  obtain ⟨d, rfl⟩ : ∃ z, d = z + 1 := ⟨d - 1, by omega⟩
  refine CallD_of jmt_X9_coloured rfl ⟨rfl, Nat.le_of_ble_eq_true rfl⟩ ?_
  exact ufX9_coloured hK (Nat.le_of_succ_le_succ hd) he rfl rfl rfl h rfl
noncomputable def nX9_coloured : Nat → Int32 → Int32 → Mem → Option (Int32 × Mem)
  | 0, _, _, _ => none
  | n9 + 1, a0, a1, a2 => fX9_coloured (nX9_coloured n9) a0 a1 a2
theorem tnX9_coloured {xs : List Int32} {K : Mem → List jE} (hK : Ctx shR K) : ∀ n9, ∀ d9, n9 * 6 ≤ d9 → ∀ (x1 : Int32) (x2 : Int32) (m9 : Mem) (q9 : (Int32 × Mem)), nX9_coloured n9 x1 x2 m9 = some q9 → CallD (jcs xs) d9 232 [.ref 137, .int x1, .int x2] (K m9) (some (.int q9.1), K q9.2)
  | 0, _, _, _, _, _, _, h => by cases h
  | n9 + 1, d, hd, _, _, _, _, h => CallD.up (by rw [Nat.succ_mul] at hd; exact hd) (tfX9_coloured hK (d0 := n9 * 6) (Nat.le_refl _) (tnX9_coloured hK n9) h)
noncomputable def bX9_colour_17 (m : Mem) : Option (Int32 × Mem) := (fX9_finding (-1000001 : Int32) m).bind fun q2 => some (q2.1, q2.2)
noncomputable def fX9_colour (x1 : Int32) (x2 : Int32) (m : Mem) : Option (Int32 × Mem) := (if (fX9_within x1 (1 : Int32) (4 : Int32)) = 0 then bX9_colour_17 m else (fX9_is x2 m).bind fun q3 => (if q3 = 0 then bX9_colour_17 m else (nX9_coloured 18 (0 : Int32) x1 m).bind fun q4 => (if q4.1 = 0 then (fX9_finding (-1000002 : Int32) q4.2).bind fun q5 => some (q5.1, q5.2) else (if inb x2 16 then some ((q4.2 148 x2.toNatClampNeg), q4.2) else none))))
theorem tbX9_colour_17 {xs : List Int32} {d : Nat} {r : jR} {K : Mem → List jE} (hK : Ctx shR K) (hd : 108 ≤ d)  {m : Mem} {L : List (Nat × Value)} (l0 : jget L 0 = some (.ref 137)) {t : (Int32 × Mem)} (h : bX9_colour_17 m = some t) (hq : (qIM r K) t) : RunD (jcs xs) d 3 (some .int) jt_X9_colour (17, L, [], (K m)) r := by
  unfold bX9_colour_17 at h
  refine R_aload_n (p := 18) rfl l0 rfl ?_
  refine R_ldc (p := 20) rfl kl_m1000001 rfl ?_
  obtain ⟨q2, eq2, h⟩ := bind_some h
  refine R_cV2v (p := 23) hK rfl rfl (tfX9_finding hK (Nat.le_trans (by decide) hd)  eq2) rfl rfl ?_
  obtain rfl := Option.some.inj h
  exact R_ireturn rfl rfl hq
theorem ufX9_colour {xs : List Int32} {d : Nat} {r : jR} {K : Mem → List jE} (hK : Ctx shR K) (hd : 108 ≤ d) {x1 : Int32} {x2 : Int32} {m : Mem} {L : List (Nat × Value)} (l0 : jget L 0 = some (.ref 137)) (l1 : jget L 1 = some (.int x1)) (l2 : jget L 2 = some (.int x2)) {t : (Int32 × Mem)} (h : fX9_colour x1 x2 m = some t) (hq : (qIM r K) t) : RunD (jcs xs) d 3 (some .int) jt_X9_colour (0, L, [], (K m)) r := by
  unfold fX9_colour at h
  refine R_iload_n (p := 1) rfl l1 rfl ?_
  refine R_iconst (p := 2) rfl ki_1 rfl ?_
  refine R_iconst (p := 3) rfl ki_4 rfl ?_
  refine R_cS3v (p := 6) rfl (tfX9_within (Nat.le_trans (by decide) hd) ) rfl rfl ?_
  by_cases hc : (fX9_within x1 (1 : Int32) (4 : Int32)) = 0
  · replace h := ite_t h hc
    refine R_ifeq_t rfl hc ?_
    exact tbX9_colour_17 hK hd l0 h hq
  · replace h := ite_f h hc
    refine R_ifeq_f (p := 9) rfl hc rfl ?_
    refine R_aload_n (p := 10) rfl l0 rfl ?_
    refine R_iload_n (p := 11) rfl l2 rfl ?_
    obtain ⟨q3, eq3, h⟩ := bind_some h
    refine R_cV2v (p := 14) hK rfl rfl (tfX9_is hK (Nat.le_trans (by decide) hd)  eq3) rfl rfl ?_
    by_cases hc : q3 = 0
    · replace h := ite_t h hc
      refine R_ifne_f (p := 17) rfl (fun z => z hc) rfl ?_
      exact tbX9_colour_17 hK hd l0 h hq
    · replace h := ite_f h hc
      refine R_ifne_t rfl hc ?_
      refine R_aload_n (p := 25) rfl l0 rfl ?_
      refine R_iconst (p := 26) rfl ki_0 rfl ?_
      refine R_iload_n (p := 27) rfl l1 rfl ?_
      obtain ⟨q4, eq4, h⟩ := bind_some h
      refine R_cV3v (p := 30) hK rfl rfl (tnX9_coloured hK 18 _ (Nat.le_trans (by decide) hd) _ _ _ _ eq4) rfl rfl ?_
      by_cases hc : q4.1 = 0
      · replace h := ite_t h hc
        refine R_ifeq_t rfl hc ?_
        refine R_aload_n (p := 43) rfl l0 rfl ?_
        refine R_ldc (p := 45) rfl kl_m1000002 rfl ?_
        obtain ⟨q5, eq5, h⟩ := bind_some h
        refine R_cV2v (p := 48) hK rfl rfl (tfX9_finding hK (Nat.le_trans (by decide) hd)  eq5) rfl rfl ?_
        obtain rfl := Option.some.inj h
        exact R_ireturn rfl rfl hq
      · replace h := ite_f h hc
        refine R_ifeq_f (p := 33) rfl hc rfl ?_
        refine R_aload_n (p := 34) rfl l0 rfl ?_
        refine R_getR (p := 37) (q := 148) hK rfl rfl rfl rfl ?_
        refine R_iload_n (p := 38) rfl l2 rfl ?_
        obtain ⟨b6, h⟩ := gd h
        refine R_iald (p := 39) hK rfl rfl b6 rfl ?_
        refine R_goto rfl ?_
        obtain rfl := Option.some.inj h
        exact R_ireturn rfl rfl hq
theorem tfX9_colour {xs : List Int32} {d : Nat} {K : Mem → List jE} (hK : Ctx shR K) (hd : 109 ≤ d) {x1 : Int32} {x2 : Int32} {m : Mem} {t : (Int32 × Mem)} (h : fX9_colour x1 x2 m = some t) : CallD (jcs xs) d 233 [.ref 137, .int x1, .int x2] (K m) (some (.int t.1), K t.2) := by
  obtain ⟨d, rfl⟩ : ∃ z, d = z + 1 := ⟨d - 1, by omega⟩
  refine CallD_of jmt_X9_colour rfl ⟨rfl, Nat.le_of_ble_eq_true rfl⟩ ?_
  exact ufX9_colour hK (Nat.le_of_succ_le_succ hd) rfl rfl rfl h rfl
noncomputable def fX3_apartIn_16 (e : Int32 → Int32 → Nat → Mem → Option Int32) (x0 : Int32) (x1 : Int32) (c2 : Nat) (m : Mem) : Option Int32 := (if x0 = 0 then some (0 : Int32) else (if x1 < 0 then some (0 : Int32) else (if x1 < (16 : Int32) then (e (x0 &&& ((jShl (1 : Int32) x1) ^^^ (-1 : Int32))) (x1 - (1 : Int32)) c2 m).bind fun q1 => (if (x0 &&& (jShl (1 : Int32) x1)) = 0 then some q1 else (if inb x1 16 then (e ((x0 &&& ((jShl (1 : Int32) x1) ^^^ (-1 : Int32))) &&& ((m c2 x1.toNatClampNeg) ^^^ (-1 : Int32))) (x1 - (1 : Int32)) c2 m).bind fun q3 => (if (fJ6_bitCount_0f7a4 (q3 ||| (jShl (1 : Int32) x1))) ≤ (fJ6_bitCount_0f7a4 q1) then some q1 else some (q3 ||| (jShl (1 : Int32) x1))) else none)) else some (0 : Int32))))
theorem ufX3_apartIn_16 {xs : List Int32} {d : Nat} {r : jR} {K : Mem → List jE} (hK : Ctx shC K) {d0 : Nat} (hd : d0 + 1 ≤ d) {e : Int32 → Int32 → Nat → Mem → Option Int32} (he : ∀ d9, d0 ≤ d9 → ∀ (x0 : Int32) (x1 : Int32) (c2 : Nat) (m9 : Mem) (q9 : Int32), e x0 x1 c2 m9 = some q9 → shC c2 = some (.inr (.inl 16)) → CallD (jcs xs) d9 58 [.int x0, .int x1, .ref c2] (K m9) (some (.int q9), K m9)) {c2 : Nat} (hc2 : shC c2 = some (.inr (.inl 16))) {x0 : Int32} {x1 : Int32} {m : Mem} {L : List (Nat × Value)} (l0 : jget L 0 = some (.int x0)) (l1 : jget L 1 = some (.int x1)) (l2 : jget L 2 = some (.ref c2)) {t : Int32} (h : fX3_apartIn_16 e x0 x1 c2 m = some t) (hq : (qI r (K m)) t) : RunD (jcs xs) d 6 (some .int) jt_X3_apartIn (0, L, [], (K m)) r := by
  unfold fX3_apartIn_16 at h
  refine R_iload_n (p := 1) rfl l0 rfl ?_
  by_cases hc : x0 = 0
  · replace h := ite_t h hc
    refine R_ifeq_t rfl hc ?_
    refine R_iconst (p := 15) rfl ki_0 rfl ?_
    obtain rfl := Option.some.inj h
    exact R_ireturn rfl rfl hq
  · replace h := ite_f h hc
    refine R_ifeq_f (p := 4) rfl hc rfl ?_
    refine R_iload_n (p := 5) rfl l1 rfl ?_
    by_cases hc : x1 < 0
    · replace h := ite_t h hc
      refine R_iflt_t rfl hc ?_
      refine R_iconst (p := 15) rfl ki_0 rfl ?_
      obtain rfl := Option.some.inj h
      exact R_ireturn rfl rfl hq
    · replace h := ite_f h hc
      refine R_iflt_f (p := 8) rfl hc rfl ?_
      refine R_iload_n (p := 9) rfl l1 rfl ?_
      refine R_bipush (p := 11) rfl kb_16 rfl ?_
      by_cases hc : x1 < (16 : Int32)
      · replace h := ite_t h hc
        refine R_iclt_t rfl hc ?_
        refine R_iconst (p := 17) rfl ki_1 rfl ?_
        refine R_iload_n (p := 18) rfl l1 rfl ?_
        refine R_ishl (p := 19) rfl rfl ?_
        refine R_istore_n (p := 20) rfl rfl rfl ?_
        refine R_iload_n (p := 21) rfl (jg_ne l0 rfl) rfl ?_
        refine R_iload_n (p := 22) rfl jg_self rfl ?_
        refine R_iconst (p := 23) rfl ki_m1 rfl ?_
        refine R_ixor (p := 24) rfl rfl ?_
        refine R_iand (p := 25) rfl rfl ?_
        refine R_iload_n (p := 26) rfl (jg_ne l1 rfl) rfl ?_
        refine R_iconst (p := 27) rfl ki_1 rfl ?_
        refine R_isub (p := 28) rfl rfl ?_
        refine R_aload_n (p := 29) rfl (jg_ne l2 rfl) rfl ?_
        obtain ⟨q1, eq1, h⟩ := bind_some h
        refine R_cS3v (p := 32) rfl (he _ (Nat.le_trans (Nat.le_add_right _ _) hd) _ _ _ _ _ eq1 hc2) rfl rfl ?_
        refine R_istore (p := 34) rfl rfl rfl ?_
        refine R_iload_n (p := 35) rfl (jg_ne (jg_ne l0 rfl) rfl) rfl ?_
        refine R_iload_n (p := 36) rfl (jg_ne jg_self rfl) rfl ?_
        refine R_iand (p := 37) rfl rfl ?_
        by_cases hc : (x0 &&& (jShl (1 : Int32) x1)) = 0
        · replace h := ite_t h hc
          refine R_ifne_f (p := 40) rfl (fun z => z hc) rfl ?_
          refine R_iload (p := 42) rfl jg_self rfl ?_
          obtain rfl := Option.some.inj h
          exact R_ireturn rfl rfl hq
        · replace h := ite_f h hc
          refine R_ifne_t rfl hc ?_
          refine R_iload_n (p := 44) rfl (jg_ne (jg_ne l0 rfl) rfl) rfl ?_
          refine R_iload_n (p := 45) rfl (jg_ne jg_self rfl) rfl ?_
          refine R_iconst (p := 46) rfl ki_m1 rfl ?_
          refine R_ixor (p := 47) rfl rfl ?_
          refine R_iand (p := 48) rfl rfl ?_
          refine R_aload_n (p := 49) rfl (jg_ne (jg_ne l2 rfl) rfl) rfl ?_
          refine R_iload_n (p := 50) rfl (jg_ne (jg_ne l1 rfl) rfl) rfl ?_
          obtain ⟨b2, h⟩ := gd h
          refine R_iald (p := 51) hK rfl hc2 b2 rfl ?_
          refine R_iconst (p := 52) rfl ki_m1 rfl ?_
          refine R_ixor (p := 53) rfl rfl ?_
          refine R_iand (p := 54) rfl rfl ?_
          refine R_iload_n (p := 55) rfl (jg_ne (jg_ne l1 rfl) rfl) rfl ?_
          refine R_iconst (p := 56) rfl ki_1 rfl ?_
          refine R_isub (p := 57) rfl rfl ?_
          refine R_aload_n (p := 58) rfl (jg_ne (jg_ne l2 rfl) rfl) rfl ?_
          obtain ⟨q3, eq3, h⟩ := bind_some h
          refine R_cS3v (p := 61) rfl (he _ (Nat.le_trans (Nat.le_add_right _ _) hd) _ _ _ _ _ eq3 hc2) rfl rfl ?_
          refine R_iload_n (p := 62) rfl (jg_ne jg_self rfl) rfl ?_
          refine R_ior (p := 63) rfl rfl ?_
          refine R_istore (p := 65) rfl rfl rfl ?_
          refine R_iload (p := 67) rfl jg_self rfl ?_
          refine R_cS1v (p := 70) rfl (tfJ6_bitCount_0f7a4 (Nat.le_trans (Nat.le_trans (by decide) (Nat.le_add_left _ _)) hd) ) rfl rfl ?_
          refine R_iload (p := 72) rfl (jg_ne jg_self rfl) rfl ?_
          refine R_cS1v (p := 75) rfl (tfJ6_bitCount_0f7a4 (Nat.le_trans (Nat.le_trans (by decide) (Nat.le_add_left _ _)) hd) ) rfl rfl ?_
          by_cases hc : (fJ6_bitCount_0f7a4 (q3 ||| (jShl (1 : Int32) x1))) ≤ (fJ6_bitCount_0f7a4 q1)
          · replace h := ite_t h hc
            refine R_icle_t rfl hc ?_
            refine R_iload (p := 85) rfl (jg_ne jg_self rfl) rfl ?_
            obtain rfl := Option.some.inj h
            exact R_ireturn rfl rfl hq
          · replace h := ite_f h hc
            refine R_icle_f (p := 78) rfl hc rfl ?_
            refine R_iload (p := 80) rfl jg_self rfl ?_
            refine R_goto rfl ?_
            obtain rfl := Option.some.inj h
            exact R_ireturn rfl rfl hq
      · replace h := ite_f h hc
        refine R_iclt_f (p := 14) rfl hc rfl ?_
        refine R_iconst (p := 15) rfl ki_0 rfl ?_
        obtain rfl := Option.some.inj h
        exact R_ireturn rfl rfl hq
theorem tfX3_apartIn_16 {xs : List Int32} {d : Nat} {K : Mem → List jE} (hK : Ctx shC K) {d0 : Nat} (hd : d0 + 2 ≤ d) {e : Int32 → Int32 → Nat → Mem → Option Int32} (he : ∀ d9, d0 ≤ d9 → ∀ (x0 : Int32) (x1 : Int32) (c2 : Nat) (m9 : Mem) (q9 : Int32), e x0 x1 c2 m9 = some q9 → shC c2 = some (.inr (.inl 16)) → CallD (jcs xs) d9 58 [.int x0, .int x1, .ref c2] (K m9) (some (.int q9), K m9)) {c2 : Nat} (hc2 : shC c2 = some (.inr (.inl 16))) {x0 : Int32} {x1 : Int32} {m : Mem} {t : Int32} (h : fX3_apartIn_16 e x0 x1 c2 m = some t) : CallD (jcs xs) d 58 [.int x0, .int x1, .ref c2] (K m) (some (.int t), (K m)) := by
  obtain ⟨d, rfl⟩ : ∃ z, d = z + 1 := ⟨d - 1, by omega⟩
  refine CallD_of jmt_X3_apartIn rfl ⟨rfl, Nat.le_of_ble_eq_true rfl⟩ ?_
  exact ufX3_apartIn_16 hK (Nat.le_of_succ_le_succ hd) he hc2 rfl rfl rfl h rfl
noncomputable def nX3_apartIn_16 : Nat → Int32 → Int32 → Nat → Mem → Option Int32
  | 0, _, _, _, _ => none
  | n9 + 1, a0, a1, a2, a3 => fX3_apartIn_16 (nX3_apartIn_16 n9) a0 a1 a2 a3
theorem tnX3_apartIn_16 {xs : List Int32} {K : Mem → List jE} (hK : Ctx shC K) : ∀ n9, ∀ d9, n9 * 2 ≤ d9 → ∀ (x0 : Int32) (x1 : Int32) (c2 : Nat) (m9 : Mem) (q9 : Int32), nX3_apartIn_16 n9 x0 x1 c2 m9 = some q9 → shC c2 = some (.inr (.inl 16)) → CallD (jcs xs) d9 58 [.int x0, .int x1, .ref c2] (K m9) (some (.int q9), K m9)
  | 0, _, _, _, _, _, _, _, h => by cases h
  | n9 + 1, d, hd, _, _, _, _, _, h => fun hc2 => CallD.up (by rw [Nat.succ_mul] at hd; exact hd) (tfX3_apartIn_16 hK (d0 := n9 * 2) (Nat.le_refl _) (tnX3_apartIn_16 hK n9) hc2 h)
noncomputable def fX3_mostApart (m : Mem) : Option Int32 := (nX3_apartIn_16 18 (m 121 3) (15 : Int32) 123 m).bind fun q1 => some q1
theorem ufX3_mostApart {xs : List Int32} {d : Nat} {r : jR} {K : Mem → List jE} (hK : Ctx shC K) (hd : 36 ≤ d) {m : Mem} {L : List (Nat × Value)} (l0 : jget L 0 = some (.ref 121)) {t : Int32} (h : fX3_mostApart m = some t) (hq : (qI r (K m)) t) : RunD (jcs xs) d 1 (some .int) jt_X3_mostApart (0, L, [], (K m)) r := by
  unfold fX3_mostApart at h
  refine R_aload_n (p := 1) rfl l0 rfl ?_
  refine R_getI (p := 4) hK rfl rfl rfl rfl ?_
  refine R_bipush (p := 6) rfl kb_15 rfl ?_
  refine R_aload_n (p := 7) rfl l0 rfl ?_
  refine R_getR (p := 10) (q := 123) hK rfl rfl rfl rfl ?_
  obtain ⟨q1, eq1, h⟩ := bind_some h
  refine R_cS3v (p := 13) rfl (tnX3_apartIn_16 hK 18 _ (Nat.le_trans (by decide) hd) _ _ _ _ _ eq1 rfl) rfl rfl ?_
  obtain rfl := Option.some.inj h
  exact R_ireturn rfl rfl hq
theorem tfX3_mostApart {xs : List Int32} {d : Nat} {K : Mem → List jE} (hK : Ctx shC K) (hd : 37 ≤ d) {m : Mem} {t : Int32} (h : fX3_mostApart m = some t) : CallD (jcs xs) d 57 [.ref 121] (K m) (some (.int t), (K m)) := by
  obtain ⟨d, rfl⟩ : ∃ z, d = z + 1 := ⟨d - 1, by omega⟩
  refine CallD_of jmt_X3_mostApart rfl ⟨rfl, Nat.le_of_ble_eq_true rfl⟩ ?_
  exact ufX3_mostApart hK (Nat.le_of_succ_le_succ hd) rfl h rfl
noncomputable def fX8_apart (x1 : Int32) (m : Mem) : Option (Int32 × Mem) := (if (fX8_within x1 (0 : Int32) (1 : Int32)) = 0 then (fX8_no (1 : Int32) m).bind fun q2 => some (q2.1, q2.2) else (fX3_look 0 m).bind fun q3 => (fX3_mostApart q3).bind fun q4 => (if x1 = 0 then some ((fJ6_bitCount_0f7a4 q4), q3) else some (q4, q3)))
theorem ufX8_apart {xs : List Int32} {d : Nat} {r : jR} {K : Mem → List jE} (hK : Ctx shC K) (hd : 37 ≤ d) {x1 : Int32} {m : Mem} {L : List (Nat × Value)} (l0 : jget L 0 = some (.ref 0)) (l1 : jget L 1 = some (.int x1)) {t : (Int32 × Mem)} (h : fX8_apart x1 m = some t) (hq : (qIM r K) t) : RunD (jcs xs) d 3 (some .int) jt_X8_apart (0, L, [], (K m)) r := by
  unfold fX8_apart at h
  refine R_iload_n (p := 1) rfl l1 rfl ?_
  refine R_iconst (p := 2) rfl ki_0 rfl ?_
  refine R_iconst (p := 3) rfl ki_1 rfl ?_
  refine R_cS3v (p := 6) rfl (tfX8_within (Nat.le_trans (by decide) hd) ) rfl rfl ?_
  by_cases hc : (fX8_within x1 (0 : Int32) (1 : Int32)) = 0
  · replace h := ite_t h hc
    refine R_ifne_f (p := 9) rfl (fun z => z hc) rfl ?_
    refine R_aload_n (p := 10) rfl l0 rfl ?_
    refine R_iconst (p := 11) rfl ki_1 rfl ?_
    obtain ⟨q2, eq2, h⟩ := bind_some h
    refine R_cV2v (p := 14) hK rfl rfl (tfX8_no hK (Nat.le_trans (by decide) hd)  eq2) rfl rfl ?_
    obtain rfl := Option.some.inj h
    exact R_ireturn rfl rfl hq
  · replace h := ite_f h hc
    refine R_ifne_t rfl hc ?_
    refine R_aload_n (p := 16) rfl l0 rfl ?_
    refine R_getR (p := 19) (q := 121) hK rfl rfl rfl rfl ?_
    refine R_aload_n (p := 20) rfl l0 rfl ?_
    refine R_getR (p := 23) (q := (cw 0 1)) hK rfl rfl rfl rfl ?_
    refine R_getR (p := 26) (q := (cw 0 2)) hK rfl (s_w1 (by decide)) rfl rfl ?_
    obtain ⟨q3, eq3, h⟩ := bind_some h
    refine R_cV2n (p := 29) hK rfl rfl (tfX3_look hK (Nat.le_trans (by decide) hd) (by decide) eq3) rfl rfl ?_
    refine R_aload_n (p := 30) rfl l0 rfl ?_
    refine R_getR (p := 33) (q := 121) hK rfl rfl rfl rfl ?_
    obtain ⟨q4, eq4, h⟩ := bind_some h
    refine R_cV1v (p := 36) hK rfl rfl (tfX3_mostApart hK (Nat.le_trans (by decide) hd)  eq4) rfl rfl ?_
    refine R_istore_n (p := 37) rfl rfl rfl ?_
    refine R_iload_n (p := 38) rfl (jg_ne l1 rfl) rfl ?_
    by_cases hc : x1 = 0
    · replace h := ite_t h hc
      refine R_ifne_f (p := 41) rfl (fun z => z hc) rfl ?_
      refine R_iload_n (p := 42) rfl jg_self rfl ?_
      refine R_cS1v (p := 45) rfl (tfJ6_bitCount_0f7a4 (Nat.le_trans (by decide) hd) ) rfl rfl ?_
      refine R_goto rfl ?_
      obtain rfl := Option.some.inj h
      exact R_ireturn rfl rfl hq
    · replace h := ite_f h hc
      refine R_ifne_t rfl hc ?_
      refine R_iload_n (p := 49) rfl jg_self rfl ?_
      obtain rfl := Option.some.inj h
      exact R_ireturn rfl rfl hq
theorem tfX8_apart {xs : List Int32} {d : Nat} {K : Mem → List jE} (hK : Ctx shC K) (hd : 38 ≤ d) {x1 : Int32} {m : Mem} {t : (Int32 × Mem)} (h : fX8_apart x1 m = some t) : CallD (jcs xs) d 132 [.ref 0, .int x1] (K m) (some (.int t.1), K t.2) := by
  obtain ⟨d, rfl⟩ : ∃ z, d = z + 1 := ⟨d - 1, by omega⟩
  refine CallD_of jmt_X8_apart rfl ⟨rfl, Nat.le_of_ble_eq_true rfl⟩ ?_
  exact ufX8_apart hK (Nat.le_of_succ_le_succ hd) rfl rfl h rfl
noncomputable def lX9_there_4 (m : Mem) (s : Int32 × Int32) : Option ((Int32 × Int32) ⊕ Int32) := (if (16 : Int32) ≤ s.2 then some (.inr s.1) else (fX9_is s.2 m).bind fun q1 => (if q1 = 0 then some (.inl ((s.1 ||| (0 : Int32)), (s.2 + (1 : Int32)))) else some (.inl ((s.1 ||| (jShl (1 : Int32) s.2)), (s.2 + (1 : Int32))))))
noncomputable def gX9_there_4 (xs : List Int32) (d : Nat) (r : jR) (K : Mem → List jE) (m : Mem) (s : Int32 × Int32) : Prop := ∀ L, jget L 0 = some (.ref 137) → jget L 1 = some (.int s.1) → jget L 2 = some (.int s.2) → RunD (jcs xs) d 3 (some .int) jt_X9_there (4, L, [], (K m)) r
noncomputable def fX9_there (m : Mem) : Option Int32 := lp (lX9_there_4 m) fu ((0 : Int32), (0 : Int32))
theorem BX9_there_4 {xs : List Int32} {d : Nat} {r : jR} {K : Mem → List jE} (hK : Ctx shR K) (hd : 2 ≤ d)  {m : Mem} (s : Int32 × Int32) {t : (Int32 × Int32) ⊕ Int32} (h : lX9_there_4 m s = some t) (hq : sQ (gX9_there_4 xs d r K m) (qI r (K m)) t) : gX9_there_4 xs d r K m s := by
  intro L l0 l1 l2
  unfold lX9_there_4 at h
  refine R_iload_n (p := 5) rfl l2 rfl ?_
  refine R_bipush (p := 7) rfl kb_16 rfl ?_
  by_cases hc : (16 : Int32) ≤ s.2
  · replace h := ite_t h hc
    refine R_icge_t rfl hc ?_
    refine R_iload_n (p := 35) rfl l1 rfl ?_
    obtain rfl := Option.some.inj h
    exact R_ireturn rfl rfl hq
  · replace h := ite_f h hc
    refine R_icge_f (p := 10) rfl hc rfl ?_
    refine R_iload_n (p := 11) rfl l1 rfl ?_
    refine R_aload_n (p := 12) rfl l0 rfl ?_
    refine R_iload_n (p := 13) rfl l2 rfl ?_
    obtain ⟨q1, eq1, h⟩ := bind_some h
    refine R_cV2v (p := 16) hK rfl rfl (tfX9_is hK (Nat.le_trans (by decide) hd)  eq1) rfl rfl ?_
    by_cases hc : q1 = 0
    · replace h := ite_t h hc
      refine R_ifeq_t rfl hc ?_
      refine R_iconst (p := 26) rfl ki_0 rfl ?_
      refine R_ior (p := 27) rfl rfl ?_
      refine R_istore_n (p := 28) rfl rfl rfl ?_
      refine R_iinc (p := 31) rfl (jg_ne l2 rfl) rfl ki_1 rfl ?_
      refine R_goto rfl ?_
      obtain rfl := Option.some.inj h
      exact hq _ (jg_ne (jg_ne l0 rfl) rfl) (jg_ne jg_self rfl) jg_self
    · replace h := ite_f h hc
      refine R_ifeq_f (p := 19) rfl hc rfl ?_
      refine R_iconst (p := 20) rfl ki_1 rfl ?_
      refine R_iload_n (p := 21) rfl l2 rfl ?_
      refine R_ishl (p := 22) rfl rfl ?_
      refine R_goto rfl ?_
      refine R_ior (p := 27) rfl rfl ?_
      refine R_istore_n (p := 28) rfl rfl rfl ?_
      refine R_iinc (p := 31) rfl (jg_ne l2 rfl) rfl ki_1 rfl ?_
      refine R_goto rfl ?_
      obtain rfl := Option.some.inj h
      exact hq _ (jg_ne (jg_ne l0 rfl) rfl) (jg_ne jg_self rfl) jg_self
theorem LX9_there_4 {xs : List Int32} {d : Nat} {r : jR} {K : Mem → List jE} (hK : Ctx shR K) (hd : 2 ≤ d)  {m : Mem} (n : Nat) (s : Int32 × Int32) {t : Int32} (h : lp (lX9_there_4 m) n s = some t) (hq : (qI r (K m)) t) : gX9_there_4 xs d r K m s := lp_ind (G := gX9_there_4 xs d r K m) (Qe := (qI r (K m))) (fun s t h hq => BX9_there_4 hK hd s h hq) n s t h hq
theorem ufX9_there {xs : List Int32} {d : Nat} {r : jR} {K : Mem → List jE} (hK : Ctx shR K) (hd : 2 ≤ d) {m : Mem} {L : List (Nat × Value)} (l0 : jget L 0 = some (.ref 137)) {t : Int32} (h : fX9_there m = some t) (hq : (qI r (K m)) t) : RunD (jcs xs) d 3 (some .int) jt_X9_there (0, L, [], (K m)) r := by
  unfold fX9_there at h
  refine R_iconst (p := 1) rfl ki_0 rfl ?_
  refine R_istore_n (p := 2) rfl rfl rfl ?_
  refine R_iconst (p := 3) rfl ki_0 rfl ?_
  refine R_istore_n (p := 4) rfl rfl rfl ?_
  exact LX9_there_4 hK hd _ _ h hq _ (jg_ne (jg_ne l0 rfl) rfl) (jg_ne jg_self rfl) jg_self
theorem tfX9_there {xs : List Int32} {d : Nat} {K : Mem → List jE} (hK : Ctx shR K) (hd : 3 ≤ d) {m : Mem} {t : Int32} (h : fX9_there m = some t) : CallD (jcs xs) d 235 [.ref 137] (K m) (some (.int t), (K m)) := by
  obtain ⟨d, rfl⟩ : ∃ z, d = z + 1 := ⟨d - 1, by omega⟩
  refine CallD_of jmt_X9_there rfl ⟨rfl, Nat.le_of_ble_eq_true rfl⟩ ?_
  exact ufX9_there hK (Nat.le_of_succ_le_succ hd) rfl h rfl
noncomputable def lX9_bits_4 (s : Int32 × Int32) : Option ((Int32 × Int32) ⊕ Int32) := (if s.2 = 0 then some (.inr s.1) else some (.inl ((s.1 + (1 : Int32)), (s.2 &&& (s.2 - (1 : Int32))))))
noncomputable def gX9_bits_4 (xs : List Int32) (d : Nat) (r : jR) (hh : List jE) (s : Int32 × Int32) : Prop := ∀ L, jget L 1 = some (.int s.1) → jget L 2 = some (.int s.2) → RunD (jcs xs) d 3 (some .int) jt_X9_bits (4, L, [], hh) r
noncomputable def fX9_bits (x0 : Int32) : Option Int32 := lp (lX9_bits_4) fu ((0 : Int32), x0)
theorem BX9_bits_4 {xs : List Int32} {d : Nat} {r : jR} {hh : List jE} (hd : 0 ≤ d)  (s : Int32 × Int32) {t : (Int32 × Int32) ⊕ Int32} (h : lX9_bits_4 s = some t) (hq : sQ (gX9_bits_4 xs d r hh) (qI r hh) t) : gX9_bits_4 xs d r hh s := by
  intro L l1 l2
  unfold lX9_bits_4 at h
  refine R_iload_n (p := 5) rfl l2 rfl ?_
  by_cases hc : s.2 = 0
  · replace h := ite_t h hc
    refine R_ifeq_t rfl hc ?_
    refine R_iload_n (p := 21) rfl l1 rfl ?_
    obtain rfl := Option.some.inj h
    exact R_ireturn rfl rfl hq
  · replace h := ite_f h hc
    refine R_ifeq_f (p := 8) rfl hc rfl ?_
    refine R_iinc (p := 11) rfl l1 rfl ki_1 rfl ?_
    refine R_iload_n (p := 12) rfl (jg_ne l2 rfl) rfl ?_
    refine R_iload_n (p := 13) rfl (jg_ne l2 rfl) rfl ?_
    refine R_iconst (p := 14) rfl ki_1 rfl ?_
    refine R_isub (p := 15) rfl rfl ?_
    refine R_iand (p := 16) rfl rfl ?_
    refine R_istore_n (p := 17) rfl rfl rfl ?_
    refine R_goto rfl ?_
    obtain rfl := Option.some.inj h
    exact hq _ (jg_ne jg_self rfl) jg_self
theorem LX9_bits_4 {xs : List Int32} {d : Nat} {r : jR} {hh : List jE} (hd : 0 ≤ d)  (n : Nat) (s : Int32 × Int32) {t : Int32} (h : lp (lX9_bits_4) n s = some t) (hq : (qI r hh) t) : gX9_bits_4 xs d r hh s := lp_ind (G := gX9_bits_4 xs d r hh) (Qe := (qI r hh)) (fun s t h hq => BX9_bits_4 hd s h hq) n s t h hq
theorem ufX9_bits {xs : List Int32} {d : Nat} {r : jR} {hh : List jE} (hd : 0 ≤ d) {x0 : Int32} {L : List (Nat × Value)} (l0 : jget L 0 = some (.int x0)) {t : Int32} (h : fX9_bits x0 = some t) (hq : (qI r hh) t) : RunD (jcs xs) d 3 (some .int) jt_X9_bits (0, L, [], hh) r := by
  unfold fX9_bits at h
  refine R_iconst (p := 1) rfl ki_0 rfl ?_
  refine R_istore_n (p := 2) rfl rfl rfl ?_
  refine R_iload_n (p := 3) rfl (jg_ne l0 rfl) rfl ?_
  refine R_istore_n (p := 4) rfl rfl rfl ?_
  exact LX9_bits_4 hd _ _ h hq _ (jg_ne jg_self rfl) jg_self
theorem tfX9_bits {xs : List Int32} {d : Nat} {hh : List jE} (hd : 1 ≤ d) {x0 : Int32} {t : Int32} (h : fX9_bits x0 = some t) : CallD (jcs xs) d 234 [.int x0] hh (some (.int t), hh) := by
  obtain ⟨d, rfl⟩ : ∃ z, d = z + 1 := ⟨d - 1, by omega⟩
  refine CallD_of jmt_X9_bits rfl ⟨rfl, Nat.le_of_ble_eq_true rfl⟩ ?_
  exact ufX9_bits (Nat.le_of_succ_le_succ hd) rfl h rfl
noncomputable def bX9_apart_148 (x1 : Int32) (x2 : Int32) (x3 : Int32) (x4 : Int32) (x5 : Int32) (m : Mem) : Option ((Int32 × Int32) ⊕ (Int32 × Mem)) := (if x5 = 0 then some (.inl (x3, (x4 + (1 : Int32)))) else some (.inl (x4, (x4 + (1 : Int32)))))
noncomputable def lX9_apart_100 (x1 : Int32) (x2 : Int32) (x3 : Int32) (x4 : Int32) (m : Mem) (s : Int32 × Int32) : Option ((Int32 × Int32) ⊕ ((Int32 × Int32) ⊕ (Int32 × Mem))) := (if (16 : Int32) ≤ s.2 then (bX9_apart_148 x1 x2 x3 x4 s.1 m).map Sum.inr else (if s.1 = 0 then (bX9_apart_148 x1 x2 x3 x4 s.1 m).map Sum.inr else (if (fX9_has x4 s.2) = 0 then some (.inl ((1 : Int32), (s.2 + (1 : Int32)))) else (if inb s.2 16 then (if ((m 149 s.2.toNatClampNeg) &&& x4) = 0 then some (.inl ((1 : Int32), (s.2 + (1 : Int32)))) else some (.inl ((0 : Int32), (s.2 + (1 : Int32))))) else none))))
noncomputable def gX9_apart_100 (xs : List Int32) (d : Nat) (r : jR) (K : Mem → List jE) (x1 : Int32) (x2 : Int32) (x3 : Int32) (x4 : Int32) (m : Mem) (s : Int32 × Int32) : Prop := ∀ L, jget L 0 = some (.ref 137) → jget L 1 = some (.int x1) → jget L 2 = some (.int x2) → jget L 3 = some (.int x3) → jget L 4 = some (.int x4) → jget L 5 = some (.int s.1) → jget L 6 = some (.int s.2) → RunD (jcs xs) d 7 (some .int) jt_X9_apart (100, L, [], (K m)) r
noncomputable def lX9_apart_63 (x1 : Int32) (x2 : Int32) (m : Mem) (s : Int32 × Int32) : Option ((Int32 × Int32) ⊕ (Int32 × Mem)) := (if x2 < s.2 then (if x1 = 0 then (fX9_bits s.1).bind fun q4 => some (.inr (q4, m)) else some (.inr (s.1, m))) else (if (s.2 &&& (x2 ^^^ (-1 : Int32))) = 0 then (fX9_bits s.2).bind fun q5 => (fX9_bits s.1).bind fun q6 => (if q5 ≤ q6 then lp (lX9_apart_100 x1 x2 s.1 s.2 m) fu ((0 : Int32), (0 : Int32)) else lp (lX9_apart_100 x1 x2 s.1 s.2 m) fu ((1 : Int32), (0 : Int32))) else lp (lX9_apart_100 x1 x2 s.1 s.2 m) fu ((0 : Int32), (0 : Int32))))
noncomputable def gX9_apart_63 (xs : List Int32) (d : Nat) (r : jR) (K : Mem → List jE) (x1 : Int32) (x2 : Int32) (m : Mem) (s : Int32 × Int32) : Prop := ∀ L, jget L 0 = some (.ref 137) → jget L 1 = some (.int x1) → jget L 2 = some (.int x2) → jget L 3 = some (.int s.1) → jget L 4 = some (.int s.2) → RunD (jcs xs) d 7 (some .int) jt_X9_apart (63, L, [], (K m)) r
noncomputable def bX9_apart_51 (x1 : Int32) (x2 : Int32) (x3 : Int32) (y1 : Int32) (y2 : Int32) (m : Mem) : Option ((Int32 × Mem) ⊕ (Int32 × Mem)) := (if inb y1 16 then some (.inl ((x3 + (1 : Int32)), (mput m 149 y1.toNatClampNeg y2))) else none)
noncomputable def lX9_apart_23 (x1 : Int32) (x2 : Int32) (s : Int32 × Mem) : Option ((Int32 × Mem) ⊕ (Int32 × Mem)) := (if (16 : Int32) ≤ s.1 then (lp (lX9_apart_63 x1 x2 s.2) fu ((0 : Int32), (1 : Int32))).map Sum.inr else (fX9_is s.1 s.2).bind fun q9 => (if q9 = 0 then bX9_apart_51 x1 x2 s.1 s.1 (0 : Int32) s.2 else (fX9_besides s.1 s.2).bind fun q11 => bX9_apart_51 x1 x2 s.1 s.1 q11 s.2))
noncomputable def gX9_apart_23 (xs : List Int32) (d : Nat) (r : jR) (K : Mem → List jE) (x1 : Int32) (x2 : Int32) (s : Int32 × Mem) : Prop := ∀ L, jget L 0 = some (.ref 137) → jget L 1 = some (.int x1) → jget L 2 = some (.int x2) → jget L 3 = some (.int s.1) → RunD (jcs xs) d 7 (some .int) jt_X9_apart (23, L, [], (K s.2)) r
noncomputable def fX9_apart (x1 : Int32) (m : Mem) : Option (Int32 × Mem) := (if (fX9_within x1 (0 : Int32) (1 : Int32)) = 0 then (fX9_finding (-1000001 : Int32) m).bind fun q2 => some (q2.1, q2.2) else (fX9_there m).bind fun q3 => lp (lX9_apart_23 x1 q3) fu ((0 : Int32), m))
theorem tbX9_apart_148 {xs : List Int32} {d : Nat} {r : jR} {K : Mem → List jE} (hK : Ctx shR K) (hd : 3 ≤ d)  {x1 : Int32} {x2 : Int32} {x3 : Int32} {x4 : Int32} {x5 : Int32} {m : Mem} {L : List (Nat × Value)} (l0 : jget L 0 = some (.ref 137)) (l1 : jget L 1 = some (.int x1)) (l2 : jget L 2 = some (.int x2)) (l3 : jget L 3 = some (.int x3)) (l4 : jget L 4 = some (.int x4)) (l5 : jget L 5 = some (.int x5)) {t : ((Int32 × Int32) ⊕ (Int32 × Mem))} (h : bX9_apart_148 x1 x2 x3 x4 x5 m = some t) (hq : (sQ (gX9_apart_63 xs d r K x1 x2 m) (qIM r K)) t) : RunD (jcs xs) d 7 (some .int) jt_X9_apart (148, L, [], (K m)) r := by
  unfold bX9_apart_148 at h
  refine R_iload (p := 150) rfl l5 rfl ?_
  by_cases hc : x5 = 0
  · replace h := ite_t h hc
    refine R_ifeq_t rfl hc ?_
    refine R_iload_n (p := 159) rfl l3 rfl ?_
    refine R_istore_n (p := 160) rfl rfl rfl ?_
    refine R_iinc (p := 163) rfl (jg_ne l4 rfl) rfl ki_1 rfl ?_
    refine R_goto rfl ?_
    obtain rfl := Option.some.inj h
    exact hq _ (jg_ne (jg_ne l0 rfl) rfl) (jg_ne (jg_ne l1 rfl) rfl) (jg_ne (jg_ne l2 rfl) rfl) (jg_ne jg_self rfl) jg_self
  · replace h := ite_f h hc
    refine R_ifeq_f (p := 153) rfl hc rfl ?_
    refine R_iload (p := 155) rfl l4 rfl ?_
    refine R_goto rfl ?_
    refine R_istore_n (p := 160) rfl rfl rfl ?_
    refine R_iinc (p := 163) rfl (jg_ne l4 rfl) rfl ki_1 rfl ?_
    refine R_goto rfl ?_
    obtain rfl := Option.some.inj h
    exact hq _ (jg_ne (jg_ne l0 rfl) rfl) (jg_ne (jg_ne l1 rfl) rfl) (jg_ne (jg_ne l2 rfl) rfl) (jg_ne jg_self rfl) jg_self
theorem BX9_apart_100 {xs : List Int32} {d : Nat} {r : jR} {K : Mem → List jE} (hK : Ctx shR K) (hd : 3 ≤ d)  {x1 : Int32} {x2 : Int32} {x3 : Int32} {x4 : Int32} {m : Mem} (s : Int32 × Int32) {t : (Int32 × Int32) ⊕ ((Int32 × Int32) ⊕ (Int32 × Mem))} (h : lX9_apart_100 x1 x2 x3 x4 m s = some t) (hq : sQ (gX9_apart_100 xs d r K x1 x2 x3 x4 m) (sQ (gX9_apart_63 xs d r K x1 x2 m) (qIM r K)) t) : gX9_apart_100 xs d r K x1 x2 x3 x4 m s := by
  intro L l0 l1 l2 l3 l4 l5 l6
  unfold lX9_apart_100 at h
  refine R_iload (p := 102) rfl l6 rfl ?_
  refine R_bipush (p := 104) rfl kb_16 rfl ?_
  by_cases hc : (16 : Int32) ≤ s.2
  · replace h := ite_t h hc
    refine R_icge_t rfl hc ?_
    obtain ⟨w9, h9, rfl⟩ := map_inr h
    replace h := h9
    exact tbX9_apart_148 hK hd l0 l1 l2 l3 l4 l5 h hq
  · replace h := ite_f h hc
    refine R_icge_f (p := 107) rfl hc rfl ?_
    refine R_iload (p := 109) rfl l5 rfl ?_
    by_cases hc : s.1 = 0
    · replace h := ite_t h hc
      refine R_ifeq_t rfl hc ?_
      obtain ⟨w9, h9, rfl⟩ := map_inr h
      replace h := h9
      exact tbX9_apart_148 hK hd l0 l1 l2 l3 l4 l5 h hq
    · replace h := ite_f h hc
      refine R_ifeq_f (p := 112) rfl hc rfl ?_
      refine R_iload (p := 114) rfl l4 rfl ?_
      refine R_iload (p := 116) rfl l6 rfl ?_
      refine R_cS2v (p := 119) rfl (tfX9_has (Nat.le_trans (by decide) hd) ) rfl rfl ?_
      by_cases hc : (fX9_has x4 s.2) = 0
      · replace h := ite_t h hc
        refine R_ifeq_t rfl hc ?_
        refine R_iconst (p := 136) rfl ki_1 rfl ?_
        refine R_goto rfl ?_
        refine R_istore (p := 142) rfl rfl rfl ?_
        refine R_iinc (p := 145) rfl (jg_ne l6 rfl) rfl ki_1 rfl ?_
        refine R_goto rfl ?_
        obtain rfl := Option.some.inj h
        exact hq _ (jg_ne (jg_ne l0 rfl) rfl) (jg_ne (jg_ne l1 rfl) rfl) (jg_ne (jg_ne l2 rfl) rfl) (jg_ne (jg_ne l3 rfl) rfl) (jg_ne (jg_ne l4 rfl) rfl) (jg_ne jg_self rfl) jg_self
      · replace h := ite_f h hc
        refine R_ifeq_f (p := 122) rfl hc rfl ?_
        refine R_aload_n (p := 123) rfl l0 rfl ?_
        refine R_getR (p := 126) (q := 149) hK rfl rfl rfl rfl ?_
        refine R_iload (p := 128) rfl l6 rfl ?_
        obtain ⟨b8, h⟩ := gd h
        refine R_iald (p := 129) hK rfl rfl b8 rfl ?_
        refine R_iload (p := 131) rfl l4 rfl ?_
        refine R_iand (p := 132) rfl rfl ?_
        by_cases hc : ((m 149 s.2.toNatClampNeg) &&& x4) = 0
        · replace h := ite_t h hc
          refine R_ifne_f (p := 135) rfl (fun z => z hc) rfl ?_
          refine R_iconst (p := 136) rfl ki_1 rfl ?_
          refine R_goto rfl ?_
          refine R_istore (p := 142) rfl rfl rfl ?_
          refine R_iinc (p := 145) rfl (jg_ne l6 rfl) rfl ki_1 rfl ?_
          refine R_goto rfl ?_
          obtain rfl := Option.some.inj h
          exact hq _ (jg_ne (jg_ne l0 rfl) rfl) (jg_ne (jg_ne l1 rfl) rfl) (jg_ne (jg_ne l2 rfl) rfl) (jg_ne (jg_ne l3 rfl) rfl) (jg_ne (jg_ne l4 rfl) rfl) (jg_ne jg_self rfl) jg_self
        · replace h := ite_f h hc
          refine R_ifne_t rfl hc ?_
          refine R_iconst (p := 140) rfl ki_0 rfl ?_
          refine R_istore (p := 142) rfl rfl rfl ?_
          refine R_iinc (p := 145) rfl (jg_ne l6 rfl) rfl ki_1 rfl ?_
          refine R_goto rfl ?_
          obtain rfl := Option.some.inj h
          exact hq _ (jg_ne (jg_ne l0 rfl) rfl) (jg_ne (jg_ne l1 rfl) rfl) (jg_ne (jg_ne l2 rfl) rfl) (jg_ne (jg_ne l3 rfl) rfl) (jg_ne (jg_ne l4 rfl) rfl) (jg_ne jg_self rfl) jg_self
theorem LX9_apart_100 {xs : List Int32} {d : Nat} {r : jR} {K : Mem → List jE} (hK : Ctx shR K) (hd : 3 ≤ d)  {x1 : Int32} {x2 : Int32} {x3 : Int32} {x4 : Int32} {m : Mem} (n : Nat) (s : Int32 × Int32) {t : ((Int32 × Int32) ⊕ (Int32 × Mem))} (h : lp (lX9_apart_100 x1 x2 x3 x4 m) n s = some t) (hq : (sQ (gX9_apart_63 xs d r K x1 x2 m) (qIM r K)) t) : gX9_apart_100 xs d r K x1 x2 x3 x4 m s := lp_ind (G := gX9_apart_100 xs d r K x1 x2 x3 x4 m) (Qe := (sQ (gX9_apart_63 xs d r K x1 x2 m) (qIM r K))) (fun s t h hq => BX9_apart_100 hK hd s h hq) n s t h hq
theorem BX9_apart_63 {xs : List Int32} {d : Nat} {r : jR} {K : Mem → List jE} (hK : Ctx shR K) (hd : 3 ≤ d)  {x1 : Int32} {x2 : Int32} {m : Mem} (s : Int32 × Int32) {t : (Int32 × Int32) ⊕ (Int32 × Mem)} (h : lX9_apart_63 x1 x2 m s = some t) (hq : sQ (gX9_apart_63 xs d r K x1 x2 m) (qIM r K) t) : gX9_apart_63 xs d r K x1 x2 m s := by
  intro L l0 l1 l2 l3 l4
  unfold lX9_apart_63 at h
  refine R_iload (p := 65) rfl l4 rfl ?_
  refine R_iload_n (p := 66) rfl l2 rfl ?_
  by_cases hc : x2 < s.2
  · replace h := ite_t h hc
    refine R_icgt_t rfl hc ?_
    refine R_iload_n (p := 167) rfl l1 rfl ?_
    by_cases hc : x1 = 0
    · replace h := ite_t h hc
      refine R_ifne_f (p := 170) rfl (fun z => z hc) rfl ?_
      refine R_iload_n (p := 171) rfl l3 rfl ?_
      obtain ⟨q4, eq4, h⟩ := bind_some h
      refine R_cS1v (p := 174) rfl (tfX9_bits (Nat.le_trans (by decide) hd)  eq4) rfl rfl ?_
      refine R_goto rfl ?_
      obtain rfl := Option.some.inj h
      exact R_ireturn rfl rfl hq
    · replace h := ite_f h hc
      refine R_ifne_t rfl hc ?_
      refine R_iload_n (p := 178) rfl l3 rfl ?_
      obtain rfl := Option.some.inj h
      exact R_ireturn rfl rfl hq
  · replace h := ite_f h hc
    refine R_icgt_f (p := 69) rfl hc rfl ?_
    refine R_iload (p := 71) rfl l4 rfl ?_
    refine R_iload_n (p := 72) rfl l2 rfl ?_
    refine R_iconst (p := 73) rfl ki_m1 rfl ?_
    refine R_ixor (p := 74) rfl rfl ?_
    refine R_iand (p := 75) rfl rfl ?_
    by_cases hc : (s.2 &&& (x2 ^^^ (-1 : Int32))) = 0
    · replace h := ite_t h hc
      refine R_ifne_f (p := 78) rfl (fun z => z hc) rfl ?_
      refine R_iload (p := 80) rfl l4 rfl ?_
      obtain ⟨q5, eq5, h⟩ := bind_some h
      refine R_cS1v (p := 83) rfl (tfX9_bits (Nat.le_trans (by decide) hd)  eq5) rfl rfl ?_
      refine R_iload_n (p := 84) rfl l3 rfl ?_
      obtain ⟨q6, eq6, h⟩ := bind_some h
      refine R_cS1v (p := 87) rfl (tfX9_bits (Nat.le_trans (by decide) hd)  eq6) rfl rfl ?_
      by_cases hc : q5 ≤ q6
      · replace h := ite_t h hc
        refine R_icle_t rfl hc ?_
        refine R_iconst (p := 95) rfl ki_0 rfl ?_
        refine R_istore (p := 97) rfl rfl rfl ?_
        refine R_iconst (p := 98) rfl ki_0 rfl ?_
        refine R_istore (p := 100) rfl rfl rfl ?_
        exact LX9_apart_100 hK hd _ _ h hq _ (jg_ne (jg_ne l0 rfl) rfl) (jg_ne (jg_ne l1 rfl) rfl) (jg_ne (jg_ne l2 rfl) rfl) (jg_ne (jg_ne l3 rfl) rfl) (jg_ne (jg_ne l4 rfl) rfl) (jg_ne jg_self rfl) jg_self
      · replace h := ite_f h hc
        refine R_icle_f (p := 90) rfl hc rfl ?_
        refine R_iconst (p := 91) rfl ki_1 rfl ?_
        refine R_goto rfl ?_
        refine R_istore (p := 97) rfl rfl rfl ?_
        refine R_iconst (p := 98) rfl ki_0 rfl ?_
        refine R_istore (p := 100) rfl rfl rfl ?_
        exact LX9_apart_100 hK hd _ _ h hq _ (jg_ne (jg_ne l0 rfl) rfl) (jg_ne (jg_ne l1 rfl) rfl) (jg_ne (jg_ne l2 rfl) rfl) (jg_ne (jg_ne l3 rfl) rfl) (jg_ne (jg_ne l4 rfl) rfl) (jg_ne jg_self rfl) jg_self
    · replace h := ite_f h hc
      refine R_ifne_t rfl hc ?_
      refine R_iconst (p := 95) rfl ki_0 rfl ?_
      refine R_istore (p := 97) rfl rfl rfl ?_
      refine R_iconst (p := 98) rfl ki_0 rfl ?_
      refine R_istore (p := 100) rfl rfl rfl ?_
      exact LX9_apart_100 hK hd _ _ h hq _ (jg_ne (jg_ne l0 rfl) rfl) (jg_ne (jg_ne l1 rfl) rfl) (jg_ne (jg_ne l2 rfl) rfl) (jg_ne (jg_ne l3 rfl) rfl) (jg_ne (jg_ne l4 rfl) rfl) (jg_ne jg_self rfl) jg_self
theorem LX9_apart_63 {xs : List Int32} {d : Nat} {r : jR} {K : Mem → List jE} (hK : Ctx shR K) (hd : 3 ≤ d)  {x1 : Int32} {x2 : Int32} {m : Mem} (n : Nat) (s : Int32 × Int32) {t : (Int32 × Mem)} (h : lp (lX9_apart_63 x1 x2 m) n s = some t) (hq : (qIM r K) t) : gX9_apart_63 xs d r K x1 x2 m s := lp_ind (G := gX9_apart_63 xs d r K x1 x2 m) (Qe := (qIM r K)) (fun s t h hq => BX9_apart_63 hK hd s h hq) n s t h hq
theorem tbX9_apart_51 {xs : List Int32} {d : Nat} {r : jR} {K : Mem → List jE} (hK : Ctx shR K) (hd : 3 ≤ d)  {x1 : Int32} {x2 : Int32} {x3 : Int32} {y1 : Int32} {y2 : Int32} {m : Mem} {L : List (Nat × Value)} (l0 : jget L 0 = some (.ref 137)) (l1 : jget L 1 = some (.int x1)) (l2 : jget L 2 = some (.int x2)) (l3 : jget L 3 = some (.int x3)) {t : ((Int32 × Mem) ⊕ (Int32 × Mem))} (h : bX9_apart_51 x1 x2 x3 y1 y2 m = some t) (hq : (sQ (gX9_apart_23 xs d r K x1 x2) (qIM r K)) t) : RunD (jcs xs) d 7 (some .int) jt_X9_apart (51, L, [.int y2, .int y1, .ref 149], (K m)) r := by
  unfold bX9_apart_51 at h
  obtain ⟨b10, h⟩ := gd h
  refine R_iast (p := 52) hK rfl rfl b10 rfl ?_
  refine R_iinc (p := 55) rfl l3 rfl ki_1 rfl ?_
  refine R_goto rfl ?_
  obtain rfl := Option.some.inj h
  exact hq _ (jg_ne l0 rfl) (jg_ne l1 rfl) (jg_ne l2 rfl) jg_self
theorem BX9_apart_23 {xs : List Int32} {d : Nat} {r : jR} {K : Mem → List jE} (hK : Ctx shR K) (hd : 3 ≤ d)  {x1 : Int32} {x2 : Int32} (s : Int32 × Mem) {t : (Int32 × Mem) ⊕ (Int32 × Mem)} (h : lX9_apart_23 x1 x2 s = some t) (hq : sQ (gX9_apart_23 xs d r K x1 x2) (qIM r K) t) : gX9_apart_23 xs d r K x1 x2 s := by
  intro L l0 l1 l2 l3
  unfold lX9_apart_23 at h
  refine R_iload_n (p := 24) rfl l3 rfl ?_
  refine R_bipush (p := 26) rfl kb_16 rfl ?_
  by_cases hc : (16 : Int32) ≤ s.1
  · replace h := ite_t h hc
    refine R_icge_t rfl hc ?_
    refine R_iconst (p := 59) rfl ki_0 rfl ?_
    refine R_istore_n (p := 60) rfl rfl rfl ?_
    refine R_iconst (p := 61) rfl ki_1 rfl ?_
    refine R_istore (p := 63) rfl rfl rfl ?_
    obtain ⟨w9, h9, rfl⟩ := map_inr h
    replace h := h9
    exact LX9_apart_63 hK hd _ _ h hq _ (jg_ne (jg_ne l0 rfl) rfl) (jg_ne (jg_ne l1 rfl) rfl) (jg_ne (jg_ne l2 rfl) rfl) (jg_ne jg_self rfl) jg_self
  · replace h := ite_f h hc
    refine R_icge_f (p := 29) rfl hc rfl ?_
    refine R_aload_n (p := 30) rfl l0 rfl ?_
    refine R_getR (p := 33) (q := 149) hK rfl rfl rfl rfl ?_
    refine R_iload_n (p := 34) rfl l3 rfl ?_
    refine R_aload_n (p := 35) rfl l0 rfl ?_
    refine R_iload_n (p := 36) rfl l3 rfl ?_
    obtain ⟨q9, eq9, h⟩ := bind_some h
    refine R_cV2v (p := 39) hK rfl rfl (tfX9_is hK (Nat.le_trans (by decide) hd)  eq9) rfl rfl ?_
    by_cases hc : q9 = 0
    · replace h := ite_t h hc
      refine R_ifeq_t rfl hc ?_
      refine R_iconst (p := 51) rfl ki_0 rfl ?_
      exact tbX9_apart_51 hK hd l0 l1 l2 l3 h hq
    · replace h := ite_f h hc
      refine R_ifeq_f (p := 42) rfl hc rfl ?_
      refine R_aload_n (p := 43) rfl l0 rfl ?_
      refine R_iload_n (p := 44) rfl l3 rfl ?_
      obtain ⟨q11, eq11, h⟩ := bind_some h
      refine R_cV2v (p := 47) hK rfl rfl (tfX9_besides hK (Nat.le_trans (by decide) hd)  eq11) rfl rfl ?_
      refine R_goto rfl ?_
      exact tbX9_apart_51 hK hd l0 l1 l2 l3 h hq
theorem LX9_apart_23 {xs : List Int32} {d : Nat} {r : jR} {K : Mem → List jE} (hK : Ctx shR K) (hd : 3 ≤ d)  {x1 : Int32} {x2 : Int32} (n : Nat) (s : Int32 × Mem) {t : (Int32 × Mem)} (h : lp (lX9_apart_23 x1 x2) n s = some t) (hq : (qIM r K) t) : gX9_apart_23 xs d r K x1 x2 s := lp_ind (G := gX9_apart_23 xs d r K x1 x2) (Qe := (qIM r K)) (fun s t h hq => BX9_apart_23 hK hd s h hq) n s t h hq
theorem ufX9_apart {xs : List Int32} {d : Nat} {r : jR} {K : Mem → List jE} (hK : Ctx shR K) (hd : 3 ≤ d) {x1 : Int32} {m : Mem} {L : List (Nat × Value)} (l0 : jget L 0 = some (.ref 137)) (l1 : jget L 1 = some (.int x1)) {t : (Int32 × Mem)} (h : fX9_apart x1 m = some t) (hq : (qIM r K) t) : RunD (jcs xs) d 7 (some .int) jt_X9_apart (0, L, [], (K m)) r := by
  unfold fX9_apart at h
  refine R_iload_n (p := 1) rfl l1 rfl ?_
  refine R_iconst (p := 2) rfl ki_0 rfl ?_
  refine R_iconst (p := 3) rfl ki_1 rfl ?_
  refine R_cS3v (p := 6) rfl (tfX9_within (Nat.le_trans (by decide) hd) ) rfl rfl ?_
  by_cases hc : (fX9_within x1 (0 : Int32) (1 : Int32)) = 0
  · replace h := ite_t h hc
    refine R_ifne_f (p := 9) rfl (fun z => z hc) rfl ?_
    refine R_aload_n (p := 10) rfl l0 rfl ?_
    refine R_ldc (p := 12) rfl kl_m1000001 rfl ?_
    obtain ⟨q2, eq2, h⟩ := bind_some h
    refine R_cV2v (p := 15) hK rfl rfl (tfX9_finding hK (Nat.le_trans (by decide) hd)  eq2) rfl rfl ?_
    obtain rfl := Option.some.inj h
    exact R_ireturn rfl rfl hq
  · replace h := ite_f h hc
    refine R_ifne_t rfl hc ?_
    refine R_aload_n (p := 17) rfl l0 rfl ?_
    obtain ⟨q3, eq3, h⟩ := bind_some h
    refine R_cV1v (p := 20) hK rfl rfl (tfX9_there hK (Nat.le_trans (by decide) hd)  eq3) rfl rfl ?_
    refine R_istore_n (p := 21) rfl rfl rfl ?_
    refine R_iconst (p := 22) rfl ki_0 rfl ?_
    refine R_istore_n (p := 23) rfl rfl rfl ?_
    exact LX9_apart_23 hK hd _ _ h hq _ (jg_ne (jg_ne l0 rfl) rfl) (jg_ne (jg_ne l1 rfl) rfl) (jg_ne jg_self rfl) jg_self
theorem tfX9_apart {xs : List Int32} {d : Nat} {K : Mem → List jE} (hK : Ctx shR K) (hd : 4 ≤ d) {x1 : Int32} {m : Mem} {t : (Int32 × Mem)} (h : fX9_apart x1 m = some t) : CallD (jcs xs) d 236 [.ref 137, .int x1] (K m) (some (.int t.1), K t.2) := by
  obtain ⟨d, rfl⟩ : ∃ z, d = z + 1 := ⟨d - 1, by omega⟩
  refine CallD_of jmt_X9_apart rfl ⟨rfl, Nat.le_of_ble_eq_true rfl⟩ ?_
  exact ufX9_apart hK (Nat.le_of_succ_le_succ hd) rfl rfl h rfl
noncomputable def bX8_marked_60 (x1 : Int32) (x2 : Int32) (x3 : Int32) (x4 : Int32) (x5 : Int32) (y0 : Int32) (m : Mem) : Option ((Int32 × Int32 × Int32 × Int32 × Mem) ⊕ (Int32 × Mem)) := (if y0 = 0 then some (.inl (x2, x3, x4, (x5 + (1 : Int32)), m)) else some (.inl ((x2 + (1 : Int32)), (x3 ||| (jShl (1 : Int32) x5)), (x4 + y0), (x5 + (1 : Int32)), m)))
noncomputable def lX8_marked_25 (x1 : Int32) (s : Int32 × Int32 × Int32 × Int32 × Mem) : Option ((Int32 × Int32 × Int32 × Int32 × Mem) ⊕ (Int32 × Mem)) := (if (16 : Int32) ≤ s.2.2.2.1 then (if x1 = 0 then some (.inr (s.1, s.2.2.2.2)) else (if x1 = (1 : Int32) then some (.inr (s.2.1, s.2.2.2.2)) else some (.inr (s.2.2.1, s.2.2.2.2)))) else (if (fX0_has 0 s.2.2.2.1 s.2.2.2.2) = 0 then bX8_marked_60 x1 s.1 s.2.1 s.2.2.1 s.2.2.2.1 (0 : Int32) s.2.2.2.2 else (fX7_mark 0 s.2.2.2.1 s.2.2.2.2).bind fun q4 => bX8_marked_60 x1 s.1 s.2.1 s.2.2.1 s.2.2.2.1 q4.1 q4.2))
noncomputable def gX8_marked_25 (xs : List Int32) (d : Nat) (r : jR) (K : Mem → List jE) (x1 : Int32) (s : Int32 × Int32 × Int32 × Int32 × Mem) : Prop := ∀ L, jget L 0 = some (.ref 0) → jget L 1 = some (.int x1) → jget L 2 = some (.int s.1) → jget L 3 = some (.int s.2.1) → jget L 4 = some (.int s.2.2.1) → jget L 5 = some (.int s.2.2.2.1) → RunD (jcs xs) d 7 (some .int) jt_X8_marked (25, L, [], (K s.2.2.2.2)) r
noncomputable def fX8_marked (x1 : Int32) (m : Mem) : Option (Int32 × Mem) := (if (fX8_within x1 (0 : Int32) (2 : Int32)) = 0 then (fX8_no (1 : Int32) m).bind fun q2 => some (q2.1, q2.2) else lp (lX8_marked_25 x1) fu ((0 : Int32), (0 : Int32), (0 : Int32), (0 : Int32), m))
theorem tbX8_marked_60 {xs : List Int32} {d : Nat} {r : jR} {K : Mem → List jE} (hK : Ctx shC K) (hd : 3 ≤ d)  {x1 : Int32} {x2 : Int32} {x3 : Int32} {x4 : Int32} {x5 : Int32} {y0 : Int32} {m : Mem} {L : List (Nat × Value)} (l0 : jget L 0 = some (.ref 0)) (l1 : jget L 1 = some (.int x1)) (l2 : jget L 2 = some (.int x2)) (l3 : jget L 3 = some (.int x3)) (l4 : jget L 4 = some (.int x4)) (l5 : jget L 5 = some (.int x5)) {t : ((Int32 × Int32 × Int32 × Int32 × Mem) ⊕ (Int32 × Mem))} (h : bX8_marked_60 x1 x2 x3 x4 x5 y0 m = some t) (hq : (sQ (gX8_marked_25 xs d r K x1) (qIM r K)) t) : RunD (jcs xs) d 7 (some .int) jt_X8_marked (60, L, [.int y0], (K m)) r := by
  unfold bX8_marked_60 at h
  refine R_istore (p := 62) rfl rfl rfl ?_
  refine R_iload (p := 64) rfl jg_self rfl ?_
  by_cases hc : y0 = 0
  · replace h := ite_t h hc
    refine R_ifeq_t rfl hc ?_
    refine R_iinc (p := 87) rfl (jg_ne l5 rfl) rfl ki_1 rfl ?_
    refine R_goto rfl ?_
    obtain rfl := Option.some.inj h
    exact hq _ (jg_ne (jg_ne l0 rfl) rfl) (jg_ne (jg_ne l1 rfl) rfl) (jg_ne (jg_ne l2 rfl) rfl) (jg_ne (jg_ne l3 rfl) rfl) (jg_ne (jg_ne l4 rfl) rfl) jg_self
  · replace h := ite_f h hc
    refine R_ifeq_f (p := 67) rfl hc rfl ?_
    refine R_iinc (p := 70) rfl (jg_ne l2 rfl) rfl ki_1 rfl ?_
    refine R_iload_n (p := 71) rfl (jg_ne (jg_ne l3 rfl) rfl) rfl ?_
    refine R_iconst (p := 72) rfl ki_1 rfl ?_
    refine R_iload (p := 74) rfl (jg_ne (jg_ne l5 rfl) rfl) rfl ?_
    refine R_ishl (p := 75) rfl rfl ?_
    refine R_ior (p := 76) rfl rfl ?_
    refine R_istore_n (p := 77) rfl rfl rfl ?_
    refine R_iload (p := 79) rfl (jg_ne (jg_ne (jg_ne l4 rfl) rfl) rfl) rfl ?_
    refine R_iload (p := 81) rfl (jg_ne (jg_ne jg_self rfl) rfl) rfl ?_
    refine R_iadd (p := 82) rfl rfl ?_
    refine R_istore (p := 84) rfl rfl rfl ?_
    refine R_iinc (p := 87) rfl (jg_ne (jg_ne (jg_ne (jg_ne l5 rfl) rfl) rfl) rfl) rfl ki_1 rfl ?_
    refine R_goto rfl ?_
    obtain rfl := Option.some.inj h
    exact hq _ (jg_ne (jg_ne (jg_ne (jg_ne (jg_ne l0 rfl) rfl) rfl) rfl) rfl) (jg_ne (jg_ne (jg_ne (jg_ne (jg_ne l1 rfl) rfl) rfl) rfl) rfl) (jg_ne (jg_ne (jg_ne jg_self rfl) rfl) rfl) (jg_ne (jg_ne jg_self rfl) rfl) (jg_ne jg_self rfl) jg_self
theorem BX8_marked_25 {xs : List Int32} {d : Nat} {r : jR} {K : Mem → List jE} (hK : Ctx shC K) (hd : 3 ≤ d)  {x1 : Int32} (s : Int32 × Int32 × Int32 × Int32 × Mem) {t : (Int32 × Int32 × Int32 × Int32 × Mem) ⊕ (Int32 × Mem)} (h : lX8_marked_25 x1 s = some t) (hq : sQ (gX8_marked_25 xs d r K x1) (qIM r K) t) : gX8_marked_25 xs d r K x1 s := by
  intro L l0 l1 l2 l3 l4 l5
  unfold lX8_marked_25 at h
  refine R_iload (p := 27) rfl l5 rfl ?_
  refine R_bipush (p := 29) rfl kb_16 rfl ?_
  by_cases hc : (16 : Int32) ≤ s.2.2.2.1
  · replace h := ite_t h hc
    refine R_icge_t rfl hc ?_
    refine R_iload_n (p := 91) rfl l1 rfl ?_
    by_cases hc : x1 = 0
    · replace h := ite_t h hc
      refine R_ifne_f (p := 94) rfl (fun z => z hc) rfl ?_
      refine R_iload_n (p := 95) rfl l2 rfl ?_
      refine R_goto rfl ?_
      obtain rfl := Option.some.inj h
      exact R_ireturn rfl rfl hq
    · replace h := ite_f h hc
      refine R_ifne_t rfl hc ?_
      refine R_iload_n (p := 99) rfl l1 rfl ?_
      refine R_iconst (p := 100) rfl ki_1 rfl ?_
      by_cases hc : x1 = (1 : Int32)
      · replace h := ite_t h hc
        refine R_icne_f (p := 103) rfl (fun z => z hc) rfl ?_
        refine R_iload_n (p := 104) rfl l3 rfl ?_
        refine R_goto rfl ?_
        obtain rfl := Option.some.inj h
        exact R_ireturn rfl rfl hq
      · replace h := ite_f h hc
        refine R_icne_t rfl hc ?_
        refine R_iload (p := 109) rfl l4 rfl ?_
        obtain rfl := Option.some.inj h
        exact R_ireturn rfl rfl hq
  · replace h := ite_f h hc
    refine R_icge_f (p := 32) rfl hc rfl ?_
    refine R_aload_n (p := 33) rfl l0 rfl ?_
    refine R_getR (p := 36) (q := (cw 0 1)) hK rfl rfl rfl rfl ?_
    refine R_getR (p := 39) (q := (cw 0 2)) hK rfl (s_w1 (by decide)) rfl rfl ?_
    refine R_iload (p := 41) rfl l5 rfl ?_
    refine R_cV2v (p := 44) hK rfl (s_w2 (by decide)) (tfX0_has hK (Nat.le_trans (by decide) hd) (by decide)) rfl rfl ?_
    by_cases hc : (fX0_has 0 s.2.2.2.1 s.2.2.2.2) = 0
    · replace h := ite_t h hc
      refine R_ifeq_t rfl hc ?_
      refine R_iconst (p := 60) rfl ki_0 rfl ?_
      exact tbX8_marked_60 hK hd l0 l1 l2 l3 l4 l5 h hq
    · replace h := ite_f h hc
      refine R_ifeq_f (p := 47) rfl hc rfl ?_
      refine R_aload_n (p := 48) rfl l0 rfl ?_
      refine R_getR (p := 51) (q := (cw 0 1)) hK rfl rfl rfl rfl ?_
      refine R_iload (p := 53) rfl l5 rfl ?_
      obtain ⟨q4, eq4, h⟩ := bind_some h
      refine R_cV2v (p := 56) hK rfl (s_w1 (by decide)) (tfX7_mark hK (Nat.le_trans (by decide) hd) (by decide) eq4) rfl rfl ?_
      refine R_goto rfl ?_
      exact tbX8_marked_60 hK hd l0 l1 l2 l3 l4 l5 h hq
theorem LX8_marked_25 {xs : List Int32} {d : Nat} {r : jR} {K : Mem → List jE} (hK : Ctx shC K) (hd : 3 ≤ d)  {x1 : Int32} (n : Nat) (s : Int32 × Int32 × Int32 × Int32 × Mem) {t : (Int32 × Mem)} (h : lp (lX8_marked_25 x1) n s = some t) (hq : (qIM r K) t) : gX8_marked_25 xs d r K x1 s := lp_ind (G := gX8_marked_25 xs d r K x1) (Qe := (qIM r K)) (fun s t h hq => BX8_marked_25 hK hd s h hq) n s t h hq
theorem ufX8_marked {xs : List Int32} {d : Nat} {r : jR} {K : Mem → List jE} (hK : Ctx shC K) (hd : 3 ≤ d) {x1 : Int32} {m : Mem} {L : List (Nat × Value)} (l0 : jget L 0 = some (.ref 0)) (l1 : jget L 1 = some (.int x1)) {t : (Int32 × Mem)} (h : fX8_marked x1 m = some t) (hq : (qIM r K) t) : RunD (jcs xs) d 7 (some .int) jt_X8_marked (0, L, [], (K m)) r := by
  unfold fX8_marked at h
  refine R_iload_n (p := 1) rfl l1 rfl ?_
  refine R_iconst (p := 2) rfl ki_0 rfl ?_
  refine R_iconst (p := 3) rfl ki_2 rfl ?_
  refine R_cS3v (p := 6) rfl (tfX8_within (Nat.le_trans (by decide) hd) ) rfl rfl ?_
  by_cases hc : (fX8_within x1 (0 : Int32) (2 : Int32)) = 0
  · replace h := ite_t h hc
    refine R_ifne_f (p := 9) rfl (fun z => z hc) rfl ?_
    refine R_aload_n (p := 10) rfl l0 rfl ?_
    refine R_iconst (p := 11) rfl ki_1 rfl ?_
    obtain ⟨q2, eq2, h⟩ := bind_some h
    refine R_cV2v (p := 14) hK rfl rfl (tfX8_no hK (Nat.le_trans (by decide) hd)  eq2) rfl rfl ?_
    obtain rfl := Option.some.inj h
    exact R_ireturn rfl rfl hq
  · replace h := ite_f h hc
    refine R_ifne_t rfl hc ?_
    refine R_iconst (p := 16) rfl ki_0 rfl ?_
    refine R_istore_n (p := 17) rfl rfl rfl ?_
    refine R_iconst (p := 18) rfl ki_0 rfl ?_
    refine R_istore_n (p := 19) rfl rfl rfl ?_
    refine R_iconst (p := 20) rfl ki_0 rfl ?_
    refine R_istore (p := 22) rfl rfl rfl ?_
    refine R_iconst (p := 23) rfl ki_0 rfl ?_
    refine R_istore (p := 25) rfl rfl rfl ?_
    exact LX8_marked_25 hK hd _ _ h hq _ (jg_ne (jg_ne (jg_ne (jg_ne l0 rfl) rfl) rfl) rfl) (jg_ne (jg_ne (jg_ne (jg_ne l1 rfl) rfl) rfl) rfl) (jg_ne (jg_ne (jg_ne jg_self rfl) rfl) rfl) (jg_ne (jg_ne jg_self rfl) rfl) (jg_ne jg_self rfl) jg_self
theorem tfX8_marked {xs : List Int32} {d : Nat} {K : Mem → List jE} (hK : Ctx shC K) (hd : 4 ≤ d) {x1 : Int32} {m : Mem} {t : (Int32 × Mem)} (h : fX8_marked x1 m = some t) : CallD (jcs xs) d 133 [.ref 0, .int x1] (K m) (some (.int t.1), K t.2) := by
  obtain ⟨d, rfl⟩ : ∃ z, d = z + 1 := ⟨d - 1, by omega⟩
  refine CallD_of jmt_X8_marked rfl ⟨rfl, Nat.le_of_ble_eq_true rfl⟩ ?_
  exact ufX8_marked hK (Nat.le_of_succ_le_succ hd) rfl rfl h rfl
noncomputable def bX9_marked_49 (x1 : Int32) (x2 : Int32) (x3 : Int32) (x4 : Int32) (y0 : Int32) (m : Mem) : Option ((Int32 × Int32 × Int32 × Mem) ⊕ (Int32 × Mem)) := (if y0 = 0 then some (.inl ((x2 ||| (0 : Int32)), (x3 + y0), (x4 + (1 : Int32)), m)) else some (.inl ((x2 ||| (jShl (1 : Int32) x4)), (x3 + y0), (x4 + (1 : Int32)), m)))
noncomputable def lX9_marked_23 (x1 : Int32) (s : Int32 × Int32 × Int32 × Mem) : Option ((Int32 × Int32 × Int32 × Mem) ⊕ (Int32 × Mem)) := (if (16 : Int32) ≤ s.2.2.1 then (if x1 = 0 then (fX9_bits s.1).bind fun q3 => some (.inr (q3, s.2.2.2)) else (if x1 = (1 : Int32) then some (.inr (s.1, s.2.2.2)) else some (.inr (s.2.1, s.2.2.2)))) else (fX9_is s.2.2.1 s.2.2.2).bind fun q4 => (if q4 = 0 then bX9_marked_49 x1 s.1 s.2.1 s.2.2.1 (0 : Int32) s.2.2.2 else (fX9_markOf s.2.2.1 s.2.2.2).bind fun q5 => bX9_marked_49 x1 s.1 s.2.1 s.2.2.1 q5.1 q5.2))
noncomputable def gX9_marked_23 (xs : List Int32) (d : Nat) (r : jR) (K : Mem → List jE) (x1 : Int32) (s : Int32 × Int32 × Int32 × Mem) : Prop := ∀ L, jget L 0 = some (.ref 137) → jget L 1 = some (.int x1) → jget L 2 = some (.int s.1) → jget L 3 = some (.int s.2.1) → jget L 4 = some (.int s.2.2.1) → RunD (jcs xs) d 6 (some .int) jt_X9_marked (23, L, [], (K s.2.2.2)) r
noncomputable def fX9_marked (x1 : Int32) (m : Mem) : Option (Int32 × Mem) := (if (fX9_within x1 (0 : Int32) (2 : Int32)) = 0 then (fX9_finding (-1000001 : Int32) m).bind fun q2 => some (q2.1, q2.2) else lp (lX9_marked_23 x1) fu ((0 : Int32), (0 : Int32), (0 : Int32), m))
theorem tbX9_marked_49 {xs : List Int32} {d : Nat} {r : jR} {K : Mem → List jE} (hK : Ctx shR K) (hd : 4 ≤ d)  {x1 : Int32} {x2 : Int32} {x3 : Int32} {x4 : Int32} {y0 : Int32} {m : Mem} {L : List (Nat × Value)} (l0 : jget L 0 = some (.ref 137)) (l1 : jget L 1 = some (.int x1)) (l2 : jget L 2 = some (.int x2)) (l3 : jget L 3 = some (.int x3)) (l4 : jget L 4 = some (.int x4)) {t : ((Int32 × Int32 × Int32 × Mem) ⊕ (Int32 × Mem))} (h : bX9_marked_49 x1 x2 x3 x4 y0 m = some t) (hq : (sQ (gX9_marked_23 xs d r K x1) (qIM r K)) t) : RunD (jcs xs) d 6 (some .int) jt_X9_marked (49, L, [.int y0], (K m)) r := by
  unfold bX9_marked_49 at h
  refine R_istore (p := 51) rfl rfl rfl ?_
  refine R_iload_n (p := 52) rfl (jg_ne l2 rfl) rfl ?_
  refine R_iload (p := 54) rfl jg_self rfl ?_
  by_cases hc : y0 = 0
  · replace h := ite_t h hc
    refine R_ifeq_t rfl hc ?_
    refine R_iconst (p := 65) rfl ki_0 rfl ?_
    refine R_ior (p := 66) rfl rfl ?_
    refine R_istore_n (p := 67) rfl rfl rfl ?_
    refine R_iload_n (p := 68) rfl (jg_ne (jg_ne l3 rfl) rfl) rfl ?_
    refine R_iload (p := 70) rfl (jg_ne jg_self rfl) rfl ?_
    refine R_iadd (p := 71) rfl rfl ?_
    refine R_istore_n (p := 72) rfl rfl rfl ?_
    refine R_iinc (p := 75) rfl (jg_ne (jg_ne (jg_ne l4 rfl) rfl) rfl) rfl ki_1 rfl ?_
    refine R_goto rfl ?_
    obtain rfl := Option.some.inj h
    exact hq _ (jg_ne (jg_ne (jg_ne (jg_ne l0 rfl) rfl) rfl) rfl) (jg_ne (jg_ne (jg_ne (jg_ne l1 rfl) rfl) rfl) rfl) (jg_ne (jg_ne jg_self rfl) rfl) (jg_ne jg_self rfl) jg_self
  · replace h := ite_f h hc
    refine R_ifeq_f (p := 57) rfl hc rfl ?_
    refine R_iconst (p := 58) rfl ki_1 rfl ?_
    refine R_iload (p := 60) rfl (jg_ne l4 rfl) rfl ?_
    refine R_ishl (p := 61) rfl rfl ?_
    refine R_goto rfl ?_
    refine R_ior (p := 66) rfl rfl ?_
    refine R_istore_n (p := 67) rfl rfl rfl ?_
    refine R_iload_n (p := 68) rfl (jg_ne (jg_ne l3 rfl) rfl) rfl ?_
    refine R_iload (p := 70) rfl (jg_ne jg_self rfl) rfl ?_
    refine R_iadd (p := 71) rfl rfl ?_
    refine R_istore_n (p := 72) rfl rfl rfl ?_
    refine R_iinc (p := 75) rfl (jg_ne (jg_ne (jg_ne l4 rfl) rfl) rfl) rfl ki_1 rfl ?_
    refine R_goto rfl ?_
    obtain rfl := Option.some.inj h
    exact hq _ (jg_ne (jg_ne (jg_ne (jg_ne l0 rfl) rfl) rfl) rfl) (jg_ne (jg_ne (jg_ne (jg_ne l1 rfl) rfl) rfl) rfl) (jg_ne (jg_ne jg_self rfl) rfl) (jg_ne jg_self rfl) jg_self
theorem BX9_marked_23 {xs : List Int32} {d : Nat} {r : jR} {K : Mem → List jE} (hK : Ctx shR K) (hd : 4 ≤ d)  {x1 : Int32} (s : Int32 × Int32 × Int32 × Mem) {t : (Int32 × Int32 × Int32 × Mem) ⊕ (Int32 × Mem)} (h : lX9_marked_23 x1 s = some t) (hq : sQ (gX9_marked_23 xs d r K x1) (qIM r K) t) : gX9_marked_23 xs d r K x1 s := by
  intro L l0 l1 l2 l3 l4
  unfold lX9_marked_23 at h
  refine R_iload (p := 25) rfl l4 rfl ?_
  refine R_bipush (p := 27) rfl kb_16 rfl ?_
  by_cases hc : (16 : Int32) ≤ s.2.2.1
  · replace h := ite_t h hc
    refine R_icge_t rfl hc ?_
    refine R_iload_n (p := 79) rfl l1 rfl ?_
    by_cases hc : x1 = 0
    · replace h := ite_t h hc
      refine R_ifne_f (p := 82) rfl (fun z => z hc) rfl ?_
      refine R_iload_n (p := 83) rfl l2 rfl ?_
      obtain ⟨q3, eq3, h⟩ := bind_some h
      refine R_cS1v (p := 86) rfl (tfX9_bits (Nat.le_trans (by decide) hd)  eq3) rfl rfl ?_
      refine R_goto rfl ?_
      obtain rfl := Option.some.inj h
      exact R_ireturn rfl rfl hq
    · replace h := ite_f h hc
      refine R_ifne_t rfl hc ?_
      refine R_iload_n (p := 90) rfl l1 rfl ?_
      refine R_iconst (p := 91) rfl ki_1 rfl ?_
      by_cases hc : x1 = (1 : Int32)
      · replace h := ite_t h hc
        refine R_icne_f (p := 94) rfl (fun z => z hc) rfl ?_
        refine R_iload_n (p := 95) rfl l2 rfl ?_
        refine R_goto rfl ?_
        obtain rfl := Option.some.inj h
        exact R_ireturn rfl rfl hq
      · replace h := ite_f h hc
        refine R_icne_t rfl hc ?_
        refine R_iload_n (p := 99) rfl l3 rfl ?_
        obtain rfl := Option.some.inj h
        exact R_ireturn rfl rfl hq
  · replace h := ite_f h hc
    refine R_icge_f (p := 30) rfl hc rfl ?_
    refine R_aload_n (p := 31) rfl l0 rfl ?_
    refine R_iload (p := 33) rfl l4 rfl ?_
    obtain ⟨q4, eq4, h⟩ := bind_some h
    refine R_cV2v (p := 36) hK rfl rfl (tfX9_is hK (Nat.le_trans (by decide) hd)  eq4) rfl rfl ?_
    by_cases hc : q4 = 0
    · replace h := ite_t h hc
      refine R_ifeq_t rfl hc ?_
      refine R_iconst (p := 49) rfl ki_0 rfl ?_
      exact tbX9_marked_49 hK hd l0 l1 l2 l3 l4 h hq
    · replace h := ite_f h hc
      refine R_ifeq_f (p := 39) rfl hc rfl ?_
      refine R_aload_n (p := 40) rfl l0 rfl ?_
      refine R_iload (p := 42) rfl l4 rfl ?_
      obtain ⟨q5, eq5, h⟩ := bind_some h
      refine R_cV2v (p := 45) hK rfl rfl (tfX9_markOf hK (Nat.le_trans (by decide) hd)  eq5) rfl rfl ?_
      refine R_goto rfl ?_
      exact tbX9_marked_49 hK hd l0 l1 l2 l3 l4 h hq
theorem LX9_marked_23 {xs : List Int32} {d : Nat} {r : jR} {K : Mem → List jE} (hK : Ctx shR K) (hd : 4 ≤ d)  {x1 : Int32} (n : Nat) (s : Int32 × Int32 × Int32 × Mem) {t : (Int32 × Mem)} (h : lp (lX9_marked_23 x1) n s = some t) (hq : (qIM r K) t) : gX9_marked_23 xs d r K x1 s := lp_ind (G := gX9_marked_23 xs d r K x1) (Qe := (qIM r K)) (fun s t h hq => BX9_marked_23 hK hd s h hq) n s t h hq
theorem ufX9_marked {xs : List Int32} {d : Nat} {r : jR} {K : Mem → List jE} (hK : Ctx shR K) (hd : 4 ≤ d) {x1 : Int32} {m : Mem} {L : List (Nat × Value)} (l0 : jget L 0 = some (.ref 137)) (l1 : jget L 1 = some (.int x1)) {t : (Int32 × Mem)} (h : fX9_marked x1 m = some t) (hq : (qIM r K) t) : RunD (jcs xs) d 6 (some .int) jt_X9_marked (0, L, [], (K m)) r := by
  unfold fX9_marked at h
  refine R_iload_n (p := 1) rfl l1 rfl ?_
  refine R_iconst (p := 2) rfl ki_0 rfl ?_
  refine R_iconst (p := 3) rfl ki_2 rfl ?_
  refine R_cS3v (p := 6) rfl (tfX9_within (Nat.le_trans (by decide) hd) ) rfl rfl ?_
  by_cases hc : (fX9_within x1 (0 : Int32) (2 : Int32)) = 0
  · replace h := ite_t h hc
    refine R_ifne_f (p := 9) rfl (fun z => z hc) rfl ?_
    refine R_aload_n (p := 10) rfl l0 rfl ?_
    refine R_ldc (p := 12) rfl kl_m1000001 rfl ?_
    obtain ⟨q2, eq2, h⟩ := bind_some h
    refine R_cV2v (p := 15) hK rfl rfl (tfX9_finding hK (Nat.le_trans (by decide) hd)  eq2) rfl rfl ?_
    obtain rfl := Option.some.inj h
    exact R_ireturn rfl rfl hq
  · replace h := ite_f h hc
    refine R_ifne_t rfl hc ?_
    refine R_iconst (p := 17) rfl ki_0 rfl ?_
    refine R_istore_n (p := 18) rfl rfl rfl ?_
    refine R_iconst (p := 19) rfl ki_0 rfl ?_
    refine R_istore_n (p := 20) rfl rfl rfl ?_
    refine R_iconst (p := 21) rfl ki_0 rfl ?_
    refine R_istore (p := 23) rfl rfl rfl ?_
    exact LX9_marked_23 hK hd _ _ h hq _ (jg_ne (jg_ne (jg_ne l0 rfl) rfl) rfl) (jg_ne (jg_ne (jg_ne l1 rfl) rfl) rfl) (jg_ne (jg_ne jg_self rfl) rfl) (jg_ne jg_self rfl) jg_self
theorem tfX9_marked {xs : List Int32} {d : Nat} {K : Mem → List jE} (hK : Ctx shR K) (hd : 5 ≤ d) {x1 : Int32} {m : Mem} {t : (Int32 × Mem)} (h : fX9_marked x1 m = some t) : CallD (jcs xs) d 237 [.ref 137, .int x1] (K m) (some (.int t.1), K t.2) := by
  obtain ⟨d, rfl⟩ : ∃ z, d = z + 1 := ⟨d - 1, by omega⟩
  refine CallD_of jmt_X9_marked rfl ⟨rfl, Nat.le_of_ble_eq_true rfl⟩ ?_
  exact ufX9_marked hK (Nat.le_of_succ_le_succ hd) rfl rfl h rfl
noncomputable def fX6_bodyAt (x0 : Int32) (x1 : Int32) (m : Mem) : Option Int32 := (if x0 < 0 then some (0 : Int32) else (if x1 < 0 then some (0 : Int32) else (if (4 : Int32) ≤ x1 then some (0 : Int32) else (if (28 : Int32) ≤ ((x0 * (4 : Int32)) + x1) then some (0 : Int32) else (jat jcst_4 ((x0 * (4 : Int32)) + x1)).bind fun q1 => some q1))))
theorem ufX6_bodyAt {xs : List Int32} {d : Nat} {r : jR} {K : Mem → List jE} (hK : Ctx shC K) (hd : 0 ≤ d) {x0 : Int32} {x1 : Int32} {m : Mem} {L : List (Nat × Value)} (l0 : jget L 0 = some (.int x0)) (l1 : jget L 1 = some (.int x1)) {t : Int32} (h : fX6_bodyAt x0 x1 m = some t) (hq : (qI r (K m)) t) : RunD (jcs xs) d 3 (some .int) jt_X6_bodyAt (0, L, [], (K m)) r := by
  unfold fX6_bodyAt at h
  refine R_iload_n (p := 1) rfl l0 rfl ?_
  refine R_iconst (p := 2) rfl ki_4 rfl ?_
  refine R_imul (p := 3) rfl rfl ?_
  refine R_iload_n (p := 4) rfl l1 rfl ?_
  refine R_iadd (p := 5) rfl rfl ?_
  refine R_istore_n (p := 6) rfl rfl rfl ?_
  refine R_iload_n (p := 7) rfl (jg_ne l0 rfl) rfl ?_
  by_cases hc : x0 < 0
  · replace h := ite_t h hc
    refine R_iflt_t rfl hc ?_
    refine R_iconst (p := 36) rfl ki_0 rfl ?_
    obtain rfl := Option.some.inj h
    exact R_ireturn rfl rfl hq
  · replace h := ite_f h hc
    refine R_iflt_f (p := 10) rfl hc rfl ?_
    refine R_iload_n (p := 11) rfl (jg_ne l1 rfl) rfl ?_
    by_cases hc : x1 < 0
    · replace h := ite_t h hc
      refine R_iflt_t rfl hc ?_
      refine R_iconst (p := 36) rfl ki_0 rfl ?_
      obtain rfl := Option.some.inj h
      exact R_ireturn rfl rfl hq
    · replace h := ite_f h hc
      refine R_iflt_f (p := 14) rfl hc rfl ?_
      refine R_iload_n (p := 15) rfl (jg_ne l1 rfl) rfl ?_
      refine R_iconst (p := 16) rfl ki_4 rfl ?_
      by_cases hc : (4 : Int32) ≤ x1
      · replace h := ite_t h hc
        refine R_icge_t rfl hc ?_
        refine R_iconst (p := 36) rfl ki_0 rfl ?_
        obtain rfl := Option.some.inj h
        exact R_ireturn rfl rfl hq
      · replace h := ite_f h hc
        refine R_icge_f (p := 19) rfl hc rfl ?_
        refine R_iload_n (p := 20) rfl jg_self rfl ?_
        refine R_getst (p := 23) rfl rfl ?_
        refine R_alec (p := 24) (x := (28 : Int32)) rfl rfl rfl rfl ?_
        by_cases hc : (28 : Int32) ≤ ((x0 * (4 : Int32)) + x1)
        · replace h := ite_t h hc
          refine R_icge_t rfl hc ?_
          refine R_iconst (p := 36) rfl ki_0 rfl ?_
          obtain rfl := Option.some.inj h
          exact R_ireturn rfl rfl hq
        · replace h := ite_f h hc
          refine R_icge_f (p := 27) rfl hc rfl ?_
          refine R_getst (p := 30) rfl rfl ?_
          refine R_iload_n (p := 31) rfl jg_self rfl ?_
          obtain ⟨q1, eq1, h⟩ := bind_some h
          refine R_ialc (p := 32) rfl rfl eq1 rfl ?_
          refine R_goto rfl ?_
          obtain rfl := Option.some.inj h
          exact R_ireturn rfl rfl hq
theorem tfX6_bodyAt {xs : List Int32} {d : Nat} {K : Mem → List jE} (hK : Ctx shC K) (hd : 1 ≤ d) {x0 : Int32} {x1 : Int32} {m : Mem} {t : Int32} (h : fX6_bodyAt x0 x1 m = some t) : CallD (jcs xs) d 76 [.int x0, .int x1] (K m) (some (.int t), (K m)) := by
  obtain ⟨d, rfl⟩ : ∃ z, d = z + 1 := ⟨d - 1, by omega⟩
  refine CallD_of jmt_X6_bodyAt rfl ⟨rfl, Nat.le_of_ble_eq_true rfl⟩ ?_
  exact ufX6_bodyAt hK (Nat.le_of_succ_le_succ hd) rfl rfl h rfl
noncomputable def fX6_parting (x1 : Int32) (m : Mem) : Option (Int32 × Mem) := (if ((m 125 5) - (m 125 6)) = 0 then some ((0 : Int32), (mput m 125 0 (1 : Int32))) else (if ¬ ((m 125 5) - (m 125 6)) = 0 then some ((x1 / ((m 125 5) - (m 125 6))), m) else none))
theorem ufX6_parting {xs : List Int32} {d : Nat} {r : jR} {K : Mem → List jE} (hK : Ctx shC K) (hd : 0 ≤ d) {x1 : Int32} {m : Mem} {L : List (Nat × Value)} (l0 : jget L 0 = some (.ref 125)) (l1 : jget L 1 = some (.int x1)) {t : (Int32 × Mem)} (h : fX6_parting x1 m = some t) (hq : (qIM r K) t) : RunD (jcs xs) d 3 (some .int) jt_X6_parting (0, L, [], (K m)) r := by
  unfold fX6_parting at h
  refine R_aload_n (p := 1) rfl l0 rfl ?_
  refine R_getI (p := 4) hK rfl rfl rfl rfl ?_
  refine R_aload_n (p := 5) rfl l0 rfl ?_
  refine R_getI (p := 8) hK rfl rfl rfl rfl ?_
  refine R_isub (p := 9) rfl rfl ?_
  refine R_istore_n (p := 10) rfl rfl rfl ?_
  refine R_iload_n (p := 11) rfl jg_self rfl ?_
  by_cases hc : ((m 125 5) - (m 125 6)) = 0
  · replace h := ite_t h hc
    refine R_ifne_f (p := 14) rfl (fun z => z hc) rfl ?_
    refine R_aload_n (p := 15) rfl (jg_ne l0 rfl) rfl ?_
    refine R_iconst (p := 16) rfl ki_1 rfl ?_
    refine R_putI (p := 19) hK rfl rfl rfl (jfit_z (by decide)) rfl ?_
    refine R_iconst (p := 20) rfl ki_0 rfl ?_
    obtain rfl := Option.some.inj h
    exact R_ireturn rfl rfl hq
  · replace h := ite_f h hc
    refine R_ifne_t rfl hc ?_
    refine R_iload_n (p := 22) rfl (jg_ne l1 rfl) rfl ?_
    refine R_iload_n (p := 23) rfl jg_self rfl ?_
    obtain ⟨b1, h⟩ := gd h
    refine R_idiv (p := 24) rfl b1 rfl ?_
    obtain rfl := Option.some.inj h
    exact R_ireturn rfl rfl hq
theorem tfX6_parting {xs : List Int32} {d : Nat} {K : Mem → List jE} (hK : Ctx shC K) (hd : 1 ≤ d) {x1 : Int32} {m : Mem} {t : (Int32 × Mem)} (h : fX6_parting x1 m = some t) : CallD (jcs xs) d 79 [.ref 125, .int x1] (K m) (some (.int t.1), K t.2) := by
  obtain ⟨d, rfl⟩ : ∃ z, d = z + 1 := ⟨d - 1, by omega⟩
  refine CallD_of jmt_X6_parting rfl ⟨rfl, Nat.le_of_ble_eq_true rfl⟩ ?_
  exact ufX6_parting hK (Nat.le_of_succ_le_succ hd) rfl rfl h rfl
noncomputable def fX6_speak (e : Int32 → Int32 → Int32 → Int32 → Mem → Option (Int32 × Mem)) (x1 : Int32) (x2 : Int32) (x3 : Int32) (x4 : Int32) (m : Mem) : Option (Int32 × Mem) := (if x1 = (10 : Int32) then some ((x3 + (m 125 5)), m) else (if x1 = (11 : Int32) then (e (0 : Int32) (m 125 7) x3 x4 m).bind fun q2 => some ((q2.1 * (2 : Int32)), q2.2) else (if x1 = (12 : Int32) then (e (1 : Int32) (m 125 7) x3 x4 m).bind fun q4 => some ((q4.1 - (q4.2 125 6)), q4.2) else (if x1 = (13 : Int32) then (fX6_parting x3 m).bind fun q6 => some (q6.1, q6.2) else (if x1 = (20 : Int32) then (e (0 : Int32) x2 x3 x4 m).bind fun q8 => some ((q8.1 - (4 : Int32)), q8.2) else (if x1 = (21 : Int32) then (e (3 : Int32) x2 x3 x4 m).bind fun q10 => (e (1 : Int32) (q10.2 125 7) (1 : Int32) x4 q10.2).bind fun q11 => some ((q10.1 + q11.1), q11.2) else (if x1 = (30 : Int32) then (e (0 : Int32) x2 x3 x4 m).bind fun q13 => some ((q13.1 * (3 : Int32)), q13.2) else (if x1 = (31 : Int32) then (e (2 : Int32) x2 x3 x4 m).bind fun q15 => some ((q15.1 ^^^ (q15.2 125 5)), q15.2) else (if x1 = (40 : Int32) then (e (2 : Int32) x2 (x3 / (2 : Int32)) x4 m).bind fun q17 => some (q17.1, q17.2) else (if x1 = (41 : Int32) then (e (1 : Int32) x2 x3 x4 m).bind fun q19 => some (((0 : Int32) - q19.1), q19.2) else (if x1 = (50 : Int32) then (e (3 : Int32) x2 x3 x4 m).bind fun q21 => (e (0 : Int32) (q21.2 125 7) (2 : Int32) x4 q21.2).bind fun q22 => some ((q21.1 - q22.1), q22.2) else (if x1 = (60 : Int32) then (e (1 : Int32) x2 (x3 + (1 : Int32)) x4 m).bind fun q24 => some (q24.1, q24.2) else (if x1 = (61 : Int32) then (e (2 : Int32) x2 x3 x4 m).bind fun q26 => (e (1 : Int32) x2 (0 : Int32) x4 q26.2).bind fun q27 => some ((q26.1 + q27.1), q27.2) else (if x1 = (70 : Int32) then some ((7 : Int32), m) else some ((0 : Int32), m)))))))))))))))
theorem ufX6_speak {xs : List Int32} {d : Nat} {r : jR} {K : Mem → List jE} (hK : Ctx shC K) {d0 : Nat} (hd : d0 + 1 ≤ d) {e : Int32 → Int32 → Int32 → Int32 → Mem → Option (Int32 × Mem)} (he : ∀ d9, d0 ≤ d9 → ∀ (x1 : Int32) (x2 : Int32) (x3 : Int32) (x4 : Int32) (m9 : Mem) (q9 : (Int32 × Mem)), e x1 x2 x3 x4 m9 = some q9 → CallD (jcs xs) d9 77 [.ref 125, .int x1, .int x2, .int x3, .int x4] (K m9) (some (.int q9.1), K q9.2)) {x1 : Int32} {x2 : Int32} {x3 : Int32} {x4 : Int32} {m : Mem} {L : List (Nat × Value)} (l0 : jget L 0 = some (.ref 125)) (l1 : jget L 1 = some (.int x1)) (l2 : jget L 2 = some (.int x2)) (l3 : jget L 3 = some (.int x3)) (l4 : jget L 4 = some (.int x4)) {t : (Int32 × Mem)} (h : fX6_speak e x1 x2 x3 x4 m = some t) (hq : (qIM r K) t) : RunD (jcs xs) d 5 (some .int) jt_X6_speak (0, L, [], (K m)) r := by
  unfold fX6_speak at h
  refine R_iload_n (p := 1) rfl l1 rfl ?_
  by_cases n1 : x1 = (10 : Int32)
  · replace h := ite_t h n1
    refine R_lsw (p := 124) rfl rfl (by rw [n1]; decide +kernel) ?_
    refine R_iload_n (p := 125) rfl l3 rfl ?_
    refine R_aload_n (p := 126) rfl l0 rfl ?_
    refine R_getI (p := 129) hK rfl rfl rfl rfl ?_
    refine R_iadd (p := 130) rfl rfl ?_
    obtain rfl := Option.some.inj h
    exact R_ireturn rfl rfl hq
  replace h := ite_f h n1
  by_cases n3 : x1 = (11 : Int32)
  · replace h := ite_t h n3
    refine R_lsw (p := 131) rfl rfl (by rw [n3]; decide +kernel) ?_
    refine R_aload_n (p := 132) rfl l0 rfl ?_
    refine R_iconst (p := 133) rfl ki_0 rfl ?_
    refine R_aload_n (p := 134) rfl l0 rfl ?_
    refine R_getI (p := 137) hK rfl rfl rfl rfl ?_
    refine R_iload_n (p := 138) rfl l3 rfl ?_
    refine R_iload (p := 140) rfl l4 rfl ?_
    obtain ⟨q2, eq2, h⟩ := bind_some h
    refine R_cV5v (p := 143) hK rfl rfl (he _ (Nat.le_trans (Nat.le_add_right _ _) hd) _ _ _ _ _ _ eq2) rfl rfl ?_
    refine R_iconst (p := 144) rfl ki_2 rfl ?_
    refine R_imul (p := 145) rfl rfl ?_
    obtain rfl := Option.some.inj h
    exact R_ireturn rfl rfl hq
  replace h := ite_f h n3
  by_cases n5 : x1 = (12 : Int32)
  · replace h := ite_t h n5
    refine R_lsw (p := 146) rfl rfl (by rw [n5]; decide +kernel) ?_
    refine R_aload_n (p := 147) rfl l0 rfl ?_
    refine R_iconst (p := 148) rfl ki_1 rfl ?_
    refine R_aload_n (p := 149) rfl l0 rfl ?_
    refine R_getI (p := 152) hK rfl rfl rfl rfl ?_
    refine R_iload_n (p := 153) rfl l3 rfl ?_
    refine R_iload (p := 155) rfl l4 rfl ?_
    obtain ⟨q4, eq4, h⟩ := bind_some h
    refine R_cV5v (p := 158) hK rfl rfl (he _ (Nat.le_trans (Nat.le_add_right _ _) hd) _ _ _ _ _ _ eq4) rfl rfl ?_
    refine R_aload_n (p := 159) rfl l0 rfl ?_
    refine R_getI (p := 162) hK rfl rfl rfl rfl ?_
    refine R_isub (p := 163) rfl rfl ?_
    obtain rfl := Option.some.inj h
    exact R_ireturn rfl rfl hq
  replace h := ite_f h n5
  by_cases n7 : x1 = (13 : Int32)
  · replace h := ite_t h n7
    refine R_lsw (p := 164) rfl rfl (by rw [n7]; decide +kernel) ?_
    refine R_aload_n (p := 165) rfl l0 rfl ?_
    refine R_iload_n (p := 166) rfl l3 rfl ?_
    obtain ⟨q6, eq6, h⟩ := bind_some h
    refine R_cV2v (p := 169) hK rfl rfl (tfX6_parting hK (Nat.le_trans (Nat.le_trans (by decide) (Nat.le_add_left _ _)) hd)  eq6) rfl rfl ?_
    obtain rfl := Option.some.inj h
    exact R_ireturn rfl rfl hq
  replace h := ite_f h n7
  by_cases n9 : x1 = (20 : Int32)
  · replace h := ite_t h n9
    refine R_lsw (p := 170) rfl rfl (by rw [n9]; decide +kernel) ?_
    refine R_aload_n (p := 171) rfl l0 rfl ?_
    refine R_iconst (p := 172) rfl ki_0 rfl ?_
    refine R_iload_n (p := 173) rfl l2 rfl ?_
    refine R_iload_n (p := 174) rfl l3 rfl ?_
    refine R_iload (p := 176) rfl l4 rfl ?_
    obtain ⟨q8, eq8, h⟩ := bind_some h
    refine R_cV5v (p := 179) hK rfl rfl (he _ (Nat.le_trans (Nat.le_add_right _ _) hd) _ _ _ _ _ _ eq8) rfl rfl ?_
    refine R_iconst (p := 180) rfl ki_4 rfl ?_
    refine R_isub (p := 181) rfl rfl ?_
    obtain rfl := Option.some.inj h
    exact R_ireturn rfl rfl hq
  replace h := ite_f h n9
  by_cases n12 : x1 = (21 : Int32)
  · replace h := ite_t h n12
    refine R_lsw (p := 182) rfl rfl (by rw [n12]; decide +kernel) ?_
    refine R_aload_n (p := 183) rfl l0 rfl ?_
    refine R_iconst (p := 184) rfl ki_3 rfl ?_
    refine R_iload_n (p := 185) rfl l2 rfl ?_
    refine R_iload_n (p := 186) rfl l3 rfl ?_
    refine R_iload (p := 188) rfl l4 rfl ?_
    obtain ⟨q10, eq10, h⟩ := bind_some h
    refine R_cV5v (p := 191) hK rfl rfl (he _ (Nat.le_trans (Nat.le_add_right _ _) hd) _ _ _ _ _ _ eq10) rfl rfl ?_
    refine R_aload_n (p := 192) rfl l0 rfl ?_
    refine R_iconst (p := 193) rfl ki_1 rfl ?_
    refine R_aload_n (p := 194) rfl l0 rfl ?_
    refine R_getI (p := 197) hK rfl rfl rfl rfl ?_
    refine R_iconst (p := 198) rfl ki_1 rfl ?_
    refine R_iload (p := 200) rfl l4 rfl ?_
    obtain ⟨q11, eq11, h⟩ := bind_some h
    refine R_cV5v (p := 203) hK rfl rfl (he _ (Nat.le_trans (Nat.le_add_right _ _) hd) _ _ _ _ _ _ eq11) rfl rfl ?_
    refine R_iadd (p := 204) rfl rfl ?_
    obtain rfl := Option.some.inj h
    exact R_ireturn rfl rfl hq
  replace h := ite_f h n12
  by_cases n14 : x1 = (30 : Int32)
  · replace h := ite_t h n14
    refine R_lsw (p := 205) rfl rfl (by rw [n14]; decide +kernel) ?_
    refine R_aload_n (p := 206) rfl l0 rfl ?_
    refine R_iconst (p := 207) rfl ki_0 rfl ?_
    refine R_iload_n (p := 208) rfl l2 rfl ?_
    refine R_iload_n (p := 209) rfl l3 rfl ?_
    refine R_iload (p := 211) rfl l4 rfl ?_
    obtain ⟨q13, eq13, h⟩ := bind_some h
    refine R_cV5v (p := 214) hK rfl rfl (he _ (Nat.le_trans (Nat.le_add_right _ _) hd) _ _ _ _ _ _ eq13) rfl rfl ?_
    refine R_iconst (p := 215) rfl ki_3 rfl ?_
    refine R_imul (p := 216) rfl rfl ?_
    obtain rfl := Option.some.inj h
    exact R_ireturn rfl rfl hq
  replace h := ite_f h n14
  by_cases n16 : x1 = (31 : Int32)
  · replace h := ite_t h n16
    refine R_lsw (p := 217) rfl rfl (by rw [n16]; decide +kernel) ?_
    refine R_aload_n (p := 218) rfl l0 rfl ?_
    refine R_iconst (p := 219) rfl ki_2 rfl ?_
    refine R_iload_n (p := 220) rfl l2 rfl ?_
    refine R_iload_n (p := 221) rfl l3 rfl ?_
    refine R_iload (p := 223) rfl l4 rfl ?_
    obtain ⟨q15, eq15, h⟩ := bind_some h
    refine R_cV5v (p := 226) hK rfl rfl (he _ (Nat.le_trans (Nat.le_add_right _ _) hd) _ _ _ _ _ _ eq15) rfl rfl ?_
    refine R_aload_n (p := 227) rfl l0 rfl ?_
    refine R_getI (p := 230) hK rfl rfl rfl rfl ?_
    refine R_ixor (p := 231) rfl rfl ?_
    obtain rfl := Option.some.inj h
    exact R_ireturn rfl rfl hq
  replace h := ite_f h n16
  by_cases n18 : x1 = (40 : Int32)
  · replace h := ite_t h n18
    refine R_lsw (p := 232) rfl rfl (by rw [n18]; decide +kernel) ?_
    refine R_aload_n (p := 233) rfl l0 rfl ?_
    refine R_iconst (p := 234) rfl ki_2 rfl ?_
    refine R_iload_n (p := 235) rfl l2 rfl ?_
    refine R_iload_n (p := 236) rfl l3 rfl ?_
    refine R_iconst (p := 237) rfl ki_2 rfl ?_
    refine R_idiv (p := 238) rfl (by decide) rfl ?_
    refine R_iload (p := 240) rfl l4 rfl ?_
    obtain ⟨q17, eq17, h⟩ := bind_some h
    refine R_cV5v (p := 243) hK rfl rfl (he _ (Nat.le_trans (Nat.le_add_right _ _) hd) _ _ _ _ _ _ eq17) rfl rfl ?_
    obtain rfl := Option.some.inj h
    exact R_ireturn rfl rfl hq
  replace h := ite_f h n18
  by_cases n20 : x1 = (41 : Int32)
  · replace h := ite_t h n20
    refine R_lsw (p := 244) rfl rfl (by rw [n20]; decide +kernel) ?_
    refine R_iconst (p := 245) rfl ki_0 rfl ?_
    refine R_aload_n (p := 246) rfl l0 rfl ?_
    refine R_iconst (p := 247) rfl ki_1 rfl ?_
    refine R_iload_n (p := 248) rfl l2 rfl ?_
    refine R_iload_n (p := 249) rfl l3 rfl ?_
    refine R_iload (p := 251) rfl l4 rfl ?_
    obtain ⟨q19, eq19, h⟩ := bind_some h
    refine R_cV5v (p := 254) hK rfl rfl (he _ (Nat.le_trans (Nat.le_add_right _ _) hd) _ _ _ _ _ _ eq19) rfl rfl ?_
    refine R_isub (p := 255) rfl rfl ?_
    obtain rfl := Option.some.inj h
    exact R_ireturn rfl rfl hq
  replace h := ite_f h n20
  by_cases n23 : x1 = (50 : Int32)
  · replace h := ite_t h n23
    refine R_lsw (p := 256) rfl rfl (by rw [n23]; decide +kernel) ?_
    refine R_aload_n (p := 257) rfl l0 rfl ?_
    refine R_iconst (p := 258) rfl ki_3 rfl ?_
    refine R_iload_n (p := 259) rfl l2 rfl ?_
    refine R_iload_n (p := 260) rfl l3 rfl ?_
    refine R_iload (p := 262) rfl l4 rfl ?_
    obtain ⟨q21, eq21, h⟩ := bind_some h
    refine R_cV5v (p := 265) hK rfl rfl (he _ (Nat.le_trans (Nat.le_add_right _ _) hd) _ _ _ _ _ _ eq21) rfl rfl ?_
    refine R_aload_n (p := 266) rfl l0 rfl ?_
    refine R_iconst (p := 267) rfl ki_0 rfl ?_
    refine R_aload_n (p := 268) rfl l0 rfl ?_
    refine R_getI (p := 271) hK rfl rfl rfl rfl ?_
    refine R_iconst (p := 272) rfl ki_2 rfl ?_
    refine R_iload (p := 274) rfl l4 rfl ?_
    obtain ⟨q22, eq22, h⟩ := bind_some h
    refine R_cV5v (p := 277) hK rfl rfl (he _ (Nat.le_trans (Nat.le_add_right _ _) hd) _ _ _ _ _ _ eq22) rfl rfl ?_
    refine R_isub (p := 278) rfl rfl ?_
    obtain rfl := Option.some.inj h
    exact R_ireturn rfl rfl hq
  replace h := ite_f h n23
  by_cases n25 : x1 = (60 : Int32)
  · replace h := ite_t h n25
    refine R_lsw (p := 279) rfl rfl (by rw [n25]; decide +kernel) ?_
    refine R_aload_n (p := 280) rfl l0 rfl ?_
    refine R_iconst (p := 281) rfl ki_1 rfl ?_
    refine R_iload_n (p := 282) rfl l2 rfl ?_
    refine R_iload_n (p := 283) rfl l3 rfl ?_
    refine R_iconst (p := 284) rfl ki_1 rfl ?_
    refine R_iadd (p := 285) rfl rfl ?_
    refine R_iload (p := 287) rfl l4 rfl ?_
    obtain ⟨q24, eq24, h⟩ := bind_some h
    refine R_cV5v (p := 290) hK rfl rfl (he _ (Nat.le_trans (Nat.le_add_right _ _) hd) _ _ _ _ _ _ eq24) rfl rfl ?_
    obtain rfl := Option.some.inj h
    exact R_ireturn rfl rfl hq
  replace h := ite_f h n25
  by_cases n28 : x1 = (61 : Int32)
  · replace h := ite_t h n28
    refine R_lsw (p := 291) rfl rfl (by rw [n28]; decide +kernel) ?_
    refine R_aload_n (p := 292) rfl l0 rfl ?_
    refine R_iconst (p := 293) rfl ki_2 rfl ?_
    refine R_iload_n (p := 294) rfl l2 rfl ?_
    refine R_iload_n (p := 295) rfl l3 rfl ?_
    refine R_iload (p := 297) rfl l4 rfl ?_
    obtain ⟨q26, eq26, h⟩ := bind_some h
    refine R_cV5v (p := 300) hK rfl rfl (he _ (Nat.le_trans (Nat.le_add_right _ _) hd) _ _ _ _ _ _ eq26) rfl rfl ?_
    refine R_aload_n (p := 301) rfl l0 rfl ?_
    refine R_iconst (p := 302) rfl ki_1 rfl ?_
    refine R_iload_n (p := 303) rfl l2 rfl ?_
    refine R_iconst (p := 304) rfl ki_0 rfl ?_
    refine R_iload (p := 306) rfl l4 rfl ?_
    obtain ⟨q27, eq27, h⟩ := bind_some h
    refine R_cV5v (p := 309) hK rfl rfl (he _ (Nat.le_trans (Nat.le_add_right _ _) hd) _ _ _ _ _ _ eq27) rfl rfl ?_
    refine R_iadd (p := 310) rfl rfl ?_
    obtain rfl := Option.some.inj h
    exact R_ireturn rfl rfl hq
  replace h := ite_f h n28
  by_cases n29 : x1 = (70 : Int32)
  · replace h := ite_t h n29
    refine R_lsw (p := 311) rfl rfl (by rw [n29]; decide +kernel) ?_
    refine R_bipush (p := 313) rfl kb_7 rfl ?_
    obtain rfl := Option.some.inj h
    exact R_ireturn rfl rfl hq
  replace h := ite_f h n29
  refine R_lsw (p := 314) rfl rfl (lsw_d [(10 : Int32), (11 : Int32), (12 : Int32), (13 : Int32), (20 : Int32), (21 : Int32), (30 : Int32), (31 : Int32), (40 : Int32), (41 : Int32), (50 : Int32), (60 : Int32), (61 : Int32), (70 : Int32)] (List.forall_mem_cons.mpr ⟨n1, List.forall_mem_cons.mpr ⟨n3, List.forall_mem_cons.mpr ⟨n5, List.forall_mem_cons.mpr ⟨n7, List.forall_mem_cons.mpr ⟨n9, List.forall_mem_cons.mpr ⟨n12, List.forall_mem_cons.mpr ⟨n14, List.forall_mem_cons.mpr ⟨n16, List.forall_mem_cons.mpr ⟨n18, List.forall_mem_cons.mpr ⟨n20, List.forall_mem_cons.mpr ⟨n23, List.forall_mem_cons.mpr ⟨n25, List.forall_mem_cons.mpr ⟨n28, List.forall_mem_cons.mpr ⟨n29, fun _ h9 => absurd h9 List.not_mem_nil⟩⟩⟩⟩⟩⟩⟩⟩⟩⟩⟩⟩⟩⟩) (by decide +kernel) rfl) ?_
  refine R_iconst (p := 315) rfl ki_0 rfl ?_
  obtain rfl := Option.some.inj h
  exact R_ireturn rfl rfl hq
theorem tfX6_speak {xs : List Int32} {d : Nat} {K : Mem → List jE} (hK : Ctx shC K) {d0 : Nat} (hd : d0 + 2 ≤ d) {e : Int32 → Int32 → Int32 → Int32 → Mem → Option (Int32 × Mem)} (he : ∀ d9, d0 ≤ d9 → ∀ (x1 : Int32) (x2 : Int32) (x3 : Int32) (x4 : Int32) (m9 : Mem) (q9 : (Int32 × Mem)), e x1 x2 x3 x4 m9 = some q9 → CallD (jcs xs) d9 77 [.ref 125, .int x1, .int x2, .int x3, .int x4] (K m9) (some (.int q9.1), K q9.2)) {x1 : Int32} {x2 : Int32} {x3 : Int32} {x4 : Int32} {m : Mem} {t : (Int32 × Mem)} (h : fX6_speak e x1 x2 x3 x4 m = some t) : CallD (jcs xs) d 78 [.ref 125, .int x1, .int x2, .int x3, .int x4] (K m) (some (.int t.1), K t.2) := by
  obtain ⟨d, rfl⟩ : ∃ z, d = z + 1 := ⟨d - 1, by omega⟩
  refine CallD_of jmt_X6_speak rfl ⟨rfl, Nat.le_of_ble_eq_true rfl⟩ ?_
  exact ufX6_speak hK (Nat.le_of_succ_le_succ hd) he rfl rfl rfl rfl rfl h rfl
noncomputable def bX6_say_92 (e : Int32 → Int32 → Int32 → Int32 → Mem → Option (Int32 × Mem)) (x3 : Int32) (x4 : Int32) (x5 : Int32) (x6 : Int32) (m : Mem) : Option (Int32 × Mem) := (fX1_above x5 m).bind fun q2 => (fX6_speak e x6 q2 x3 (x4 + (1 : Int32)) m).bind fun q3 => some (q3.1, q3.2)
noncomputable def bX6_say_40 (e : Int32 → Int32 → Int32 → Int32 → Mem → Option (Int32 × Mem)) (x1 : Int32) (x3 : Int32) (x4 : Int32) (x5 : Int32) (m : Mem) : Option (Int32 × Mem) := (fX6_bodyAt x5 x1 m).bind fun q1 => (if q1 = 0 then some ((0 : Int32), m) else (if x4 < (40 : Int32) then (if (30 : Int32) ≤ (m 125 4) then bX6_say_92 e x3 x4 x5 q1 m else (if inb (m 125 4) 30 then bX6_say_92 e x3 x4 x5 q1 (mput (mput m 127 (m 125 4).toNatClampNeg q1) 125 4 (((mput m 127 (m 125 4).toNatClampNeg q1) 125 4) + (1 : Int32))) else none)) else some ((0 : Int32), m)))
noncomputable def lX6_say_6 (e : Int32 → Int32 → Int32 → Int32 → Mem → Option (Int32 × Mem)) (x1 : Int32) (x3 : Int32) (x4 : Int32) (m : Mem) (s : Int32 × Int32) : Option ((Int32 × Int32) ⊕ (Int32 × Mem)) := (if (6 : Int32) < s.2 then (bX6_say_40 e x1 x3 x4 s.1 m).map Sum.inr else (if s.1 ≤ 0 then (bX6_say_40 e x1 x3 x4 s.1 m).map Sum.inr else (fX6_bodyAt s.1 x1 m).bind fun q5 => (if q5 = 0 then (fX1_above s.1 m).bind fun q6 => some (.inl (q6, (s.2 + (1 : Int32)))) else (bX6_say_40 e x1 x3 x4 s.1 m).map Sum.inr)))
noncomputable def gX6_say_6 (xs : List Int32) (d : Nat) (r : jR) (K : Mem → List jE) (x1 : Int32) (x3 : Int32) (x4 : Int32) (m : Mem) (s : Int32 × Int32) : Prop := ∀ L, jget L 0 = some (.ref 125) → jget L 1 = some (.int x1) → jget L 3 = some (.int x3) → jget L 4 = some (.int x4) → jget L 5 = some (.int s.1) → jget L 6 = some (.int s.2) → RunD (jcs xs) d 7 (some .int) jt_X6_say (6, L, [], (K m)) r
noncomputable def fX6_say (e : Int32 → Int32 → Int32 → Int32 → Mem → Option (Int32 × Mem)) (x1 : Int32) (x2 : Int32) (x3 : Int32) (x4 : Int32) (m : Mem) : Option (Int32 × Mem) := lp (lX6_say_6 e x1 x3 x4 m) fu (x2, (0 : Int32))
theorem tbX6_say_92 {xs : List Int32} {d : Nat} {r : jR} {K : Mem → List jE} (hK : Ctx shC K) {d0 : Nat} (hd : d0 + 2 ≤ d) {e : Int32 → Int32 → Int32 → Int32 → Mem → Option (Int32 × Mem)} (he : ∀ d9, d0 ≤ d9 → ∀ (x1 : Int32) (x2 : Int32) (x3 : Int32) (x4 : Int32) (m9 : Mem) (q9 : (Int32 × Mem)), e x1 x2 x3 x4 m9 = some q9 → CallD (jcs xs) d9 77 [.ref 125, .int x1, .int x2, .int x3, .int x4] (K m9) (some (.int q9.1), K q9.2))  {x3 : Int32} {x4 : Int32} {x5 : Int32} {x6 : Int32} {m : Mem} {L : List (Nat × Value)} (l0 : jget L 0 = some (.ref 125)) (l3 : jget L 3 = some (.int x3)) (l4 : jget L 4 = some (.int x4)) (l5 : jget L 5 = some (.int x5)) (l6 : jget L 6 = some (.int x6)) {t : (Int32 × Mem)} (h : bX6_say_92 e x3 x4 x5 x6 m = some t) (hq : (qIM r K) t) : RunD (jcs xs) d 7 (some .int) jt_X6_say (92, L, [], (K m)) r := by
  unfold bX6_say_92 at h
  refine R_aload_n (p := 93) rfl l0 rfl ?_
  refine R_iload (p := 95) rfl l6 rfl ?_
  refine R_iload (p := 97) rfl l5 rfl ?_
  obtain ⟨q2, eq2, h⟩ := bind_some h
  refine R_cS1v (p := 100) rfl (tfX1_above hK (Nat.le_trans (Nat.le_trans (by decide) (Nat.le_add_left _ _)) hd)  eq2) rfl rfl ?_
  refine R_iload_n (p := 101) rfl l3 rfl ?_
  refine R_iload (p := 103) rfl l4 rfl ?_
  refine R_iconst (p := 104) rfl ki_1 rfl ?_
  refine R_iadd (p := 105) rfl rfl ?_
  obtain ⟨q3, eq3, h⟩ := bind_some h
  refine R_cV5v (p := 108) hK rfl rfl (tfX6_speak hK (Nat.le_trans (Nat.add_le_add_left (by decide) _) hd) he  eq3) rfl rfl ?_
  obtain rfl := Option.some.inj h
  exact R_ireturn rfl rfl hq
theorem tbX6_say_40 {xs : List Int32} {d : Nat} {r : jR} {K : Mem → List jE} (hK : Ctx shC K) {d0 : Nat} (hd : d0 + 2 ≤ d) {e : Int32 → Int32 → Int32 → Int32 → Mem → Option (Int32 × Mem)} (he : ∀ d9, d0 ≤ d9 → ∀ (x1 : Int32) (x2 : Int32) (x3 : Int32) (x4 : Int32) (m9 : Mem) (q9 : (Int32 × Mem)), e x1 x2 x3 x4 m9 = some q9 → CallD (jcs xs) d9 77 [.ref 125, .int x1, .int x2, .int x3, .int x4] (K m9) (some (.int q9.1), K q9.2))  {x1 : Int32} {x3 : Int32} {x4 : Int32} {x5 : Int32} {m : Mem} {L : List (Nat × Value)} (l0 : jget L 0 = some (.ref 125)) (l1 : jget L 1 = some (.int x1)) (l3 : jget L 3 = some (.int x3)) (l4 : jget L 4 = some (.int x4)) (l5 : jget L 5 = some (.int x5)) {t : (Int32 × Mem)} (h : bX6_say_40 e x1 x3 x4 x5 m = some t) (hq : (qIM r K) t) : RunD (jcs xs) d 7 (some .int) jt_X6_say (40, L, [], (K m)) r := by
  unfold bX6_say_40 at h
  refine R_iload (p := 42) rfl l5 rfl ?_
  refine R_iload_n (p := 43) rfl l1 rfl ?_
  obtain ⟨q1, eq1, h⟩ := bind_some h
  refine R_cS2v (p := 46) rfl (tfX6_bodyAt hK (Nat.le_trans (Nat.le_trans (by decide) (Nat.le_add_left _ _)) hd)  eq1) rfl rfl ?_
  refine R_istore (p := 48) rfl rfl rfl ?_
  refine R_iload (p := 50) rfl jg_self rfl ?_
  by_cases hc : q1 = 0
  · replace h := ite_t h hc
    refine R_ifeq_t rfl hc ?_
    refine R_iconst (p := 61) rfl ki_0 rfl ?_
    obtain rfl := Option.some.inj h
    exact R_ireturn rfl rfl hq
  · replace h := ite_f h hc
    refine R_ifeq_f (p := 53) rfl hc rfl ?_
    refine R_iload (p := 55) rfl (jg_ne l4 rfl) rfl ?_
    refine R_bipush (p := 57) rfl kb_40 rfl ?_
    by_cases hc : x4 < (40 : Int32)
    · replace h := ite_t h hc
      refine R_iclt_t rfl hc ?_
      refine R_aload_n (p := 63) rfl (jg_ne l0 rfl) rfl ?_
      refine R_getI (p := 66) hK rfl rfl rfl rfl ?_
      refine R_bipush (p := 68) rfl kb_30 rfl ?_
      by_cases hc : (30 : Int32) ≤ (m 125 4)
      · replace h := ite_t h hc
        refine R_icge_t rfl hc ?_
        exact tbX6_say_92 hK hd he (jg_ne l0 rfl) (jg_ne l3 rfl) (jg_ne l4 rfl) (jg_ne l5 rfl) jg_self h hq
      · replace h := ite_f h hc
        refine R_icge_f (p := 71) rfl hc rfl ?_
        refine R_aload_n (p := 72) rfl (jg_ne l0 rfl) rfl ?_
        refine R_getR (p := 75) (q := 127) hK rfl rfl rfl rfl ?_
        refine R_aload_n (p := 76) rfl (jg_ne l0 rfl) rfl ?_
        refine R_getI (p := 79) hK rfl rfl rfl rfl ?_
        refine R_iload (p := 81) rfl jg_self rfl ?_
        obtain ⟨b4, h⟩ := gd h
        refine R_iast (p := 82) hK rfl rfl b4 rfl ?_
        refine R_aload_n (p := 83) rfl (jg_ne l0 rfl) rfl ?_
        refine R_dupa (p := 84) rfl rfl ?_
        refine R_getI (p := 87) hK rfl rfl rfl rfl ?_
        refine R_iconst (p := 88) rfl ki_1 rfl ?_
        refine R_iadd (p := 89) rfl rfl ?_
        refine R_putI (p := 92) hK rfl rfl rfl rfl rfl ?_
        exact tbX6_say_92 hK hd he (jg_ne l0 rfl) (jg_ne l3 rfl) (jg_ne l4 rfl) (jg_ne l5 rfl) jg_self h hq
    · replace h := ite_f h hc
      refine R_iclt_f (p := 60) rfl hc rfl ?_
      refine R_iconst (p := 61) rfl ki_0 rfl ?_
      obtain rfl := Option.some.inj h
      exact R_ireturn rfl rfl hq
theorem BX6_say_6 {xs : List Int32} {d : Nat} {r : jR} {K : Mem → List jE} (hK : Ctx shC K) {d0 : Nat} (hd : d0 + 2 ≤ d) {e : Int32 → Int32 → Int32 → Int32 → Mem → Option (Int32 × Mem)} (he : ∀ d9, d0 ≤ d9 → ∀ (x1 : Int32) (x2 : Int32) (x3 : Int32) (x4 : Int32) (m9 : Mem) (q9 : (Int32 × Mem)), e x1 x2 x3 x4 m9 = some q9 → CallD (jcs xs) d9 77 [.ref 125, .int x1, .int x2, .int x3, .int x4] (K m9) (some (.int q9.1), K q9.2))  {x1 : Int32} {x3 : Int32} {x4 : Int32} {m : Mem} (s : Int32 × Int32) {t : (Int32 × Int32) ⊕ (Int32 × Mem)} (h : lX6_say_6 e x1 x3 x4 m s = some t) (hq : sQ (gX6_say_6 xs d r K x1 x3 x4 m) (qIM r K) t) : gX6_say_6 xs d r K x1 x3 x4 m s := by
  intro L l0 l1 l3 l4 l5 l6
  unfold lX6_say_6 at h
  refine R_iload (p := 8) rfl l6 rfl ?_
  refine R_bipush (p := 10) rfl kb_6 rfl ?_
  by_cases hc : (6 : Int32) < s.2
  · replace h := ite_t h hc
    refine R_icgt_t rfl hc ?_
    obtain ⟨w9, h9, rfl⟩ := map_inr h
    replace h := h9
    exact tbX6_say_40 hK hd he l0 l1 l3 l4 l5 h hq
  · replace h := ite_f h hc
    refine R_icgt_f (p := 13) rfl hc rfl ?_
    refine R_iload (p := 15) rfl l5 rfl ?_
    by_cases hc : s.1 ≤ 0
    · replace h := ite_t h hc
      refine R_ifle_t rfl hc ?_
      obtain ⟨w9, h9, rfl⟩ := map_inr h
      replace h := h9
      exact tbX6_say_40 hK hd he l0 l1 l3 l4 l5 h hq
    · replace h := ite_f h hc
      refine R_ifle_f (p := 18) rfl hc rfl ?_
      refine R_iload (p := 20) rfl l5 rfl ?_
      refine R_iload_n (p := 21) rfl l1 rfl ?_
      obtain ⟨q5, eq5, h⟩ := bind_some h
      refine R_cS2v (p := 24) rfl (tfX6_bodyAt hK (Nat.le_trans (Nat.le_trans (by decide) (Nat.le_add_left _ _)) hd)  eq5) rfl rfl ?_
      by_cases hc : q5 = 0
      · replace h := ite_t h hc
        refine R_ifne_f (p := 27) rfl (fun z => z hc) rfl ?_
        refine R_iload (p := 29) rfl l5 rfl ?_
        obtain ⟨q6, eq6, h⟩ := bind_some h
        refine R_cS1v (p := 32) rfl (tfX1_above hK (Nat.le_trans (Nat.le_trans (by decide) (Nat.le_add_left _ _)) hd)  eq6) rfl rfl ?_
        refine R_istore (p := 34) rfl rfl rfl ?_
        refine R_iinc (p := 37) rfl (jg_ne l6 rfl) rfl ki_1 rfl ?_
        refine R_goto rfl ?_
        obtain rfl := Option.some.inj h
        exact hq _ (jg_ne (jg_ne l0 rfl) rfl) (jg_ne (jg_ne l1 rfl) rfl) (jg_ne (jg_ne l3 rfl) rfl) (jg_ne (jg_ne l4 rfl) rfl) (jg_ne jg_self rfl) jg_self
      · replace h := ite_f h hc
        refine R_ifne_t rfl hc ?_
        obtain ⟨w9, h9, rfl⟩ := map_inr h
        replace h := h9
        exact tbX6_say_40 hK hd he l0 l1 l3 l4 l5 h hq
theorem LX6_say_6 {xs : List Int32} {d : Nat} {r : jR} {K : Mem → List jE} (hK : Ctx shC K) {d0 : Nat} (hd : d0 + 2 ≤ d) {e : Int32 → Int32 → Int32 → Int32 → Mem → Option (Int32 × Mem)} (he : ∀ d9, d0 ≤ d9 → ∀ (x1 : Int32) (x2 : Int32) (x3 : Int32) (x4 : Int32) (m9 : Mem) (q9 : (Int32 × Mem)), e x1 x2 x3 x4 m9 = some q9 → CallD (jcs xs) d9 77 [.ref 125, .int x1, .int x2, .int x3, .int x4] (K m9) (some (.int q9.1), K q9.2))  {x1 : Int32} {x3 : Int32} {x4 : Int32} {m : Mem} (n : Nat) (s : Int32 × Int32) {t : (Int32 × Mem)} (h : lp (lX6_say_6 e x1 x3 x4 m) n s = some t) (hq : (qIM r K) t) : gX6_say_6 xs d r K x1 x3 x4 m s := lp_ind (G := gX6_say_6 xs d r K x1 x3 x4 m) (Qe := (qIM r K)) (fun s t h hq => BX6_say_6 hK hd he s h hq) n s t h hq
theorem ufX6_say {xs : List Int32} {d : Nat} {r : jR} {K : Mem → List jE} (hK : Ctx shC K) {d0 : Nat} (hd : d0 + 2 ≤ d) {e : Int32 → Int32 → Int32 → Int32 → Mem → Option (Int32 × Mem)} (he : ∀ d9, d0 ≤ d9 → ∀ (x1 : Int32) (x2 : Int32) (x3 : Int32) (x4 : Int32) (m9 : Mem) (q9 : (Int32 × Mem)), e x1 x2 x3 x4 m9 = some q9 → CallD (jcs xs) d9 77 [.ref 125, .int x1, .int x2, .int x3, .int x4] (K m9) (some (.int q9.1), K q9.2)) {x1 : Int32} {x2 : Int32} {x3 : Int32} {x4 : Int32} {m : Mem} {L : List (Nat × Value)} (l0 : jget L 0 = some (.ref 125)) (l1 : jget L 1 = some (.int x1)) (l2 : jget L 2 = some (.int x2)) (l3 : jget L 3 = some (.int x3)) (l4 : jget L 4 = some (.int x4)) {t : (Int32 × Mem)} (h : fX6_say e x1 x2 x3 x4 m = some t) (hq : (qIM r K) t) : RunD (jcs xs) d 7 (some .int) jt_X6_say (0, L, [], (K m)) r := by
  unfold fX6_say at h
  refine R_iload_n (p := 1) rfl l2 rfl ?_
  refine R_istore (p := 3) rfl rfl rfl ?_
  refine R_iconst (p := 4) rfl ki_0 rfl ?_
  refine R_istore (p := 6) rfl rfl rfl ?_
  exact LX6_say_6 hK hd he _ _ h hq _ (jg_ne (jg_ne l0 rfl) rfl) (jg_ne (jg_ne l1 rfl) rfl) (jg_ne (jg_ne l3 rfl) rfl) (jg_ne (jg_ne l4 rfl) rfl) (jg_ne jg_self rfl) jg_self
theorem tfX6_say {xs : List Int32} {d : Nat} {K : Mem → List jE} (hK : Ctx shC K) {d0 : Nat} (hd : d0 + 3 ≤ d) {e : Int32 → Int32 → Int32 → Int32 → Mem → Option (Int32 × Mem)} (he : ∀ d9, d0 ≤ d9 → ∀ (x1 : Int32) (x2 : Int32) (x3 : Int32) (x4 : Int32) (m9 : Mem) (q9 : (Int32 × Mem)), e x1 x2 x3 x4 m9 = some q9 → CallD (jcs xs) d9 77 [.ref 125, .int x1, .int x2, .int x3, .int x4] (K m9) (some (.int q9.1), K q9.2)) {x1 : Int32} {x2 : Int32} {x3 : Int32} {x4 : Int32} {m : Mem} {t : (Int32 × Mem)} (h : fX6_say e x1 x2 x3 x4 m = some t) : CallD (jcs xs) d 77 [.ref 125, .int x1, .int x2, .int x3, .int x4] (K m) (some (.int t.1), K t.2) := by
  obtain ⟨d, rfl⟩ : ∃ z, d = z + 1 := ⟨d - 1, by omega⟩
  refine CallD_of jmt_X6_say rfl ⟨rfl, Nat.le_of_ble_eq_true rfl⟩ ?_
  exact ufX6_say hK (Nat.le_of_succ_le_succ hd) he rfl rfl rfl rfl rfl h rfl
