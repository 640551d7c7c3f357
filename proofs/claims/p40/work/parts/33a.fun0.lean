noncomputable def fX8_within (x0 : Int32) (x1 : Int32) (x2 : Int32) : Int32 := (if x0 < x1 then (0 : Int32) else (if x2 < x0 then (0 : Int32) else (1 : Int32)))
theorem ufX8_within {xs : List Int32} {d : Nat} {r : jR} {hh : List jE} (hd : 0 ≤ d) {x0 : Int32} {x1 : Int32} {x2 : Int32} {L : List (Nat × Value)} (l0 : jget L 0 = some (.int x0)) (l1 : jget L 1 = some (.int x1)) (l2 : jget L 2 = some (.int x2)) {t : Int32} (h : fX8_within x0 x1 x2 = t) (hq : (qI r hh) t) : RunD (jcs xs) d 3 (some .boolean) jt_X8_within (0, L, [], hh) r := by
  unfold fX8_within at h
  refine R_iload_n (p := 1) rfl l0 rfl ?_
  refine R_iload_n (p := 2) rfl l1 rfl ?_
  by_cases hc : x0 < x1
  · replace h := ite_t h hc
    refine R_iclt_t rfl hc ?_
    refine R_iconst (p := 15) rfl ki_0 rfl ?_
    subst h
    exact R_zreturn rfl rfl (by decide) hq
  · replace h := ite_f h hc
    refine R_iclt_f (p := 5) rfl hc rfl ?_
    refine R_iload_n (p := 6) rfl l0 rfl ?_
    refine R_iload_n (p := 7) rfl l2 rfl ?_
    by_cases hc : x2 < x0
    · replace h := ite_t h hc
      refine R_icgt_t rfl hc ?_
      refine R_iconst (p := 15) rfl ki_0 rfl ?_
      subst h
      exact R_zreturn rfl rfl (by decide) hq
    · replace h := ite_f h hc
      refine R_icgt_f (p := 10) rfl hc rfl ?_
      refine R_iconst (p := 11) rfl ki_1 rfl ?_
      refine R_goto rfl ?_
      subst h
      exact R_zreturn rfl rfl (by decide) hq
theorem tfX8_within {xs : List Int32} {d : Nat} {hh : List jE} (hd : 1 ≤ d) {x0 : Int32} {x1 : Int32} {x2 : Int32} : CallD (jcs xs) d 103 [.int x0, .int x1, .int x2] hh (some (.int (fX8_within x0 x1 x2)), hh) := by
  obtain ⟨d, rfl⟩ : ∃ z, d = z + 1 := ⟨d - 1, by omega⟩
  refine CallD_of jmt_X8_within rfl ⟨rfl, Nat.le_of_ble_eq_true rfl⟩ ?_
  exact ufX8_within (Nat.le_of_succ_le_succ hd) rfl rfl rfl rfl rfl
noncomputable def fX8_no (x1 : Int32) (m : Mem) : Option (Int32 × Mem) := (if x1 < 0 then some (((-1000000 : Int32) - x1), m) else (if (7 : Int32) ≤ x1 then some (((-1000000 : Int32) - x1), m) else (if inb x1 7 then (if inb x1 7 then some (((-1000000 : Int32) - x1), (mput m 136 x1.toNatClampNeg ((m 136 x1.toNatClampNeg) + (1 : Int32)))) else none) else none)))
theorem ufX8_no {xs : List Int32} {d : Nat} {r : jR} {K : Mem → List jE} (hK : Ctx shC K) (hd : 0 ≤ d) {x1 : Int32} {m : Mem} {L : List (Nat × Value)} (l0 : jget L 0 = some (.ref 0)) (l1 : jget L 1 = some (.int x1)) {t : (Int32 × Mem)} (h : fX8_no x1 m = some t) (hq : (qIM r K) t) : RunD (jcs xs) d 2 (some .int) jt_X8_no (0, L, [], (K m)) r := by
  unfold fX8_no at h
  refine R_iload_n (p := 1) rfl l1 rfl ?_
  by_cases hc : x1 < 0
  · replace h := ite_t h hc
    refine R_iflt_t rfl hc ?_
    refine R_ldc (p := 25) rfl kl_m1000000 rfl ?_
    refine R_iload_n (p := 26) rfl l1 rfl ?_
    refine R_isub (p := 27) rfl rfl ?_
    obtain rfl := Option.some.inj h
    exact R_ireturn rfl rfl hq
  · replace h := ite_f h hc
    refine R_iflt_f (p := 4) rfl hc rfl ?_
    refine R_iload_n (p := 5) rfl l1 rfl ?_
    refine R_aload_n (p := 6) rfl l0 rfl ?_
    refine R_getR (p := 9) (q := 136) hK rfl rfl rfl rfl ?_
    refine R_alen (p := 10) (x := (7 : Int32)) hK rfl rfl rfl rfl ?_
    by_cases hc : (7 : Int32) ≤ x1
    · replace h := ite_t h hc
      refine R_icge_t rfl hc ?_
      refine R_ldc (p := 25) rfl kl_m1000000 rfl ?_
      refine R_iload_n (p := 26) rfl l1 rfl ?_
      refine R_isub (p := 27) rfl rfl ?_
      obtain rfl := Option.some.inj h
      exact R_ireturn rfl rfl hq
    · replace h := ite_f h hc
      refine R_icge_f (p := 13) rfl hc rfl ?_
      refine R_aload_n (p := 14) rfl l0 rfl ?_
      refine R_getR (p := 17) (q := 136) hK rfl rfl rfl rfl ?_
      refine R_iload_n (p := 18) rfl l1 rfl ?_
      refine R_dup2ia (p := 19) rfl rfl ?_
      obtain ⟨b1, h⟩ := gd h
      refine R_iald (p := 20) hK rfl rfl b1 rfl ?_
      refine R_iconst (p := 21) rfl ki_1 rfl ?_
      refine R_iadd (p := 22) rfl rfl ?_
      obtain ⟨b2, h⟩ := gd h
      refine R_iast (p := 23) hK rfl rfl b2 rfl ?_
      refine R_ldc (p := 25) rfl kl_m1000000 rfl ?_
      refine R_iload_n (p := 26) rfl l1 rfl ?_
      refine R_isub (p := 27) rfl rfl ?_
      obtain rfl := Option.some.inj h
      exact R_ireturn rfl rfl hq
theorem tfX8_no {xs : List Int32} {d : Nat} {K : Mem → List jE} (hK : Ctx shC K) (hd : 1 ≤ d) {x1 : Int32} {m : Mem} {t : (Int32 × Mem)} (h : fX8_no x1 m = some t) : CallD (jcs xs) d 102 [.ref 0, .int x1] (K m) (some (.int t.1), K t.2) := by
  obtain ⟨d, rfl⟩ : ∃ z, d = z + 1 := ⟨d - 1, by omega⟩
  refine CallD_of jmt_X8_no rfl ⟨rfl, Nat.le_of_ble_eq_true rfl⟩ ?_
  exact ufX8_no hK (Nat.le_of_succ_le_succ hd) rfl rfl h rfl
noncomputable def lJ7_fill_53178_16_5 (c0 : Nat) (x1 : Int32) (x3 : Int32) (s : Int32 × Mem) : Option ((Int32 × Mem) ⊕ Mem) := (if x3 ≤ s.1 then some (.inr s.2) else (if inb s.1 16 then some (.inl ((s.1 + (1 : Int32)), (mput s.2 c0 s.1.toNatClampNeg x1))) else none))
noncomputable def gJ7_fill_53178_16_5 (xs : List Int32) (d : Nat) (r : jR) (K : Mem → List jE) (c0 : Nat) (x1 : Int32) (x3 : Int32) (s : Int32 × Mem) : Prop := ∀ L, jget L 0 = some (.ref c0) → jget L 1 = some (.int x1) → jget L 3 = some (.int x3) → jget L 2 = some (.int s.1) → RunD (jcs xs) d 4 (none) jt_J7_fill_53178 (5, L, [], (K s.2)) r
noncomputable def fJ7_fill_53178_16 (c0 : Nat) (x1 : Int32) (m : Mem) : Option Mem := lp (lJ7_fill_53178_16_5 c0 x1 (16 : Int32)) fu ((0 : Int32), m)
theorem BJ7_fill_53178_16_5 {xs : List Int32} {d : Nat} {r : jR} {sh : Nat → Option Shp} {K : Mem → List jE} (hK : Ctx sh K) (hd : 0 ≤ d) {c0 : Nat} (hc0 : sh c0 = some (.inr (.inl 16)))  {x1 : Int32} {x3 : Int32} (s : Int32 × Mem) {t : (Int32 × Mem) ⊕ Mem} (h : lJ7_fill_53178_16_5 c0 x1 x3 s = some t) (hq : sQ (gJ7_fill_53178_16_5 xs d r K c0 x1 x3) (qM r K) t) : gJ7_fill_53178_16_5 xs d r K c0 x1 x3 s := by
  intro L l0 l1 l3 l2
  unfold lJ7_fill_53178_16_5 at h
  refine R_iload_n (p := 6) rfl l2 rfl ?_
  refine R_iload_n (p := 7) rfl l3 rfl ?_
  by_cases hc : x3 ≤ s.1
  · replace h := ite_t h hc
    refine R_icge_t rfl hc ?_
    obtain rfl := Option.some.inj h
    exact R_return rfl rfl hq
  · replace h := ite_f h hc
    refine R_icge_f (p := 10) rfl hc rfl ?_
    refine R_aload_n (p := 11) rfl l0 rfl ?_
    refine R_iload_n (p := 12) rfl l2 rfl ?_
    refine R_iload_n (p := 13) rfl l1 rfl ?_
    obtain ⟨b1, h⟩ := gd h
    refine R_iast (p := 14) hK rfl hc0 b1 rfl ?_
    refine R_iinc (p := 17) rfl l2 rfl ki_1 rfl ?_
    refine R_goto rfl ?_
    obtain rfl := Option.some.inj h
    exact hq _ (jg_ne l0 rfl) (jg_ne l1 rfl) (jg_ne l3 rfl) jg_self
theorem LJ7_fill_53178_16_5 {xs : List Int32} {d : Nat} {r : jR} {sh : Nat → Option Shp} {K : Mem → List jE} (hK : Ctx sh K) (hd : 0 ≤ d) {c0 : Nat} (hc0 : sh c0 = some (.inr (.inl 16)))  {x1 : Int32} {x3 : Int32} (n : Nat) (s : Int32 × Mem) {t : Mem} (h : lp (lJ7_fill_53178_16_5 c0 x1 x3) n s = some t) (hq : (qM r K) t) : gJ7_fill_53178_16_5 xs d r K c0 x1 x3 s := lp_ind (G := gJ7_fill_53178_16_5 xs d r K c0 x1 x3) (Qe := (qM r K)) (fun s t h hq => BJ7_fill_53178_16_5 hK hd hc0 s h hq) n s t h hq
theorem ufJ7_fill_53178_16 {xs : List Int32} {d : Nat} {r : jR} {sh : Nat → Option Shp} {K : Mem → List jE} (hK : Ctx sh K) (hd : 0 ≤ d) {c0 : Nat} (hc0 : sh c0 = some (.inr (.inl 16))) {x1 : Int32} {m : Mem} {L : List (Nat × Value)} (l0 : jget L 0 = some (.ref c0)) (l1 : jget L 1 = some (.int x1)) {t : Mem} (h : fJ7_fill_53178_16 c0 x1 m = some t) (hq : (qM r K) t) : RunD (jcs xs) d 4 (none) jt_J7_fill_53178 (0, L, [], (K m)) r := by
  unfold fJ7_fill_53178_16 at h
  refine R_iconst (p := 1) rfl ki_0 rfl ?_
  refine R_istore_n (p := 2) rfl rfl rfl ?_
  refine R_aload_n (p := 3) rfl (jg_ne l0 rfl) rfl ?_
  refine R_alen (p := 4) (x := (16 : Int32)) hK rfl hc0 rfl rfl ?_
  refine R_istore_n (p := 5) rfl rfl rfl ?_
  exact LJ7_fill_53178_16_5 hK hd hc0 _ _ h hq _ (jg_ne (jg_ne l0 rfl) rfl) (jg_ne (jg_ne l1 rfl) rfl) jg_self (jg_ne jg_self rfl)
theorem tfJ7_fill_53178_16 {xs : List Int32} {d : Nat} {sh : Nat → Option Shp} {K : Mem → List jE} (hK : Ctx sh K) (hd : 1 ≤ d) {c0 : Nat} (hc0 : sh c0 = some (.inr (.inl 16))) {x1 : Int32} {m : Mem} {t : Mem} (h : fJ7_fill_53178_16 c0 x1 m = some t) : CallD (jcs xs) d 263 [.ref c0, .int x1] (K m) (none, K t) := by
  obtain ⟨d, rfl⟩ : ∃ z, d = z + 1 := ⟨d - 1, by omega⟩
  refine CallD_of jmt_J7_fill_53178 rfl ⟨rfl, Nat.le_of_ble_eq_true rfl⟩ ?_
  exact ufJ7_fill_53178_16 hK (Nat.le_of_succ_le_succ hd) hc0 rfl rfl h rfl
noncomputable def bX0_makeRing_195 (k : Nat) (x1 : Int32) (x6 : Int32) (m : Mem) : Option Mem := (if inb x1 16 then some (mput m (cw k 7) x1.toNatClampNeg x6) else none)
noncomputable def bX0_makeRing_137 (k : Nat) (x1 : Int32) (x2 : Int32) (x3 : Int32) (x4 : Int32) (x6 : Int32) (x7 : Int32) (x11 : Int32) (m : Mem) : Option ((Int32 × Int32 × Mem) ⊕ Mem) := (if inb x1 16 then (if inb x6 30 then some (.inl ((x6 + (1 : Int32)), (x7 + (1 : Int32)), (mput m (cw k (9 + x1.toNatClampNeg)) x6.toNatClampNeg x11))) else none) else none)
noncomputable def bX0_makeRing_107 (k : Nat) (x1 : Int32) (x2 : Int32) (x3 : Int32) (x4 : Int32) (x6 : Int32) (x7 : Int32) (y0 : Int32) (m : Mem) : Option ((Int32 × Int32 × Mem) ⊕ Mem) := (if x6 = 0 then bX0_makeRing_137 k x1 x2 x3 x4 x6 x7 y0 m else (if y0 = (16 : Int32) then (if inb x1 16 then (if inb (x6 - (1 : Int32)) 30 then (if (m (cw k (9 + x1.toNatClampNeg)) (x6 - (1 : Int32)).toNatClampNeg) = (16 : Int32) then some (.inl (x6, (x7 + (1 : Int32)), m)) else bX0_makeRing_137 k x1 x2 x3 x4 x6 x7 y0 m) else none) else none) else bX0_makeRing_137 k x1 x2 x3 x4 x6 x7 y0 m))
noncomputable def bX0_makeRing_88 (k : Nat) (x1 : Int32) (x2 : Int32) (x3 : Int32) (x4 : Int32) (x6 : Int32) (x7 : Int32) (x8 : Int32) (x9 : Int32) (y0 : Int32) (m : Mem) : Option ((Int32 × Int32 × Mem) ⊕ Mem) := (if y0 = 0 then bX0_makeRing_107 k x1 x2 x3 x4 x6 x7 (16 : Int32) m else bX0_makeRing_107 k x1 x2 x3 x4 x6 x7 ((x8 * x2) + x9) m)
noncomputable def lX0_makeRing_29 (k : Nat) (x1 : Int32) (x2 : Int32) (x3 : Int32) (x4 : Int32) (s : Int32 × Int32 × Mem) : Option ((Int32 × Int32 × Mem) ⊕ Mem) := (if (6 : Int32) ≤ s.2.1 then (if s.1 ≤ (1 : Int32) then (bX0_makeRing_195 k x1 s.1 s.2.2).map Sum.inr else (if inb x1 16 then (if (s.2.2 (cw k (9 + x1.toNatClampNeg)) 0) = (16 : Int32) then (if inb x1 16 then (if inb (s.1 - (1 : Int32)) 30 then (if (s.2.2 (cw k (9 + x1.toNatClampNeg)) (s.1 - (1 : Int32)).toNatClampNeg) = (16 : Int32) then (bX0_makeRing_195 k x1 (s.1 + (-1 : Int32)) s.2.2).map Sum.inr else (bX0_makeRing_195 k x1 s.1 s.2.2).map Sum.inr) else none) else none) else (bX0_makeRing_195 k x1 s.1 s.2.2).map Sum.inr) else none)) else (if inb x1 16 then (jat jcst_0 s.2.1).bind fun q7 => (jat jcst_1 s.2.1).bind fun q8 => (if ((s.2.2 (cw k 6) x1.toNatClampNeg) + q7) < 0 then bX0_makeRing_88 k x1 x2 x3 x4 s.1 s.2.1 ((s.2.2 (cw k 6) x1.toNatClampNeg) + q7) (x4 + q8) (0 : Int32) s.2.2 else (if x3 ≤ ((s.2.2 (cw k 6) x1.toNatClampNeg) + q7) then bX0_makeRing_88 k x1 x2 x3 x4 s.1 s.2.1 ((s.2.2 (cw k 6) x1.toNatClampNeg) + q7) (x4 + q8) (0 : Int32) s.2.2 else (if (x4 + q8) < 0 then bX0_makeRing_88 k x1 x2 x3 x4 s.1 s.2.1 ((s.2.2 (cw k 6) x1.toNatClampNeg) + q7) (x4 + q8) (0 : Int32) s.2.2 else (if x2 ≤ (x4 + q8) then bX0_makeRing_88 k x1 x2 x3 x4 s.1 s.2.1 ((s.2.2 (cw k 6) x1.toNatClampNeg) + q7) (x4 + q8) (0 : Int32) s.2.2 else bX0_makeRing_88 k x1 x2 x3 x4 s.1 s.2.1 ((s.2.2 (cw k 6) x1.toNatClampNeg) + q7) (x4 + q8) (1 : Int32) s.2.2)))) else none))
noncomputable def gX0_makeRing_29 (xs : List Int32) (d : Nat) (r : jR) (K : Mem → List jE) (k : Nat) (x1 : Int32) (x2 : Int32) (x3 : Int32) (x4 : Int32) (s : Int32 × Int32 × Mem) : Prop := ∀ L, jget L 0 = some (.ref (cw k 2)) → jget L 1 = some (.int x1) → jget L 2 = some (.int x2) → jget L 3 = some (.int x3) → jget L 4 = some (.int x4) → jget L 5 = some (.ref (jK0 + 1)) → jget L 6 = some (.int s.1) → jget L 7 = some (.int s.2.1) → RunD (jcs xs) d 12 (none) jt_X0_makeRing (29, L, [], (K s.2.2)) r
noncomputable def bX0_makeRing_137a (k : Nat) (x1 : Int32) (x2 : Int32) (x3 : Int32) (x4 : Int32) (x6 : Int32) (x7 : Int32) (x11 : Int32) (m : Mem) : Option ((Int32 × Int32 × Mem) ⊕ Mem) := (if inb x1 16 then (if inb x6 30 then some (.inl ((x6 + (1 : Int32)), (x7 + (1 : Int32)), (mput m (cw k (9 + x1.toNatClampNeg)) x6.toNatClampNeg x11))) else none) else none)
noncomputable def bX0_makeRing_107a (k : Nat) (x1 : Int32) (x2 : Int32) (x3 : Int32) (x4 : Int32) (x6 : Int32) (x7 : Int32) (y0 : Int32) (m : Mem) : Option ((Int32 × Int32 × Mem) ⊕ Mem) := (if x6 = 0 then bX0_makeRing_137a k x1 x2 x3 x4 x6 x7 y0 m else (if y0 = (16 : Int32) then (if inb x1 16 then (if inb (x6 - (1 : Int32)) 30 then (if (m (cw k (9 + x1.toNatClampNeg)) (x6 - (1 : Int32)).toNatClampNeg) = (16 : Int32) then some (.inl (x6, (x7 + (1 : Int32)), m)) else bX0_makeRing_137a k x1 x2 x3 x4 x6 x7 y0 m) else none) else none) else bX0_makeRing_137a k x1 x2 x3 x4 x6 x7 y0 m))
noncomputable def bX0_makeRing_88a (k : Nat) (x1 : Int32) (x2 : Int32) (x3 : Int32) (x4 : Int32) (x6 : Int32) (x7 : Int32) (x8 : Int32) (x9 : Int32) (y0 : Int32) (m : Mem) : Option ((Int32 × Int32 × Mem) ⊕ Mem) := (if y0 = 0 then bX0_makeRing_107a k x1 x2 x3 x4 x6 x7 (16 : Int32) m else bX0_makeRing_107a k x1 x2 x3 x4 x6 x7 ((x8 * x2) + x9) m)
noncomputable def lX0_makeRing_29a (k : Nat) (x1 : Int32) (x2 : Int32) (x3 : Int32) (x4 : Int32) (s : Int32 × Int32 × Mem) : Option ((Int32 × Int32 × Mem) ⊕ Mem) := (if (6 : Int32) ≤ s.2.1 then (if s.1 ≤ (1 : Int32) then (bX0_makeRing_195 k x1 s.1 s.2.2).map Sum.inr else (if inb x1 16 then (if (s.2.2 (cw k (9 + x1.toNatClampNeg)) 0) = (16 : Int32) then (if inb x1 16 then (if inb (s.1 - (1 : Int32)) 30 then (if (s.2.2 (cw k (9 + x1.toNatClampNeg)) (s.1 - (1 : Int32)).toNatClampNeg) = (16 : Int32) then (bX0_makeRing_195 k x1 (s.1 + (-1 : Int32)) s.2.2).map Sum.inr else (bX0_makeRing_195 k x1 s.1 s.2.2).map Sum.inr) else none) else none) else (bX0_makeRing_195 k x1 s.1 s.2.2).map Sum.inr) else none)) else (if inb x1 16 then (jat jcst_0 s.2.1).bind fun q17 => (jat jcst_2 s.2.1).bind fun q18 => (if ((s.2.2 (cw k 6) x1.toNatClampNeg) + q17) < 0 then bX0_makeRing_88a k x1 x2 x3 x4 s.1 s.2.1 ((s.2.2 (cw k 6) x1.toNatClampNeg) + q17) (x4 + q18) (0 : Int32) s.2.2 else (if x3 ≤ ((s.2.2 (cw k 6) x1.toNatClampNeg) + q17) then bX0_makeRing_88a k x1 x2 x3 x4 s.1 s.2.1 ((s.2.2 (cw k 6) x1.toNatClampNeg) + q17) (x4 + q18) (0 : Int32) s.2.2 else (if (x4 + q18) < 0 then bX0_makeRing_88a k x1 x2 x3 x4 s.1 s.2.1 ((s.2.2 (cw k 6) x1.toNatClampNeg) + q17) (x4 + q18) (0 : Int32) s.2.2 else (if x2 ≤ (x4 + q18) then bX0_makeRing_88a k x1 x2 x3 x4 s.1 s.2.1 ((s.2.2 (cw k 6) x1.toNatClampNeg) + q17) (x4 + q18) (0 : Int32) s.2.2 else bX0_makeRing_88a k x1 x2 x3 x4 s.1 s.2.1 ((s.2.2 (cw k 6) x1.toNatClampNeg) + q17) (x4 + q18) (1 : Int32) s.2.2)))) else none))
noncomputable def gX0_makeRing_29a (xs : List Int32) (d : Nat) (r : jR) (K : Mem → List jE) (k : Nat) (x1 : Int32) (x2 : Int32) (x3 : Int32) (x4 : Int32) (s : Int32 × Int32 × Mem) : Prop := ∀ L, jget L 0 = some (.ref (cw k 2)) → jget L 1 = some (.int x1) → jget L 2 = some (.int x2) → jget L 3 = some (.int x3) → jget L 4 = some (.int x4) → jget L 5 = some (.ref (jK0 + 2)) → jget L 6 = some (.int s.1) → jget L 7 = some (.int s.2.1) → RunD (jcs xs) d 12 (none) jt_X0_makeRing (29, L, [], (K s.2.2)) r
noncomputable def fX0_makeRing (k : Nat) (x1 : Int32) (x2 : Int32) (x3 : Int32) (x4 : Int32) (m : Mem) : Option Mem := (if inb x1 16 then (if ((m (cw k 6) x1.toNatClampNeg) - (m (cw k 6) x1.toNatClampNeg) / (2 : Int32) * (2 : Int32)) = (1 : Int32) then lp (lX0_makeRing_29 k x1 x2 x3 x4) fu ((0 : Int32), (0 : Int32), m) else lp (lX0_makeRing_29a k x1 x2 x3 x4) fu ((0 : Int32), (0 : Int32), m)) else none)
theorem tbX0_makeRing_195 {xs : List Int32} {d : Nat} {r : jR} {K : Mem → List jE} (hK : Ctx shC K) (hd : 0 ≤ d) {k : Nat} (hk : k < 3)  {x1 : Int32} {x6 : Int32} {m : Mem} {L : List (Nat × Value)} (l0 : jget L 0 = some (.ref (cw k 2))) (l1 : jget L 1 = some (.int x1)) (l6 : jget L 6 = some (.int x6)) {t : Mem} (h : bX0_makeRing_195 k x1 x6 m = some t) (hq : (qM r K) t) : RunD (jcs xs) d 12 (none) jt_X0_makeRing (195, L, [], (K m)) r := by
  unfold bX0_makeRing_195 at h
  refine R_aload_n (p := 196) rfl l0 rfl ?_
  refine R_getR (p := 199) (q := (cw k 7)) hK rfl (s_w2 hk) rfl rfl ?_
  refine R_iload_n (p := 200) rfl l1 rfl ?_
  refine R_iload (p := 202) rfl l6 rfl ?_
  obtain ⟨b2, h⟩ := gd h
  refine R_iast (p := 203) hK rfl (s_w7 hk) b2 rfl ?_
  obtain rfl := Option.some.inj h
  exact R_return rfl rfl hq
theorem tbX0_makeRing_137 {xs : List Int32} {d : Nat} {r : jR} {K : Mem → List jE} (hK : Ctx shC K) (hd : 0 ≤ d) {k : Nat} (hk : k < 3)  {x1 : Int32} {x2 : Int32} {x3 : Int32} {x4 : Int32} {x6 : Int32} {x7 : Int32} {x11 : Int32} {m : Mem} {L : List (Nat × Value)} (l0 : jget L 0 = some (.ref (cw k 2))) (l1 : jget L 1 = some (.int x1)) (l2 : jget L 2 = some (.int x2)) (l3 : jget L 3 = some (.int x3)) (l4 : jget L 4 = some (.int x4)) (l5 : jget L 5 = some (.ref (jK0 + 1))) (l6 : jget L 6 = some (.int x6)) (l7 : jget L 7 = some (.int x7)) (l11 : jget L 11 = some (.int x11)) {t : ((Int32 × Int32 × Mem) ⊕ Mem)} (h : bX0_makeRing_137 k x1 x2 x3 x4 x6 x7 x11 m = some t) (hq : (sQ (gX0_makeRing_29 xs d r K k x1 x2 x3 x4) (qM r K)) t) : RunD (jcs xs) d 12 (none) jt_X0_makeRing (137, L, [], (K m)) r := by
  unfold bX0_makeRing_137 at h
  refine R_aload_n (p := 138) rfl l0 rfl ?_
  refine R_getR (p := 141) (q := (cw k 8)) hK rfl (s_w2 hk) rfl rfl ?_
  refine R_iload_n (p := 142) rfl l1 rfl ?_
  obtain ⟨b9, h⟩ := gd h
  refine R_aald (p := 143) (q := (cw k (9 + x1.toNatClampNeg))) hK rfl (s_w8 hk) (by decide) b9.1 (l_ring b9.2) rfl ?_
  refine R_iload (p := 145) rfl l6 rfl ?_
  refine R_iload (p := 147) rfl l11 rfl ?_
  obtain ⟨b10, h⟩ := gd h
  refine R_iast (p := 148) hK rfl (s_ring hk b9.2) b10 rfl ?_
  refine R_iinc (p := 151) rfl l6 rfl ki_1 rfl ?_
  refine R_iinc (p := 154) rfl (jg_ne l7 rfl) rfl ki_1 rfl ?_
  refine R_goto rfl ?_
  obtain rfl := Option.some.inj h
  exact hq _ (jg_ne (jg_ne l0 rfl) rfl) (jg_ne (jg_ne l1 rfl) rfl) (jg_ne (jg_ne l2 rfl) rfl) (jg_ne (jg_ne l3 rfl) rfl) (jg_ne (jg_ne l4 rfl) rfl) (jg_ne (jg_ne l5 rfl) rfl) (jg_ne jg_self rfl) jg_self
theorem tbX0_makeRing_107 {xs : List Int32} {d : Nat} {r : jR} {K : Mem → List jE} (hK : Ctx shC K) (hd : 0 ≤ d) {k : Nat} (hk : k < 3)  {x1 : Int32} {x2 : Int32} {x3 : Int32} {x4 : Int32} {x6 : Int32} {x7 : Int32} {y0 : Int32} {m : Mem} {L : List (Nat × Value)} (l0 : jget L 0 = some (.ref (cw k 2))) (l1 : jget L 1 = some (.int x1)) (l2 : jget L 2 = some (.int x2)) (l3 : jget L 3 = some (.int x3)) (l4 : jget L 4 = some (.int x4)) (l5 : jget L 5 = some (.ref (jK0 + 1))) (l6 : jget L 6 = some (.int x6)) (l7 : jget L 7 = some (.int x7)) {t : ((Int32 × Int32 × Mem) ⊕ Mem)} (h : bX0_makeRing_107 k x1 x2 x3 x4 x6 x7 y0 m = some t) (hq : (sQ (gX0_makeRing_29 xs d r K k x1 x2 x3 x4) (qM r K)) t) : RunD (jcs xs) d 12 (none) jt_X0_makeRing (107, L, [.int y0], (K m)) r := by
  unfold bX0_makeRing_107 at h
  refine R_istore (p := 109) rfl rfl rfl ?_
  refine R_iload (p := 111) rfl (jg_ne l6 rfl) rfl ?_
  by_cases hc : x6 = 0
  · replace h := ite_t h hc
    refine R_ifeq_t rfl hc ?_
    exact tbX0_makeRing_137 hK hd hk (jg_ne l0 rfl) (jg_ne l1 rfl) (jg_ne l2 rfl) (jg_ne l3 rfl) (jg_ne l4 rfl) (jg_ne l5 rfl) (jg_ne l6 rfl) (jg_ne l7 rfl) jg_self h hq
  · replace h := ite_f h hc
    refine R_ifeq_f (p := 114) rfl hc rfl ?_
    refine R_iload (p := 116) rfl jg_self rfl ?_
    refine R_bipush (p := 118) rfl kb_16 rfl ?_
    by_cases hc : y0 = (16 : Int32)
    · replace h := ite_t h hc
      refine R_icne_f (p := 121) rfl (fun z => z hc) rfl ?_
      refine R_aload_n (p := 122) rfl (jg_ne l0 rfl) rfl ?_
      refine R_getR (p := 125) (q := (cw k 8)) hK rfl (s_w2 hk) rfl rfl ?_
      refine R_iload_n (p := 126) rfl (jg_ne l1 rfl) rfl ?_
      obtain ⟨b11, h⟩ := gd h
      refine R_aald (p := 127) (q := (cw k (9 + x1.toNatClampNeg))) hK rfl (s_w8 hk) (by decide) b11.1 (l_ring b11.2) rfl ?_
      refine R_iload (p := 129) rfl (jg_ne l6 rfl) rfl ?_
      refine R_iconst (p := 130) rfl ki_1 rfl ?_
      refine R_isub (p := 131) rfl rfl ?_
      obtain ⟨b12, h⟩ := gd h
      refine R_iald (p := 132) hK rfl (s_ring hk b11.2) b12 rfl ?_
      refine R_bipush (p := 134) rfl kb_16 rfl ?_
      by_cases hc : (m (cw k (9 + x1.toNatClampNeg)) (x6 - (1 : Int32)).toNatClampNeg) = (16 : Int32)
      · replace h := ite_t h hc
        refine R_iceq_t rfl hc ?_
        refine R_iinc (p := 154) rfl (jg_ne l7 rfl) rfl ki_1 rfl ?_
        refine R_goto rfl ?_
        obtain rfl := Option.some.inj h
        exact hq _ (jg_ne (jg_ne l0 rfl) rfl) (jg_ne (jg_ne l1 rfl) rfl) (jg_ne (jg_ne l2 rfl) rfl) (jg_ne (jg_ne l3 rfl) rfl) (jg_ne (jg_ne l4 rfl) rfl) (jg_ne (jg_ne l5 rfl) rfl) (jg_ne (jg_ne l6 rfl) rfl) jg_self
      · replace h := ite_f h hc
        refine R_iceq_f (p := 137) rfl hc rfl ?_
        exact tbX0_makeRing_137 hK hd hk (jg_ne l0 rfl) (jg_ne l1 rfl) (jg_ne l2 rfl) (jg_ne l3 rfl) (jg_ne l4 rfl) (jg_ne l5 rfl) (jg_ne l6 rfl) (jg_ne l7 rfl) jg_self h hq
    · replace h := ite_f h hc
      refine R_icne_t rfl hc ?_
      exact tbX0_makeRing_137 hK hd hk (jg_ne l0 rfl) (jg_ne l1 rfl) (jg_ne l2 rfl) (jg_ne l3 rfl) (jg_ne l4 rfl) (jg_ne l5 rfl) (jg_ne l6 rfl) (jg_ne l7 rfl) jg_self h hq
theorem tbX0_makeRing_88 {xs : List Int32} {d : Nat} {r : jR} {K : Mem → List jE} (hK : Ctx shC K) (hd : 0 ≤ d) {k : Nat} (hk : k < 3)  {x1 : Int32} {x2 : Int32} {x3 : Int32} {x4 : Int32} {x6 : Int32} {x7 : Int32} {x8 : Int32} {x9 : Int32} {y0 : Int32} {m : Mem} {L : List (Nat × Value)} (l0 : jget L 0 = some (.ref (cw k 2))) (l1 : jget L 1 = some (.int x1)) (l2 : jget L 2 = some (.int x2)) (l3 : jget L 3 = some (.int x3)) (l4 : jget L 4 = some (.int x4)) (l5 : jget L 5 = some (.ref (jK0 + 1))) (l6 : jget L 6 = some (.int x6)) (l7 : jget L 7 = some (.int x7)) (l8 : jget L 8 = some (.int x8)) (l9 : jget L 9 = some (.int x9)) {t : ((Int32 × Int32 × Mem) ⊕ Mem)} (h : bX0_makeRing_88 k x1 x2 x3 x4 x6 x7 x8 x9 y0 m = some t) (hq : (sQ (gX0_makeRing_29 xs d r K k x1 x2 x3 x4) (qM r K)) t) : RunD (jcs xs) d 12 (none) jt_X0_makeRing (88, L, [.int y0], (K m)) r := by
  unfold bX0_makeRing_88 at h
  refine R_istore (p := 90) rfl rfl rfl ?_
  refine R_iload (p := 92) rfl jg_self rfl ?_
  by_cases hc : y0 = 0
  · replace h := ite_t h hc
    refine R_ifeq_t rfl hc ?_
    refine R_bipush (p := 107) rfl kb_16 rfl ?_
    exact tbX0_makeRing_107 hK hd hk (jg_ne l0 rfl) (jg_ne l1 rfl) (jg_ne l2 rfl) (jg_ne l3 rfl) (jg_ne l4 rfl) (jg_ne l5 rfl) (jg_ne l6 rfl) (jg_ne l7 rfl) h hq
  · replace h := ite_f h hc
    refine R_ifeq_f (p := 95) rfl hc rfl ?_
    refine R_iload (p := 97) rfl (jg_ne l8 rfl) rfl ?_
    refine R_iload_n (p := 98) rfl (jg_ne l2 rfl) rfl ?_
    refine R_imul (p := 99) rfl rfl ?_
    refine R_iload (p := 101) rfl (jg_ne l9 rfl) rfl ?_
    refine R_iadd (p := 102) rfl rfl ?_
    refine R_goto rfl ?_
    exact tbX0_makeRing_107 hK hd hk (jg_ne l0 rfl) (jg_ne l1 rfl) (jg_ne l2 rfl) (jg_ne l3 rfl) (jg_ne l4 rfl) (jg_ne l5 rfl) (jg_ne l6 rfl) (jg_ne l7 rfl) h hq
theorem BX0_makeRing_29 {xs : List Int32} {d : Nat} {r : jR} {K : Mem → List jE} (hK : Ctx shC K) (hd : 0 ≤ d) {k : Nat} (hk : k < 3)  {x1 : Int32} {x2 : Int32} {x3 : Int32} {x4 : Int32} (s : Int32 × Int32 × Mem) {t : (Int32 × Int32 × Mem) ⊕ Mem} (h : lX0_makeRing_29 k x1 x2 x3 x4 s = some t) (hq : sQ (gX0_makeRing_29 xs d r K k x1 x2 x3 x4) (qM r K) t) : gX0_makeRing_29 xs d r K k x1 x2 x3 x4 s := by
  intro L l0 l1 l2 l3 l4 l5 l6 l7
  unfold lX0_makeRing_29 at h
  refine R_iload (p := 31) rfl l7 rfl ?_
  refine R_bipush (p := 33) rfl kb_6 rfl ?_
  by_cases hc : (6 : Int32) ≤ s.2.1
  · replace h := ite_t h hc
    refine R_icge_t rfl hc ?_
    refine R_iload (p := 159) rfl l6 rfl ?_
    refine R_iconst (p := 160) rfl ki_1 rfl ?_
    by_cases hc : s.1 ≤ (1 : Int32)
    · replace h := ite_t h hc
      refine R_icle_t rfl hc ?_
      obtain ⟨w9, h9, rfl⟩ := map_inr h
      replace h := h9
      exact tbX0_makeRing_195 hK hd hk l0 l1 l6 h hq
    · replace h := ite_f h hc
      refine R_icle_f (p := 163) rfl hc rfl ?_
      refine R_aload_n (p := 164) rfl l0 rfl ?_
      refine R_getR (p := 167) (q := (cw k 8)) hK rfl (s_w2 hk) rfl rfl ?_
      refine R_iload_n (p := 168) rfl l1 rfl ?_
      obtain ⟨b3, h⟩ := gd h
      refine R_aald (p := 169) (q := (cw k (9 + x1.toNatClampNeg))) hK rfl (s_w8 hk) (by decide) b3.1 (l_ring b3.2) rfl ?_
      refine R_iconst (p := 170) rfl ki_0 rfl ?_
      refine R_ialk (p := 171) hK rfl (s_ring hk b3.2) (by decide) kn_0 rfl ?_
      refine R_bipush (p := 173) rfl kb_16 rfl ?_
      by_cases hc : (s.2.2 (cw k (9 + x1.toNatClampNeg)) 0) = (16 : Int32)
      · replace h := ite_t h hc
        refine R_icne_f (p := 176) rfl (fun z => z hc) rfl ?_
        refine R_aload_n (p := 177) rfl l0 rfl ?_
        refine R_getR (p := 180) (q := (cw k 8)) hK rfl (s_w2 hk) rfl rfl ?_
        refine R_iload_n (p := 181) rfl l1 rfl ?_
        obtain ⟨b4, h⟩ := gd h
        refine R_aald (p := 182) (q := (cw k (9 + x1.toNatClampNeg))) hK rfl (s_w8 hk) (by decide) b4.1 (l_ring b4.2) rfl ?_
        refine R_iload (p := 184) rfl l6 rfl ?_
        refine R_iconst (p := 185) rfl ki_1 rfl ?_
        refine R_isub (p := 186) rfl rfl ?_
        obtain ⟨b5, h⟩ := gd h
        refine R_iald (p := 187) hK rfl (s_ring hk b4.2) b5 rfl ?_
        refine R_bipush (p := 189) rfl kb_16 rfl ?_
        by_cases hc : (s.2.2 (cw k (9 + x1.toNatClampNeg)) (s.1 - (1 : Int32)).toNatClampNeg) = (16 : Int32)
        · replace h := ite_t h hc
          refine R_icne_f (p := 192) rfl (fun z => z hc) rfl ?_
          refine R_iinc (p := 195) rfl l6 rfl ki_m1 rfl ?_
          obtain ⟨w9, h9, rfl⟩ := map_inr h
          replace h := h9
          exact tbX0_makeRing_195 hK hd hk (jg_ne l0 rfl) (jg_ne l1 rfl) jg_self h hq
        · replace h := ite_f h hc
          refine R_icne_t rfl hc ?_
          obtain ⟨w9, h9, rfl⟩ := map_inr h
          replace h := h9
          exact tbX0_makeRing_195 hK hd hk l0 l1 l6 h hq
      · replace h := ite_f h hc
        refine R_icne_t rfl hc ?_
        obtain ⟨w9, h9, rfl⟩ := map_inr h
        replace h := h9
        exact tbX0_makeRing_195 hK hd hk l0 l1 l6 h hq
  · replace h := ite_f h hc
    refine R_icge_f (p := 36) rfl hc rfl ?_
    refine R_aload_n (p := 37) rfl l0 rfl ?_
    refine R_getR (p := 40) (q := (cw k 6)) hK rfl (s_w2 hk) rfl rfl ?_
    refine R_iload_n (p := 41) rfl l1 rfl ?_
    obtain ⟨b6, h⟩ := gd h
    refine R_iald (p := 42) hK rfl (s_w6 hk) b6 rfl ?_
    refine R_getst (p := 45) rfl rfl ?_
    refine R_iload (p := 47) rfl l7 rfl ?_
    obtain ⟨q7, eq7, h⟩ := bind_some h
    refine R_ialc (p := 48) rfl rfl eq7 rfl ?_
    refine R_iadd (p := 49) rfl rfl ?_
    refine R_istore (p := 51) rfl rfl rfl ?_
    refine R_iload (p := 53) rfl (jg_ne l4 rfl) rfl ?_
    refine R_aload (p := 55) rfl (jg_ne l5 rfl) rfl ?_
    refine R_iload (p := 57) rfl (jg_ne l7 rfl) rfl ?_
    obtain ⟨q8, eq8, h⟩ := bind_some h
    refine R_ialc (p := 58) rfl rfl eq8 rfl ?_
    refine R_iadd (p := 59) rfl rfl ?_
    refine R_istore (p := 61) rfl rfl rfl ?_
    refine R_iload (p := 63) rfl (jg_ne jg_self rfl) rfl ?_
    by_cases hc : ((s.2.2 (cw k 6) x1.toNatClampNeg) + q7) < 0
    · replace h := ite_t h hc
      refine R_iflt_t rfl hc ?_
      refine R_iconst (p := 88) rfl ki_0 rfl ?_
      exact tbX0_makeRing_88 hK hd hk (jg_ne (jg_ne l0 rfl) rfl) (jg_ne (jg_ne l1 rfl) rfl) (jg_ne (jg_ne l2 rfl) rfl) (jg_ne (jg_ne l3 rfl) rfl) (jg_ne (jg_ne l4 rfl) rfl) (jg_ne (jg_ne l5 rfl) rfl) (jg_ne (jg_ne l6 rfl) rfl) (jg_ne (jg_ne l7 rfl) rfl) (jg_ne jg_self rfl) jg_self h hq
    · replace h := ite_f h hc
      refine R_iflt_f (p := 66) rfl hc rfl ?_
      refine R_iload (p := 68) rfl (jg_ne jg_self rfl) rfl ?_
      refine R_iload_n (p := 69) rfl (jg_ne (jg_ne l3 rfl) rfl) rfl ?_
      by_cases hc : x3 ≤ ((s.2.2 (cw k 6) x1.toNatClampNeg) + q7)
      · replace h := ite_t h hc
        refine R_icge_t rfl hc ?_
        refine R_iconst (p := 88) rfl ki_0 rfl ?_
        exact tbX0_makeRing_88 hK hd hk (jg_ne (jg_ne l0 rfl) rfl) (jg_ne (jg_ne l1 rfl) rfl) (jg_ne (jg_ne l2 rfl) rfl) (jg_ne (jg_ne l3 rfl) rfl) (jg_ne (jg_ne l4 rfl) rfl) (jg_ne (jg_ne l5 rfl) rfl) (jg_ne (jg_ne l6 rfl) rfl) (jg_ne (jg_ne l7 rfl) rfl) (jg_ne jg_self rfl) jg_self h hq
      · replace h := ite_f h hc
        refine R_icge_f (p := 72) rfl hc rfl ?_
        refine R_iload (p := 74) rfl jg_self rfl ?_
        by_cases hc : (x4 + q8) < 0
        · replace h := ite_t h hc
          refine R_iflt_t rfl hc ?_
          refine R_iconst (p := 88) rfl ki_0 rfl ?_
          exact tbX0_makeRing_88 hK hd hk (jg_ne (jg_ne l0 rfl) rfl) (jg_ne (jg_ne l1 rfl) rfl) (jg_ne (jg_ne l2 rfl) rfl) (jg_ne (jg_ne l3 rfl) rfl) (jg_ne (jg_ne l4 rfl) rfl) (jg_ne (jg_ne l5 rfl) rfl) (jg_ne (jg_ne l6 rfl) rfl) (jg_ne (jg_ne l7 rfl) rfl) (jg_ne jg_self rfl) jg_self h hq
        · replace h := ite_f h hc
          refine R_iflt_f (p := 77) rfl hc rfl ?_
          refine R_iload (p := 79) rfl jg_self rfl ?_
          refine R_iload_n (p := 80) rfl (jg_ne (jg_ne l2 rfl) rfl) rfl ?_
          by_cases hc : x2 ≤ (x4 + q8)
          · replace h := ite_t h hc
            refine R_icge_t rfl hc ?_
            refine R_iconst (p := 88) rfl ki_0 rfl ?_
            exact tbX0_makeRing_88 hK hd hk (jg_ne (jg_ne l0 rfl) rfl) (jg_ne (jg_ne l1 rfl) rfl) (jg_ne (jg_ne l2 rfl) rfl) (jg_ne (jg_ne l3 rfl) rfl) (jg_ne (jg_ne l4 rfl) rfl) (jg_ne (jg_ne l5 rfl) rfl) (jg_ne (jg_ne l6 rfl) rfl) (jg_ne (jg_ne l7 rfl) rfl) (jg_ne jg_self rfl) jg_self h hq
          · replace h := ite_f h hc
            refine R_icge_f (p := 83) rfl hc rfl ?_
            refine R_iconst (p := 84) rfl ki_1 rfl ?_
            refine R_goto rfl ?_
            exact tbX0_makeRing_88 hK hd hk (jg_ne (jg_ne l0 rfl) rfl) (jg_ne (jg_ne l1 rfl) rfl) (jg_ne (jg_ne l2 rfl) rfl) (jg_ne (jg_ne l3 rfl) rfl) (jg_ne (jg_ne l4 rfl) rfl) (jg_ne (jg_ne l5 rfl) rfl) (jg_ne (jg_ne l6 rfl) rfl) (jg_ne (jg_ne l7 rfl) rfl) (jg_ne jg_self rfl) jg_self h hq
theorem LX0_makeRing_29 {xs : List Int32} {d : Nat} {r : jR} {K : Mem → List jE} (hK : Ctx shC K) (hd : 0 ≤ d) {k : Nat} (hk : k < 3)  {x1 : Int32} {x2 : Int32} {x3 : Int32} {x4 : Int32} (n : Nat) (s : Int32 × Int32 × Mem) {t : Mem} (h : lp (lX0_makeRing_29 k x1 x2 x3 x4) n s = some t) (hq : (qM r K) t) : gX0_makeRing_29 xs d r K k x1 x2 x3 x4 s := lp_ind (G := gX0_makeRing_29 xs d r K k x1 x2 x3 x4) (Qe := (qM r K)) (fun s t h hq => BX0_makeRing_29 hK hd hk s h hq) n s t h hq
theorem tbX0_makeRing_137a {xs : List Int32} {d : Nat} {r : jR} {K : Mem → List jE} (hK : Ctx shC K) (hd : 0 ≤ d) {k : Nat} (hk : k < 3)  {x1 : Int32} {x2 : Int32} {x3 : Int32} {x4 : Int32} {x6 : Int32} {x7 : Int32} {x11 : Int32} {m : Mem} {L : List (Nat × Value)} (l0 : jget L 0 = some (.ref (cw k 2))) (l1 : jget L 1 = some (.int x1)) (l2 : jget L 2 = some (.int x2)) (l3 : jget L 3 = some (.int x3)) (l4 : jget L 4 = some (.int x4)) (l5 : jget L 5 = some (.ref (jK0 + 2))) (l6 : jget L 6 = some (.int x6)) (l7 : jget L 7 = some (.int x7)) (l11 : jget L 11 = some (.int x11)) {t : ((Int32 × Int32 × Mem) ⊕ Mem)} (h : bX0_makeRing_137a k x1 x2 x3 x4 x6 x7 x11 m = some t) (hq : (sQ (gX0_makeRing_29a xs d r K k x1 x2 x3 x4) (qM r K)) t) : RunD (jcs xs) d 12 (none) jt_X0_makeRing (137, L, [], (K m)) r := by
  unfold bX0_makeRing_137a at h
  refine R_aload_n (p := 138) rfl l0 rfl ?_
  refine R_getR (p := 141) (q := (cw k 8)) hK rfl (s_w2 hk) rfl rfl ?_
  refine R_iload_n (p := 142) rfl l1 rfl ?_
  obtain ⟨b19, h⟩ := gd h
  refine R_aald (p := 143) (q := (cw k (9 + x1.toNatClampNeg))) hK rfl (s_w8 hk) (by decide) b19.1 (l_ring b19.2) rfl ?_
  refine R_iload (p := 145) rfl l6 rfl ?_
  refine R_iload (p := 147) rfl l11 rfl ?_
  obtain ⟨b20, h⟩ := gd h
  refine R_iast (p := 148) hK rfl (s_ring hk b19.2) b20 rfl ?_
  refine R_iinc (p := 151) rfl l6 rfl ki_1 rfl ?_
  refine R_iinc (p := 154) rfl (jg_ne l7 rfl) rfl ki_1 rfl ?_
  refine R_goto rfl ?_
  obtain rfl := Option.some.inj h
  exact hq _ (jg_ne (jg_ne l0 rfl) rfl) (jg_ne (jg_ne l1 rfl) rfl) (jg_ne (jg_ne l2 rfl) rfl) (jg_ne (jg_ne l3 rfl) rfl) (jg_ne (jg_ne l4 rfl) rfl) (jg_ne (jg_ne l5 rfl) rfl) (jg_ne jg_self rfl) jg_self
theorem tbX0_makeRing_107a {xs : List Int32} {d : Nat} {r : jR} {K : Mem → List jE} (hK : Ctx shC K) (hd : 0 ≤ d) {k : Nat} (hk : k < 3)  {x1 : Int32} {x2 : Int32} {x3 : Int32} {x4 : Int32} {x6 : Int32} {x7 : Int32} {y0 : Int32} {m : Mem} {L : List (Nat × Value)} (l0 : jget L 0 = some (.ref (cw k 2))) (l1 : jget L 1 = some (.int x1)) (l2 : jget L 2 = some (.int x2)) (l3 : jget L 3 = some (.int x3)) (l4 : jget L 4 = some (.int x4)) (l5 : jget L 5 = some (.ref (jK0 + 2))) (l6 : jget L 6 = some (.int x6)) (l7 : jget L 7 = some (.int x7)) {t : ((Int32 × Int32 × Mem) ⊕ Mem)} (h : bX0_makeRing_107a k x1 x2 x3 x4 x6 x7 y0 m = some t) (hq : (sQ (gX0_makeRing_29a xs d r K k x1 x2 x3 x4) (qM r K)) t) : RunD (jcs xs) d 12 (none) jt_X0_makeRing (107, L, [.int y0], (K m)) r := by
  unfold bX0_makeRing_107a at h
  refine R_istore (p := 109) rfl rfl rfl ?_
  refine R_iload (p := 111) rfl (jg_ne l6 rfl) rfl ?_
  by_cases hc : x6 = 0
  · replace h := ite_t h hc
    refine R_ifeq_t rfl hc ?_
    exact tbX0_makeRing_137a hK hd hk (jg_ne l0 rfl) (jg_ne l1 rfl) (jg_ne l2 rfl) (jg_ne l3 rfl) (jg_ne l4 rfl) (jg_ne l5 rfl) (jg_ne l6 rfl) (jg_ne l7 rfl) jg_self h hq
  · replace h := ite_f h hc
    refine R_ifeq_f (p := 114) rfl hc rfl ?_
    refine R_iload (p := 116) rfl jg_self rfl ?_
    refine R_bipush (p := 118) rfl kb_16 rfl ?_
    by_cases hc : y0 = (16 : Int32)
    · replace h := ite_t h hc
      refine R_icne_f (p := 121) rfl (fun z => z hc) rfl ?_
      refine R_aload_n (p := 122) rfl (jg_ne l0 rfl) rfl ?_
      refine R_getR (p := 125) (q := (cw k 8)) hK rfl (s_w2 hk) rfl rfl ?_
      refine R_iload_n (p := 126) rfl (jg_ne l1 rfl) rfl ?_
      obtain ⟨b21, h⟩ := gd h
      refine R_aald (p := 127) (q := (cw k (9 + x1.toNatClampNeg))) hK rfl (s_w8 hk) (by decide) b21.1 (l_ring b21.2) rfl ?_
      refine R_iload (p := 129) rfl (jg_ne l6 rfl) rfl ?_
      refine R_iconst (p := 130) rfl ki_1 rfl ?_
      refine R_isub (p := 131) rfl rfl ?_
      obtain ⟨b22, h⟩ := gd h
      refine R_iald (p := 132) hK rfl (s_ring hk b21.2) b22 rfl ?_
      refine R_bipush (p := 134) rfl kb_16 rfl ?_
      by_cases hc : (m (cw k (9 + x1.toNatClampNeg)) (x6 - (1 : Int32)).toNatClampNeg) = (16 : Int32)
      · replace h := ite_t h hc
        refine R_iceq_t rfl hc ?_
        refine R_iinc (p := 154) rfl (jg_ne l7 rfl) rfl ki_1 rfl ?_
        refine R_goto rfl ?_
        obtain rfl := Option.some.inj h
        exact hq _ (jg_ne (jg_ne l0 rfl) rfl) (jg_ne (jg_ne l1 rfl) rfl) (jg_ne (jg_ne l2 rfl) rfl) (jg_ne (jg_ne l3 rfl) rfl) (jg_ne (jg_ne l4 rfl) rfl) (jg_ne (jg_ne l5 rfl) rfl) (jg_ne (jg_ne l6 rfl) rfl) jg_self
      · replace h := ite_f h hc
        refine R_iceq_f (p := 137) rfl hc rfl ?_
        exact tbX0_makeRing_137a hK hd hk (jg_ne l0 rfl) (jg_ne l1 rfl) (jg_ne l2 rfl) (jg_ne l3 rfl) (jg_ne l4 rfl) (jg_ne l5 rfl) (jg_ne l6 rfl) (jg_ne l7 rfl) jg_self h hq
    · replace h := ite_f h hc
      refine R_icne_t rfl hc ?_
      exact tbX0_makeRing_137a hK hd hk (jg_ne l0 rfl) (jg_ne l1 rfl) (jg_ne l2 rfl) (jg_ne l3 rfl) (jg_ne l4 rfl) (jg_ne l5 rfl) (jg_ne l6 rfl) (jg_ne l7 rfl) jg_self h hq
theorem tbX0_makeRing_88a {xs : List Int32} {d : Nat} {r : jR} {K : Mem → List jE} (hK : Ctx shC K) (hd : 0 ≤ d) {k : Nat} (hk : k < 3)  {x1 : Int32} {x2 : Int32} {x3 : Int32} {x4 : Int32} {x6 : Int32} {x7 : Int32} {x8 : Int32} {x9 : Int32} {y0 : Int32} {m : Mem} {L : List (Nat × Value)} (l0 : jget L 0 = some (.ref (cw k 2))) (l1 : jget L 1 = some (.int x1)) (l2 : jget L 2 = some (.int x2)) (l3 : jget L 3 = some (.int x3)) (l4 : jget L 4 = some (.int x4)) (l5 : jget L 5 = some (.ref (jK0 + 2))) (l6 : jget L 6 = some (.int x6)) (l7 : jget L 7 = some (.int x7)) (l8 : jget L 8 = some (.int x8)) (l9 : jget L 9 = some (.int x9)) {t : ((Int32 × Int32 × Mem) ⊕ Mem)} (h : bX0_makeRing_88a k x1 x2 x3 x4 x6 x7 x8 x9 y0 m = some t) (hq : (sQ (gX0_makeRing_29a xs d r K k x1 x2 x3 x4) (qM r K)) t) : RunD (jcs xs) d 12 (none) jt_X0_makeRing (88, L, [.int y0], (K m)) r := by
  unfold bX0_makeRing_88a at h
  refine R_istore (p := 90) rfl rfl rfl ?_
  refine R_iload (p := 92) rfl jg_self rfl ?_
  by_cases hc : y0 = 0
  · replace h := ite_t h hc
    refine R_ifeq_t rfl hc ?_
    refine R_bipush (p := 107) rfl kb_16 rfl ?_
    exact tbX0_makeRing_107a hK hd hk (jg_ne l0 rfl) (jg_ne l1 rfl) (jg_ne l2 rfl) (jg_ne l3 rfl) (jg_ne l4 rfl) (jg_ne l5 rfl) (jg_ne l6 rfl) (jg_ne l7 rfl) h hq
  · replace h := ite_f h hc
    refine R_ifeq_f (p := 95) rfl hc rfl ?_
    refine R_iload (p := 97) rfl (jg_ne l8 rfl) rfl ?_
    refine R_iload_n (p := 98) rfl (jg_ne l2 rfl) rfl ?_
    refine R_imul (p := 99) rfl rfl ?_
    refine R_iload (p := 101) rfl (jg_ne l9 rfl) rfl ?_
    refine R_iadd (p := 102) rfl rfl ?_
    refine R_goto rfl ?_
    exact tbX0_makeRing_107a hK hd hk (jg_ne l0 rfl) (jg_ne l1 rfl) (jg_ne l2 rfl) (jg_ne l3 rfl) (jg_ne l4 rfl) (jg_ne l5 rfl) (jg_ne l6 rfl) (jg_ne l7 rfl) h hq
theorem BX0_makeRing_29a {xs : List Int32} {d : Nat} {r : jR} {K : Mem → List jE} (hK : Ctx shC K) (hd : 0 ≤ d) {k : Nat} (hk : k < 3)  {x1 : Int32} {x2 : Int32} {x3 : Int32} {x4 : Int32} (s : Int32 × Int32 × Mem) {t : (Int32 × Int32 × Mem) ⊕ Mem} (h : lX0_makeRing_29a k x1 x2 x3 x4 s = some t) (hq : sQ (gX0_makeRing_29a xs d r K k x1 x2 x3 x4) (qM r K) t) : gX0_makeRing_29a xs d r K k x1 x2 x3 x4 s := by
  intro L l0 l1 l2 l3 l4 l5 l6 l7
  unfold lX0_makeRing_29a at h
  refine R_iload (p := 31) rfl l7 rfl ?_
  refine R_bipush (p := 33) rfl kb_6 rfl ?_
  by_cases hc : (6 : Int32) ≤ s.2.1
  · replace h := ite_t h hc
    refine R_icge_t rfl hc ?_
    refine R_iload (p := 159) rfl l6 rfl ?_
    refine R_iconst (p := 160) rfl ki_1 rfl ?_
    by_cases hc : s.1 ≤ (1 : Int32)
    · replace h := ite_t h hc
      refine R_icle_t rfl hc ?_
      obtain ⟨w9, h9, rfl⟩ := map_inr h
      replace h := h9
      exact tbX0_makeRing_195 hK hd hk l0 l1 l6 h hq
    · replace h := ite_f h hc
      refine R_icle_f (p := 163) rfl hc rfl ?_
      refine R_aload_n (p := 164) rfl l0 rfl ?_
      refine R_getR (p := 167) (q := (cw k 8)) hK rfl (s_w2 hk) rfl rfl ?_
      refine R_iload_n (p := 168) rfl l1 rfl ?_
      obtain ⟨b13, h⟩ := gd h
      refine R_aald (p := 169) (q := (cw k (9 + x1.toNatClampNeg))) hK rfl (s_w8 hk) (by decide) b13.1 (l_ring b13.2) rfl ?_
      refine R_iconst (p := 170) rfl ki_0 rfl ?_
      refine R_ialk (p := 171) hK rfl (s_ring hk b13.2) (by decide) kn_0 rfl ?_
      refine R_bipush (p := 173) rfl kb_16 rfl ?_
      by_cases hc : (s.2.2 (cw k (9 + x1.toNatClampNeg)) 0) = (16 : Int32)
      · replace h := ite_t h hc
        refine R_icne_f (p := 176) rfl (fun z => z hc) rfl ?_
        refine R_aload_n (p := 177) rfl l0 rfl ?_
        refine R_getR (p := 180) (q := (cw k 8)) hK rfl (s_w2 hk) rfl rfl ?_
        refine R_iload_n (p := 181) rfl l1 rfl ?_
        obtain ⟨b14, h⟩ := gd h
        refine R_aald (p := 182) (q := (cw k (9 + x1.toNatClampNeg))) hK rfl (s_w8 hk) (by decide) b14.1 (l_ring b14.2) rfl ?_
        refine R_iload (p := 184) rfl l6 rfl ?_
        refine R_iconst (p := 185) rfl ki_1 rfl ?_
        refine R_isub (p := 186) rfl rfl ?_
        obtain ⟨b15, h⟩ := gd h
        refine R_iald (p := 187) hK rfl (s_ring hk b14.2) b15 rfl ?_
        refine R_bipush (p := 189) rfl kb_16 rfl ?_
        by_cases hc : (s.2.2 (cw k (9 + x1.toNatClampNeg)) (s.1 - (1 : Int32)).toNatClampNeg) = (16 : Int32)
        · replace h := ite_t h hc
          refine R_icne_f (p := 192) rfl (fun z => z hc) rfl ?_
          refine R_iinc (p := 195) rfl l6 rfl ki_m1 rfl ?_
          obtain ⟨w9, h9, rfl⟩ := map_inr h
          replace h := h9
          exact tbX0_makeRing_195 hK hd hk (jg_ne l0 rfl) (jg_ne l1 rfl) jg_self h hq
        · replace h := ite_f h hc
          refine R_icne_t rfl hc ?_
          obtain ⟨w9, h9, rfl⟩ := map_inr h
          replace h := h9
          exact tbX0_makeRing_195 hK hd hk l0 l1 l6 h hq
      · replace h := ite_f h hc
        refine R_icne_t rfl hc ?_
        obtain ⟨w9, h9, rfl⟩ := map_inr h
        replace h := h9
        exact tbX0_makeRing_195 hK hd hk l0 l1 l6 h hq
  · replace h := ite_f h hc
    refine R_icge_f (p := 36) rfl hc rfl ?_
    refine R_aload_n (p := 37) rfl l0 rfl ?_
    refine R_getR (p := 40) (q := (cw k 6)) hK rfl (s_w2 hk) rfl rfl ?_
    refine R_iload_n (p := 41) rfl l1 rfl ?_
    obtain ⟨b16, h⟩ := gd h
    refine R_iald (p := 42) hK rfl (s_w6 hk) b16 rfl ?_
    refine R_getst (p := 45) rfl rfl ?_
    refine R_iload (p := 47) rfl l7 rfl ?_
    obtain ⟨q17, eq17, h⟩ := bind_some h
    refine R_ialc (p := 48) rfl rfl eq17 rfl ?_
    refine R_iadd (p := 49) rfl rfl ?_
    refine R_istore (p := 51) rfl rfl rfl ?_
    refine R_iload (p := 53) rfl (jg_ne l4 rfl) rfl ?_
    refine R_aload (p := 55) rfl (jg_ne l5 rfl) rfl ?_
    refine R_iload (p := 57) rfl (jg_ne l7 rfl) rfl ?_
    obtain ⟨q18, eq18, h⟩ := bind_some h
    refine R_ialc (p := 58) rfl rfl eq18 rfl ?_
    refine R_iadd (p := 59) rfl rfl ?_
    refine R_istore (p := 61) rfl rfl rfl ?_
    refine R_iload (p := 63) rfl (jg_ne jg_self rfl) rfl ?_
    by_cases hc : ((s.2.2 (cw k 6) x1.toNatClampNeg) + q17) < 0
    · replace h := ite_t h hc
      refine R_iflt_t rfl hc ?_
      refine R_iconst (p := 88) rfl ki_0 rfl ?_
      exact tbX0_makeRing_88a hK hd hk (jg_ne (jg_ne l0 rfl) rfl) (jg_ne (jg_ne l1 rfl) rfl) (jg_ne (jg_ne l2 rfl) rfl) (jg_ne (jg_ne l3 rfl) rfl) (jg_ne (jg_ne l4 rfl) rfl) (jg_ne (jg_ne l5 rfl) rfl) (jg_ne (jg_ne l6 rfl) rfl) (jg_ne (jg_ne l7 rfl) rfl) (jg_ne jg_self rfl) jg_self h hq
    · replace h := ite_f h hc
      refine R_iflt_f (p := 66) rfl hc rfl ?_
      refine R_iload (p := 68) rfl (jg_ne jg_self rfl) rfl ?_
      refine R_iload_n (p := 69) rfl (jg_ne (jg_ne l3 rfl) rfl) rfl ?_
      by_cases hc : x3 ≤ ((s.2.2 (cw k 6) x1.toNatClampNeg) + q17)
      · replace h := ite_t h hc
        refine R_icge_t rfl hc ?_
        refine R_iconst (p := 88) rfl ki_0 rfl ?_
        exact tbX0_makeRing_88a hK hd hk (jg_ne (jg_ne l0 rfl) rfl) (jg_ne (jg_ne l1 rfl) rfl) (jg_ne (jg_ne l2 rfl) rfl) (jg_ne (jg_ne l3 rfl) rfl) (jg_ne (jg_ne l4 rfl) rfl) (jg_ne (jg_ne l5 rfl) rfl) (jg_ne (jg_ne l6 rfl) rfl) (jg_ne (jg_ne l7 rfl) rfl) (jg_ne jg_self rfl) jg_self h hq
      · replace h := ite_f h hc
        refine R_icge_f (p := 72) rfl hc rfl ?_
        refine R_iload (p := 74) rfl jg_self rfl ?_
        by_cases hc : (x4 + q18) < 0
        · replace h := ite_t h hc
          refine R_iflt_t rfl hc ?_
          refine R_iconst (p := 88) rfl ki_0 rfl ?_
          exact tbX0_makeRing_88a hK hd hk (jg_ne (jg_ne l0 rfl) rfl) (jg_ne (jg_ne l1 rfl) rfl) (jg_ne (jg_ne l2 rfl) rfl) (jg_ne (jg_ne l3 rfl) rfl) (jg_ne (jg_ne l4 rfl) rfl) (jg_ne (jg_ne l5 rfl) rfl) (jg_ne (jg_ne l6 rfl) rfl) (jg_ne (jg_ne l7 rfl) rfl) (jg_ne jg_self rfl) jg_self h hq
        · replace h := ite_f h hc
          refine R_iflt_f (p := 77) rfl hc rfl ?_
          refine R_iload (p := 79) rfl jg_self rfl ?_
          refine R_iload_n (p := 80) rfl (jg_ne (jg_ne l2 rfl) rfl) rfl ?_
          by_cases hc : x2 ≤ (x4 + q18)
          · replace h := ite_t h hc
            refine R_icge_t rfl hc ?_
            refine R_iconst (p := 88) rfl ki_0 rfl ?_
            exact tbX0_makeRing_88a hK hd hk (jg_ne (jg_ne l0 rfl) rfl) (jg_ne (jg_ne l1 rfl) rfl) (jg_ne (jg_ne l2 rfl) rfl) (jg_ne (jg_ne l3 rfl) rfl) (jg_ne (jg_ne l4 rfl) rfl) (jg_ne (jg_ne l5 rfl) rfl) (jg_ne (jg_ne l6 rfl) rfl) (jg_ne (jg_ne l7 rfl) rfl) (jg_ne jg_self rfl) jg_self h hq
          · replace h := ite_f h hc
            refine R_icge_f (p := 83) rfl hc rfl ?_
            refine R_iconst (p := 84) rfl ki_1 rfl ?_
            refine R_goto rfl ?_
            exact tbX0_makeRing_88a hK hd hk (jg_ne (jg_ne l0 rfl) rfl) (jg_ne (jg_ne l1 rfl) rfl) (jg_ne (jg_ne l2 rfl) rfl) (jg_ne (jg_ne l3 rfl) rfl) (jg_ne (jg_ne l4 rfl) rfl) (jg_ne (jg_ne l5 rfl) rfl) (jg_ne (jg_ne l6 rfl) rfl) (jg_ne (jg_ne l7 rfl) rfl) (jg_ne jg_self rfl) jg_self h hq
theorem LX0_makeRing_29a {xs : List Int32} {d : Nat} {r : jR} {K : Mem → List jE} (hK : Ctx shC K) (hd : 0 ≤ d) {k : Nat} (hk : k < 3)  {x1 : Int32} {x2 : Int32} {x3 : Int32} {x4 : Int32} (n : Nat) (s : Int32 × Int32 × Mem) {t : Mem} (h : lp (lX0_makeRing_29a k x1 x2 x3 x4) n s = some t) (hq : (qM r K) t) : gX0_makeRing_29a xs d r K k x1 x2 x3 x4 s := lp_ind (G := gX0_makeRing_29a xs d r K k x1 x2 x3 x4) (Qe := (qM r K)) (fun s t h hq => BX0_makeRing_29a hK hd hk s h hq) n s t h hq
theorem ufX0_makeRing {xs : List Int32} {d : Nat} {r : jR} {K : Mem → List jE} (hK : Ctx shC K) (hd : 0 ≤ d) {k : Nat} (hk : k < 3) {x1 : Int32} {x2 : Int32} {x3 : Int32} {x4 : Int32} {m : Mem} {L : List (Nat × Value)} (l0 : jget L 0 = some (.ref (cw k 2))) (l1 : jget L 1 = some (.int x1)) (l2 : jget L 2 = some (.int x2)) (l3 : jget L 3 = some (.int x3)) (l4 : jget L 4 = some (.int x4)) {t : Mem} (h : fX0_makeRing k x1 x2 x3 x4 m = some t) (hq : (qM r K) t) : RunD (jcs xs) d 12 (none) jt_X0_makeRing (0, L, [], (K m)) r := by
  unfold fX0_makeRing at h
  refine R_aload_n (p := 1) rfl l0 rfl ?_
  refine R_getR (p := 4) (q := (cw k 6)) hK rfl (s_w2 hk) rfl rfl ?_
  refine R_iload_n (p := 5) rfl l1 rfl ?_
  obtain ⟨b1, h⟩ := gd h
  refine R_iald (p := 6) hK rfl (s_w6 hk) b1 rfl ?_
  refine R_iconst (p := 7) rfl ki_2 rfl ?_
  refine R_irem (p := 8) rfl (by decide) rfl ?_
  refine R_iconst (p := 9) rfl ki_1 rfl ?_
  by_cases hc : ((m (cw k 6) x1.toNatClampNeg) - (m (cw k 6) x1.toNatClampNeg) / (2 : Int32) * (2 : Int32)) = (1 : Int32)
  · replace h := ite_t h hc
    refine R_icne_f (p := 12) rfl (fun z => z hc) rfl ?_
    refine R_getst (p := 15) rfl rfl ?_
    refine R_goto rfl ?_
    refine R_astore (p := 23) rfl rfl rfl ?_
    refine R_iconst (p := 24) rfl ki_0 rfl ?_
    refine R_istore (p := 26) rfl rfl rfl ?_
    refine R_iconst (p := 27) rfl ki_0 rfl ?_
    refine R_istore (p := 29) rfl rfl rfl ?_
    exact LX0_makeRing_29 hK hd hk _ _ h hq _ (jg_ne (jg_ne (jg_ne l0 rfl) rfl) rfl) (jg_ne (jg_ne (jg_ne l1 rfl) rfl) rfl) (jg_ne (jg_ne (jg_ne l2 rfl) rfl) rfl) (jg_ne (jg_ne (jg_ne l3 rfl) rfl) rfl) (jg_ne (jg_ne (jg_ne l4 rfl) rfl) rfl) (jg_ne (jg_ne jg_self rfl) rfl) (jg_ne jg_self rfl) jg_self
  · replace h := ite_f h hc
    refine R_icne_t rfl hc ?_
    refine R_getst (p := 21) rfl rfl ?_
    refine R_astore (p := 23) rfl rfl rfl ?_
    refine R_iconst (p := 24) rfl ki_0 rfl ?_
    refine R_istore (p := 26) rfl rfl rfl ?_
    refine R_iconst (p := 27) rfl ki_0 rfl ?_
    refine R_istore (p := 29) rfl rfl rfl ?_
    exact LX0_makeRing_29a hK hd hk _ _ h hq _ (jg_ne (jg_ne (jg_ne l0 rfl) rfl) rfl) (jg_ne (jg_ne (jg_ne l1 rfl) rfl) rfl) (jg_ne (jg_ne (jg_ne l2 rfl) rfl) rfl) (jg_ne (jg_ne (jg_ne l3 rfl) rfl) rfl) (jg_ne (jg_ne (jg_ne l4 rfl) rfl) rfl) (jg_ne (jg_ne jg_self rfl) rfl) (jg_ne jg_self rfl) jg_self
theorem tfX0_makeRing {xs : List Int32} {d : Nat} {K : Mem → List jE} (hK : Ctx shC K) (hd : 1 ≤ d) {k : Nat} (hk : k < 3) {x1 : Int32} {x2 : Int32} {x3 : Int32} {x4 : Int32} {m : Mem} {t : Mem} (h : fX0_makeRing k x1 x2 x3 x4 m = some t) : CallD (jcs xs) d 3 [.ref (cw k 2), .int x1, .int x2, .int x3, .int x4] (K m) (none, K t) := by
  obtain ⟨d, rfl⟩ : ∃ z, d = z + 1 := ⟨d - 1, by omega⟩
  refine CallD_of jmt_X0_makeRing rfl ⟨rfl, Nat.le_of_ble_eq_true rfl⟩ ?_
  exact ufX0_makeRing hK (Nat.le_of_succ_le_succ hd) hk rfl rfl rfl rfl rfl h rfl
noncomputable def lX0_make_40 (k : Nat) (x1 : Int32) (x2 : Int32) (x3 : Int32) (x4 : Int32) (s : Int32 × Mem) : Option ((Int32 × Mem) ⊕ ((Int32 × Mem) ⊕ Mem)) := (if x1 ≤ s.1 then some (.inr (.inl ((x4 + (1 : Int32)), s.2))) else (if (16 : Int32) ≤ ((x4 * x1) + s.1) then some (.inl ((s.1 + (1 : Int32)), s.2)) else (if inb ((x4 * x1) + s.1) 16 then (if inb ((x4 * x1) + s.1) 16 then (if inb ((x4 * x1) + s.1) 16 then (if inb ((x4 * x1) + s.1) 16 then (fX0_makeRing k ((x4 * x1) + s.1) x1 x2 s.1 (mput (mput (mput (mput (mput s.2 (cw k 2) 0 ((s.2 (cw k 2) 0) ||| (jShl (1 : Int32) ((x4 * x1) + s.1)))) (cw k 3) ((x4 * x1) + s.1).toNatClampNeg (0 : Int32)) (cw k 4) ((x4 * x1) + s.1).toNatClampNeg x3) (cw k 5) ((x4 * x1) + s.1).toNatClampNeg (0 : Int32)) (cw k 6) ((x4 * x1) + s.1).toNatClampNeg x4)).bind fun q6 => some (.inl ((s.1 + (1 : Int32)), q6)) else none) else none) else none) else none)))
noncomputable def gX0_make_40 (xs : List Int32) (d : Nat) (r : jR) (K : Mem → List jE) (k : Nat) (x1 : Int32) (x2 : Int32) (x3 : Int32) (x4 : Int32) (s : Int32 × Mem) : Prop := ∀ L, jget L 0 = some (.ref (cw k 2)) → jget L 1 = some (.int x1) → jget L 2 = some (.int x2) → jget L 3 = some (.int x3) → jget L 4 = some (.int x4) → jget L 5 = some (.int s.1) → RunD (jcs xs) d 7 (none) jt_X0_make (40, L, [], (K s.2)) r
noncomputable def lX0_make_31 (k : Nat) (x1 : Int32) (x2 : Int32) (x3 : Int32) (s : Int32 × Mem) : Option ((Int32 × Mem) ⊕ Mem) := (if x2 ≤ s.1 then some (.inr s.2) else lp (lX0_make_40 k x1 x2 x3 s.1) fu ((0 : Int32), s.2))
noncomputable def gX0_make_31 (xs : List Int32) (d : Nat) (r : jR) (K : Mem → List jE) (k : Nat) (x1 : Int32) (x2 : Int32) (x3 : Int32) (s : Int32 × Mem) : Prop := ∀ L, jget L 0 = some (.ref (cw k 2)) → jget L 1 = some (.int x1) → jget L 2 = some (.int x2) → jget L 3 = some (.int x3) → jget L 4 = some (.int s.1) → RunD (jcs xs) d 7 (none) jt_X0_make (31, L, [], (K s.2)) r
noncomputable def fX0_make (k : Nat) (x1 : Int32) (x2 : Int32) (x3 : Int32) (m : Mem) : Option Mem := (fJ7_fill_53178_16 (cw k 7) (0 : Int32) (mput (mput (mput (mput m (cw k 2) 0 (0 : Int32)) (cw k 2) 6 (0 : Int32)) (cw k 2) 7 (0 : Int32)) (cw k 2) 8 (0 : Int32))).bind fun q1 => lp (lX0_make_31 k x1 x2 x3) fu ((0 : Int32), q1)
theorem BX0_make_40 {xs : List Int32} {d : Nat} {r : jR} {K : Mem → List jE} (hK : Ctx shC K) (hd : 1 ≤ d) {k : Nat} (hk : k < 3)  {x1 : Int32} {x2 : Int32} {x3 : Int32} {x4 : Int32} (s : Int32 × Mem) {t : (Int32 × Mem) ⊕ ((Int32 × Mem) ⊕ Mem)} (h : lX0_make_40 k x1 x2 x3 x4 s = some t) (hq : sQ (gX0_make_40 xs d r K k x1 x2 x3 x4) (sQ (gX0_make_31 xs d r K k x1 x2 x3) (qM r K)) t) : gX0_make_40 xs d r K k x1 x2 x3 x4 s := by
  intro L l0 l1 l2 l3 l4 l5
  unfold lX0_make_40 at h
  refine R_iload (p := 42) rfl l5 rfl ?_
  refine R_iload_n (p := 43) rfl l1 rfl ?_
  by_cases hc : x1 ≤ s.1
  · replace h := ite_t h hc
    refine R_icge_t rfl hc ?_
    refine R_iinc (p := 127) rfl l4 rfl ki_1 rfl ?_
    refine R_goto rfl ?_
    obtain rfl := Option.some.inj h
    exact hq _ (jg_ne l0 rfl) (jg_ne l1 rfl) (jg_ne l2 rfl) (jg_ne l3 rfl) jg_self
  · replace h := ite_f h hc
    refine R_icge_f (p := 46) rfl hc rfl ?_
    refine R_iload (p := 48) rfl l4 rfl ?_
    refine R_iload_n (p := 49) rfl l1 rfl ?_
    refine R_imul (p := 50) rfl rfl ?_
    refine R_iload (p := 52) rfl l5 rfl ?_
    refine R_iadd (p := 53) rfl rfl ?_
    refine R_istore (p := 55) rfl rfl rfl ?_
    refine R_iload (p := 57) rfl jg_self rfl ?_
    refine R_bipush (p := 59) rfl kb_16 rfl ?_
    by_cases hc : (16 : Int32) ≤ ((x4 * x1) + s.1)
    · replace h := ite_t h hc
      refine R_icge_t rfl hc ?_
      refine R_iinc (p := 121) rfl (jg_ne l5 rfl) rfl ki_1 rfl ?_
      refine R_goto rfl ?_
      obtain rfl := Option.some.inj h
      exact hq _ (jg_ne (jg_ne l0 rfl) rfl) (jg_ne (jg_ne l1 rfl) rfl) (jg_ne (jg_ne l2 rfl) rfl) (jg_ne (jg_ne l3 rfl) rfl) (jg_ne (jg_ne l4 rfl) rfl) jg_self
    · replace h := ite_f h hc
      refine R_icge_f (p := 62) rfl hc rfl ?_
      refine R_aload_n (p := 63) rfl (jg_ne l0 rfl) rfl ?_
      refine R_dupa (p := 64) rfl rfl ?_
      refine R_getI (p := 67) hK rfl (s_w2 hk) rfl rfl ?_
      refine R_iconst (p := 68) rfl ki_1 rfl ?_
      refine R_iload (p := 70) rfl jg_self rfl ?_
      refine R_ishl (p := 71) rfl rfl ?_
      refine R_ior (p := 72) rfl rfl ?_
      refine R_putI (p := 75) hK rfl (s_w2 hk) rfl rfl rfl ?_
      refine R_aload_n (p := 76) rfl (jg_ne l0 rfl) rfl ?_
      refine R_getR (p := 79) (q := (cw k 3)) hK rfl (s_w2 hk) rfl rfl ?_
      refine R_iload (p := 81) rfl jg_self rfl ?_
      refine R_iconst (p := 82) rfl ki_0 rfl ?_
      obtain ⟨b2, h⟩ := gd h
      refine R_iast (p := 83) hK rfl (s_w3 hk) b2 rfl ?_
      refine R_aload_n (p := 84) rfl (jg_ne l0 rfl) rfl ?_
      refine R_getR (p := 87) (q := (cw k 4)) hK rfl (s_w2 hk) rfl rfl ?_
      refine R_iload (p := 89) rfl jg_self rfl ?_
      refine R_iload_n (p := 90) rfl (jg_ne l3 rfl) rfl ?_
      obtain ⟨b3, h⟩ := gd h
      refine R_iast (p := 91) hK rfl (s_w4 hk) b3 rfl ?_
      refine R_aload_n (p := 92) rfl (jg_ne l0 rfl) rfl ?_
      refine R_getR (p := 95) (q := (cw k 5)) hK rfl (s_w2 hk) rfl rfl ?_
      refine R_iload (p := 97) rfl jg_self rfl ?_
      refine R_iconst (p := 98) rfl ki_0 rfl ?_
      obtain ⟨b4, h⟩ := gd h
      refine R_iast (p := 99) hK rfl (s_w5 hk) b4 rfl ?_
      refine R_aload_n (p := 100) rfl (jg_ne l0 rfl) rfl ?_
      refine R_getR (p := 103) (q := (cw k 6)) hK rfl (s_w2 hk) rfl rfl ?_
      refine R_iload (p := 105) rfl jg_self rfl ?_
      refine R_iload (p := 107) rfl (jg_ne l4 rfl) rfl ?_
      obtain ⟨b5, h⟩ := gd h
      refine R_iast (p := 108) hK rfl (s_w6 hk) b5 rfl ?_
      refine R_aload_n (p := 109) rfl (jg_ne l0 rfl) rfl ?_
      refine R_iload (p := 111) rfl jg_self rfl ?_
      refine R_iload_n (p := 112) rfl (jg_ne l1 rfl) rfl ?_
      refine R_iload_n (p := 113) rfl (jg_ne l2 rfl) rfl ?_
      refine R_iload (p := 115) rfl (jg_ne l5 rfl) rfl ?_
      obtain ⟨q6, eq6, h⟩ := bind_some h
      refine R_cV5n (p := 118) hK rfl (s_w2 hk) (tfX0_makeRing hK (Nat.le_trans (by decide) hd) hk eq6) rfl rfl ?_
      refine R_iinc (p := 121) rfl (jg_ne l5 rfl) rfl ki_1 rfl ?_
      refine R_goto rfl ?_
      obtain rfl := Option.some.inj h
      exact hq _ (jg_ne (jg_ne l0 rfl) rfl) (jg_ne (jg_ne l1 rfl) rfl) (jg_ne (jg_ne l2 rfl) rfl) (jg_ne (jg_ne l3 rfl) rfl) (jg_ne (jg_ne l4 rfl) rfl) jg_self
theorem LX0_make_40 {xs : List Int32} {d : Nat} {r : jR} {K : Mem → List jE} (hK : Ctx shC K) (hd : 1 ≤ d) {k : Nat} (hk : k < 3)  {x1 : Int32} {x2 : Int32} {x3 : Int32} {x4 : Int32} (n : Nat) (s : Int32 × Mem) {t : ((Int32 × Mem) ⊕ Mem)} (h : lp (lX0_make_40 k x1 x2 x3 x4) n s = some t) (hq : (sQ (gX0_make_31 xs d r K k x1 x2 x3) (qM r K)) t) : gX0_make_40 xs d r K k x1 x2 x3 x4 s := lp_ind (G := gX0_make_40 xs d r K k x1 x2 x3 x4) (Qe := (sQ (gX0_make_31 xs d r K k x1 x2 x3) (qM r K))) (fun s t h hq => BX0_make_40 hK hd hk s h hq) n s t h hq
theorem BX0_make_31 {xs : List Int32} {d : Nat} {r : jR} {K : Mem → List jE} (hK : Ctx shC K) (hd : 1 ≤ d) {k : Nat} (hk : k < 3)  {x1 : Int32} {x2 : Int32} {x3 : Int32} (s : Int32 × Mem) {t : (Int32 × Mem) ⊕ Mem} (h : lX0_make_31 k x1 x2 x3 s = some t) (hq : sQ (gX0_make_31 xs d r K k x1 x2 x3) (qM r K) t) : gX0_make_31 xs d r K k x1 x2 x3 s := by
  intro L l0 l1 l2 l3 l4
  unfold lX0_make_31 at h
  refine R_iload (p := 33) rfl l4 rfl ?_
  refine R_iload_n (p := 34) rfl l2 rfl ?_
  by_cases hc : x2 ≤ s.1
  · replace h := ite_t h hc
    refine R_icge_t rfl hc ?_
    obtain rfl := Option.some.inj h
    exact R_return rfl rfl hq
  · replace h := ite_f h hc
    refine R_icge_f (p := 37) rfl hc rfl ?_
    refine R_iconst (p := 38) rfl ki_0 rfl ?_
    refine R_istore (p := 40) rfl rfl rfl ?_
    exact LX0_make_40 hK hd hk _ _ h hq _ (jg_ne l0 rfl) (jg_ne l1 rfl) (jg_ne l2 rfl) (jg_ne l3 rfl) (jg_ne l4 rfl) jg_self
theorem LX0_make_31 {xs : List Int32} {d : Nat} {r : jR} {K : Mem → List jE} (hK : Ctx shC K) (hd : 1 ≤ d) {k : Nat} (hk : k < 3)  {x1 : Int32} {x2 : Int32} {x3 : Int32} (n : Nat) (s : Int32 × Mem) {t : Mem} (h : lp (lX0_make_31 k x1 x2 x3) n s = some t) (hq : (qM r K) t) : gX0_make_31 xs d r K k x1 x2 x3 s := lp_ind (G := gX0_make_31 xs d r K k x1 x2 x3) (Qe := (qM r K)) (fun s t h hq => BX0_make_31 hK hd hk s h hq) n s t h hq
theorem ufX0_make {xs : List Int32} {d : Nat} {r : jR} {K : Mem → List jE} (hK : Ctx shC K) (hd : 1 ≤ d) {k : Nat} (hk : k < 3) {x1 : Int32} {x2 : Int32} {x3 : Int32} {m : Mem} {L : List (Nat × Value)} (l0 : jget L 0 = some (.ref (cw k 2))) (l1 : jget L 1 = some (.int x1)) (l2 : jget L 2 = some (.int x2)) (l3 : jget L 3 = some (.int x3)) {t : Mem} (h : fX0_make k x1 x2 x3 m = some t) (hq : (qM r K) t) : RunD (jcs xs) d 7 (none) jt_X0_make (0, L, [], (K m)) r := by
  unfold fX0_make at h
  refine R_aload_n (p := 1) rfl l0 rfl ?_
  refine R_iconst (p := 2) rfl ki_0 rfl ?_
  refine R_putI (p := 5) hK rfl (s_w2 hk) rfl rfl rfl ?_
  refine R_aload_n (p := 6) rfl l0 rfl ?_
  refine R_iconst (p := 7) rfl ki_0 rfl ?_
  refine R_putI (p := 10) hK rfl (s_w2 hk) rfl rfl rfl ?_
  refine R_aload_n (p := 11) rfl l0 rfl ?_
  refine R_iconst (p := 12) rfl ki_0 rfl ?_
  refine R_putI (p := 15) hK rfl (s_w2 hk) rfl rfl rfl ?_
  refine R_aload_n (p := 16) rfl l0 rfl ?_
  refine R_iconst (p := 17) rfl ki_0 rfl ?_
  refine R_putI (p := 20) hK rfl (s_w2 hk) rfl rfl rfl ?_
  refine R_aload_n (p := 21) rfl l0 rfl ?_
  refine R_getR (p := 24) (q := (cw k 7)) hK rfl (s_w2 hk) rfl rfl ?_
  refine R_iconst (p := 25) rfl ki_0 rfl ?_
  obtain ⟨q1, eq1, h⟩ := bind_some h
  refine R_cS2n (p := 28) rfl (tfJ7_fill_53178_16 hK (Nat.le_trans (by decide) hd) (s_w7 hk) eq1) rfl rfl ?_
  refine R_iconst (p := 29) rfl ki_0 rfl ?_
  refine R_istore (p := 31) rfl rfl rfl ?_
  exact LX0_make_31 hK hd hk _ _ h hq _ (jg_ne l0 rfl) (jg_ne l1 rfl) (jg_ne l2 rfl) (jg_ne l3 rfl) jg_self
theorem tfX0_make {xs : List Int32} {d : Nat} {K : Mem → List jE} (hK : Ctx shC K) (hd : 2 ≤ d) {k : Nat} (hk : k < 3) {x1 : Int32} {x2 : Int32} {x3 : Int32} {m : Mem} {t : Mem} (h : fX0_make k x1 x2 x3 m = some t) : CallD (jcs xs) d 2 [.ref (cw k 2), .int x1, .int x2, .int x3] (K m) (none, K t) := by
  obtain ⟨d, rfl⟩ : ∃ z, d = z + 1 := ⟨d - 1, by omega⟩
  refine CallD_of jmt_X0_make rfl ⟨rfl, Nat.le_of_ble_eq_true rfl⟩ ?_
  exact ufX0_make hK (Nat.le_of_succ_le_succ hd) hk rfl rfl rfl rfl h rfl
noncomputable def fX7_startAnew (k : Nat) (x1 : Int32) (x2 : Int32) (x3 : Int32) (m : Mem) : Option Mem := (fX0_make k x1 x2 x3 m).bind fun q1 => some (mput (mput q1 (cw k 1) 10 (0 : Int32)) (cw k 1) 11 (0 : Int32))
theorem ufX7_startAnew {xs : List Int32} {d : Nat} {r : jR} {K : Mem → List jE} (hK : Ctx shC K) (hd : 2 ≤ d) {k : Nat} (hk : k < 3) {x1 : Int32} {x2 : Int32} {x3 : Int32} {m : Mem} {L : List (Nat × Value)} (l0 : jget L 0 = some (.ref (cw k 1))) (l1 : jget L 1 = some (.int x1)) (l2 : jget L 2 = some (.int x2)) (l3 : jget L 3 = some (.int x3)) {t : Mem} (h : fX7_startAnew k x1 x2 x3 m = some t) (hq : (qM r K) t) : RunD (jcs xs) d 4 (none) jt_X7_startAnew (0, L, [], (K m)) r := by
  unfold fX7_startAnew at h
  refine R_aload_n (p := 1) rfl l0 rfl ?_
  refine R_getR (p := 4) (q := (cw k 2)) hK rfl (s_w1 hk) rfl rfl ?_
  refine R_iload_n (p := 5) rfl l1 rfl ?_
  refine R_iload_n (p := 6) rfl l2 rfl ?_
  refine R_iload_n (p := 7) rfl l3 rfl ?_
  obtain ⟨q1, eq1, h⟩ := bind_some h
  refine R_cV4n (p := 10) hK rfl (s_w2 hk) (tfX0_make hK (Nat.le_trans (by decide) hd) hk eq1) rfl rfl ?_
  refine R_aload_n (p := 11) rfl l0 rfl ?_
  refine R_iconst (p := 12) rfl ki_0 rfl ?_
  refine R_putI (p := 15) hK rfl (s_w1 hk) rfl rfl rfl ?_
  refine R_aload_n (p := 16) rfl l0 rfl ?_
  refine R_iconst (p := 17) rfl ki_0 rfl ?_
  refine R_putI (p := 20) hK rfl (s_w1 hk) rfl rfl rfl ?_
  obtain rfl := Option.some.inj h
  exact R_return rfl rfl hq
theorem tfX7_startAnew {xs : List Int32} {d : Nat} {K : Mem → List jE} (hK : Ctx shC K) (hd : 3 ≤ d) {k : Nat} (hk : k < 3) {x1 : Int32} {x2 : Int32} {x3 : Int32} {m : Mem} {t : Mem} (h : fX7_startAnew k x1 x2 x3 m = some t) : CallD (jcs xs) d 82 [.ref (cw k 1), .int x1, .int x2, .int x3] (K m) (none, K t) := by
  obtain ⟨d, rfl⟩ : ∃ z, d = z + 1 := ⟨d - 1, by omega⟩
  refine CallD_of jmt_X7_startAnew rfl ⟨rfl, Nat.le_of_ble_eq_true rfl⟩ ?_
  exact ufX7_startAnew hK (Nat.le_of_succ_le_succ hd) hk rfl rfl rfl rfl h rfl
noncomputable def fJ6_bitCount_0f7a4 (x0 : Int32) : Int32 := ((((((((x0 - ((jUshr x0 (1 : Int32)) &&& (1431655765 : Int32))) &&& (858993459 : Int32)) + ((jUshr (x0 - ((jUshr x0 (1 : Int32)) &&& (1431655765 : Int32))) (2 : Int32)) &&& (858993459 : Int32))) + (jUshr (((x0 - ((jUshr x0 (1 : Int32)) &&& (1431655765 : Int32))) &&& (858993459 : Int32)) + ((jUshr (x0 - ((jUshr x0 (1 : Int32)) &&& (1431655765 : Int32))) (2 : Int32)) &&& (858993459 : Int32))) (4 : Int32))) &&& (252645135 : Int32)) + (jUshr (((((x0 - ((jUshr x0 (1 : Int32)) &&& (1431655765 : Int32))) &&& (858993459 : Int32)) + ((jUshr (x0 - ((jUshr x0 (1 : Int32)) &&& (1431655765 : Int32))) (2 : Int32)) &&& (858993459 : Int32))) + (jUshr (((x0 - ((jUshr x0 (1 : Int32)) &&& (1431655765 : Int32))) &&& (858993459 : Int32)) + ((jUshr (x0 - ((jUshr x0 (1 : Int32)) &&& (1431655765 : Int32))) (2 : Int32)) &&& (858993459 : Int32))) (4 : Int32))) &&& (252645135 : Int32)) (8 : Int32))) + (jUshr ((((((x0 - ((jUshr x0 (1 : Int32)) &&& (1431655765 : Int32))) &&& (858993459 : Int32)) + ((jUshr (x0 - ((jUshr x0 (1 : Int32)) &&& (1431655765 : Int32))) (2 : Int32)) &&& (858993459 : Int32))) + (jUshr (((x0 - ((jUshr x0 (1 : Int32)) &&& (1431655765 : Int32))) &&& (858993459 : Int32)) + ((jUshr (x0 - ((jUshr x0 (1 : Int32)) &&& (1431655765 : Int32))) (2 : Int32)) &&& (858993459 : Int32))) (4 : Int32))) &&& (252645135 : Int32)) + (jUshr (((((x0 - ((jUshr x0 (1 : Int32)) &&& (1431655765 : Int32))) &&& (858993459 : Int32)) + ((jUshr (x0 - ((jUshr x0 (1 : Int32)) &&& (1431655765 : Int32))) (2 : Int32)) &&& (858993459 : Int32))) + (jUshr (((x0 - ((jUshr x0 (1 : Int32)) &&& (1431655765 : Int32))) &&& (858993459 : Int32)) + ((jUshr (x0 - ((jUshr x0 (1 : Int32)) &&& (1431655765 : Int32))) (2 : Int32)) &&& (858993459 : Int32))) (4 : Int32))) &&& (252645135 : Int32)) (8 : Int32))) (16 : Int32))) &&& (63 : Int32))
theorem ufJ6_bitCount_0f7a4 {xs : List Int32} {d : Nat} {r : jR} {hh : List jE} (hd : 0 ≤ d) {x0 : Int32} {L : List (Nat × Value)} (l0 : jget L 0 = some (.int x0)) {t : Int32} (h : fJ6_bitCount_0f7a4 x0 = t) (hq : (qI r hh) t) : RunD (jcs xs) d 1 (some .int) jt_J6_bitCount_0f7a4 (0, L, [], hh) r := by
  unfold fJ6_bitCount_0f7a4 at h
  refine R_iload_n (p := 1) rfl l0 rfl ?_
  refine R_iload_n (p := 2) rfl l0 rfl ?_
  refine R_iconst (p := 3) rfl ki_1 rfl ?_
  refine R_iushr (p := 4) rfl rfl ?_
  refine R_ldc_w (p := 7) rfl kl_1431655765 rfl ?_
  refine R_iand (p := 8) rfl rfl ?_
  refine R_isub (p := 9) rfl rfl ?_
  refine R_istore_n (p := 10) rfl rfl rfl ?_
  refine R_iload_n (p := 11) rfl jg_self rfl ?_
  refine R_ldc_w (p := 14) rfl kl_858993459 rfl ?_
  refine R_iand (p := 15) rfl rfl ?_
  refine R_iload_n (p := 16) rfl jg_self rfl ?_
  refine R_iconst (p := 17) rfl ki_2 rfl ?_
  refine R_iushr (p := 18) rfl rfl ?_
  refine R_ldc_w (p := 21) rfl kl_858993459 rfl ?_
  refine R_iand (p := 22) rfl rfl ?_
  refine R_iadd (p := 23) rfl rfl ?_
  refine R_istore_n (p := 24) rfl rfl rfl ?_
  refine R_iload_n (p := 25) rfl jg_self rfl ?_
  refine R_iload_n (p := 26) rfl jg_self rfl ?_
  refine R_iconst (p := 27) rfl ki_4 rfl ?_
  refine R_iushr (p := 28) rfl rfl ?_
  refine R_iadd (p := 29) rfl rfl ?_
  refine R_ldc_w (p := 32) rfl kl_252645135 rfl ?_
  refine R_iand (p := 33) rfl rfl ?_
  refine R_istore_n (p := 34) rfl rfl rfl ?_
  refine R_iload_n (p := 35) rfl jg_self rfl ?_
  refine R_iload_n (p := 36) rfl jg_self rfl ?_
  refine R_bipush (p := 38) rfl kb_8 rfl ?_
  refine R_iushr (p := 39) rfl rfl ?_
  refine R_iadd (p := 40) rfl rfl ?_
  refine R_istore_n (p := 41) rfl rfl rfl ?_
  refine R_iload_n (p := 42) rfl jg_self rfl ?_
  refine R_iload_n (p := 43) rfl jg_self rfl ?_
  refine R_bipush (p := 45) rfl kb_16 rfl ?_
  refine R_iushr (p := 46) rfl rfl ?_
  refine R_iadd (p := 47) rfl rfl ?_
  refine R_istore_n (p := 48) rfl rfl rfl ?_
  refine R_iload_n (p := 49) rfl jg_self rfl ?_
  refine R_bipush (p := 51) rfl kb_63 rfl ?_
  refine R_iand (p := 52) rfl rfl ?_
  subst h
  exact R_ireturn rfl rfl hq
theorem tfJ6_bitCount_0f7a4 {xs : List Int32} {d : Nat} {hh : List jE} (hd : 1 ≤ d) {x0 : Int32} : CallD (jcs xs) d 256 [.int x0] hh (some (.int (fJ6_bitCount_0f7a4 x0)), hh) := by
  obtain ⟨d, rfl⟩ : ∃ z, d = z + 1 := ⟨d - 1, by omega⟩
  refine CallD_of jmt_J6_bitCount_0f7a4 rfl ⟨rfl, Nat.le_of_ble_eq_true rfl⟩ ?_
  exact ufJ6_bitCount_0f7a4 (Nat.le_of_succ_le_succ hd) rfl rfl rfl
noncomputable def fX0_howMany (k : Nat) (m : Mem) : Int32 := (fJ6_bitCount_0f7a4 (m (cw k 2) 0))
theorem ufX0_howMany {xs : List Int32} {d : Nat} {r : jR} {K : Mem → List jE} (hK : Ctx shC K) (hd : 1 ≤ d) {k : Nat} (hk : k < 3) {m : Mem} {L : List (Nat × Value)} (l0 : jget L 0 = some (.ref (cw k 2))) {t : Int32} (h : fX0_howMany k m = t) (hq : (qI r (K m)) t) : RunD (jcs xs) d 1 (some .int) jt_X0_howMany (0, L, [], (K m)) r := by
  unfold fX0_howMany at h
  refine R_aload_n (p := 1) rfl l0 rfl ?_
  refine R_getI (p := 4) hK rfl (s_w2 hk) rfl rfl ?_
  refine R_cS1v (p := 7) rfl (tfJ6_bitCount_0f7a4 (Nat.le_trans (by decide) hd) ) rfl rfl ?_
  subst h
  exact R_ireturn rfl rfl hq
theorem tfX0_howMany {xs : List Int32} {d : Nat} {K : Mem → List jE} (hK : Ctx shC K) (hd : 2 ≤ d) {k : Nat} (hk : k < 3) {m : Mem} : CallD (jcs xs) d 5 [.ref (cw k 2)] (K m) (some (.int (fX0_howMany k m)), (K m)) := by
  obtain ⟨d, rfl⟩ : ∃ z, d = z + 1 := ⟨d - 1, by omega⟩
  refine CallD_of jmt_X0_howMany rfl ⟨rfl, Nat.le_of_ble_eq_true rfl⟩ ?_
  exact ufX0_howMany hK (Nat.le_of_succ_le_succ hd) hk rfl rfl rfl
noncomputable def bX8_foam_28 (m : Mem) : Option (Int32 × Mem) := (fX8_no (1 : Int32) m).bind fun q2 => some (q2.1, q2.2)
noncomputable def fX8_foam (x1 : Int32) (x2 : Int32) (x3 : Int32) (m : Mem) : Option (Int32 × Mem) := (if (fX8_within x1 (1 : Int32) (4 : Int32)) = 0 then bX8_foam_28 m else (if (fX8_within x2 (1 : Int32) (4 : Int32)) = 0 then bX8_foam_28 m else (if (fX8_within x3 (0 : Int32) (99999 : Int32)) = 0 then bX8_foam_28 m else (fX7_startAnew 0 x1 x2 x3 m).bind fun q5 => some ((fX0_howMany 0 q5), q5))))
theorem tbX8_foam_28 {xs : List Int32} {d : Nat} {r : jR} {K : Mem → List jE} (hK : Ctx shC K) (hd : 3 ≤ d)  {m : Mem} {L : List (Nat × Value)} (l0 : jget L 0 = some (.ref 0)) {t : (Int32 × Mem)} (h : bX8_foam_28 m = some t) (hq : (qIM r K) t) : RunD (jcs xs) d 4 (some .int) jt_X8_foam (28, L, [], (K m)) r := by
  unfold bX8_foam_28 at h
  refine R_aload_n (p := 29) rfl l0 rfl ?_
  refine R_iconst (p := 30) rfl ki_1 rfl ?_
  obtain ⟨q2, eq2, h⟩ := bind_some h
  refine R_cV2v (p := 33) hK rfl rfl (tfX8_no hK (Nat.le_trans (by decide) hd)  eq2) rfl rfl ?_
  obtain rfl := Option.some.inj h
  exact R_ireturn rfl rfl hq
theorem ufX8_foam {xs : List Int32} {d : Nat} {r : jR} {K : Mem → List jE} (hK : Ctx shC K) (hd : 3 ≤ d) {x1 : Int32} {x2 : Int32} {x3 : Int32} {m : Mem} {L : List (Nat × Value)} (l0 : jget L 0 = some (.ref 0)) (l1 : jget L 1 = some (.int x1)) (l2 : jget L 2 = some (.int x2)) (l3 : jget L 3 = some (.int x3)) {t : (Int32 × Mem)} (h : fX8_foam x1 x2 x3 m = some t) (hq : (qIM r K) t) : RunD (jcs xs) d 4 (some .int) jt_X8_foam (0, L, [], (K m)) r := by
  unfold fX8_foam at h
  refine R_iload_n (p := 1) rfl l1 rfl ?_
  refine R_iconst (p := 2) rfl ki_1 rfl ?_
  refine R_iconst (p := 3) rfl ki_4 rfl ?_
  refine R_cS3v (p := 6) rfl (tfX8_within (Nat.le_trans (by decide) hd) ) rfl rfl ?_
  by_cases hc : (fX8_within x1 (1 : Int32) (4 : Int32)) = 0
  · replace h := ite_t h hc
    refine R_ifeq_t rfl hc ?_
    exact tbX8_foam_28 hK hd l0 h hq
  · replace h := ite_f h hc
    refine R_ifeq_f (p := 9) rfl hc rfl ?_
    refine R_iload_n (p := 10) rfl l2 rfl ?_
    refine R_iconst (p := 11) rfl ki_1 rfl ?_
    refine R_iconst (p := 12) rfl ki_4 rfl ?_
    refine R_cS3v (p := 15) rfl (tfX8_within (Nat.le_trans (by decide) hd) ) rfl rfl ?_
    by_cases hc : (fX8_within x2 (1 : Int32) (4 : Int32)) = 0
    · replace h := ite_t h hc
      refine R_ifeq_t rfl hc ?_
      exact tbX8_foam_28 hK hd l0 h hq
    · replace h := ite_f h hc
      refine R_ifeq_f (p := 18) rfl hc rfl ?_
      refine R_iload_n (p := 19) rfl l3 rfl ?_
      refine R_iconst (p := 20) rfl ki_0 rfl ?_
      refine R_ldc (p := 22) rfl kl_99999 rfl ?_
      refine R_cS3v (p := 25) rfl (tfX8_within (Nat.le_trans (by decide) hd) ) rfl rfl ?_
      by_cases hc : (fX8_within x3 (0 : Int32) (99999 : Int32)) = 0
      · replace h := ite_t h hc
        refine R_ifne_f (p := 28) rfl (fun z => z hc) rfl ?_
        exact tbX8_foam_28 hK hd l0 h hq
      · replace h := ite_f h hc
        refine R_ifne_t rfl hc ?_
        refine R_aload_n (p := 35) rfl l0 rfl ?_
        refine R_getR (p := 38) (q := (cw 0 1)) hK rfl rfl rfl rfl ?_
        refine R_iload_n (p := 39) rfl l1 rfl ?_
        refine R_iload_n (p := 40) rfl l2 rfl ?_
        refine R_iload_n (p := 41) rfl l3 rfl ?_
        obtain ⟨q5, eq5, h⟩ := bind_some h
        refine R_cV4n (p := 44) hK rfl (s_w1 (by decide)) (tfX7_startAnew hK (Nat.le_trans (by decide) hd) (by decide) eq5) rfl rfl ?_
        refine R_aload_n (p := 45) rfl l0 rfl ?_
        refine R_getR (p := 48) (q := (cw 0 1)) hK rfl rfl rfl rfl ?_
        refine R_getR (p := 51) (q := (cw 0 2)) hK rfl (s_w1 (by decide)) rfl rfl ?_
        refine R_cV1v (p := 54) hK rfl (s_w2 (by decide)) (tfX0_howMany hK (Nat.le_trans (by decide) hd) (by decide)) rfl rfl ?_
        obtain rfl := Option.some.inj h
        exact R_ireturn rfl rfl hq
theorem tfX8_foam {xs : List Int32} {d : Nat} {K : Mem → List jE} (hK : Ctx shC K) (hd : 4 ≤ d) {x1 : Int32} {x2 : Int32} {x3 : Int32} {m : Mem} {t : (Int32 × Mem)} (h : fX8_foam x1 x2 x3 m = some t) : CallD (jcs xs) d 104 [.ref 0, .int x1, .int x2, .int x3] (K m) (some (.int t.1), K t.2) := by
  obtain ⟨d, rfl⟩ : ∃ z, d = z + 1 := ⟨d - 1, by omega⟩
  refine CallD_of jmt_X8_foam rfl ⟨rfl, Nat.le_of_ble_eq_true rfl⟩ ?_
  exact ufX8_foam hK (Nat.le_of_succ_le_succ hd) rfl rfl rfl rfl h rfl
noncomputable def fX9_within (x0 : Int32) (x1 : Int32) (x2 : Int32) : Int32 := (if x0 < x1 then (0 : Int32) else (if x2 < x0 then (0 : Int32) else (1 : Int32)))
theorem ufX9_within {xs : List Int32} {d : Nat} {r : jR} {hh : List jE} (hd : 0 ≤ d) {x0 : Int32} {x1 : Int32} {x2 : Int32} {L : List (Nat × Value)} (l0 : jget L 0 = some (.int x0)) (l1 : jget L 1 = some (.int x1)) (l2 : jget L 2 = some (.int x2)) {t : Int32} (h : fX9_within x0 x1 x2 = t) (hq : (qI r hh) t) : RunD (jcs xs) d 3 (some .boolean) jt_X9_within (0, L, [], hh) r := by
  unfold fX9_within at h
  refine R_iload_n (p := 1) rfl l0 rfl ?_
  refine R_iload_n (p := 2) rfl l1 rfl ?_
  by_cases hc : x0 < x1
  · replace h := ite_t h hc
    refine R_iclt_t rfl hc ?_
    refine R_iconst (p := 15) rfl ki_0 rfl ?_
    subst h
    exact R_zreturn rfl rfl (by decide) hq
  · replace h := ite_f h hc
    refine R_iclt_f (p := 5) rfl hc rfl ?_
    refine R_iload_n (p := 6) rfl l0 rfl ?_
    refine R_iload_n (p := 7) rfl l2 rfl ?_
    by_cases hc : x2 < x0
    · replace h := ite_t h hc
      refine R_icgt_t rfl hc ?_
      refine R_iconst (p := 15) rfl ki_0 rfl ?_
      subst h
      exact R_zreturn rfl rfl (by decide) hq
    · replace h := ite_f h hc
      refine R_icgt_f (p := 10) rfl hc rfl ?_
      refine R_iconst (p := 11) rfl ki_1 rfl ?_
      refine R_goto rfl ?_
      subst h
      exact R_zreturn rfl rfl (by decide) hq
theorem tfX9_within {xs : List Int32} {d : Nat} {hh : List jE} (hd : 1 ≤ d) {x0 : Int32} {x1 : Int32} {x2 : Int32} : CallD (jcs xs) d 148 [.int x0, .int x1, .int x2] hh (some (.int (fX9_within x0 x1 x2)), hh) := by
  obtain ⟨d, rfl⟩ : ∃ z, d = z + 1 := ⟨d - 1, by omega⟩
  refine CallD_of jmt_X9_within rfl ⟨rfl, Nat.le_of_ble_eq_true rfl⟩ ?_
  exact ufX9_within (Nat.le_of_succ_le_succ hd) rfl rfl rfl rfl rfl
noncomputable def fX9_finding (x1 : Int32) (m : Mem) : Option (Int32 × Mem) := (if inb ((-1000000 : Int32) - x1) 7 then (if inb ((-1000000 : Int32) - x1) 7 then some (x1, (mput m 141 ((-1000000 : Int32) - x1).toNatClampNeg ((m 141 ((-1000000 : Int32) - x1).toNatClampNeg) + (1 : Int32)))) else none) else none)
theorem ufX9_finding {xs : List Int32} {d : Nat} {r : jR} {K : Mem → List jE} (hK : Ctx shR K) (hd : 0 ≤ d) {x1 : Int32} {m : Mem} {L : List (Nat × Value)} (l0 : jget L 0 = some (.ref 137)) (l1 : jget L 1 = some (.int x1)) {t : (Int32 × Mem)} (h : fX9_finding x1 m = some t) (hq : (qIM r K) t) : RunD (jcs xs) d 2 (some .int) jt_X9_finding (0, L, [], (K m)) r := by
  unfold fX9_finding at h
  refine R_aload_n (p := 1) rfl l0 rfl ?_
  refine R_getR (p := 4) (q := 141) hK rfl rfl rfl rfl ?_
  refine R_ldc (p := 6) rfl kl_m1000000 rfl ?_
  refine R_iload_n (p := 7) rfl l1 rfl ?_
  refine R_isub (p := 8) rfl rfl ?_
  refine R_dup2ia (p := 9) rfl rfl ?_
  obtain ⟨b1, h⟩ := gd h
  refine R_iald (p := 10) hK rfl rfl b1 rfl ?_
  refine R_iconst (p := 11) rfl ki_1 rfl ?_
  refine R_iadd (p := 12) rfl rfl ?_
  obtain ⟨b2, h⟩ := gd h
  refine R_iast (p := 13) hK rfl rfl b2 rfl ?_
  refine R_iload_n (p := 14) rfl l1 rfl ?_
  obtain rfl := Option.some.inj h
  exact R_ireturn rfl rfl hq
theorem tfX9_finding {xs : List Int32} {d : Nat} {K : Mem → List jE} (hK : Ctx shR K) (hd : 1 ≤ d) {x1 : Int32} {m : Mem} {t : (Int32 × Mem)} (h : fX9_finding x1 m = some t) : CallD (jcs xs) d 147 [.ref 137, .int x1] (K m) (some (.int t.1), K t.2) := by
  obtain ⟨d, rfl⟩ : ∃ z, d = z + 1 := ⟨d - 1, by omega⟩
  refine CallD_of jmt_X9_finding rfl ⟨rfl, Nat.le_of_ble_eq_true rfl⟩ ?_
  exact ufX9_finding hK (Nat.le_of_succ_le_succ hd) rfl rfl h rfl
noncomputable def fX9_tells (x1 : Int32) (x2 : Int32) (x3 : Int32) (m : Mem) : Option Mem := (if inb (((12 : Int32) + ((50 : Int32) * x1)) + x2) 1082 then some (mput m 138 (((12 : Int32) + ((50 : Int32) * x1)) + x2).toNatClampNeg x3) else none)
theorem ufX9_tells {xs : List Int32} {d : Nat} {r : jR} {K : Mem → List jE} (hK : Ctx shR K) (hd : 0 ≤ d) {x1 : Int32} {x2 : Int32} {x3 : Int32} {m : Mem} {L : List (Nat × Value)} (l0 : jget L 0 = some (.ref 137)) (l1 : jget L 1 = some (.int x1)) (l2 : jget L 2 = some (.int x2)) (l3 : jget L 3 = some (.int x3)) {t : Mem} (h : fX9_tells x1 x2 x3 m = some t) (hq : (qM r K) t) : RunD (jcs xs) d 4 (none) jt_X9_tells (0, L, [], (K m)) r := by
  unfold fX9_tells at h
  refine R_aload_n (p := 1) rfl l0 rfl ?_
  refine R_getR (p := 4) (q := 138) hK rfl rfl rfl rfl ?_
  refine R_bipush (p := 6) rfl kb_12 rfl ?_
  refine R_bipush (p := 8) rfl kb_50 rfl ?_
  refine R_iload_n (p := 9) rfl l1 rfl ?_
  refine R_imul (p := 10) rfl rfl ?_
  refine R_iadd (p := 11) rfl rfl ?_
  refine R_iload_n (p := 12) rfl l2 rfl ?_
  refine R_iadd (p := 13) rfl rfl ?_
  refine R_iload_n (p := 14) rfl l3 rfl ?_
  obtain ⟨b1, h⟩ := gd h
  refine R_iast (p := 15) hK rfl rfl b1 rfl ?_
  obtain rfl := Option.some.inj h
  exact R_return rfl rfl hq
theorem tfX9_tells {xs : List Int32} {d : Nat} {K : Mem → List jE} (hK : Ctx shR K) (hd : 1 ≤ d) {x1 : Int32} {x2 : Int32} {x3 : Int32} {m : Mem} {t : Mem} (h : fX9_tells x1 x2 x3 m = some t) : CallD (jcs xs) d 153 [.ref 137, .int x1, .int x2, .int x3] (K m) (none, K t) := by
  obtain ⟨d, rfl⟩ : ∃ z, d = z + 1 := ⟨d - 1, by omega⟩
  refine CallD_of jmt_X9_tells rfl ⟨rfl, Nat.le_of_ble_eq_true rfl⟩ ?_
  exact ufX9_tells hK (Nat.le_of_succ_le_succ hd) rfl rfl rfl rfl h rfl
noncomputable def fX9_placed (x0 : Int32) (x1 : Int32) (x2 : Int32) (x3 : Int32) : Int32 := (if (fX9_within x2 (0 : Int32) (x1 - (1 : Int32))) = 0 then (16 : Int32) else (if (fX9_within x3 (0 : Int32) (x0 - (1 : Int32))) = 0 then (16 : Int32) else ((x2 * x0) + x3)))
theorem ufX9_placed {xs : List Int32} {d : Nat} {r : jR} {hh : List jE} (hd : 1 ≤ d) {x0 : Int32} {x1 : Int32} {x2 : Int32} {x3 : Int32} {L : List (Nat × Value)} (l0 : jget L 0 = some (.int x0)) (l1 : jget L 1 = some (.int x1)) (l2 : jget L 2 = some (.int x2)) (l3 : jget L 3 = some (.int x3)) {t : Int32} (h : fX9_placed x0 x1 x2 x3 = t) (hq : (qI r hh) t) : RunD (jcs xs) d 4 (some .int) jt_X9_placed (0, L, [], hh) r := by
  unfold fX9_placed at h
  refine R_iload_n (p := 1) rfl l2 rfl ?_
  refine R_iconst (p := 2) rfl ki_0 rfl ?_
  refine R_iload_n (p := 3) rfl l1 rfl ?_
  refine R_iconst (p := 4) rfl ki_1 rfl ?_
  refine R_isub (p := 5) rfl rfl ?_
  refine R_cS3v (p := 8) rfl (tfX9_within (Nat.le_trans (by decide) hd) ) rfl rfl ?_
  by_cases hc : (fX9_within x2 (0 : Int32) (x1 - (1 : Int32))) = 0
  · replace h := ite_t h hc
    refine R_ifeq_t rfl hc ?_
    refine R_bipush (p := 32) rfl kb_16 rfl ?_
    subst h
    exact R_ireturn rfl rfl hq
  · replace h := ite_f h hc
    refine R_ifeq_f (p := 11) rfl hc rfl ?_
    refine R_iload_n (p := 12) rfl l3 rfl ?_
    refine R_iconst (p := 13) rfl ki_0 rfl ?_
    refine R_iload_n (p := 14) rfl l0 rfl ?_
    refine R_iconst (p := 15) rfl ki_1 rfl ?_
    refine R_isub (p := 16) rfl rfl ?_
    refine R_cS3v (p := 19) rfl (tfX9_within (Nat.le_trans (by decide) hd) ) rfl rfl ?_
    by_cases hc : (fX9_within x3 (0 : Int32) (x0 - (1 : Int32))) = 0
    · replace h := ite_t h hc
      refine R_ifeq_t rfl hc ?_
      refine R_bipush (p := 32) rfl kb_16 rfl ?_
      subst h
      exact R_ireturn rfl rfl hq
    · replace h := ite_f h hc
      refine R_ifeq_f (p := 22) rfl hc rfl ?_
      refine R_iload_n (p := 23) rfl l2 rfl ?_
      refine R_iload_n (p := 24) rfl l0 rfl ?_
      refine R_imul (p := 25) rfl rfl ?_
      refine R_iload_n (p := 26) rfl l3 rfl ?_
      refine R_iadd (p := 27) rfl rfl ?_
      refine R_goto rfl ?_
      subst h
      exact R_ireturn rfl rfl hq
theorem tfX9_placed {xs : List Int32} {d : Nat} {hh : List jE} (hd : 2 ≤ d) {x0 : Int32} {x1 : Int32} {x2 : Int32} {x3 : Int32} : CallD (jcs xs) d 162 [.int x0, .int x1, .int x2, .int x3] hh (some (.int (fX9_placed x0 x1 x2 x3)), hh) := by
  obtain ⟨d, rfl⟩ : ∃ z, d = z + 1 := ⟨d - 1, by omega⟩
  refine CallD_of jmt_X9_placed rfl ⟨rfl, Nat.le_of_ble_eq_true rfl⟩ ?_
  exact ufX9_placed (Nat.le_of_succ_le_succ hd) rfl rfl rfl rfl rfl rfl
noncomputable def fX9_of (x1 : Int32) (x2 : Int32) (m : Mem) : Option Int32 := (if inb (((12 : Int32) + ((50 : Int32) * x1)) + x2) 1082 then some (m 138 (((12 : Int32) + ((50 : Int32) * x1)) + x2).toNatClampNeg) else none)
theorem ufX9_of {xs : List Int32} {d : Nat} {r : jR} {K : Mem → List jE} (hK : Ctx shR K) (hd : 0 ≤ d) {x1 : Int32} {x2 : Int32} {m : Mem} {L : List (Nat × Value)} (l0 : jget L 0 = some (.ref 137)) (l1 : jget L 1 = some (.int x1)) (l2 : jget L 2 = some (.int x2)) {t : Int32} (h : fX9_of x1 x2 m = some t) (hq : (qI r (K m)) t) : RunD (jcs xs) d 3 (some .int) jt_X9_of (0, L, [], (K m)) r := by
  unfold fX9_of at h
  refine R_aload_n (p := 1) rfl l0 rfl ?_
  refine R_getR (p := 4) (q := 138) hK rfl rfl rfl rfl ?_
  refine R_bipush (p := 6) rfl kb_12 rfl ?_
  refine R_bipush (p := 8) rfl kb_50 rfl ?_
  refine R_iload_n (p := 9) rfl l1 rfl ?_
  refine R_imul (p := 10) rfl rfl ?_
  refine R_iadd (p := 11) rfl rfl ?_
  refine R_iload_n (p := 12) rfl l2 rfl ?_
  refine R_iadd (p := 13) rfl rfl ?_
  obtain ⟨b1, h⟩ := gd h
  refine R_iald (p := 14) hK rfl rfl b1 rfl ?_
  obtain rfl := Option.some.inj h
  exact R_ireturn rfl rfl hq
theorem tfX9_of {xs : List Int32} {d : Nat} {K : Mem → List jE} (hK : Ctx shR K) (hd : 1 ≤ d) {x1 : Int32} {x2 : Int32} {m : Mem} {t : Int32} (h : fX9_of x1 x2 m = some t) : CallD (jcs xs) d 152 [.ref 137, .int x1, .int x2] (K m) (some (.int t), (K m)) := by
  obtain ⟨d, rfl⟩ : ∃ z, d = z + 1 := ⟨d - 1, by omega⟩
  refine CallD_of jmt_X9_of rfl ⟨rfl, Nat.le_of_ble_eq_true rfl⟩ ?_
  exact ufX9_of hK (Nat.le_of_succ_le_succ hd) rfl rfl rfl h rfl
noncomputable def fX9_sidesOf (x1 : Int32) (m : Mem) : Option Int32 := (fX9_of x1 (5 : Int32) m).bind fun q1 => some q1
theorem ufX9_sidesOf {xs : List Int32} {d : Nat} {r : jR} {K : Mem → List jE} (hK : Ctx shR K) (hd : 1 ≤ d) {x1 : Int32} {m : Mem} {L : List (Nat × Value)} (l0 : jget L 0 = some (.ref 137)) (l1 : jget L 1 = some (.int x1)) {t : Int32} (h : fX9_sidesOf x1 m = some t) (hq : (qI r (K m)) t) : RunD (jcs xs) d 2 (some .int) jt_X9_sidesOf (0, L, [], (K m)) r := by
  unfold fX9_sidesOf at h
  refine R_aload_n (p := 1) rfl l0 rfl ?_
  refine R_iload_n (p := 2) rfl l1 rfl ?_
  refine R_iconst (p := 3) rfl ki_5 rfl ?_
  obtain ⟨q1, eq1, h⟩ := bind_some h
  refine R_cV3v (p := 6) hK rfl rfl (tfX9_of hK (Nat.le_trans (by decide) hd)  eq1) rfl rfl ?_
  obtain rfl := Option.some.inj h
  exact R_ireturn rfl rfl hq
theorem tfX9_sidesOf {xs : List Int32} {d : Nat} {K : Mem → List jE} (hK : Ctx shR K) (hd : 2 ≤ d) {x1 : Int32} {m : Mem} {t : Int32} (h : fX9_sidesOf x1 m = some t) : CallD (jcs xs) d 155 [.ref 137, .int x1] (K m) (some (.int t), (K m)) := by
  obtain ⟨d, rfl⟩ : ∃ z, d = z + 1 := ⟨d - 1, by omega⟩
  refine CallD_of jmt_X9_sidesOf rfl ⟨rfl, Nat.le_of_ble_eq_true rfl⟩ ?_
  exact ufX9_sidesOf hK (Nat.le_of_succ_le_succ hd) rfl rfl h rfl
noncomputable def bX9_grows_32 (x1 : Int32) (x2 : Int32) (x3 : Int32) (m : Mem) : Option Mem := (fX9_tells x1 ((6 : Int32) + x3) x2 m).bind fun q2 => (fX9_tells x1 (5 : Int32) (x3 + (1 : Int32)) q2).bind fun q3 => some q3
noncomputable def fX9_grows (x1 : Int32) (x2 : Int32) (m : Mem) : Option Mem := (fX9_sidesOf x1 m).bind fun q1 => (if q1 = 0 then bX9_grows_32 x1 x2 q1 m else (if x2 = (16 : Int32) then (fX9_of x1 (((6 : Int32) + q1) - (1 : Int32)) m).bind fun q4 => (if q4 = (16 : Int32) then some m else bX9_grows_32 x1 x2 q1 m) else bX9_grows_32 x1 x2 q1 m))
theorem tbX9_grows_32 {xs : List Int32} {d : Nat} {r : jR} {K : Mem → List jE} (hK : Ctx shR K) (hd : 2 ≤ d)  {x1 : Int32} {x2 : Int32} {x3 : Int32} {m : Mem} {L : List (Nat × Value)} (l0 : jget L 0 = some (.ref 137)) (l1 : jget L 1 = some (.int x1)) (l2 : jget L 2 = some (.int x2)) (l3 : jget L 3 = some (.int x3)) {t : Mem} (h : bX9_grows_32 x1 x2 x3 m = some t) (hq : (qM r K) t) : RunD (jcs xs) d 4 (none) jt_X9_grows (32, L, [], (K m)) r := by
  unfold bX9_grows_32 at h
  refine R_aload_n (p := 33) rfl l0 rfl ?_
  refine R_iload_n (p := 34) rfl l1 rfl ?_
  refine R_bipush (p := 36) rfl kb_6 rfl ?_
  refine R_iload_n (p := 37) rfl l3 rfl ?_
  refine R_iadd (p := 38) rfl rfl ?_
  refine R_iload_n (p := 39) rfl l2 rfl ?_
  obtain ⟨q2, eq2, h⟩ := bind_some h
  refine R_cV4n (p := 42) hK rfl rfl (tfX9_tells hK (Nat.le_trans (by decide) hd)  eq2) rfl rfl ?_
  refine R_aload_n (p := 43) rfl l0 rfl ?_
  refine R_iload_n (p := 44) rfl l1 rfl ?_
  refine R_iconst (p := 45) rfl ki_5 rfl ?_
  refine R_iload_n (p := 46) rfl l3 rfl ?_
  refine R_iconst (p := 47) rfl ki_1 rfl ?_
  refine R_iadd (p := 48) rfl rfl ?_
  obtain ⟨q3, eq3, h⟩ := bind_some h
  refine R_cV4n (p := 51) hK rfl rfl (tfX9_tells hK (Nat.le_trans (by decide) hd)  eq3) rfl rfl ?_
  obtain rfl := Option.some.inj h
  exact R_return rfl rfl hq
theorem ufX9_grows {xs : List Int32} {d : Nat} {r : jR} {K : Mem → List jE} (hK : Ctx shR K) (hd : 2 ≤ d) {x1 : Int32} {x2 : Int32} {m : Mem} {L : List (Nat × Value)} (l0 : jget L 0 = some (.ref 137)) (l1 : jget L 1 = some (.int x1)) (l2 : jget L 2 = some (.int x2)) {t : Mem} (h : fX9_grows x1 x2 m = some t) (hq : (qM r K) t) : RunD (jcs xs) d 4 (none) jt_X9_grows (0, L, [], (K m)) r := by
  unfold fX9_grows at h
  refine R_aload_n (p := 1) rfl l0 rfl ?_
  refine R_iload_n (p := 2) rfl l1 rfl ?_
  obtain ⟨q1, eq1, h⟩ := bind_some h
  refine R_cV2v (p := 5) hK rfl rfl (tfX9_sidesOf hK (Nat.le_trans (by decide) hd)  eq1) rfl rfl ?_
  refine R_istore_n (p := 6) rfl rfl rfl ?_
  refine R_iload_n (p := 7) rfl jg_self rfl ?_
  by_cases hc : q1 = 0
  · replace h := ite_t h hc
    refine R_ifeq_t rfl hc ?_
    exact tbX9_grows_32 hK hd (jg_ne l0 rfl) (jg_ne l1 rfl) (jg_ne l2 rfl) jg_self h hq
  · replace h := ite_f h hc
    refine R_ifeq_f (p := 10) rfl hc rfl ?_
    refine R_iload_n (p := 11) rfl (jg_ne l2 rfl) rfl ?_
    refine R_bipush (p := 13) rfl kb_16 rfl ?_
    by_cases hc : x2 = (16 : Int32)
    · replace h := ite_t h hc
      refine R_icne_f (p := 16) rfl (fun z => z hc) rfl ?_
      refine R_aload_n (p := 17) rfl (jg_ne l0 rfl) rfl ?_
      refine R_iload_n (p := 18) rfl (jg_ne l1 rfl) rfl ?_
      refine R_bipush (p := 20) rfl kb_6 rfl ?_
      refine R_iload_n (p := 21) rfl jg_self rfl ?_
      refine R_iadd (p := 22) rfl rfl ?_
      refine R_iconst (p := 23) rfl ki_1 rfl ?_
      refine R_isub (p := 24) rfl rfl ?_
      obtain ⟨q4, eq4, h⟩ := bind_some h
      refine R_cV3v (p := 27) hK rfl rfl (tfX9_of hK (Nat.le_trans (by decide) hd)  eq4) rfl rfl ?_
      refine R_bipush (p := 29) rfl kb_16 rfl ?_
      by_cases hc : q4 = (16 : Int32)
      · replace h := ite_t h hc
        refine R_iceq_t rfl hc ?_
        obtain rfl := Option.some.inj h
        exact R_return rfl rfl hq
      · replace h := ite_f h hc
        refine R_iceq_f (p := 32) rfl hc rfl ?_
        exact tbX9_grows_32 hK hd (jg_ne l0 rfl) (jg_ne l1 rfl) (jg_ne l2 rfl) jg_self h hq
    · replace h := ite_f h hc
      refine R_icne_t rfl hc ?_
      exact tbX9_grows_32 hK hd (jg_ne l0 rfl) (jg_ne l1 rfl) (jg_ne l2 rfl) jg_self h hq
theorem tfX9_grows {xs : List Int32} {d : Nat} {K : Mem → List jE} (hK : Ctx shR K) (hd : 3 ≤ d) {x1 : Int32} {x2 : Int32} {m : Mem} {t : Mem} (h : fX9_grows x1 x2 m = some t) : CallD (jcs xs) d 160 [.ref 137, .int x1, .int x2] (K m) (none, K t) := by
  obtain ⟨d, rfl⟩ : ∃ z, d = z + 1 := ⟨d - 1, by omega⟩
  refine CallD_of jmt_X9_grows rfl ⟨rfl, Nat.le_of_ble_eq_true rfl⟩ ?_
  exact ufX9_grows hK (Nat.le_of_succ_le_succ hd) rfl rfl rfl h rfl
noncomputable def bX9_foam_28 (m : Mem) : Option (Int32 × Mem) := (fX9_finding (-1000001 : Int32) m).bind fun q2 => some (q2.1, q2.2)
noncomputable def bX9_foam_137 (x1 : Int32) (x2 : Int32) (x3 : Int32) (x4 : Int32) (x5 : Int32) (x6 : Int32) (y0 : Int32) (m : Mem) : Option ((Int32 × Mem) ⊕ ((Int32 × Mem) ⊕ (Int32 × Mem))) := (fX9_tells x6 (0 : Int32) (1 : Int32) m).bind fun q5 => (fX9_tells x6 (2 : Int32) x3 q5).bind fun q6 => (fX9_tells x6 (4 : Int32) x4 q6).bind fun q7 => (fX9_grows x6 (fX9_placed x1 x2 x4 (x5 + (1 : Int32))) q7).bind fun q9 => (fX9_grows x6 (fX9_placed x1 x2 (x4 + (1 : Int32)) y0) q9).bind fun q11 => (fX9_grows x6 (fX9_placed x1 x2 (x4 + (1 : Int32)) (y0 - (1 : Int32))) q11).bind fun q13 => (fX9_grows x6 (fX9_placed x1 x2 x4 (x5 - (1 : Int32))) q13).bind fun q15 => (fX9_grows x6 (fX9_placed x1 x2 (x4 - (1 : Int32)) (y0 - (1 : Int32))) q15).bind fun q17 => (fX9_grows x6 (fX9_placed x1 x2 (x4 - (1 : Int32)) y0) q17).bind fun q19 => (fX9_sidesOf x6 q19).bind fun q20 => (if q20 ≤ (1 : Int32) then some (.inl ((x5 + (1 : Int32)), q19)) else (fX9_of x6 (6 : Int32) q19).bind fun q21 => (if q21 = (16 : Int32) then (fX9_of x6 (((6 : Int32) + q20) - (1 : Int32)) q19).bind fun q22 => (if q22 = (16 : Int32) then (fX9_tells x6 (5 : Int32) (q20 - (1 : Int32)) q19).bind fun q23 => some (.inl ((x5 + (1 : Int32)), q23)) else some (.inl ((x5 + (1 : Int32)), q19))) else some (.inl ((x5 + (1 : Int32)), q19))))
noncomputable def lX9_foam_105 (x1 : Int32) (x2 : Int32) (x3 : Int32) (x4 : Int32) (s : Int32 × Mem) : Option ((Int32 × Mem) ⊕ ((Int32 × Mem) ⊕ (Int32 × Mem))) := (if x1 ≤ s.1 then some (.inr (.inl ((x4 + (1 : Int32)), s.2))) else (if (x4 - x4 / (2 : Int32) * (2 : Int32)) = (1 : Int32) then bX9_foam_137 x1 x2 x3 x4 s.1 ((x4 * x1) + s.1) (s.1 + (1 : Int32)) s.2 else bX9_foam_137 x1 x2 x3 x4 s.1 ((x4 * x1) + s.1) s.1 s.2))
noncomputable def gX9_foam_105 (xs : List Int32) (d : Nat) (r : jR) (K : Mem → List jE) (x1 : Int32) (x2 : Int32) (x3 : Int32) (x4 : Int32) (s : Int32 × Mem) : Prop := ∀ L, jget L 0 = some (.ref 137) → jget L 1 = some (.int x1) → jget L 2 = some (.int x2) → jget L 3 = some (.int x3) → jget L 4 = some (.int x4) → jget L 5 = some (.int s.1) → RunD (jcs xs) d 9 (some .int) jt_X9_foam (105, L, [], (K s.2)) r
noncomputable def lX9_foam_96 (x1 : Int32) (x2 : Int32) (x3 : Int32) (s : Int32 × Mem) : Option ((Int32 × Mem) ⊕ (Int32 × Mem)) := (if x2 ≤ s.1 then some (.inr ((x1 * x2), s.2)) else lp (lX9_foam_105 x1 x2 x3 s.1) fu ((0 : Int32), s.2))
noncomputable def gX9_foam_96 (xs : List Int32) (d : Nat) (r : jR) (K : Mem → List jE) (x1 : Int32) (x2 : Int32) (x3 : Int32) (s : Int32 × Mem) : Prop := ∀ L, jget L 0 = some (.ref 137) → jget L 1 = some (.int x1) → jget L 2 = some (.int x2) → jget L 3 = some (.int x3) → jget L 4 = some (.int s.1) → RunD (jcs xs) d 9 (some .int) jt_X9_foam (96, L, [], (K s.2)) r
noncomputable def lX9_foam_72 (x1 : Int32) (x2 : Int32) (x3 : Int32) (s : Int32 × Mem) : Option ((Int32 × Mem) ⊕ (Int32 × Mem)) := (if (10 : Int32) < s.1 then (lp (lX9_foam_96 x1 x2 x3) fu ((0 : Int32), s.2)).map Sum.inr else (if inb s.1 1082 then some (.inl ((s.1 + (1 : Int32)), (mput s.2 138 s.1.toNatClampNeg (0 : Int32)))) else none))
noncomputable def gX9_foam_72 (xs : List Int32) (d : Nat) (r : jR) (K : Mem → List jE) (x1 : Int32) (x2 : Int32) (x3 : Int32) (s : Int32 × Mem) : Prop := ∀ L, jget L 0 = some (.ref 137) → jget L 1 = some (.int x1) → jget L 2 = some (.int x2) → jget L 3 = some (.int x3) → jget L 4 = some (.int s.1) → RunD (jcs xs) d 9 (some .int) jt_X9_foam (72, L, [], (K s.2)) r
noncomputable def lX9_foam_39 (x1 : Int32) (x2 : Int32) (x3 : Int32) (s : Int32 × Mem) : Option ((Int32 × Mem) ⊕ (Int32 × Mem)) := (if (812 : Int32) ≤ s.1 then (lp (lX9_foam_72 x1 x2 x3) fu ((7 : Int32), (mput s.2 138 0 (0 : Int32)))).map Sum.inr else (if inb s.1 1082 then some (.inl ((s.1 + (1 : Int32)), (mput s.2 138 s.1.toNatClampNeg (0 : Int32)))) else none))
noncomputable def gX9_foam_39 (xs : List Int32) (d : Nat) (r : jR) (K : Mem → List jE) (x1 : Int32) (x2 : Int32) (x3 : Int32) (s : Int32 × Mem) : Prop := ∀ L, jget L 0 = some (.ref 137) → jget L 1 = some (.int x1) → jget L 2 = some (.int x2) → jget L 3 = some (.int x3) → jget L 4 = some (.int s.1) → RunD (jcs xs) d 9 (some .int) jt_X9_foam (39, L, [], (K s.2)) r
noncomputable def fX9_foam (x1 : Int32) (x2 : Int32) (x3 : Int32) (m : Mem) : Option (Int32 × Mem) := (if (fX9_within x1 (1 : Int32) (4 : Int32)) = 0 then bX9_foam_28 m else (if (fX9_within x2 (1 : Int32) (4 : Int32)) = 0 then bX9_foam_28 m else (if (fX9_within x3 (0 : Int32) (99999 : Int32)) = 0 then bX9_foam_28 m else lp (lX9_foam_39 x1 x2 x3) fu ((12 : Int32), m))))
theorem tbX9_foam_28 {xs : List Int32} {d : Nat} {r : jR} {K : Mem → List jE} (hK : Ctx shR K) (hd : 3 ≤ d)  {m : Mem} {L : List (Nat × Value)} (l0 : jget L 0 = some (.ref 137)) {t : (Int32 × Mem)} (h : bX9_foam_28 m = some t) (hq : (qIM r K) t) : RunD (jcs xs) d 9 (some .int) jt_X9_foam (28, L, [], (K m)) r := by
  unfold bX9_foam_28 at h
  refine R_aload_n (p := 29) rfl l0 rfl ?_
  refine R_ldc (p := 31) rfl kl_m1000001 rfl ?_
  obtain ⟨q2, eq2, h⟩ := bind_some h
  refine R_cV2v (p := 34) hK rfl rfl (tfX9_finding hK (Nat.le_trans (by decide) hd)  eq2) rfl rfl ?_
  obtain rfl := Option.some.inj h
  exact R_ireturn rfl rfl hq
theorem tbX9_foam_137 {xs : List Int32} {d : Nat} {r : jR} {K : Mem → List jE} (hK : Ctx shR K) (hd : 3 ≤ d)  {x1 : Int32} {x2 : Int32} {x3 : Int32} {x4 : Int32} {x5 : Int32} {x6 : Int32} {y0 : Int32} {m : Mem} {L : List (Nat × Value)} (l0 : jget L 0 = some (.ref 137)) (l1 : jget L 1 = some (.int x1)) (l2 : jget L 2 = some (.int x2)) (l3 : jget L 3 = some (.int x3)) (l4 : jget L 4 = some (.int x4)) (l5 : jget L 5 = some (.int x5)) (l6 : jget L 6 = some (.int x6)) {t : ((Int32 × Mem) ⊕ ((Int32 × Mem) ⊕ (Int32 × Mem)))} (h : bX9_foam_137 x1 x2 x3 x4 x5 x6 y0 m = some t) (hq : (sQ (gX9_foam_105 xs d r K x1 x2 x3 x4) (sQ (gX9_foam_96 xs d r K x1 x2 x3) (qIM r K))) t) : RunD (jcs xs) d 9 (some .int) jt_X9_foam (137, L, [.int y0], (K m)) r := by
  unfold bX9_foam_137 at h
  refine R_istore (p := 139) rfl rfl rfl ?_
  refine R_aload_n (p := 140) rfl (jg_ne l0 rfl) rfl ?_
  refine R_iload (p := 142) rfl (jg_ne l6 rfl) rfl ?_
  refine R_iconst (p := 143) rfl ki_0 rfl ?_
  refine R_iconst (p := 144) rfl ki_1 rfl ?_
  obtain ⟨q5, eq5, h⟩ := bind_some h
  refine R_cV4n (p := 147) hK rfl rfl (tfX9_tells hK (Nat.le_trans (by decide) hd)  eq5) rfl rfl ?_
  refine R_aload_n (p := 148) rfl (jg_ne l0 rfl) rfl ?_
  refine R_iload (p := 150) rfl (jg_ne l6 rfl) rfl ?_
  refine R_iconst (p := 151) rfl ki_2 rfl ?_
  refine R_iload_n (p := 152) rfl (jg_ne l3 rfl) rfl ?_
  obtain ⟨q6, eq6, h⟩ := bind_some h
  refine R_cV4n (p := 155) hK rfl rfl (tfX9_tells hK (Nat.le_trans (by decide) hd)  eq6) rfl rfl ?_
  refine R_aload_n (p := 156) rfl (jg_ne l0 rfl) rfl ?_
  refine R_iload (p := 158) rfl (jg_ne l6 rfl) rfl ?_
  refine R_iconst (p := 159) rfl ki_4 rfl ?_
  refine R_iload (p := 161) rfl (jg_ne l4 rfl) rfl ?_
  obtain ⟨q7, eq7, h⟩ := bind_some h
  refine R_cV4n (p := 164) hK rfl rfl (tfX9_tells hK (Nat.le_trans (by decide) hd)  eq7) rfl rfl ?_
  refine R_aload_n (p := 165) rfl (jg_ne l0 rfl) rfl ?_
  refine R_iload (p := 167) rfl (jg_ne l6 rfl) rfl ?_
  refine R_iload_n (p := 168) rfl (jg_ne l1 rfl) rfl ?_
  refine R_iload_n (p := 169) rfl (jg_ne l2 rfl) rfl ?_
  refine R_iload (p := 171) rfl (jg_ne l4 rfl) rfl ?_
  refine R_iload (p := 173) rfl (jg_ne l5 rfl) rfl ?_
  refine R_iconst (p := 174) rfl ki_1 rfl ?_
  refine R_iadd (p := 175) rfl rfl ?_
  refine R_cS4v (p := 178) rfl (tfX9_placed (Nat.le_trans (by decide) hd) ) rfl rfl ?_
  obtain ⟨q9, eq9, h⟩ := bind_some h
  refine R_cV3n (p := 181) hK rfl rfl (tfX9_grows hK (Nat.le_trans (by decide) hd)  eq9) rfl rfl ?_
  refine R_aload_n (p := 182) rfl (jg_ne l0 rfl) rfl ?_
  refine R_iload (p := 184) rfl (jg_ne l6 rfl) rfl ?_
  refine R_iload_n (p := 185) rfl (jg_ne l1 rfl) rfl ?_
  refine R_iload_n (p := 186) rfl (jg_ne l2 rfl) rfl ?_
  refine R_iload (p := 188) rfl (jg_ne l4 rfl) rfl ?_
  refine R_iconst (p := 189) rfl ki_1 rfl ?_
  refine R_iadd (p := 190) rfl rfl ?_
  refine R_iload (p := 192) rfl jg_self rfl ?_
  refine R_cS4v (p := 195) rfl (tfX9_placed (Nat.le_trans (by decide) hd) ) rfl rfl ?_
  obtain ⟨q11, eq11, h⟩ := bind_some h
  refine R_cV3n (p := 198) hK rfl rfl (tfX9_grows hK (Nat.le_trans (by decide) hd)  eq11) rfl rfl ?_
  refine R_aload_n (p := 199) rfl (jg_ne l0 rfl) rfl ?_
  refine R_iload (p := 201) rfl (jg_ne l6 rfl) rfl ?_
  refine R_iload_n (p := 202) rfl (jg_ne l1 rfl) rfl ?_
  refine R_iload_n (p := 203) rfl (jg_ne l2 rfl) rfl ?_
  refine R_iload (p := 205) rfl (jg_ne l4 rfl) rfl ?_
  refine R_iconst (p := 206) rfl ki_1 rfl ?_
  refine R_iadd (p := 207) rfl rfl ?_
  refine R_iload (p := 209) rfl jg_self rfl ?_
  refine R_iconst (p := 210) rfl ki_1 rfl ?_
  refine R_isub (p := 211) rfl rfl ?_
  refine R_cS4v (p := 214) rfl (tfX9_placed (Nat.le_trans (by decide) hd) ) rfl rfl ?_
  obtain ⟨q13, eq13, h⟩ := bind_some h
  refine R_cV3n (p := 217) hK rfl rfl (tfX9_grows hK (Nat.le_trans (by decide) hd)  eq13) rfl rfl ?_
  refine R_aload_n (p := 218) rfl (jg_ne l0 rfl) rfl ?_
  refine R_iload (p := 220) rfl (jg_ne l6 rfl) rfl ?_
  refine R_iload_n (p := 221) rfl (jg_ne l1 rfl) rfl ?_
  refine R_iload_n (p := 222) rfl (jg_ne l2 rfl) rfl ?_
  refine R_iload (p := 224) rfl (jg_ne l4 rfl) rfl ?_
  refine R_iload (p := 226) rfl (jg_ne l5 rfl) rfl ?_
  refine R_iconst (p := 227) rfl ki_1 rfl ?_
  refine R_isub (p := 228) rfl rfl ?_
  refine R_cS4v (p := 231) rfl (tfX9_placed (Nat.le_trans (by decide) hd) ) rfl rfl ?_
  obtain ⟨q15, eq15, h⟩ := bind_some h
  refine R_cV3n (p := 234) hK rfl rfl (tfX9_grows hK (Nat.le_trans (by decide) hd)  eq15) rfl rfl ?_
  refine R_aload_n (p := 235) rfl (jg_ne l0 rfl) rfl ?_
  refine R_iload (p := 237) rfl (jg_ne l6 rfl) rfl ?_
  refine R_iload_n (p := 238) rfl (jg_ne l1 rfl) rfl ?_
  refine R_iload_n (p := 239) rfl (jg_ne l2 rfl) rfl ?_
  refine R_iload (p := 241) rfl (jg_ne l4 rfl) rfl ?_
  refine R_iconst (p := 242) rfl ki_1 rfl ?_
  refine R_isub (p := 243) rfl rfl ?_
  refine R_iload (p := 245) rfl jg_self rfl ?_
  refine R_iconst (p := 246) rfl ki_1 rfl ?_
  refine R_isub (p := 247) rfl rfl ?_
  refine R_cS4v (p := 250) rfl (tfX9_placed (Nat.le_trans (by decide) hd) ) rfl rfl ?_
  obtain ⟨q17, eq17, h⟩ := bind_some h
  refine R_cV3n (p := 253) hK rfl rfl (tfX9_grows hK (Nat.le_trans (by decide) hd)  eq17) rfl rfl ?_
  refine R_aload_n (p := 254) rfl (jg_ne l0 rfl) rfl ?_
  refine R_iload (p := 256) rfl (jg_ne l6 rfl) rfl ?_
  refine R_iload_n (p := 257) rfl (jg_ne l1 rfl) rfl ?_
  refine R_iload_n (p := 258) rfl (jg_ne l2 rfl) rfl ?_
  refine R_iload (p := 260) rfl (jg_ne l4 rfl) rfl ?_
  refine R_iconst (p := 261) rfl ki_1 rfl ?_
  refine R_isub (p := 262) rfl rfl ?_
  refine R_iload (p := 264) rfl jg_self rfl ?_
  refine R_cS4v (p := 267) rfl (tfX9_placed (Nat.le_trans (by decide) hd) ) rfl rfl ?_
  obtain ⟨q19, eq19, h⟩ := bind_some h
  refine R_cV3n (p := 270) hK rfl rfl (tfX9_grows hK (Nat.le_trans (by decide) hd)  eq19) rfl rfl ?_
  refine R_aload_n (p := 271) rfl (jg_ne l0 rfl) rfl ?_
  refine R_iload (p := 273) rfl (jg_ne l6 rfl) rfl ?_
  obtain ⟨q20, eq20, h⟩ := bind_some h
  refine R_cV2v (p := 276) hK rfl rfl (tfX9_sidesOf hK (Nat.le_trans (by decide) hd)  eq20) rfl rfl ?_
  refine R_istore (p := 278) rfl rfl rfl ?_
  refine R_iload (p := 280) rfl jg_self rfl ?_
  refine R_iconst (p := 281) rfl ki_1 rfl ?_
  by_cases hc : q20 ≤ (1 : Int32)
  · replace h := ite_t h hc
    refine R_icle_t rfl hc ?_
    refine R_iinc (p := 329) rfl (jg_ne (jg_ne l5 rfl) rfl) rfl ki_1 rfl ?_
    refine R_goto rfl ?_
    obtain rfl := Option.some.inj h
    exact hq _ (jg_ne (jg_ne (jg_ne l0 rfl) rfl) rfl) (jg_ne (jg_ne (jg_ne l1 rfl) rfl) rfl) (jg_ne (jg_ne (jg_ne l2 rfl) rfl) rfl) (jg_ne (jg_ne (jg_ne l3 rfl) rfl) rfl) (jg_ne (jg_ne (jg_ne l4 rfl) rfl) rfl) jg_self
  · replace h := ite_f h hc
    refine R_icle_f (p := 284) rfl hc rfl ?_
    refine R_aload_n (p := 285) rfl (jg_ne (jg_ne l0 rfl) rfl) rfl ?_
    refine R_iload (p := 287) rfl (jg_ne (jg_ne l6 rfl) rfl) rfl ?_
    refine R_bipush (p := 289) rfl kb_6 rfl ?_
    obtain ⟨q21, eq21, h⟩ := bind_some h
    refine R_cV3v (p := 292) hK rfl rfl (tfX9_of hK (Nat.le_trans (by decide) hd)  eq21) rfl rfl ?_
    refine R_bipush (p := 294) rfl kb_16 rfl ?_
    by_cases hc : q21 = (16 : Int32)
    · replace h := ite_t h hc
      refine R_icne_f (p := 297) rfl (fun z => z hc) rfl ?_
      refine R_aload_n (p := 298) rfl (jg_ne (jg_ne l0 rfl) rfl) rfl ?_
      refine R_iload (p := 300) rfl (jg_ne (jg_ne l6 rfl) rfl) rfl ?_
      refine R_bipush (p := 302) rfl kb_6 rfl ?_
      refine R_iload (p := 304) rfl jg_self rfl ?_
      refine R_iadd (p := 305) rfl rfl ?_
      refine R_iconst (p := 306) rfl ki_1 rfl ?_
      refine R_isub (p := 307) rfl rfl ?_
      obtain ⟨q22, eq22, h⟩ := bind_some h
      refine R_cV3v (p := 310) hK rfl rfl (tfX9_of hK (Nat.le_trans (by decide) hd)  eq22) rfl rfl ?_
      refine R_bipush (p := 312) rfl kb_16 rfl ?_
      by_cases hc : q22 = (16 : Int32)
      · replace h := ite_t h hc
        refine R_icne_f (p := 315) rfl (fun z => z hc) rfl ?_
        refine R_aload_n (p := 316) rfl (jg_ne (jg_ne l0 rfl) rfl) rfl ?_
        refine R_iload (p := 318) rfl (jg_ne (jg_ne l6 rfl) rfl) rfl ?_
        refine R_iconst (p := 319) rfl ki_5 rfl ?_
        refine R_iload (p := 321) rfl jg_self rfl ?_
        refine R_iconst (p := 322) rfl ki_1 rfl ?_
        refine R_isub (p := 323) rfl rfl ?_
        obtain ⟨q23, eq23, h⟩ := bind_some h
        refine R_cV4n (p := 326) hK rfl rfl (tfX9_tells hK (Nat.le_trans (by decide) hd)  eq23) rfl rfl ?_
        refine R_iinc (p := 329) rfl (jg_ne (jg_ne l5 rfl) rfl) rfl ki_1 rfl ?_
        refine R_goto rfl ?_
        obtain rfl := Option.some.inj h
        exact hq _ (jg_ne (jg_ne (jg_ne l0 rfl) rfl) rfl) (jg_ne (jg_ne (jg_ne l1 rfl) rfl) rfl) (jg_ne (jg_ne (jg_ne l2 rfl) rfl) rfl) (jg_ne (jg_ne (jg_ne l3 rfl) rfl) rfl) (jg_ne (jg_ne (jg_ne l4 rfl) rfl) rfl) jg_self
      · replace h := ite_f h hc
        refine R_icne_t rfl hc ?_
        refine R_iinc (p := 329) rfl (jg_ne (jg_ne l5 rfl) rfl) rfl ki_1 rfl ?_
        refine R_goto rfl ?_
        obtain rfl := Option.some.inj h
        exact hq _ (jg_ne (jg_ne (jg_ne l0 rfl) rfl) rfl) (jg_ne (jg_ne (jg_ne l1 rfl) rfl) rfl) (jg_ne (jg_ne (jg_ne l2 rfl) rfl) rfl) (jg_ne (jg_ne (jg_ne l3 rfl) rfl) rfl) (jg_ne (jg_ne (jg_ne l4 rfl) rfl) rfl) jg_self
    · replace h := ite_f h hc
      refine R_icne_t rfl hc ?_
      refine R_iinc (p := 329) rfl (jg_ne (jg_ne l5 rfl) rfl) rfl ki_1 rfl ?_
      refine R_goto rfl ?_
      obtain rfl := Option.some.inj h
      exact hq _ (jg_ne (jg_ne (jg_ne l0 rfl) rfl) rfl) (jg_ne (jg_ne (jg_ne l1 rfl) rfl) rfl) (jg_ne (jg_ne (jg_ne l2 rfl) rfl) rfl) (jg_ne (jg_ne (jg_ne l3 rfl) rfl) rfl) (jg_ne (jg_ne (jg_ne l4 rfl) rfl) rfl) jg_self
theorem BX9_foam_105 {xs : List Int32} {d : Nat} {r : jR} {K : Mem → List jE} (hK : Ctx shR K) (hd : 3 ≤ d)  {x1 : Int32} {x2 : Int32} {x3 : Int32} {x4 : Int32} (s : Int32 × Mem) {t : (Int32 × Mem) ⊕ ((Int32 × Mem) ⊕ (Int32 × Mem))} (h : lX9_foam_105 x1 x2 x3 x4 s = some t) (hq : sQ (gX9_foam_105 xs d r K x1 x2 x3 x4) (sQ (gX9_foam_96 xs d r K x1 x2 x3) (qIM r K)) t) : gX9_foam_105 xs d r K x1 x2 x3 x4 s := by
  intro L l0 l1 l2 l3 l4 l5
  unfold lX9_foam_105 at h
  refine R_iload (p := 107) rfl l5 rfl ?_
  refine R_iload_n (p := 108) rfl l1 rfl ?_
  by_cases hc : x1 ≤ s.1
  · replace h := ite_t h hc
    refine R_icge_t rfl hc ?_
    refine R_iinc (p := 335) rfl l4 rfl ki_1 rfl ?_
    refine R_goto rfl ?_
    obtain rfl := Option.some.inj h
    exact hq _ (jg_ne l0 rfl) (jg_ne l1 rfl) (jg_ne l2 rfl) (jg_ne l3 rfl) jg_self
  · replace h := ite_f h hc
    refine R_icge_f (p := 111) rfl hc rfl ?_
    refine R_iload (p := 113) rfl l4 rfl ?_
    refine R_iload_n (p := 114) rfl l1 rfl ?_
    refine R_imul (p := 115) rfl rfl ?_
    refine R_iload (p := 117) rfl l5 rfl ?_
    refine R_iadd (p := 118) rfl rfl ?_
    refine R_istore (p := 120) rfl rfl rfl ?_
    refine R_iload (p := 122) rfl (jg_ne l4 rfl) rfl ?_
    refine R_iconst (p := 123) rfl ki_2 rfl ?_
    refine R_irem (p := 124) rfl (by decide) rfl ?_
    refine R_iconst (p := 125) rfl ki_1 rfl ?_
    by_cases hc : (x4 - x4 / (2 : Int32) * (2 : Int32)) = (1 : Int32)
    · replace h := ite_t h hc
      refine R_icne_f (p := 128) rfl (fun z => z hc) rfl ?_
      refine R_iload (p := 130) rfl (jg_ne l5 rfl) rfl ?_
      refine R_iconst (p := 131) rfl ki_1 rfl ?_
      refine R_iadd (p := 132) rfl rfl ?_
      refine R_goto rfl ?_
      exact tbX9_foam_137 hK hd (jg_ne l0 rfl) (jg_ne l1 rfl) (jg_ne l2 rfl) (jg_ne l3 rfl) (jg_ne l4 rfl) (jg_ne l5 rfl) jg_self h hq
    · replace h := ite_f h hc
      refine R_icne_t rfl hc ?_
      refine R_iload (p := 137) rfl (jg_ne l5 rfl) rfl ?_
      exact tbX9_foam_137 hK hd (jg_ne l0 rfl) (jg_ne l1 rfl) (jg_ne l2 rfl) (jg_ne l3 rfl) (jg_ne l4 rfl) (jg_ne l5 rfl) jg_self h hq
theorem LX9_foam_105 {xs : List Int32} {d : Nat} {r : jR} {K : Mem → List jE} (hK : Ctx shR K) (hd : 3 ≤ d)  {x1 : Int32} {x2 : Int32} {x3 : Int32} {x4 : Int32} (n : Nat) (s : Int32 × Mem) {t : ((Int32 × Mem) ⊕ (Int32 × Mem))} (h : lp (lX9_foam_105 x1 x2 x3 x4) n s = some t) (hq : (sQ (gX9_foam_96 xs d r K x1 x2 x3) (qIM r K)) t) : gX9_foam_105 xs d r K x1 x2 x3 x4 s := lp_ind (G := gX9_foam_105 xs d r K x1 x2 x3 x4) (Qe := (sQ (gX9_foam_96 xs d r K x1 x2 x3) (qIM r K))) (fun s t h hq => BX9_foam_105 hK hd s h hq) n s t h hq
theorem BX9_foam_96 {xs : List Int32} {d : Nat} {r : jR} {K : Mem → List jE} (hK : Ctx shR K) (hd : 3 ≤ d)  {x1 : Int32} {x2 : Int32} {x3 : Int32} (s : Int32 × Mem) {t : (Int32 × Mem) ⊕ (Int32 × Mem)} (h : lX9_foam_96 x1 x2 x3 s = some t) (hq : sQ (gX9_foam_96 xs d r K x1 x2 x3) (qIM r K) t) : gX9_foam_96 xs d r K x1 x2 x3 s := by
  intro L l0 l1 l2 l3 l4
  unfold lX9_foam_96 at h
  refine R_iload (p := 98) rfl l4 rfl ?_
  refine R_iload_n (p := 99) rfl l2 rfl ?_
  by_cases hc : x2 ≤ s.1
  · replace h := ite_t h hc
    refine R_icge_t rfl hc ?_
    refine R_iload_n (p := 339) rfl l1 rfl ?_
    refine R_iload_n (p := 340) rfl l2 rfl ?_
    refine R_imul (p := 341) rfl rfl ?_
    obtain rfl := Option.some.inj h
    exact R_ireturn rfl rfl hq
  · replace h := ite_f h hc
    refine R_icge_f (p := 102) rfl hc rfl ?_
    refine R_iconst (p := 103) rfl ki_0 rfl ?_
    refine R_istore (p := 105) rfl rfl rfl ?_
    exact LX9_foam_105 hK hd _ _ h hq _ (jg_ne l0 rfl) (jg_ne l1 rfl) (jg_ne l2 rfl) (jg_ne l3 rfl) (jg_ne l4 rfl) jg_self
theorem LX9_foam_96 {xs : List Int32} {d : Nat} {r : jR} {K : Mem → List jE} (hK : Ctx shR K) (hd : 3 ≤ d)  {x1 : Int32} {x2 : Int32} {x3 : Int32} (n : Nat) (s : Int32 × Mem) {t : (Int32 × Mem)} (h : lp (lX9_foam_96 x1 x2 x3) n s = some t) (hq : (qIM r K) t) : gX9_foam_96 xs d r K x1 x2 x3 s := lp_ind (G := gX9_foam_96 xs d r K x1 x2 x3) (Qe := (qIM r K)) (fun s t h hq => BX9_foam_96 hK hd s h hq) n s t h hq
theorem BX9_foam_72 {xs : List Int32} {d : Nat} {r : jR} {K : Mem → List jE} (hK : Ctx shR K) (hd : 3 ≤ d)  {x1 : Int32} {x2 : Int32} {x3 : Int32} (s : Int32 × Mem) {t : (Int32 × Mem) ⊕ (Int32 × Mem)} (h : lX9_foam_72 x1 x2 x3 s = some t) (hq : sQ (gX9_foam_72 xs d r K x1 x2 x3) (qIM r K) t) : gX9_foam_72 xs d r K x1 x2 x3 s := by
  intro L l0 l1 l2 l3 l4
  unfold lX9_foam_72 at h
  refine R_iload (p := 74) rfl l4 rfl ?_
  refine R_bipush (p := 76) rfl kb_10 rfl ?_
  by_cases hc : (10 : Int32) < s.1
  · replace h := ite_t h hc
    refine R_icgt_t rfl hc ?_
    refine R_iconst (p := 94) rfl ki_0 rfl ?_
    refine R_istore (p := 96) rfl rfl rfl ?_
    obtain ⟨w9, h9, rfl⟩ := map_inr h
    replace h := h9
    exact LX9_foam_96 hK hd _ _ h hq _ (jg_ne l0 rfl) (jg_ne l1 rfl) (jg_ne l2 rfl) (jg_ne l3 rfl) jg_self
  · replace h := ite_f h hc
    refine R_icgt_f (p := 79) rfl hc rfl ?_
    refine R_aload_n (p := 80) rfl l0 rfl ?_
    refine R_getR (p := 83) (q := 138) hK rfl rfl rfl rfl ?_
    refine R_iload (p := 85) rfl l4 rfl ?_
    refine R_iconst (p := 86) rfl ki_0 rfl ?_
    obtain ⟨b24, h⟩ := gd h
    refine R_iast (p := 87) hK rfl rfl b24 rfl ?_
    refine R_iinc (p := 90) rfl l4 rfl ki_1 rfl ?_
    refine R_goto rfl ?_
    obtain rfl := Option.some.inj h
    exact hq _ (jg_ne l0 rfl) (jg_ne l1 rfl) (jg_ne l2 rfl) (jg_ne l3 rfl) jg_self
theorem LX9_foam_72 {xs : List Int32} {d : Nat} {r : jR} {K : Mem → List jE} (hK : Ctx shR K) (hd : 3 ≤ d)  {x1 : Int32} {x2 : Int32} {x3 : Int32} (n : Nat) (s : Int32 × Mem) {t : (Int32 × Mem)} (h : lp (lX9_foam_72 x1 x2 x3) n s = some t) (hq : (qIM r K) t) : gX9_foam_72 xs d r K x1 x2 x3 s := lp_ind (G := gX9_foam_72 xs d r K x1 x2 x3) (Qe := (qIM r K)) (fun s t h hq => BX9_foam_72 hK hd s h hq) n s t h hq
theorem BX9_foam_39 {xs : List Int32} {d : Nat} {r : jR} {K : Mem → List jE} (hK : Ctx shR K) (hd : 3 ≤ d)  {x1 : Int32} {x2 : Int32} {x3 : Int32} (s : Int32 × Mem) {t : (Int32 × Mem) ⊕ (Int32 × Mem)} (h : lX9_foam_39 x1 x2 x3 s = some t) (hq : sQ (gX9_foam_39 xs d r K x1 x2 x3) (qIM r K) t) : gX9_foam_39 xs d r K x1 x2 x3 s := by
  intro L l0 l1 l2 l3 l4
  unfold lX9_foam_39 at h
  refine R_iload (p := 41) rfl l4 rfl ?_
  refine R_sipush (p := 44) rfl ks_812 rfl ?_
  by_cases hc : (812 : Int32) ≤ s.1
  · replace h := ite_t h hc
    refine R_icge_t rfl hc ?_
    refine R_aload_n (p := 62) rfl l0 rfl ?_
    refine R_getR (p := 65) (q := 138) hK rfl rfl rfl rfl ?_
    refine R_iconst (p := 66) rfl ki_0 rfl ?_
    refine R_iconst (p := 67) rfl ki_0 rfl ?_
    refine R_iask (p := 68) hK rfl rfl (by decide) kn_0 rfl ?_
    refine R_bipush (p := 70) rfl kb_7 rfl ?_
    refine R_istore (p := 72) rfl rfl rfl ?_
    obtain ⟨w9, h9, rfl⟩ := map_inr h
    replace h := h9
    exact LX9_foam_72 hK hd _ _ h hq _ (jg_ne l0 rfl) (jg_ne l1 rfl) (jg_ne l2 rfl) (jg_ne l3 rfl) jg_self
  · replace h := ite_f h hc
    refine R_icge_f (p := 47) rfl hc rfl ?_
    refine R_aload_n (p := 48) rfl l0 rfl ?_
    refine R_getR (p := 51) (q := 138) hK rfl rfl rfl rfl ?_
    refine R_iload (p := 53) rfl l4 rfl ?_
    refine R_iconst (p := 54) rfl ki_0 rfl ?_
    obtain ⟨b25, h⟩ := gd h
    refine R_iast (p := 55) hK rfl rfl b25 rfl ?_
    refine R_iinc (p := 58) rfl l4 rfl ki_1 rfl ?_
    refine R_goto rfl ?_
    obtain rfl := Option.some.inj h
    exact hq _ (jg_ne l0 rfl) (jg_ne l1 rfl) (jg_ne l2 rfl) (jg_ne l3 rfl) jg_self
theorem LX9_foam_39 {xs : List Int32} {d : Nat} {r : jR} {K : Mem → List jE} (hK : Ctx shR K) (hd : 3 ≤ d)  {x1 : Int32} {x2 : Int32} {x3 : Int32} (n : Nat) (s : Int32 × Mem) {t : (Int32 × Mem)} (h : lp (lX9_foam_39 x1 x2 x3) n s = some t) (hq : (qIM r K) t) : gX9_foam_39 xs d r K x1 x2 x3 s := lp_ind (G := gX9_foam_39 xs d r K x1 x2 x3) (Qe := (qIM r K)) (fun s t h hq => BX9_foam_39 hK hd s h hq) n s t h hq
theorem ufX9_foam {xs : List Int32} {d : Nat} {r : jR} {K : Mem → List jE} (hK : Ctx shR K) (hd : 3 ≤ d) {x1 : Int32} {x2 : Int32} {x3 : Int32} {m : Mem} {L : List (Nat × Value)} (l0 : jget L 0 = some (.ref 137)) (l1 : jget L 1 = some (.int x1)) (l2 : jget L 2 = some (.int x2)) (l3 : jget L 3 = some (.int x3)) {t : (Int32 × Mem)} (h : fX9_foam x1 x2 x3 m = some t) (hq : (qIM r K) t) : RunD (jcs xs) d 9 (some .int) jt_X9_foam (0, L, [], (K m)) r := by
  unfold fX9_foam at h
  refine R_iload_n (p := 1) rfl l1 rfl ?_
  refine R_iconst (p := 2) rfl ki_1 rfl ?_
  refine R_iconst (p := 3) rfl ki_4 rfl ?_
  refine R_cS3v (p := 6) rfl (tfX9_within (Nat.le_trans (by decide) hd) ) rfl rfl ?_
  by_cases hc : (fX9_within x1 (1 : Int32) (4 : Int32)) = 0
  · replace h := ite_t h hc
    refine R_ifeq_t rfl hc ?_
    exact tbX9_foam_28 hK hd l0 h hq
  · replace h := ite_f h hc
    refine R_ifeq_f (p := 9) rfl hc rfl ?_
    refine R_iload_n (p := 10) rfl l2 rfl ?_
    refine R_iconst (p := 11) rfl ki_1 rfl ?_
    refine R_iconst (p := 12) rfl ki_4 rfl ?_
    refine R_cS3v (p := 15) rfl (tfX9_within (Nat.le_trans (by decide) hd) ) rfl rfl ?_
    by_cases hc : (fX9_within x2 (1 : Int32) (4 : Int32)) = 0
    · replace h := ite_t h hc
      refine R_ifeq_t rfl hc ?_
      exact tbX9_foam_28 hK hd l0 h hq
    · replace h := ite_f h hc
      refine R_ifeq_f (p := 18) rfl hc rfl ?_
      refine R_iload_n (p := 19) rfl l3 rfl ?_
      refine R_iconst (p := 20) rfl ki_0 rfl ?_
      refine R_ldc (p := 22) rfl kl_99999 rfl ?_
      refine R_cS3v (p := 25) rfl (tfX9_within (Nat.le_trans (by decide) hd) ) rfl rfl ?_
      by_cases hc : (fX9_within x3 (0 : Int32) (99999 : Int32)) = 0
      · replace h := ite_t h hc
        refine R_ifne_f (p := 28) rfl (fun z => z hc) rfl ?_
        exact tbX9_foam_28 hK hd l0 h hq
      · replace h := ite_f h hc
        refine R_ifne_t rfl hc ?_
        refine R_bipush (p := 37) rfl kb_12 rfl ?_
        refine R_istore (p := 39) rfl rfl rfl ?_
        exact LX9_foam_39 hK hd _ _ h hq _ (jg_ne l0 rfl) (jg_ne l1 rfl) (jg_ne l2 rfl) (jg_ne l3 rfl) jg_self
theorem tfX9_foam {xs : List Int32} {d : Nat} {K : Mem → List jE} (hK : Ctx shR K) (hd : 4 ≤ d) {x1 : Int32} {x2 : Int32} {x3 : Int32} {m : Mem} {t : (Int32 × Mem)} (h : fX9_foam x1 x2 x3 m = some t) : CallD (jcs xs) d 161 [.ref 137, .int x1, .int x2, .int x3] (K m) (some (.int t.1), K t.2) := by
  obtain ⟨d, rfl⟩ : ∃ z, d = z + 1 := ⟨d - 1, by omega⟩
  refine CallD_of jmt_X9_foam rfl ⟨rfl, Nat.le_of_ble_eq_true rfl⟩ ?_
  exact ufX9_foam hK (Nat.le_of_succ_le_succ hd) rfl rfl rfl rfl h rfl
noncomputable def fX0_has (k : Nat) (x1 : Int32) (m : Mem) : Int32 := (if x1 < 0 then (0 : Int32) else (if (16 : Int32) ≤ x1 then (0 : Int32) else (if ((jUshr (m (cw k 2) 0) x1) &&& (1 : Int32)) = (1 : Int32) then (1 : Int32) else (0 : Int32))))
theorem ufX0_has {xs : List Int32} {d : Nat} {r : jR} {K : Mem → List jE} (hK : Ctx shC K) (hd : 0 ≤ d) {k : Nat} (hk : k < 3) {x1 : Int32} {m : Mem} {L : List (Nat × Value)} (l0 : jget L 0 = some (.ref (cw k 2))) (l1 : jget L 1 = some (.int x1)) {t : Int32} (h : fX0_has k x1 m = t) (hq : (qI r (K m)) t) : RunD (jcs xs) d 2 (some .boolean) jt_X0_has (0, L, [], (K m)) r := by
  unfold fX0_has at h
  refine R_iload_n (p := 1) rfl l1 rfl ?_
  by_cases hc : x1 < 0
  · replace h := ite_t h hc
    refine R_iflt_t rfl hc ?_
    refine R_iconst (p := 27) rfl ki_0 rfl ?_
    subst h
    exact R_zreturn rfl rfl (by decide) hq
  · replace h := ite_f h hc
    refine R_iflt_f (p := 4) rfl hc rfl ?_
    refine R_iload_n (p := 5) rfl l1 rfl ?_
    refine R_bipush (p := 7) rfl kb_16 rfl ?_
    by_cases hc : (16 : Int32) ≤ x1
    · replace h := ite_t h hc
      refine R_icge_t rfl hc ?_
      refine R_iconst (p := 27) rfl ki_0 rfl ?_
      subst h
      exact R_zreturn rfl rfl (by decide) hq
    · replace h := ite_f h hc
      refine R_icge_f (p := 10) rfl hc rfl ?_
      refine R_aload_n (p := 11) rfl l0 rfl ?_
      refine R_getI (p := 14) hK rfl (s_w2 hk) rfl rfl ?_
      refine R_iload_n (p := 15) rfl l1 rfl ?_
      refine R_iushr (p := 16) rfl rfl ?_
      refine R_iconst (p := 17) rfl ki_1 rfl ?_
      refine R_iand (p := 18) rfl rfl ?_
      refine R_iconst (p := 19) rfl ki_1 rfl ?_
      by_cases hc : ((jUshr (m (cw k 2) 0) x1) &&& (1 : Int32)) = (1 : Int32)
      · replace h := ite_t h hc
        refine R_icne_f (p := 22) rfl (fun z => z hc) rfl ?_
        refine R_iconst (p := 23) rfl ki_1 rfl ?_
        refine R_goto rfl ?_
        subst h
        exact R_zreturn rfl rfl (by decide) hq
      · replace h := ite_f h hc
        refine R_icne_t rfl hc ?_
        refine R_iconst (p := 27) rfl ki_0 rfl ?_
        subst h
        exact R_zreturn rfl rfl (by decide) hq
theorem tfX0_has {xs : List Int32} {d : Nat} {K : Mem → List jE} (hK : Ctx shC K) (hd : 1 ≤ d) {k : Nat} (hk : k < 3) {x1 : Int32} {m : Mem} : CallD (jcs xs) d 4 [.ref (cw k 2), .int x1] (K m) (some (.int (fX0_has k x1 m)), (K m)) := by
  obtain ⟨d, rfl⟩ : ∃ z, d = z + 1 := ⟨d - 1, by omega⟩
  refine CallD_of jmt_X0_has rfl ⟨rfl, Nat.le_of_ble_eq_true rfl⟩ ?_
  exact ufX0_has hK (Nat.le_of_succ_le_succ hd) hk rfl rfl rfl rfl
noncomputable def fX0_sidesOf (k : Nat) (x1 : Int32) (m : Mem) : Option Int32 := (if x1 < 0 then some (0 : Int32) else (if (16 : Int32) ≤ x1 then some (0 : Int32) else (if inb x1 16 then some (m (cw k 7) x1.toNatClampNeg) else none)))
theorem ufX0_sidesOf {xs : List Int32} {d : Nat} {r : jR} {K : Mem → List jE} (hK : Ctx shC K) (hd : 0 ≤ d) {k : Nat} (hk : k < 3) {x1 : Int32} {m : Mem} {L : List (Nat × Value)} (l0 : jget L 0 = some (.ref (cw k 2))) (l1 : jget L 1 = some (.int x1)) {t : Int32} (h : fX0_sidesOf k x1 m = some t) (hq : (qI r (K m)) t) : RunD (jcs xs) d 2 (some .int) jt_X0_sidesOf (0, L, [], (K m)) r := by
  unfold fX0_sidesOf at h
  refine R_iload_n (p := 1) rfl l1 rfl ?_
  by_cases hc : x1 < 0
  · replace h := ite_t h hc
    refine R_iflt_t rfl hc ?_
    refine R_iconst (p := 20) rfl ki_0 rfl ?_
    obtain rfl := Option.some.inj h
    exact R_ireturn rfl rfl hq
  · replace h := ite_f h hc
    refine R_iflt_f (p := 4) rfl hc rfl ?_
    refine R_iload_n (p := 5) rfl l1 rfl ?_
    refine R_bipush (p := 7) rfl kb_16 rfl ?_
    by_cases hc : (16 : Int32) ≤ x1
    · replace h := ite_t h hc
      refine R_icge_t rfl hc ?_
      refine R_iconst (p := 20) rfl ki_0 rfl ?_
      obtain rfl := Option.some.inj h
      exact R_ireturn rfl rfl hq
    · replace h := ite_f h hc
      refine R_icge_f (p := 10) rfl hc rfl ?_
      refine R_aload_n (p := 11) rfl l0 rfl ?_
      refine R_getR (p := 14) (q := (cw k 7)) hK rfl (s_w2 hk) rfl rfl ?_
      refine R_iload_n (p := 15) rfl l1 rfl ?_
      obtain ⟨b1, h⟩ := gd h
      refine R_iald (p := 16) hK rfl (s_w7 hk) b1 rfl ?_
      refine R_goto rfl ?_
      obtain rfl := Option.some.inj h
      exact R_ireturn rfl rfl hq
theorem tfX0_sidesOf {xs : List Int32} {d : Nat} {K : Mem → List jE} (hK : Ctx shC K) (hd : 1 ≤ d) {k : Nat} (hk : k < 3) {x1 : Int32} {m : Mem} {t : Int32} (h : fX0_sidesOf k x1 m = some t) : CallD (jcs xs) d 7 [.ref (cw k 2), .int x1] (K m) (some (.int t), (K m)) := by
  obtain ⟨d, rfl⟩ : ∃ z, d = z + 1 := ⟨d - 1, by omega⟩
  refine CallD_of jmt_X0_sidesOf rfl ⟨rfl, Nat.le_of_ble_eq_true rfl⟩ ?_
  exact ufX0_sidesOf hK (Nat.le_of_succ_le_succ hd) hk rfl rfl h rfl
noncomputable def fJ9_floorMod_7cf53 (x0 : Int32) (x1 : Int32) : Option Int32 := (if ¬ x1 = 0 then (if 0 ≤ (x0 ^^^ x1) then some (x0 - x0 / x1 * x1) else (if (x0 - x0 / x1 * x1) = 0 then some (x0 - x0 / x1 * x1) else some ((x0 - x0 / x1 * x1) + x1))) else none)
theorem ufJ9_floorMod_7cf53 {xs : List Int32} {d : Nat} {r : jR} {hh : List jE} (hd : 0 ≤ d) {x0 : Int32} {x1 : Int32} {L : List (Nat × Value)} (l0 : jget L 0 = some (.int x0)) (l1 : jget L 1 = some (.int x1)) {t : Int32} (h : fJ9_floorMod_7cf53 x0 x1 = some t) (hq : (qI r hh) t) : RunD (jcs xs) d 3 (some .int) jt_J9_floorMod_7cf53 (0, L, [], hh) r := by
  unfold fJ9_floorMod_7cf53 at h
  refine R_iload_n (p := 1) rfl l0 rfl ?_
  refine R_iload_n (p := 2) rfl l1 rfl ?_
  obtain ⟨b1, h⟩ := gd h
  refine R_irem (p := 3) rfl b1 rfl ?_
  refine R_istore_n (p := 4) rfl rfl rfl ?_
  refine R_iload_n (p := 5) rfl (jg_ne l0 rfl) rfl ?_
  refine R_iload_n (p := 6) rfl (jg_ne l1 rfl) rfl ?_
  refine R_ixor (p := 7) rfl rfl ?_
  by_cases hc : 0 ≤ (x0 ^^^ x1)
  · replace h := ite_t h hc
    refine R_ifge_t rfl hc ?_
    refine R_iload_n (p := 19) rfl jg_self rfl ?_
    obtain rfl := Option.some.inj h
    exact R_ireturn rfl rfl hq
  · replace h := ite_f h hc
    refine R_ifge_f (p := 10) rfl hc rfl ?_
    refine R_iload_n (p := 11) rfl jg_self rfl ?_
    by_cases hc : (x0 - x0 / x1 * x1) = 0
    · replace h := ite_t h hc
      refine R_ifeq_t rfl hc ?_
      refine R_iload_n (p := 19) rfl jg_self rfl ?_
      obtain rfl := Option.some.inj h
      exact R_ireturn rfl rfl hq
    · replace h := ite_f h hc
      refine R_ifeq_f (p := 14) rfl hc rfl ?_
      refine R_iload_n (p := 15) rfl jg_self rfl ?_
      refine R_iload_n (p := 16) rfl (jg_ne l1 rfl) rfl ?_
      refine R_iadd (p := 17) rfl rfl ?_
      obtain rfl := Option.some.inj h
      exact R_ireturn rfl rfl hq
theorem tfJ9_floorMod_7cf53 {xs : List Int32} {d : Nat} {hh : List jE} (hd : 1 ≤ d) {x0 : Int32} {x1 : Int32} {t : Int32} (h : fJ9_floorMod_7cf53 x0 x1 = some t) : CallD (jcs xs) d 257 [.int x0, .int x1] hh (some (.int t), hh) := by
  obtain ⟨d, rfl⟩ : ∃ z, d = z + 1 := ⟨d - 1, by omega⟩
  refine CallD_of jmt_J9_floorMod_7cf53 rfl ⟨rfl, Nat.le_of_ble_eq_true rfl⟩ ?_
  exact ufJ9_floorMod_7cf53 (Nat.le_of_succ_le_succ hd) rfl rfl h rfl
noncomputable def fX0_at (k : Nat) (x1 : Int32) (x2 : Int32) (m : Mem) : Option Int32 := (if x1 < 0 then some (-1 : Int32) else (if (16 : Int32) ≤ x1 then some (-1 : Int32) else (if inb x1 16 then (if (m (cw k 7) x1.toNatClampNeg) ≤ 0 then some (-1 : Int32) else (if inb x1 16 then (if (m (cw k 7) x1.toNatClampNeg) ≤ (30 : Int32) then (if inb x1 16 then (if inb x1 16 then (fJ9_floorMod_7cf53 x2 (m (cw k 7) x1.toNatClampNeg)).bind fun q5 => (if inb q5 30 then some (m (cw k (9 + x1.toNatClampNeg)) q5.toNatClampNeg) else none) else none) else none) else some (-1 : Int32)) else none)) else none)))
theorem ufX0_at {xs : List Int32} {d : Nat} {r : jR} {K : Mem → List jE} (hK : Ctx shC K) (hd : 1 ≤ d) {k : Nat} (hk : k < 3) {x1 : Int32} {x2 : Int32} {m : Mem} {L : List (Nat × Value)} (l0 : jget L 0 = some (.ref (cw k 2))) (l1 : jget L 1 = some (.int x1)) (l2 : jget L 2 = some (.int x2)) {t : Int32} (h : fX0_at k x1 x2 m = some t) (hq : (qI r (K m)) t) : RunD (jcs xs) d 3 (some .int) jt_X0_at (0, L, [], (K m)) r := by
  unfold fX0_at at h
  refine R_iload_n (p := 1) rfl l1 rfl ?_
  by_cases hc : x1 < 0
  · replace h := ite_t h hc
    refine R_iflt_t rfl hc ?_
    refine R_iconst (p := 31) rfl ki_m1 rfl ?_
    obtain rfl := Option.some.inj h
    exact R_ireturn rfl rfl hq
  · replace h := ite_f h hc
    refine R_iflt_f (p := 4) rfl hc rfl ?_
    refine R_iload_n (p := 5) rfl l1 rfl ?_
    refine R_bipush (p := 7) rfl kb_16 rfl ?_
    by_cases hc : (16 : Int32) ≤ x1
    · replace h := ite_t h hc
      refine R_icge_t rfl hc ?_
      refine R_iconst (p := 31) rfl ki_m1 rfl ?_
      obtain rfl := Option.some.inj h
      exact R_ireturn rfl rfl hq
    · replace h := ite_f h hc
      refine R_icge_f (p := 10) rfl hc rfl ?_
      refine R_aload_n (p := 11) rfl l0 rfl ?_
      refine R_getR (p := 14) (q := (cw k 7)) hK rfl (s_w2 hk) rfl rfl ?_
      refine R_iload_n (p := 15) rfl l1 rfl ?_
      obtain ⟨b1, h⟩ := gd h
      refine R_iald (p := 16) hK rfl (s_w7 hk) b1 rfl ?_
      by_cases hc : (m (cw k 7) x1.toNatClampNeg) ≤ 0
      · replace h := ite_t h hc
        refine R_ifle_t rfl hc ?_
        refine R_iconst (p := 31) rfl ki_m1 rfl ?_
        obtain rfl := Option.some.inj h
        exact R_ireturn rfl rfl hq
      · replace h := ite_f h hc
        refine R_ifle_f (p := 19) rfl hc rfl ?_
        refine R_aload_n (p := 20) rfl l0 rfl ?_
        refine R_getR (p := 23) (q := (cw k 7)) hK rfl (s_w2 hk) rfl rfl ?_
        refine R_iload_n (p := 24) rfl l1 rfl ?_
        obtain ⟨b2, h⟩ := gd h
        refine R_iald (p := 25) hK rfl (s_w7 hk) b2 rfl ?_
        refine R_bipush (p := 27) rfl kb_30 rfl ?_
        by_cases hc : (m (cw k 7) x1.toNatClampNeg) ≤ (30 : Int32)
        · replace h := ite_t h hc
          refine R_icle_t rfl hc ?_
          refine R_aload_n (p := 33) rfl l0 rfl ?_
          refine R_getR (p := 36) (q := (cw k 8)) hK rfl (s_w2 hk) rfl rfl ?_
          refine R_iload_n (p := 37) rfl l1 rfl ?_
          obtain ⟨b3, h⟩ := gd h
          refine R_aald (p := 38) (q := (cw k (9 + x1.toNatClampNeg))) hK rfl (s_w8 hk) (by decide) b3.1 (l_ring b3.2) rfl ?_
          refine R_iload_n (p := 39) rfl l2 rfl ?_
          refine R_aload_n (p := 40) rfl l0 rfl ?_
          refine R_getR (p := 43) (q := (cw k 7)) hK rfl (s_w2 hk) rfl rfl ?_
          refine R_iload_n (p := 44) rfl l1 rfl ?_
          obtain ⟨b4, h⟩ := gd h
          refine R_iald (p := 45) hK rfl (s_w7 hk) b4 rfl ?_
          obtain ⟨q5, eq5, h⟩ := bind_some h
          refine R_cS2v (p := 48) rfl (tfJ9_floorMod_7cf53 (Nat.le_trans (by decide) hd)  eq5) rfl rfl ?_
          obtain ⟨b6, h⟩ := gd h
          refine R_iald (p := 49) hK rfl (s_ring hk b3.2) b6 rfl ?_
          obtain rfl := Option.some.inj h
          exact R_ireturn rfl rfl hq
        · replace h := ite_f h hc
          refine R_icle_f (p := 30) rfl hc rfl ?_
          refine R_iconst (p := 31) rfl ki_m1 rfl ?_
          obtain rfl := Option.some.inj h
          exact R_ireturn rfl rfl hq
theorem tfX0_at {xs : List Int32} {d : Nat} {K : Mem → List jE} (hK : Ctx shC K) (hd : 2 ≤ d) {k : Nat} (hk : k < 3) {x1 : Int32} {x2 : Int32} {m : Mem} {t : Int32} (h : fX0_at k x1 x2 m = some t) : CallD (jcs xs) d 8 [.ref (cw k 2), .int x1, .int x2] (K m) (some (.int t), (K m)) := by
  obtain ⟨d, rfl⟩ : ∃ z, d = z + 1 := ⟨d - 1, by omega⟩
  refine CallD_of jmt_X0_at rfl ⟨rfl, Nat.le_of_ble_eq_true rfl⟩ ?_
  exact ufX0_at hK (Nat.le_of_succ_le_succ hd) hk rfl rfl rfl h rfl
noncomputable def lX0_glasses_11 (k : Nat) (x1 : Int32) (x3 : Int32) (m : Mem) (s : Int32 × Int32) : Option ((Int32 × Int32) ⊕ Int32) := (if x3 ≤ s.2 then some (.inr s.1) else (fX0_at k x1 s.2 m).bind fun q2 => (if q2 = (16 : Int32) then some (.inl ((s.1 + (1 : Int32)), (s.2 + (1 : Int32)))) else some (.inl (s.1, (s.2 + (1 : Int32))))))
noncomputable def gX0_glasses_11 (xs : List Int32) (d : Nat) (r : jR) (K : Mem → List jE) (k : Nat) (x1 : Int32) (x3 : Int32) (m : Mem) (s : Int32 × Int32) : Prop := ∀ L, jget L 0 = some (.ref (cw k 2)) → jget L 1 = some (.int x1) → jget L 3 = some (.int x3) → jget L 2 = some (.int s.1) → jget L 4 = some (.int s.2) → RunD (jcs xs) d 5 (some .int) jt_X0_glasses (11, L, [], (K m)) r
noncomputable def fX0_glasses (k : Nat) (x1 : Int32) (m : Mem) : Option Int32 := (fX0_sidesOf k x1 m).bind fun q1 => lp (lX0_glasses_11 k x1 q1 m) fu ((0 : Int32), (0 : Int32))
theorem BX0_glasses_11 {xs : List Int32} {d : Nat} {r : jR} {K : Mem → List jE} (hK : Ctx shC K) (hd : 2 ≤ d) {k : Nat} (hk : k < 3)  {x1 : Int32} {x3 : Int32} {m : Mem} (s : Int32 × Int32) {t : (Int32 × Int32) ⊕ Int32} (h : lX0_glasses_11 k x1 x3 m s = some t) (hq : sQ (gX0_glasses_11 xs d r K k x1 x3 m) (qI r (K m)) t) : gX0_glasses_11 xs d r K k x1 x3 m s := by
  intro L l0 l1 l3 l2 l4
  unfold lX0_glasses_11 at h
  refine R_iload (p := 13) rfl l4 rfl ?_
  refine R_iload_n (p := 14) rfl l3 rfl ?_
  by_cases hc : x3 ≤ s.2
  · replace h := ite_t h hc
    refine R_icge_t rfl hc ?_
    refine R_iload_n (p := 39) rfl l2 rfl ?_
    obtain rfl := Option.some.inj h
    exact R_ireturn rfl rfl hq
  · replace h := ite_f h hc
    refine R_icge_f (p := 17) rfl hc rfl ?_
    refine R_aload_n (p := 18) rfl l0 rfl ?_
    refine R_iload_n (p := 19) rfl l1 rfl ?_
    refine R_iload (p := 21) rfl l4 rfl ?_
    obtain ⟨q2, eq2, h⟩ := bind_some h
    refine R_cV3v (p := 24) hK rfl (s_w2 hk) (tfX0_at hK (Nat.le_trans (by decide) hd) hk eq2) rfl rfl ?_
    refine R_bipush (p := 26) rfl kb_16 rfl ?_
    by_cases hc : q2 = (16 : Int32)
    · replace h := ite_t h hc
      refine R_icne_f (p := 29) rfl (fun z => z hc) rfl ?_
      refine R_iinc (p := 32) rfl l2 rfl ki_1 rfl ?_
      refine R_iinc (p := 35) rfl (jg_ne l4 rfl) rfl ki_1 rfl ?_
      refine R_goto rfl ?_
      obtain rfl := Option.some.inj h
      exact hq _ (jg_ne (jg_ne l0 rfl) rfl) (jg_ne (jg_ne l1 rfl) rfl) (jg_ne (jg_ne l3 rfl) rfl) (jg_ne jg_self rfl) jg_self
    · replace h := ite_f h hc
      refine R_icne_t rfl hc ?_
      refine R_iinc (p := 35) rfl l4 rfl ki_1 rfl ?_
      refine R_goto rfl ?_
      obtain rfl := Option.some.inj h
      exact hq _ (jg_ne l0 rfl) (jg_ne l1 rfl) (jg_ne l3 rfl) (jg_ne l2 rfl) jg_self
theorem LX0_glasses_11 {xs : List Int32} {d : Nat} {r : jR} {K : Mem → List jE} (hK : Ctx shC K) (hd : 2 ≤ d) {k : Nat} (hk : k < 3)  {x1 : Int32} {x3 : Int32} {m : Mem} (n : Nat) (s : Int32 × Int32) {t : Int32} (h : lp (lX0_glasses_11 k x1 x3 m) n s = some t) (hq : (qI r (K m)) t) : gX0_glasses_11 xs d r K k x1 x3 m s := lp_ind (G := gX0_glasses_11 xs d r K k x1 x3 m) (Qe := (qI r (K m))) (fun s t h hq => BX0_glasses_11 hK hd hk s h hq) n s t h hq
theorem ufX0_glasses {xs : List Int32} {d : Nat} {r : jR} {K : Mem → List jE} (hK : Ctx shC K) (hd : 2 ≤ d) {k : Nat} (hk : k < 3) {x1 : Int32} {m : Mem} {L : List (Nat × Value)} (l0 : jget L 0 = some (.ref (cw k 2))) (l1 : jget L 1 = some (.int x1)) {t : Int32} (h : fX0_glasses k x1 m = some t) (hq : (qI r (K m)) t) : RunD (jcs xs) d 5 (some .int) jt_X0_glasses (0, L, [], (K m)) r := by
  unfold fX0_glasses at h
  refine R_iconst (p := 1) rfl ki_0 rfl ?_
  refine R_istore_n (p := 2) rfl rfl rfl ?_
  refine R_aload_n (p := 3) rfl (jg_ne l0 rfl) rfl ?_
  refine R_iload_n (p := 4) rfl (jg_ne l1 rfl) rfl ?_
  obtain ⟨q1, eq1, h⟩ := bind_some h
  refine R_cV2v (p := 7) hK rfl (s_w2 hk) (tfX0_sidesOf hK (Nat.le_trans (by decide) hd) hk eq1) rfl rfl ?_
  refine R_istore_n (p := 8) rfl rfl rfl ?_
  refine R_iconst (p := 9) rfl ki_0 rfl ?_
  refine R_istore (p := 11) rfl rfl rfl ?_
  exact LX0_glasses_11 hK hd hk _ _ h hq _ (jg_ne (jg_ne (jg_ne l0 rfl) rfl) rfl) (jg_ne (jg_ne (jg_ne l1 rfl) rfl) rfl) (jg_ne jg_self rfl) (jg_ne (jg_ne jg_self rfl) rfl) jg_self
theorem tfX0_glasses {xs : List Int32} {d : Nat} {K : Mem → List jE} (hK : Ctx shC K) (hd : 3 ≤ d) {k : Nat} (hk : k < 3) {x1 : Int32} {m : Mem} {t : Int32} (h : fX0_glasses k x1 m = some t) : CallD (jcs xs) d 11 [.ref (cw k 2), .int x1] (K m) (some (.int t), (K m)) := by
  obtain ⟨d, rfl⟩ : ∃ z, d = z + 1 := ⟨d - 1, by omega⟩
  refine CallD_of jmt_X0_glasses rfl ⟨rfl, Nat.le_of_ble_eq_true rfl⟩ ?_
  exact ufX0_glasses hK (Nat.le_of_succ_le_succ hd) hk rfl rfl h rfl
noncomputable def fX1_dry (x0 : Int32) (x1 : Int32) : Int32 := (if x0 = (3 : Int32) then (x1 / (2 : Int32)) else (if x0 = (4 : Int32) then (x1 * (2 : Int32)) else (if x0 = (5 : Int32) then (0 : Int32) else x1)))
theorem ufX1_dry {xs : List Int32} {d : Nat} {r : jR} {hh : List jE} (hd : 0 ≤ d) {x0 : Int32} {x1 : Int32} {L : List (Nat × Value)} (l0 : jget L 0 = some (.int x0)) (l1 : jget L 1 = some (.int x1)) {t : Int32} (h : fX1_dry x0 x1 = t) (hq : (qI r hh) t) : RunD (jcs xs) d 2 (some .int) jt_X1_dry (0, L, [], hh) r := by
  unfold fX1_dry at h
  refine R_iload_n (p := 1) rfl l0 rfl ?_
  by_cases n1 : x0 = (3 : Int32)
  · replace h := ite_t h n1
    refine R_tsw (p := 28) rfl rfl (by rw [n1]; decide +kernel) ?_
    refine R_iload_n (p := 29) rfl l1 rfl ?_
    refine R_iconst (p := 30) rfl ki_2 rfl ?_
    refine R_idiv (p := 31) rfl (by decide) rfl ?_
    subst h
    exact R_ireturn rfl rfl hq
  replace h := ite_f h n1
  by_cases n2 : x0 = (4 : Int32)
  · replace h := ite_t h n2
    refine R_tsw (p := 32) rfl rfl (by rw [n2]; decide +kernel) ?_
    refine R_iload_n (p := 33) rfl l1 rfl ?_
    refine R_iconst (p := 34) rfl ki_2 rfl ?_
    refine R_imul (p := 35) rfl rfl ?_
    subst h
    exact R_ireturn rfl rfl hq
  replace h := ite_f h n2
  by_cases n3 : x0 = (5 : Int32)
  · replace h := ite_t h n3
    refine R_tsw (p := 36) rfl rfl (by rw [n3]; decide +kernel) ?_
    refine R_iconst (p := 37) rfl ki_0 rfl ?_
    subst h
    exact R_ireturn rfl rfl hq
  replace h := ite_f h n3
  refine R_tsw (p := 38) rfl rfl (tsw_d [(3 : Int32), (4 : Int32), (5 : Int32)] (List.forall_mem_cons.mpr ⟨n1, List.forall_mem_cons.mpr ⟨n2, List.forall_mem_cons.mpr ⟨n3, fun _ h9 => absurd h9 List.not_mem_nil⟩⟩⟩) (by decide +kernel) rfl) ?_
  refine R_iload_n (p := 39) rfl l1 rfl ?_
  subst h
  exact R_ireturn rfl rfl hq
theorem tfX1_dry {xs : List Int32} {d : Nat} {hh : List jE} (hd : 1 ≤ d) {x0 : Int32} {x1 : Int32} : CallD (jcs xs) d 35 [.int x0, .int x1] hh (some (.int (fX1_dry x0 x1)), hh) := by
  obtain ⟨d, rfl⟩ : ∃ z, d = z + 1 := ⟨d - 1, by omega⟩
  refine CallD_of jmt_X1_dry rfl ⟨rfl, Nat.le_of_ble_eq_true rfl⟩ ?_
  exact ufX1_dry (Nat.le_of_succ_le_succ hd) rfl rfl rfl rfl
noncomputable def fX7_dry (k : Nat) (x1 : Int32) (m : Mem) : Option Int32 := (if (fX0_has k x1 m) = 0 then some (0 : Int32) else (if inb x1 16 then some (fX1_dry (m (cw k 3) x1.toNatClampNeg) (m (cw k 1) 7)) else none))
theorem ufX7_dry {xs : List Int32} {d : Nat} {r : jR} {K : Mem → List jE} (hK : Ctx shC K) (hd : 1 ≤ d) {k : Nat} (hk : k < 3) {x1 : Int32} {m : Mem} {L : List (Nat × Value)} (l0 : jget L 0 = some (.ref (cw k 1))) (l1 : jget L 1 = some (.int x1)) {t : Int32} (h : fX7_dry k x1 m = some t) (hq : (qI r (K m)) t) : RunD (jcs xs) d 2 (some .int) jt_X7_dry (0, L, [], (K m)) r := by
  unfold fX7_dry at h
  refine R_aload_n (p := 1) rfl l0 rfl ?_
  refine R_getR (p := 4) (q := (cw k 2)) hK rfl (s_w1 hk) rfl rfl ?_
  refine R_iload_n (p := 5) rfl l1 rfl ?_
  refine R_cV2v (p := 8) hK rfl (s_w2 hk) (tfX0_has hK (Nat.le_trans (by decide) hd) hk) rfl rfl ?_
  by_cases hc : (fX0_has k x1 m) = 0
  · replace h := ite_t h hc
    refine R_ifeq_t rfl hc ?_
    refine R_iconst (p := 31) rfl ki_0 rfl ?_
    obtain rfl := Option.some.inj h
    exact R_ireturn rfl rfl hq
  · replace h := ite_f h hc
    refine R_ifeq_f (p := 11) rfl hc rfl ?_
    refine R_aload_n (p := 12) rfl l0 rfl ?_
    refine R_getR (p := 15) (q := (cw k 2)) hK rfl (s_w1 hk) rfl rfl ?_
    refine R_getR (p := 18) (q := (cw k 3)) hK rfl (s_w2 hk) rfl rfl ?_
    refine R_iload_n (p := 19) rfl l1 rfl ?_
    obtain ⟨b2, h⟩ := gd h
    refine R_iald (p := 20) hK rfl (s_w3 hk) b2 rfl ?_
    refine R_aload_n (p := 21) rfl l0 rfl ?_
    refine R_getI (p := 24) hK rfl (s_w1 hk) rfl rfl ?_
    refine R_cS2v (p := 27) rfl (tfX1_dry (Nat.le_trans (by decide) hd) ) rfl rfl ?_
    refine R_goto rfl ?_
    obtain rfl := Option.some.inj h
    exact R_ireturn rfl rfl hq
theorem tfX7_dry {xs : List Int32} {d : Nat} {K : Mem → List jE} (hK : Ctx shC K) (hd : 2 ≤ d) {k : Nat} (hk : k < 3) {x1 : Int32} {m : Mem} {t : Int32} (h : fX7_dry k x1 m = some t) : CallD (jcs xs) d 84 [.ref (cw k 1), .int x1] (K m) (some (.int t), (K m)) := by
  obtain ⟨d, rfl⟩ : ∃ z, d = z + 1 := ⟨d - 1, by omega⟩
  refine CallD_of jmt_X7_dry rfl ⟨rfl, Nat.le_of_ble_eq_true rfl⟩ ?_
  exact ufX7_dry hK (Nat.le_of_succ_le_succ hd) hk rfl rfl h rfl
noncomputable def fX1_lets (x0 : Int32) : Int32 := (if x0 = (1 : Int32) then (4 : Int32) else (if x0 = (2 : Int32) then (7 : Int32) else (if x0 = (4 : Int32) then (6 : Int32) else (if x0 = (5 : Int32) then (10 : Int32) else (12 : Int32)))))
theorem ufX1_lets {xs : List Int32} {d : Nat} {r : jR} {hh : List jE} (hd : 0 ≤ d) {x0 : Int32} {L : List (Nat × Value)} (l0 : jget L 0 = some (.int x0)) {t : Int32} (h : fX1_lets x0 = t) (hq : (qI r hh) t) : RunD (jcs xs) d 1 (some .int) jt_X1_lets (0, L, [], hh) r := by
  unfold fX1_lets at h
  refine R_iload_n (p := 1) rfl l0 rfl ?_
  by_cases n1 : x0 = (1 : Int32)
  · replace h := ite_t h n1
    refine R_tsw (p := 36) rfl rfl (by rw [n1]; decide +kernel) ?_
    refine R_iconst (p := 37) rfl ki_4 rfl ?_
    subst h
    exact R_ireturn rfl rfl hq
  replace h := ite_f h n1
  by_cases n2 : x0 = (2 : Int32)
  · replace h := ite_t h n2
    refine R_tsw (p := 38) rfl rfl (by rw [n2]; decide +kernel) ?_
    refine R_bipush (p := 40) rfl kb_7 rfl ?_
    subst h
    exact R_ireturn rfl rfl hq
  replace h := ite_f h n2
  by_cases n3 : x0 = (4 : Int32)
  · replace h := ite_t h n3
    refine R_tsw (p := 41) rfl rfl (by rw [n3]; decide +kernel) ?_
    refine R_bipush (p := 43) rfl kb_6 rfl ?_
    subst h
    exact R_ireturn rfl rfl hq
  replace h := ite_f h n3
  by_cases n4 : x0 = (5 : Int32)
  · replace h := ite_t h n4
    refine R_tsw (p := 44) rfl rfl (by rw [n4]; decide +kernel) ?_
    refine R_bipush (p := 46) rfl kb_10 rfl ?_
    subst h
    exact R_ireturn rfl rfl hq
  replace h := ite_f h n4
  refine R_tsw (p := 47) rfl rfl (tsw_d [(1 : Int32), (2 : Int32), (4 : Int32), (5 : Int32)] (List.forall_mem_cons.mpr ⟨n1, List.forall_mem_cons.mpr ⟨n2, List.forall_mem_cons.mpr ⟨n3, List.forall_mem_cons.mpr ⟨n4, fun _ h9 => absurd h9 List.not_mem_nil⟩⟩⟩⟩) (by decide +kernel) rfl) ?_
  refine R_bipush (p := 49) rfl kb_12 rfl ?_
  subst h
  exact R_ireturn rfl rfl hq
theorem tfX1_lets {xs : List Int32} {d : Nat} {hh : List jE} (hd : 1 ≤ d) {x0 : Int32} : CallD (jcs xs) d 34 [.int x0] hh (some (.int (fX1_lets x0)), hh) := by
  obtain ⟨d, rfl⟩ : ∃ z, d = z + 1 := ⟨d - 1, by omega⟩
  refine CallD_of jmt_X1_lets rfl ⟨rfl, Nat.le_of_ble_eq_true rfl⟩ ?_
  exact ufX1_lets (Nat.le_of_succ_le_succ hd) rfl rfl rfl
noncomputable def fX5_isTold (k : Nat) (u : Nat) (m : Mem) : Int32 := (if (m (cw k (27 + 3 * u)) 0) ≤ 0 then (0 : Int32) else (1 : Int32))
theorem ufX5_isTold {xs : List Int32} {d : Nat} {r : jR} {K : Mem → List jE} (hK : Ctx shC K) (hd : 0 ≤ d) {k : Nat} {u : Nat} (hk : k < 3) (hu : u < 3) {m : Mem} {L : List (Nat × Value)} (l0 : jget L 0 = some (.ref (cw k (27 + 3 * u)))) {t : Int32} (h : fX5_isTold k u m = t) (hq : (qI r (K m)) t) : RunD (jcs xs) d 1 (some .boolean) jt_X5_isTold (0, L, [], (K m)) r := by
  unfold fX5_isTold at h
  refine R_aload_n (p := 1) rfl l0 rfl ?_
  refine R_getI (p := 4) hK rfl (s_text hk hu) rfl rfl ?_
  by_cases hc : (m (cw k (27 + 3 * u)) 0) ≤ 0
  · replace h := ite_t h hc
    refine R_ifle_t rfl hc ?_
    refine R_iconst (p := 12) rfl ki_0 rfl ?_
    subst h
    exact R_zreturn rfl rfl (by decide) hq
  · replace h := ite_f h hc
    refine R_ifle_f (p := 7) rfl hc rfl ?_
    refine R_iconst (p := 8) rfl ki_1 rfl ?_
    refine R_goto rfl ?_
    subst h
    exact R_zreturn rfl rfl (by decide) hq
theorem tfX5_isTold {xs : List Int32} {d : Nat} {K : Mem → List jE} (hK : Ctx shC K) (hd : 1 ≤ d) {k : Nat} {u : Nat} (hk : k < 3) (hu : u < 3) {m : Mem} : CallD (jcs xs) d 67 [.ref (cw k (27 + 3 * u))] (K m) (some (.int (fX5_isTold k u m)), (K m)) := by
  obtain ⟨d, rfl⟩ : ∃ z, d = z + 1 := ⟨d - 1, by omega⟩
  refine CallD_of jmt_X5_isTold rfl ⟨rfl, Nat.le_of_ble_eq_true rfl⟩ ?_
  exact ufX5_isTold hK (Nat.le_of_succ_le_succ hd) hk hu rfl rfl rfl
noncomputable def fX7_name (k : Nat) (x1 : Int32) (x2 : Int32) (x3 : Int32) (x4 : Int32) (x5 : Int32) (m : Mem) : Mem := (mput (mput (mput (mput (mput m (cw k 38) 0 x1) (cw k 38) 1 x2) (cw k 38) 2 x3) (cw k 38) 3 x4) (cw k 38) 4 x5)
theorem ufX7_name {xs : List Int32} {d : Nat} {r : jR} {K : Mem → List jE} (hK : Ctx shC K) (hd : 0 ≤ d) {k : Nat} (hk : k < 3) {x1 : Int32} {x2 : Int32} {x3 : Int32} {x4 : Int32} {x5 : Int32} {m : Mem} {L : List (Nat × Value)} (l0 : jget L 0 = some (.ref (cw k 1))) (l1 : jget L 1 = some (.int x1)) (l2 : jget L 2 = some (.int x2)) (l3 : jget L 3 = some (.int x3)) (l4 : jget L 4 = some (.int x4)) (l5 : jget L 5 = some (.int x5)) {t : Mem} (h : fX7_name k x1 x2 x3 x4 x5 m = t) (hq : (qM r K) t) : RunD (jcs xs) d 6 (none) jt_X7_name (0, L, [], (K m)) r := by
  unfold fX7_name at h
  refine R_aload_n (p := 1) rfl l0 rfl ?_
  refine R_getR (p := 4) (q := (cw k 38)) hK rfl (s_w1 hk) rfl rfl ?_
  refine R_iconst (p := 5) rfl ki_0 rfl ?_
  refine R_iload_n (p := 6) rfl l1 rfl ?_
  refine R_iask (p := 7) hK rfl (s_w38 hk) (by decide) kn_0 rfl ?_
  refine R_aload_n (p := 8) rfl l0 rfl ?_
  refine R_getR (p := 11) (q := (cw k 38)) hK rfl (s_w1 hk) rfl rfl ?_
  refine R_iconst (p := 12) rfl ki_1 rfl ?_
  refine R_iload_n (p := 13) rfl l2 rfl ?_
  refine R_iask (p := 14) hK rfl (s_w38 hk) (by decide) kn_1 rfl ?_
  refine R_aload_n (p := 15) rfl l0 rfl ?_
  refine R_getR (p := 18) (q := (cw k 38)) hK rfl (s_w1 hk) rfl rfl ?_
  refine R_iconst (p := 19) rfl ki_2 rfl ?_
  refine R_iload_n (p := 20) rfl l3 rfl ?_
  refine R_iask (p := 21) hK rfl (s_w38 hk) (by decide) kn_2 rfl ?_
  refine R_aload_n (p := 22) rfl l0 rfl ?_
  refine R_getR (p := 25) (q := (cw k 38)) hK rfl (s_w1 hk) rfl rfl ?_
  refine R_iconst (p := 26) rfl ki_3 rfl ?_
  refine R_iload (p := 28) rfl l4 rfl ?_
  refine R_iask (p := 29) hK rfl (s_w38 hk) (by decide) kn_3 rfl ?_
  refine R_aload_n (p := 30) rfl l0 rfl ?_
  refine R_getR (p := 33) (q := (cw k 38)) hK rfl (s_w1 hk) rfl rfl ?_
  refine R_iconst (p := 34) rfl ki_4 rfl ?_
  refine R_iload (p := 36) rfl l5 rfl ?_
  refine R_iask (p := 37) hK rfl (s_w38 hk) (by decide) kn_4 rfl ?_
  subst h
  exact R_return rfl rfl hq
theorem tfX7_name {xs : List Int32} {d : Nat} {K : Mem → List jE} (hK : Ctx shC K) (hd : 1 ≤ d) {k : Nat} (hk : k < 3) {x1 : Int32} {x2 : Int32} {x3 : Int32} {x4 : Int32} {x5 : Int32} {m : Mem} : CallD (jcs xs) d 88 [.ref (cw k 1), .int x1, .int x2, .int x3, .int x4, .int x5] (K m) (none, K (fX7_name k x1 x2 x3 x4 x5 m)) := by
  obtain ⟨d, rfl⟩ : ∃ z, d = z + 1 := ⟨d - 1, by omega⟩
  refine CallD_of jmt_X7_name rfl ⟨rfl, Nat.le_of_ble_eq_true rfl⟩ ?_
  exact ufX7_name hK (Nat.le_of_succ_le_succ hd) hk rfl rfl rfl rfl rfl rfl rfl rfl
noncomputable def fX5_ofSign (x0 : Int32) : Int32 := ((-100 : Int32) - x0)
theorem ufX5_ofSign {xs : List Int32} {d : Nat} {r : jR} {hh : List jE} (hd : 0 ≤ d) {x0 : Int32} {L : List (Nat × Value)} (l0 : jget L 0 = some (.int x0)) {t : Int32} (h : fX5_ofSign x0 = t) (hq : (qI r hh) t) : RunD (jcs xs) d 1 (some .int) jt_X5_ofSign (0, L, [], hh) r := by
  unfold fX5_ofSign at h
  refine R_bipush (p := 2) rfl kb_m100 rfl ?_
  refine R_iload_n (p := 3) rfl l0 rfl ?_
  refine R_isub (p := 4) rfl rfl ?_
  subst h
  exact R_ireturn rfl rfl hq
theorem tfX5_ofSign {xs : List Int32} {d : Nat} {hh : List jE} (hd : 1 ≤ d) {x0 : Int32} : CallD (jcs xs) d 66 [.int x0] hh (some (.int (fX5_ofSign x0)), hh) := by
  obtain ⟨d, rfl⟩ : ∃ z, d = z + 1 := ⟨d - 1, by omega⟩
  refine CallD_of jmt_X5_ofSign rfl ⟨rfl, Nat.le_of_ble_eq_true rfl⟩ ?_
  exact ufX5_ofSign (Nat.le_of_succ_le_succ hd) rfl rfl rfl
noncomputable def fX5_worked (x0 : Int32) (x1 : Int32) (x2 : Int32) : Option Int32 := (if x0 = (37 : Int32) then (if x2 = 0 then some (0 : Int32) else (if ¬ x2 = 0 then some (x1 - x1 / x2 * x2) else none)) else (if x0 = (38 : Int32) then (if x1 = 0 then some (0 : Int32) else (if x2 = 0 then some (0 : Int32) else some (1 : Int32))) else (if x0 = (42 : Int32) then some (x1 * x2) else (if x0 = (43 : Int32) then some (x1 + x2) else (if x0 = (45 : Int32) then some (x1 - x2) else (if x0 = (47 : Int32) then (if x2 = 0 then some (0 : Int32) else (if ¬ x2 = 0 then some (x1 / x2) else none)) else (if x0 = (60 : Int32) then (if x2 ≤ x1 then some (0 : Int32) else some (1 : Int32)) else (if x0 = (61 : Int32) then (if x1 = x2 then some (1 : Int32) else some (0 : Int32)) else (if x0 = (62 : Int32) then (if x1 ≤ x2 then some (0 : Int32) else some (1 : Int32)) else (if x0 = (124 : Int32) then (if x1 = 0 then (if x2 = 0 then some (0 : Int32) else some (1 : Int32)) else some (1 : Int32)) else some (0 : Int32)))))))))))
theorem ufX5_worked {xs : List Int32} {d : Nat} {r : jR} {hh : List jE} (hd : 0 ≤ d) {x0 : Int32} {x1 : Int32} {x2 : Int32} {L : List (Nat × Value)} (l0 : jget L 0 = some (.int x0)) (l1 : jget L 1 = some (.int x1)) (l2 : jget L 2 = some (.int x2)) {t : Int32} (h : fX5_worked x0 x1 x2 = some t) (hq : (qI r hh) t) : RunD (jcs xs) d 3 (some .int) jt_X5_worked (0, L, [], hh) r := by
  unfold fX5_worked at h
  refine R_iload_n (p := 1) rfl l0 rfl ?_
  by_cases n2 : x0 = (37 : Int32)
  · replace h := ite_t h n2
    refine R_lsw (p := 177) rfl rfl (by rw [n2]; decide +kernel) ?_
    refine R_iload_n (p := 178) rfl l2 rfl ?_
    by_cases hc : x2 = 0
    · replace h := ite_t h hc
      refine R_ifne_f (p := 181) rfl (fun z => z hc) rfl ?_
      refine R_iconst (p := 182) rfl ki_0 rfl ?_
      refine R_goto rfl ?_
      obtain rfl := Option.some.inj h
      exact R_ireturn rfl rfl hq
    · replace h := ite_f h hc
      refine R_ifne_t rfl hc ?_
      refine R_iload_n (p := 186) rfl l1 rfl ?_
      refine R_iload_n (p := 187) rfl l2 rfl ?_
      obtain ⟨b1, h⟩ := gd h
      refine R_irem (p := 188) rfl b1 rfl ?_
      obtain rfl := Option.some.inj h
      exact R_ireturn rfl rfl hq
  replace h := ite_f h n2
  by_cases n3 : x0 = (38 : Int32)
  · replace h := ite_t h n3
    refine R_lsw (p := 106) rfl rfl (by rw [n3]; decide +kernel) ?_
    refine R_iload_n (p := 107) rfl l1 rfl ?_
    by_cases hc : x1 = 0
    · replace h := ite_t h hc
      refine R_ifeq_t rfl hc ?_
      refine R_iconst (p := 119) rfl ki_0 rfl ?_
      obtain rfl := Option.some.inj h
      exact R_ireturn rfl rfl hq
    · replace h := ite_f h hc
      refine R_ifeq_f (p := 110) rfl hc rfl ?_
      refine R_iload_n (p := 111) rfl l2 rfl ?_
      by_cases hc : x2 = 0
      · replace h := ite_t h hc
        refine R_ifeq_t rfl hc ?_
        refine R_iconst (p := 119) rfl ki_0 rfl ?_
        obtain rfl := Option.some.inj h
        exact R_ireturn rfl rfl hq
      · replace h := ite_f h hc
        refine R_ifeq_f (p := 114) rfl hc rfl ?_
        refine R_iconst (p := 115) rfl ki_1 rfl ?_
        refine R_goto rfl ?_
        obtain rfl := Option.some.inj h
        exact R_ireturn rfl rfl hq
  replace h := ite_f h n3
  by_cases n4 : x0 = (42 : Int32)
  · replace h := ite_t h n4
    refine R_lsw (p := 161) rfl rfl (by rw [n4]; decide +kernel) ?_
    refine R_iload_n (p := 162) rfl l1 rfl ?_
    refine R_iload_n (p := 163) rfl l2 rfl ?_
    refine R_imul (p := 164) rfl rfl ?_
    obtain rfl := Option.some.inj h
    exact R_ireturn rfl rfl hq
  replace h := ite_f h n4
  by_cases n5 : x0 = (43 : Int32)
  · replace h := ite_t h n5
    refine R_lsw (p := 153) rfl rfl (by rw [n5]; decide +kernel) ?_
    refine R_iload_n (p := 154) rfl l1 rfl ?_
    refine R_iload_n (p := 155) rfl l2 rfl ?_
    refine R_iadd (p := 156) rfl rfl ?_
    obtain rfl := Option.some.inj h
    exact R_ireturn rfl rfl hq
  replace h := ite_f h n5
  by_cases n6 : x0 = (45 : Int32)
  · replace h := ite_t h n6
    refine R_lsw (p := 157) rfl rfl (by rw [n6]; decide +kernel) ?_
    refine R_iload_n (p := 158) rfl l1 rfl ?_
    refine R_iload_n (p := 159) rfl l2 rfl ?_
    refine R_isub (p := 160) rfl rfl ?_
    obtain rfl := Option.some.inj h
    exact R_ireturn rfl rfl hq
  replace h := ite_f h n6
  by_cases n8 : x0 = (47 : Int32)
  · replace h := ite_t h n8
    refine R_lsw (p := 165) rfl rfl (by rw [n8]; decide +kernel) ?_
    refine R_iload_n (p := 166) rfl l2 rfl ?_
    by_cases hc : x2 = 0
    · replace h := ite_t h hc
      refine R_ifne_f (p := 169) rfl (fun z => z hc) rfl ?_
      refine R_iconst (p := 170) rfl ki_0 rfl ?_
      refine R_goto rfl ?_
      obtain rfl := Option.some.inj h
      exact R_ireturn rfl rfl hq
    · replace h := ite_f h hc
      refine R_ifne_t rfl hc ?_
      refine R_iload_n (p := 174) rfl l1 rfl ?_
      refine R_iload_n (p := 175) rfl l2 rfl ?_
      obtain ⟨b7, h⟩ := gd h
      refine R_idiv (p := 176) rfl b7 rfl ?_
      obtain rfl := Option.some.inj h
      exact R_ireturn rfl rfl hq
  replace h := ite_f h n8
  by_cases n9 : x0 = (60 : Int32)
  · replace h := ite_t h n9
    refine R_lsw (p := 120) rfl rfl (by rw [n9]; decide +kernel) ?_
    refine R_iload_n (p := 121) rfl l1 rfl ?_
    refine R_iload_n (p := 122) rfl l2 rfl ?_
    by_cases hc : x2 ≤ x1
    · replace h := ite_t h hc
      refine R_icge_t rfl hc ?_
      refine R_iconst (p := 130) rfl ki_0 rfl ?_
      obtain rfl := Option.some.inj h
      exact R_ireturn rfl rfl hq
    · replace h := ite_f h hc
      refine R_icge_f (p := 125) rfl hc rfl ?_
      refine R_iconst (p := 126) rfl ki_1 rfl ?_
      refine R_goto rfl ?_
      obtain rfl := Option.some.inj h
      exact R_ireturn rfl rfl hq
  replace h := ite_f h n9
  by_cases n10 : x0 = (61 : Int32)
  · replace h := ite_t h n10
    refine R_lsw (p := 131) rfl rfl (by rw [n10]; decide +kernel) ?_
    refine R_iload_n (p := 132) rfl l1 rfl ?_
    refine R_iload_n (p := 133) rfl l2 rfl ?_
    by_cases hc : x1 = x2
    · replace h := ite_t h hc
      refine R_icne_f (p := 136) rfl (fun z => z hc) rfl ?_
      refine R_iconst (p := 137) rfl ki_1 rfl ?_
      refine R_goto rfl ?_
      obtain rfl := Option.some.inj h
      exact R_ireturn rfl rfl hq
    · replace h := ite_f h hc
      refine R_icne_t rfl hc ?_
      refine R_iconst (p := 141) rfl ki_0 rfl ?_
      obtain rfl := Option.some.inj h
      exact R_ireturn rfl rfl hq
  replace h := ite_f h n10
  by_cases n11 : x0 = (62 : Int32)
  · replace h := ite_t h n11
    refine R_lsw (p := 142) rfl rfl (by rw [n11]; decide +kernel) ?_
    refine R_iload_n (p := 143) rfl l1 rfl ?_
    refine R_iload_n (p := 144) rfl l2 rfl ?_
    by_cases hc : x1 ≤ x2
    · replace h := ite_t h hc
      refine R_icle_t rfl hc ?_
      refine R_iconst (p := 152) rfl ki_0 rfl ?_
      obtain rfl := Option.some.inj h
      exact R_ireturn rfl rfl hq
    · replace h := ite_f h hc
      refine R_icle_f (p := 147) rfl hc rfl ?_
      refine R_iconst (p := 148) rfl ki_1 rfl ?_
      refine R_goto rfl ?_
      obtain rfl := Option.some.inj h
      exact R_ireturn rfl rfl hq
  replace h := ite_f h n11
  by_cases n12 : x0 = (124 : Int32)
  · replace h := ite_t h n12
    refine R_lsw (p := 92) rfl rfl (by rw [n12]; decide +kernel) ?_
    refine R_iload_n (p := 93) rfl l1 rfl ?_
    by_cases hc : x1 = 0
    · replace h := ite_t h hc
      refine R_ifne_f (p := 96) rfl (fun z => z hc) rfl ?_
      refine R_iload_n (p := 97) rfl l2 rfl ?_
      by_cases hc : x2 = 0
      · replace h := ite_t h hc
        refine R_ifeq_t rfl hc ?_
        refine R_iconst (p := 105) rfl ki_0 rfl ?_
        obtain rfl := Option.some.inj h
        exact R_ireturn rfl rfl hq
      · replace h := ite_f h hc
        refine R_ifeq_f (p := 100) rfl hc rfl ?_
        refine R_iconst (p := 101) rfl ki_1 rfl ?_
        refine R_goto rfl ?_
        obtain rfl := Option.some.inj h
        exact R_ireturn rfl rfl hq
    · replace h := ite_f h hc
      refine R_ifne_t rfl hc ?_
      refine R_iconst (p := 101) rfl ki_1 rfl ?_
      refine R_goto rfl ?_
      obtain rfl := Option.some.inj h
      exact R_ireturn rfl rfl hq
  replace h := ite_f h n12
  refine R_lsw (p := 189) rfl rfl (lsw_d [(37 : Int32), (38 : Int32), (42 : Int32), (43 : Int32), (45 : Int32), (47 : Int32), (60 : Int32), (61 : Int32), (62 : Int32), (124 : Int32)] (List.forall_mem_cons.mpr ⟨n2, List.forall_mem_cons.mpr ⟨n3, List.forall_mem_cons.mpr ⟨n4, List.forall_mem_cons.mpr ⟨n5, List.forall_mem_cons.mpr ⟨n6, List.forall_mem_cons.mpr ⟨n8, List.forall_mem_cons.mpr ⟨n9, List.forall_mem_cons.mpr ⟨n10, List.forall_mem_cons.mpr ⟨n11, List.forall_mem_cons.mpr ⟨n12, fun _ h9 => absurd h9 List.not_mem_nil⟩⟩⟩⟩⟩⟩⟩⟩⟩⟩) (by decide +kernel) rfl) ?_
  refine R_iconst (p := 190) rfl ki_0 rfl ?_
  obtain rfl := Option.some.inj h
  exact R_ireturn rfl rfl hq
theorem tfX5_worked {xs : List Int32} {d : Nat} {hh : List jE} (hd : 1 ≤ d) {x0 : Int32} {x1 : Int32} {x2 : Int32} {t : Int32} (h : fX5_worked x0 x1 x2 = some t) : CallD (jcs xs) d 72 [.int x0, .int x1, .int x2] hh (some (.int t), hh) := by
  obtain ⟨d, rfl⟩ : ∃ z, d = z + 1 := ⟨d - 1, by omega⟩
  refine CallD_of jmt_X5_worked rfl ⟨rfl, Nat.le_of_ble_eq_true rfl⟩ ?_
  exact ufX5_worked (Nat.le_of_succ_le_succ hd) rfl rfl rfl h rfl
noncomputable def fX5_plain_5 (x0 : Int32) (c1 : Nat) (m : Mem) : Option Int32 := (if x0 < 0 then (if (5 : Int32) ≤ ((-1 : Int32) - x0) then some (0 : Int32) else (if inb ((-1 : Int32) - x0) 5 then some (m c1 ((-1 : Int32) - x0).toNatClampNeg) else none)) else some x0)
theorem ufX5_plain_5 {xs : List Int32} {d : Nat} {r : jR} {K : Mem → List jE} (hK : Ctx shC K) (hd : 0 ≤ d) {c1 : Nat} (hc1 : shC c1 = some (.inr (.inl 5))) {x0 : Int32} {m : Mem} {L : List (Nat × Value)} (l0 : jget L 0 = some (.int x0)) (l1 : jget L 1 = some (.ref c1)) {t : Int32} (h : fX5_plain_5 x0 c1 m = some t) (hq : (qI r (K m)) t) : RunD (jcs xs) d 3 (some .int) jt_X5_plain (0, L, [], (K m)) r := by
  unfold fX5_plain_5 at h
  refine R_iload_n (p := 1) rfl l0 rfl ?_
  by_cases hc : x0 < 0
  · replace h := ite_t h hc
    refine R_iflt_t rfl hc ?_
    refine R_iconst (p := 7) rfl ki_m1 rfl ?_
    refine R_iload_n (p := 8) rfl l0 rfl ?_
    refine R_isub (p := 9) rfl rfl ?_
    refine R_istore_n (p := 10) rfl rfl rfl ?_
    refine R_iload_n (p := 11) rfl jg_self rfl ?_
    refine R_aload_n (p := 12) rfl (jg_ne l1 rfl) rfl ?_
    refine R_alen (p := 13) (x := (5 : Int32)) hK rfl hc1 rfl rfl ?_
    by_cases hc : (5 : Int32) ≤ ((-1 : Int32) - x0)
    · replace h := ite_t h hc
      refine R_icge_t rfl hc ?_
      refine R_iconst (p := 23) rfl ki_0 rfl ?_
      obtain rfl := Option.some.inj h
      exact R_ireturn rfl rfl hq
    · replace h := ite_f h hc
      refine R_icge_f (p := 16) rfl hc rfl ?_
      refine R_aload_n (p := 17) rfl (jg_ne l1 rfl) rfl ?_
      refine R_iload_n (p := 18) rfl jg_self rfl ?_
      obtain ⟨b1, h⟩ := gd h
      refine R_iald (p := 19) hK rfl hc1 b1 rfl ?_
      refine R_goto rfl ?_
      obtain rfl := Option.some.inj h
      exact R_ireturn rfl rfl hq
  · replace h := ite_f h hc
    refine R_iflt_f (p := 4) rfl hc rfl ?_
    refine R_iload_n (p := 5) rfl l0 rfl ?_
    obtain rfl := Option.some.inj h
    exact R_ireturn rfl rfl hq
theorem tfX5_plain_5 {xs : List Int32} {d : Nat} {K : Mem → List jE} (hK : Ctx shC K) (hd : 1 ≤ d) {c1 : Nat} (hc1 : shC c1 = some (.inr (.inl 5))) {x0 : Int32} {m : Mem} {t : Int32} (h : fX5_plain_5 x0 c1 m = some t) : CallD (jcs xs) d 71 [.int x0, .ref c1] (K m) (some (.int t), (K m)) := by
  obtain ⟨d, rfl⟩ : ∃ z, d = z + 1 := ⟨d - 1, by omega⟩
  refine CallD_of jmt_X5_plain rfl ⟨rfl, Nat.le_of_ble_eq_true rfl⟩ ?_
  exact ufX5_plain_5 hK (Nat.le_of_succ_le_succ hd) hc1 rfl rfl h rfl
noncomputable def bX5_value_5_144 (k : Nat) (u : Nat) (c1 : Nat) (x2 : Int32) (m : Mem) : Option (Int32 × Mem) := (if x2 ≤ 0 then some ((0 : Int32), m) else (if inb (x2 - (1 : Int32)) 60 then some ((m (cw k (29 + 3 * u)) (x2 - (1 : Int32)).toNatClampNeg), m) else none))
noncomputable def bX5_value_5_95 (k : Nat) (u : Nat) (c1 : Nat) (x2 : Int32) (x3 : Int32) (y1 : Int32) (y2 : Int32) (m : Mem) : Option ((Int32 × Int32 × Mem) ⊕ (Int32 × Mem)) := (if inb y1 60 then some (.inl (x2, (x3 + (1 : Int32)), (mput m (cw k (29 + 3 * u)) y1.toNatClampNeg y2))) else none)
noncomputable def lX5_value_5_4 (k : Nat) (u : Nat) (c1 : Nat) (s : Int32 × Int32 × Mem) : Option ((Int32 × Int32 × Mem) ⊕ (Int32 × Mem)) := (if (s.2.2 (cw k (27 + 3 * u)) 0) ≤ s.2.1 then (bX5_value_5_144 k u c1 s.1 s.2.2).map Sum.inr else (if (60 : Int32) ≤ s.2.1 then (bX5_value_5_144 k u c1 s.1 s.2.2).map Sum.inr else (if inb s.2.1 60 then (if (s.2.2 (cw k (28 + 3 * u)) s.2.1.toNatClampNeg) ≤ (-100 : Int32) then (if (s.2.2 (cw k (28 + 3 * u)) s.2.1.toNatClampNeg) = (fX5_ofSign (33 : Int32)) then (if s.1 < (1 : Int32) then some (.inl (s.1, (s.2.1 + (1 : Int32)), s.2.2)) else (if inb (s.1 - (1 : Int32)) 60 then (if (s.2.2 (cw k (29 + 3 * u)) (s.1 - (1 : Int32)).toNatClampNeg) = 0 then bX5_value_5_95 k u c1 s.1 s.2.1 (s.1 - (1 : Int32)) (1 : Int32) s.2.2 else bX5_value_5_95 k u c1 s.1 s.2.1 (s.1 - (1 : Int32)) (0 : Int32) s.2.2) else none)) else (if s.1 < (2 : Int32) then some (.inl (s.1, (s.2.1 + (1 : Int32)), s.2.2)) else (if inb ((s.1 + (-1 : Int32)) - (1 : Int32)) 60 then (if inb (s.1 + (-1 : Int32)) 60 then (fX5_worked (jI2c ((-100 : Int32) - (s.2.2 (cw k (28 + 3 * u)) s.2.1.toNatClampNeg))) (s.2.2 (cw k (29 + 3 * u)) ((s.1 + (-1 : Int32)) - (1 : Int32)).toNatClampNeg) (s.2.2 (cw k (29 + 3 * u)) (s.1 + (-1 : Int32)).toNatClampNeg)).bind fun q8 => (if inb ((s.1 + (-1 : Int32)) - (1 : Int32)) 60 then some (.inl ((s.1 + (-1 : Int32)), (s.2.1 + (1 : Int32)), (mput s.2.2 (cw k (29 + 3 * u)) ((s.1 + (-1 : Int32)) - (1 : Int32)).toNatClampNeg q8))) else none) else none) else none))) else (if (60 : Int32) ≤ s.1 then some (.inl (s.1, (s.2.1 + (1 : Int32)), s.2.2)) else (fX5_plain_5 (s.2.2 (cw k (28 + 3 * u)) s.2.1.toNatClampNeg) c1 s.2.2).bind fun q10 => (if inb s.1 60 then some (.inl ((s.1 + (1 : Int32)), (s.2.1 + (1 : Int32)), (mput s.2.2 (cw k (29 + 3 * u)) s.1.toNatClampNeg q10))) else none))) else none)))
noncomputable def gX5_value_5_4 (xs : List Int32) (d : Nat) (r : jR) (K : Mem → List jE) (k : Nat) (u : Nat) (c1 : Nat) (s : Int32 × Int32 × Mem) : Prop := ∀ L, jget L 0 = some (.ref (cw k (27 + 3 * u))) → jget L 1 = some (.ref c1) → jget L 2 = some (.int s.1) → jget L 3 = some (.int s.2.1) → RunD (jcs xs) d 5 (some .int) jt_X5_value (4, L, [], (K s.2.2)) r
noncomputable def fX5_value_5 (k : Nat) (u : Nat) (c1 : Nat) (m : Mem) : Option (Int32 × Mem) := lp (lX5_value_5_4 k u c1) fu ((0 : Int32), (0 : Int32), m)
theorem tbX5_value_5_144 {xs : List Int32} {d : Nat} {r : jR} {K : Mem → List jE} (hK : Ctx shC K) (hd : 1 ≤ d) {k : Nat} {u : Nat} {c1 : Nat} (hk : k < 3) (hu : u < 3) (hc1 : shC c1 = some (.inr (.inl 5)))  {x2 : Int32} {m : Mem} {L : List (Nat × Value)} (l0 : jget L 0 = some (.ref (cw k (27 + 3 * u)))) (l2 : jget L 2 = some (.int x2)) {t : (Int32 × Mem)} (h : bX5_value_5_144 k u c1 x2 m = some t) (hq : (qIM r K) t) : RunD (jcs xs) d 5 (some .int) jt_X5_value (144, L, [], (K m)) r := by
  unfold bX5_value_5_144 at h
  refine R_iload_n (p := 145) rfl l2 rfl ?_
  by_cases hc : x2 ≤ 0
  · replace h := ite_t h hc
    refine R_ifle_t rfl hc ?_
    refine R_iconst (p := 160) rfl ki_0 rfl ?_
    obtain rfl := Option.some.inj h
    exact R_ireturn rfl rfl hq
  · replace h := ite_f h hc
    refine R_ifle_f (p := 148) rfl hc rfl ?_
    refine R_aload_n (p := 149) rfl l0 rfl ?_
    refine R_getR (p := 152) (q := (cw k (29 + 3 * u))) hK rfl (s_text hk hu) rfl rfl ?_
    refine R_iload_n (p := 153) rfl l2 rfl ?_
    refine R_iconst (p := 154) rfl ki_1 rfl ?_
    refine R_isub (p := 155) rfl rfl ?_
    obtain ⟨b1, h⟩ := gd h
    refine R_iald (p := 156) hK rfl (s_text29 hk hu) b1 rfl ?_
    refine R_goto rfl ?_
    obtain rfl := Option.some.inj h
    exact R_ireturn rfl rfl hq
theorem tbX5_value_5_95 {xs : List Int32} {d : Nat} {r : jR} {K : Mem → List jE} (hK : Ctx shC K) (hd : 1 ≤ d) {k : Nat} {u : Nat} {c1 : Nat} (hk : k < 3) (hu : u < 3) (hc1 : shC c1 = some (.inr (.inl 5)))  {x2 : Int32} {x3 : Int32} {y1 : Int32} {y2 : Int32} {m : Mem} {L : List (Nat × Value)} (l0 : jget L 0 = some (.ref (cw k (27 + 3 * u)))) (l1 : jget L 1 = some (.ref c1)) (l2 : jget L 2 = some (.int x2)) (l3 : jget L 3 = some (.int x3)) {t : ((Int32 × Int32 × Mem) ⊕ (Int32 × Mem))} (h : bX5_value_5_95 k u c1 x2 x3 y1 y2 m = some t) (hq : (sQ (gX5_value_5_4 xs d r K k u c1) (qIM r K)) t) : RunD (jcs xs) d 5 (some .int) jt_X5_value (95, L, [.int y2, .int y1, .ref (cw k (29 + 3 * u))], (K m)) r := by
  unfold bX5_value_5_95 at h
  obtain ⟨b5, h⟩ := gd h
  refine R_iast (p := 96) hK rfl (s_text29 hk hu) b5 rfl ?_
  refine R_goto rfl ?_
  refine R_iinc (p := 141) rfl l3 rfl ki_1 rfl ?_
  refine R_goto rfl ?_
  obtain rfl := Option.some.inj h
  exact hq _ (jg_ne l0 rfl) (jg_ne l1 rfl) (jg_ne l2 rfl) jg_self
theorem BX5_value_5_4 {xs : List Int32} {d : Nat} {r : jR} {K : Mem → List jE} (hK : Ctx shC K) (hd : 1 ≤ d) {k : Nat} {u : Nat} {c1 : Nat} (hk : k < 3) (hu : u < 3) (hc1 : shC c1 = some (.inr (.inl 5)))  (s : Int32 × Int32 × Mem) {t : (Int32 × Int32 × Mem) ⊕ (Int32 × Mem)} (h : lX5_value_5_4 k u c1 s = some t) (hq : sQ (gX5_value_5_4 xs d r K k u c1) (qIM r K) t) : gX5_value_5_4 xs d r K k u c1 s := by
  intro L l0 l1 l2 l3
  unfold lX5_value_5_4 at h
  refine R_iload_n (p := 5) rfl l3 rfl ?_
  refine R_aload_n (p := 6) rfl l0 rfl ?_
  refine R_getI (p := 9) hK rfl (s_text hk hu) rfl rfl ?_
  by_cases hc : (s.2.2 (cw k (27 + 3 * u)) 0) ≤ s.2.1
  · replace h := ite_t h hc
    refine R_icge_t rfl hc ?_
    obtain ⟨w9, h9, rfl⟩ := map_inr h
    replace h := h9
    exact tbX5_value_5_144 hK hd hk hu hc1 l0 l2 h hq
  · replace h := ite_f h hc
    refine R_icge_f (p := 12) rfl hc rfl ?_
    refine R_iload_n (p := 13) rfl l3 rfl ?_
    refine R_bipush (p := 15) rfl kb_60 rfl ?_
    by_cases hc : (60 : Int32) ≤ s.2.1
    · replace h := ite_t h hc
      refine R_icge_t rfl hc ?_
      obtain ⟨w9, h9, rfl⟩ := map_inr h
      replace h := h9
      exact tbX5_value_5_144 hK hd hk hu hc1 l0 l2 h hq
    · replace h := ite_f h hc
      refine R_icge_f (p := 18) rfl hc rfl ?_
      refine R_aload_n (p := 19) rfl l0 rfl ?_
      refine R_getR (p := 22) (q := (cw k (28 + 3 * u))) hK rfl (s_text hk hu) rfl rfl ?_
      refine R_iload_n (p := 23) rfl l3 rfl ?_
      obtain ⟨b2, h⟩ := gd h
      refine R_iald (p := 24) hK rfl (s_text28 hk hu) b2 rfl ?_
      refine R_istore (p := 26) rfl rfl rfl ?_
      refine R_iload (p := 28) rfl jg_self rfl ?_
      refine R_bipush (p := 30) rfl kb_m100 rfl ?_
      by_cases hc : (s.2.2 (cw k (28 + 3 * u)) s.2.1.toNatClampNeg) ≤ (-100 : Int32)
      · replace h := ite_t h hc
        refine R_icle_t rfl hc ?_
        refine R_iload (p := 59) rfl jg_self rfl ?_
        refine R_bipush (p := 61) rfl kb_33 rfl ?_
        refine R_cS1v (p := 64) rfl (tfX5_ofSign (Nat.le_trans (by decide) hd) ) rfl rfl ?_
        by_cases hc : (s.2.2 (cw k (28 + 3 * u)) s.2.1.toNatClampNeg) = (fX5_ofSign (33 : Int32))
        · replace h := ite_t h hc
          refine R_icne_f (p := 67) rfl (fun z => z hc) rfl ?_
          refine R_iload_n (p := 68) rfl (jg_ne l2 rfl) rfl ?_
          refine R_iconst (p := 69) rfl ki_1 rfl ?_
          by_cases hc : s.1 < (1 : Int32)
          · replace h := ite_t h hc
            refine R_iclt_t rfl hc ?_
            refine R_iinc (p := 141) rfl (jg_ne l3 rfl) rfl ki_1 rfl ?_
            refine R_goto rfl ?_
            obtain rfl := Option.some.inj h
            exact hq _ (jg_ne (jg_ne l0 rfl) rfl) (jg_ne (jg_ne l1 rfl) rfl) (jg_ne (jg_ne l2 rfl) rfl) jg_self
          · replace h := ite_f h hc
            refine R_iclt_f (p := 72) rfl hc rfl ?_
            refine R_aload_n (p := 73) rfl (jg_ne l0 rfl) rfl ?_
            refine R_getR (p := 76) (q := (cw k (29 + 3 * u))) hK rfl (s_text hk hu) rfl rfl ?_
            refine R_iload_n (p := 77) rfl (jg_ne l2 rfl) rfl ?_
            refine R_iconst (p := 78) rfl ki_1 rfl ?_
            refine R_isub (p := 79) rfl rfl ?_
            refine R_aload_n (p := 80) rfl (jg_ne l0 rfl) rfl ?_
            refine R_getR (p := 83) (q := (cw k (29 + 3 * u))) hK rfl (s_text hk hu) rfl rfl ?_
            refine R_iload_n (p := 84) rfl (jg_ne l2 rfl) rfl ?_
            refine R_iconst (p := 85) rfl ki_1 rfl ?_
            refine R_isub (p := 86) rfl rfl ?_
            obtain ⟨b4, h⟩ := gd h
            refine R_iald (p := 87) hK rfl (s_text29 hk hu) b4 rfl ?_
            by_cases hc : (s.2.2 (cw k (29 + 3 * u)) (s.1 - (1 : Int32)).toNatClampNeg) = 0
            · replace h := ite_t h hc
              refine R_ifne_f (p := 90) rfl (fun z => z hc) rfl ?_
              refine R_iconst (p := 91) rfl ki_1 rfl ?_
              refine R_goto rfl ?_
              exact tbX5_value_5_95 hK hd hk hu hc1 (jg_ne l0 rfl) (jg_ne l1 rfl) (jg_ne l2 rfl) (jg_ne l3 rfl) h hq
            · replace h := ite_f h hc
              refine R_ifne_t rfl hc ?_
              refine R_iconst (p := 95) rfl ki_0 rfl ?_
              exact tbX5_value_5_95 hK hd hk hu hc1 (jg_ne l0 rfl) (jg_ne l1 rfl) (jg_ne l2 rfl) (jg_ne l3 rfl) h hq
        · replace h := ite_f h hc
          refine R_icne_t rfl hc ?_
          refine R_iload_n (p := 100) rfl (jg_ne l2 rfl) rfl ?_
          refine R_iconst (p := 101) rfl ki_2 rfl ?_
          by_cases hc : s.1 < (2 : Int32)
          · replace h := ite_t h hc
            refine R_iclt_t rfl hc ?_
            refine R_iinc (p := 141) rfl (jg_ne l3 rfl) rfl ki_1 rfl ?_
            refine R_goto rfl ?_
            obtain rfl := Option.some.inj h
            exact hq _ (jg_ne (jg_ne l0 rfl) rfl) (jg_ne (jg_ne l1 rfl) rfl) (jg_ne (jg_ne l2 rfl) rfl) jg_self
          · replace h := ite_f h hc
            refine R_iclt_f (p := 104) rfl hc rfl ?_
            refine R_iinc (p := 107) rfl (jg_ne l2 rfl) rfl ki_m1 rfl ?_
            refine R_aload_n (p := 108) rfl (jg_ne (jg_ne l0 rfl) rfl) rfl ?_
            refine R_getR (p := 111) (q := (cw k (29 + 3 * u))) hK rfl (s_text hk hu) rfl rfl ?_
            refine R_iload_n (p := 112) rfl jg_self rfl ?_
            refine R_iconst (p := 113) rfl ki_1 rfl ?_
            refine R_isub (p := 114) rfl rfl ?_
            refine R_bipush (p := 116) rfl kb_m100 rfl ?_
            refine R_iload (p := 118) rfl (jg_ne jg_self rfl) rfl ?_
            refine R_isub (p := 119) rfl rfl ?_
            refine R_i2c (p := 120) rfl rfl ?_
            refine R_aload_n (p := 121) rfl (jg_ne (jg_ne l0 rfl) rfl) rfl ?_
            refine R_getR (p := 124) (q := (cw k (29 + 3 * u))) hK rfl (s_text hk hu) rfl rfl ?_
            refine R_iload_n (p := 125) rfl jg_self rfl ?_
            refine R_iconst (p := 126) rfl ki_1 rfl ?_
            refine R_isub (p := 127) rfl rfl ?_
            obtain ⟨b6, h⟩ := gd h
            refine R_iald (p := 128) hK rfl (s_text29 hk hu) b6 rfl ?_
            refine R_aload_n (p := 129) rfl (jg_ne (jg_ne l0 rfl) rfl) rfl ?_
            refine R_getR (p := 132) (q := (cw k (29 + 3 * u))) hK rfl (s_text hk hu) rfl rfl ?_
            refine R_iload_n (p := 133) rfl jg_self rfl ?_
            obtain ⟨b7, h⟩ := gd h
            refine R_iald (p := 134) hK rfl (s_text29 hk hu) b7 rfl ?_
            obtain ⟨q8, eq8, h⟩ := bind_some h
            refine R_cS3v (p := 137) rfl (tfX5_worked (Nat.le_trans (by decide) hd)  eq8) rfl rfl ?_
            obtain ⟨b9, h⟩ := gd h
            refine R_iast (p := 138) hK rfl (s_text29 hk hu) b9 rfl ?_
            refine R_iinc (p := 141) rfl (jg_ne (jg_ne l3 rfl) rfl) rfl ki_1 rfl ?_
            refine R_goto rfl ?_
            obtain rfl := Option.some.inj h
            exact hq _ (jg_ne (jg_ne (jg_ne l0 rfl) rfl) rfl) (jg_ne (jg_ne (jg_ne l1 rfl) rfl) rfl) (jg_ne jg_self rfl) jg_self
      · replace h := ite_f h hc
        refine R_icle_f (p := 33) rfl hc rfl ?_
        refine R_iload_n (p := 34) rfl (jg_ne l2 rfl) rfl ?_
        refine R_bipush (p := 36) rfl kb_60 rfl ?_
        by_cases hc : (60 : Int32) ≤ s.1
        · replace h := ite_t h hc
          refine R_icge_t rfl hc ?_
          refine R_iinc (p := 141) rfl (jg_ne l3 rfl) rfl ki_1 rfl ?_
          refine R_goto rfl ?_
          obtain rfl := Option.some.inj h
          exact hq _ (jg_ne (jg_ne l0 rfl) rfl) (jg_ne (jg_ne l1 rfl) rfl) (jg_ne (jg_ne l2 rfl) rfl) jg_self
        · replace h := ite_f h hc
          refine R_icge_f (p := 39) rfl hc rfl ?_
          refine R_aload_n (p := 40) rfl (jg_ne l0 rfl) rfl ?_
          refine R_getR (p := 43) (q := (cw k (29 + 3 * u))) hK rfl (s_text hk hu) rfl rfl ?_
          refine R_iload_n (p := 44) rfl (jg_ne l2 rfl) rfl ?_
          refine R_iload (p := 46) rfl jg_self rfl ?_
          refine R_aload_n (p := 47) rfl (jg_ne l1 rfl) rfl ?_
          obtain ⟨q10, eq10, h⟩ := bind_some h
          refine R_cS2v (p := 50) rfl (tfX5_plain_5 hK (Nat.le_trans (by decide) hd) hc1 eq10) rfl rfl ?_
          obtain ⟨b11, h⟩ := gd h
          refine R_iast (p := 51) hK rfl (s_text29 hk hu) b11 rfl ?_
          refine R_iinc (p := 54) rfl (jg_ne l2 rfl) rfl ki_1 rfl ?_
          refine R_goto rfl ?_
          refine R_iinc (p := 141) rfl (jg_ne (jg_ne l3 rfl) rfl) rfl ki_1 rfl ?_
          refine R_goto rfl ?_
          obtain rfl := Option.some.inj h
          exact hq _ (jg_ne (jg_ne (jg_ne l0 rfl) rfl) rfl) (jg_ne (jg_ne (jg_ne l1 rfl) rfl) rfl) (jg_ne jg_self rfl) jg_self
theorem LX5_value_5_4 {xs : List Int32} {d : Nat} {r : jR} {K : Mem → List jE} (hK : Ctx shC K) (hd : 1 ≤ d) {k : Nat} {u : Nat} {c1 : Nat} (hk : k < 3) (hu : u < 3) (hc1 : shC c1 = some (.inr (.inl 5)))  (n : Nat) (s : Int32 × Int32 × Mem) {t : (Int32 × Mem)} (h : lp (lX5_value_5_4 k u c1) n s = some t) (hq : (qIM r K) t) : gX5_value_5_4 xs d r K k u c1 s := lp_ind (G := gX5_value_5_4 xs d r K k u c1) (Qe := (qIM r K)) (fun s t h hq => BX5_value_5_4 hK hd hk hu hc1 s h hq) n s t h hq
theorem ufX5_value_5 {xs : List Int32} {d : Nat} {r : jR} {K : Mem → List jE} (hK : Ctx shC K) (hd : 1 ≤ d) {k : Nat} {u : Nat} {c1 : Nat} (hk : k < 3) (hu : u < 3) (hc1 : shC c1 = some (.inr (.inl 5))) {m : Mem} {L : List (Nat × Value)} (l0 : jget L 0 = some (.ref (cw k (27 + 3 * u)))) (l1 : jget L 1 = some (.ref c1)) {t : (Int32 × Mem)} (h : fX5_value_5 k u c1 m = some t) (hq : (qIM r K) t) : RunD (jcs xs) d 5 (some .int) jt_X5_value (0, L, [], (K m)) r := by
  unfold fX5_value_5 at h
  refine R_iconst (p := 1) rfl ki_0 rfl ?_
  refine R_istore_n (p := 2) rfl rfl rfl ?_
  refine R_iconst (p := 3) rfl ki_0 rfl ?_
  refine R_istore_n (p := 4) rfl rfl rfl ?_
  exact LX5_value_5_4 hK hd hk hu hc1 _ _ h hq _ (jg_ne (jg_ne l0 rfl) rfl) (jg_ne (jg_ne l1 rfl) rfl) (jg_ne jg_self rfl) jg_self
theorem tfX5_value_5 {xs : List Int32} {d : Nat} {K : Mem → List jE} (hK : Ctx shC K) (hd : 2 ≤ d) {k : Nat} {u : Nat} {c1 : Nat} (hk : k < 3) (hu : u < 3) (hc1 : shC c1 = some (.inr (.inl 5))) {m : Mem} {t : (Int32 × Mem)} (h : fX5_value_5 k u c1 m = some t) : CallD (jcs xs) d 70 [.ref (cw k (27 + 3 * u)), .ref c1] (K m) (some (.int t.1), K t.2) := by
  obtain ⟨d, rfl⟩ : ∃ z, d = z + 1 := ⟨d - 1, by omega⟩
  refine CallD_of jmt_X5_value rfl ⟨rfl, Nat.le_of_ble_eq_true rfl⟩ ?_
  exact ufX5_value_5 hK (Nat.le_of_succ_le_succ hd) hk hu hc1 rfl rfl h rfl
noncomputable def fX7_mark (k : Nat) (x1 : Int32) (m : Mem) : Option (Int32 × Mem) := (if (fX0_has k x1 m) = 0 then some ((0 : Int32), m) else (if (fX5_isTold k 2 m) = 0 then some ((0 : Int32), m) else (if inb x1 16 then (if inb x1 16 then (if inb x1 16 then (if inb x1 16 then (if inb x1 16 then (fX5_value_5 k 2 (cw k 38) (fX7_name k (m (cw k 7) x1.toNatClampNeg) (m (cw k 4) x1.toNatClampNeg) (m (cw k 5) x1.toNatClampNeg) (m (cw k 6) x1.toNatClampNeg) (m (cw k 3) x1.toNatClampNeg) m)).bind fun q9 => some (q9.1, q9.2) else none) else none) else none) else none) else none)))
theorem ufX7_mark {xs : List Int32} {d : Nat} {r : jR} {K : Mem → List jE} (hK : Ctx shC K) (hd : 2 ≤ d) {k : Nat} (hk : k < 3) {x1 : Int32} {m : Mem} {L : List (Nat × Value)} (l0 : jget L 0 = some (.ref (cw k 1))) (l1 : jget L 1 = some (.int x1)) {t : (Int32 × Mem)} (h : fX7_mark k x1 m = some t) (hq : (qIM r K) t) : RunD (jcs xs) d 2 (some .int) jt_X7_mark (0, L, [], (K m)) r := by
  unfold fX7_mark at h
  refine R_aload_n (p := 1) rfl l0 rfl ?_
  refine R_getR (p := 4) (q := (cw k 2)) hK rfl (s_w1 hk) rfl rfl ?_
  refine R_iload_n (p := 5) rfl l1 rfl ?_
  refine R_cV2v (p := 8) hK rfl (s_w2 hk) (tfX0_has hK (Nat.le_trans (by decide) hd) hk) rfl rfl ?_
  by_cases hc : (fX0_has k x1 m) = 0
  · replace h := ite_t h hc
    refine R_ifeq_t rfl hc ?_
    refine R_iconst (p := 24) rfl ki_0 rfl ?_
    obtain rfl := Option.some.inj h
    exact R_ireturn rfl rfl hq
  · replace h := ite_f h hc
    refine R_ifeq_f (p := 11) rfl hc rfl ?_
    refine R_aload_n (p := 12) rfl l0 rfl ?_
    refine R_getR (p := 15) (q := (cw k 26)) hK rfl (s_w1 hk) rfl rfl ?_
    refine R_iconst (p := 16) rfl ki_2 rfl ?_
    refine R_aalk (p := 17) (q := (cw k (27 + 3 * 2))) hK rfl (s_w26 hk) (by decide) (by decide) kn_2 (l_text (by decide)) rfl ?_
    refine R_cV1v (p := 20) hK rfl (s_text hk (by decide)) (tfX5_isTold hK (Nat.le_trans (by decide) hd) hk (by decide)) rfl rfl ?_
    by_cases hc : (fX5_isTold k 2 m) = 0
    · replace h := ite_t h hc
      refine R_ifne_f (p := 23) rfl (fun z => z hc) rfl ?_
      refine R_iconst (p := 24) rfl ki_0 rfl ?_
      obtain rfl := Option.some.inj h
      exact R_ireturn rfl rfl hq
    · replace h := ite_f h hc
      refine R_ifne_t rfl hc ?_
      refine R_aload_n (p := 26) rfl l0 rfl ?_
      refine R_aload_n (p := 27) rfl l0 rfl ?_
      refine R_getR (p := 30) (q := (cw k 2)) hK rfl (s_w1 hk) rfl rfl ?_
      refine R_getR (p := 33) (q := (cw k 7)) hK rfl (s_w2 hk) rfl rfl ?_
      refine R_iload_n (p := 34) rfl l1 rfl ?_
      obtain ⟨b3, h⟩ := gd h
      refine R_iald (p := 35) hK rfl (s_w7 hk) b3 rfl ?_
      refine R_aload_n (p := 36) rfl l0 rfl ?_
      refine R_getR (p := 39) (q := (cw k 2)) hK rfl (s_w1 hk) rfl rfl ?_
      refine R_getR (p := 42) (q := (cw k 4)) hK rfl (s_w2 hk) rfl rfl ?_
      refine R_iload_n (p := 43) rfl l1 rfl ?_
      obtain ⟨b4, h⟩ := gd h
      refine R_iald (p := 44) hK rfl (s_w4 hk) b4 rfl ?_
      refine R_aload_n (p := 45) rfl l0 rfl ?_
      refine R_getR (p := 48) (q := (cw k 2)) hK rfl (s_w1 hk) rfl rfl ?_
      refine R_getR (p := 51) (q := (cw k 5)) hK rfl (s_w2 hk) rfl rfl ?_
      refine R_iload_n (p := 52) rfl l1 rfl ?_
      obtain ⟨b5, h⟩ := gd h
      refine R_iald (p := 53) hK rfl (s_w5 hk) b5 rfl ?_
      refine R_aload_n (p := 54) rfl l0 rfl ?_
      refine R_getR (p := 57) (q := (cw k 2)) hK rfl (s_w1 hk) rfl rfl ?_
      refine R_getR (p := 60) (q := (cw k 6)) hK rfl (s_w2 hk) rfl rfl ?_
      refine R_iload_n (p := 61) rfl l1 rfl ?_
      obtain ⟨b6, h⟩ := gd h
      refine R_iald (p := 62) hK rfl (s_w6 hk) b6 rfl ?_
      refine R_aload_n (p := 63) rfl l0 rfl ?_
      refine R_getR (p := 66) (q := (cw k 2)) hK rfl (s_w1 hk) rfl rfl ?_
      refine R_getR (p := 69) (q := (cw k 3)) hK rfl (s_w2 hk) rfl rfl ?_
      refine R_iload_n (p := 70) rfl l1 rfl ?_
      obtain ⟨b7, h⟩ := gd h
      refine R_iald (p := 71) hK rfl (s_w3 hk) b7 rfl ?_
      refine R_cV6n (p := 74) hK rfl (s_w1 hk) (tfX7_name hK (Nat.le_trans (by decide) hd) hk) rfl rfl ?_
      refine R_aload_n (p := 75) rfl l0 rfl ?_
      refine R_getR (p := 78) (q := (cw k 26)) hK rfl (s_w1 hk) rfl rfl ?_
      refine R_iconst (p := 79) rfl ki_2 rfl ?_
      refine R_aalk (p := 80) (q := (cw k (27 + 3 * 2))) hK rfl (s_w26 hk) (by decide) (by decide) kn_2 (l_text (by decide)) rfl ?_
      refine R_aload_n (p := 81) rfl l0 rfl ?_
      refine R_getR (p := 84) (q := (cw k 38)) hK rfl (s_w1 hk) rfl rfl ?_
      obtain ⟨q9, eq9, h⟩ := bind_some h
      refine R_cV2v (p := 87) hK rfl (s_text hk (by decide)) (tfX5_value_5 hK (Nat.le_trans (by decide) hd) hk (by decide) (s_w38 hk) eq9) rfl rfl ?_
      obtain rfl := Option.some.inj h
      exact R_ireturn rfl rfl hq
theorem tfX7_mark {xs : List Int32} {d : Nat} {K : Mem → List jE} (hK : Ctx shC K) (hd : 3 ≤ d) {k : Nat} (hk : k < 3) {x1 : Int32} {m : Mem} {t : (Int32 × Mem)} (h : fX7_mark k x1 m = some t) : CallD (jcs xs) d 87 [.ref (cw k 1), .int x1] (K m) (some (.int t.1), K t.2) := by
  obtain ⟨d, rfl⟩ : ∃ z, d = z + 1 := ⟨d - 1, by omega⟩
  refine CallD_of jmt_X7_mark rfl ⟨rfl, Nat.le_of_ble_eq_true rfl⟩ ?_
  exact ufX7_mark hK (Nat.le_of_succ_le_succ hd) hk rfl rfl h rfl
