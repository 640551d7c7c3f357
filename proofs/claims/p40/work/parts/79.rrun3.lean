section
/-! BOTH: LIQUID RUNS -/
theorem mput_swap {m : Mem} {c c' j j' : Nat} {x y : Int32} (h : c ≠ c') : mput (mput m c j x) c' j' y = mput (mput m c' j' y) c j x := by
  funext a b
  rw [mput_get, mput_get, mput_get, mput_get]
  by_cases e1 : a = c' ∧ b = j'
  · rw [if_pos e1, if_neg (fun z => h (z.1.symm.trans e1.1)), if_pos e1]
  · rw [if_neg e1, if_neg e1]
theorem WS_dr {k d : Nat} {m mr : Mem} {r : Nat → List Nat} {al : Nat → Bool} {f : Nat → Nat → Nat} {q : Nat → List Nat} (h : WS k m (mr 138) r al f q) (hd : d ≤ 1999999999) : WS k (mput m (cw k 1) 11 (o32 d)) (mput mr 138 7 (o32 d) 138) r al f q := by
  obtain ⟨a1, a2, a3, a4, a5, a6, a7, a8⟩ := h
  have ew : ∀ z, mput mr 138 7 (o32 d) 138 z = if z = 7 then o32 d else mr 138 z := fun z => by
    rw [mput_get]
    simp only [true_and]
  refine ⟨a1, a2, RS_w a3 (fun b' hb' g hg => by rw [ew, if_neg (by omega)]), CS_same a4 (fun c z hc => ?_), FR_same a5 (fun o z h1 h2 => by rw [mput_c _ _ _ (cw_ne (by omega))]) (fun z h1 h2 => by rw [ew, if_neg (by omega)]), fun u hu => TR_same hu (a6 u hu) (fun o z ho => by rw [mput_c _ _ _ (cw_ne (by omega))]) (fun z hz => by rw [ew, if_neg (by omega)]), ?_, TP_same a8 (fun o z ho => by rw [mput_get, if_neg (fun q => by have := cw_inj q.1; omega)]) (fun z hz => by rw [ew, if_neg (by omega)])⟩
  · rcases hc with hc | hc | ⟨x, hx, hc⟩
    · rw [hc.1, mput_c _ _ _ (cw_ne (by omega))]
    · rw [hc, mput_c _ _ _ (cw_ne (by omega))]
    · rw [hc, mput_c _ _ _ (cw_ne (by omega))]
  · have c1 : ∀ j, j ≠ 11 → mput m (cw k 1) 11 (o32 d) (cw k 1) j = m (cw k 1) j := fun j hj => mput_j _ _ _ _ hj
    have c2 : ∀ j, mput m (cw k 1) 11 (o32 d) (cw k 2) j = m (cw k 2) j := fun j => by rw [mput_c _ _ _ (cw_ne (by omega))]
    obtain ⟨s1, s2, s3, s4, s5, s6, s7, s8, _⟩ := a7
    unfold SC
    simp only [ew, c2]
    rw [c1 9 (by omega), c1 6 (by omega), c1 7 (by omega), c1 8 (by omega), c1 10 (by omega), mput_at]
    exact ⟨s1, s2, s3, s4, s5, s6, s7, s8, d, hd, rfl, rfl⟩
theorem drain_R {k v : Nat} {m mr : Mem} (h : SC k m (mr 138)) (hv : v < 2147483648) : ∃ d, d ≤ 1999999999 ∧ fX7_drain k (o32 v) m = mput m (cw k 1) 11 (o32 d) ∧ fX9_drains (o32 v) mr = mput mr 138 7 (o32 d) := by
  obtain ⟨_, _, _, _, _, _, _, _, d0, h1, h2, h3⟩ := h
  refine ⟨min 1999999999 (d0 + v), by omega, ?_, ?_⟩
  · unfold fX7_drain
    rw [h3, drain_v h1 hv]
  · unfold fX9_drains
    rw [h2, drain_v h1 hv]
theorem WS_39 {k : Nat} {m m' mr mr' : Mem} {r : Nat → List Nat} {al : Nat → Bool} {f : Nat → Nat → Nat} {q : Nat → List Nat} (h : WS k m (mr 138) r al f q) (h1 : ∀ z j, z ≠ cw k 39 → m' z j = m z j) (h2 : ∀ c j, c ≠ 147 → mr' c j = mr c j) : WS k m' (mr' 138) r al f q := WS_same h (fun c j hc => h1 c j (rc_ne hc (by omega))) (fun j => h2 138 j (by omega))
theorem CF_39 {k : Nat} {m m' : Mem} (h1 : ∀ z j, z ≠ cw k 39 → m' z j = m z j) : CF k m m' := fun c j h => h1 c j (h 39 (by omega) (by omega))
theorem MF_147 {mr mr' : Mem} (h2 : ∀ c j, c ≠ 147 → mr' c j = mr c j) : MF mr mr' := fun c j _ _ _ _ h => h2 c j h
noncomputable def yB (f : Nat → Nat → Nat) (b : Nat) : Nat := if f b 1 = 3 ∨ f b 1 = 5 then 8 else 4
theorem give_part {k b g : Nat} {m mr : Mem} {r : Nat → List Nat} {al : Nat → Bool} {f : Nat → Nat → Nat} {q : Nat → List Nat} {I O : Nat → Nat} (h : WS k m (mr 138) r al f q) (hN : WN k m mr al f I O b) (hb : b < 16) (alb : al b = true) (hg : g ≤ f b 3) : ∃ n m' mr' I' O', n < 65536 ∧ fX7_bitsBelow k (o32 b) m = some (o32 n) ∧ (if (fJ6_bitCount_0f7a4 (o32 n)) ≤ 0 then (fX0_glasses k (o32 b) m).bind fun q7 => (if q7 ≤ 0 then some m else (if inb (o32 b) 16 then (if inb (o32 b) 16 then some (fX7_drain k (o32 g) (mput m (cw k 39) (o32 b).toNatClampNeg ((m (cw k 39) (o32 b).toNatClampNeg) - (o32 g)))) else none) else none)) else (if ¬ (fJ6_bitCount_0f7a4 (o32 n)) = 0 then lp (lX7_giveWater_59 k (o32 b) (o32 n) (fJ6_bitCount_0f7a4 (o32 n)) ((o32 g) / (fJ6_bitCount_0f7a4 (o32 n)))) fu ((0 : Int32), m) else none)) = some m' ∧ lp (lX9_runs_92 (o32 b) (o32 g) mr) fu (0, 0) = some (.inl (o32 (b + 1), mr')) ∧ WS k m' (mr' 138) r al f q ∧ WN k m' mr' al f I' O' (b + 1) ∧ CF k m m' ∧ MF mr mr' ∧ mr' 138 0 = mr 138 0 := by
  have G := WS_1 h
  have S := WS_3 h
  have C := WS_4 h
  have F := WS_5 h
  have R := (S b hb).2 alb
  have gb := CS_g C hb alb
  have lb := R.1
  have l16 := low_16 (f := f) G hb alb
  have f3 := (F b hb alb 3 (by omega) (by omega)).2.2
  have f3 : f b 3 ≤ 99999 := f3
  obtain ⟨n, n1, n2, n3⟩ := bitsBelow_c C F G hb alb
  have pcl : pc n = (lowL r f b).length := pc_len n3 (fun x hx => (l16.1 x hx).1) l16.2
  have p16 := pc_le n
  refine ⟨n, ?_⟩
  rw [bitCount_o n1, pcl]
  rw [pcl] at p16
  by_cases c0 : (lowL r f b).length = 0
  · rw [c0, if_pos (by decide), glasses_c hb gb, Option.bind_some]
    by_cases gl : (r b).count 16 = 0
    · rw [gl, if_pos (by decide)]
      refine ⟨m, mr, I, O, n1, n2, rfl, runs92_s (o32 g) (fun j _ _ => rfl) F G hb alb R (lp_fwd (body := lX9_runs_139 (o32 b) (o32 g) (o32 (lowL r f b).length)) 0 (fun _ => (0, mr)) fu (fun i hi => absurd hi (by omega)) ?_ (lt_fu (by omega))), h, fun x hx => ?_, CF_rf, MF_rf, rfl⟩
      · have q209 : bX9_runs_209 (o32 b) (o32 g) (o32 (lowL r f b).length) mr = some (.inl (o32 (b + 1), mr)) := by
          unfold bX9_runs_209
          rw [c0, if_pos (show o32 0 = 0 from rfl), glasses_m hb R, Option.bind_some, gl, if_pos (by decide), o_s]
        unfold lX9_runs_139
        rw [sd_o hb, Option.bind_some, c0, if_pos (show o32 0 ≤ 0 by decide)]
        rw [c0] at q209
        rw [q209]
        split <;> rfl
      · obtain ⟨x1, x2, x3, x4⟩ := hN x hx
        exact ⟨x1, x2, by omega, fun ax => ⟨(x4 ax).1, (x4 ax).2.1, fun z => (x4 ax).2.2 (by omega)⟩⟩
    · have gp : ¬ o32 ((r b).count 16) ≤ 0 := by
        have := List.count_le_length (a := 16) (l := r b)
        rw [show (0 : Int32) = o32 0 from rfl, o_le (by omega) (by omega)]
        omega
      obtain ⟨x1, x2, x3, x4⟩ := hN b hb
      obtain ⟨x5, x6, x7⟩ := x4 alb
      have ob := x7 (Nat.le_refl _)
      have SC1 := WS_7 h
      obtain ⟨d, d1, d2, d3⟩ := drain_R (v := g) (m := mput m (cw k 39) b (m (cw k 39) b - o32 g)) (mr := mput mr 147 b (mr 147 b - o32 g)) (WS_7 (WS_39 h (fun z j hz => mput_c _ _ _ hz ▸ rfl) (fun c j hc => mput_c _ _ _ hc ▸ rfl))) (by omega)
      have W2 := WS_dr (d := d) (WS_39 (m' := mput m (cw k 39) b (m (cw k 39) b - o32 g)) (mr' := mput mr 147 b (mr 147 b - o32 g)) h (fun z j hz => mput_c _ _ _ hz ▸ rfl) (fun c j hc => mput_c _ _ _ hc ▸ rfl)) d1
      rw [if_neg gp, if_pos (o_inb hb (by omega)), if_pos (o_inb hb (by omega)), o_tn (by omega), d2]
      refine ⟨_, mput (mput mr 147 b (mr 147 b - o32 g)) 138 7 (o32 d), I, fun x => if x = b then g else O x, n1, n2, rfl, runs92_s (o32 g) (fun j _ _ => rfl) F G hb alb R (lp_fwd (body := lX9_runs_139 (o32 b) (o32 g) (o32 (lowL r f b).length)) 0 (fun _ => (0, mr)) fu (fun i hi => absurd hi (by omega)) ?_ (lt_fu (by omega))), W2, fun x hx => ?_, CF_tr (CF_put (by omega) (by omega)) (CF_put (by omega) (by omega)), MF_tr (MF_put (by omega)) (MF_put (by omega)), ?_⟩
      · have q209 : bX9_runs_209 (o32 b) (o32 g) (o32 (lowL r f b).length) mr = some (.inl (o32 (b + 1), mput (mput mr 147 b (mr 147 b - o32 g)) 138 7 (o32 d))) := by
          unfold bX9_runs_209
          rw [c0, if_pos (show o32 0 = 0 from rfl), glasses_m hb R, Option.bind_some, if_neg gp, if_pos (o_inb hb (by omega)), if_pos (o_inb hb (by omega)), o_tn (by omega), o_s, d3]
        unfold lX9_runs_139
        rw [sd_o hb, Option.bind_some, c0, if_pos (show o32 0 ≤ 0 by decide)]
        rw [c0] at q209
        rw [q209]
        split <;> rfl
      · obtain ⟨y1, y2, y3, y4⟩ := hN x hx
        have A1 : ∀ u v : Int32, (mput (mput m (cw k 39) b u) (cw k 1) 11 v) (cw k 39) x = if x = b then u else m (cw k 39) x := fun u v => by
          rw [mput_c _ _ _ (cw_ne (by omega)), mput_get]
          simp only [true_and]
        have A2 : ∀ u v : Int32, (mput (mput mr 147 b u) 138 7 v) 147 x = if x = b then u else mr 147 x := fun u v => by
          rw [mput_get, if_neg (by omega), mput_get]
          simp only [true_and]
        rw [A1, A2]
        by_cases e : x = b
        · subst e
          simp only [↓reduceIte]
          refine ⟨?_, by omega, by omega, fun ax => ⟨?_, hg, fun z => by omega⟩⟩
          · rw [i_sub (by rw [x1, o_ti (by omega)]; omega) (by rw [x1, o_ti (by omega)]; omega), x1, o_ti (by omega), ob]
            omega
          · rw [x5, o_sub (by omega) (by omega), ob]
            rfl
        · simp only [e, ↓reduceIte]
          exact ⟨y1, y2, by omega, fun ax => ⟨(y4 ax).1, (y4 ax).2.1, fun z => (y4 ax).2.2 (by omega)⟩⟩
      · rw [mput_get, if_neg (by omega), mput_get, if_neg (by omega)]
  · have h0 : 0 < (lowL r f b).length := by omega
    have ge := Nat.div_mul_le_self g (lowL r f b).length
    have gd := Nat.div_le_self g (lowL r f b).length
    have bL : b ∉ lowL r f b := fun z => (l16.1 b z).2.2 rfl
    obtain ⟨mr', t1, t2, t3⟩ := runs139_s (T := fun x => f x 3 + I x - O x) (g := g) (fun j _ _ => rfl) F G hb alb R (by omega) h0 (fun x hx ax => by
      obtain ⟨x1, x2, x3, x4⟩ := hN x hx
      have : f x 3 ≤ 99999 := (F x hx ax 3 (by omega) (by omega)).2.2
      exact ⟨(x4 ax).1, by omega⟩) (by
      obtain ⟨x1, x2, x3, x4⟩ := hN b hb
      have := (x4 alb).2.2 (Nat.le_refl _)
      omega)
    have V : ∀ x, x < 16 → (m (cw k 39) x).toInt = ((I x : Int) - O x) ∧ -100000000 ≤ ((I x : Int) - O x) ∧ ((I x : Int) - O x) ≤ 100000000 := fun x hx => by
      obtain ⟨x1, x2, x3, x4⟩ := hN x hx
      exact ⟨x1, by omega, by omega⟩
    obtain ⟨m', g1, g2, g3⟩ := giveL_c (V := fun x => (I x : Int) - O x) (e := g / (lowL r f b).length) hb bL n1 n3 p16 (by omega) V
    rw [if_neg (by rw [show (0 : Int32) = o32 0 from rfl, o_le (by omega) (by omega)]; omega), if_pos (by rw [show (0 : Int32) = o32 0 from rfl, o_eq (by omega) (by omega)]; omega), o_div (by omega) (by omega) h0, g1]
    refine ⟨m', mr', fun x => I x + (if x ∈ lowL r f b then g / (lowL r f b).length else 0), fun x => if x = b then g / (lowL r f b).length * (lowL r f b).length else O x, n1, n2, rfl, runs92_s (o32 g) (fun j _ _ => rfl) F G hb alb R t1, WS_39 h g3 t3, fun x hx => ?_, CF_39 g3, MF_147 t3, t3 138 0 (by omega)⟩
    obtain ⟨x1, x2, x3, x4⟩ := hN x hx
    have gx := g2 x hx
    generalize g / (lowL r f b).length = e at *
    generalize e * (lowL r f b).length = ec at *
    by_cases eb : x = b
    · subst eb
      rw [if_pos rfl] at gx
      have o0 := (x4 alb).2.2 (Nat.le_refl _)
      simp only [↓reduceIte, bL]
      refine ⟨by rw [gx]; omega, by omega, by omega, fun ax => ⟨?_, by omega, fun z => by omega⟩⟩
      rw [t2 x hx ax, if_pos rfl]
      congr 1
      omega
    · rw [if_neg eb] at gx
      simp only [eb, ↓reduceIte]
      by_cases hm : x ∈ lowL r f b
      · rw [if_pos hm] at gx
        simp only [hm, ↓reduceIte]
        refine ⟨by rw [gx]; omega, x2, by omega, fun ax => ⟨?_, (x4 ax).2.1, fun z => (x4 ax).2.2 (by omega)⟩⟩
        rw [t2 x hx ax, if_neg eb, if_pos hm]
        congr 1
        have := (x4 ax).2.1
        omega
      · rw [if_neg hm] at gx
        simp only [hm, ↓reduceIte]
        refine ⟨by rw [gx]; omega, x2, by omega, fun ax => ⟨?_, (x4 ax).2.1, fun z => (x4 ax).2.2 (by omega)⟩⟩
        rw [t2 x hx ax, if_neg eb, if_neg hm]
        rfl
end
section
/-! BOTH: LIQUID RUNS, THE WHOLE -/
theorem run1_R {k b : Nat} {m mr : Mem} {r : Nat → List Nat} {al : Nat → Bool} {f : Nat → Nat → Nat} {q : Nat → List Nat} {I O : Nat → Nat} (h : WS k m (mr 138) r al f q) (hN : WN k m mr al f I O b) (hb : b < 16) : ∃ m' mr' I' O', lX7_runDown_10 k (o32 b, m) = some (.inl (o32 (b + 1), m')) ∧ lX9_runs_28 (o32 b, mr) = some (.inl (o32 (b + 1), mr')) ∧ WS k m' (mr' 138) r al f q ∧ WN k m' mr' al f I' O' (b + 1) ∧ CF k m m' ∧ MF mr mr' ∧ mr' 138 0 = mr 138 0 := by
  have S := WS_3 h
  have C := WS_4 h
  have F := WS_5 h
  unfold lX7_runDown_10 lX9_runs_28
  rw [if_neg (not_16 hb), if_neg (not_16 hb), has_c C hb, is_s hb S, Option.bind_some]
  cases alb : al b with
  | false =>
    rw [if_pos (show i01 false = 0 from rfl), if_pos (show i01 false = 0 from rfl), o_s]
    exact ⟨m, mr, I, O, rfl, rfl, h, fun x hx => by
      obtain ⟨x1, x2, x3, x4⟩ := hN x hx
      exact ⟨x1, x2, by omega, fun ax => ⟨(x4 ax).1, (x4 ax).2.1, fun z => (x4 ax).2.2 (by omega)⟩⟩, CF_rf, MF_rf, rfl⟩
  | true =>
    have k1 := F b hb alb 1 (by omega) (by omega)
    have k3 := F b hb alb 3 (by omega) (by omega)
    have l1 : f b 1 ≤ 6 := k1.2.2
    have l3 : f b 3 ≤ 99999 := k3.2.2
    have o3 : (3 : Int32) = o32 3 := rfl
    have o5 : (5 : Int32) = o32 5 := rfl
    have yp : 0 < yB f b := by unfold yB; split <;> omega
    have yl : yB f b ≤ 8 := by unfold yB; split <;> omega
    obtain ⟨n, m', mr', I', O', n1, n2, c1, c2, w1, w2, w3, w4, w5⟩ := give_part (g := f b 3 / yB f b) h hN hb alb (Nat.div_le_self _ _)
    have ed : o32 (f b 3) / o32 (yB f b) = o32 (f b 3 / yB f b) := o_div (by omega) (by omega) yp
    have cls : ∀ y1 : Int32, y1 = o32 (yB f b) → bX7_giveWater_31 k (o32 b) (o32 (f b 3)) y1 m = some m' := fun y1 hy => by
      unfold bX7_giveWater_31
      rw [hy, if_pos (by rw [show (0 : Int32) = o32 0 from rfl, o_eq (by omega) (by omega)]; omega), n2, Option.bind_some, ed]
      exact c1
    have mdl : ∀ y1 : Int32, y1 = o32 (yB f b) → bX9_runs_84 (o32 b) (o32 (f b 3)) y1 mr = some (.inl (o32 (b + 1), mr')) := fun y1 hy => by
      unfold bX9_runs_84
      rw [hy, if_pos (by rw [show (0 : Int32) = o32 0 from rfl, o_eq (by omega) (by omega)]; omega), ed]
      exact c2
    have ia := o_inb hb (show b < 2147483648 by omega)
    have U : fX1_isUnder (m (cw k 3) (o32 b).toNatClampNeg) 3 m = some (i01 (underB (f b 1) 3)) := by
      rw [o_tn (by omega), show m (cw k 3) b = _ from k1.2.1]
      exact under_c (tp := 3) (by omega) (by omega)
    have W5 : m (cw k 5) (o32 b).toNatClampNeg = o32 (f b 3) := by rw [o_tn (by omega)]; exact k3.2.1
    have G : fX7_giveWater k (o32 b) m = some m' := by
      unfold fX7_giveWater
      rw [if_pos ia, if_pos ia, U, Option.bind_some, W5]
      by_cases t : f b 1 = 3 ∨ f b 1 = 5
      · have e8 : (8 : Int32) = o32 (yB f b) := by unfold yB; rw [if_pos t]; rfl
        have eu : underB (f b 1) 3 = true := by
          unfold underB
          rcases t with t | t <;> rw [t] <;> rfl
        rw [eu, if_neg (by decide)]
        exact cls 8 e8
      · have e4 : (4 : Int32) = o32 (yB f b) := by unfold yB; rw [if_neg t]; rfl
        have eu : underB (f b 1) 3 = false := by
          unfold underB
          rw [decide_eq_false (fun z => t (.inl z.symm)), show decide (f b 1 = 5) = false from decide_eq_false (fun z => t (.inr z))]
          simp
        rw [eu, if_pos (by decide)]
        exact cls 4 e4
    have M67 : ∀ y0 : Int32, (y0 = 0 ↔ ¬ (f b 1 = 3 ∨ f b 1 = 5)) → bX9_runs_67 (o32 b) y0 mr = some (.inl (o32 (b + 1), mr')) := fun y0 hy => by
      unfold bX9_runs_67
      rw [show fX9_of (o32 b) 3 mr = _ from fd_m h hb alb 3 (by omega) (by omega), Option.bind_some]
      by_cases t : f b 1 = 3 ∨ f b 1 = 5
      · rw [if_neg (fun z => hy.mp z t)]
        exact mdl 8 (by unfold yB; rw [if_pos t]; rfl)
      · rw [if_pos (hy.mpr t)]
        exact mdl 4 (by unfold yB; rw [if_neg t]; rfl)
    rw [if_neg (show ¬ i01 true = 0 by decide), if_neg (show ¬ i01 true = 0 by decide), G, Option.bind_some, show fX9_of (o32 b) 1 mr = _ from fd_m h hb alb 1 (by omega) (by omega), Option.bind_some, Option.bind_some, o_s]
    refine ⟨m', mr', I', O', rfl, ?_, w1, w2, w3, w4, w5⟩
    by_cases t3 : f b 1 = 3
    · rw [if_pos (by rw [t3]; rfl)]
      exact M67 1 ⟨fun z => absurd z (by decide), fun z => absurd (.inl t3) z⟩
    · rw [if_neg (by rw [o3, o_eq (by omega) (by omega)]; exact t3)]
      by_cases t5 : f b 1 = 5
      · rw [if_pos (by rw [t5]; rfl)]
        exact M67 1 ⟨fun z => absurd z (by decide), fun z => absurd (.inr t5) z⟩
      · rw [if_neg (by rw [o5, o_eq (by omega) (by omega)]; exact t5)]
        exact M67 0 ⟨fun _ z => by rcases z with z | z; exact t3 z; exact t5 z, fun _ => rfl⟩
theorem run2_R {k b : Nat} {m mr : Mem} {r : Nat → List Nat} {al : Nat → Bool} {f : Nat → Nat → Nat} {q : Nat → List Nat} {V : Nat → Int} {T : Nat → Nat} (h : WS k m (mr 138) r al f q) (hb : b < 16) (hT : al b = true → (m (cw k 39) b).toInt = V b ∧ (f b 3 : Int) + V b = T b ∧ -100000000 ≤ V b ∧ V b ≤ 100000000 ∧ mr 147 b = o32 (T b)) : ∃ m' mr' v, lX7_runDown_40 k (o32 b, m) = some (.inl (o32 (b + 1), m')) ∧ lX9_runs_245 (o32 b, mr) = some (.inl (o32 (b + 1), mr')) ∧ WS k m' (mr' 138) r al (updF f b 3 v) q ∧ (∀ j, m' (cw k 39) j = m (cw k 39) j) ∧ (∀ j, mr' 147 j = mr 147 j) ∧ CF k m m' ∧ MF mr mr' ∧ mr' 138 0 = mr 138 0 := by
  have S := WS_3 h
  have C := WS_4 h
  have F := WS_5 h
  unfold lX7_runDown_40 lX9_runs_245
  rw [if_neg (not_16 hb), if_neg (not_16 hb), has_c C hb, is_s hb S, Option.bind_some]
  cases alb : al b with
  | false =>
    rw [if_pos (show i01 false = 0 from rfl), if_pos (show i01 false = 0 from rfl), o_s]
    refine ⟨m, mr, f b 3, rfl, rfl, ?_, fun _ => rfl, fun _ => rfl, CF_rf, MF_rf, rfl⟩
    have e : updF f b 3 (f b 3) = f := by
      funext x j
      unfold updF
      by_cases e : x = b ∧ j = 3
      · rw [if_pos e, e.1, e.2]
      · rw [if_neg e]
    rw [e]
    exact h
  | true =>
    obtain ⟨v1, v2, v3, v4, v5⟩ := hT alb
    have k3 := F b hb alb 3 (by omega) (by omega)
    have l3 : f b 3 ≤ 99999 := k3.2.2
    have ia := o_inb hb (show b < 2147483648 by omega)
    have X : o32 (f b 3) + m (cw k 39) b = o32 (T b) := by
      apply i_eq _ (by omega)
      rw [i_add (by rw [v1, o_ti (by omega)]; omega) (by rw [v1, o_ti (by omega)]; omega), v1, o_ti (by omega)]
      omega
    have mn : fJ9_min_7cf53 99999 (o32 (T b)) = o32 (min 99999 (T b)) := min_b (a := 99999) (by omega) (by omega)
    have mx : fJ9_max_7cf53 0 (o32 (T b) - 99999) = o32 (T b - 99999) := by
      unfold fJ9_max_7cf53
      have e9 : (99999 : Int32).toInt = 99999 := by decide
      have e0 : (0 : Int32).toInt = 0 := by decide
      have es : (o32 (T b) - 99999).toInt = (T b : Int) - 99999 := by
        rw [i_sub (by rw [o_ti (by omega), e9]; omega) (by rw [o_ti (by omega), e9]; omega), o_ti (by omega), e9]
      by_cases c : (0 : Int32) < o32 (T b) - 99999
      · rw [if_pos c]
        rw [Int32.lt_iff_toInt_lt, es, e0] at c
        apply i_eq _ (by omega)
        rw [es]
        omega
      · rw [if_neg c]
        rw [Int32.lt_iff_toInt_lt, es, e0] at c
        rw [show T b - 99999 = 0 by omega]
        rfl
    have df : o32 (T b) - o32 (min 99999 (T b)) = o32 (T b - 99999) := by
      rw [o_sub (by omega) (by omega), show T b - min 99999 (T b) = T b - 99999 by omega]
    obtain ⟨d, d1, d2, d3⟩ := drain_R (v := T b - 99999) (WS_7 h) (by omega)
    have W := WS_fld (v := min 99999 (T b)) (WS_dr h d1) hb (by omega) (show 3 ≤ 4 by omega) (by show _ ≤ 99999; omega)
    have dc : fX7_drain k (o32 (T b - 99999)) (mput m (cw k 5) b (o32 (min 99999 (T b)))) = mput (mput m (cw k 1) 11 (o32 d)) (cw k 5) b (o32 (min 99999 (T b))) := by
      rw [mput_swap (cw_ne (by omega))]
      have : mput m (cw k 5) b (o32 (min 99999 (T b))) (cw k 1) 11 = m (cw k 1) 11 := by rw [mput_c _ _ _ (cw_ne (by omega))]
      unfold fX7_drain at d2 ⊢
      rw [this]
      have e := congrFun (congrFun d2 (cw k 1)) 11
      rw [mput_at, mput_at] at e
      rw [e]
    rw [if_neg (show ¬ i01 true = 0 by decide), if_neg (show ¬ i01 true = 0 by decide)]
    refine ⟨mput (mput m (cw k 1) 11 (o32 d)) (cw k 5) b (o32 (min 99999 (T b))), mput (mput mr 138 7 (o32 d)) 138 (12 + 50 * b + 3) (o32 (min 99999 (T b))), min 99999 (T b), ?_, ?_, W, fun j => ?_, fun j => ?_, CF_tr (CF_put (by omega) (by omega)) (CF_put (by omega) (by omega)), MF_tr (MF_put (by omega)) (MF_put (by omega)), ?_⟩
    · dsimp only
      rw [if_pos ia, if_pos ia, if_pos ia, if_pos ia, o_tn (by omega), show m (cw k 5) b = _ from k3.2.1, X, mn, mput_at, df, dc, o_s]
    · dsimp only
      rw [if_pos ia, if_pos ia, o_tn (by omega), v5, mx, d3, mput_c _ _ _ (by omega), v5, mn, show fX9_tells (o32 b) 3 _ _ = _ from tl_o (f := 3) hb (by omega), Option.bind_some, o_s]
    · rw [mput_c _ _ _ (cw_ne (by omega)), mput_c _ _ _ (cw_ne (by omega))]
    · rw [mput_c _ _ _ (by omega), mput_c _ _ _ (by omega)]
    · rw [mput_get, if_neg (by omega), mput_get, if_neg (by omega)]
theorem runDown_R {k : Nat} {m mr : Mem} (h : WR k m (mr 138)) : ∃ m' mr', fX7_runDown k m = some m' ∧ fX9_runs mr = some mr' ∧ RW k m mr m' mr' := by
  obtain ⟨r, al, f, q, h⟩ := h
  have F := WS_5 h
  -- the last loop
  have C3 : ∀ (m1 mr1 : Mem) (I O : Nat → Nat), WS k m1 (mr1 138) r al f q → WN k m1 mr1 al f I O 16 → CF k m m1 → MF mr mr1 → mr1 138 0 = mr 138 0 → ∃ m' mr', lp (lX7_runDown_40 k) fu (0, m1) = some m' ∧ lp lX9_runs_245 fu (0, mr1) = some mr' ∧ RW k m mr m' mr' := fun m1 mr1 I O W N C M t0 => by
    refine lp_two (bs := lX7_runDown_40 k) (bt := lX9_runs_245) (fun i s t => s.1 = o32 i ∧ t.1 = o32 i ∧ (∃ f', WS k s.2 (t.2 138) r al f' q ∧ ∀ x, i ≤ x → f' x 3 = f x 3) ∧ (∀ j, s.2 (cw k 39) j = m1 (cw k 39) j) ∧ (∀ j, t.2 147 j = mr1 147 j) ∧ CF k m s.2 ∧ MF mr t.2 ∧ t.2 138 0 = mr 138 0) (fun e g => RW k m mr e g) 16 0 (0, m1) (0, mr1) fu fu ⟨rfl, rfl, ⟨f, W, fun _ _ => rfl⟩, fun _ => rfl, fun _ => rfl, C, M, t0⟩ (fun b s t _ hb hJ => ?_) (fun s t hJ => ?_) (lt_fu (by omega)) (lt_fu (by omega))
    · obtain ⟨s1, s2⟩ := s
      obtain ⟨t1, t2⟩ := t
      obtain ⟨j1, j2, ⟨f', j3, j4⟩, j5, j6, j7, j8, j9⟩ := hJ
      dsimp only at j1 j2 j3 j5 j6 j7 j8 j9
      subst j1
      subst j2
      have hb : b < 16 := by omega
      obtain ⟨x1, x2, x3, x4⟩ := N b hb
      obtain ⟨m', mr', v, e1, e2, e3, e4, e5, e6, e7, e8⟩ := run2_R (V := fun x => (I x : Int) - O x) (T := fun x => f x 3 + I x - O x) j3 hb (fun alb => by
        obtain ⟨y1, y2, y3⟩ := x4 alb
        have l3 : f b 3 ≤ 99999 := (F b hb alb 3 (by omega) (by omega)).2.2
        rw [j5, j6, j4 b (Nat.le_refl _)]
        exact ⟨x1, by omega, by omega, by omega, y1⟩)
      exact ⟨_, _, e1, e2, rfl, rfl, ⟨_, e3, fun x hx => by rw [updF_ne _ (by omega)]; exact j4 x (by omega)⟩, fun j => (e4 j).trans (j5 j), fun j => (e5 j).trans (j6 j), CF_tr j7 e6, MF_tr j8 e7, e8.trans j9⟩
    · obtain ⟨j1, j2, ⟨f', j3, j4⟩, j5, j6, j7, j8, j9⟩ := hJ
      unfold lX7_runDown_40 lX9_runs_245
      rw [j1, j2, if_pos (by decide), if_pos (by decide)]
      exact ⟨_, _, rfl, rfl, ⟨r, al, f', q, j3⟩, j7, j8, j9⟩
  have C2 : ∀ (m1 mr1 : Mem), WS k m1 (mr1 138) r al f q → WN k m1 mr1 al f (fun _ => 0) (fun _ => 0) 0 → CF k m m1 → MF mr mr1 → mr1 138 0 = mr 138 0 → ∃ m' mr', lp (lX7_runDown_10 k) fu (0, m1) = some m' ∧ lp lX9_runs_28 fu (0, mr1) = some mr' ∧ RW k m mr m' mr' := fun m1 mr1 W N C M t0 => by
    refine lp_two (bs := lX7_runDown_10 k) (bt := lX9_runs_28) (fun i s t => s.1 = o32 i ∧ t.1 = o32 i ∧ ∃ I O, WS k s.2 (t.2 138) r al f q ∧ WN k s.2 t.2 al f I O i ∧ CF k m s.2 ∧ MF mr t.2 ∧ t.2 138 0 = mr 138 0) (fun e g => RW k m mr e g) 16 0 (0, m1) (0, mr1) fu fu ⟨rfl, rfl, _, _, W, N, C, M, t0⟩ (fun b s t _ hb hJ => ?_) (fun s t hJ => ?_) (lt_fu (by omega)) (lt_fu (by omega))
    · obtain ⟨s1, s2⟩ := s
      obtain ⟨t1, t2⟩ := t
      obtain ⟨j1, j2, I, O, j3, j4, j5, j6, j7⟩ := hJ
      dsimp only at j1 j2 j3 j4 j5 j6 j7
      subst j1
      subst j2
      obtain ⟨m', mr', I', O', e1, e2, e3, e4, e5, e6, e7⟩ := run1_R j3 j4 (by omega)
      exact ⟨_, _, e1, e2, rfl, rfl, I', O', e3, e4, CF_tr j5 e5, MF_tr j6 e6, e7.trans j7⟩
    · obtain ⟨j1, j2, I, O, j3, j4, j5, j6, j7⟩ := hJ
      obtain ⟨m', mr', e1, e2, e3⟩ := C3 s.2 t.2 I O j3 j4 j5 j6 j7
      unfold lX7_runDown_10 lX9_runs_28
      rw [j1, j2, if_pos (by decide), if_pos (by decide), e1, e2]
      exact ⟨_, _, rfl, rfl, e3⟩
  unfold fX7_runDown fX9_runs
  rw [fill16, Option.bind_some]
  -- the model copies what there is
  have A : ∃ mr', lp lX9_runs_2 fu (0, mr) = some mr' ∧ ∃ m', lp (lX7_runDown_10 k) fu (0, flM m (cw k 39) 16 0) = some m' ∧ RW k m mr m' mr' := by
    refine lp_ix (body := lX9_runs_2) (fun i t => t.1 = o32 i ∧ ∀ c j, t.2 c j = if c = 147 ∧ j < i then mr 138 (12 + 50 * j + 3) else mr c j) (fun mr' => ∃ m', lp (lX7_runDown_10 k) fu (0, flM m (cw k 39) 16 0) = some m' ∧ RW k m mr m' mr') 16 0 (0, mr) fu ⟨rfl, fun c j => by rw [if_neg (by omega)]⟩ (fun i t _ hi hI => ?_) (fun t hI => ?_) (lt_fu (by omega))
    · obtain ⟨t1, t2⟩ := t
      obtain ⟨i1, i2⟩ := hI
      dsimp only at i1 i2
      subst i1
      have hi : i < 16 := by omega
      unfold lX9_runs_2
      dsimp only
      rw [if_neg (not_16 hi), show fX9_of (o32 i) 3 t2 = _ from of_o (f := 3) hi (by omega), Option.bind_some, if_pos (o_inb hi (by omega)), o_tn (by omega), o_s, i2, if_neg (by omega)]
      refine ⟨_, rfl, rfl, fun c j => ?_⟩
      dsimp only
      rw [mput_get, i2]
      by_cases e : c = 147 ∧ j = i
      · rw [if_pos e, if_pos ⟨e.1, by omega⟩, e.2]
      · rw [if_neg e]
        by_cases e2 : c = 147 ∧ j < i
        · rw [if_pos e2, if_pos ⟨e2.1, by omega⟩]
        · rw [if_neg e2, if_neg (by omega)]
    · obtain ⟨t1, t2⟩ := t
      obtain ⟨i1, i2⟩ := hI
      dsimp only at i1 i2
      subst i1
      rw [Nat.zero_add] at i2
      have g1 : ∀ z j, z ≠ cw k 39 → flM m (cw k 39) 16 0 z j = m z j := fun z j hz => by
        unfold flM
        rw [if_neg (fun q => hz q.1)]
      have g2 : ∀ c j, c ≠ 147 → t2 c j = mr c j := fun c j hc => by rw [i2, if_neg (fun q => hc q.1)]
      obtain ⟨m', mr', e1, e2, e3⟩ := C2 (flM m (cw k 39) 16 0) t2 (WS_39 h g1 g2) (fun x hx => by
        refine ⟨by unfold flM; rw [if_pos ⟨rfl, hx⟩]; rfl, Nat.zero_le _, Nat.zero_le _, fun ax => ⟨?_, Nat.zero_le _, fun _ => rfl⟩⟩
        rw [i2, if_pos ⟨rfl, hx⟩]
        exact (F x hx ax 3 (by omega) (by omega)).1) (CF_39 g1) (MF_147 g2) (g2 138 0 (by omega))
      unfold lX9_runs_2
      dsimp only
      rw [if_pos (show (16 : Int32) ≤ o32 (0 + 16) by decide), e2]
      exact ⟨_, rfl, m', e1, e3⟩
  obtain ⟨mr', e1, m', e2, e3⟩ := A
  exact ⟨m', mr', e2, e1, e3⟩
end
section
/-! BOTH: WALLS BURST -/
theorem o_rem {a b : Nat} (ha : a < 2147483648) (hb : b < 2147483648) (h0 : 0 < b) : o32 a - o32 a / o32 b * o32 b = o32 (a % b) := by
  have h := Nat.div_mul_le_self a b
  have h2 := Nat.div_add_mod a b
  rw [Nat.mul_comm] at h2
  rw [o_div ha hb h0, o_mul, o_sub h ha]
  congr 1
  omega
theorem WS_z {k : Nat} {m mr : Mem} {r : Nat → List Nat} {al : Nat → Bool} {f : Nat → Nat → Nat} {q : Nat → List Nat} (z0 : Int32) (h : WS k m (mr 138) r al f q) : WS k (mput m (cw k 1) 9 z0) (mput mr 138 3 z0 138) r al f q := by
  obtain ⟨a1, a2, a3, a4, a5, a6, a7, a8⟩ := h
  have ew : ∀ z, mput mr 138 3 z0 138 z = if z = 3 then z0 else mr 138 z := fun z => by
    rw [mput_get]
    simp only [true_and]
  refine ⟨a1, a2, RS_w a3 (fun b' hb' g hg => by rw [ew, if_neg (by omega)]), CS_same a4 (fun c z hc => ?_), FR_same a5 (fun o z h1 h2 => by rw [mput_c _ _ _ (cw_ne (by omega))]) (fun z h1 h2 => by rw [ew, if_neg (by omega)]), fun u hu => TR_same hu (a6 u hu) (fun o z ho => by rw [mput_c _ _ _ (cw_ne (by omega))]) (fun z hz => by rw [ew, if_neg (by omega)]), ?_, TP_same a8 (fun o z ho => by rw [mput_get, if_neg (fun q => by have := cw_inj q.1; omega)]) (fun z hz => by rw [ew, if_neg (by omega)])⟩
  · rcases hc with hc | hc | ⟨x, hx, hc⟩
    · rw [hc.1, mput_c _ _ _ (cw_ne (by omega))]
    · rw [hc, mput_c _ _ _ (cw_ne (by omega))]
    · rw [hc, mput_c _ _ _ (cw_ne (by omega))]
  · have c1 : ∀ j, j ≠ 9 → mput m (cw k 1) 9 z0 (cw k 1) j = m (cw k 1) j := fun j hj => mput_j _ _ _ _ hj
    have c2 : ∀ j, mput m (cw k 1) 9 z0 (cw k 2) j = m (cw k 2) j := fun j => by rw [mput_c _ _ _ (cw_ne (by omega))]
    obtain ⟨s1, s2, s3, s4, s5, s6, s7, s8, s9⟩ := a7
    unfold SC
    simp only [ew, c2]
    rw [c1 6 (by omega), c1 7 (by omega), c1 8 (by omega), c1 10 (by omega), c1 11 (by omega), mput_at]
    exact ⟨s1, s2, s3, rfl, s5, s6, s7, s8, s9⟩
theorem drawn_R {k : Nat} {m mr : Mem} (h : SC k m (mr 138)) : ∃ z i v, fX7_drawn k m = some (i, mput m (cw k 1) 9 z) ∧ fX9_drawn (mr 138 6 - mr 138 6 / 10 * 10) mr = some (v, mput mr 138 3 z) ∧ (i = 0 ↔ mr 138 6 / 10 ≤ v) := by
  obtain ⟨_, _, _, hz, _, _, ⟨n, n1, n2, n3, n4⟩, _⟩ := h
  have q1 : o32 n - o32 n / 10 * 10 = o32 (n % 10) := o_rem (b := 10) (by omega) (by omega) (by omega)
  have q2 : ¬ o32 (n % 10) = 0 := by
    rw [show (0 : Int32) = o32 0 from rfl, o_eq (by omega) (by omega)]
    exact n2
  have q3 : ¬ o32 (n % 10) ≤ 0 := by
    rw [show (0 : Int32) = o32 0 from rfl, o_le (by omega) (by omega)]
    omega
  unfold fX7_drawn fX9_drawn
  rw [n3, hz, q1, if_pos q2]
  generalize m (cw k 1) 9 * 1103515245 + 12345 = z
  rw [mput_j m _ _ z (show 8 ≠ 9 by omega), n4, q1, if_neg q3, if_pos q2, mput_at, mput_at]
  generalize jUshr z 8 = y
  by_cases c : o32 n / 10 ≤ y - y / o32 (n % 10) * o32 (n % 10)
  · rw [if_pos c]
    exact ⟨z, 0, _, rfl, rfl, fun _ => c, fun _ => rfl⟩
  · rw [if_neg c]
    exact ⟨z, 1, _, rfl, rfl, fun q => absurd q (by decide), fun q => absurd q c⟩
theorem burM_f {m : Mem} {a b : Nat} {sw : List Nat} (ha : a < 16) (hb : b < 16) (hab : a ≠ b) (hl : sw.length ≤ 44) (x j : Nat) (hx : x < 16) (h1 : 1 ≤ j) (h4 : j ≤ 4) : burM m a b sw 138 (12 + 50 * x + j) = if x = a then (if j = 1 then 6 else if j = 2 then fJ9_min_7cf53 99999 (m 138 (12 + 50 * a + 2) + m 138 (12 + 50 * b + 2)) else if j = 3 then fJ9_min_7cf53 99999 (m 138 (12 + 50 * a + 3) + m 138 (12 + 50 * b + 3)) else m 138 (12 + 50 * a + 4)) else m 138 (12 + 50 * x + j) := by
  unfold burM
  rw [mput_get, mput_get, mput_get, mput_get, mput_get]
  unfold wrM
  by_cases e : x = a
  · subst e
    rw [if_pos rfl, if_neg (by omega)]
    by_cases j1 : j = 1
    · rw [if_pos j1, if_neg (by omega), if_neg (by omega), if_pos (by omega)]
    · rw [if_neg j1]
      by_cases j2 : j = 2
      · rw [if_pos j2, if_neg (by omega), if_pos (by omega)]
      · rw [if_neg j2]
        by_cases j3 : j = 3
        · rw [if_pos j3, if_pos (by omega)]
        · rw [if_neg j3, if_neg (by omega), if_neg (by omega), if_neg (by omega), if_neg (by omega), if_neg (by omega), show j = 4 by omega]
  · rw [if_neg e, if_neg (by omega), if_neg (by omega), if_neg (by omega), if_neg (by omega), if_neg (by omega), if_neg (by omega)]
theorem unite_R {k : Nat} {m mr : Mem} {r : Nat → List Nat} {al : Nat → Bool} {f : Nat → Nat → Nat} {q : Nat → List Nat} {x y : Nat} (h : WS k m (mr 138) r al f q) (hx : x < 16) (hy : y < 16) (hne : x ≠ y) (alx : al x = true) (aly : al y = true) (hxy : y ∈ r x) (hm : mayBur r x y = true) : ∃ m' mr', fX0_unite k (o32 x) (o32 y) m = some m' ∧ fX9_bursts (o32 x) (o32 y) mr = some (o32 (min x y), mr') ∧ RW k m mr m' mr' ∧ mr' 138 6 = mr 138 6 := by
  have G := WS_1 h
  have Fc := WS_2 h
  have S := WS_3 h
  have C := WS_4 h
  have F := WS_5 h
  obtain ⟨hab, hcd, hc⟩ := mayBur_lo hx hy G Fc alx aly hxy hm
  obtain ⟨mrx, _, G', FC', _, _⟩ := burs_op hx hy hne S G Fc alx aly hxy hm
  obtain ⟨m1, e2, s2, f2⟩ := bursts_s hx hy hne S G alx aly hab
  have aA : min x y < 16 := by omega
  have aB : max x y < 16 := by omega
  have nAB : min x y ≠ max x y := by omega
  have alA : al (min x y) = true := by
    rcases Nat.le_total x y with z | z
    · rw [Nat.min_eq_left z]; exact alx
    · rw [Nat.min_eq_right z]; exact aly
  have alB : al (max x y) = true := by
    rcases Nat.le_total x y with z | z
    · rw [Nat.max_eq_right z]; exact aly
    · rw [Nat.max_eq_left z]; exact alx
  obtain ⟨m', e1, c1, f1⟩ := unite_lo (a := min x y) (b := max x y) aA aB nAB C G Fc alA alB hab hcd hc rfl rfl hx hy
  generalize hA : min x y = A at *
  generalize hB : max x y = B at *
  have ea : burR r al A B A = seam r A B := setR_at _ _ _
  have aa : offB al B A = true := offB_t.mpr ⟨alA, nAB⟩
  have l30 := Gr_len G' aA aa
  rw [ea] at l30
  obtain ⟨S3, F3⟩ := burM_RS (m := m1) aA aB nAB s2 (sw := seam r A B) (by omega) (fun z hz => (G'.1 A aA aa z (by rw [ea]; exact hz)).1)
  have fA2 := F A aA alA 2 (by omega) (by omega)
  have fB2 := F B aB alB 2 (by omega) (by omega)
  have fA3 := F A aA alA 3 (by omega) (by omega)
  have fB3 := F B aB alB 3 (by omega) (by omega)
  have lA2 : f A 2 ≤ 99999 := fA2.2.2
  have lB2 : f B 2 ≤ 99999 := fB2.2.2
  have lA3 : f A 3 ≤ 99999 := fA3.2.2
  have lB3 : f B 3 ≤ 99999 := fB3.2.2
  have m1f : ∀ z j, z < 16 → j ≤ 4 → m1 138 (12 + 50 * z + j) = mr 138 (12 + 50 * z + j) := fun z j hz hj => f2 138 _ (fun p => by obtain ⟨_, b', p2, p3, p4⟩ := p; omega) (by omega)
  have m1o : ∀ j, j < 12 ∨ 812 ≤ j → m1 138 j = mr 138 j := fun j hj => f2 138 _ (fun p => by obtain ⟨_, b', p2, p3, p4⟩ := p; omega) (by omega)
  have bo : ∀ j, j < 12 ∨ 812 ≤ j → burM m1 A B (seam r A B) 138 j = mr 138 j := fun j hj => (F3 138 j (by omega)).trans (m1o j hj)
  -- the row of the model behind
  have ew : ∀ z, mput (burM m1 A B (seam r A B)) 138 10 (mr 138 10 + 1) 138 z = if z = 10 then mr 138 10 + 1 else burM m1 A B (seam r A B) 138 z := fun z => by
    rw [mput_get]
    simp only [true_and]
  -- the class behind
  have cm : ∀ c j, ¬ (c = cw k 2 ∧ (j = 0 ∨ j = 8)) → c ≠ cw k 7 → (∀ b, b < 16 → c ≠ cw k (9 + b)) → c ≠ cw k 25 → mput m' (cw k 2) 8 (m (cw k 2) 8 + 1) c j = uniF k m A B c j := fun c j p1 p2 p3 p4 => by
    rw [mput_get, if_neg (fun z => p1 ⟨z.1, .inr z.2⟩)]
    exact f1 c j (fun z => p1 ⟨z.1, .inl z.2⟩) p2 p3 p4
  have cf : ∀ o j, o ≠ 2 → o ≠ 7 → ¬ (9 ≤ o ∧ o ≤ 25) → o ≠ 3 → o ≠ 4 → o ≠ 5 → mput m' (cw k 2) 8 (m (cw k 2) 8 + 1) (cw k o) j = m (cw k o) j := fun o j p1 p2 p3 p4 p5 p6 => by
    rw [cm _ _ (fun z => cw_ne p1 z.1) (cw_ne p2) (fun b hb => cw_ne (by omega)) (cw_ne (by omega))]
    unfold uniF
    rw [if_neg (fun z => cw_ne p6 z.1), if_neg (fun z => cw_ne p5 z.1), if_neg (fun z => cw_ne p4 z.1)]
  have cf2 : ∀ j, j ≠ 0 → j ≠ 8 → mput m' (cw k 2) 8 (m (cw k 2) 8 + 1) (cw k 2) j = m (cw k 2) j := fun j p1 p2 => by
    rw [cm _ _ (by omega) (cw_ne (by omega)) (fun b hb => cw_ne (by omega)) (cw_ne (by omega))]
    unfold uniF
    rw [if_neg (fun z => absurd z.1 (cw_ne (by omega))), if_neg (fun z => absurd z.1 (cw_ne (by omega))), if_neg (fun z => absurd z.1 (cw_ne (by omega)))]
  refine ⟨_, _, e1, e2, ⟨⟨burR r al A B, offB al B, fun z j => if z = A then (if j = 1 then 6 else if j = 2 then min 99999 (f A 2 + f B 2) else if j = 3 then min 99999 (f A 3 + f B 3) else f A j) else f z j, q, G', FC', RS_w (w := burM m1 A B (seam r A B) 138) S3 (fun b hb g hg => by rw [ew, if_neg (by omega)]), CS_same c1 (fun c j hc => ?_), fun z hz az j h1 h4 => ?_, fun u hu => TR_same hu (WS_6 h u hu) (fun o j ho => cf o j (by omega) (by omega) (by omega) (by omega) (by omega) (by omega)) (fun j hj => by rw [ew, if_neg (by omega), bo j (by omega)]), ?_, TP_same (WS_8 h) (fun o j ho => cf o j (by omega) (by omega) (by omega) (by omega) (by omega) (by omega)) (fun j hj => by rw [ew, if_neg (by omega), bo j (by omega)])⟩, fun c j hc => ?_, fun c j h1 h2 h3 h4 h5 => ?_, ?_⟩, ?_⟩
  · rw [mput_get, if_neg (fun z => ?_)]
    rcases hc with hc | hc | ⟨v, hv, hc⟩
    · omega
    · exact absurd (hc.symm.trans z.1) (cw_ne (by omega))
    · exact absurd (hc.symm.trans z.1) (cw_ne (by omega))
  · have az0 := (offB_t.mp az).1
    have zB := (offB_t.mp az).2
    have fz := F z hz az0 j h1 h4
    rw [ew, if_neg (by omega), burM_f aA aB nAB (by omega) z j hz h1 h4, cm _ _ (fun p => absurd p.1 (cw_ne (by omega))) (cw_ne (by omega)) (fun b hb => cw_ne (by omega)) (cw_ne (by omega))]
    unfold uniF
    dsimp only
    by_cases e : z = A
    · subst e
      simp only [↓reduceIte, and_true]
      have cj : ∀ a b : Nat, a ≠ b → (cw k a = cw k b) = False := fun a b h => eq_false (cw_ne h)
      rw [m1f z 2 hz (by omega), m1f B 2 aB (by omega), m1f z 3 hz (by omega), m1f B 3 aB (by omega), m1f z 4 hz (by omega), fA2.1, fB2.1, fA3.1, fB3.1, show m (cw k 5) z = _ from fA3.2.1, show m (cw k 5) B = _ from fB3.2.1, show m (cw k 4) z = _ from fA2.2.1, show m (cw k 4) B = _ from fB2.2.1, o_add, o_add, show fJ9_min_7cf53 99999 (o32 (f z 2 + f B 2)) = _ from min_b (a := 99999) (by omega) (by omega), show fJ9_min_7cf53 99999 (o32 (f z 3 + f B 3)) = _ from min_b (a := 99999) (by omega) (by omega)]
      by_cases j1 : j = 1
      · subst j1
        simp only [↓reduceIte, cj 3 5 (by omega), cj 3 4 (by omega)]
        exact ⟨rfl, rfl, by decide⟩
      · by_cases j2 : j = 2
        · subst j2
          simp only [↓reduceIte, cj 4 5 (by omega), show ((2 : Nat) = 1) = False by decide]
          exact ⟨trivial, trivial, Nat.min_le_left _ _⟩
        · by_cases j3 : j = 3
          · subst j3
            simp only [↓reduceIte, show ((3 : Nat) = 1) = False by decide, show ((3 : Nat) = 2) = False by decide]
            exact ⟨trivial, trivial, Nat.min_le_left _ _⟩
          · have j4 : j = 4 := by omega
            subst j4
            simp only [↓reduceIte, cj 6 5 (by omega), cj 6 4 (by omega), cj 6 3 (by omega), show ((4 : Nat) = 1) = False by decide, show ((4 : Nat) = 2) = False by decide, show ((4 : Nat) = 3) = False by decide]
            exact fz
    · simp only [e, and_false, ↓reduceIte]
      rw [m1f z j hz h4]
      exact fz
  · obtain ⟨s1, s2, s3, s4, s5⟩ := WS_7 h
    unfold SC
    simp only [ew]
    have c1 : ∀ j, mput m' (cw k 2) 8 (m (cw k 2) 8 + 1) (cw k 1) j = m (cw k 1) j := fun j => cf 1 j (by omega) (by omega) (by omega) (by omega) (by omega) (by omega)
    simp only [c1]
    rw [cf2 6 (by omega) (by omega), cf2 7 (by omega) (by omega), mput_at, bo 8 (by omega), bo 9 (by omega), bo 3 (by omega), bo 4 (by omega), bo 5 (by omega), bo 6 (by omega), bo 0 (by omega), bo 7 (by omega)]
    exact ⟨s1, s2, by rw [if_pos trivial, s3], s4, s5⟩
  · rw [mput_c _ _ _ (hc 2 (by omega) (by omega)), f1 c j (fun z => hc 2 (by omega) (by omega) z.1) (hc 7 (by omega) (by omega)) (fun b hb => hc (9 + b) (by omega) (by omega)) (hc 25 (by omega) (by omega))]
    unfold uniF
    rw [if_neg (fun z => hc 5 (by omega) (by omega) z.1), if_neg (fun z => hc 4 (by omega) (by omega) z.1), if_neg (fun z => hc 3 (by omega) (by omega) z.1)]
  · rw [mput_c _ _ _ h1, F3 c j (fun z => h1 z.1)]
    exact f2 c j (fun z => h1 z.1) h2
  · rw [ew, if_neg (by omega), bo 0 (by omega)]
  · rw [ew, if_neg (by omega), bo 6 (by omega)]
end
section
/-! BOTH: BURSTS OF A TICK; ONE TURNS, ONE VANISHES -/
noncomputable def RV (k : Nat) (m0 mr0 m mr : Mem) : Prop := RW k m0 mr0 m mr ∧ mr 138 6 = mr0 138 6
theorem RV_tr {k : Nat} {m0 mr0 m1 mr1 m2 mr2 : Mem} (h1 : RV k m0 mr0 m1 mr1) (h2 : RV k m1 mr1 m2 mr2) : RV k m0 mr0 m2 mr2 := ⟨RW_tr h1.1 h2.1, h2.2.trans h1.2⟩
theorem burst_in {k : Nat} {m mr : Mem} {a b : Nat} (h : WR k m (mr 138)) (ha : a < 16) (hb : b < 16) (hab : a ≠ b) : ∃ m' mr', lX7_burstDry_12 k (o32 a) (o32 b, m) = some (.inl (o32 (b + 1), m')) ∧ lX9_burstsAll_20 (mr 138 6) (o32 a) (o32 b, mr) = some (.inl (o32 (b + 1), mr')) ∧ RV k m mr m' mr' := by
  obtain ⟨r, al, f, q, h⟩ := h
  have C := WS_4 h
  have S := WS_3 h
  have same : ∃ m' mr', some (Sum.inl (o32 (b + 1), m)) = some ((.inl (o32 (b + 1), m')) : (Int32 × Mem) ⊕ ((Int32 × Mem) ⊕ Mem)) ∧ some (Sum.inl (o32 (b + 1), mr)) = some ((.inl (o32 (b + 1), mr')) : (Int32 × Mem) ⊕ ((Int32 × Mem) ⊕ Mem)) ∧ RV k m mr m' mr' := ⟨m, mr, rfl, rfl, RW_rf ⟨r, al, f, q, h⟩, rfl⟩
  unfold lX7_burstDry_12 lX9_burstsAll_20
  rw [if_neg (not_16 hb), if_neg (not_16 hb), isWall_c C ha hb, is_s ha S, is_s hb S, Option.bind_some, Option.bind_some]
  cases ala : al a with
  | false =>
    rw [Bool.false_and, if_pos (show i01 false = 0 from rfl), if_pos (show i01 false = 0 from rfl), o_s]
    exact same
  | true =>
    cases alb : al b with
    | false =>
      rw [Bool.false_and, Bool.and_false, if_pos (show i01 false = 0 from rfl), if_neg (show ¬ i01 true = 0 by decide), Option.bind_some, if_pos (show i01 false = 0 from rfl), o_s]
      exact same
    | true =>
      rw [if_neg (show ¬ i01 true = 0 by decide), Option.bind_some, if_neg (show ¬ i01 true = 0 by decide), two_m S ha hb ala, Option.bind_some]
      by_cases hm : b ∈ r a
      · rw [decide_eq_true hm, if_pos hm, if_neg (show ¬ i01 (true && (true && true)) = 0 by decide), if_neg (show ¬ (1 : Int32) = 0 by decide)]
        obtain ⟨v, v', m1, mr1, e1, e2, e3, n1, n2⟩ := burstOf_R h ha hb ala alb
        have h1 := WS_NF h n1 n2
        have o1 : mr1 138 6 = mr 138 6 := n2 138 6 (by omega) (by omega)
        have r1 : RV k m mr m1 mr1 := ⟨⟨⟨r, al, f, q, h1⟩, NF_CF n1, F146_MF n2, n2 138 0 (by omega) (by omega)⟩, o1⟩
        rw [e1, e2, Option.bind_some, Option.bind_some]
        dsimp only
        by_cases c : v = 0
        · rw [if_pos c, if_pos (e3.mp c), o_s]
          exact ⟨m1, mr1, rfl, rfl, r1⟩
        · obtain ⟨z, i, u, d1, d2, d3⟩ := drawn_R (WS_7 h1)
          have h2 := WS_z z h1
          have r2 : RV k m1 mr1 (mput m1 (cw k 1) 9 z) (mput mr1 138 3 z) := ⟨⟨⟨r, al, f, q, h2⟩, CF_put (by omega) (by omega), MF_put (by omega), by rw [mput_get, if_neg (by omega)]⟩, by rw [mput_get, if_neg (by omega)]⟩
          rw [if_neg c, if_neg (fun z => c (e3.mpr z)), d1, ← o1, d2, Option.bind_some, Option.bind_some]
          dsimp only
          by_cases c2 : i = 0
          · rw [if_pos c2, if_pos (d3.mp c2), o_s]
            exact ⟨_, _, rfl, rfl, RV_tr r1 r2⟩
          · rw [if_neg c2, if_neg (fun z => c2 (d3.mpr z)), canBurst_c (WS_4 h2) (WS_1 h2) ha hb ala alb hm, canBurst_s ha hb (WS_3 h2) (WS_1 h2) ala alb hm, Option.bind_some, Option.bind_some]
            cases hmb : mayBur r a b with
            | false =>
              rw [if_pos (show i01 false = 0 from rfl), if_pos (show i01 false = 0 from rfl), o_s]
              exact ⟨_, _, rfl, rfl, RV_tr r1 r2⟩
            | true =>
              obtain ⟨m3, mr3, u1, u2, u3, u4⟩ := unite_R h2 ha hb hab ala alb hm hmb
              rw [if_neg (show ¬ i01 true = 0 by decide), if_neg (show ¬ i01 true = 0 by decide), u1, u2, Option.bind_some, Option.bind_some, o_s]
              exact ⟨_, _, rfl, rfl, RV_tr (RV_tr r1 r2) ⟨u3, u4⟩⟩
      · rw [decide_eq_false hm, if_neg hm, if_pos (show i01 (true && (true && false)) = 0 by decide), if_pos rfl, o_s]
        exact same
theorem burstDry_R {k : Nat} {m mr : Mem} (h : WR k m (mr 138)) : ∃ m' mr', fX7_burstDry k m = some m' ∧ fX9_burstsAll mr = some mr' ∧ RW k m mr m' mr' := by
  unfold fX7_burstDry fX9_burstsAll
  refine lp_two (bs := lX7_burstDry_2 k) (bt := lX9_burstsAll_10 (mr 138 6)) (fun i s t => s.1 = o32 i ∧ t.1 = o32 i ∧ RV k m mr s.2 t.2) (fun e f => RW k m mr e f) 16 0 (0, m) (0, mr) fu fu ⟨rfl, rfl, RW_rf h, rfl⟩ (fun a s t _ ha hJ => ?_) (fun s t hJ => ?_) (lt_fu (by omega)) (lt_fu (by omega))
  · obtain ⟨j1, j2, j3⟩ := hJ
    have ha : a < 16 := by omega
    unfold lX7_burstDry_2 lX9_burstsAll_10
    rw [j1, j2, if_neg (not_16 ha), if_neg (not_16 ha), o_s]
    refine lp_two (bs := lX7_burstDry_12 k (o32 a)) (bt := lX9_burstsAll_20 (mr 138 6) (o32 a)) (fun i s t => s.1 = o32 (a + 1 + i) ∧ t.1 = o32 (a + 1 + i) ∧ RV k m mr s.2 t.2) (fun e f => ∃ s' t', e = .inl s' ∧ f = .inl t' ∧ s'.1 = o32 (a + 1) ∧ t'.1 = o32 (a + 1) ∧ RV k m mr s'.2 t'.2) (15 - a) 0 (o32 (a + 1), s.2) (o32 (a + 1), t.2) fu fu ⟨rfl, rfl, j3⟩ (fun i s t _ hi hJ => ?_) (fun s t hJ => ?_) (lt_fu (by omega)) (lt_fu (by omega)) |> fun ⟨e, f, e1, e2, s', t', e3, e4, e5⟩ => ⟨s', t', by rw [e1, e3], by rw [e2, e4], e5⟩
    · obtain ⟨s1, s2⟩ := s
      obtain ⟨t1, t2⟩ := t
      obtain ⟨i1, i2, i3⟩ := hJ
      dsimp only at i1 i2 i3
      subst i1
      subst i2
      obtain ⟨m', mr', e1, e2, e3⟩ := burst_in (a := a) (b := a + 1 + i) i3.1.1 ha (by omega) (by omega)
      rw [i3.2] at e2
      exact ⟨_, _, e1, e2, rfl, rfl, RV_tr i3 e3⟩
    · obtain ⟨i1, i2, i3⟩ := hJ
      unfold lX7_burstDry_12 lX9_burstsAll_20
      rw [i1, i2, if_pos (by rw [show (16 : Int32) = o32 16 from rfl, o_le (by omega) (by omega)]; omega), if_pos (by rw [show (16 : Int32) = o32 16 from rfl, o_le (by omega) (by omega)]; omega), o_s]
      exact ⟨_, _, rfl, rfl, _, _, rfl, rfl, rfl, rfl, i3⟩
  · obtain ⟨j1, j2, j3⟩ := hJ
    unfold lX7_burstDry_2 lX9_burstsAll_10
    rw [j1, j2, if_pos (by decide), if_pos (by decide)]
    exact ⟨_, _, rfl, rfl, j3.1⟩
theorem turn_R {k : Nat} {m mr : Mem} {r : Nat → List Nat} {al : Nat → Bool} {f : Nat → Nat → Nat} {q : Nat → List Nat} {a b : Nat} (h : WS k m (mr 138) r al f q) (ha : a < 16) (hb : b < 16) (ala : al a = true) (alb : al b = true) (hab : b ∈ r a) (ht : mayTurn r a b) : ∃ m' mr', fX0_turnOver k (o32 a) (o32 b) m = some m' ∧ fX9_turns (o32 a) (o32 b) mr = some mr' ∧ WS k m' (mr' 138) (turnR r a b) al f q ∧ CF k m m' ∧ MF mr mr' ∧ mr' 138 0 = mr 138 0 := by
  have G := WS_1 h
  have Fc := WS_2 h
  obtain ⟨m1, e1, c1, f1⟩ := turnOver_c ha hb (WS_4 h) G Fc ala alb hab ht
  obtain ⟨mr1, e2, s2, f2⟩ := turns_s ha hb (WS_3 h) G ala alb hab ht.1 ht.2.2.1
  obtain ⟨hla, hlb, hcd, hn⟩ := ht
  have ew : ∀ z, mput mr1 138 8 (mr 138 8 + 1) 138 z = if z = 8 then mr 138 8 + 1 else mr1 138 z := fun z => by
    rw [mput_get]
    simp only [true_and]
  have mo : ∀ j, j < 12 ∨ 812 ≤ j → mr1 138 j = mr 138 j := fun j hj => f2 138 j (fun p => by obtain ⟨_, b', p2, p3, p4⟩ := p; omega)
  have mf : ∀ b j, b < 16 → j ≤ 4 → mr1 138 (12 + 50 * b + j) = mr 138 (12 + 50 * b + j) := fun b j hb hj => f2 138 _ (fun p => by obtain ⟨_, b', p2, p3, p4⟩ := p; omega)
  have cf : ∀ o j, o ≠ 2 → o ≠ 7 → ¬ (9 ≤ o ∧ o ≤ 24) → mput m1 (cw k 2) 6 (m (cw k 2) 6 + 1) (cw k o) j = m (cw k o) j := fun o j p1 p2 p3 => by
    rw [mput_c _ _ _ (cw_ne p1), f1 _ _ (cw_ne p2) (fun b hb => cw_ne (by omega))]
  have cf2 : ∀ j, j ≠ 6 → mput m1 (cw k 2) 6 (m (cw k 2) 6 + 1) (cw k 2) j = m (cw k 2) j := fun j p1 => by
    rw [mput_j _ _ _ _ p1, f1 _ _ (cw_ne (by omega)) (fun b hb => cw_ne (by omega))]
  refine ⟨_, _, e1, e2, ⟨turn_Gr ha hb G ala alb hab hla hlb hcd hn, turn_FC ha hb G Fc ala alb hab hla hlb hcd hn, RS_w (w := mr1 138) s2 (fun b hb g hg => by rw [ew, if_neg (by omega)]), CS_same c1 (fun c j hc => ?_), fun b' hb' ha' j h1 h4 => ?_, fun u hu => TR_same hu (WS_6 h u hu) (fun o j ho => cf o j (by omega) (by omega) (by omega)) (fun j hj => by rw [ew, if_neg (by omega), mo j (by omega)]), ?_, TP_same (WS_8 h) (fun o j ho => cf o j (by omega) (by omega) (by omega)) (fun j hj => by rw [ew, if_neg (by omega), mo j (by omega)])⟩, fun c j hc => ?_, fun c j h1 h2 h3 h4 h5 => ?_, by rw [ew, if_neg (by omega), mo 0 (by omega)]⟩
  · rw [mput_get, if_neg (fun z => ?_)]
    rcases hc with hc | hc | ⟨v, hv, hc⟩
    · omega
    · exact absurd (hc.symm.trans z.1) (cw_ne (by omega))
    · exact absurd (hc.symm.trans z.1) (cw_ne (by omega))
  · rw [ew, if_neg (by omega), mf b' j hb' h4, cf (j + 2) b' (by omega) (by omega) (by omega)]
    exact WS_5 h b' hb' ha' j h1 h4
  · obtain ⟨s1, s2, s3, s4, s5⟩ := WS_7 h
    unfold SC
    simp only [ew]
    have c1 : ∀ j, mput m1 (cw k 2) 6 (m (cw k 2) 6 + 1) (cw k 1) j = m (cw k 1) j := fun j => cf 1 j (by omega) (by omega) (by omega)
    simp only [c1]
    rw [cf2 7 (by omega), cf2 8 (by omega), mput_at, mo 9 (by omega), mo 10 (by omega), mo 3 (by omega), mo 4 (by omega), mo 5 (by omega), mo 6 (by omega), mo 0 (by omega), mo 7 (by omega)]
    exact ⟨by rw [if_pos trivial, s1], s2, s3, s4, s5⟩
  · rw [mput_c _ _ _ (hc 2 (by omega) (by omega)), f1 c j (hc 7 (by omega) (by omega)) (fun b hb => hc (9 + b) (by omega) (by omega))]
  · rw [mput_c _ _ _ h1, f2 c j (fun z => h1 z.1)]
theorem lose_R {k : Nat} {m mr : Mem} {r : Nat → List Nat} {al : Nat → Bool} {f : Nat → Nat → Nat} {q : Nat → List Nat} {a : Nat} (h : WS k m (mr 138) r al f q) (ha : a < 16) (ala : al a = true) (h3 : (r a).length = 3) : ∃ m' mr', fX0_lose k (o32 a) m = some m' ∧ fX9_vanishes (o32 a) mr = some mr' ∧ WS k m' (mr' 138) (outR r a (r a)) (offB al a) f q ∧ CF k m m' ∧ MF mr mr' ∧ mr' 138 0 = mr 138 0 := by
  have G := WS_1 h
  have Fc := WS_2 h
  obtain ⟨m1, e1, c1, f1⟩ := lose_c ha (WS_4 h) G ala
  obtain ⟨mr1, e2, s2, f2, f3⟩ := vanishes_s ha (WS_3 h) G ala
  have ew : ∀ z, mput mr1 138 9 (mr 138 9 + 1) 138 z = if z = 9 then mr 138 9 + 1 else mr1 138 z := fun z => by
    rw [mput_get]
    simp only [true_and]
  have mo : ∀ j, j < 12 ∨ 812 ≤ j → mr1 138 j = mr 138 j := fun j hj => f2 138 j (fun p => by omega)
  have cf : ∀ o j, o ≠ 2 → o ≠ 7 → ¬ (9 ≤ o ∧ o ≤ 24) → mput m1 (cw k 2) 7 (m (cw k 2) 7 + 1) (cw k o) j = m (cw k o) j := fun o j p1 p2 p3 => by
    rw [mput_c _ _ _ (cw_ne p1), f1 _ _ (fun z => cw_ne p1 z.1) (cw_ne p2) (fun b hb => cw_ne (by omega))]
  have cf2 : ∀ j, j ≠ 0 → j ≠ 7 → mput m1 (cw k 2) 7 (m (cw k 2) 7 + 1) (cw k 2) j = m (cw k 2) j := fun j p0 p1 => by
    rw [mput_j _ _ _ _ p1, f1 _ _ (fun z => p0 z.2) (cw_ne (by omega)) (fun b hb => cw_ne (by omega))]
  refine ⟨_, _, e1, e2, ⟨van_Gr ha G, van_FC ha ala G Fc h3, RS_w (w := mr1 138) s2 (fun b hb g hg => by rw [ew, if_neg (by omega)]), CS_same c1 (fun c j hc => ?_), fun b' hb' ha' j h1 h4 => ?_, fun u hu => TR_same hu (WS_6 h u hu) (fun o j ho => cf o j (by omega) (by omega) (by omega)) (fun j hj => by rw [ew, if_neg (by omega), mo j (by omega)]), ?_, TP_same (WS_8 h) (fun o j ho => cf o j (by omega) (by omega) (by omega)) (fun j hj => by rw [ew, if_neg (by omega), mo j (by omega)])⟩, fun c j hc => ?_, fun c j h1 h2 h3 h4 h5 => ?_, by rw [ew, if_neg (by omega), mo 0 (by omega)]⟩
  · rw [mput_get, if_neg (fun z => ?_)]
    rcases hc with hc | hc | ⟨v, hv, hc⟩
    · omega
    · exact absurd (hc.symm.trans z.1) (cw_ne (by omega))
    · exact absurd (hc.symm.trans z.1) (cw_ne (by omega))
  · have az := offB_t.mp ha'
    rw [ew, if_neg (by omega), f3 b' hb' az.2 j (by omega), cf (j + 2) b' (by omega) (by omega) (by omega)]
    exact WS_5 h b' hb' az.1 j h1 h4
  · obtain ⟨s1, s2, s3, s4, s5⟩ := WS_7 h
    unfold SC
    simp only [ew]
    have c1 : ∀ j, mput m1 (cw k 2) 7 (m (cw k 2) 7 + 1) (cw k 1) j = m (cw k 1) j := fun j => cf 1 j (by omega) (by omega) (by omega)
    simp only [c1]
    rw [cf2 6 (by omega) (by omega), cf2 8 (by omega) (by omega), mput_at, mo 8 (by omega), mo 10 (by omega), mo 3 (by omega), mo 4 (by omega), mo 5 (by omega), mo 6 (by omega), mo 0 (by omega), mo 7 (by omega)]
    exact ⟨s1, by rw [if_pos trivial, s2], s3, s4, s5⟩
  · rw [mput_c _ _ _ (hc 2 (by omega) (by omega)), f1 c j (fun z => hc 2 (by omega) (by omega) z.1) (hc 7 (by omega) (by omega)) (fun b hb => hc (9 + b) (by omega) (by omega))]
  · rw [mput_c _ _ _ h1]
    exact f2 c j (fun z => h1 z.1)
end
section
/-! BOTH: A TICK -/
/-- where the least of the first j + 1 stands, the first of like ones -/
noncomputable def lsI (l : List Nat) : Nat → Nat
  | 0 => 0
  | j + 1 => if l.getD (j + 1) 0 < l.getD (lsI l j) 0 then j + 1 else lsI l j
theorem lsI_le (l : List Nat) : ∀ j, lsI l j ≤ j
  | 0 => Nat.le_refl _
  | j + 1 => by
    have := lsI_le l j
    unfold lsI
    split <;> omega
theorem getD_16 {l : List Nat} (h : ∀ x ∈ l, x ≤ 16) (i : Nat) : l.getD i 0 ≤ 16 := by
  by_cases hi : i < l.length
  · rw [getD_g hi]
    exact h _ (List.getElem_mem hi)
  · rw [List.getD_eq_getElem?_getD, List.getElem?_eq_none (by omega)]
    exact Nat.zero_le _
theorem leastIn_s {m : Mem} {b : Nat} {l : List Nat} (hb : b < 16) (h : rgAt m b l) : fX9_leastIn (o32 b) m = some (o32 (lsI l (l.length - 1))) := by
  have hl := h.1
  unfold fX9_leastIn
  refine lp_fwd (body := lX9_leastIn_4 (o32 b) m) (l.length - 1) (fun j => (o32 (lsI l j), o32 (j + 1))) fu (fun j hj => ?_) ?_ (lt_fu (by omega))
  · have lj := lsI_le l j
    have g1 := getD_16 h.2.2.1 (j + 1)
    have g2 := getD_16 h.2.2.1 (lsI l j)
    unfold lX9_leastIn_4
    dsimp only
    rw [sd_o hb, h.2.1, Option.bind_some, if_neg (by rw [o_le (by omega) (by omega)]; omega), rg_o hb (by omega), rg_o hb (by omega), Option.bind_some, Option.bind_some, h.2.2.2 _ (show j + 1 < l.length by omega), h.2.2.2 _ (show lsI l j < l.length by omega), ← getD_g, ← getD_g, o_s]
    show _ = some (Sum.inl (o32 (lsI l (j + 1)), _))
    rw [show lsI l (j + 1) = if l.getD (j + 1) 0 < l.getD (lsI l j) 0 then j + 1 else lsI l j from rfl]
    by_cases c : l.getD (j + 1) 0 < l.getD (lsI l j) 0
    · rw [if_neg (by rw [o_le (by omega) (by omega)]; omega), if_pos c]
    · rw [if_pos (by rw [o_le (by omega) (by omega)]; omega), if_neg c]
  · unfold lX9_leastIn_4
    dsimp only
    rw [sd_o hb, h.2.1, Option.bind_some, if_pos (by rw [o_le (by omega) (by omega)]; omega)]
noncomputable def tolD (l : List Nat) (i : Nat) : Nat := l.getD ((lsI l (l.length - 1) + i) % l.length) 0
theorem toldAt_c {k : Nat} {m : Mem} {b i : Nat} {l : List Nat} (hb : b < 16) (h : cg k m b l) (h0 : 0 < l.length) (hi : i < 31) : fX0_toldAt k (o32 b) (o32 i) m = some (o32 (tolD l i)) := by
  have hl := h.1
  unfold fX0_toldAt
  rw [sidesOf_c hb h, Option.bind_some]
  refine lp_fwd (body := lX0_toldAt_12 k (o32 b) (o32 i) (o32 l.length) m) (l.length - 1) (fun j => (o32 (lsI l j), o32 (j + 1))) fu (fun j hj => ?_) ?_ (lt_fu (by omega))
  · have lj := lsI_le l j
    have g1 := getD_16 h.2.2.1 (j + 1)
    have g2 := getD_16 h.2.2.1 (lsI l j)
    unfold lX0_toldAt_12
    dsimp only
    rw [if_neg (by rw [o_le (by omega) (by omega)]; omega), at_ci hb h (show j + 1 < l.length by omega), at_ci hb h (show lsI l j < l.length by omega), Option.bind_some, Option.bind_some, ← getD_g, ← getD_g, o_s]
    show _ = some (Sum.inl (o32 (lsI l (j + 1)), _))
    rw [show lsI l (j + 1) = if l.getD (j + 1) 0 < l.getD (lsI l j) 0 then j + 1 else lsI l j from rfl]
    by_cases c : l.getD (j + 1) 0 < l.getD (lsI l j) 0
    · rw [if_neg (by rw [o_le (by omega) (by omega)]; omega), if_pos c]
    · rw [if_pos (by rw [o_le (by omega) (by omega)]; omega), if_neg c]
  · have lj := lsI_le l (l.length - 1)
    unfold lX0_toldAt_12
    dsimp only
    rw [if_pos (by rw [o_le (by omega) (by omega)]; omega), o_add, at_c hb h h0 (by omega), Option.bind_some]
    rfl
theorem told_m2 {m : Mem} {b i : Nat} {l : List Nat} (hb : b < 16) (h : rgAt m b l) (h0 : 0 < l.length) (hi : i ≤ l.length) : fX9_at (o32 b) (o32 (lsI l (l.length - 1)) + o32 i) m = some (o32 (tolD l i)) := by
  have lj := lsI_le l (l.length - 1)
  exact at_z hb h (by omega) hi
theorem tolD_mem {l : List Nat} (h0 : 0 < l.length) (i : Nat) : tolD l i ∈ l := by
  have := Nat.mod_lt (lsI l (l.length - 1) + i) h0
  unfold tolD
  rw [getD_g this]
  exact List.getElem_mem this
theorem canTurn_R {k : Nat} {m mr : Mem} {r : Nat → List Nat} {al : Nat → Bool} {f : Nat → Nat → Nat} {q : Nat → List Nat} {a b : Nat} (h : WS k m (mr 138) r al f q) (ha : a < 16) (hb : b < 16) (ala : al a = true) (alb : al b = true) (hab : b ∈ r a) : ∃ v, fX0_canTurn k (o32 a) (o32 b) m = some v ∧ fX9_canTurn (o32 a) (o32 b) mr = some v ∧ (v = 0 ∨ (¬ v = 0 ∧ mayTurn r a b)) := by
  obtain ⟨v, e1, e2⟩ := canTurn_c (WS_4 h) (WS_1 h) ha hb ala alb hab
  obtain ⟨v', e3, e4⟩ := canTurn_s ha hb (WS_3 h) (WS_1 h) ala alb hab
  rcases e2 with ⟨p1, p2⟩ | ⟨p1, p2⟩
  · rcases e4 with ⟨p3, p4⟩ | ⟨p3, p4⟩
    · rw [p1] at e1; rw [p3] at e3
      exact ⟨1, e1, e3, .inr ⟨by decide, p2⟩⟩
    · exact absurd p2 p4
  · rcases e4 with ⟨p3, p4⟩ | ⟨p3, p4⟩
    · exact absurd p4 p2
    · rw [p1] at e1; rw [p3] at e3
      exact ⟨0, e1, e3, .inl rfl⟩
theorem lp_i {S E : Type} {body : S → Option (S ⊕ E)} {s s' : S} {n : Nat} (h : body s = some (.inl s')) : lp body (n + 1) s = lp body n s' := by
  show (match body s with | none => none | some (.inl s') => lp body n s' | some (.inr e) => some e) = _
  rw [h]
theorem lp_e {S E : Type} {body : S → Option (S ⊕ E)} {s : S} {e : E} {n : Nat} (h : body s = some (.inr e)) : lp body (n + 1) s = some e := by
  show (match body s with | none => none | some (.inl s') => lp body n s' | some (.inr e) => some e) = _
  rw [h]
theorem turnFirst_R {k : Nat} {m mr : Mem} {r : Nat → List Nat} {al : Nat → Bool} {f : Nat → Nat → Nat} {q : Nat → List Nat} {a : Nat} (h : WS k m (mr 138) r al f q) (ha : a < 16) (ala : al a = true) (h0 : 0 < (r a).length) : ∃ m' mr', fX7_turnFirst k (o32 a) m = some m' ∧ fX9_turnsFirst (o32 a) mr = some mr' ∧ RW k m mr m' mr' := by
  have G := WS_1 h
  have ga := CS_g (WS_4 h) ha ala
  have Ra := ((WS_3 h) a ha).2 ala
  have la := ga.1
  unfold fX7_turnFirst fX9_turnsFirst
  rw [sidesOf_c ha ga, leastIn_s ha Ra, sd_o ha, Ra.2.1, Option.bind_some, Option.bind_some, Option.bind_some]
  have go : ∀ d i n n', i + d = (r a).length → d + 2 < n → d + 2 < n' → ∃ m' mr', lp (lX7_turnFirst_11 k (o32 a) (o32 (r a).length) m) n (o32 i) = some m' ∧ lp (lX9_turnsFirst_18 (o32 a) (o32 (lsI (r a) ((r a).length - 1))) (o32 (r a).length)) n' (0, o32 i, mr) = some mr' ∧ RW k m mr m' mr' := by
    intro d
    induction d with
    | zero =>
      intro i n n' hi hn hn'
      obtain ⟨n, rfl⟩ : ∃ z, n = z + 1 := ⟨n - 1, by omega⟩
      obtain ⟨n', rfl⟩ : ∃ z, n' = z + 1 := ⟨n' - 1, by omega⟩
      have e1 : lX7_turnFirst_11 k (o32 a) (o32 (r a).length) m (o32 i) = some (.inr m) := by
        unfold lX7_turnFirst_11
        rw [if_pos (by rw [o_le (by omega) (by omega)]; omega)]
      have e2 : lX9_turnsFirst_18 (o32 a) (o32 (lsI (r a) ((r a).length - 1))) (o32 (r a).length) (0, o32 i, mr) = some (.inr mr) := by
        unfold lX9_turnsFirst_18
        dsimp only
        rw [if_pos (by rw [o_le (by omega) (by omega)]; omega)]
      unfold lp
      rw [e1, e2]
      exact ⟨m, mr, rfl, rfl, RW_rf ⟨r, al, f, q, h⟩⟩
    | succ d ih =>
      intro i n n' hi hn hn'
      obtain ⟨n, rfl⟩ : ∃ z, n = z + 1 := ⟨n - 1, by omega⟩
      obtain ⟨n', rfl⟩ : ∃ z, n' = z + 1 := ⟨n' - 1, by omega⟩
      have hm := tolD_mem h0 i
      have p := CS_m (k := k) (m := m) G ha ala hm
      have tc := toldAt_c (i := i) ha ga h0 (by omega)
      have tm := told_m2 (i := i) ha Ra h0 (by omega)
      generalize tolD (r a) i = x at *
      have il : ¬ o32 (r a).length ≤ o32 i := by rw [o_le (by omega) (by omega)]; omega
      by_cases h16 : x = 16
      · subst h16
        have e1 : lX7_turnFirst_11 k (o32 a) (o32 (r a).length) m (o32 i) = some (.inl (o32 (i + 1))) := by
          unfold lX7_turnFirst_11
          rw [if_neg il, tc, Option.bind_some]
          unfold fX0_canTurn
          rw [show fX0_isWall k (o32 a) (o32 16) m = _ from isWall_16, Option.bind_some, if_pos rfl, Option.bind_some, if_pos rfl, o_s]
        have e2 : lX9_turnsFirst_18 (o32 a) (o32 (lsI (r a) ((r a).length - 1))) (o32 (r a).length) (0, o32 i, mr) = some (.inl (0, o32 (i + 1), mr)) := by
          unfold lX9_turnsFirst_18
          dsimp only
          rw [if_neg il, if_pos rfl, tm, Option.bind_some, if_pos (show o32 16 = 16 from rfl), o_s]
        unfold lp
        rw [e1, e2]
        exact ih (i + 1) n n' (by omega) (by omega) (by omega)
      · have p2 := p.2 h16
        obtain ⟨v, v1, v2, v3⟩ := canTurn_R h ha p2.1 ala p2.2.1 hm
        rcases v3 with v3 | ⟨v3, v4⟩
        · have e1 : lX7_turnFirst_11 k (o32 a) (o32 (r a).length) m (o32 i) = some (.inl (o32 (i + 1))) := by
            unfold lX7_turnFirst_11
            rw [if_neg il, tc, Option.bind_some, v1, Option.bind_some, if_pos v3, o_s]
          have e2 : lX9_turnsFirst_18 (o32 a) (o32 (lsI (r a) ((r a).length - 1))) (o32 (r a).length) (0, o32 i, mr) = some (.inl (0, o32 (i + 1), mr)) := by
            unfold lX9_turnsFirst_18
            dsimp only
            rw [if_neg il, if_pos rfl, tm, Option.bind_some, if_neg (fun z => h16 ((e16 p.1).mp z)), v2, Option.bind_some, if_pos v3, o_s]
          unfold lp
          rw [e1, e2]
          exact ih (i + 1) n n' (by omega) (by omega) (by omega)
        · obtain ⟨m', mr', t1, t2, t3, t4, t5, t6⟩ := turn_R h ha p2.1 ala p2.2.1 hm v4
          have e1 : lX7_turnFirst_11 k (o32 a) (o32 (r a).length) m (o32 i) = some (.inr m') := by
            unfold lX7_turnFirst_11
            rw [if_neg il, tc, Option.bind_some, v1, Option.bind_some, if_neg v3, t1]
            rfl
          have e2 : lX9_turnsFirst_18 (o32 a) (o32 (lsI (r a) ((r a).length - 1))) (o32 (r a).length) (0, o32 i, mr) = some (.inl (1, o32 (i + 1), mr')) := by
            unfold lX9_turnsFirst_18
            dsimp only
            rw [if_neg il, if_pos rfl, tm, Option.bind_some, if_neg (fun z => h16 ((e16 p.1).mp z)), v2, Option.bind_some, if_neg v3, t2, Option.bind_some, o_s]
          obtain ⟨n'', rfl⟩ : ∃ z, n' = z + 1 := ⟨n' - 1, by omega⟩
          have e3 : lX9_turnsFirst_18 (o32 a) (o32 (lsI (r a) ((r a).length - 1))) (o32 (r a).length) (1, o32 (i + 1), mr') = some (.inr mr') := by
            unfold lX9_turnsFirst_18
            dsimp only
            rw [if_neg (show ¬ (1 : Int32) = 0 by decide)]
            split <;> rfl
          refine ⟨m', mr', ?_, ?_, ⟨_, _, _, _, t3⟩, t4, t5, t6⟩
          · exact lp_e e1
          · exact (lp_i e2).trans (lp_e e3)
  exact go (r a).length 0 fu fu (by omega) (lt_fu (by omega)) (lt_fu (by omega))
theorem end_in {k : Nat} {s u : Int32 × Mem} {b : Nat} (h1 : s.1 = o32 b) (h2 : u.1 = o32 b) (h : WR k s.2 (u.2 138)) (hb : b < 16) : ∃ m' mr', lX7_loseEmpty_2 k s = some (.inl (o32 (b + 1), m')) ∧ lX9_ticks_14 u = some (.inl (o32 (b + 1), mr')) ∧ RW k s.2 u.2 m' mr' := by
  unfold lX7_loseEmpty_2 lX9_ticks_14
  rw [h1, h2]
  generalize s.2 = m at *
  generalize u.2 = mr at *
  obtain ⟨r, al, f, q, h⟩ := h
  have C := WS_4 h
  have S := WS_3 h
  have G := WS_1 h
  have same : ∃ m' mr', some (Sum.inl (o32 (b + 1), m)) = some ((.inl (o32 (b + 1), m')) : (Int32 × Mem) ⊕ Mem) ∧ some (Sum.inl (o32 (b + 1), mr)) = some ((.inl (o32 (b + 1), mr')) : (Int32 × Mem) ⊕ Mem) ∧ RW k m mr m' mr' := ⟨m, mr, rfl, rfl, RW_rf ⟨r, al, f, q, h⟩⟩
  rw [if_neg (not_16 hb), if_neg (not_16 hb), has_c C hb, is_s hb S, Option.bind_some]
  cases alb : al b with
  | false =>
    rw [if_pos (show i01 false = 0 from rfl), if_pos (show i01 false = 0 from rfl), o_s]
    exact same
  | true =>
    have ga := CS_g C hb alb
    have la := ga.1
    have k2 := WS_5 h b hb alb 2 (by omega) (by omega)
    have l2 : f b 2 ≤ 99999 := k2.2.2
    have z0 : (0 : Int32) = o32 0 := rfl
    have z3 : (3 : Int32) = o32 3 := rfl
    rw [if_neg (show ¬ i01 true = 0 by decide), if_neg (show ¬ i01 true = 0 by decide), if_pos (o_inb hb (by omega)), show fX9_of (o32 b) 2 mr = _ from fd_m h hb alb 2 (by omega) (by omega), Option.bind_some]
    rw [show m (cw k 4) (o32 b).toNatClampNeg = _ from fd_c h hb alb 2 (by omega) (by omega)]
    by_cases g0 : o32 (f b 2) = 0
    · rw [if_pos g0, if_pos g0, canVanish_c C G hb alb, sd_m h hb alb, Option.bind_some, Option.bind_some]
      by_cases c3 : (r b).length = 3
      · have i3 : o32 (r b).length ≤ 3 := by rw [z3, o_le (by omega) (by omega)]; omega
        have ie : o32 (r b).length = 3 := by rw [c3]; rfl
        rw [decide_eq_true c3, Bool.true_and, if_pos i3, Option.bind_some, if_pos ie, canVanish_s hb S G alb, Option.bind_some]
        cases hv : mayVan r b with
        | false =>
          rw [if_pos (show i01 false = 0 from rfl), if_pos (show i01 false = 0 from rfl), if_pos (o_inb hb (by omega)), sd_c h hb alb, if_pos (by rw [z3, o_le (by omega) (by omega)]; omega), o_s]
          exact same
        | true =>
          obtain ⟨m', mr', t1, t2, t3, t4, t5, t6⟩ := lose_R h hb alb c3
          rw [if_neg (show ¬ i01 true = 0 by decide), if_neg (show ¬ i01 true = 0 by decide), t1, t2, Option.bind_some, Option.bind_some, o_s]
          exact ⟨_, _, rfl, rfl, ⟨_, _, _, _, t3⟩, t4, t5, t6⟩
      · rw [decide_eq_false c3, Bool.false_and, if_pos (show i01 false = 0 from rfl), if_pos (o_inb hb (by omega)), sd_c h hb alb]
        by_cases c4 : (r b).length ≤ 3
        · rw [if_pos (by rw [z3, o_le (by omega) (by omega)]; omega), if_pos (by rw [z3, o_le (by omega) (by omega)]; omega), Option.bind_some, if_neg (by rw [z3, o_eq (by omega) (by omega)]; exact c3), o_s]
          exact same
        · obtain ⟨m', mr', t1, t2, t3⟩ := turnFirst_R h hb alb (by omega)
          rw [if_neg (by rw [z3, o_le (by omega) (by omega)]; omega), if_neg (by rw [z3, o_le (by omega) (by omega)]; omega), t1, t2, Option.bind_some, Option.bind_some, o_s]
          exact ⟨_, _, rfl, rfl, t3⟩
    · rw [if_neg g0, if_neg g0, o_s]
      exact same
theorem WS_t {k t : Nat} {m mr : Mem} {r : Nat → List Nat} {al : Nat → Bool} {f : Nat → Nat → Nat} {q : Nat → List Nat} (ht : t ≤ 9999) (h : WS k m (mr 138) r al f q) : WS k (mput m (cw k 1) 10 (o32 t)) (mput mr 138 0 (o32 t) 138) r al f q := by
  obtain ⟨a1, a2, a3, a4, a5, a6, a7, a8⟩ := h
  have ew : ∀ z, mput mr 138 0 (o32 t) 138 z = if z = 0 then o32 t else mr 138 z := fun z => by
    rw [mput_get]
    simp only [true_and]
  refine ⟨a1, a2, RS_w a3 (fun b' hb' g hg => by rw [ew, if_neg (by omega)]), CS_same a4 (fun c z hc => ?_), FR_same a5 (fun o z h1 h2 => by rw [mput_c _ _ _ (cw_ne (by omega))]) (fun z h1 h2 => by rw [ew, if_neg (by omega)]), fun u hu => TR_same hu (a6 u hu) (fun o z ho => by rw [mput_c _ _ _ (cw_ne (by omega))]) (fun z hz => by rw [ew, if_neg (by omega)]), ?_, TP_same a8 (fun o z ho => by rw [mput_get, if_neg (fun q => by have := cw_inj q.1; omega)]) (fun z hz => by rw [ew, if_neg (by omega)])⟩
  · rcases hc with hc | hc | ⟨x, hx, hc⟩
    · rw [hc.1, mput_c _ _ _ (cw_ne (by omega))]
    · rw [hc, mput_c _ _ _ (cw_ne (by omega))]
    · rw [hc, mput_c _ _ _ (cw_ne (by omega))]
  · have c1 : ∀ j, j ≠ 10 → mput m (cw k 1) 10 (o32 t) (cw k 1) j = m (cw k 1) j := fun j hj => mput_j _ _ _ _ hj
    have c2 : ∀ j, mput m (cw k 1) 10 (o32 t) (cw k 2) j = m (cw k 2) j := fun j => by rw [mput_c _ _ _ (cw_ne (by omega))]
    obtain ⟨s1, s2, s3, s4, s5, s6, s7, s8, s9⟩ := a7
    unfold SC
    simp only [ew, c2]
    rw [c1 9 (by omega), c1 6 (by omega), c1 7 (by omega), c1 8 (by omega), c1 11 (by omega), mput_at]
    exact ⟨s1, s2, s3, s4, s5, s6, s7, ⟨t, ht, rfl, rfl⟩, s9⟩
theorem goOn_R {k t : Nat} {m mr : Mem} (h : WR k m (mr 138)) (ht : t < 9999) (h0 : mr 138 0 = o32 t) : ∃ m' mr', fX7_goOn k m = some m' ∧ fX9_ticks mr = some mr' ∧ WR k m' (mr' 138) ∧ CF k m m' ∧ MF mr mr' ∧ mr' 138 0 = o32 (t + 1) := by
  obtain ⟨m1, mr1, a1, a2, a3⟩ := passGas_R h
  obtain ⟨m2, mr2, b1, b2, b3⟩ := runDown_R a3.1
  obtain ⟨m3, mr3, c1, c2, c3⟩ := burstDry_R b3.1
  have r3 := RW_tr (RW_tr a3 b3) c3
  have L : ∃ m4 e, lp (lX7_loseEmpty_2 k) fu (0, m3) = some m4 ∧ lp lX9_ticks_14 fu (0, mr3) = some e ∧ ∃ mr4, e = mput mr4 138 0 (o32 (t + 1)) ∧ RW k m mr m4 mr4 := by
    refine lp_two (bs := lX7_loseEmpty_2 k) (bt := lX9_ticks_14) (fun i s u => s.1 = o32 i ∧ u.1 = o32 i ∧ RW k m mr s.2 u.2) (fun m4 e => ∃ mr4, e = mput mr4 138 0 (o32 (t + 1)) ∧ RW k m mr m4 mr4) 16 0 (0, m3) (0, mr3) fu fu ⟨rfl, rfl, r3⟩ (fun b s u _ hb hJ => ?_) (fun s u hJ => ?_) (lt_fu (by omega)) (lt_fu (by omega))
    · obtain ⟨j1, j2, j3⟩ := hJ
      obtain ⟨m', mr', e1, e2, e3⟩ := end_in j1 j2 j3.1 (by omega)
      exact ⟨_, _, e1, e2, rfl, rfl, RW_tr j3 e3⟩
    · obtain ⟨j1, j2, j3⟩ := hJ
      unfold lX7_loseEmpty_2 lX9_ticks_14
      rw [j1, j2, if_pos (by decide), if_pos (by decide), j3.2.2.2, h0, o_s]
      exact ⟨_, _, rfl, rfl, _, rfl, j3⟩
  obtain ⟨m4, e, d1, d2, mr4, d3, d4⟩ := L
  obtain ⟨⟨r, al, f, q, W⟩, C, M, t4⟩ := d4
  have e10 : m4 (cw k 1) 10 = o32 t := by rw [tick_eq (mr := mr4) (WS_7 W), t4, h0]
  refine ⟨mput m4 (cw k 1) 10 (o32 (t + 1)), mput mr4 138 0 (o32 (t + 1)), ?_, ?_, ⟨r, al, f, q, WS_t (by omega) W⟩, CF_tr C (CF_put (by omega) (by omega)), MF_tr M (MF_put (by omega)), by rw [mput_get, if_pos ⟨rfl, rfl⟩]⟩
  · unfold fX7_goOn fX7_loseEmpty
    rw [a1, Option.bind_some, b1, Option.bind_some, c1, Option.bind_some, d1, Option.bind_some, e10, o_s, show fJ9_min_7cf53 9999 (o32 (t + 1)) = _ from min_b (a := 9999) (by omega) (by omega), Nat.min_eq_right (by omega)]
  · unfold fX9_ticks
    rw [a2, Option.bind_some, b2, Option.bind_some, c2, Option.bind_some, d2, d3]
end
