/-! BOTH: LIQUID RUNS -/
theorem mput_swap {m : Mem} {c c' j j' : Nat} {x y : Int32} (h : c ≠ c') : mput (mput m c j x) c' j' y = mput (mput m c' j' y) c j x := by
  funext a b
  rw [mput_get, mput_get, mput_get, mput_get]
  by_cases e1 : a = c' ∧ b = j'
  · rw [if_pos e1, if_neg (fun z => h (z.1.symm.trans e1.1)), if_pos e1]
  · rw [if_neg e1, if_neg e1]
theorem WS_dr {k d : Nat} {m mr : Mem} {r : Nat → List Nat} {al : Nat → Bool} {f : Nat → Nat → Nat} {q : Nat → List Nat} (h : WS k m (mr 138) r al f q) (hd : d ≤ 1999999999) : WS k (mput m (cw k 1) 11 (o32 d)) (mput mr 138 7 (o32 d) 138) r al f q := by
  obtain ⟨a1, a2, a3, a4, a5, a6, a7, a8⟩ := h
  have ew : ∀ z, mput mr 138 7 (o32 d) 138 z = if z = 7 then o32 d else mr 138 z := fun z => by
    rw [mput_get]
    simp only [true_and]
  refine ⟨a1, a2, RS_w a3 (fun b' hb' g hg => by rw [ew, if_neg (by omega)]), CS_same a4 (fun c z hc => ?_), FR_same a5 (fun o z h1 h2 => by rw [mput_c _ _ _ (cw_ne (by omega))]) (fun z h1 h2 => by rw [ew, if_neg (by omega)]), fun u hu => TR_same hu (a6 u hu) (fun o z ho => by rw [mput_c _ _ _ (cw_ne (by omega))]) (fun z hz => by rw [ew, if_neg (by omega)]), ?_, TP_same a8 (fun o z ho => by rw [mput_get, if_neg (fun q => by have := cw_inj q.1; omega)]) (fun z hz => by rw [ew, if_neg (by omega)])⟩
  · rcases hc with hc | hc | ⟨x, hx, hc⟩
    · rw [hc.1, mput_c _ _ _ (cw_ne (by omega))]
    · rw [hc, mput_c _ _ _ (cw_ne (by omega))]
    · rw [hc, mput_c _ _ _ (cw_ne (by omega))]
  · have c1 : ∀ j, j ≠ 11 → mput m (cw k 1) 11 (o32 d) (cw k 1) j = m (cw k 1) j := fun j hj => mput_j _ _ _ _ hj
    have c2 : ∀ j, mput m (cw k 1) 11 (o32 d) (cw k 2) j = m (cw k 2) j := fun j => by rw [mput_c _ _ _ (cw_ne (by omega))]
    obtain ⟨s1, s2, s3, s4, s5, s6, s7, s8, _⟩ := a7
    unfold SC
    simp only [ew, c2]
    rw [c1 9 (by omega), c1 6 (by omega), c1 7 (by omega), c1 8 (by omega), c1 10 (by omega), mput_at]
    exact ⟨s1, s2, s3, s4, s5, s6, s7, s8, d, hd, rfl, rfl⟩
theorem drain_R {k v : Nat} {m mr : Mem} (h : SC k m (mr 138)) (hv : v < 2147483648) : ∃ d, d ≤ 1999999999 ∧ fX7_drain k (o32 v) m = mput m (cw k 1) 11 (o32 d) ∧ fX9_drains (o32 v) mr = mput mr 138 7 (o32 d) := by
  obtain ⟨_, _, _, _, _, _, _, _, d0, h1, h2, h3⟩ := h
  refine ⟨min 1999999999 (d0 + v), by omega, ?_, ?_⟩
  · unfold fX7_drain
    rw [h3, drain_v h1 hv]
  · unfold fX9_drains
    rw [h2, drain_v h1 hv]
theorem WS_39 {k : Nat} {m m' mr mr' : Mem} {r : Nat → List Nat} {al : Nat → Bool} {f : Nat → Nat → Nat} {q : Nat → List Nat} (h : WS k m (mr 138) r al f q) (h1 : ∀ z j, z ≠ cw k 39 → m' z j = m z j) (h2 : ∀ c j, c ≠ 147 → mr' c j = mr c j) : WS k m' (mr' 138) r al f q := WS_same h (fun c j hc => h1 c j (rc_ne hc (by omega))) (fun j => h2 138 j (by omega))
theorem CF_39 {k : Nat} {m m' : Mem} (h1 : ∀ z j, z ≠ cw k 39 → m' z j = m z j) : CF k m m' := fun c j h => h1 c j (h 39 (by omega) (by omega))
theorem MF_147 {mr mr' : Mem} (h2 : ∀ c j, c ≠ 147 → mr' c j = mr c j) : MF mr mr' := fun c j _ _ _ _ h => h2 c j h
def yB (f : Nat → Nat → Nat) (b : Nat) : Nat := if f b 1 = 3 ∨ f b 1 = 5 then 8 else 4
theorem give_part {k b g : Nat} {m mr : Mem} {r : Nat → List Nat} {al : Nat → Bool} {f : Nat → Nat → Nat} {q : Nat → List Nat} {I O : Nat → Nat} (h : WS k m (mr 138) r al f q) (hN : WN k m mr al f I O b) (hb : b < 16) (alb : al b = true) (hg : g ≤ f b 3) : ∃ n m' mr' I' O', n < 65536 ∧ fX7_bitsBelow k (o32 b) m = some (o32 n) ∧ (if (fJ6_bitCount_0f7a4 (o32 n)) ≤ 0 then (fX0_glasses k (o32 b) m).bind fun q7 => (if q7 ≤ 0 then some m else (if inb (o32 b) 16 then (if inb (o32 b) 16 then some (fX7_drain k (o32 g) (mput m (cw k 39) (o32 b).toNatClampNeg ((m (cw k 39) (o32 b).toNatClampNeg) - (o32 g)))) else none) else none)) else (if ¬ (fJ6_bitCount_0f7a4 (o32 n)) = 0 then lp (lX7_giveWater_59 k (o32 b) (o32 n) (fJ6_bitCount_0f7a4 (o32 n)) ((o32 g) / (fJ6_bitCount_0f7a4 (o32 n)))) fu ((0 : Int32), m) else none)) = some m' ∧ lp (lX9_runs_92 (o32 b) (o32 g) mr) fu (0, 0) = some (.inl (o32 (b + 1), mr')) ∧ WS k m' (mr' 138) r al f q ∧ WN k m' mr' al f I' O' (b + 1) ∧ CF k m m' ∧ MF mr mr' ∧ mr' 138 0 = mr 138 0 := by
  have G := WS_1 h
  have S := WS_3 h
  have C := WS_4 h
  have F := WS_5 h
  have R := (S b hb).2 alb
  have gb := CS_g C hb alb
  have lb := R.1
  have l16 := low_16 (f := f) G hb alb
  have f3 := (F b hb alb 3 (by omega) (by omega)).2.2
  have f3 : f b 3 ≤ 99999 := f3
  obtain ⟨n, n1, n2, n3⟩ := bitsBelow_c C F G hb alb
  have pcl : pc n = (lowL r f b).length := pc_len n3 (fun x hx => (l16.1 x hx).1) l16.2
  have p16 := pc_le n
  refine ⟨n, ?_⟩
  rw [bitCount_o n1, pcl]
  rw [pcl] at p16
  by_cases c0 : (lowL r f b).length = 0
  · rw [c0, if_pos (by decide), glasses_c hb gb, Option.bind_some]
    by_cases gl : (r b).count 16 = 0
    · rw [gl, if_pos (by decide)]
      refine ⟨m, mr, I, O, n1, n2, rfl, runs92_s (o32 g) (fun j _ _ => rfl) F G hb alb R (lp_fwd (body := lX9_runs_139 (o32 b) (o32 g) (o32 (lowL r f b).length)) 0 (fun _ => (0, mr)) fu (fun i hi => absurd hi (by omega)) ?_ (lt_fu (by omega))), h, fun x hx => ?_, CF_rf, MF_rf, rfl⟩
      · have q209 : bX9_runs_209 (o32 b) (o32 g) (o32 (lowL r f b).length) mr = some (.inl (o32 (b + 1), mr)) := by
          unfold bX9_runs_209
          rw [c0, if_pos (show o32 0 = 0 from rfl), glasses_m hb R, Option.bind_some, gl, if_pos (by decide), o_s]
        unfold lX9_runs_139
        rw [sd_o hb, Option.bind_some, c0, if_pos (show o32 0 ≤ 0 by decide)]
        rw [c0] at q209
        rw [q209]
        split <;> rfl
      · obtain ⟨x1, x2, x3, x4⟩ := hN x hx
        exact ⟨x1, x2, by omega, fun ax => ⟨(x4 ax).1, (x4 ax).2.1, fun z => (x4 ax).2.2 (by omega)⟩⟩
    · have gp : ¬ o32 ((r b).count 16) ≤ 0 := by
        have := List.count_le_length (a := 16) (l := r b)
        rw [show (0 : Int32) = o32 0 from rfl, o_le (by omega) (by omega)]
        omega
      obtain ⟨x1, x2, x3, x4⟩ := hN b hb
      obtain ⟨x5, x6, x7⟩ := x4 alb
      have ob := x7 (Nat.le_refl _)
      have SC1 := WS_7 h
      obtain ⟨d, d1, d2, d3⟩ := drain_R (v := g) (m := mput m (cw k 39) b (m (cw k 39) b - o32 g)) (mr := mput mr 147 b (mr 147 b - o32 g)) (WS_7 (WS_39 h (fun z j hz => mput_c _ _ _ hz ▸ rfl) (fun c j hc => mput_c _ _ _ hc ▸ rfl))) (by omega)
      have W2 := WS_dr (d := d) (WS_39 (m' := mput m (cw k 39) b (m (cw k 39) b - o32 g)) (mr' := mput mr 147 b (mr 147 b - o32 g)) h (fun z j hz => mput_c _ _ _ hz ▸ rfl) (fun c j hc => mput_c _ _ _ hc ▸ rfl)) d1
      rw [if_neg gp, if_pos (o_inb hb (by omega)), if_pos (o_inb hb (by omega)), o_tn (by omega), d2]
      refine ⟨_, mput (mput mr 147 b (mr 147 b - o32 g)) 138 7 (o32 d), I, fun x => if x = b then g else O x, n1, n2, rfl, runs92_s (o32 g) (fun j _ _ => rfl) F G hb alb R (lp_fwd (body := lX9_runs_139 (o32 b) (o32 g) (o32 (lowL r f b).length)) 0 (fun _ => (0, mr)) fu (fun i hi => absurd hi (by omega)) ?_ (lt_fu (by omega))), W2, fun x hx => ?_, CF_tr (CF_put (by omega) (by omega)) (CF_put (by omega) (by omega)), MF_tr (MF_put (by omega)) (MF_put (by omega)), ?_⟩
      · have q209 : bX9_runs_209 (o32 b) (o32 g) (o32 (lowL r f b).length) mr = some (.inl (o32 (b + 1), mput (mput mr 147 b (mr 147 b - o32 g)) 138 7 (o32 d))) := by
          unfold bX9_runs_209
          rw [c0, if_pos (show o32 0 = 0 from rfl), glasses_m hb R, Option.bind_some, if_neg gp, if_pos (o_inb hb (by omega)), if_pos (o_inb hb (by omega)), o_tn (by omega), o_s, d3]
        unfold lX9_runs_139
        rw [sd_o hb, Option.bind_some, c0, if_pos (show o32 0 ≤ 0 by decide)]
        rw [c0] at q209
        rw [q209]
        split <;> rfl
      · obtain ⟨y1, y2, y3, y4⟩ := hN x hx
        have A1 : ∀ u v : Int32, (mput (mput m (cw k 39) b u) (cw k 1) 11 v) (cw k 39) x = if x = b then u else m (cw k 39) x := fun u v => by
          rw [mput_c _ _ _ (cw_ne (by omega)), mput_get]
          simp only [true_and]
        have A2 : ∀ u v : Int32, (mput (mput mr 147 b u) 138 7 v) 147 x = if x = b then u else mr 147 x := fun u v => by
          rw [mput_get, if_neg (by omega), mput_get]
          simp only [true_and]
        rw [A1, A2]
        by_cases e : x = b
        · subst e
          simp only [↓reduceIte]
          refine ⟨?_, by omega, by omega, fun ax => ⟨?_, hg, fun z => by omega⟩⟩
          · rw [i_sub (by rw [x1, o_ti (by omega)]; omega) (by rw [x1, o_ti (by omega)]; omega), x1, o_ti (by omega), ob]
            omega
          · rw [x5, o_sub (by omega) (by omega), ob]
            rfl
        · simp only [e, ↓reduceIte]
          exact ⟨y1, y2, by omega, fun ax => ⟨(y4 ax).1, (y4 ax).2.1, fun z => (y4 ax).2.2 (by omega)⟩⟩
      · rw [mput_get, if_neg (by omega), mput_get, if_neg (by omega)]
  · have h0 : 0 < (lowL r f b).length := by omega
    have ge := Nat.div_mul_le_self g (lowL r f b).length
    have gd := Nat.div_le_self g (lowL r f b).length
    have bL : b ∉ lowL r f b := fun z => (l16.1 b z).2.2 rfl
    obtain ⟨mr', t1, t2, t3⟩ := runs139_s (T := fun x => f x 3 + I x - O x) (g := g) (fun j _ _ => rfl) F G hb alb R (by omega) h0 (fun x hx ax => by
      obtain ⟨x1, x2, x3, x4⟩ := hN x hx
      have : f x 3 ≤ 99999 := (F x hx ax 3 (by omega) (by omega)).2.2
      exact ⟨(x4 ax).1, by omega⟩) (by
      obtain ⟨x1, x2, x3, x4⟩ := hN b hb
      have := (x4 alb).2.2 (Nat.le_refl _)
      omega)
    have V : ∀ x, x < 16 → (m (cw k 39) x).toInt = ((I x : Int) - O x) ∧ -100000000 ≤ ((I x : Int) - O x) ∧ ((I x : Int) - O x) ≤ 100000000 := fun x hx => by
      obtain ⟨x1, x2, x3, x4⟩ := hN x hx
      exact ⟨x1, by omega, by omega⟩
    obtain ⟨m', g1, g2, g3⟩ := giveL_c (V := fun x => (I x : Int) - O x) (e := g / (lowL r f b).length) hb bL n1 n3 p16 (by omega) V
    rw [if_neg (by rw [show (0 : Int32) = o32 0 from rfl, o_le (by omega) (by omega)]; omega), if_pos (by rw [show (0 : Int32) = o32 0 from rfl, o_eq (by omega) (by omega)]; omega), o_div (by omega) (by omega) h0, g1]
    refine ⟨m', mr', fun x => I x + (if x ∈ lowL r f b then g / (lowL r f b).length else 0), fun x => if x = b then g / (lowL r f b).length * (lowL r f b).length else O x, n1, n2, rfl, runs92_s (o32 g) (fun j _ _ => rfl) F G hb alb R t1, WS_39 h g3 t3, fun x hx => ?_, CF_39 g3, MF_147 t3, t3 138 0 (by omega)⟩
    obtain ⟨x1, x2, x3, x4⟩ := hN x hx
    have gx := g2 x hx
    generalize g / (lowL r f b).length = e at *
    generalize e * (lowL r f b).length = ec at *
    by_cases eb : x = b
    · subst eb
      rw [if_pos rfl] at gx
      have o0 := (x4 alb).2.2 (Nat.le_refl _)
      simp only [↓reduceIte, bL]
      refine ⟨by rw [gx]; omega, by omega, by omega, fun ax => ⟨?_, by omega, fun z => by omega⟩⟩
      rw [t2 x hx ax, if_pos rfl]
      congr 1
      omega
    · rw [if_neg eb] at gx
      simp only [eb, ↓reduceIte]
      by_cases hm : x ∈ lowL r f b
      · rw [if_pos hm] at gx
        simp only [hm, ↓reduceIte]
        refine ⟨by rw [gx]; omega, x2, by omega, fun ax => ⟨?_, (x4 ax).2.1, fun z => (x4 ax).2.2 (by omega)⟩⟩
        rw [t2 x hx ax, if_neg eb, if_pos hm]
        congr 1
        have := (x4 ax).2.1
        omega
      · rw [if_neg hm] at gx
        simp only [hm, ↓reduceIte]
        refine ⟨by rw [gx]; omega, x2, by omega, fun ax => ⟨?_, (x4 ax).2.1, fun z => (x4 ax).2.2 (by omega)⟩⟩
        rw [t2 x hx ax, if_neg eb, if_neg hm]
        rfl
