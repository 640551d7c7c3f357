/-! the short scripts -/
theorem jls {xs : List Int32} {X : List aI} (hX : jF2 gI X xs) (ha : asteps (axs X) (acall jmt (axs X) jF0 40) 4 (some .boolean) jt_L_law 10 (0, [(0, aref (jK0 + 20))], [], []) = some (18, jL3, [], jH0)) (hs : aok 155 (arunS (axs X) (acallS jmt (axs X) jF0 40) 4 (some .boolean) jt_L_law 999990 18 jL3 [] jH0) = true) : ∃ r, jlaw jF0 xs = some r ∧ jwell r := by
  have hcs := fun k l hk => g_axs hX k l hk
  have hgc := g_call (mt := jmt) hcs jF0 40
  obtain ⟨c', h1, h2⟩ := g_steps (nL := 4) (ret := some .boolean) (tab := jt_L_law) hcs hgc 10 ((0, [(0, aref (jK0 + 20))], [], []) : aC) ((0, [(0, .ref (jK0 + 20))], [], []) : jC) _ ⟨rfl, ⟨⟨rfl, ⟨⟨_, Or.inl rfl⟩, rfl⟩⟩, trivial⟩, trivial, trivial⟩ ha
  rw [arunS_eq _ (acallS_eq jmt _ jF0 40)] at hs
  cases hr : arun (axs X) (acall jmt (axs X) jF0 40) 4 (some .boolean) jt_L_law 999990 (18, jL3, [], jH0) with
  | none => rw [hr] at hs; cases hs
  | some r =>
    rw [hr] at hs
    obtain ⟨r', s1, s2⟩ := g_run hcs hgc 999990 _ c' r h1 hr
    obtain ⟨s3, s4⟩ := aok_ok hs s2
    have hm := jmq_run (jmq_call (mt := jmt) (cs := jcs xs) (F := jF0) 40) _ _ _ s1
    have e4 : jF2 gE jH0 c'.2.2.2 := h1.2.2.2
    have e5 : r'.2.length = c'.2.2.2.length := by rw [s4, ← f2_len e4, a_n]
    refine ⟨r', ?_, s3, by rw [s4]; exact Nat.le_of_ble_eq_true rfl, ?_⟩
    · have := h2 999990
      rw [s1] at this
      exact this
    · rw [hm.2.2.2 e5, g_jsl e4]
      exact a_room
theorem a_st0 : asteps (axs ([] : List aI)) (acall jmt (axs ([] : List aI)) jF0 40) 4 (some .boolean) jt_L_law 10 (0, [(0, aref (jK0 + 20))], [], []) = some (18, jL3, [], jH0) := @of_decide_eq_true _ (aC_d _ _) (by decide +kernel)
theorem a_ss0 : aok 155 (arunS (axs ([] : List aI)) (acallS jmt (axs ([] : List aI)) jF0 40) 4 (some .boolean) jt_L_law 999990 18 jL3 [] jH0) = true := by decide +kernel
theorem jl_0 {xs : List Int32} (hl : xs.length = 0) : ∃ r, jlaw jF0 xs = some r ∧ jwell r := by
  have hX : jF2 gI ([] : List aI) xs := by
    have := f2_top xs
    rw [hl] at this
    exact this
  exact jls hX a_st0 a_ss0
theorem a_st1 : asteps (axs ([aT] : List aI)) (acall jmt (axs ([aT] : List aI)) jF0 40) 4 (some .boolean) jt_L_law 10 (0, [(0, aref (jK0 + 20))], [], []) = some (18, jL3, [], jH0) := @of_decide_eq_true _ (aC_d _ _) (by decide +kernel)
theorem a_ss1 : aok 155 (arunS (axs ([aT] : List aI)) (acallS jmt (axs ([aT] : List aI)) jF0 40) 4 (some .boolean) jt_L_law 999990 18 jL3 [] jH0) = true := by decide +kernel
theorem jl_1 {xs : List Int32} (hl : xs.length = 1) : ∃ r, jlaw jF0 xs = some r ∧ jwell r := by
  have hX : jF2 gI ([aT] : List aI) xs := by
    have := f2_top xs
    rw [hl] at this
    exact this
  exact jls hX a_st1 a_ss1
theorem a_st2 : asteps (axs ([aT, aT] : List aI)) (acall jmt (axs ([aT, aT] : List aI)) jF0 40) 4 (some .boolean) jt_L_law 10 (0, [(0, aref (jK0 + 20))], [], []) = some (18, jL3, [], jH0) := @of_decide_eq_true _ (aC_d _ _) (by decide +kernel)
theorem a_ss2 : aok 155 (arunS (axs ([aT, aT] : List aI)) (acallS jmt (axs ([aT, aT] : List aI)) jF0 40) 4 (some .boolean) jt_L_law 999990 18 jL3 [] jH0) = true := by decide +kernel
theorem jl_2 {xs : List Int32} (hl : xs.length = 2) : ∃ r, jlaw jF0 xs = some r ∧ jwell r := by
  have hX : jF2 gI ([aT, aT] : List aI) xs := by
    have := f2_top xs
    rw [hl] at this
    exact this
  exact jls hX a_st2 a_ss2
theorem a_st3 : asteps (axs ([aT, aT, aT] : List aI)) (acall jmt (axs ([aT, aT, aT] : List aI)) jF0 40) 4 (some .boolean) jt_L_law 10 (0, [(0, aref (jK0 + 20))], [], []) = some (18, jL3, [], jH0) := @of_decide_eq_true _ (aC_d _ _) (by decide +kernel)
theorem a_ss3 : aok 155 (arunS (axs ([aT, aT, aT] : List aI)) (acallS jmt (axs ([aT, aT, aT] : List aI)) jF0 40) 4 (some .boolean) jt_L_law 999990 18 jL3 [] jH0) = true := by decide +kernel
theorem jl_3 {xs : List Int32} (hl : xs.length = 3) : ∃ r, jlaw jF0 xs = some r ∧ jwell r := by
  have hX : jF2 gI ([aT, aT, aT] : List aI) xs := by
    have := f2_top xs
    rw [hl] at this
    exact this
  exact jls hX a_st3 a_ss3
theorem a_st4 : asteps (axs ([aT, aT, aT, aT] : List aI)) (acall jmt (axs ([aT, aT, aT, aT] : List aI)) jF0 40) 4 (some .boolean) jt_L_law 10 (0, [(0, aref (jK0 + 20))], [], []) = some (18, jL3, [], jH0) := @of_decide_eq_true _ (aC_d _ _) (by decide +kernel)
theorem a_ss4 : aok 155 (arunS (axs ([aT, aT, aT, aT] : List aI)) (acallS jmt (axs ([aT, aT, aT, aT] : List aI)) jF0 40) 4 (some .boolean) jt_L_law 999990 18 jL3 [] jH0) = true := by decide +kernel
theorem jl_4 {xs : List Int32} (hl : xs.length = 4) : ∃ r, jlaw jF0 xs = some r ∧ jwell r := by
  have hX : jF2 gI ([aT, aT, aT, aT] : List aI) xs := by
    have := f2_top xs
    rw [hl] at this
    exact this
  exact jls hX a_st4 a_ss4
theorem a_st5 : asteps (axs ([aT, aT, aT, aT, aT] : List aI)) (acall jmt (axs ([aT, aT, aT, aT, aT] : List aI)) jF0 40) 4 (some .boolean) jt_L_law 10 (0, [(0, aref (jK0 + 20))], [], []) = some (18, jL3, [], jH0) := @of_decide_eq_true _ (aC_d _ _) (by decide +kernel)
theorem a_ss5 : aok 155 (arunS (axs ([aT, aT, aT, aT, aT] : List aI)) (acallS jmt (axs ([aT, aT, aT, aT, aT] : List aI)) jF0 40) 4 (some .boolean) jt_L_law 999990 18 jL3 [] jH0) = true := by decide +kernel
theorem jl_5 {xs : List Int32} (hl : xs.length = 5) : ∃ r, jlaw jF0 xs = some r ∧ jwell r := by
  have hX : jF2 gI ([aT, aT, aT, aT, aT] : List aI) xs := by
    have := f2_top xs
    rw [hl] at this
    exact this
  exact jls hX a_st5 a_ss5
