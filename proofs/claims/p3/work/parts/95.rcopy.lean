/-! COPIES OF A WORLD: IMAGE, RESTORE -/
def cp1 (k k2 o j : Nat) (m : Mem) : Mem := mput m (cw k o) j (m (cw k2 o) j)
def cpa (k k2 o n : Nat) (m : Mem) : Mem := mcpy m (cw k2 o) (cw k o) 0 0 n
def TT (k k2 : Nat) (S : Nat → Nat → Prop) (m0 m : Mem) : Prop := CF k m0 m ∧ ∀ o j, S o j → m (cw k o) j = m0 (cw k2 o) j
theorem kk_ne {k k2 o o' : Nat} (h : k ≠ k2) (h1 : 1 ≤ o) (h2 : o ≤ 39) (h3 : 1 ≤ o') (h4 : o' ≤ 39) : cw k2 o ≠ cw k o' := by
  unfold cw
  omega
theorem TT_1 {k k2 o j : Nat} {S : Nat → Nat → Prop} {m0 m : Mem} (hk : k ≠ k2) (h1 : 1 ≤ o) (h2 : o ≤ 39) (h : TT k k2 S m0 m) : TT k k2 (fun o' j' => S o' j' ∨ (o' = o ∧ j' = j)) m0 (cp1 k k2 o j m) := by
  refine ⟨CF_tr h.1 (CF_put h1 h2), fun o' j' hs => ?_⟩
  unfold cp1
  rw [mput_get]
  by_cases e : o' = o ∧ j' = j
  · rw [if_pos ⟨by rw [e.1], e.2⟩, e.1, e.2]
    exact h.1 _ _ (fun o'' a b => kk_ne hk h1 h2 a b)
  · rw [if_neg (fun z => e ⟨cw_inj z.1, z.2⟩)]
    exact h.2 o' j' (hs.resolve_right e)
theorem TT_a {k k2 o n : Nat} {S : Nat → Nat → Prop} {m0 m : Mem} (hk : k ≠ k2) (h1 : 1 ≤ o) (h2 : o ≤ 39) (h : TT k k2 S m0 m) : TT k k2 (fun o' j' => S o' j' ∨ (o' = o ∧ j' < n)) m0 (cpa k k2 o n m) := by
  refine ⟨CF_tr h.1 (fun c j hc => by unfold cpa; rw [mcpy_get, if_neg (fun z => hc o h1 h2 z.1)]), fun o' j' hs => ?_⟩
  unfold cpa
  rw [mcpy_get]
  by_cases e : o' = o ∧ j' < n
  · rw [if_pos ⟨by rw [e.1], by omega, by omega⟩, show 0 + (j' - 0) = j' by omega, e.1]
    exact h.1 _ _ (fun o'' a b => kk_ne hk h1 h2 a b)
  · rw [if_neg (fun z => e ⟨cw_inj z.1, by omega⟩)]
    exact h.2 o' j' (hs.resolve_right e)
theorem TT_m {k k2 : Nat} {S S' : Nat → Nat → Prop} {m0 m : Mem} (h : TT k k2 S m0 m) (hs : ∀ o j, S' o j → S o j) : TT k k2 S' m0 m := ⟨h.1, fun o j hh => h.2 o j (hs o j hh)⟩
def S1 (i o j : Nat) : Prop := (o = 2 ∧ (j = 0 ∨ j = 6 ∨ j = 7 ∨ j = 8)) ∨ (3 ≤ o ∧ o ≤ 7 ∧ j < 16) ∨ (9 ≤ o ∧ o < 9 + i ∧ j < 30)
theorem copyF_c {k k2 : Nat} {m : Mem} (hk : k ≠ k2) : ∃ m', fX0_copyFrom k k2 m = some m' ∧ TT k k2 (S1 16) m m' := by
  have T0 : TT k k2 (fun _ _ => False) m m := ⟨CF_rf, fun _ _ z => z.elim⟩
  have T9 := TT_a (n := 16) hk (show 1 ≤ 7 by omega) (by omega) (TT_a (n := 16) hk (show 1 ≤ 6 by omega) (by omega) (TT_a (n := 16) hk (show 1 ≤ 5 by omega) (by omega) (TT_a (n := 16) hk (show 1 ≤ 4 by omega) (by omega) (TT_a (n := 16) hk (show 1 ≤ 3 by omega) (by omega) (TT_1 (j := 8) hk (show 1 ≤ 2 by omega) (by omega) (TT_1 (j := 7) hk (show 1 ≤ 2 by omega) (by omega) (TT_1 (j := 6) hk (show 1 ≤ 2 by omega) (by omega) (TT_1 (j := 0) hk (show 1 ≤ 2 by omega) (by omega) T0))))))))
  have U : TT k k2 (S1 0) m _ := TT_m T9 (fun o j h => by unfold S1 at h; omega)
  clear T9
  generalize hM : cpa k k2 7 16 (cpa k k2 6 16 (cpa k k2 5 16 (cpa k k2 4 16 (cpa k k2 3 16 (cp1 k k2 2 8 (cp1 k k2 2 7 (cp1 k k2 2 6 (cp1 k k2 2 0 m)))))))) = M at U
  have e : fX0_copyFrom k k2 m = lp (lX0_copyFrom_109 k k2) fu (0, M) := by
    rw [← hM]
    rfl
  rw [e]
  refine lp_ix (body := lX0_copyFrom_109 k k2) (fun i s => s.1 = o32 i ∧ TT k k2 (S1 i) m s.2) (fun m' => TT k k2 (S1 16) m m') 16 0 (0, M) fu ⟨rfl, U⟩ (fun i s _ hi hI => ?_) (fun s hI => ?_) (lt_fu (by omega))
  · obtain ⟨i1, i2⟩ := hI
    have hi : i < 16 := by omega
    unfold lX0_copyFrom_109
    rw [i1, if_neg (not_16 hi), if_pos (o_inb hi (by omega)), if_pos (o_inb hi (by omega)), o_tn (by omega), o_s]
    exact ⟨_, rfl, rfl, TT_m (TT_a (o := 9 + i) (n := 30) hk (by omega) (by omega) i2) (fun o j h => by unfold S1 at *; omega)⟩
  · obtain ⟨i1, i2⟩ := hI
    unfold lX0_copyFrom_109
    rw [i1, if_pos (by decide)]
    exact ⟨_, rfl, i2⟩
def S2 (L : Nat → Nat) (i o j : Nat) : Prop := S1 16 o j ∨ ∃ u, u < i ∧ ((o = 27 + 3 * u ∧ j = 0) ∨ (o = 28 + 3 * u ∧ j < L u))
def S3 (L : Nat → Nat) (o j : Nat) : Prop := S2 L 3 o j ∨ (o = 36 ∧ j < 60) ∨ (o = 37 ∧ j < 24) ∨ (o = 1 ∧ (j = 3 ∨ (5 ≤ j ∧ j ≤ 11)))
theorem copyW_c {k k2 : Nat} {m : Mem} {L : Nat → Nat} (hk : k ≠ k2) (hL : ∀ u, u < 3 → L u ≤ 60 ∧ m (cw k2 (27 + 3 * u)) 0 = o32 (L u)) : ∃ m', fX7_copyFrom k k2 m = some m' ∧ TT k k2 (S3 L) m m' := by
  obtain ⟨m1, e1, T1⟩ := copyF_c (m := m) hk
  unfold fX7_copyFrom
  rw [e1, Option.bind_some]
  refine lp_ix (body := lX7_copyFrom_13 k k2) (fun i s => s.1 = o32 i ∧ TT k k2 (S2 L i) m s.2) (fun m' => TT k k2 (S3 L) m m') 3 0 (0, m1) fu ⟨rfl, TT_m T1 (fun o j h => by
    rcases h with h | ⟨u, hu, _⟩
    · exact h
    · omega)⟩ (fun i s _ hi hI => ?_) (fun s hI => ?_) (lt_fu (by omega))
  · obtain ⟨i1, i2⟩ := hI
    have hi : i < 3 := by omega
    obtain ⟨l60, lm⟩ := hL i hi
    have ls : s.2 (cw k2 (27 + 3 * i)) 0 = o32 (L i) := by
      rw [← lm]
      exact i2.1 _ _ (fun o a b => kk_ne hk (by omega) (by omega) a b)
    have T2 := TT_1 (j := 0) hk (show 1 ≤ 27 + 3 * i by omega) (by omega) (TT_a (n := L i) hk (show 1 ≤ 28 + 3 * i by omega) (by omega) i2)
    have eq : fX5_copyFrom k i k2 i s.2 = some (cp1 k k2 (27 + 3 * i) 0 (cpa k k2 (28 + 3 * i) (L i) s.2)) := by
      unfold fX5_copyFrom fX5_take_60
      rw [ls, if_neg (not_lt0 (by omega)), if_neg (by rw [show (60 : Int32) = o32 60 from rfl, o_lt (by omega) (by omega)]; omega), if_neg (by rw [show (60 : Int32) = o32 60 from rfl, o_lt (by omega) (by omega)]; omega), if_pos ⟨by decide, by decide, o_ge0 (by omega), by rw [o_tn (by omega)]; show 0 + _ ≤ _; omega, by rw [o_tn (by omega)]; show 0 + _ ≤ _; omega⟩, o_tn (by omega), Option.bind_some]
      unfold cp1 cpa
      rw [mcpy_get, if_neg (fun z => kk_ne hk (by omega) (by omega) (by omega) (by omega) z.1), ls]
    unfold lX7_copyFrom_13
    rw [i1, if_neg (by rw [show (3 : Int32) = o32 3 from rfl, o_le (by omega) (by omega)]; omega), if_pos (o_inb hi (by omega)), if_pos (o_inb hi (by omega)), o_tn (by omega), eq, Option.bind_some, o_s]
    refine ⟨_, rfl, rfl, TT_m T2 (fun o j h => ?_)⟩
    rcases h with h | ⟨u, hu, h⟩
    · exact .inl (.inl (.inl h))
    · by_cases e : u = i
      · subst e
        rcases h with h | h
        · exact .inr h
        · exact .inl (.inr h)
      · exact .inl (.inl (.inr ⟨u, by omega, h⟩))
  · obtain ⟨i1, i2⟩ := hI
    have T2 := TT_1 (j := 11) hk (show 1 ≤ 1 by omega) (by omega) (TT_1 (j := 10) hk (show 1 ≤ 1 by omega) (by omega) (TT_1 (j := 9) hk (show 1 ≤ 1 by omega) (by omega) (TT_1 (j := 8) hk (show 1 ≤ 1 by omega) (by omega) (TT_1 (j := 7) hk (show 1 ≤ 1 by omega) (by omega) (TT_1 (j := 6) hk (show 1 ≤ 1 by omega) (by omega) (TT_1 (j := 5) hk (show 1 ≤ 1 by omega) (by omega) (TT_a (n := 24) hk (show 1 ≤ 37 by omega) (by omega) (TT_1 (j := 3) hk (show 1 ≤ 1 by omega) (by omega) (TT_a (n := 60) hk (show 1 ≤ 36 by omega) (by omega) i2)))))))))
    refine ⟨cp1 k k2 1 11 (cp1 k k2 1 10 (cp1 k k2 1 9 (cp1 k k2 1 8 (cp1 k k2 1 7 (cp1 k k2 1 6 (cp1 k k2 1 5 (cpa k k2 37 24 (cp1 k k2 1 3 (cpa k k2 36 60 s.2))))))))), ?_, TT_m T2 (fun o j h => ?_)⟩
    · unfold lX7_copyFrom_13
      rw [i1, if_pos (show (3 : Int32) ≤ o32 (0 + 3) by decide)]
      rfl
    · rcases h with h | h
      · exact .inl (.inl (.inl (.inl (.inl (.inl (.inl (.inl (.inl (.inl h)))))))))
      · by_cases c : o = 36 ∧ j < 60
        · exact .inl (.inl (.inl (.inl (.inl (.inl (.inl (.inl (.inl (.inr c)))))))))
        · by_cases c2 : o = 37 ∧ j < 24
          · exact .inl (.inl (.inl (.inl (.inl (.inl (.inl (.inr c2)))))))
          · have c3 : o = 1 ∧ (j = 3 ∨ j = 5 ∨ j = 6 ∨ j = 7 ∨ j = 8 ∨ j = 9 ∨ j = 10 ∨ j = 11) := by omega
            obtain ⟨c4, c5⟩ := c3
            rcases c5 with c5 | c5 | c5 | c5 | c5 | c5 | c5 | c5
            · exact .inl (.inl (.inl (.inl (.inl (.inl (.inl (.inl (.inr ⟨c4, c5⟩))))))))
            · exact .inl (.inl (.inl (.inl (.inl (.inl (.inr ⟨c4, c5⟩))))))
            · exact .inl (.inl (.inl (.inl (.inl (.inr ⟨c4, c5⟩)))))
            · exact .inl (.inl (.inl (.inl (.inr ⟨c4, c5⟩))))
            · exact .inl (.inl (.inl (.inr ⟨c4, c5⟩)))
            · exact .inl (.inl (.inr ⟨c4, c5⟩))
            · exact .inl (.inr ⟨c4, c5⟩)
            · exact .inr ⟨c4, c5⟩
theorem copy_R {k k2 : Nat} {m : Mem} {w : Nat → Int32} {r : Nat → List Nat} {al : Nat → Bool} {f : Nat → Nat → Nat} {q : Nat → List Nat} (hk : k ≠ k2) (h : WS k2 m w r al f q) : ∃ m', fX7_copyFrom k k2 m = some m' ∧ WS k m' w r al f q ∧ CF k m m' := by
  obtain ⟨a1, a2, a3, ⟨⟨n, c1, c2, c3⟩, c4⟩, a5, a6, a7, ⟨t1, t2, t3, t4⟩⟩ := h
  obtain ⟨m', e, C, T⟩ := copyW_c (L := fun u => (q u).length) hk (fun u hu => ⟨(a6 u hu).1, (a6 u hu).2.2.2.2.1⟩)
  have T1 : ∀ o j, S1 16 o j → m' (cw k o) j = m (cw k2 o) j := fun o j hs => T o j (.inl (.inl hs))
  have T4 : ∀ o j, (o = 36 ∧ j < 60) ∨ (o = 37 ∧ j < 24) ∨ (o = 1 ∧ (j = 3 ∨ (5 ≤ j ∧ j ≤ 11))) → m' (cw k o) j = m (cw k2 o) j := fun o j hs => T o j (.inr hs)
  refine ⟨m', e, ⟨a1, a2, a3, ⟨⟨n, c1, by rw [T1 2 0 (by unfold S1; omega)]; exact c2, c3⟩, fun b hb => ?_⟩, fun b hb ab j j1 j4 => ?_, fun u hu => ?_, ?_, ⟨?_, fun i hi => ?_, ?_, fun i hi => ?_⟩⟩, C⟩
  · obtain ⟨g1, g2, g3, g4⟩ := c4 b hb
    exact ⟨g1, by rw [T1 7 b (by unfold S1; omega)]; exact g2, g3, fun i hi => by rw [T1 (9 + b) i (by unfold S1; omega)]; exact g4 i hi⟩
  · rw [T1 (j + 2) b (by unfold S1; omega)]
    exact a5 b hb ab j j1 j4
  · obtain ⟨h1, h2, h3, h4, h5, h6⟩ := a6 u hu
    refine ⟨h1, h2, h3, h4, ?_, fun i hi => ?_⟩
    · rw [T _ 0 (.inl (.inr ⟨u, hu, .inl ⟨rfl, rfl⟩⟩))]; exact h5
    · rw [T _ i (.inl (.inr ⟨u, hu, .inr ⟨rfl, hi⟩⟩))]; exact h6 i hi
  · unfold SC at a7 ⊢
    rw [T1 2 6 (by unfold S1; omega), T1 2 7 (by unfold S1; omega), T1 2 8 (by unfold S1; omega), T4 1 9 (by omega), T4 1 6 (by omega), T4 1 7 (by omega), T4 1 8 (by omega), T4 1 10 (by omega), T4 1 11 (by omega)]
    exact a7
  · rw [T4 1 3 (by omega)]; exact t1
  · rw [T4 36 i (by omega)]; exact t2 i hi
  · rw [T4 1 5 (by omega)]; exact t3
  · rw [T4 37 i (by omega)]; exact t4 i hi
