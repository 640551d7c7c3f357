/-- one BUBBLE of a new FOAM -/
def row2 (j : Nat) : Nat := j % 2
theorem cell_s {m : Mem} {w h j i y n : Nat} {g : Int32} (hw : w < 5) (hh : h < 5) (hj : j < 4) (hi : i < 4) (hy : y < 5) (hn : n < 16) (hz : ∀ f, f < 50 → m 138 (12 + 50 * n + f) = 0) :
    ∃ m', bX9_foam_137 (o32 w) (o32 h) g (o32 j) (o32 i) (o32 n) (o32 y) m = some (.inl (o32 (i + 1), m')) ∧ rgAt m' n (trimR (ring6 w h j i y)) ∧ m' 138 (12 + 50 * n) = 1 ∧ m' 138 (12 + 50 * n + 1) = 0 ∧ m' 138 (12 + 50 * n + 2) = g ∧ m' 138 (12 + 50 * n + 3) = 0 ∧ m' 138 (12 + 50 * n + 4) = o32 j ∧ (∀ c z, ¬ (c = 138 ∧ 12 + 50 * n ≤ z ∧ z < 12 + 50 * n + 50) → m' c z = m c z) := by
  obtain ⟨p1, p2, p3, p4, p5, p6⟩ := pl_all hw hh hj hi hy
  have L := pl_l hw hh hj hi hy
  have t0 : ∀ v m, fX9_tells (o32 n) 0 v m = some (mput m 138 (12 + 50 * n + 0) v) := fun v m => tl_o (f := 0) hn (by omega)
  have t2 : ∀ v m, fX9_tells (o32 n) 2 v m = some (mput m 138 (12 + 50 * n + 2) v) := fun v m => tl_o (f := 2) hn (by omega)
  have t4 : ∀ v m, fX9_tells (o32 n) 4 v m = some (mput m 138 (12 + 50 * n + 4) v) := fun v m => tl_o (f := 4) hn (by omega)
  let m0 := mput (mput (mput m 138 (12 + 50 * n + 0) 1) 138 (12 + 50 * n + 2) g) 138 (12 + 50 * n + 4) (o32 j)
  have g0 : ∀ c z, m0 c z = if c = 138 ∧ z = 12 + 50 * n + 4 then o32 j else if c = 138 ∧ z = 12 + 50 * n + 2 then g else if c = 138 ∧ z = 12 + 50 * n + 0 then 1 else m c z := fun c z => by
    show mput (mput (mput m 138 (12 + 50 * n + 0) 1) 138 (12 + 50 * n + 2) g) 138 (12 + 50 * n + 4) (o32 j) c z = _
    rw [mput_get, mput_get, mput_get]
  have r0 : rgAt m0 n [] := ⟨by simp, by rw [g0, if_neg (by omega), if_neg (by omega), if_neg (by omega), hz 5 (by omega)]; rfl, by simp, by simp⟩
  obtain ⟨m1, e1, r1, o1⟩ := grows_s hn (L _ (by unfold plL; simp)) r0 (x := plI w h j (i + 1)) (by simp)
  have l1 := pushR_len [] (plI w h j (i + 1))
  obtain ⟨m2, e2, r2, o2⟩ := grows_s hn (L _ (by unfold plL; simp)) r1 (x := plI w h (j + 1) y) (by simp at l1; omega)
  have l2 := pushR_len (pushR [] (plI w h j (i + 1))) (plI w h (j + 1) y)
  obtain ⟨m3, e3, r3, o3⟩ := grows_s hn (L _ (by unfold plL; simp)) r2 (x := plI w h (j + 1) (y - 1)) (by simp at l1; omega)
  have l3 := pushR_len (pushR (pushR [] (plI w h j (i + 1))) (plI w h (j + 1) y)) (plI w h (j + 1) (y - 1))
  obtain ⟨m4, e4, r4, o4⟩ := grows_s hn (L _ (by unfold plL; simp)) r3 (x := plI w h j (i - 1)) (by simp at l1; omega)
  have l4 := pushR_len (pushR (pushR (pushR [] (plI w h j (i + 1))) (plI w h (j + 1) y)) (plI w h (j + 1) (y - 1))) (plI w h j (i - 1))
  obtain ⟨m5, e5, r5, o5⟩ := grows_s hn (L _ (by unfold plL; simp)) r4 (x := plI w h (j - 1) (y - 1)) (by simp at l1; omega)
  have l5 := pushR_len (pushR (pushR (pushR (pushR [] (plI w h j (i + 1))) (plI w h (j + 1) y)) (plI w h (j + 1) (y - 1))) (plI w h j (i - 1))) (plI w h (j - 1) (y - 1))
  obtain ⟨m6, e6, r6, o6⟩ := grows_s hn (L _ (by unfold plL; simp)) r5 (x := plI w h (j - 1) y) (by simp at l1; omega)
  obtain ⟨m7, e7, r7, o7⟩ := trim_s (i := o32 i + 1) hn r6
  have O : ∀ c z, ¬ (c = 138 ∧ 12 + 50 * n + 5 ≤ z ∧ z < 12 + 50 * n + 50) → m7 c z = m0 c z := fun c z q => by
    rw [o7 c z q, o6 c z q, o5 c z q, o4 c z q, o3 c z q, o2 c z q, o1 c z q]
  refine ⟨m7, ?_, r7, ?_, ?_, ?_, ?_, ?_, fun c z q => ?_⟩
  · unfold bX9_foam_137
    rw [t0, Option.bind_some, t2, Option.bind_some, t4, Option.bind_some, p1]
    rw [show mput (mput (mput m 138 (12 + 50 * n + 0) 1) 138 (12 + 50 * n + 2) g) 138 (12 + 50 * n + 4) (o32 j) = m0 from rfl, e1, Option.bind_some, p2, e2, Option.bind_some, p3, e3, Option.bind_some, p4, e4, Option.bind_some, p5, e5, Option.bind_some, p6, e6, Option.bind_some, e7, o_s]
  · rw [O _ _ (by omega), g0, if_neg (by omega), if_neg (by omega), if_pos ⟨rfl, rfl⟩]
  · rw [O _ _ (by omega), g0, if_neg (by omega), if_neg (by omega), if_neg (by omega), hz 1 (by omega)]
  · rw [O _ _ (by omega), g0, if_neg (by omega), if_pos ⟨rfl, rfl⟩]
  · rw [O _ _ (by omega), g0, if_neg (by omega), if_neg (by omega), if_neg (by omega), hz 3 (by omega)]
  · rw [O _ _ (by omega), g0, if_pos ⟨rfl, rfl⟩]
  · rw [O _ _ (by omega), g0, if_neg (by omega), if_neg (by omega), if_neg (by omega)]
/-- the rings and the BUBBLES of a new FOAM -/
def R0 (w h b : Nat) : List Nat := trimR (ring6 w h (b / w) (b % w) (b % w + b / w % 2))
def A0 (w h b : Nat) : Bool := decide (b < w * h)
def ch4 (f : Nat → Nat → Bool) : Bool := (List.range 4).all fun w => (List.range 4).all fun h => f (w + 1) (h + 1)
theorem ch4_of {f : Nat → Nat → Bool} (e : ch4 f = true) {w h : Nat} (hw : 1 ≤ w) (hw4 : w ≤ 4) (hh : 1 ≤ h) (hh4 : h ≤ 4) : f w h = true := by
  have m : ∀ {n k : Nat} {p : Nat → Bool}, (List.range n).all p = true → k < n → p k = true := fun e h => List.all_eq_true.mp e _ (List.mem_range.mpr h)
  have := m (m e (k := w - 1) (by omega)) (k := h - 1) (by omega)
  rw [show w - 1 + 1 = w by omega, show h - 1 + 1 = h by omega] at this
  exact this
def GrB (r : Nat → List Nat) (al : Nat → Bool) : Bool := (List.range 16).all fun b => !al b || ((r b).all fun x => decide (x ≤ 16) && (decide (x = 16) || (al x && (decide (x ≠ b) && decide (b ∈ r x)))) && (decide (x = 16) || (decide ((r b).count x ≤ 1) && decide (nxt (r b) x = prv (r x) b))))
theorem GrB_of {r : Nat → List Nat} {al : Nat → Bool} (h : GrB r al = true) (u : Ur r al ≤ 42) : Gr r al ∧ FC r al := by
  have k : ∀ b, b < 16 → al b = true → ∀ x, x ∈ r b → (x ≤ 16 ∧ (x = 16 ∨ (al x = true ∧ x ≠ b ∧ b ∈ r x))) ∧ (x = 16 ∨ ((r b).count x ≤ 1 ∧ nxt (r b) x = prv (r x) b)) := fun b hb hal x hx => by
    have e := List.all_eq_true.mp h b (List.mem_range.mpr hb)
    rw [hal] at e
    simp only [Bool.not_true, Bool.false_or] at e
    have e2 := List.all_eq_true.mp e x hx
    simp only [Bool.and_eq_true, Bool.or_eq_true, decide_eq_true_eq] at e2
    exact e2
  refine ⟨⟨fun b hb hal x hx => ⟨(k b hb hal x hx).1.1, fun h16 => ((k b hb hal x hx).1.2).resolve_left h16⟩, fun b hb hal x h16 => ?_, u⟩, fun b hb hal x hx h16 => (((k b hb hal x hx).2).resolve_left h16).2⟩
  by_cases hx : x ∈ r b
  · exact (((k b hb hal x hx).2).resolve_left h16).1
  · rw [List.count_eq_zero_of_not_mem hx]; omega
theorem foam_ok : ch4 (fun w h => GrB (R0 w h) (A0 w h) && (decide (Ur (R0 w h) (A0 w h) ≤ 42) && (List.range 16).all fun b => !A0 w h b || decide (1 ≤ (R0 w h b).length))) = true := by decide +kernel
theorem foam_Gr {w h : Nat} (hw : 1 ≤ w) (hw4 : w ≤ 4) (hh : 1 ≤ h) (hh4 : h ≤ 4) : Gr (R0 w h) (A0 w h) ∧ FC (R0 w h) (A0 w h) ∧ ∀ b, b < 16 → A0 w h b = true → 1 ≤ (R0 w h b).length := by
  have e := ch4_of foam_ok hw hw4 hh hh4
  simp only [Bool.and_eq_true, decide_eq_true_eq] at e
  obtain ⟨e1, e2, e3⟩ := e
  obtain ⟨g, f⟩ := GrB_of e1 e2
  refine ⟨g, f, fun b hb hal => ?_⟩
  have q := List.all_eq_true.mp e3 b (List.mem_range.mpr hb)
  rw [hal] at q
  simpa using q
