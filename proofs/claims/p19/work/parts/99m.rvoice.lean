/-! VOICE: THE CLASS ANSWERS -/
noncomputable def bd (k v : Nat) : Nat := [10, 11, 12, 13, 20, 0, 0, 21, 30, 0, 31, 0, 0, 41, 40, 0, 0, 0, 0, 50, 0, 60, 61, 0, 70, 0, 0, 0].getD (4 * k + v) 0
noncomputable def up (k : Nat) : Nat := if k = 2 then 1 else if k = 5 then 3 else 0
theorem body_tab : ∀ k, k < 7 → ∀ v, v < 4 → fX6_bodyAt (o32 k) (o32 v) (fun _ _ => 0) = some (o32 (bd k v)) := by decide +kernel
theorem body_c {k v : Nat} (hk : k < 7) (hv : v < 4) (m : Mem) : fX6_bodyAt (o32 k) (o32 v) m = some (o32 (bd k v)) := body_tab k hk v hv
theorem above_tab : ∀ k, k < 7 → 1 ≤ k → fX1_above (o32 k) (fun _ _ => 0) = some (o32 (up k)) ∧ up k < 7 := by decide +kernel
theorem above_c {k : Nat} (hk : k < 7) (h1 : 1 ≤ k) (m : Mem) : fX1_above (o32 k) m = some (o32 (up k)) := (above_tab k hk h1).1
theorem above_0 (m : Mem) : fX1_above (o32 0) m = some (-1) := by
  have : fX1_above (o32 0) (fun _ _ => 0) = some (-1) := by decide +kernel
  exact this
noncomputable def rs (v k : Nat) : Nat := if ¬ bd k v = 0 ∨ k = 0 then k else if ¬ bd (up k) v = 0 ∨ up k = 0 then up k else 0
theorem rs_7 : ∀ k, k < 7 → ∀ v, v < 4 → rs v k < 7 := by decide +kernel
theorem up_3 : ∀ k, k < 7 → up (up k) = 0 := by decide +kernel
theorem say_stop {e : Int32 → Int32 → Int32 → Int32 → Mem → Option (Int32 × Mem)} {v k i : Nat} {x3 x4 : Int32} {m : Mem} (hv : v < 4) (hk : k < 7) (hi : i ≤ 6) (h : ¬ bd k v = 0 ∨ k = 0) : lX6_say_6 e (o32 v) x3 x4 m (o32 k, o32 i) = (bX6_say_40 e (o32 v) x3 x4 (o32 k) m).map Sum.inr := by
  have n6 : ¬ (6 : Int32) < o32 i := by rw [show (6 : Int32) = o32 6 from rfl, o_lt (by omega) (by omega)]; omega
  unfold lX6_say_6
  dsimp only
  rw [if_neg n6]
  by_cases k0 : k = 0
  · rw [if_pos (show o32 k ≤ 0 by rw [k0]; decide)]
  · have nk : ¬ o32 k ≤ 0 := by rw [show (0 : Int32) = o32 0 from rfl, o_le (by omega) (by omega)]; omega
    have nb : ∀ k, k < 7 → ∀ v, v < 4 → ¬ bd k v = 0 → ¬ o32 (bd k v) = 0 := by decide +kernel
    rw [if_neg nk, body_c hk hv, Option.bind_some, if_neg (nb k hk v hv (h.resolve_right k0))]
theorem say_next {e : Int32 → Int32 → Int32 → Int32 → Mem → Option (Int32 × Mem)} {v k i : Nat} {x3 x4 : Int32} {m : Mem} (hv : v < 4) (hk : k < 7) (hi : i ≤ 6) (h : ¬ (¬ bd k v = 0 ∨ k = 0)) : lX6_say_6 e (o32 v) x3 x4 m (o32 k, o32 i) = some (.inl (o32 (up k), o32 (i + 1))) := by
  have n6 : ¬ (6 : Int32) < o32 i := by rw [show (6 : Int32) = o32 6 from rfl, o_lt (by omega) (by omega)]; omega
  have k0 : ¬ k = 0 := fun z => h (.inr z)
  have b0 : bd k v = 0 := Classical.byContradiction fun z => h (.inl z)
  have nk : ¬ o32 k ≤ 0 := by rw [show (0 : Int32) = o32 0 from rfl, o_le (by omega) (by omega)]; omega
  unfold lX6_say_6
  dsimp only
  rw [if_neg n6, if_neg nk, body_c hk hv, Option.bind_some, b0, if_pos (show o32 0 = 0 from rfl), above_c hk (by omega), Option.bind_some, o_s]
theorem say_lp {e : Int32 → Int32 → Int32 → Int32 → Mem → Option (Int32 × Mem)} {v k : Nat} {x3 x4 : Int32} {m : Mem} (hv : v < 4) (hk : k < 7) : fX6_say e (o32 v) (o32 k) x3 x4 m = bX6_say_40 e (o32 v) x3 x4 (o32 (rs v k)) m := by
  obtain ⟨z, hz⟩ : ∃ y, fu = y + 3 := ⟨fu - 3, by have := lt_fu (n := 10) (by omega); omega⟩
  unfold fX6_say
  rw [hz]
  show lp (lX6_say_6 e (o32 v) x3 x4 m) (z + 2 + 1) (o32 k, o32 0) = _
  by_cases h : ¬ bd k v = 0 ∨ k = 0
  · rw [lp_map (say_stop hv hk (by omega) h), show rs v k = k from if_pos h]
  · have u7 := (above_tab k hk (by omega)).2
    rw [lp_i (say_next hv hk (by omega) h)]
    by_cases h2 : ¬ bd (up k) v = 0 ∨ up k = 0
    · rw [show z + 2 = z + 1 + 1 from rfl, lp_map (say_stop hv u7 (by omega) h2)]
      unfold rs
      rw [if_neg h, if_pos h2]
    · rw [show z + 2 = z + 1 + 1 from rfl, lp_i (say_next hv u7 (by omega) h2), up_3 k hk, lp_map (say_stop hv (by omega) (by omega) (.inr rfl))]
      unfold rs
      rw [if_neg h, if_neg h2]
noncomputable def okc : Nat → Nat → Nat → Nat → Bool
  | 0, _, _, _ => false
  | n + 1, w, v, k =>
    let k' := rs v k
    match bd k' v with
    | 11 => okc n w 0 w
    | 12 => okc n w 1 w
    | 20 => okc n w 0 (up k')
    | 21 => okc n w 3 (up k') && okc n w 1 w
    | 30 => okc n w 0 (up k')
    | 31 => okc n w 2 (up k')
    | 40 => okc n w 2 (up k')
    | 41 => okc n w 1 (up k')
    | 50 => okc n w 3 (up k') && okc n w 0 w
    | 60 => okc n w 1 (up k')
    | 61 => okc n w 2 (up k') && okc n w 1 (up k')
    | _ => true
theorem okc_20 : ∀ w, w < 7 → ∀ v, v < 4 → okc 20 w v w = true := by decide +kernel
noncomputable def FV (m m' : Mem) : Prop := (∀ c j, c ≠ 127 → ¬ (c = 125 ∧ (j = 0 ∨ j = 4)) → m' c j = m c j) ∧ ∃ t, t ≤ 30 ∧ m' 125 4 = o32 t
theorem FV_tr {m m1 m2 : Mem} (h1 : FV m m1) (h2 : FV m1 m2) : FV m m2 := ⟨fun c j a b => (h2.1 c j a b).trans (h1.1 c j a b), h2.2⟩
theorem bd_in : ∀ k, k < 7 → ∀ v, v < 4 → bd k v ∈ [0, 10, 13, 70, 11, 12] ∨ (1 ≤ k ∧ bd k v ∈ [20, 21, 30, 31, 40, 41, 50, 60, 61]) := by decide +kernel
