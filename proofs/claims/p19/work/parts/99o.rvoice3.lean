/-! VOICE: THE MODEL ANSWERS -/
abbrev Eb := Int32 → Int32 → Int32 → Mem → Option (Int32 × Mem)
/-- all but the trace and what went wrong stays -/
noncomputable def FB (m m' : Mem) : Prop := (∀ c j, c ≠ 150 → ¬ (c = 137 ∧ (j = 19 ∨ j = 21)) → m' c j = m c j) ∧ ∃ t, t ≤ 30 ∧ m' 137 19 = o32 t
theorem FB_tr {m m1 m2 : Mem} (h1 : FB m m1) (h2 : FB m1 m2) : FB m m2 := ⟨fun c j a b => (h2.1 c j a b).trans (h1.1 c j a b), h2.2⟩
noncomputable def AB (m : Mem) (a : Option (Int32 × Mem)) : Prop := ∃ w m', a = some (w, m') ∧ FB m m'
theorem AB_1 {m m1 : Mem} {a : Option (Int32 × Mem)} {g : Int32 → Mem → Int32} (h : AB m1 a) (f : FB m m1) : AB m (a.bind fun q => some (g q.1 q.2, q.2)) := by
  obtain ⟨w, m', e, f'⟩ := h
  rw [e]
  exact ⟨_, _, rfl, FB_tr f f'⟩
theorem AB_2 {m m1 : Mem} {a : Option (Int32 × Mem)} {b : Mem → Option (Int32 × Mem)} {g : Int32 → Int32 → Int32} (h : AB m1 a) (f : FB m m1) (hb : ∀ m2, FB m1 m2 → AB m2 (b m2)) : AB m (a.bind fun q => (b q.2).bind fun p => some (g q.1 p.1, p.2)) := by
  obtain ⟨w, m', e, f'⟩ := h
  obtain ⟨w2, m2, e2, f2⟩ := hb m' f'
  rw [e, Option.bind_some, e2]
  exact ⟨_, _, rfl, FB_tr (FB_tr f f') f2⟩
noncomputable def okm : Nat → Nat → Nat → Nat → Bool
  | 0, _, _, _ => false
  | n + 1, w, k, v => match 4 * k + v with
    | 1 => okm n w (rs 0 w) 0
    | 2 => okm n w (rs 1 w) 1
    | 4 => okm n w (rs 0 0) 0
    | 7 => okm n w (rs 3 0) 3 && okm n w (rs 1 w) 1
    | 8 => okm n w (rs 0 1) 0
    | 10 => okm n w (rs 2 1) 2
    | 13 => okm n w (rs 1 0) 1
    | 14 => okm n w (rs 2 0) 2
    | 19 => okm n w (rs 3 0) 3 && okm n w (rs 0 w) 0
    | 21 => okm n w (rs 1 3) 1
    | 22 => okm n w (rs 2 3) 2 && okm n w (rs 1 3) 1
    | _ => true
theorem okm_20 : ∀ w, w < 7 → ∀ v, v < 4 → okm 20 w (rs v w) v = true := by decide +kernel
noncomputable def BODY (e : Eb) (n : Nat) (a w : Nat) : Prop := ∀ k v x m, k < 7 → v < 4 → okm n w k v = true → m 137 20 = o32 a → m 138 (12 + 50 * a + 1) = o32 w → (∃ t, t ≤ 30 ∧ m 137 19 = o32 t) → AB m (e (o32 k) (o32 v) x m)
theorem own_tab : ∀ k, k < 7 → ∀ v, v < 4 → (fX9_hasOwn (o32 k) (o32 v) = 0 ↔ ¬ (¬ bd k v = 0 ∨ k = 0)) ∧ (1 ≤ k → fX9_above (o32 k) = o32 (up k)) := by decide +kernel
theorem from_lp {e : Eb} {v k : Nat} {x : Int32} {m : Mem} (hv : v < 4) (hk : k < 7) : fX9_bodyFrom e (o32 k) (o32 v) x m = if m 137 21 = 0 then (e (o32 (rs v k)) (o32 v) x m).bind fun q => some (q.1, q.2) else some (0, m) := by
  obtain ⟨z, hz⟩ : ∃ y, fu = y + 3 := ⟨fu - 3, by have := lt_fu (n := 10) (by omega); omega⟩
  have stop : ∀ k, k < 7 → (¬ bd k v = 0 ∨ k = 0) → lX9_bodyFrom_3 e (o32 v) x m (o32 k) = (if m 137 21 = 0 then (e (o32 k) (o32 v) x m).bind fun q => some (q.1, q.2) else some (0, m)).map Sum.inr := fun k hk h => by
    unfold lX9_bodyFrom_3
    rw [if_neg (fun z => (own_tab k hk v hv).1.mp z h)]
    split
    · cases e (o32 k) (o32 v) x m <;> rfl
    · rfl
  have next : ∀ k, k < 7 → ¬ (¬ bd k v = 0 ∨ k = 0) → lX9_bodyFrom_3 e (o32 v) x m (o32 k) = some (.inl (o32 (up k))) := fun k hk h => by
    have k0 : ¬ k = 0 := fun z => h (.inr z)
    unfold lX9_bodyFrom_3
    rw [if_pos ((own_tab k hk v hv).1.mpr h), (own_tab k hk v hv).2 (by omega)]
  unfold fX9_bodyFrom
  rw [hz]
  by_cases h : ¬ bd k v = 0 ∨ k = 0
  · rw [show z + 3 = z + 2 + 1 from rfl, lp_map (stop k hk h), show rs v k = k from if_pos h]
  · have k0 : ¬ k = 0 := fun z => h (.inr z)
    have u7 := (above_tab k hk (by omega)).2
    rw [show z + 3 = z + 2 + 1 from rfl, lp_i (next k hk h)]
    by_cases h2 : ¬ bd (up k) v = 0 ∨ up k = 0
    · rw [show z + 2 = z + 1 + 1 from rfl, lp_map (stop _ u7 h2), show rs v k = up k from by unfold rs; rw [if_neg h, if_pos h2]]
    · rw [show z + 2 = z + 1 + 1 from rfl, lp_i (next _ u7 h2), up_3 k hk, lp_map (stop 0 (by omega) (.inr rfl)), show rs v k = 0 from by unfold rs; rw [if_neg h, if_neg h2]]
theorem from_s {e : Eb} {n a w v k : Nat} {x : Int32} {m : Mem} (ih : BODY e n a w) (hv : v < 4) (hk : k < 7) (ok : okm n w (rs v k) v = true) (h1 : m 137 20 = o32 a) (h2 : m 138 (12 + 50 * a + 1) = o32 w) (ht : ∃ t, t ≤ 30 ∧ m 137 19 = o32 t) : AB m (fX9_bodyFrom e (o32 k) (o32 v) x m) := by
  rw [from_lp hv hk]
  split
  · exact AB_1 (g := fun a _ => a) (ih _ v x m (rs_7 k hk v hv) hv ok h1 h2 ht) ⟨fun _ _ _ _ => rfl, ht⟩
  · exact ⟨_, _, rfl, fun _ _ _ _ => rfl, ht⟩
theorem voiced_s {e : Eb} {n a w v : Nat} {x : Int32} {m : Mem} (ha : a < 16) (ih : BODY e n a w) (hv : v < 4) (hw : w < 7) (ok : okm n w (rs v w) v = true) (h1 : m 137 20 = o32 a) (h2 : m 138 (12 + 50 * a + 1) = o32 w) (ht : ∃ t, t ≤ 30 ∧ m 137 19 = o32 t) : AB m (fX9_voiced e (o32 v) x m) := by
  have o1 : fX9_of (o32 a) 1 m = some (o32 w) := by
    unfold fX9_of
    have e1 : (12 : Int32) + 50 * o32 a + 1 = o32 (12 + 50 * a + 1) := by
      rw [show (50 : Int32) * o32 a = o32 (50 * a) from o_mul 50 a, show (12 : Int32) + o32 (50 * a) = o32 (12 + 50 * a) from o_add 12 _, o_s]
    rw [e1, if_pos (o_inb (show 12 + 50 * a + 1 < 1082 by omega) (by omega)), o_tn (by omega), h2]
  unfold fX9_voiced
  rw [h1, o1, Option.bind_some]
  exact AB_1 (g := fun a _ => a) (from_s ih hv hw ok h1 h2 ht) ⟨fun _ _ _ _ => rfl, ht⟩
theorem began_s {m : Mem} (x : Int32) (ht : ∃ t, t ≤ 30 ∧ m 137 19 = o32 t) : ∃ m', fX9_began x m = some m' ∧ FB m m' := by
  have F0 : FB m m := ⟨fun _ _ _ _ => rfl, ht⟩
  obtain ⟨t, t1, t2⟩ := ht
  unfold fX9_began
  rw [t2]
  by_cases c : t = 30
  · rw [if_pos (show (30 : Int32) ≤ o32 t by rw [c]; decide)]
    exact ⟨_, rfl, F0⟩
  · have n30 : ¬ (30 : Int32) ≤ o32 t := by rw [show (30 : Int32) = o32 30 from rfl, o_le (by omega) (by omega)]; omega
    rw [if_neg n30, if_pos (o_inb (show t < 30 by omega) (by omega)), mput_c _ _ _ (show 137 ≠ 150 by omega), t2, o_s]
    exact ⟨_, rfl, fun c j a b => by rw [mput_get, if_neg (by omega), mput_c _ _ _ a], t + 1, by omega, by rw [mput_at]⟩
theorem AB_b {m : Mem} {x : Int32} {b : Mem → Option (Int32 × Mem)} (ht : ∃ t, t ≤ 30 ∧ m 137 19 = o32 t) (hb : ∀ m1, FB m m1 → AB m1 (b m1)) : AB m ((fX9_began x m).bind b) := by
  obtain ⟨m1, e1, f1⟩ := began_s x ht
  obtain ⟨w, m2, e2, f2⟩ := hb m1 f1
  rw [e1, Option.bind_some, e2]
  exact ⟨w, m2, rfl, FB_tr f1 f2⟩
