/-! THE START, AND THE WHOLE LOOP -/
theorem m0_z {c j : Nat} (h : c ≠ 138) (h2 : ¬ (c = 118 ∧ j = 5)) (h3 : ¬ ((c = 1 ∨ c = 40 ∨ c = 79) ∧ 6 ≤ j ∧ j ≤ 9)) : m0 c j = 0 := by
  have nb : ∀ {a b : Nat}, a ≠ b → Nat.beq a b = false := fun {a b} h => by
    cases e : Nat.beq a b with
    | false => rfl
    | true => exact absurd (Nat.eq_of_beq_eq_true e) h
  unfold m0
  rw [nb h, cond_false]
  by_cases e : c = 118
  · subst e
    rw [show Nat.beq 118 118 = true from rfl, cond_true]
    have : j ≠ 5 := fun z => h2 ⟨rfl, z⟩
    match j with
    | 0 | 1 | 2 | 3 | 4 => rfl
    | 5 => exact absurd rfl this
    | _ + 6 => rfl
  · rw [nb e, cond_false]
    by_cases e2 : c = 1 ∨ c = 40 ∨ c = 79
    · have : ¬ (6 ≤ j ∧ j ≤ 9) := fun z => h3 ⟨e2, z⟩
      have hb : (Nat.beq c 1 || (Nat.beq c 40 || Nat.beq c 79)) = true := by
        rcases e2 with e2 | e2 | e2 <;> subst e2 <;> rfl
      rw [hb, cond_true]
      match j with
      | 0 | 1 | 2 | 3 | 4 | 5 => rfl
      | 6 => exact absurd ⟨by omega, by omega⟩ this
      | 7 => exact absurd ⟨by omega, by omega⟩ this
      | 8 => exact absurd ⟨by omega, by omega⟩ this
      | 9 => exact absurd ⟨by omega, by omega⟩ this
      | _ + 10 => rfl
    · rw [nb (fun z => e2 (.inl z)), nb (fun z => e2 (.inr (.inl z))), nb (fun z => e2 (.inr (.inr z)))]
      rfl
theorem m0_w {j : Nat} (h : ¬ (3 ≤ j ∧ j ≤ 6)) : m0 138 j = 0 := by
  unfold m0
  rw [show Nat.beq 138 138 = true from rfl, cond_true]
  match j with
  | 0 | 1 | 2 => rfl
  | 3 => exact absurd ⟨by omega, by omega⟩ h
  | 4 => exact absurd ⟨by omega, by omega⟩ h
  | 5 => exact absurd ⟨by omega, by omega⟩ h
  | 6 => exact absurd ⟨by omega, by omega⟩ h
  | _ + 7 => rfl
theorem ur_0 : Ur (fun _ => []) (fun _ => false) = 0 := by decide +kernel
theorem RL_0 : RLx m0 m0 := by
  have o0 : (0 : Int32) = o32 0 := rfl
  have ff : ¬ false = true := by decide
  refine ⟨⟨fun _ => [], fun _ => false, fun _ _ => 0, fun _ => [], ⟨fun b _ h => absurd h ff, fun b _ h => absurd h ff, by rw [ur_0]; omega⟩, fun b _ h => absurd h ff, fun b hb => ⟨?_, fun h => absurd h ff⟩, ⟨⟨0, by omega, ?_, fun b _ => by rw [Nat.zero_testBit]⟩, fun b hb => ?_⟩, fun b _ h => absurd h ff, fun u hu => ?_, ?_, ?_⟩, ?_, fun h => absurd ?_ h, fun s hs => ?_, ⟨0, by omega, ?_⟩, ⟨0, by omega, ?_⟩⟩
  · show m0 138 (12 + 50 * b) = 0
    exact m0_w (by omega)
  · rw [m0_z (by unfold cw; omega) (by unfold cw; omega) (by unfold cw; omega)]; rfl
  · show cg 0 m0 b (if false = true then _ else [])
    rw [if_neg (by decide)]
    refine ⟨by decide, ?_, fun x hx => absurd hx (by simp), fun i hi => absurd hi (by simp)⟩
    rw [m0_z (by unfold cw; omega) (by unfold cw; omega) (by unfold cw; omega)]
    rfl
  · refine ⟨Nat.zero_le _, fun t ht => absurd ht (by simp), fun h => absurd rfl h, ?_, ?_, fun i hi => absurd hi (by simp)⟩
    · rw [m0_w (by omega)]; rfl
    · rw [m0_z (by unfold cw; omega) (by unfold cw; omega) (by unfold cw; omega)]; rfl
  · refine ⟨?_, ?_, ?_, rfl, ⟨10, by omega, rfl, rfl⟩, ⟨5, by omega, rfl, rfl⟩, ⟨12, by omega, by decide, rfl, rfl⟩, ⟨0, by omega, rfl, rfl⟩, ⟨0, by omega, rfl, rfl⟩⟩
    · rfl
    · rfl
    · rfl
  · refine ⟨⟨0, by omega, rfl, rfl⟩, fun i hi => ⟨0, by omega, ?_, ?_⟩, ⟨0, by omega, rfl, rfl⟩, fun i hi => ?_⟩
    · rw [m0_w (by omega)]; rfl
    · rw [m0_z (by unfold cw; omega) (by unfold cw; omega) (by unfold cw; omega)]; rfl
    · rw [m0_w (by omega), m0_z (by unfold cw; omega) (by unfold cw; omega) (by unfold cw; omega)]
  · rw [m0_z (by omega) (by omega) (by omega), m0_z (by omega) (by omega) (by omega)]
  · rw [m0_z (by omega) (by omega) (by omega)]
  · refine ⟨⟨0, .inl rfl, ?_, ?_⟩, ⟨0, by omega, ?_, ?_⟩, fun i hi => ?_⟩
    · rw [m0_z (by omega) (by omega) (by omega)]; rfl
    · rw [m0_z (by omega) (by omega) (by omega)]; rfl
    · rw [m0_z (by omega) (by omega) (by omega)]; rfl
    · rw [m0_z (by omega) (by omega) (by omega)]; rfl
    · rw [m0_z (by omega) (by omega) (by omega), m0_z (by omega) (by omega) (by omega)]
  · rw [m0_z (by omega) (by omega) (by omega)]; rfl
  · rw [m0_z (by omega) (by omega) (by omega)]; rfl
theorem jat_at {xs : List Int32} {j : Nat} (h : j < xs.length) (hl : xs.length < 100000) : ∃ a, jat xs (o32 j) = some a := by
  unfold jat
  rw [if_neg (not_lt0 (by omega)), o_tn (by omega), List.getElem?_eq_getElem h]
  exact ⟨_, rfl⟩
theorem law_lp {xs : List Int32} (hl : xs.length ≤ 3072) : ∃ mm, lp (lL_law_18 xs) fu (0, (m0, m0)) = some (1, mm) := by
  have key := lp_inv (body := lL_law_18 xs) (fun s => ∃ i, i ≤ xs.length ∧ s.1 = o32 i ∧ RLx s.2.1 s.2.2) (fun s => 4000 - s.1.toNatClampNeg) (fun e => e.1 = 1) (fun s hI => ?_) fu (0, (m0, m0)) ⟨0, by omega, rfl, RL_0⟩ (lt_fu (by show 4000 - _ < _; omega))
  · obtain ⟨e, e1, e2⟩ := key
    refine ⟨e.2, ?_⟩
    rw [e1, ← e2]
  · obtain ⟨i, i1, i2, R⟩ := hI
    obtain ⟨x, mc, mr⟩ := s
    have i2 : x = o32 i := i2
    have R : RLx mc mr := R
    subst i2
    by_cases hx : (Int32.ofNat xs.length) - 6 < o32 i
    · right
      refine ⟨(1, (mc, mr)), ?_, rfl⟩
      unfold lL_law_18
      dsimp only
      rw [if_pos hx]
    · left
      have h6 : i + 6 ≤ xs.length := by
        refine Classical.byContradiction fun hh => hx ?_
        by_cases c : 6 ≤ xs.length
        · rw [show Int32.ofNat xs.length - 6 = o32 (xs.length - 6) from o_sub (b := 6) (by omega) (by omega), o_lt (by omega) (by omega)]
          omega
        · have : ∀ n, n < 6 → Int32.ofNat n - 6 < 0 := by decide +kernel
          have h0 : (0 : Int32) ≤ o32 i := by rw [show (0 : Int32) = o32 0 from rfl, o_le (by omega) (by omega)]; omega
          exact Int32.lt_of_lt_of_le (this _ (by omega)) h0
      have J : ∀ k, k < 6 → ∃ a, jat xs (o32 i + o32 k) = some a := fun k hk => by
        rw [o_add]
        exact jat_at (by omega) (by omega)
      obtain ⟨a0, j0⟩ := jat_at (xs := xs) (j := i) (by omega) (by omega)
      obtain ⟨a1, j1⟩ := J 1 (by omega)
      obtain ⟨a2, j2⟩ := J 2 (by omega)
      obtain ⟨a3, j3⟩ := J 3 (by omega)
      obtain ⟨a4, j4⟩ := J 4 (by omega)
      obtain ⟨a5, j5⟩ := J 5 (by omega)
      obtain ⟨m1, m2, e1, e2⟩ := step_o R hx j0 j1 j2 j3 j4 j5
      have o6 : o32 i + 6 = o32 (i + 6) := o_add i 6
      refine ⟨_, e1, ⟨i + 6, h6, o6, e2⟩, ?_⟩
      show 4000 - (o32 i + 6).toNatClampNeg < 4000 - (o32 i).toNatClampNeg
      rw [o6, o_tn (show i + 6 < 2147483648 by omega), o_tn (show i < 2147483648 by omega)]
      omega
theorem jl_all {xs : List Int32} (hl : xs.length ≤ 3072) : ∃ (F : Nat) (r : jR), jlaw F xs = some r ∧ r.1 = some (.int 1) ∧ r.2.length ≤ 600000 ∧ jsl r.2 ≤ 7302250 := by
  obtain ⟨mm, h⟩ := law_lp hl
  exact law_of h
