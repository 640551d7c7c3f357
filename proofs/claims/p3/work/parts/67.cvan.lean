/-! THE CLASS: A BUBBLE VANISHES -/
theorem clr_bit {n b x : Nat} (hx : x < 32) : (n &&& (2 ^ b ^^^ 4294967295)).testBit x = (n.testBit x && !decide (x = b)) := by
  rw [Nat.testBit_and, Nat.testBit_xor, Nat.testBit_two_pow, show (4294967295 : Nat) = 2 ^ 32 - 1 by decide, Nat.testBit_two_pow_sub_one, decide_eq_true hx]
  by_cases e : x = b
  · subst e
    simp
  · rw [decide_eq_false e, decide_eq_false (fun z => e z.symm)]
    rfl
theorem bury_c {k : Nat} {m : Mem} {r : Nat → List Nat} {al : Nat → Bool} {b : Nat} (h : CS k m r al) (hb : b < 16) (ala : al b = true) : ∃ m', fX0_bury k (o32 b) m = some m' ∧ CS k m' r (offB al b) ∧ ∀ c j, ¬ (c = cw k 2 ∧ j = 0) → ¬ (c = cw k 7 ∧ j = b) → m' c j = m c j := by
  unfold fX0_bury
  rw [has_c h hb, ala, if_neg (by decide), if_pos (o_inb hb (by omega)), o_tn (by omega), shl_tab b (by omega)]
  obtain ⟨⟨n, h1, h2, h3⟩, h4⟩ := h
  refine ⟨_, rfl, ⟨⟨n &&& (2 ^ b ^^^ 4294967295), Nat.lt_of_le_of_lt Nat.and_le_left h1, ?_, fun x hx => ?_⟩, fun x hx => ?_⟩, ?_⟩
  · rw [mput_c _ _ _ (cw_ne (by omega)), mput_at, h2, show (-1 : Int32) = o32 4294967295 by decide, o_xor, o_and]
  · rw [clr_bit (by omega), h3 x hx]
    unfold offB
    by_cases e : x = b
    · rw [if_pos e, decide_eq_true e, Bool.not_true, Bool.and_false]
    · rw [if_neg e, decide_eq_false e, Bool.not_false, Bool.and_true]
  · by_cases e : x = b
    · subst e
      unfold offB
      rw [if_pos rfl, if_neg (by decide)]
      exact ⟨by decide, by rw [mput_at]; rfl, fun y hy => (List.not_mem_nil hy).elim, fun i hi => absurd hi (by simp)⟩
    · have q := h4 x hx
      unfold offB
      rw [if_neg e]
      refine ⟨q.1, ?_, q.2.2.1, fun i hi => ?_⟩
      · rw [mput_j _ _ _ _ e, mput_c _ _ _ (cw_ne (by omega))]
        exact q.2.1
      · rw [mput_c _ _ _ (cw_ne (by omega)), mput_c _ _ _ (cw_ne (by omega))]
        exact q.2.2.2 i hi
  · intro c j e1 e2
    rw [mput_get, if_neg e2, mput_get, if_neg e1]
theorem lose_c {k : Nat} {m : Mem} {r : Nat → List Nat} {al : Nat → Bool} {a : Nat} (ha : a < 16) (hs : CS k m r al) (hg : Gr r al) (ala : al a = true) : ∃ m', fX0_lose k (o32 a) m = some (mput m' (cw k 2) 7 (m (cw k 2) 7 + 1)) ∧ CS k m' (outR r a (r a)) (offB al a) ∧ ∀ c j, ¬ (c = cw k 2 ∧ j = 0) → c ≠ cw k 7 → (∀ b, b < 16 → c ≠ cw k (9 + b)) → m' c j = m c j := by
  have sa := CS_g hs ha ala
  have la := sa.1
  have irr : a ∉ r a := fun z => ((hg.1 a ha ala a z).2 (by omega)).2.1 rfl
  unfold fX0_lose
  rw [sidesOf_c ha sa, Option.bind_some]
  have key := lp_ix (body := lX0_lose_8 k (o32 a) (o32 (r a).length)) (fun i s => s.1 = o32 i ∧ CS k s.2 (outR r a ((r a).take i)) al ∧ frC k m s.2) (fun e => ∃ m', e = mput m' (cw k 2) 7 (m (cw k 2) 7 + 1) ∧ CS k m' (outR r a (r a)) (offB al a) ∧ ∀ c j, ¬ (c = cw k 2 ∧ j = 0) → c ≠ cw k 7 → (∀ b, b < 16 → c ≠ cw k (9 + b)) → m' c j = m c j) (r a).length 0 (0, m) fu ⟨rfl, by
      have e : outR r a ((r a).take 0) = r := by funext b; unfold outR; simp
      rw [e]
      exact hs, frC_rf⟩ (fun j s _ hj hI => ?_) (fun s hI => ?_) (lt_fu (by omega))
  · obtain ⟨e, e1, m', e2, e3⟩ := key
    exact ⟨m', by rw [← e2]; exact e1, e3⟩
  · obtain ⟨i1, i2, i3⟩ := hI
    have hj : j < (r a).length := by omega
    have oa : outR r a ((r a).take j) a = r a := by
      unfold outR
      rw [if_neg (fun z => irr (List.mem_of_mem_take z.1))]
    have sj := CS_g i2 ha ala
    rw [oa] at sj
    unfold lX0_lose_8
    rw [i1, if_neg (by rw [o_le (by omega) (by omega)]; omega), at_ci ha sj hj, Option.bind_some, o_s]
    have px := hg.1 a ha ala _ (List.getElem_mem hj)
    have cx : (r a)[j] ≠ 16 → (r a)[j] ∉ (r a).take j := fun h z => by
      obtain ⟨k, hk, e⟩ := List.getElem_of_mem z
      have hk2 : k < j := by rw [List.length_take] at hk; omega
      rw [List.getElem_take] at e
      have := count_two (hg.2.1 a ha ala _ h) (by omega) hj e rfl
      omega
    have tk := tk1 hj
    generalize (r a)[j] = x at px cx tk
    by_cases e : x = 16
    · rw [e, show fX0_takeOut k (o32 16) (o32 a) s.2 = _ from takeOut_16, Option.bind_some]
      refine ⟨_, rfl, rfl, ?_, i3⟩
      have e2 : outR r a ((r a).take (j + 1)) = outR r a ((r a).take j) := by
        funext y
        unfold outR
        rw [tk]
        simp only [List.mem_append, List.mem_singleton, e]
        by_cases hy : y = 16
        · simp [hy]
        · simp [hy]
      rw [e2]
      exact i2
    · have hx : x < 16 := by omega
      have px2 := px.2 e
      have ox : outR r a ((r a).take j) x = r x := by
        unfold outR
        rw [if_neg (fun z => cx e z.1)]
      have sx := CS_g i2 hx px2.1
      rw [ox] at sx
      obtain ⟨m', e1, s1, o1⟩ := takeOut_c (x := a) hx (by omega) sx
      rw [e1, Option.bind_some]
      refine ⟨_, rfl, rfl, ?_, frC_tr i3 (frC_of hx o1)⟩
      have e2 : outR r a ((r a).take (j + 1)) = setR (outR r a ((r a).take j)) x (rmv (r x) a) := by
        funext y
        unfold outR setR
        rw [tk]
        simp only [List.mem_append, List.mem_singleton]
        by_cases hy : y = x
        · rw [hy, if_pos ⟨Or.inr rfl, e⟩, if_pos rfl]
        · simp [hy]
      rw [e2]
      exact CS_set i2 px2.1 o1 s1
  · obtain ⟨i1, i2, i3⟩ := hI
    rw [Nat.zero_add] at i1 i2
    rw [List.take_length] at i2
    obtain ⟨m', e1, s1, o1⟩ := bury_c i2 ha ala
    unfold lX0_lose_8
    rw [i1, if_pos (by rw [o_le (by omega) (by omega)]; omega), e1, Option.bind_some]
    refine ⟨_, rfl, m', ?_, s1, fun c j h1 h2 h3 => ?_⟩
    · rw [o1 _ _ (by omega) (fun z => absurd z.1 (cw_ne (by omega))), i3 _ _ (cw_ne (by omega)) (fun b _ => cw_ne (by omega))]
    · rw [o1 _ _ h1 (fun z => h2 z.1)]
      exact i3 _ _ h2 h3
