/-! COLOUR: BOTH ANSWER ALIKE, THE SEARCH -/
noncomputable def updC (col : Nat → Nat) (i s : Nat) : Nat → Nat := fun b => if b = i then s else col b
noncomputable def fsT (f : Nat → Option (Nat → Nat)) : Nat → Nat → Option (Nat → Nat)
  | 0, _ => none
  | k + 1, s => (f s).or (fsT f k (s + 1))
theorem fsT_S (f : Nat → Option (Nat → Nat)) (k s : Nat) : fsT f (k + 1) s = (f s).or (fsT f k (s + 1)) := rfl
theorem fsT_split (f : Nat → Option (Nat → Nat)) : ∀ a b s, fsT f (a + b) s = (fsT f a s).or (fsT f b (s + a))
  | 0, b, s => by rw [Nat.zero_add]; rfl
  | a + 1, b, s => by
    rw [show a + 1 + b = (a + b) + 1 by omega, fsT_S, fsT_S, fsT_split f a b (s + 1), show s + 1 + a = s + (a + 1) by omega]
    cases f s <;> rfl
theorem fsT_none {f : Nat → Option (Nat → Nat)} : ∀ a s, fsT f a s = none ↔ ∀ j, s ≤ j → j < s + a → f j = none
  | 0, s => ⟨fun _ j h1 h2 => absurd h1 (by omega), fun _ => rfl⟩
  | a + 1, s => by
    rw [fsT_S]
    constructor
    · intro h j h1 h2
      cases e : f s with
      | some c =>
        rw [e] at h
        have h : some c = none := h
        exact absurd h (Option.some_ne_none c)
      | none =>
        rw [e] at h
        by_cases z : j = s
        · rw [z]; exact e
        · exact (fsT_none a (s + 1)).mp h j (by omega) (by omega)
    · intro h
      rw [h s (Nat.le_refl _) (by omega)]
      exact (fsT_none a (s + 1)).mpr fun j h1 h2 => h j (by omega) (by omega)
noncomputable def oqc (al : Nat → Bool) (A : Nat → Nat → Bool) (i s : Nat) (col : Nat → Nat) : Bool := (List.range i).all fun b => !(al b && (A i b && decide (col b = s)))
theorem oqc_s {al : Nat → Bool} {A : Nat → Nat → Bool} {i s : Nat} {col : Nat → Nat} : oqc al A i s col = true ↔ ∀ b, b < i → al b = true → A i b = true → col b ≠ s := by
  unfold oqc
  rw [List.all_eq_true]
  constructor
  · intro h b hb hl ha e
    have k := h b (List.mem_range.mpr hb)
    rw [hl, ha, decide_eq_true e] at k
    exact absurd k (by decide)
  · intro h b hb
    have hb := List.mem_range.mp hb
    cases hl : al b with
    | false => rfl
    | true =>
      cases ha : A i b with
      | false => rfl
      | true =>
        rw [decide_eq_false (h b hb hl ha)]
        rfl
/-- all colours are tried -/
noncomputable def srF (al : Nat → Bool) (A : Nat → Nat → Bool) (n : Nat) : Nat → (Nat → Nat) → Option (Nat → Nat)
  | 0, col => some col
  | k + 1, col => if al (15 - k) = true then fsT (fun s => if oqc al A (15 - k) s col = true then srF al A n k (updC col (15 - k) s) else none) n 0 else srF al A n k col
/-- of the colours that aren't used yet, only the least is tried -/
noncomputable def srG (al : Nat → Bool) (A : Nat → Nat → Bool) (n : Nat) : Nat → Nat → (Nat → Nat) → Option (Nat → Nat)
  | 0, _, col => some col
  | k + 1, u, col => if al (15 - k) = true then fsT (fun s => if oqc al A (15 - k) s col = true then srG al A n k (max u (s + 1)) (updC col (15 - k) s) else none) (min n (u + 1)) 0 else srG al A n k u col
theorem srF_S (al : Nat → Bool) (A : Nat → Nat → Bool) (n k : Nat) (col : Nat → Nat) : srF al A n (k + 1) col = if al (15 - k) = true then fsT (fun s => if oqc al A (15 - k) s col = true then srF al A n k (updC col (15 - k) s) else none) n 0 else srF al A n k col := rfl
theorem srG_S (al : Nat → Bool) (A : Nat → Nat → Bool) (n k u : Nat) (col : Nat → Nat) : srG al A n (k + 1) u col = if al (15 - k) = true then fsT (fun s => if oqc al A (15 - k) s col = true then srG al A n k (max u (s + 1)) (updC col (15 - k) s) else none) (min n (u + 1)) 0 else srG al A n k u col := rfl
noncomputable def Ext (al : Nat → Bool) (A : Nat → Nat → Bool) (n k : Nat) (col : Nat → Nat) : Prop := ∃ c' : Nat → Nat, (∀ b, b + k < 16 → al b = true → c' b = col b) ∧ ∀ b, 16 ≤ b + k → b < 16 → al b = true → c' b < n ∧ ∀ a, a < b → al a = true → A b a = true → c' a ≠ c' b
theorem srF_E {al : Nat → Bool} {A : Nat → Nat → Bool} {n : Nat} : ∀ k, k ≤ 16 → ∀ col, srF al A n k col ≠ none ↔ Ext al A n k col
  | 0, _, col => ⟨fun _ => ⟨col, fun _ _ _ => rfl, fun b h1 h2 => absurd h1 (by omega)⟩, fun _ => Option.some_ne_none _⟩
  | k + 1, hk, col => by
    have ih := srF_E (al := al) (A := A) (n := n) k (by omega)
    rw [srF_S]
    cases ha : al (15 - k) with
    | false =>
      have ne : ∀ b, al b = true → b ≠ 15 - k := fun b hl e => by
        rw [e, ha] at hl
        exact absurd hl (by decide)
      rw [if_neg (show ¬ false = true by decide), ih]
      constructor
      · intro h
        obtain ⟨c', h1, h2⟩ := h
        exact ⟨c', fun b hb hl => h1 b (by omega) hl, fun b hb h16 hl => h2 b (by have := ne b hl; omega) h16 hl⟩
      · intro h
        obtain ⟨c', h1, h2⟩ := h
        exact ⟨c', fun b hb hl => h1 b (by have := ne b hl; omega) hl, fun b hb h16 hl => h2 b (by omega) h16 hl⟩
    | true =>
      rw [if_pos rfl]
      generalize hf : (fun s => if oqc al A (15 - k) s col = true then srF al A n k (updC col (15 - k) s) else none) = f
      have fs : ∀ s, f s = if oqc al A (15 - k) s col = true then srF al A n k (updC col (15 - k) s) else none := fun s => by rw [← hf]
      constructor
      · intro h
        have hj : ∃ j, j < n ∧ f j ≠ none := Classical.byContradiction fun hn => h ((fsT_none n 0).mpr fun j _ hj => Classical.byContradiction fun hj' => hn ⟨j, by omega, hj'⟩)
        obtain ⟨j, jn, hj⟩ := hj
        rw [fs] at hj
        by_cases ok : oqc al A (15 - k) j col = true
        · rw [if_pos ok] at hj
          obtain ⟨c', h1, h2⟩ := (ih _).mp hj
          have ci : c' (15 - k) = j := by
            rw [h1 (15 - k) (by omega) ha]
            unfold updC
            rw [if_pos (show 15 - k = 15 - k from rfl)]
          have cb : ∀ b, b < 15 - k → al b = true → c' b = col b := fun b hb hl => by
            rw [h1 b (by omega) hl]
            unfold updC
            rw [if_neg (show ¬ b = 15 - k by omega)]
          refine ⟨c', fun b hb hl => cb b (by omega) hl, fun b hb h16 hl => ?_⟩
          by_cases e : b = 15 - k
          · rw [e, ci]
            exact ⟨jn, fun a ha' hl' hA => by rw [cb a ha' hl']; exact oqc_s.mp ok a ha' hl' hA⟩
          · exact h2 b (by omega) h16 hl
        · rw [if_neg ok] at hj
          exact absurd rfl hj
      · intro h hn
        obtain ⟨c', h1, h2⟩ := h
        have h3 := h2 (15 - k) (by omega) (by omega) ha
        have h4 := (fsT_none n 0).mp hn (c' (15 - k)) (by omega) (by omega)
        have ok : oqc al A (15 - k) (c' (15 - k)) col = true := oqc_s.mpr fun b hb hl hA => by
          rw [← h1 b (by omega) hl]
          exact h3.2 b hb hl hA
        rw [fs, if_pos ok] at h4
        refine (ih _).mpr ⟨c', fun b hb hl => ?_, fun b hb h16 hl => h2 b (by omega) h16 hl⟩ h4
        unfold updC
        by_cases e : b = 15 - k
        · rw [if_pos e, e]
        · rw [if_neg e]
          exact h1 b (by omega) hl
noncomputable def swp (u j x : Nat) : Nat := if x = u then j else if x = j then u else x
theorem swp_inj {u j x y : Nat} (h : swp u j x = swp u j y) : x = y := by
  unfold swp at h
  by_cases a : x = u
  · rw [if_pos a] at h
    by_cases b : y = u
    · omega
    · rw [if_neg b] at h
      by_cases c : y = j
      · rw [if_pos c] at h; omega
      · rw [if_neg c] at h; omega
  · rw [if_neg a] at h
    by_cases c : x = j
    · rw [if_pos c] at h
      by_cases b : y = u
      · rw [if_pos b] at h; omega
      · rw [if_neg b] at h
        by_cases d : y = j
        · omega
        · rw [if_neg d] at h; omega
    · rw [if_neg c] at h
      by_cases b : y = u
      · rw [if_pos b] at h; omega
      · rw [if_neg b] at h
        by_cases d : y = j
        · rw [if_pos d] at h; omega
        · rw [if_neg d] at h; exact h
theorem swp_lt {u j x n : Nat} (h1 : u < n) (h2 : j < n) (h3 : x < n) : swp u j x < n := by
  unfold swp
  by_cases a : x = u
  · rw [if_pos a]; exact h2
  · rw [if_neg a]
    by_cases b : x = j
    · rw [if_pos b]; exact h1
    · rw [if_neg b]; exact h3
theorem srG_F {al : Nat → Bool} {A : Nat → Nat → Bool} {n : Nat} : ∀ k, k ≤ 16 → ∀ u col, (∀ b, b + k < 16 → al b = true → col b < u) → srG al A n k u col = srF al A n k col
  | 0, _, _, _, _ => rfl
  | k + 1, hk, u, col, h => by
    have ih := srG_F (al := al) (A := A) (n := n) k (by omega)
    rw [srG_S, srF_S]
    cases ha : al (15 - k) with
    | false =>
      rw [if_neg (show ¬ false = true by decide), if_neg (show ¬ false = true by decide)]
      refine ih u col fun b hb hl => h b ?_ hl
      by_cases e : b = 15 - k
      · rw [e, ha] at hl
        exact absurd hl (by decide)
      · omega
    | true =>
      rw [if_pos rfl, if_pos rfl]
      have e : (fun s => if oqc al A (15 - k) s col = true then srG al A n k (max u (s + 1)) (updC col (15 - k) s) else none) = fun s => if oqc al A (15 - k) s col = true then srF al A n k (updC col (15 - k) s) else none := by
        funext s
        rw [ih (max u (s + 1)) (updC col (15 - k) s) (fun b hb hl => by
          unfold updC
          by_cases e : b = 15 - k
          · rw [if_pos e]
            omega
          · rw [if_neg e]
            have := h b (by omega) hl
            omega)]
      rw [e]
      by_cases g : n ≤ u + 1
      · rw [Nat.min_eq_left g]
      · rw [Nat.min_eq_right (show u + 1 ≤ n by omega)]
        generalize hf : (fun s => if oqc al A (15 - k) s col = true then srF al A n k (updC col (15 - k) s) else none) = f
        have fs : ∀ s, f s = if oqc al A (15 - k) s col = true then srF al A n k (updC col (15 - k) s) else none := fun s => by rw [← hf]
        have sp := fsT_split f (u + 1) (n - (u + 1)) 0
        rw [show u + 1 + (n - (u + 1)) = n by omega] at sp
        rw [sp]
        cases c : fsT f (u + 1) 0 with
        | some c' => rfl
        | none =>
          show none = fsT f (n - (u + 1)) (0 + (u + 1))
          refine ((fsT_none _ _).mpr fun j h1 h2 => ?_).symm
          have f0 := (fsT_none (u + 1) 0).mp c u (by omega) (by omega)
          have oku : oqc al A (15 - k) u col = true := oqc_s.mpr fun b hb hl _ => by
            have := h b (by omega) hl
            omega
          rw [fs, if_pos oku] at f0
          rw [fs]
          by_cases okj : oqc al A (15 - k) j col = true
          · rw [if_pos okj]
            refine Classical.byContradiction fun hne => ?_
            obtain ⟨c', g1, g2⟩ := (srF_E k (by omega) _).mp hne
            refine (srF_E (al := al) (A := A) (n := n) k (by omega) (updC col (15 - k) u)).mpr ⟨fun b => swp u j (c' b), fun b hb hl => ?_, fun b hb h16 hl => ?_⟩ f0
            · dsimp only
              rw [g1 b hb hl]
              unfold updC swp
              by_cases e : b = 15 - k
              · rw [if_pos e, if_pos e, if_neg (show ¬ j = u by omega), if_pos (show j = j from rfl)]
              · have := h b (by omega) hl
                rw [if_neg e, if_neg e, if_neg (show ¬ col b = u by omega), if_neg (show ¬ col b = j by omega)]
            · obtain ⟨a1, a2⟩ := g2 b hb h16 hl
              exact ⟨swp_lt (by omega) (by omega) a1, fun a ha' hl' hA e => a2 a ha' hl' hA (swp_inj e)⟩
          · rw [if_neg okj]
