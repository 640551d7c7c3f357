/-! THE PURE SIDE: the law's run, by ranges -/
noncomputable def asteps (cs : Nat → Option (List aI)) (call : Nat → List aV → List aE → Option aR) (nL : Nat) (ret : Option FieldType) (tab : Nat → Option jI) : Nat → aC → Option aC
  | 0, c => some c
  | n + 1, c => match tab c.1 with
    | none => none
    | some x => match aexec cs call nL ret x c.1 c.2.1 c.2.2.1 c.2.2.2 with
      | some (.inl c') => asteps cs call nL ret tab n c'
      | _ => none
theorem g_steps {acs : Nat → Option (List aI)} {cs : Nat → Option (List Int32)} (hcs : ∀ (k : Nat) (l : List aI), acs k = some l → ∃ l2, cs k = some l2 ∧ jF2 gI l l2) {ac : Nat → List aV → List aE → Option aR} {jc : Nat → List Value → List jE → Option jR} (hc : gCall ac jc) {nL : Nat} {ret : Option FieldType} {tab : Nat → Option jI} : ∀ (n : Nat) (x : aC) (c : jC) (x' : aC), gC x c → asteps acs ac nL ret tab n x = some x' → ∃ c', gC x' c' ∧ ∀ f, jrun cs jc nL ret tab (n + f) c = jrun cs jc nL ret tab f c'
  | 0, x, c, x', hx, h => by
    cases h
    exact ⟨c, hx, fun f => by rw [Nat.zero_add]⟩
  | n + 1, x, c, x', hx, h => by
    obtain ⟨pc, L, st, h0⟩ := c
    obtain ⟨pa, La, sa, ha⟩ := x
    obtain ⟨e1, e2, e3, e4⟩ := hx
    have e1 : pa = pc := e1
    subst e1
    unfold asteps at h
    simp only [] at h
    cases ht : tab pa with
    | none => simp only [ht] at h; cases h
    | some y =>
      simp only [ht] at h
      cases he : aexec acs ac nL ret y pa La sa ha with
      | none => simp only [he] at h; cases h
      | some o =>
        simp only [he] at h
        obtain ⟨o', o1, o2⟩ := g_exec hcs hc e2 e3 e4 he
        cases o with
        | inr r => cases h
        | inl x1 =>
          cases o' with
          | inr c' => cases o2
          | inl c1 =>
            obtain ⟨c', h1, h2⟩ := g_steps hcs hc n x1 c1 x' o2 h
            refine ⟨c', h1, fun f => ?_⟩
            rw [Nat.succ_add]
            rw [← h2 f]
            show (match jstep cs jc nL ret tab (pa, L, st, h0) with
              | none => none
              | some (.inl c') => jrun cs jc nL ret tab (n + f) c'
              | some (.inr r) => some r) = _
            unfold jstep
            simp only [ht, o1]
noncomputable def axs (X : List aI) (k : Nat) : Option (List aI) := bif Nat.blt k 5 then (jst[k]?).map (fun q => q.2.2.map (fun x => aK x.toInt)) else bif k == 20 then some X else none
theorem f2_exact : ∀ l : List Int32, jF2 gI (l.map (fun x => aK x.toInt)) l
  | [] => trivial
  | x :: l => ⟨gI_K x, f2_exact l⟩
theorem g_axs {X : List aI} {xs : List Int32} (hX : jF2 gI X xs) (k : Nat) (l : List aI) (h : axs X k = some l) : ∃ l2, jcs xs k = some l2 ∧ jF2 gI l l2 := by
  unfold axs at h
  unfold jcs
  cases hk : Nat.blt k 5 with
  | true =>
    rw [hk] at h
    simp only [cond_true] at h ⊢
    cases hq : jst[k]? with
    | none => rw [hq] at h; cases h
    | some q => rw [hq] at h; cases h; exact ⟨_, rfl, f2_exact _⟩
  | false =>
    rw [hk] at h
    simp only [cond_false] at h ⊢
    cases hk2 : (k == 20) with
    | true => rw [hk2] at h; cases h; exact ⟨_, rfl, hX⟩
    | false => rw [hk2] at h; cases h
noncomputable def asz (e : aE) : Nat := match e with
  | .inl o => o.2.length
  | .inr (.inl a) => a.2.length
  | .inr (.inr a) => a.2.length
theorem g_sz : ∀ {a : aE} {e : jE}, gE a e → jsz e = asz a
  | .inl o, .inl p, h => (f2_len h.2).symm
  | .inr (.inl o), .inr (.inl p), h => (f2_len h.2).symm
  | .inr (.inr o), e, h => by
    have h : e = .inr (.inr o) := h
    rw [h]
    rfl
  | .inl o, .inr _, h => by cases h
  | .inr (.inl o), .inl p, h => by cases h
  | .inr (.inl o), .inr (.inr p), h => by cases h
theorem g_jsl : ∀ {a : List aE} {h : List jE}, jF2 gE a h → jsl h = (a.map asz).sum
  | [], [], _ => rfl
  | x :: a, e :: h, g => by
    show jsz e + jsl h = asz x + (a.map asz).sum
    rw [g_sz g.1, g_jsl (a := a) (h := h) g.2]
  | [], e :: h, g => by cases g
  | x :: a, [], g => by cases g
/-- the law answered 1, and laid nothing -/
noncomputable def aok (n : Nat) (r : Option aR) : Bool := match r with
  | some (some (.inl X), h) => decide (X.1 = 1) && (decide (X.2 = 1) && h.length == n)
  | _ => false
theorem g_one {X : aI} {x : Int32} (h1 : X.1 = 1) (h2 : X.2 = 1) (g : gI X x) : x = 1 := by
  have a := g.1
  have b := g.2
  have e : x.toInt = 1 := by omega
  have : x = Int32.ofInt 1 := by rw [← e, Int32.ofInt_toInt]
  rw [this]
  rfl
theorem aok_ok {n : Nat} {r : aR} {r' : jR} (h : aok n (some r) = true) (g : gR r r') : r'.1 = some (.int 1) ∧ r'.2.length = n := by
  obtain ⟨r1, r2⟩ := r
  obtain ⟨g1, g2⟩ := g
  match r1, h, g1 with
  | some (.inl X), h, g1 =>
    obtain ⟨v, v1, v2⟩ := g1
    have h : (decide (X.1 = 1) && (decide (X.2 = 1) && r2.length == n)) = true := h
    rw [Bool.and_eq_true, Bool.and_eq_true, decide_eq_true_eq, decide_eq_true_eq] at h
    have hl : r2.length = n := eq_of_beq h.2.2
    refine ⟨?_, by rw [← hl]; exact (f2_len g2).symm⟩
    rw [v1]
    match v, v2 with
    | .int x, v2 => rw [g_one h.1 h.2.1 v2]
  | some (.inr _), h, _ => cases h
  | none, h, _ => cases h
/-- the pieces of the line at the points -/
noncomputable def apc : Int → List Int → List aI
  | lo, [] => [(lo, 2147483647)]
  | lo, a :: r => (lo, a - 1) :: apc a r
theorem apc_mem (x : Int32) : ∀ (r : List Int) (lo : Int), lo ≤ x.toInt → ∃ X ∈ apc lo r, gI X x
  | [], lo, h => ⟨_, List.mem_singleton.mpr rfl, h, by have := x.toInt_lt; omega⟩
  | a :: r, lo, h => by
    by_cases ha : a ≤ x.toInt
    · obtain ⟨X, h1, h2⟩ := apc_mem x r a ha
      exact ⟨X, List.mem_cons_of_mem _ h1, h2⟩
    · exact ⟨_, List.mem_cons_self, h, by show x.toInt ≤ a - 1; omega⟩
/-- by pieces: first all at once, then piece by piece -/
noncomputable def ack (g : List aI → Bool) : List (List Int) → List aI → Bool
  | [], pre => g pre
  | c :: cs, pre => g pre || (apc (-2147483648) c).all (fun X => ack g cs (pre ++ [X]))
theorem ack_ok {g : List aI → Bool} {P : List Int32 → Prop} {n : Nat} (hg : ∀ (pre : List aI) (a b : List Int32), g pre = true → jF2 gI pre a → a.length + b.length = n → P (a ++ b)) : ∀ (cs : List (List Int)) (pre : List aI) (a b : List Int32), ack g cs pre = true → jF2 gI pre a → a.length + b.length = n → a.length + cs.length ≤ n → P (a ++ b)
  | [], pre, a, b, h, h1, h2, _ => hg pre a b h h1 h2
  | c :: cs, pre, a, b, h, h1, h2, h3 => by
    have h : (g pre || (apc (-2147483648) c).all (fun X => ack g cs (pre ++ [X]))) = true := h
    rw [Bool.or_eq_true] at h
    rcases h with h | h
    · exact hg pre a b h h1 h2
    · rw [List.all_eq_true] at h
      match b, h2 with
      | [], h2 =>
        rw [List.length_nil] at h2
        rw [List.length_cons] at h3
        omega
      | x :: b, h2 =>
        obtain ⟨X, hm, hX⟩ := apc_mem x c (-2147483648) x.le_toInt
        have key := ack_ok hg cs (pre ++ [X]) (a ++ [x]) b (h X hm) (f2_app h1 ⟨hX, trivial⟩) (by rw [List.length_append, List.length_singleton]; rw [List.length_cons] at h2; omega) (by rw [List.length_append, List.length_singleton]; rw [List.length_cons] at h3; omega)
        rw [List.append_assoc] at key
        exact key
theorem f2_top : ∀ l : List Int32, jF2 gI (List.replicate l.length aT) l
  | [] => trivial
  | x :: l => ⟨gI_T x, f2_top l⟩
