/-! the ranges hold -/
def jF2 {α β : Type} (R : α → β → Prop) : List α → List β → Prop
  | [], [] => True
  | a :: as, b :: bs => R a b ∧ jF2 R as bs
  | _, _ => False
section F2
variable {α β : Type} {R : α → β → Prop}
theorem f2_len : ∀ {as : List α} {bs : List β}, jF2 R as bs → as.length = bs.length
  | [], [], _ => rfl
  | a :: as, b :: bs, h => by rw [List.length_cons, List.length_cons, f2_len h.2]
  | [], b :: bs, h => by cases h
  | a :: as, [], h => by cases h
theorem f2_get : ∀ {as : List α} {bs : List β}, jF2 R as bs → ∀ {i : Nat} {a : α}, as[i]? = some a → ∃ b, bs[i]? = some b ∧ R a b
  | [], [], _, i, a, h => by cases h
  | x :: as, y :: bs, h, 0, a, e => by
    cases e
    exact ⟨y, rfl, h.1⟩
  | x :: as, y :: bs, h, i + 1, a, e => f2_get (as := as) (bs := bs) h.2 (i := i) e
  | [], b :: bs, h, _, _, _ => by cases h
  | a :: as, [], h, _, _, _ => by cases h
theorem f2_set : ∀ {as : List α} {bs : List β}, jF2 R as bs → ∀ {i : Nat} {a : α} {b : β}, R a b → jF2 R (as.set i a) (bs.set i b)
  | [], [], _, i, _, _, _ => trivial
  | x :: as, y :: bs, h, 0, a, b, e => ⟨e, h.2⟩
  | x :: as, y :: bs, h, i + 1, a, b, e => ⟨h.1, f2_set (as := as) (bs := bs) h.2 (i := i) e⟩
  | [], b :: bs, h, _, _, _, _ => by cases h
  | a :: as, [], h, _, _, _, _ => by cases h
theorem f2_app : ∀ {as : List α} {bs : List β} {cs : List α} {ds : List β}, jF2 R as bs → jF2 R cs ds → jF2 R (as ++ cs) (bs ++ ds)
  | [], [], _, _, _, h2 => h2
  | x :: as, y :: bs, _, _, h, h2 => ⟨h.1, f2_app (as := as) (bs := bs) h.2 h2⟩
  | [], b :: bs, _, _, h, _ => by cases h
  | a :: as, [], _, _, h, _ => by cases h
theorem f2_take : ∀ (n : Nat) {as : List α} {bs : List β}, jF2 R as bs → jF2 R (as.take n) (bs.take n)
  | 0, _, _, _ => by
    rw [List.take_zero, List.take_zero]
    exact trivial
  | n + 1, [], [], _ => trivial
  | n + 1, x :: as, y :: bs, h => ⟨h.1, f2_take n (as := as) (bs := bs) h.2⟩
  | n + 1, [], b :: bs, h => by cases h
  | n + 1, a :: as, [], h => by cases h
theorem f2_drop : ∀ (n : Nat) {as : List α} {bs : List β}, jF2 R as bs → jF2 R (as.drop n) (bs.drop n)
  | 0, _, _, h => h
  | n + 1, [], [], _ => trivial
  | n + 1, x :: as, y :: bs, h => f2_drop n (as := as) (bs := bs) h.2
  | n + 1, [], b :: bs, h => by cases h
  | n + 1, a :: as, [], h => by cases h
theorem f2_rev : ∀ {as : List α} {bs : List β}, jF2 R as bs → jF2 R as.reverse bs.reverse
  | [], [], _ => trivial
  | x :: as, y :: bs, h => by
    rw [List.reverse_cons, List.reverse_cons]
    exact f2_app (f2_rev (as := as) (bs := bs) h.2) ⟨h.1, trivial⟩
  | [], b :: bs, h => by cases h
  | a :: as, [], h => by cases h
theorem f2_rep {a : α} {b : β} (h : R a b) : ∀ n : Nat, jF2 R (List.replicate n a) (List.replicate n b)
  | 0 => trivial
  | n + 1 => ⟨h, f2_rep h n⟩
theorem f2_map {γ : Type} {f : γ → α} {g : γ → β} : ∀ (l : List γ), (∀ x ∈ l, R (f x) (g x)) → jF2 R (l.map f) (l.map g)
  | [], _ => trivial
  | x :: l, h => ⟨h x List.mem_cons_self, f2_map l (fun y hy => h y (List.mem_cons_of_mem _ hy))⟩
end F2
def gI (X : aI) (x : Int32) : Prop := X.1 ≤ x.toInt ∧ x.toInt ≤ X.2
def gV (X : aV) (v : Value) : Prop := match X with
  | .inl X => match v with
    | .int x => gI X x
    | _ => False
  | .inr none => match v with
    | .long _ => True
    | _ => False
  | .inr (some w) => (∃ i, w = .ref i ∨ w = .null) ∧ v = w
def gL (a : Nat × aV) (b : Nat × Value) : Prop := a.1 = b.1 ∧ gV a.2 b.2
def gE (a : aE) (e : jE) : Prop := match a with
  | .inl o => match e with
    | .inl p => o.1 = p.1 ∧ jF2 gV o.2 p.2
    | _ => False
  | .inr (.inl o) => match e with
    | .inr (.inl p) => o.1 = p.1 ∧ jF2 gI o.2 p.2
    | _ => False
  | .inr (.inr o) => e = .inr (.inr o)
def gC (a : aC) (c : jC) : Prop := a.1 = c.1 ∧ jF2 gL a.2.1 c.2.1 ∧ jF2 gV a.2.2.1 c.2.2.1 ∧ jF2 gE a.2.2.2 c.2.2.2
def gRo (a : Option aV) (r : Option Value) : Prop := match a with
  | none => r = none
  | some X => ∃ v, r = some v ∧ gV X v
def gR (a : aR) (r : jR) : Prop := gRo a.1 r.1 ∧ jF2 gE a.2 r.2
def gO (a : aC ⊕ aR) (o : jC ⊕ jR) : Prop := match a with
  | .inl a => match o with
    | .inl c => gC a c
    | _ => False
  | .inr a => match o with
    | .inr r => gR a r
    | _ => False
theorem gI_T (x : Int32) : gI aT x := by
  have h1 := x.le_toInt
  have h2 := x.toInt_lt
  refine ⟨?_, ?_⟩
  · show (-2147483648 : Int) ≤ x.toInt
    omega
  · show x.toInt ≤ (2147483647 : Int)
    omega
theorem gI_K (x : Int32) : gI (aK x.toInt) x := ⟨Int.le_refl _, Int.le_refl _⟩
theorem gI_N {l h : Int} {x : Int32} (h1 : -2147483648 ≤ l → h ≤ 2147483647 → gI (l, h) x) : gI (aN l h) x := by
  unfold aN
  cases hb : (decide (-2147483648 ≤ l) && decide (h ≤ 2147483647)) with
  | false => exact gI_T x
  | true =>
    rw [Bool.and_eq_true, decide_eq_true_eq, decide_eq_true_eq] at hb
    exact h1 hb.1 hb.2
theorem aX_eq {X : aI} (h : aX X = true) : X.1 = X.2 := eq_of_beq h
theorem gI_ex {X : aI} {x : Int32} (h : aX X = true) (g : gI X x) : x.toInt = X.1 ∧ Int32.ofInt X.1 = x := by
  have e := aX_eq h
  have e2 : x.toInt = X.1 := by
    have h1 := g.1
    have h2 := g.2
    omega
  exact ⟨e2, by rw [← e2]; exact Int32.ofInt_toInt x⟩
theorem jbm {z : Int} (h1 : -2147483648 ≤ z) (h2 : z ≤ 2147483647) : z.bmod (2 ^ 32) = z := by
  apply Int.bmod_eq_of_le <;> omega
theorem g_add {X Y : aI} {x y : Int32} (hx : gI X x) (hy : gI Y y) : gI (aadd X Y) (x + y) := gI_N fun h1 h2 => by
  obtain ⟨a1, a2⟩ := hx
  obtain ⟨b1, b2⟩ := hy
  have e : (x + y).toInt = x.toInt + y.toInt := by
    rw [Int32.toInt_add]
    exact jbm (by omega) (by omega)
  exact ⟨by rw [e]; show X.1 + Y.1 ≤ _; omega, by rw [e]; show _ ≤ X.2 + Y.2; omega⟩
theorem g_sub {X Y : aI} {x y : Int32} (hx : gI X x) (hy : gI Y y) : gI (asub X Y) (x - y) := gI_N fun h1 h2 => by
  obtain ⟨a1, a2⟩ := hx
  obtain ⟨b1, b2⟩ := hy
  have e : (x - y).toInt = x.toInt - y.toInt := by
    rw [Int32.toInt_sub]
    exact jbm (by omega) (by omega)
  exact ⟨by rw [e]; show X.1 - Y.2 ≤ _; omega, by rw [e]; show _ ≤ X.2 - Y.1; omega⟩
theorem g_neg {X : aI} {x : Int32} (hx : gI X x) : gI (aneg X) (-x) := gI_N fun h1 h2 => by
  obtain ⟨a1, a2⟩ := hx
  have e : (-x).toInt = -x.toInt := by
    rw [Int32.toInt_neg]
    exact jbm (by omega) (by omega)
  exact ⟨by rw [e]; show -X.2 ≤ _; omega, by rw [e]; show _ ≤ -X.1; omega⟩
theorem g_mul {X Y : aI} {x y : Int32} (hx : gI X x) (hy : gI Y y) : gI (amul X Y) (x * y) := by
  unfold amul
  cases hb : (aX X && aX Y) with
  | false => exact gI_T _
  | true =>
    rw [Bool.and_eq_true] at hb
    obtain ⟨e1, -⟩ := gI_ex hb.1 hx
    obtain ⟨e2, -⟩ := gI_ex hb.2 hy
    refine gI_N fun h1 h2 => ?_
    have e : (x * y).toInt = X.1 * Y.1 := by
      rw [Int32.toInt_mul, e1, e2]
      exact jbm h1 h2
    exact ⟨by rw [e]; exact Int.le_refl _, by rw [e]; exact Int.le_refl _⟩
theorem g_op (f : Int32 → Int32 → Int32) {X Y : aI} {x y : Int32} (hx : gI X x) (hy : gI Y y) : gI (aop f X Y) (f x y) := by
  unfold aop
  cases hb : (aX X && aX Y) with
  | false => exact gI_T _
  | true =>
    rw [Bool.and_eq_true] at hb
    rw [(gI_ex hb.1 hx).2, (gI_ex hb.2 hy).2]
    exact gI_K _
theorem g_op1 (f : Int32 → Int32) {X : aI} {x : Int32} (hx : gI X x) : gI (aop1 f X) (f x) := by
  unfold aop1
  cases hb : aX X with
  | false => exact gI_T _
  | true =>
    rw [(gI_ex hb hx).2]
    exact gI_K _
theorem g_eq {X Y : aI} {x y : Int32} (hx : gI X x) (hy : gI Y y) {b : Bool} (h : aeq X Y = some b) : decide (x = y) = b := by
  obtain ⟨a1, a2⟩ := hx
  obtain ⟨b1, b2⟩ := hy
  unfold aeq at h
  cases hb : (decide (X.2 < Y.1) || decide (Y.2 < X.1)) with
  | true =>
    rw [hb] at h
    cases h
    rw [Bool.or_eq_true, decide_eq_true_eq, decide_eq_true_eq] at hb
    refine decide_eq_false fun e => ?_
    subst e
    omega
  | false =>
    rw [hb, cond_false] at h
    cases hc : (aX X && (aX Y && decide (X.1 = Y.1))) with
    | false => rw [hc] at h; cases h
    | true =>
      rw [hc] at h
      cases h
      rw [Bool.and_eq_true, Bool.and_eq_true, decide_eq_true_eq] at hc
      obtain ⟨-, e1⟩ := gI_ex hc.1 ⟨a1, a2⟩
      obtain ⟨-, e2⟩ := gI_ex hc.2.1 ⟨b1, b2⟩
      exact decide_eq_true (by rw [← e1, ← e2, hc.2.2])
theorem g_lt {X Y : aI} {x y : Int32} (hx : gI X x) (hy : gI Y y) {b : Bool} (h : alt X Y = some b) : decide (x < y) = b := by
  obtain ⟨a1, a2⟩ := hx
  obtain ⟨b1, b2⟩ := hy
  unfold alt at h
  cases hb : decide (X.2 < Y.1) with
  | true =>
    rw [hb] at h
    cases h
    rw [decide_eq_true_eq] at hb
    exact decide_eq_true (Int32.lt_iff_toInt_lt.mpr (by omega))
  | false =>
    rw [hb, cond_false] at h
    cases hc : decide (Y.2 ≤ X.1) with
    | false => rw [hc] at h; cases h
    | true =>
      rw [hc] at h
      cases h
      rw [decide_eq_true_eq] at hc
      refine decide_eq_false fun e => ?_
      have := Int32.lt_iff_toInt_lt.mp e
      omega
theorem g_le {x y : Int32} {b : Bool} (h : decide (x < y) = b) : decide (y ≤ x) = !b := by
  have e : (y ≤ x) ↔ ¬ (x < y) := by
    rw [Int32.le_iff_toInt_le, Int32.lt_iff_toInt_lt]
    omega
  cases b with
  | true => exact decide_eq_false fun z => (e.mp z) (of_decide_eq_true h)
  | false => exact decide_eq_true (e.mpr (of_decide_eq_false h))
theorem g_cond {q : ClassFile.Cond} {X Y : aI} {x y : Int32} (hx : gI X x) (hy : gI Y y) {b : Bool} (h : acond q X Y = some b) : jcond q x y = b := by
  cases q with
  | eq => exact g_eq hx hy h
  | lt => exact g_lt hx hy h
  | gt => exact g_lt hy hx h
  | ne =>
    obtain ⟨c, h1, rfl⟩ := Option.map_eq_some_iff.mp (show (aeq X Y).map not = some b from h)
    have := g_eq hx hy h1
    show decide (¬ x = y) = !c
    cases c with
    | true => exact decide_eq_false (fun z => z (of_decide_eq_true this))
    | false => exact decide_eq_true (of_decide_eq_false this)
  | ge =>
    obtain ⟨c, h1, rfl⟩ := Option.map_eq_some_iff.mp (show (alt X Y).map not = some b from h)
    exact g_le (g_lt hx hy h1)
  | le =>
    obtain ⟨c, h1, rfl⟩ := Option.map_eq_some_iff.mp (show (alt Y X).map not = some b from h)
    exact g_le (g_lt hy hx h1)
theorem g_ix {X : aI} {x : Int32} {k : Nat} (hx : gI X x) (h : aix X = some k) : ¬ x < 0 ∧ x.toNatClampNeg = k ∧ x.toInt = (k : Int) := by
  unfold aix at h
  cases hb : (aX X && decide (0 ≤ X.1)) with
  | false => rw [hb] at h; cases h
  | true =>
    rw [hb] at h
    cases h
    rw [Bool.and_eq_true, decide_eq_true_eq] at hb
    obtain ⟨e1, -⟩ := gI_ex hb.1 hx
    refine ⟨fun z => ?_, ?_, ?_⟩
    · have := Int32.lt_iff_toInt_lt.mp z
      rw [Int32.toInt_zero] at this
      omega
    · show x.toInt.toNat = _
      rw [e1]
    · rw [e1]
      exact (Int.toNat_of_nonneg hb.2).symm
theorem gV_cat {X : aV} {v : Value} (h : gV X v) : acat X = v.category := by
  match X, v, h with
  | .inl X, .int x, _ => rfl
  | .inr none, .long x, _ => rfl
  | .inr (some w), v, h => rw [h.2]; rfl
theorem gV_sum : ∀ {a : List aV} {s : List Value}, jF2 gV a s → (a.map acat).sum = (s.map fun v => v.category).sum
  | [], [], _ => rfl
  | X :: a, v :: s, h => by
    show acat X + (a.map acat).sum = v.category + (s.map fun v => v.category).sum
    rw [gV_cat h.1, gV_sum (a := a) (s := s) h.2]
  | [], v :: s, h => by cases h
  | X :: a, [], h => by cases h
theorem g_get : ∀ {a : List (Nat × aV)} {L : List (Nat × Value)}, jF2 gL a L → ∀ {i : Nat} {X : aV}, agv a i = some X → ∃ v, jget L i = some v ∧ gV X v
  | [], [], _, i, X, h => by cases h
  | x :: a, y :: L, hf, i, X, h => by
    unfold agv at h
    cases hb : (x.1 == i) with
    | true =>
      rw [hb] at h
      cases h
      refine ⟨y.2, ?_, hf.1.2⟩
      unfold jget
      rw [← hf.1.1, hb]
      rfl
    | false =>
      rw [hb] at h
      obtain ⟨v, h1, h2⟩ := g_get (a := a) (L := L) hf.2 h
      refine ⟨v, ?_, h2⟩
      unfold jget
      rw [← hf.1.1, hb]
      exact h1
  | [], v :: s, h, _, _, _ => by cases h
  | X :: a, [], h, _, _, _ => by cases h
theorem f2_fil {p : Nat × aV → Bool} {q : Nat × Value → Bool} (hpq : ∀ x y, gL x y → p x = q y) : ∀ {a : List (Nat × aV)} {L : List (Nat × Value)}, jF2 gL a L → jF2 gL (a.filter p) (L.filter q)
  | [], [], _ => trivial
  | x :: a, y :: L, h => by
    rw [List.filter_cons, List.filter_cons, hpq x y h.1]
    split
    · exact ⟨h.1, f2_fil hpq (a := a) (L := L) h.2⟩
    · exact f2_fil hpq (a := a) (L := L) h.2
  | [], v :: s, h => by cases h
  | X :: a, [], h => by cases h
theorem g_put {a : List (Nat × aV)} {L : List (Nat × Value)} (h : jF2 gL a L) {i : Nat} {X : aV} {v : Value} (hv : gV X v) : jF2 gL (aput a i X) (jput L i v) := by
  refine ⟨⟨rfl, hv⟩, f2_fil (fun x y hxy => ?_) h⟩
  rw [hxy.1, gV_cat hxy.2]
theorem g_put2 {a : List (Nat × aV)} {L : List (Nat × Value)} (h : jF2 gL a L) {i : Nat} {X : aV} {v : Value} (hv : gV X v) : jF2 gL (aput2 a i X) (jput2 L i v) := by
  refine ⟨⟨rfl, hv⟩, f2_fil (fun x y hxy => ?_) h⟩
  rw [hxy.1, gV_cat hxy.2]
theorem g_ref (i : Nat) : gV (aref i) (.ref i) := ⟨⟨i, Or.inl rfl⟩, rfl⟩
