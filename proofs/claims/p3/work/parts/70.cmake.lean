/-! THE CLASS: A RING OF A NEW FOAM -/
def rcel (k : Nat) (m : Mem) (b : Nat) (l : List Nat) : Prop := ∀ i, (h : i < l.length) → m (cw k (9 + b)) i = o32 l[i]
def pcV (x2 x3 rr cc : Int32) : Int32 := if rr < 0 then 16 else if x3 ≤ rr then 16 else if cc < 0 then 16 else if x2 ≤ cc then 16 else rr * x2 + cc
def plT (w h j i t : Nat) : Nat := (plL w h j i (i + j % 2)).getD t 0
def stT (p : Nat) : List Int32 := if p = 1 then jcst_1 else jcst_2
theorem pc_tab0 : ((List.range 2).all fun p => (List.range 5).all fun w => (List.range 5).all fun h => (List.range 4).all fun j => (List.range 4).all fun i => (List.range 6).all fun t => !decide (j % 2 = p) || decide (pcV (o32 w) (o32 h) (o32 j + jcst_0.getD t 0) (o32 i + (stT p).getD t 0) = o32 (plT w h j i t))) = true := by decide +kernel
theorem pc_tab (p : Nat) (hp : p < 2) (w : Nat) (hw : w < 5) (h : Nat) (hh : h < 5) (j : Nat) (hj : j < 4) (i : Nat) (hi : i < 4) (t : Nat) (ht : t < 6) (hjp : j % 2 = p) : pcV (o32 w) (o32 h) (o32 j + jcst_0.getD t 0) (o32 i + (stT p).getD t 0) = o32 (plT w h j i t) := by
  have e1 := List.all_eq_true.mp pc_tab0 p (List.mem_range.mpr hp)
  have e2 := List.all_eq_true.mp e1 w (List.mem_range.mpr hw)
  have e3 := List.all_eq_true.mp e2 h (List.mem_range.mpr hh)
  have e4 := List.all_eq_true.mp e3 j (List.mem_range.mpr hj)
  have e5 := List.all_eq_true.mp e4 i (List.mem_range.mpr hi)
  have e6 := List.all_eq_true.mp e5 t (List.mem_range.mpr ht)
  rw [decide_eq_true hjp] at e6
  exact of_decide_eq_true e6
theorem jc_tab : ∀ t, t < 6 → jat jcst_0 (o32 t) = some (jcst_0.getD t 0) ∧ jat jcst_1 (o32 t) = some (jcst_1.getD t 0) ∧ jat jcst_2 (o32 t) = some (jcst_2.getD t 0) := by decide +kernel
def pfx (w h j i t : Nat) : List Nat := ((plL w h j i (i + j % 2)).take t).foldl pushR []
theorem pfx_s (w h j i t : Nat) (ht : t < 6) : pfx w h j i (t + 1) = pushR (pfx w h j i t) (plT w h j i t) := by
  unfold pfx plT
  match t, ht with
  | 0, _ => rfl
  | 1, _ => rfl
  | 2, _ => rfl
  | 3, _ => rfl
  | 4, _ => rfl
  | 5, _ => rfl
theorem fold_len : ∀ (l s : List Nat), (l.foldl pushR s).length ≤ s.length + l.length
  | [], s => Nat.le_refl _
  | x :: l, s => by
    have h1 := fold_len l (pushR s x)
    have h2 := pushR_len s x
    show (l.foldl pushR (pushR s x)).length ≤ s.length + (l.length + 1)
    omega
theorem pfx_len (w h j i t : Nat) : (pfx w h j i t).length ≤ 6 := by
  have h1 := fold_len ((plL w h j i (i + j % 2)).take t) []
  have h2 : ((plL w h j i (i + j % 2)).take t).length ≤ 6 := by
    rw [List.length_take]
    exact Nat.min_le_right _ _
  show (((plL w h j i (i + j % 2)).take t).foldl pushR []).length ≤ 6
  have h3 : ([] : List Nat).length = 0 := rfl
  omega
theorem fold_16 : ∀ (l s : List Nat), (∀ x ∈ l, x ≤ 16) → (∀ x ∈ s, x ≤ 16) → ∀ x ∈ l.foldl pushR s, x ≤ 16
  | [], _, _, h => h
  | y :: l, s, h1, h2 => fold_16 l (pushR s y) (fun x hx => h1 x (List.mem_cons_of_mem _ hx)) (fun x hx => by
    unfold pushR at hx
    split at hx
    · exact h2 x hx
    · rcases List.mem_append.mp hx with z | z
      · exact h2 x z
      · rw [List.mem_singleton.mp z]
        exact h1 y List.mem_cons_self)
theorem pfx_16 {w h j i : Nat} (h1 : ∀ x ∈ plL w h j i (i + j % 2), x ≤ 16) (t : Nat) : ∀ x ∈ pfx w h j i t, x ≤ 16 := fold_16 _ _ (fun x hx => h1 x (List.mem_of_mem_take hx)) (fun x hx => (List.not_mem_nil hx).elim)
theorem plT_le {w h j i : Nat} (h1 : ∀ x ∈ plL w h j i (i + j % 2), x ≤ 16) (t : Nat) (ht : t < 6) : plT w h j i t ≤ 16 := by
  unfold plT
  have hl : (plL w h j i (i + j % 2)).length = 6 := rfl
  rw [getD_g (by omega)]
  exact h1 _ (List.getElem_mem _)
theorem r107 {k : Nat} {m : Mem} {b x w h i t : Nat} {l : List Nat} (hb : b < 16) (hx : x ≤ 16) (hl : l.length < 30) (h16 : ∀ y ∈ l, y ≤ 16) (hr : rcel k m b l) : ∃ m', bX0_makeRing_107 k (o32 b) (o32 w) (o32 h) (o32 i) (o32 l.length) (o32 t) (o32 x) m = some (.inl (o32 (pushR l x).length, o32 (t + 1), m')) ∧ rcel k m' b (pushR l x) ∧ ∀ c j, c ≠ cw k (9 + b) → m' c j = m c j := by
  have app : ∃ m', bX0_makeRing_137 k (o32 b) (o32 w) (o32 h) (o32 i) (o32 l.length) (o32 t) (o32 x) m = some (.inl (o32 (l ++ [x]).length, o32 (t + 1), m')) ∧ rcel k m' b (l ++ [x]) ∧ ∀ c j, c ≠ cw k (9 + b) → m' c j = m c j := by
    unfold bX0_makeRing_137
    rw [if_pos (o_inb hb (by omega)), if_pos (o_inb hl (by omega)), o_tn (by omega), o_tn (by omega), o_s, o_s, List.length_append, List.length_singleton]
    refine ⟨_, rfl, fun j hj => ?_, fun c j hc => mput_c _ _ _ hc ▸ rfl⟩
    rw [List.length_append, List.length_singleton] at hj
    rw [mput_get, List.getElem_append]
    by_cases e : j = l.length
    · rw [if_pos ⟨rfl, e⟩, dif_neg (by omega)]
      simp [e]
    · rw [if_neg (fun z => e z.2), dif_pos (by omega)]
      exact hr j (by omega)
  unfold bX0_makeRing_107 pushR
  rcases ends l with h0 | ⟨A, z, h0⟩
  · subst h0
    rw [if_pos (by rfl), if_neg (by simp)]
    exact app
  · have hlen : l.length = A.length + 1 := by rw [h0, List.length_append, List.length_singleton]
    rw [if_neg (by rw [show (0 : Int32) = o32 0 from rfl, o_eq (by omega) (by omega)]; omega)]
    by_cases hx16 : x = 16
    · have hz : z ≤ 16 := h16 z (by rw [h0]; exact List.mem_append_right _ List.mem_cons_self)
      have rz : m (cw k (9 + b)) (l.length - 1) = o32 z := by
        have := hr (l.length - 1) (by omega)
        rw [this]
        congr 1
        simp [h0]
      have gl : l.getLast? = some z := by rw [h0]; simp
      rw [if_pos ((e16 hx).mpr hx16), if_pos (o_inb hb (by omega)), show o32 l.length - 1 = o32 (l.length - 1) from o_sub (b := 1) (by omega) (by omega), if_pos (o_inb (by omega) (by omega)), o_tn (by omega), o_tn (by omega), rz, gl]
      by_cases hz16 : z = 16
      · rw [if_pos ((e16 hz).mpr hz16), if_pos ⟨hx16, by rw [hz16]⟩, o_s]
        exact ⟨m, rfl, hr, fun _ _ _ => rfl⟩
      · rw [if_neg (fun q => hz16 ((e16 hz).mp q)), if_neg (fun q => hz16 (Option.some.inj q.2))]
        exact app
    · rw [if_neg (fun q => hx16 ((e16 hx).mp q)), if_neg (fun q => hx16 q.1)]
      exact app
theorem r88 {k : Nat} {x1 x2 x3 x4 x6 x7 rr cc : Int32} {m : Mem} : (if rr < 0 then bX0_makeRing_88 k x1 x2 x3 x4 x6 x7 rr cc 0 m else (if x3 ≤ rr then bX0_makeRing_88 k x1 x2 x3 x4 x6 x7 rr cc 0 m else (if cc < 0 then bX0_makeRing_88 k x1 x2 x3 x4 x6 x7 rr cc 0 m else (if x2 ≤ cc then bX0_makeRing_88 k x1 x2 x3 x4 x6 x7 rr cc 0 m else bX0_makeRing_88 k x1 x2 x3 x4 x6 x7 rr cc 1 m)))) = bX0_makeRing_107 k x1 x2 x3 x4 x6 x7 (pcV x2 x3 rr cc) m := by
  unfold bX0_makeRing_88 pcV
  rw [if_pos rfl, if_neg (show ¬ (1 : Int32) = 0 by decide)]
  by_cases h1 : rr < 0
  · rw [if_pos h1, if_pos h1]
  · rw [if_neg h1, if_neg h1]
    by_cases h2 : x3 ≤ rr
    · rw [if_pos h2, if_pos h2]
    · rw [if_neg h2, if_neg h2]
      by_cases h3 : cc < 0
      · rw [if_pos h3, if_pos h3]
      · rw [if_neg h3, if_neg h3]
        by_cases h4 : x2 ≤ cc
        · rw [if_pos h4, if_pos h4]
        · rw [if_neg h4, if_neg h4]
theorem ring_c {k : Nat} {m : Mem} {b w h j i : Nat} (hb : b < 16) (hw : w < 5) (hh : h < 5) (hj : j < 4) (hi : i < 4) (hp : j % 2 = 1) (hrow : m (cw k 6) b = o32 j) : ∃ m', lp (lX0_makeRing_29 k (o32 b) (o32 w) (o32 h) (o32 i)) fu (0, 0, m) = some m' ∧ cg k m' b (trimR (ring6 w h j i (i + j % 2))) ∧ offC k m m' b := by
  have p16 := pl_l (w := w) (h := h) (j := j) (i := i) (y := i + j % 2) hw hh hj hi (by omega)
  have key := lp_ix (body := lX0_makeRing_29 k (o32 b) (o32 w) (o32 h) (o32 i)) (fun t s => s.1 = o32 (pfx w h j i t).length ∧ s.2.1 = o32 t ∧ rcel k s.2.2 b (pfx w h j i t) ∧ ∀ c z, c ≠ cw k (9 + b) → s.2.2 c z = m c z) (fun m' => cg k m' b (trimR (ring6 w h j i (i + j % 2))) ∧ offC k m m' b) 6 0 (0, 0, m) fu ⟨rfl, rfl, fun z hz => absurd hz (by simp [pfx]), fun _ _ _ => rfl⟩ (fun t s _ ht hI => ?_) (fun s hI => ?_) (lt_fu (by omega))
  · exact key
  · obtain ⟨i1, i2, i3, i4⟩ := hI
    have ht6 : t < 6 := by omega
    have tb : pcV (o32 w) (o32 h) (o32 j + jcst_0.getD t 0) (o32 i + jcst_1.getD t 0) = o32 (plT w h j i t) := pc_tab 1 (by omega) w hw h hh j hj i hi t ht6 hp
    have t0 : jat jcst_0 (o32 t) = some (jcst_0.getD t 0) := (jc_tab t ht6).1
    have t1 : jat jcst_1 (o32 t) = some (jcst_1.getD t 0) := (jc_tab t ht6).2.1
    have lt := pfx_len w h j i t
    have e6 : s.2.2 (cw k 6) (o32 b).toNatClampNeg = o32 j := by rw [o_tn (by omega), i4 _ _ (cw_ne (by omega))]; exact hrow
    unfold lX0_makeRing_29
    rw [i2, if_neg (by rw [show (6 : Int32) = o32 6 from rfl, o_le (by omega) (by omega)]; omega), if_pos (o_inb hb (by omega)), t0, t1, Option.bind_some, Option.bind_some, e6, i1, r88, tb]
    obtain ⟨m', e1, r1, f1⟩ := r107 (w := w) (h := h) (i := i) (t := t) hb (plT_le p16 t ht6) (by omega) (pfx_16 p16 t) i3
    exact ⟨_, e1, by rw [pfx_s w h j i t ht6], rfl, by rw [pfx_s w h j i t ht6]; exact r1, fun c z hc => (f1 c z hc).trans (i4 c z hc)⟩
  · obtain ⟨i1, i2, i3, i4⟩ := hI
    have l6 := pfx_len w h j i (0 + 6)
    have q16 := pfx_16 p16 (0 + 6)
    have e6 : pfx w h j i (0 + 6) = ring6 w h j i (i + j % 2) := rfl
    rw [e6] at l6 q16 i3 i1
    unfold lX0_makeRing_29
    rw [i2, if_pos (show (6 : Int32) ≤ o32 (0 + 6) by decide), i1]
    generalize ring6 w h j i (i + j % 2) = l at *
    have fin : ∀ l2 : List Nat, l2.length ≤ 6 → (∀ y ∈ l2, y ≤ 16) → rcel k s.2.2 b l2 → ∃ e, (bX0_makeRing_195 k (o32 b) (o32 l2.length) s.2.2).map (Sum.inr : Mem → (Int32 × Int32 × Mem) ⊕ Mem) = some (.inr e) ∧ cg k e b l2 ∧ offC k m e b := fun l2 h1 h2 h3 => by
      unfold bX0_makeRing_195
      rw [if_pos (o_inb hb (by omega)), o_tn (by omega)]
      refine ⟨_, rfl, ⟨by omega, by rw [mput_at], h2, fun z hz => ?_⟩, fun c z h5 h6 => ?_⟩
      · rw [mput_c _ _ _ (cw_ne (by omega))]
        exact h3 z hz
      · rw [mput_get, if_neg h5]
        exact i4 c z h6
    unfold trimR
    by_cases h1 : 1 < l.length
    · rw [if_neg (by rw [show (1 : Int32) = o32 1 from rfl, o_le (by omega) (by omega)]; omega), if_pos (o_inb hb (by omega))]
      have eb : (o32 b).toNatClampNeg = b := o_tn (by omega)
      match hl : l, h1 with
      | x :: y :: r, h1 =>
        have hx := q16 x List.mem_cons_self
        have r0 : s.2.2 (cw k (9 + (o32 b).toNatClampNeg)) 0 = o32 x := by rw [eb]; exact i3 0 (by simp)
        rw [r0]
        by_cases hx16 : x = 16
        · have hz : (x :: y :: r).getLast (by simp) ≤ 16 := q16 _ (List.getLast_mem _)
          have rz : s.2.2 (cw k (9 + b)) ((x :: y :: r).length - 1) = o32 ((x :: y :: r).getLast (by simp)) := by
            rw [i3 ((x :: y :: r).length - 1) (by simp), List.getLast_eq_getElem]
          have gl : (x :: y :: r).getLast? = some ((x :: y :: r).getLast (by simp)) := List.getLast?_eq_some_getLast (by simp)
          rw [if_pos ((e16 hx).mpr hx16), if_pos (o_inb hb (by omega)), show o32 (x :: y :: r).length - 1 = o32 ((x :: y :: r).length - 1) from o_sub (b := 1) (by omega) (by omega), if_pos (o_inb (by omega) (by omega)), eb, o_tn (by omega), rz, gl]
          by_cases hz16 : (x :: y :: r).getLast (by simp) = 16
          · have hd : (x :: y :: r).dropLast.length = (x :: y :: r).length - 1 := List.length_dropLast
            rw [if_pos ((e16 hz).mpr hz16), if_pos ⟨h1, by rw [List.head?_cons, hx16], by rw [hz16]⟩, less1 (by omega) (by omega), ← hd]
            refine fin _ (by omega) (fun z hz => q16 z (List.dropLast_subset _ hz)) (fun z hz => ?_)
            rw [List.getElem_dropLast]
            exact i3 z (by omega)
          · rw [if_neg (fun q => hz16 ((e16 hz).mp q)), if_neg (fun q => hz16 (Option.some.inj q.2.2))]
            exact fin _ l6 q16 i3
        · rw [if_neg (fun q => hx16 ((e16 hx).mp q)), if_neg (fun q => hx16 (by have := q.2.1; rw [List.head?_cons] at this; exact Option.some.inj this))]
          exact fin _ l6 q16 i3
    · rw [if_pos (by rw [show (1 : Int32) = o32 1 from rfl, o_le (by omega) (by omega)]; omega), if_neg (fun q => h1 q.1)]
      exact fin _ l6 q16 i3
theorem r107a {k : Nat} {m : Mem} {b x w h i t : Nat} {l : List Nat} (hb : b < 16) (hx : x ≤ 16) (hl : l.length < 30) (h16 : ∀ y ∈ l, y ≤ 16) (hr : rcel k m b l) : ∃ m', bX0_makeRing_107a k (o32 b) (o32 w) (o32 h) (o32 i) (o32 l.length) (o32 t) (o32 x) m = some (.inl (o32 (pushR l x).length, o32 (t + 1), m')) ∧ rcel k m' b (pushR l x) ∧ ∀ c j, c ≠ cw k (9 + b) → m' c j = m c j := by
  have app : ∃ m', bX0_makeRing_137a k (o32 b) (o32 w) (o32 h) (o32 i) (o32 l.length) (o32 t) (o32 x) m = some (.inl (o32 (l ++ [x]).length, o32 (t + 1), m')) ∧ rcel k m' b (l ++ [x]) ∧ ∀ c j, c ≠ cw k (9 + b) → m' c j = m c j := by
    unfold bX0_makeRing_137a
    rw [if_pos (o_inb hb (by omega)), if_pos (o_inb hl (by omega)), o_tn (by omega), o_tn (by omega), o_s, o_s, List.length_append, List.length_singleton]
    refine ⟨_, rfl, fun j hj => ?_, fun c j hc => mput_c _ _ _ hc ▸ rfl⟩
    rw [List.length_append, List.length_singleton] at hj
    rw [mput_get, List.getElem_append]
    by_cases e : j = l.length
    · rw [if_pos ⟨rfl, e⟩, dif_neg (by omega)]
      simp [e]
    · rw [if_neg (fun z => e z.2), dif_pos (by omega)]
      exact hr j (by omega)
  unfold bX0_makeRing_107a pushR
  rcases ends l with h0 | ⟨A, z, h0⟩
  · subst h0
    rw [if_pos (by rfl), if_neg (by simp)]
    exact app
  · have hlen : l.length = A.length + 1 := by rw [h0, List.length_append, List.length_singleton]
    rw [if_neg (by rw [show (0 : Int32) = o32 0 from rfl, o_eq (by omega) (by omega)]; omega)]
    by_cases hx16 : x = 16
    · have hz : z ≤ 16 := h16 z (by rw [h0]; exact List.mem_append_right _ List.mem_cons_self)
      have rz : m (cw k (9 + b)) (l.length - 1) = o32 z := by
        have := hr (l.length - 1) (by omega)
        rw [this]
        congr 1
        simp [h0]
      have gl : l.getLast? = some z := by rw [h0]; simp
      rw [if_pos ((e16 hx).mpr hx16), if_pos (o_inb hb (by omega)), show o32 l.length - 1 = o32 (l.length - 1) from o_sub (b := 1) (by omega) (by omega), if_pos (o_inb (by omega) (by omega)), o_tn (by omega), o_tn (by omega), rz, gl]
      by_cases hz16 : z = 16
      · rw [if_pos ((e16 hz).mpr hz16), if_pos ⟨hx16, by rw [hz16]⟩, o_s]
        exact ⟨m, rfl, hr, fun _ _ _ => rfl⟩
      · rw [if_neg (fun q => hz16 ((e16 hz).mp q)), if_neg (fun q => hz16 (Option.some.inj q.2))]
        exact app
    · rw [if_neg (fun q => hx16 ((e16 hx).mp q)), if_neg (fun q => hx16 q.1)]
      exact app
theorem r88a {k : Nat} {x1 x2 x3 x4 x6 x7 rr cc : Int32} {m : Mem} : (if rr < 0 then bX0_makeRing_88a k x1 x2 x3 x4 x6 x7 rr cc 0 m else (if x3 ≤ rr then bX0_makeRing_88a k x1 x2 x3 x4 x6 x7 rr cc 0 m else (if cc < 0 then bX0_makeRing_88a k x1 x2 x3 x4 x6 x7 rr cc 0 m else (if x2 ≤ cc then bX0_makeRing_88a k x1 x2 x3 x4 x6 x7 rr cc 0 m else bX0_makeRing_88a k x1 x2 x3 x4 x6 x7 rr cc 1 m)))) = bX0_makeRing_107a k x1 x2 x3 x4 x6 x7 (pcV x2 x3 rr cc) m := by
  unfold bX0_makeRing_88a pcV
  rw [if_pos rfl, if_neg (show ¬ (1 : Int32) = 0 by decide)]
  by_cases h1 : rr < 0
  · rw [if_pos h1, if_pos h1]
  · rw [if_neg h1, if_neg h1]
    by_cases h2 : x3 ≤ rr
    · rw [if_pos h2, if_pos h2]
    · rw [if_neg h2, if_neg h2]
      by_cases h3 : cc < 0
      · rw [if_pos h3, if_pos h3]
      · rw [if_neg h3, if_neg h3]
        by_cases h4 : x2 ≤ cc
        · rw [if_pos h4, if_pos h4]
        · rw [if_neg h4, if_neg h4]
theorem ringa_c {k : Nat} {m : Mem} {b w h j i : Nat} (hb : b < 16) (hw : w < 5) (hh : h < 5) (hj : j < 4) (hi : i < 4) (hp : j % 2 = 0) (hrow : m (cw k 6) b = o32 j) : ∃ m', lp (lX0_makeRing_29a k (o32 b) (o32 w) (o32 h) (o32 i)) fu (0, 0, m) = some m' ∧ cg k m' b (trimR (ring6 w h j i (i + j % 2))) ∧ offC k m m' b := by
  have p16 := pl_l (w := w) (h := h) (j := j) (i := i) (y := i + j % 2) hw hh hj hi (by omega)
  have key := lp_ix (body := lX0_makeRing_29a k (o32 b) (o32 w) (o32 h) (o32 i)) (fun t s => s.1 = o32 (pfx w h j i t).length ∧ s.2.1 = o32 t ∧ rcel k s.2.2 b (pfx w h j i t) ∧ ∀ c z, c ≠ cw k (9 + b) → s.2.2 c z = m c z) (fun m' => cg k m' b (trimR (ring6 w h j i (i + j % 2))) ∧ offC k m m' b) 6 0 (0, 0, m) fu ⟨rfl, rfl, fun z hz => absurd hz (by simp [pfx]), fun _ _ _ => rfl⟩ (fun t s _ ht hI => ?_) (fun s hI => ?_) (lt_fu (by omega))
  · exact key
  · obtain ⟨i1, i2, i3, i4⟩ := hI
    have ht6 : t < 6 := by omega
    have tb : pcV (o32 w) (o32 h) (o32 j + jcst_0.getD t 0) (o32 i + jcst_2.getD t 0) = o32 (plT w h j i t) := pc_tab 0 (by omega) w hw h hh j hj i hi t ht6 hp
    have t0 : jat jcst_0 (o32 t) = some (jcst_0.getD t 0) := (jc_tab t ht6).1
    have t1 : jat jcst_2 (o32 t) = some (jcst_2.getD t 0) := (jc_tab t ht6).2.2
    have lt := pfx_len w h j i t
    have e6 : s.2.2 (cw k 6) (o32 b).toNatClampNeg = o32 j := by rw [o_tn (by omega), i4 _ _ (cw_ne (by omega))]; exact hrow
    unfold lX0_makeRing_29a
    rw [i2, if_neg (by rw [show (6 : Int32) = o32 6 from rfl, o_le (by omega) (by omega)]; omega), if_pos (o_inb hb (by omega)), t0, t1, Option.bind_some, Option.bind_some, e6, i1, r88a, tb]
    obtain ⟨m', e1, r1, f1⟩ := r107a (w := w) (h := h) (i := i) (t := t) hb (plT_le p16 t ht6) (by omega) (pfx_16 p16 t) i3
    exact ⟨_, e1, by rw [pfx_s w h j i t ht6], rfl, by rw [pfx_s w h j i t ht6]; exact r1, fun c z hc => (f1 c z hc).trans (i4 c z hc)⟩
  · obtain ⟨i1, i2, i3, i4⟩ := hI
    have l6 := pfx_len w h j i (0 + 6)
    have q16 := pfx_16 p16 (0 + 6)
    have e6 : pfx w h j i (0 + 6) = ring6 w h j i (i + j % 2) := rfl
    rw [e6] at l6 q16 i3 i1
    unfold lX0_makeRing_29a
    rw [i2, if_pos (show (6 : Int32) ≤ o32 (0 + 6) by decide), i1]
    generalize ring6 w h j i (i + j % 2) = l at *
    have fin : ∀ l2 : List Nat, l2.length ≤ 6 → (∀ y ∈ l2, y ≤ 16) → rcel k s.2.2 b l2 → ∃ e, (bX0_makeRing_195 k (o32 b) (o32 l2.length) s.2.2).map (Sum.inr : Mem → (Int32 × Int32 × Mem) ⊕ Mem) = some (.inr e) ∧ cg k e b l2 ∧ offC k m e b := fun l2 h1 h2 h3 => by
      unfold bX0_makeRing_195
      rw [if_pos (o_inb hb (by omega)), o_tn (by omega)]
      refine ⟨_, rfl, ⟨by omega, by rw [mput_at], h2, fun z hz => ?_⟩, fun c z h5 h6 => ?_⟩
      · rw [mput_c _ _ _ (cw_ne (by omega))]
        exact h3 z hz
      · rw [mput_get, if_neg h5]
        exact i4 c z h6
    unfold trimR
    by_cases h1 : 1 < l.length
    · rw [if_neg (by rw [show (1 : Int32) = o32 1 from rfl, o_le (by omega) (by omega)]; omega), if_pos (o_inb hb (by omega))]
      have eb : (o32 b).toNatClampNeg = b := o_tn (by omega)
      match hl : l, h1 with
      | x :: y :: r, h1 =>
        have hx := q16 x List.mem_cons_self
        have r0 : s.2.2 (cw k (9 + (o32 b).toNatClampNeg)) 0 = o32 x := by rw [eb]; exact i3 0 (by simp)
        rw [r0]
        by_cases hx16 : x = 16
        · have hz : (x :: y :: r).getLast (by simp) ≤ 16 := q16 _ (List.getLast_mem _)
          have rz : s.2.2 (cw k (9 + b)) ((x :: y :: r).length - 1) = o32 ((x :: y :: r).getLast (by simp)) := by
            rw [i3 ((x :: y :: r).length - 1) (by simp), List.getLast_eq_getElem]
          have gl : (x :: y :: r).getLast? = some ((x :: y :: r).getLast (by simp)) := List.getLast?_eq_some_getLast (by simp)
          rw [if_pos ((e16 hx).mpr hx16), if_pos (o_inb hb (by omega)), show o32 (x :: y :: r).length - 1 = o32 ((x :: y :: r).length - 1) from o_sub (b := 1) (by omega) (by omega), if_pos (o_inb (by omega) (by omega)), eb, o_tn (by omega), rz, gl]
          by_cases hz16 : (x :: y :: r).getLast (by simp) = 16
          · have hd : (x :: y :: r).dropLast.length = (x :: y :: r).length - 1 := List.length_dropLast
            rw [if_pos ((e16 hz).mpr hz16), if_pos ⟨h1, by rw [List.head?_cons, hx16], by rw [hz16]⟩, less1 (by omega) (by omega), ← hd]
            refine fin _ (by omega) (fun z hz => q16 z (List.dropLast_subset _ hz)) (fun z hz => ?_)
            rw [List.getElem_dropLast]
            exact i3 z (by omega)
          · rw [if_neg (fun q => hz16 ((e16 hz).mp q)), if_neg (fun q => hz16 (Option.some.inj q.2.2))]
            exact fin _ l6 q16 i3
        · rw [if_neg (fun q => hx16 ((e16 hx).mp q)), if_neg (fun q => hx16 (by have := q.2.1; rw [List.head?_cons] at this; exact Option.some.inj this))]
          exact fin _ l6 q16 i3
    · rw [if_pos (by rw [show (1 : Int32) = o32 1 from rfl, o_le (by omega) (by omega)]; omega), if_neg (fun q => h1 q.1)]
      exact fin _ l6 q16 i3
