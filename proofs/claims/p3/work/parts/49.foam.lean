/-! THE FOAM as it is laid -/
def pushR (l : List Nat) (x : Nat) : List Nat := if x = 16 ∧ l.getLast? = some 16 then l else l ++ [x]
theorem push_s {m : Mem} {b x : Nat} {l : List Nat} (hb : b < 16) (hx : x ≤ 16) (h : rgAt m b l) (hl : l.length < 44) : ∃ m', bX9_grows_32 (o32 b) (o32 x) (o32 l.length) m = some m' ∧ rgAt m' b (l ++ [x]) ∧ offR m m' b := by
  have t5 : ∀ v m, fX9_tells (o32 b) 5 v m = some (mput m 138 (12 + 50 * b + 5) v) := fun v m => tl_o (f := 5) hb (by omega)
  refine ⟨_, by unfold bX9_grows_32; rw [tr_o hb hl, Option.bind_some, t5, Option.bind_some], ⟨by simp; omega, ?_, ?_, fun i hi => ?_⟩, fun c j hn => ?_⟩
  · rw [mput_get, if_pos ⟨rfl, rfl⟩, o_s]
    simp
  · intro y hy
    rcases List.mem_append.mp hy with w | w
    · exact h.2.2.1 y w
    · rw [List.mem_singleton.mp w]; exact hx
  · rw [mput_get, if_neg (by omega), mput_get]
    rw [List.length_append] at hi
    have h1 : [x].length = 1 := rfl
    by_cases e : i = l.length
    · subst e
      rw [if_pos ⟨rfl, rfl⟩, List.getElem_append_right (by omega)]
      simp
    · rw [if_neg (by omega), List.getElem_append_left (by omega)]
      exact h.2.2.2 i (by omega)
  · rw [mput_get, if_neg (fun z => hn ⟨z.1, by omega, by omega⟩), mput_get, if_neg (fun z => hn ⟨z.1, by omega, by omega⟩)]
theorem six_1 {k : Nat} (hk : k < 1000) : (6 : Int32) + o32 (k + 1) - 1 = 6 + o32 k := by
  show o32 6 + o32 (k + 1) - o32 1 = o32 6 + o32 k
  rw [o_add, o_sub (by omega) (by omega), o_add]
  congr 1
theorem last_s {m : Mem} {b z : Nat} {A : List Nat} (hb : b < 16) (h : rgAt m b (A ++ [z])) : fX9_of (o32 b) ((6 + o32 (A ++ [z]).length) - 1) m = some (o32 z) := by
  have hl := h.1
  rw [List.length_append] at hl
  have h1 : [z].length = 1 := rfl
  rw [List.length_append, h1, six_1 (by omega), rg_o hb (by omega), h.2.2.2 A.length (by simp), List.getElem_append_right (by omega)]
  simp
theorem grows_s {m : Mem} {b x : Nat} {l : List Nat} (hb : b < 16) (hx : x ≤ 16) (h : rgAt m b l) (hl : l.length < 44) : ∃ m', fX9_grows (o32 b) (o32 x) m = some m' ∧ rgAt m' b (pushR l x) ∧ offR m m' b := by
  obtain ⟨m', e, r, o⟩ := push_s hb hx h hl
  have x16 : o32 x = 16 ↔ x = 16 := o_eq (b := 16) (by omega) (by omega)
  unfold fX9_grows
  rw [sd_o hb, h.2.1, Option.bind_some]
  unfold pushR
  rcases ends l with rfl | ⟨A, z, rfl⟩
  · rw [if_pos (show o32 ([] : List Nat).length = 0 from rfl), if_neg (by simp)]
    exact ⟨m', e, r, o⟩
  · have hz : z ≤ 16 := h.2.2.1 z (by simp)
    have n0 : ¬ o32 (A ++ [z]).length = 0 := fun w => by
      have := (o_eq (b := 0) (by omega) (by omega)).mp w
      simp at this
    rw [if_neg n0]
    have gl : (A ++ [z]).getLast? = some z := by simp
    rw [gl]
    by_cases h16 : x = 16
    · rw [if_pos (x16.mpr h16), last_s hb h, Option.bind_some]
      have z16 : o32 z = 16 ↔ z = 16 := o_eq (b := 16) (by omega) (by omega)
      by_cases hz16 : z = 16
      · rw [if_pos (z16.mpr hz16), if_pos ⟨h16, by rw [hz16]⟩]
        exact ⟨m, rfl, h, fun c j _ => rfl⟩
      · rw [if_neg (fun w => hz16 (z16.mp w)), if_neg (fun w => hz16 (Option.some.inj w.2))]
        exact ⟨m', e, r, o⟩
    · rw [if_neg (fun w => h16 (x16.mp w)), if_neg (fun w => h16 w.1)]
      exact ⟨m', e, r, o⟩
def plI (w h : Nat) (r c : Int) : Nat := if 0 ≤ r ∧ r < h ∧ 0 ≤ c ∧ c < w then r.toNat * w + c.toNat else 16
noncomputable def plQ (w h j i y : Nat) : Bool := decide (fX9_placed (o32 w) (o32 h) (o32 j) (o32 i + 1) = o32 (plI w h j (i + 1))) && (decide (fX9_placed (o32 w) (o32 h) (o32 j + 1) (o32 y) = o32 (plI w h (j + 1) y)) && (decide (fX9_placed (o32 w) (o32 h) (o32 j + 1) (o32 y - 1) = o32 (plI w h (j + 1) (y - 1))) && (decide (fX9_placed (o32 w) (o32 h) (o32 j) (o32 i - 1) = o32 (plI w h j (i - 1))) && (decide (fX9_placed (o32 w) (o32 h) (o32 j - 1) (o32 y - 1) = o32 (plI w h (j - 1) (y - 1))) && decide (fX9_placed (o32 w) (o32 h) (o32 j - 1) (o32 y) = o32 (plI w h (j - 1) y))))))
def plL (w h j i y : Nat) : List Nat := [plI w h j (i + 1), plI w h (j + 1) y, plI w h (j + 1) (y - 1), plI w h j (i - 1), plI w h (j - 1) (y - 1), plI w h (j - 1) y]
def pl5 (f : Nat → Nat → Nat → Nat → Nat → Bool) : Bool := (List.range 5).all fun w => (List.range 5).all fun h => (List.range 4).all fun j => (List.range 4).all fun i => (List.range 5).all fun y => f w h j i y
theorem pl5_of {f : Nat → Nat → Nat → Nat → Nat → Bool} (e : pl5 f = true) {w h j i y : Nat} (hw : w < 5) (hh : h < 5) (hj : j < 4) (hi : i < 4) (hy : y < 5) : f w h j i y = true := by
  have m : ∀ {n k : Nat} {p : Nat → Bool}, (List.range n).all p = true → k < n → p k = true := fun e h => List.all_eq_true.mp e _ (List.mem_range.mpr h)
  exact m (m (m (m (m e hw) hh) hj) hi) hy
theorem pl_ok : pl5 plQ = true := by decide +kernel
theorem pl_le : pl5 (fun w h j i y => (plL w h j i y).all (fun x => decide (x ≤ 16))) = true := by decide +kernel
theorem pl_all {w h j i y : Nat} (hw : w < 5) (hh : h < 5) (hj : j < 4) (hi : i < 4) (hy : y < 5) : fX9_placed (o32 w) (o32 h) (o32 j) (o32 i + 1) = o32 (plI w h j (i + 1)) ∧ fX9_placed (o32 w) (o32 h) (o32 j + 1) (o32 y) = o32 (plI w h (j + 1) y) ∧ fX9_placed (o32 w) (o32 h) (o32 j + 1) (o32 y - 1) = o32 (plI w h (j + 1) (y - 1)) ∧ fX9_placed (o32 w) (o32 h) (o32 j) (o32 i - 1) = o32 (plI w h j (i - 1)) ∧ fX9_placed (o32 w) (o32 h) (o32 j - 1) (o32 y - 1) = o32 (plI w h (j - 1) (y - 1)) ∧ fX9_placed (o32 w) (o32 h) (o32 j - 1) (o32 y) = o32 (plI w h (j - 1) y) := by
  have e := pl5_of pl_ok hw hh hj hi hy
  unfold plQ at e
  simp only [Bool.and_eq_true, decide_eq_true_eq] at e
  exact e
theorem pl_l {w h j i y : Nat} (hw : w < 5) (hh : h < 5) (hj : j < 4) (hi : i < 4) (hy : y < 5) : ∀ x ∈ plL w h j i y, x ≤ 16 := fun x hx => by
  have e := List.all_eq_true.mp (pl5_of pl_le hw hh hj hi hy) x hx
  exact of_decide_eq_true e
def trimR (l : List Nat) : List Nat := if 1 < l.length ∧ l.head? = some 16 ∧ l.getLast? = some 16 then l.dropLast else l
def ring6 (w h j i y : Nat) : List Nat := pushR (pushR (pushR (pushR (pushR (pushR [] (plI w h j (i + 1))) (plI w h (j + 1) y)) (plI w h (j + 1) (y - 1))) (plI w h j (i - 1))) (plI w h (j - 1) (y - 1))) (plI w h (j - 1) y)
theorem pushR_len (l : List Nat) (x : Nat) : (pushR l x).length ≤ l.length + 1 := by
  unfold pushR
  split
  · omega
  · simp
theorem trim_s {m : Mem} {b : Nat} {l : List Nat} {i : Int32} (hb : b < 16) (h : rgAt m b l) : ∃ m', ((fX9_sidesOf (o32 b) m).bind fun q20 => (if q20 ≤ 1 then (some (.inl (i, m)) : Option ((Int32 × Mem) ⊕ ((Int32 × Mem) ⊕ (Int32 × Mem)))) else (fX9_of (o32 b) 6 m).bind fun q21 => (if q21 = 16 then (fX9_of (o32 b) ((6 + q20) - 1) m).bind fun q22 => (if q22 = 16 then (fX9_tells (o32 b) 5 (q20 - 1) m).bind fun q23 => some (.inl (i, q23)) else some (.inl (i, m))) else some (.inl (i, m))))) = some (.inl (i, m')) ∧ rgAt m' b (trimR l) ∧ offR m m' b := by
  have hl := h.1
  have t5 : ∀ v m, fX9_tells (o32 b) 5 v m = some (mput m 138 (12 + 50 * b + 5) v) := fun v m => tl_o (f := 5) hb (by omega)
  rw [sd_o hb, h.2.1, Option.bind_some]
  unfold trimR
  have le1 : o32 l.length ≤ 1 ↔ l.length ≤ 1 := o_le (b := 1) (by omega) (by omega)
  have eq16 : ∀ z, z ≤ 16 → (o32 z = 16 ↔ z = 16) := fun z hz => o_eq (b := 16) (by omega) (by omega)
  by_cases h1 : l.length ≤ 1
  · rw [if_pos (le1.mpr h1), if_neg (by omega)]
    exact ⟨m, rfl, h, fun c j _ => rfl⟩
  · rw [if_neg (fun w => h1 (le1.mp w))]
    have e0 : fX9_of (o32 b) 6 m = some (o32 (l[0]'(by omega))) := by
      have := rg_o (b := b) (i := 0) (m := m) hb (by omega)
      rw [h.2.2.2 0 (by omega)] at this
      exact this
    rw [e0, Option.bind_some]
    have f0 : l.head? = some (l[0]'(by omega)) := by rw [List.head?_eq_getElem?]; exact List.getElem?_eq_getElem _
    have b0 : l[0]'(by omega) ≤ 16 := h.2.2.1 _ (List.getElem_mem _)
    rw [f0]
    by_cases g0 : l[0]'(by omega) = 16
    · rw [if_pos ((eq16 _ b0).mpr g0)]
      rcases ends l with rfl | ⟨A, z, rfl⟩
      · simp at h1
      · have hz : z ≤ 16 := h.2.2.1 z (by simp)
        rw [last_s hb h, Option.bind_some]
        have gl : (A ++ [z]).getLast? = some z := by simp
        rw [gl]
        by_cases g1 : z = 16
        · rw [if_pos ((eq16 _ hz).mpr g1), if_pos ⟨by omega, by rw [g0], by rw [g1]⟩, t5, Option.bind_some]
          refine ⟨_, rfl, ?_, fun c j hn => by rw [mput_get, if_neg (fun w => hn ⟨w.1, by omega, by omega⟩)]⟩
          rw [List.dropLast_concat]
          have hl' := hl
          rw [List.length_append] at hl'
          have hz1 : [z].length = 1 := rfl
          refine ⟨by omega, ?_, fun y hy => h.2.2.1 y (by simp [hy]), fun k hk => ?_⟩
          · rw [mput_get, if_pos ⟨rfl, rfl⟩, List.length_append, hz1]
            exact (o_sub (b := 1) (by omega) (by omega))
          · rw [mput_get, if_neg (by omega), h.2.2.2 k (by simp; omega), List.getElem_append_left hk]
        · rw [if_neg (fun w => g1 ((eq16 _ hz).mp w)), if_neg (fun w => g1 (Option.some.inj w.2.2))]
          exact ⟨m, rfl, h, fun c j _ => rfl⟩
    · rw [if_neg (fun w => g0 ((eq16 _ b0).mp w)), if_neg (fun w => g0 (Option.some.inj w.2.1))]
      exact ⟨m, rfl, h, fun c j _ => rfl⟩
