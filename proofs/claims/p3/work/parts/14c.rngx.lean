theorem f2_cons {α β : Type} {R : α → β → Prop} {a : α} {as : List α} {bs : List β} (h : jF2 R (a :: as) bs) : ∃ b bs', bs = b :: bs' ∧ R a b ∧ jF2 R as bs' := by
  cases bs with
  | nil => cases h
  | cons b bs => exact ⟨b, bs, rfl, h.1, h.2⟩
theorem f2_nil {α β : Type} {R : α → β → Prop} {bs : List β} (h : jF2 R ([] : List α) bs) : bs = [] := by
  cases bs with
  | nil => rfl
  | cons b bs => cases h
theorem gV_int {X : aI} {v : Value} (h : gV (.inl X) v) : ∃ x, v = .int x ∧ gI X x := by
  cases v <;> first | exact ⟨_, rfl, h⟩ | cases h
theorem gV_long {v : Value} (h : gV (.inr none) v) : ∃ x, v = .long x := by
  cases v <;> first | exact ⟨_, rfl⟩ | cases h
theorem gV_ex {w v : Value} (h : gV (.inr (some w)) v) : v = w := h.2
theorem gE_obj {o : Nat × List aV} {e : jE} (h : gE (.inl o) e) : ∃ p, e = .inl p ∧ o.1 = p.1 ∧ jF2 gV o.2 p.2 := by
  match e, h with
  | .inl p, h => exact ⟨p, rfl, h⟩
theorem gE_int {o : Nat × List aI} {e : jE} (h : gE (.inr (.inl o)) e) : ∃ p, e = .inr (.inl p) ∧ o.1 = p.1 ∧ jF2 gI o.2 p.2 := by
  match e, h with
  | .inr (.inl p), h => exact ⟨p, rfl, h⟩
theorem gmk {j : jO} {A : aC} {c : jC} (h1 : j = some (.inl c)) (h2 : gC A c) : ∃ o', j = some o' ∧ gO (.inl A) o' := ⟨.inl c, h1, h2⟩
section GX
variable {i t : Nat} {a : List (Nat × aV)} {L : List (Nat × Value)} {sa : List aV} {st : List Value} {ha : List aE} {h : List jE} {o : aC ⊕ aR}
theorem gx_loadI (hL : jF2 gL a L) (hs : jF2 gV sa st) (hh : jF2 gE ha h) (he : aloadI a i t sa ha = some o) : ∃ o', jloadI L i t st h = some o' ∧ gO o o' := by
  unfold aloadI at he
  split at he
  · rename_i x hx
    obtain ⟨v, h1, h2⟩ := g_get hL hx
    obtain ⟨y, rfl, hy⟩ := gV_int h2
    cases he
    exact gmk (c := (t, L, .int y :: st, h)) (by unfold jloadI; rw [h1]; rfl) ⟨rfl, hL, ⟨hy, hs⟩, hh⟩
  · cases he
theorem gx_loadL (hL : jF2 gL a L) (hs : jF2 gV sa st) (hh : jF2 gE ha h) (he : aloadL a i t sa ha = some o) : ∃ o', jloadL L i t st h = some o' ∧ gO o o' := by
  unfold aloadL at he
  split at he
  · rename_i hx
    obtain ⟨v, h1, h2⟩ := g_get hL hx
    obtain ⟨y, rfl⟩ := gV_long h2
    cases he
    exact gmk (c := (t, L, .long y :: st, h)) (by unfold jloadL; rw [h1]; rfl) ⟨rfl, hL, ⟨trivial, hs⟩, hh⟩
  · cases he
theorem gx_loadA (hL : jF2 gL a L) (hs : jF2 gV sa st) (hh : jF2 gE ha h) (he : aloadA a i t sa ha = some o) : ∃ o', jloadA L i t st h = some o' ∧ gO o o' := by
  unfold aloadA at he
  split at he
  · rename_i x hx
    obtain ⟨v, h1, h2⟩ := g_get hL hx
    cases gV_ex h2
    cases he
    exact gmk (c := (t, L, .ref x :: st, h)) (by unfold jloadA; rw [h1]; rfl) ⟨rfl, hL, ⟨g_ref x, hs⟩, hh⟩
  · cases he
theorem gx_storeI {nL : Nat} (hL : jF2 gL a L) (hs : jF2 gV sa st) (hh : jF2 gE ha h) (he : astoreI nL a i t sa ha = some o) : ∃ o', jstoreI nL L i t st h = some o' ∧ gO o o' := by
  unfold astoreI at he
  split at he
  · obtain ⟨v, r, rfl, h1, h2⟩ := f2_cons hs
    obtain ⟨y, rfl, hy⟩ := gV_int h1
    cases hn : Nat.blt i nL with
    | false => rw [hn] at he; cases he
    | true =>
      rw [hn] at he
      cases he
      exact gmk (c := (t, jput L i (.int y), r, h)) (by unfold jstoreI; rw [hn]; rfl) ⟨rfl, g_put hL hy, h2, hh⟩
  · cases he
theorem gx_storeA {nL : Nat} (hL : jF2 gL a L) (hs : jF2 gV sa st) (hh : jF2 gE ha h) (he : astoreA nL a i t sa ha = some o) : ∃ o', jstoreA nL L i t st h = some o' ∧ gO o o' := by
  unfold astoreA at he
  split at he
  · rename_i x r9
    obtain ⟨v, r, rfl, h1, h2⟩ := f2_cons hs
    cases gV_ex h1
    cases hn : Nat.blt i nL with
    | false => rw [hn] at he; cases he
    | true =>
      rw [hn] at he
      cases he
      exact gmk (c := (t, jput L i (.ref x), r, h)) (by unfold jstoreA; rw [hn]; rfl) ⟨rfl, g_put hL (g_ref x), h2, hh⟩
  · cases he
theorem gx_storeL {nL : Nat} (hL : jF2 gL a L) (hs : jF2 gV sa st) (hh : jF2 gE ha h) (he : astoreL nL a i t sa ha = some o) : ∃ o', jstoreL nL L i t st h = some o' ∧ gO o o' := by
  unfold astoreL at he
  split at he
  · obtain ⟨v, r, rfl, h1, h2⟩ := f2_cons hs
    obtain ⟨y, rfl⟩ := gV_long h1
    cases hn : Nat.blt (i + 1) nL with
    | false => rw [hn] at he; cases he
    | true =>
      rw [hn] at he
      cases he
      exact gmk (c := (t, jput2 L i (.long y), r, h)) (by unfold jstoreL; rw [hn]; rfl) ⟨rfl, g_put2 hL (X := .inr none) (v := .long y) trivial, h2, hh⟩
  · cases he
theorem gx_bin {f : aI → aI → aI} {g : Int32 → Int32 → Int32} (hfg : ∀ {X Y : aI} {x y : Int32}, gI X x → gI Y y → gI (f X Y) (g x y)) (hL : jF2 gL a L) (hs : jF2 gV sa st) (hh : jF2 gE ha h) (he : abin f t a sa ha = some o) : ∃ o', jop2 g t L st h = some o' ∧ gO o o' := by
  unfold abin at he
  split at he
  · obtain ⟨v, r, rfl, h1, h2⟩ := f2_cons hs
    obtain ⟨v2, r, rfl, h3, h4⟩ := f2_cons h2
    obtain ⟨y, rfl, hy⟩ := gV_int h1
    obtain ⟨x, rfl, hx⟩ := gV_int h3
    cases he
    exact ⟨_, rfl, rfl, hL, ⟨hfg hx hy, h4⟩, hh⟩
  · cases he
theorem gx_un {f : aI → aI} {g : Int32 → Int32} (hfg : ∀ {X : aI} {x : Int32}, gI X x → gI (f X) (g x)) (hL : jF2 gL a L) (hs : jF2 gV sa st) (hh : jF2 gE ha h) (he : aun f t a sa ha = some o) : ∃ o', jop1 g t L st h = some o' ∧ gO o o' := by
  unfold aun at he
  split at he
  · obtain ⟨v, r, rfl, h1, h2⟩ := f2_cons hs
    obtain ⟨y, rfl, hy⟩ := gV_int h1
    cases he
    exact ⟨_, rfl, rfl, hL, ⟨hfg hy, h2⟩, hh⟩
  · cases he
theorem gx_binL {g : Int64 → Int64 → Int64} (hL : jF2 gL a L) (hs : jF2 gV sa st) (hh : jF2 gE ha h) (he : abinL t a sa ha = some o) : ∃ o', jop2L g t L st h = some o' ∧ gO o o' := by
  unfold abinL at he
  split at he
  · obtain ⟨v, r, rfl, h1, h2⟩ := f2_cons hs
    obtain ⟨v2, r, rfl, h3, h4⟩ := f2_cons h2
    obtain ⟨y, rfl⟩ := gV_long h1
    obtain ⟨x, rfl⟩ := gV_long h3
    cases he
    exact ⟨_, rfl, rfl, hL, ⟨trivial, h4⟩, hh⟩
  · cases he
theorem gx_shL {g : Int64 → Int32 → Int64} (hL : jF2 gL a L) (hs : jF2 gV sa st) (hh : jF2 gE ha h) (he : ashL t a sa ha = some o) : ∃ o', jshL g t L st h = some o' ∧ gO o o' := by
  unfold ashL at he
  split at he
  · obtain ⟨v, r, rfl, h1, h2⟩ := f2_cons hs
    obtain ⟨v2, r, rfl, h3, h4⟩ := f2_cons h2
    obtain ⟨y, rfl, -⟩ := gV_int h1
    obtain ⟨x, rfl⟩ := gV_long h3
    cases he
    exact ⟨_, rfl, rfl, hL, ⟨trivial, h4⟩, hh⟩
  · cases he
theorem g_ints {acs : Nat → Option (List aI)} {cs : Nat → Option (List Int32)} (hcs : ∀ (k : Nat) (l : List aI), acs k = some l → ∃ l2, cs k = some l2 ∧ jF2 gI l l2) (hh : jF2 gE ha h) {l : List aI} (he : aints acs ha i = some l) : ∃ l2, jints cs h i = some l2 ∧ jF2 gI l l2 := by
  unfold aints at he
  unfold jints
  cases hb : Nat.blt i jK0 with
  | false =>
    rw [hb, cond_false] at he
    exact hcs _ _ he
  | true =>
    rw [hb, cond_true] at he
    rw [cond_true]
    split at he
    · rename_i z hz
      obtain ⟨e, h1, h2⟩ := f2_get hh hz
      obtain ⟨p, rfl, h3, h4⟩ := gE_int h2
      cases hc : (z.1 == 0) with
      | false => rw [hc] at he; cases he
      | true =>
        rw [hc] at he
        cases he
        rw [h1]
        refine ⟨p.2, ?_, h4⟩
        show (bif p.1 == 0 then some p.2 else none) = some p.2
        rw [← h3, hc]
        rfl
    · cases he
theorem gx_iald {acs : Nat → Option (List aI)} {cs : Nat → Option (List Int32)} (hcs : ∀ (k : Nat) (l : List aI), acs k = some l → ∃ l2, cs k = some l2 ∧ jF2 gI l l2) (hL : jF2 gL a L) (hs : jF2 gV sa st) (hh : jF2 gE ha h) (he : aiald acs t a sa ha = some o) : ∃ o', jiald cs t L st h = some o' ∧ gO o o' := by
  unfold aiald at he
  split at he
  · obtain ⟨v, r, rfl, h1, h2⟩ := f2_cons hs
    obtain ⟨v2, r, rfl, h3, h4⟩ := f2_cons h2
    obtain ⟨y, rfl, hy⟩ := gV_int h1
    cases gV_ex h3
    split at he
    · rename_i k hk
      obtain ⟨k1, k2, -⟩ := g_ix hy hk
      split at he
      · rename_i l hl
        obtain ⟨l2, hl2, hf⟩ := g_ints hcs hh hl
        split at he
        · rename_i x hx
          obtain ⟨z, z1, z2⟩ := f2_get hf hx
          cases he
          refine gmk (c := (t, L, .int z :: r, h)) ?_ ⟨rfl, hL, ⟨z2, h4⟩, hh⟩
          unfold jiald
          simp only [hl2, jat, k2, z1, if_neg k1]
          rfl
        · cases he
      · cases he
    · cases he
  · cases he
theorem gx_alen {acs : Nat → Option (List aI)} {cs : Nat → Option (List Int32)} (hcs : ∀ (k : Nat) (l : List aI), acs k = some l → ∃ l2, cs k = some l2 ∧ jF2 gI l l2) (hL : jF2 gL a L) (hs : jF2 gV sa st) (hh : jF2 gE ha h) (he : aalen acs t a sa ha = some o) : ∃ o', jalen cs t L st h = some o' ∧ gO o o' := by
  unfold aalen at he
  split at he
  · obtain ⟨v, r, rfl, h1, h2⟩ := f2_cons hs
    cases gV_ex h1
    split at he
    · rename_i l hl
      obtain ⟨l2, hl2, hf⟩ := g_ints hcs hh hl
      cases he
      refine ⟨.inl (t, L, .int (Int32.ofNat l2.length) :: r, h), ?_, rfl, hL, ⟨?_, h2⟩, hh⟩
      · unfold jalen
        simp only [hl2]
        rfl
      · rw [← f2_len hf]
        exact gI_K _
    · cases he
  · cases he
theorem gx_iast (hL : jF2 gL a L) (hs : jF2 gV sa st) (hh : jF2 gE ha h) (he : aiast t a sa ha = some o) : ∃ o', jiast t L st h = some o' ∧ gO o o' := by
  unfold aiast at he
  split at he
  · obtain ⟨v, r, rfl, h1, h2⟩ := f2_cons hs
    obtain ⟨v2, r, rfl, h3, h4⟩ := f2_cons h2
    obtain ⟨v3, r, rfl, h5, h6⟩ := f2_cons h4
    obtain ⟨x, rfl, hx⟩ := gV_int h1
    obtain ⟨y, rfl, hy⟩ := gV_int h3
    cases gV_ex h5
    split at he
    · rename_i k hk
      obtain ⟨k1, k2, -⟩ := g_ix hy hk
      split at he
      · rename_i z hz
        obtain ⟨e, e1, e2⟩ := f2_get hh hz
        obtain ⟨p, rfl, e3, e4⟩ := gE_int e2
        rw [Bool.cond_eq_ite] at he
        split at he
        · rename_i hc
          rw [Bool.and_eq_true] at hc
          cases he
          refine gmk (c := (t, L, r, h.set _ (.inr (.inl (0, p.2.set k x))))) ?_ ⟨rfl, hL, h6, f2_set hh (a := .inr (.inl (0, z.2.set k _))) (b := .inr (.inl (0, p.2.set k x))) ⟨rfl, f2_set e4 hx⟩⟩
          unfold jiast
          simp only [e1]
          rw [if_pos ⟨by rw [← e3]; exact eq_of_beq hc.1, k1, by rw [k2, ← f2_len e4]; exact Nat.le_of_ble_eq_true hc.2⟩, k2]
          rfl
        · cases he
      · cases he
    · cases he
  · cases he
theorem gx_aald (hL : jF2 gL a L) (hs : jF2 gV sa st) (hh : jF2 gE ha h) (he : aaald t a sa ha = some o) : ∃ o', jaald t L st h = some o' ∧ gO o o' := by
  unfold aaald at he
  split at he
  · obtain ⟨v, r, rfl, h1, h2⟩ := f2_cons hs
    obtain ⟨v2, r, rfl, h3, h4⟩ := f2_cons h2
    obtain ⟨y, rfl, hy⟩ := gV_int h1
    cases gV_ex h3
    split at he
    · rename_i k hk
      obtain ⟨k1, k2, -⟩ := g_ix hy hk
      split at he
      · rename_i z hz
        obtain ⟨e, e1, e2⟩ := f2_get hh hz
        have e2 : e = .inr (.inr z) := e2
        subst e2
        rw [Bool.cond_eq_ite] at he
        split at he
        · rename_i hc
          rw [Bool.or_eq_true, Bool.or_eq_true, beq_iff_eq, beq_iff_eq, beq_iff_eq] at hc
          split at he
          · rename_i q hq
            cases he
            refine gmk (c := (t, L, .ref q :: r, h)) ?_ ⟨rfl, hL, ⟨g_ref q, h4⟩, hh⟩
            unfold jaald
            simp only [e1]
            rw [if_neg (fun w => w.elim k1 (fun w => w hc)), k2]
            simp only [hq]
            rfl
          · cases he
        · cases he
      · cases he
    · cases he
  · cases he
theorem g_may (hh : jF2 gE ha h) {k q : Nat} (he : amay ha k q = true) : jmay h k q = true := by
  unfold amay at he
  unfold jmay
  cases e3 : ((k : Nat) == 3) with
  | true => rw [e3] at he; exact he
  | false =>
    rw [e3, cond_false] at he
    rw [cond_false]
    cases e2 : ((k : Nat) == 2) with
    | false => rw [e2] at he; cases he
    | true =>
      rw [e2, cond_true] at he
      rw [cond_true]
      split at he
      · rename_i z hz
        obtain ⟨e, e1, e4⟩ := f2_get hh hz
        obtain ⟨p, rfl, e5, -⟩ := gE_obj e4
        rw [e1]
        show (p.1 == 4) = true
        rw [← e5]
        exact he
      · cases he
theorem gx_aast (hL : jF2 gL a L) (hs : jF2 gV sa st) (hh : jF2 gE ha h) (he : aaast t a sa ha = some o) : ∃ o', jaast t L st h = some o' ∧ gO o o' := by
  unfold aaast at he
  split at he
  · obtain ⟨v, r, rfl, h1, h2⟩ := f2_cons hs
    obtain ⟨v2, r, rfl, h3, h4⟩ := f2_cons h2
    obtain ⟨v3, r, rfl, h5, h6⟩ := f2_cons h4
    obtain ⟨y, rfl, hy⟩ := gV_int h3
    cases gV_ex h5
    cases gV_ex h1
    split at he
    · rename_i k hk
      obtain ⟨k1, k2, -⟩ := g_ix hy hk
      split at he
      · rename_i z hz
        obtain ⟨e, e1, e2⟩ := f2_get hh hz
        have e2 : e = .inr (.inr z) := e2
        subst e2
        rw [Bool.cond_eq_ite] at he
        split at he
        · rename_i hc
          rw [Bool.and_eq_true] at hc
          cases he
          refine gmk (c := (t, L, r, h.set _ (.inr (.inr (z.1, z.2.set k (some _)))))) ?_ ⟨rfl, hL, h6, f2_set hh (a := .inr (.inr (z.1, z.2.set k (some _)))) (b := .inr (.inr (z.1, z.2.set k (some _)))) rfl⟩
          unfold jaast
          simp only [e1]
          rw [if_pos ⟨g_may hh hc.1, k1, by rw [k2]; exact Nat.le_of_ble_eq_true hc.2⟩, k2]
          rfl
        · cases he
      · cases he
    · cases he
  · cases he
theorem gx_getf {ci k : Nat} (hL : jF2 gL a L) (hs : jF2 gV sa st) (hh : jF2 gE ha h) (he : agetf ci k t a sa ha = some o) : ∃ o', jgetf ci k t L st h = some o' ∧ gO o o' := by
  unfold agetf at he
  split at he
  · obtain ⟨v, r, rfl, h1, h2⟩ := f2_cons hs
    cases gV_ex h1
    split at he
    · rename_i z hz
      obtain ⟨e, e1, e2⟩ := f2_get hh hz
      obtain ⟨p, rfl, e5, e6⟩ := gE_obj e2
      cases hc : (z.1 == ci) with
      | false => rw [hc] at he; cases he
      | true =>
        rw [hc, cond_true] at he
        split at he
        · rename_i X hX
          obtain ⟨v, v1, v2⟩ := f2_get e6 hX
          cases he
          refine gmk (c := (t, L, v :: r, h)) ?_ ⟨rfl, hL, ⟨v2, h2⟩, hh⟩
          unfold jgetf
          simp only [e1]
          rw [show (p.1 == ci) = true by rw [← e5]; exact hc, cond_true, v1]
          rfl
        · cases he
    · cases he
  · cases he
theorem g_fit {ty : Nat} {X : aV} {v : Value} (hv : gV X v) (he : afit ty X = true) : jfit ty v = true := by
  match X, v, hv, he with
  | .inl X, .int x, hv, he =>
    have he : (ty == 0 || (ty == 1 && (decide (0 ≤ X.1) && decide (X.2 ≤ 1)))) = true := he
    show (ty == 0 || (ty == 1 && decide (x = 0 ∨ x = 1))) = true
    rw [Bool.or_eq_true] at he ⊢
    rcases he with he | he
    · exact Or.inl he
    · right
      rw [Bool.and_eq_true, Bool.and_eq_true, decide_eq_true_eq, decide_eq_true_eq] at he
      rw [Bool.and_eq_true, decide_eq_true_eq]
      refine ⟨he.1, ?_⟩
      obtain ⟨h1, h2⟩ := hv
      have h3 : x.toInt = 0 ∨ x.toInt = 1 := by omega
      rcases h3 with h3 | h3
      · left
        exact Int32.toInt_inj.mp (by rw [h3]; rfl)
      · right
        exact Int32.toInt_inj.mp (by rw [h3]; rfl)
  | .inr (some (.ref i)), v, hv, he =>
    cases gV_ex hv
    exact he
theorem gx_putf {ci k ty : Nat} (hL : jF2 gL a L) (hs : jF2 gV sa st) (hh : jF2 gE ha h) (he : aputf ci k ty t a sa ha = some o) : ∃ o', jputf ci k ty t L st h = some o' ∧ gO o o' := by
  unfold aputf at he
  split at he
  · obtain ⟨v, r, rfl, h1, h2⟩ := f2_cons hs
    obtain ⟨v2, r, rfl, h3, h4⟩ := f2_cons h2
    cases gV_ex h3
    split at he
    · rename_i z hz
      obtain ⟨e, e1, e2⟩ := f2_get hh hz
      obtain ⟨p, rfl, e5, e6⟩ := gE_obj e2
      rw [Bool.cond_eq_ite] at he
      split at he
      · rename_i hc
        rw [Bool.and_eq_true, Bool.and_eq_true] at hc
        cases he
        refine gmk (c := (t, L, r, h.set _ (.inl (ci, p.2.set k v)))) ?_ ⟨rfl, hL, h4, f2_set hh (a := .inl (ci, z.2.set k _)) (b := .inl (ci, p.2.set k v)) ⟨rfl, f2_set e6 h1⟩⟩
        unfold jputf
        simp only [e1]
        rw [show (p.1 == ci && (Nat.blt k p.2.length && jfit ty v)) = true by rw [← e5, ← f2_len e6, hc.1, hc.2.1, g_fit h1 hc.2.2]; rfl, cond_true]
        rfl
      · cases he
    · cases he
  · cases he
end GX
