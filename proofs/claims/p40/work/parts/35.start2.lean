/-! THE TWO MEMORIES IN ONE HEAP, AND THE START -/
noncomputable def shCd (c : Nat) : Shp := (shC c).getD (.inr (.inl 0))
noncomputable def shRd (c : Nat) : Shp := (shR c).getD (.inr (.inl 0))
noncomputable def HC (m : Mem) : List jE := (List.range 137).map (fun c => cel m c (shCd c))
noncomputable def HR (m : Mem) : List jE := (List.range 18).map (fun c => cel m (137 + c) (shRd (137 + c)))
noncomputable def HP (p : Mem × Mem) : List jE := HC p.1 ++ HR p.2
theorem HC_len (m : Mem) : (HC m).length = 137 := by unfold HC; rw [List.length_map, List.length_range]
theorem HR_len (m : Mem) : (HR m).length = 18 := by unfold HR; rw [List.length_map, List.length_range]
theorem HP_len (p : Mem × Mem) : (HP p).length = 155 := by unfold HP; rw [List.length_append, HC_len, HR_len]
theorem HC_get (m : Mem) {c : Nat} (h : c < 137) : (HC m)[c]? = some (cel m c (shCd c)) := by
  unfold HC
  rw [List.getElem?_map, List.getElem?_range h]
  rfl
theorem HR_get (m : Mem) {c : Nat} (h : c < 18) : (HR m)[c]? = some (cel m (137 + c) (shRd (137 + c))) := by
  unfold HR
  rw [List.getElem?_map, List.getElem?_range h]
  rfl
theorem shC_lt {c : Nat} {s : Shp} (h : shC c = some s) : c < 137 := by
  unfold shC at h
  cases h0 : Nat.beq c 0 with
  | true => rw [Nat.eq_of_beq_eq_true h0]; decide
  | false =>
    rw [h0, cond_false] at h
    cases h1 : Nat.blt c 118 with
    | true => have := Nat.le_of_ble_eq_true h1; omega
    | false =>
      rw [h1, cond_false] at h
      cases h2 : Nat.blt c 137 with
      | true => exact Nat.le_of_ble_eq_true h2
      | false => rw [h2] at h; cases h
theorem shR_lt {c : Nat} {s : Shp} (h : shR c = some s) : ∃ k, c = 137 + k ∧ k < 18 := by
  unfold shR at h
  cases h0 : Nat.blt c 137 with
  | true => rw [h0] at h; cases h
  | false =>
    rw [h0, cond_false] at h
    cases h1 : Nat.blt c 155 with
    | true =>
      have a : c < 155 := Nat.le_of_ble_eq_true h1
      have b : ¬ c < 137 := fun z => by
        have : Nat.blt c 137 = true := Nat.ble_eq_true_of_le z
        rw [h0] at this
        cases this
      exact ⟨c - 137, by omega, by omega⟩
    | false => rw [h1] at h; cases h
theorem cel_congr {m m' : Mem} {c : Nat} (h : m' c = m c) (s : Shp) : cel m' c s = cel m c s := by
  match s with
  | .inl o =>
    show Sum.inl (o.1, fvl m' c 0 o.2) = Sum.inl (o.1, fvl m c 0 o.2)
    have key : ∀ (l : List Nat) (k : Nat), fvl m' c k l = fvl m c k l := by
      intro l
      induction l with
      | nil => intro k; rfl
      | cons f r ih =>
        intro k
        show fv m' c k f :: fvl m' c (k + 1) r = fv m c k f :: fvl m c (k + 1) r
        rw [ih]
        congr 1
        match f with
        | 0 => show Value.int (m' c k) = Value.int (m c k); rw [h]
        | 1 => show Value.ref (jK0 + (m' c k).toNatClampNeg) = Value.ref (jK0 + (m c k).toNatClampNeg); rw [h]
        | q + 2 => rfl
    rw [key]
  | .inr (.inl n) =>
    show Sum.inr (Sum.inl (0, (List.range n).map (m' c))) = Sum.inr (Sum.inl (0, (List.range n).map (m c)))
    rw [h]
  | .inr (.inr a) => rfl
theorem HC_set {m m' : Mem} {c : Nat} (hc : c < 137) (h : ∀ c', c' ≠ c → m' c' = m c') : HC m' = (HC m).set c (cel m' c (shCd c)) := by
  apply List.ext_getElem?
  intro i
  by_cases hi : i < 137
  · rw [HC_get m' hi]
    by_cases e : i = c
    · subst e
      rw [List.getElem?_set_self (by rw [HC_len]; exact hi)]
    · rw [List.getElem?_set_ne (fun z => e z.symm), HC_get m hi, cel_congr (h i e)]
  · rw [List.getElem?_eq_none (by rw [HC_len]; omega), List.getElem?_eq_none (by rw [List.length_set, HC_len]; omega)]
theorem HR_set {m m' : Mem} {c : Nat} (hc : c < 18) (h : ∀ c', c' ≠ 137 + c → m' c' = m c') : HR m' = (HR m).set c (cel m' (137 + c) (shRd (137 + c))) := by
  apply List.ext_getElem?
  intro i
  by_cases hi : i < 18
  · rw [HR_get m' hi]
    by_cases e : i = c
    · subst e
      rw [List.getElem?_set_self (by rw [HR_len]; exact hi)]
    · rw [List.getElem?_set_ne (fun z => e z.symm), HR_get m hi, cel_congr (h (137 + i) (by omega))]
  · rw [List.getElem?_eq_none (by rw [HR_len]; omega), List.getElem?_eq_none (by rw [List.length_set, HR_len]; omega)]
theorem HP_C (r : Mem) : Ctx shC (fun m => HP (m, r)) := by
  intro c s hs
  have hc := shC_lt hs
  have hd : shCd c = s := by unfold shCd; rw [hs]; rfl
  refine ⟨Nat.lt_of_lt_of_le hc (Nat.le_of_ble_eq_true rfl), fun m => ?_, fun m m' h => ?_⟩
  · show (HC m ++ HR r)[c]? = _
    rw [List.getElem?_append_left (by rw [HC_len]; exact hc), HC_get m hc, hd]
  · show HC m' ++ HR r = (HC m ++ HR r).set c _
    rw [List.set_append_left _ _ (by rw [HC_len]; exact hc), HC_set hc h, hd]
theorem HP_R (c0 : Mem) : Ctx shR (fun m => HP (c0, m)) := by
  intro c s hs
  obtain ⟨k, rfl, hk⟩ := shR_lt hs
  have hd : shRd (137 + k) = s := by unfold shRd; rw [hs]; rfl
  refine ⟨Nat.lt_of_lt_of_le (show 137 + k < 155 by omega) (Nat.le_of_ble_eq_true rfl), fun m => ?_, fun m m' h => ?_⟩
  · show (HC c0 ++ HR m)[137 + k]? = _
    rw [List.getElem?_append_right (by rw [HC_len]; omega), HC_len, Nat.add_sub_cancel_left, HR_get m hk, hd]
  · show HC c0 ++ HR m' = (HC c0 ++ HR m).set (137 + k) _
    rw [List.set_append_right _ _ (by rw [HC_len]; omega), HC_len, Nat.add_sub_cancel_left, HR_set hk h, hd]
theorem HP_2 : Ctx2 HP := ⟨HP_C, HP_R⟩
/-- the memories behind the constructors -/
noncomputable def m0 : Mem := fun c j => bif Nat.beq c 138 then (match j with | 3 => 1 | 4 => 10 | 5 => 5 | 6 => 12 | _ => 0) else bif Nat.beq c 118 then (match j with | 5 => 10 | _ => 0) else bif Nat.beq c 1 || (Nat.beq c 40 || Nat.beq c 79) then (match j with | 6 => 10 | 7 => 5 | 8 => 12 | 9 => 1 | _ => 0) else 0
noncomputable def aex : jE → aE
  | .inl o => .inl (o.1, o.2.map aof)
  | .inr (.inl a) => .inr (.inl (a.1, a.2.map (fun x => aK x.toInt)))
  | .inr (.inr a) => .inr (.inr a)
noncomputable def jxv (v : Value) : Bool := match v with | .int _ => true | .ref _ => true | .null => true | _ => false
theorem gV_x {v w : Value} (h : gV (aof v) w) (hv : jxv v = true) : w = v := by
  cases v with
  | int x =>
    cases w with
    | int y =>
      have h : gI (aK x.toInt) y := h
      have a : x.toInt ≤ y.toInt := h.1
      have b : y.toInt ≤ x.toInt := h.2
      rw [Int32.toInt_inj.mp (Int.le_antisymm b a)]
    | _ => exact absurd h (by intro z; exact z)
  | ref i => exact h.2
  | null => exact h.2
  | _ => cases hv
noncomputable def jxe (e : jE) : Bool := match e with
  | .inl o => o.2.all jxv
  | _ => true
theorem f2_x : ∀ (l l' : List Value), jF2 gV (l.map aof) l' → l.all jxv = true → l' = l
  | [], [], _, _ => rfl
  | v :: l, w :: l', h, hv => by
    rw [List.all_cons, Bool.and_eq_true] at hv
    rw [gV_x h.1 hv.1, f2_x l l' h.2 hv.2]
  | [], w :: l', h, _ => by cases h
  | v :: l, [], h, _ => by cases h
theorem f2_xi : ∀ (l l' : List Int32), jF2 gI (l.map (fun x => aK x.toInt)) l' → l' = l
  | [], [], _ => rfl
  | x :: l, y :: l', h => by
    have a : x.toInt ≤ y.toInt := h.1.1
    have b : y.toInt ≤ x.toInt := h.1.2
    rw [Int32.toInt_inj.mp (Int.le_antisymm b a), f2_xi l l' h.2]
  | [], w :: l', h => by cases h
  | v :: l, [], h => by cases h
theorem gE_x {e e' : jE} (h : gE (aex e) e') (hx : jxe e = true) : e' = e := by
  match e, e', h with
  | .inl o, .inl p, h =>
    obtain ⟨h1, h2⟩ := h
    have h1 : o.1 = p.1 := h1
    have := f2_x o.2 p.2 h2 hx
    obtain ⟨p1, p2⟩ := p
    obtain ⟨o1, o2⟩ := o
    have h1 : o1 = p1 := h1
    have this : p2 = o2 := this
    rw [h1, this]
  | .inr (.inl o), .inr (.inl p), h =>
    obtain ⟨h1, h2⟩ := h
    have h1 : o.1 = p.1 := h1
    have := f2_xi o.2 p.2 h2
    obtain ⟨p1, p2⟩ := p
    obtain ⟨o1, o2⟩ := o
    have h1 : o1 = p1 := h1
    have this : p2 = o2 := this
    rw [h1, this]
  | .inr (.inr o), e', h => exact h
  | .inl o, .inr _, h => exact absurd h (by intro z; exact z)
  | .inr (.inl o), .inl p, h => exact absurd h (by intro z; exact z)
  | .inr (.inl o), .inr (.inr p), h => exact absurd h (by intro z; exact z)
theorem f2_xe : ∀ (l l' : List jE), jF2 gE (l.map aex) l' → l.all jxe = true → l' = l
  | [], [], _, _ => rfl
  | v :: l, w :: l', h, hv => by
    rw [List.all_cons, Bool.and_eq_true] at hv
    rw [gE_x h.1 hv.1, f2_xe l l' h.2 hv.2]
  | [], w :: l', h, _ => by cases h
  | v :: l, [], h, _ => by cases h
noncomputable def axsN (k : Nat) : Option (List aI) := bif Nat.blt k 5 then axs [] k else none
theorem g_axsN {xs : List Int32} (k : Nat) (l : List aI) (h : axsN k = some l) : ∃ l2, jcs xs k = some l2 ∧ jF2 gI l l2 := by
  unfold axsN at h
  cases hk : Nat.blt k 5 with
  | true =>
    rw [hk, cond_true] at h
    have h20 : (k == 20) = false := by
      cases hb : (k == 20) with
      | false => rfl
      | true =>
        rw [eq_of_beq hb] at hk
        cases hk
    unfold axs at h
    rw [hk, cond_true] at h
    unfold jcs
    rw [hk, cond_true]
    cases hq : jst[k]? with
    | none => rw [hq] at h; cases h
    | some q => rw [hq] at h; cases h; exact ⟨_, rfl, f2_exact _⟩
  | false => rw [hk] at h; cases h
noncomputable def aE_d1 : DecidableEq (Nat × List aV) := inferInstance
noncomputable def aE_d2 : DecidableEq ((Nat × List aI) ⊕ (Nat × List (Option Nat))) := inferInstance
noncomputable def aE_d : DecidableEq aE := @instDecidableEqSum _ _ aE_d1 aE_d2
noncomputable def aR_dd : DecidableEq aR := @instDecidableEqProd _ _ inferInstance (@instDecidableEqList _ aE_d)
noncomputable def aRO_d : DecidableEq (Option aR) := by
  letI h : DecidableEq aR := aR_dd
  exact inferInstance
set_option maxRecDepth 100000 in
theorem a_c1 : acall jmt axsN 2000 300 101 [aref 0] ([.inl (7, jdf 7)].map aex) = some (none, (HC m0).map aex) := @of_decide_eq_true _ (aRO_d _ _) (by decide +kernel)
set_option maxRecDepth 100000 in
theorem a_c2 : acall jmt axsN 2000 300 146 [aref 137] ((HC m0 ++ [(Sum.inl (8, jdf 8) : jE)]).map aex) = some (none, (HP (m0, m0)).map aex) := @of_decide_eq_true _ (aRO_d _ _) (by decide +kernel)
theorem a_x1 : (HC m0).all jxe = true := by decide +kernel
theorem a_x2 : (HP (m0, m0)).all jxe = true := by decide +kernel
theorem jrun_mono {cs : Nat → Option (List Int32)} {jc : Nat → List Value → List jE → Option jR} {nL : Nat} {ret : Option FieldType} {tab : Nat → Option jI} (k : Nat) : ∀ (f : Nat) (c : jC) (r : jR), jrun cs jc nL ret tab f c = some r → jrun cs jc nL ret tab (f + k) c = some r
  | 0, _, _, h => by cases h
  | f + 1, c, r, h => by
    rw [Nat.succ_add]
    have h : (match jstep cs jc nL ret tab c with
      | none => none
      | some (.inl c') => jrun cs jc nL ret tab f c'
      | some (.inr r) => some r) = some r := h
    show (match jstep cs jc nL ret tab c with
      | none => none
      | some (.inl c') => jrun cs jc nL ret tab (f + k) c'
      | some (.inr r) => some r) = some r
    cases hs : jstep cs jc nL ret tab c with
    | none => rw [hs] at h; cases h
    | some o =>
      rw [hs] at h
      cases o with
      | inl c' => exact jrun_mono k f c' r h
      | inr r' => exact h
theorem jcall_F {cs : Nat → Option (List Int32)} {F k : Nat} : ∀ (d a : Nat) (vs : List Value) (h : List jE) (r : jR), jcall jmt cs F d a vs h = some r → jcall jmt cs (F + k) d a vs h = some r
  | 0, _, _, _, _, e => by cases e
  | d + 1, a, vs, h, r, e => by
    unfold jcall at e ⊢
    cases hq : jmt a with
    | none => rw [hq] at e; cases e
    | some q =>
      rw [hq] at e
      simp only [] at e ⊢
      split at e
      · rename_i hc
        rw [if_pos hc]
        rcases Bool.eq_false_or_eq_true (a == 264) with hb9 | hb9
        · rw [hb9, cond_true] at e ⊢
          exact e
        rw [hb9, cond_false] at e ⊢
        exact jrun_mono k _ _ _ (jrun_ext (fun a vs h r => jcall_F d a vs h r) (fun x pc L st h o => jexec_ext (fun a vs h r => jcall_F d a vs h r) x pc L st h o) _ _ _ e)
      · cases e
theorem CallD_of_call {cs : Nat → Option (List Int32)} {F d a : Nat} {vs : List Value} {h : List jE} {r : jR} (e : jcall jmt cs F d a vs h = some r) : CallD cs d a vs h r := by
  refine ⟨F, fun F' hF => ?_⟩
  obtain ⟨k, rfl⟩ := Nat.exists_eq_add_of_le hF
  exact jcall_F _ _ _ _ _ e
theorem gV_in {v : Value} (hv : jxv v = true) : gV (aof v) v := by
  cases v with
  | int x => exact ⟨Int.le_refl _, Int.le_refl _⟩
  | ref i => exact ⟨⟨i, Or.inl rfl⟩, rfl⟩
  | null => exact ⟨⟨0, Or.inr rfl⟩, rfl⟩
  | _ => cases hv
theorem f2_in : ∀ (l : List Value), l.all jxv = true → jF2 gV (l.map aof) l
  | [], _ => trivial
  | v :: l, hv => by
    rw [List.all_cons, Bool.and_eq_true] at hv
    exact ⟨gV_in hv.1, f2_in l hv.2⟩
theorem gE_in {e : jE} (h : jxe e = true) : gE (aex e) e := by
  match e, h with
  | .inl o, h => exact ⟨rfl, f2_in o.2 h⟩
  | .inr (.inl a), _ => exact ⟨rfl, f2_exact _⟩
  | .inr (.inr a), _ => rfl
theorem aex_in : ∀ (h : List jE), h.all jxe = true → jF2 gE (h.map aex) h
  | [], _ => trivial
  | e :: h, hv => by
    rw [List.all_cons, Bool.and_eq_true] at hv
    exact ⟨gE_in hv.1, aex_in h hv.2⟩
theorem st_call {xs : List Int32} {a i : Nat} {h h' : List jE} (ha : acall jmt axsN 2000 300 a [aref i] (h.map aex) = some (none, h'.map aex)) (x1 : h.all jxe = true) (x2 : h'.all jxe = true) : CallD (jcs xs) 300 a [.ref i] h (none, h') := by
  obtain ⟨r, r1, r2, r3⟩ := g_call (mt := jmt) (acs := axsN) (cs := jcs xs) (fun k l hk => g_axsN k l hk) 2000 300 a _ _ _ [.ref i] h ha ⟨⟨⟨i, Or.inl rfl⟩, rfl⟩, trivial⟩ (aex_in h x1)
  obtain ⟨ra, rb⟩ := r
  have r2 : ra = none := r2
  have r4 : rb = h' := f2_xe _ _ r3 x2
  subst r2
  subst r4
  exact CallD_of_call r1
section RN
variable {cs : Nat → Option (List Int32)} {d nL : Nat} {ret : Option FieldType} {tab : Nat → Option jI} {r : jR} {pc : Nat} {L : List (Nat × Value)} {st : List Value} {h : List jE} {len a b c : Nat} {k : Int64}
theorem R_new {p j n : Nat} (ht : tab pc = some (.new j, len, a, b, c, k)) (hn : h.length = n) (hl : Nat.blt n jK0 = true) (hp : pc + 3 = p) (g : RunD cs d nL ret tab (p, L, .ref n :: st, h ++ [.inl (a, jdf a)]) r) : RunD cs d nL ret tab (pc, L, st, h) r := by
  subst hp
  subst hn
  refine R_st ht (fun call => ?_) g
  show (bif Nat.blt h.length jK0 then _ else _) = _
  rw [hl]
  rfl
theorem R_cI {p j ca i : Nat} {h' : List jE} (ht : tab pc = some (.invokespecial j, len, ca, 1, 0, k)) (hc : CallD cs d ca [.ref i] h (none, h')) (hz : Nat.ble (st.map fun v => v.category).sum 8 = true) (hp : pc + 3 = p) (g : RunD cs d nL ret tab (p, L, st, h') r) : RunD cs d nL ret tab (pc, L, .ref i :: st, h) r := by
  subst hp
  refine R_cl ht hc (fun call e => ?_) g
  show (if 1 ≤ (.ref i :: st).length ∧ (st.map fun v => v.category).sum ≤ 8 then (match call ca [.ref i] h with | some (some v, h9) => jgo (pc + 3) L (v :: st) h9 | some (none, h9) => jgo (pc + 3) L st h9 | none => none) else none) = _
  rw [if_pos ⟨by simp, Nat.le_of_ble_eq_true hz⟩, e]
  rfl
end RN
theorem jg_one {i : Nat} {v : Value} : jget [(i, v)] i = some v := by
  show (bif i == i then some v else _) = _
  rw [beq_self_eq_true]
  rfl
theorem law_start {xs : List Int32} {r : jR} {n : Nat} {t : Int32 × (Mem × Mem)} (h : lp (lL_law_18 xs) n (0, (m0, m0)) = some t) (hq : r = (some (.int t.1), HP t.2)) : RunD (jcs xs) 300 4 (some .boolean) jt_L_law (0, [(0, .ref (jK0 + 20))], [], []) r := by
  refine R_new (p := 3) (n := 0) rfl rfl rfl rfl ?_
  refine R_dupa (p := 4) rfl rfl ?_
  refine R_cI (p := 7) rfl (st_call a_c1 (by decide +kernel) a_x1) rfl rfl ?_
  refine R_astore_n (p := 8) rfl rfl rfl ?_
  refine R_new (p := 11) (n := 137) rfl (HC_len m0) rfl rfl ?_
  refine R_dupa (p := 12) rfl rfl ?_
  refine R_cI (p := 15) rfl (st_call a_c2 (by decide +kernel) a_x2) rfl rfl ?_
  refine R_astore_n (p := 16) rfl rfl rfl ?_
  refine R_iconst (p := 17) rfl ki_0 rfl ?_
  refine R_istore_n (p := 18) rfl rfl rfl ?_
  exact LL_law_18 HP_2 (by decide) n _ h hq _ (jg_ne (jg_ne (jg_ne jg_one rfl) rfl) rfl) (jg_ne (jg_ne jg_self rfl) rfl) (jg_ne jg_self rfl) jg_self
theorem jsz_cel (m m' : Mem) (c : Nat) (s : Shp) : jsz (cel m c s) = jsz (cel m' c s) := by
  match s with
  | .inl o =>
    show (fvl m c 0 o.2).length = (fvl m' c 0 o.2).length
    rw [fvl_len, fvl_len]
  | .inr (.inl n) =>
    show ((List.range n).map (m c)).length = ((List.range n).map (m' c)).length
    rw [List.length_map, List.length_map]
  | .inr (.inr a) => rfl
theorem jsl_HP (p q : Mem × Mem) : jsl (HP p) = jsl (HP q) := by
  unfold jsl
  have key : (HP p).map jsz = (HP q).map jsz := by
    unfold HP HC HR
    rw [List.map_append, List.map_append, List.map_map, List.map_map, List.map_map, List.map_map]
    have e1 : (List.range 137).map (jsz ∘ fun c => cel p.1 c (shCd c)) = (List.range 137).map (jsz ∘ fun c => cel q.1 c (shCd c)) := List.map_congr_left (fun c _ => jsz_cel _ _ _ _)
    have e2 : (List.range 18).map (jsz ∘ fun c => cel p.2 (137 + c) (shRd (137 + c))) = (List.range 18).map (jsz ∘ fun c => cel q.2 (137 + c) (shRd (137 + c))) := List.map_congr_left (fun c _ => jsz_cel _ _ _ _)
    rw [e1, e2]
  rw [key]
theorem jsl_m0 : jsl (HP (m0, m0)) ≤ 7302250 := by decide +kernel
/-- THE CLAIM OUT OF THE LOOP OVER MEMORIES -/
theorem law_of {xs : List Int32} {n : Nat} {mm : Mem × Mem} (h : lp (lL_law_18 xs) n (0, (m0, m0)) = some (1, mm)) : ∃ (F : Nat) (r : jR), jlaw F xs = some r ∧ r.1 = some (.int 1) ∧ r.2.length ≤ 600000 ∧ jsl r.2 ≤ 7302250 := by
  obtain ⟨F0, k⟩ := law_start h rfl
  refine ⟨F0, _, k F0 F0 (Nat.le_refl _) (Nat.le_refl _), rfl, ?_, ?_⟩
  · show (HP mm).length ≤ 600000
    rw [HP_len]
    exact Nat.le_of_ble_eq_true rfl
  · show jsl (HP mm) ≤ 7302250
    rw [jsl_HP mm (m0, m0)]
    exact jsl_m0
