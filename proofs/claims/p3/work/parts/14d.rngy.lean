theorem gV_of (v : Value) (h : ¬ ∃ i, v = .ref i) : (∀ x, v ≠ .float x) → (∀ x, v ≠ .double x) → (∀ x, v ≠ .retAddr x) → gV (aof v) v := by
  intro h1 h2 h3
  cases v with
  | int x => exact gI_K x
  | long x => trivial
  | null => exact ⟨⟨0, Or.inr rfl⟩, rfl⟩
  | ref x => exact absurd ⟨x, rfl⟩ h
  | float x => exact absurd rfl (h1 x)
  | double x => exact absurd rfl (h2 x)
  | retAddr x => exact absurd rfl (h3 x)
theorem g_df (ci : Nat) : jF2 gV ((jdf ci).map aof) (jdf ci) := by
  have h0 : gV (aof (.int 0)) (.int 0) := gI_K 0
  have hn : gV (aof .null) .null := ⟨⟨0, Or.inr rfl⟩, rfl⟩
  unfold jdf
  split <;> simp only [List.map, jF2, h0, hn, and_self]
section GY
variable {t : Nat} {a : List (Nat × aV)} {L : List (Nat × Value)} {sa : List aV} {st : List Value} {ha : List aE} {h : List jE} {o : aC ⊕ aR}
theorem gx_new {ci : Nat} (hL : jF2 gL a L) (hs : jF2 gV sa st) (hh : jF2 gE ha h) (he : anew ci t (jdf ci) a sa ha = some o) : ∃ o', jnew ci t (jdf ci) L st h = some o' ∧ gO o o' := by
  unfold anew at he
  cases hb : Nat.blt ha.length jK0 with
  | false => rw [hb] at he; cases he
  | true =>
    rw [hb] at he
    cases he
    rw [f2_len hh] at hb
    have hg : jF2 gE [(.inl (ci, (jdf ci).map aof) : aE)] [(.inl (ci, jdf ci) : jE)] := ⟨⟨rfl, g_df ci⟩, trivial⟩
    refine gmk (c := (t, L, .ref h.length :: st, h ++ [.inl (ci, jdf ci)])) ?_ ⟨rfl, hL, ⟨by rw [f2_len hh]; exact g_ref _, hs⟩, f2_app hh hg⟩
    unfold jnew
    rw [hb]
    rfl
theorem g00 : gI (0, 0) 0 := gI_K 0
theorem gx_newa (hL : jF2 gL a L) (hs : jF2 gV sa st) (hh : jF2 gE ha h) (he : anewa t a sa ha = some o) : ∃ o', jnewa t L st h = some o' ∧ gO o o' := by
  unfold anewa at he
  split at he
  · obtain ⟨v, r, rfl, h1, h2⟩ := f2_cons hs
    obtain ⟨y, rfl, hy⟩ := gV_int h1
    split at he
    · rename_i k hk
      obtain ⟨k1, k2, -⟩ := g_ix hy hk
      rw [Bool.cond_eq_ite] at he
      split at he
      · rename_i hc
        rw [Bool.and_eq_true] at hc
        cases he
        have hg : jF2 gE [(.inr (.inl (0, List.replicate k (0, 0))) : aE)] [(.inr (.inl (0, List.replicate k 0)) : jE)] := ⟨⟨rfl, f2_rep g00 k⟩, trivial⟩
        refine gmk (c := (t, L, .ref h.length :: r, h ++ [.inr (.inl (0, List.replicate k 0))])) ?_ ⟨rfl, hL, ⟨by rw [f2_len hh]; exact g_ref _, h2⟩, f2_app hh hg⟩
        unfold jnewa
        simp only []
        rw [if_pos ⟨k1, by rw [k2]; exact Nat.le_of_ble_eq_true hc.1, by rw [← f2_len hh]; exact Nat.le_of_ble_eq_true hc.2⟩, k2]
        rfl
      · cases he
    · cases he
  · cases he
theorem gx_newq {z : Nat} (hL : jF2 gL a L) (hs : jF2 gV sa st) (hh : jF2 gE ha h) (he : anewq z t a sa ha = some o) : ∃ o', jnewq z t L st h = some o' ∧ gO o o' := by
  unfold anewq at he
  split at he
  · obtain ⟨v, r, rfl, h1, h2⟩ := f2_cons hs
    obtain ⟨y, rfl, hy⟩ := gV_int h1
    split at he
    · rename_i k hk
      obtain ⟨k1, k2, -⟩ := g_ix hy hk
      rw [Bool.cond_eq_ite] at he
      split at he
      · rename_i hc
        rw [Bool.and_eq_true] at hc
        cases he
        have hg : jF2 gE [(.inr (.inr (z, List.replicate k none)) : aE)] [(.inr (.inr (z, List.replicate k none)) : jE)] := ⟨rfl, trivial⟩
        refine gmk (c := (t, L, .ref h.length :: r, h ++ [.inr (.inr (z, List.replicate k none))])) ?_ ⟨rfl, hL, ⟨by rw [f2_len hh]; exact g_ref _, h2⟩, f2_app hh hg⟩
        unfold jnewq
        simp only []
        rw [if_pos ⟨k1, by rw [k2]; exact Nat.le_of_ble_eq_true hc.1, by rw [← f2_len hh]; exact Nat.le_of_ble_eq_true hc.2⟩, k2]
        rfl
      · cases he
    · cases he
  · cases he
theorem gx_newg {z : Nat} (hL : jF2 gL a L) (hs : jF2 gV sa st) (hh : jF2 gE ha h) (he : anewg z t a sa ha = some o) : ∃ o', jnewg z t L st h = some o' ∧ gO o o' := by
  unfold anewg at he
  split at he
  · obtain ⟨v, r, rfl, h1, h2⟩ := f2_cons hs
    obtain ⟨v2, r, rfl, h3, h4⟩ := f2_cons h2
    obtain ⟨y, rfl, hy⟩ := gV_int h1
    obtain ⟨n, rfl, hn⟩ := gV_int h3
    split at he
    · rename_i k j hk hj
      obtain ⟨k1, k2, -⟩ := g_ix hn hk
      obtain ⟨j1, j2, -⟩ := g_ix hy hj
      rw [Bool.cond_eq_ite] at he
      split at he
      · rename_i hc
        rw [Bool.and_eq_true, Bool.and_eq_true] at hc
        cases he
        have hi : gE (.inr (.inl (0, List.replicate j (0, 0)))) (.inr (.inl (0, List.replicate j 0))) := ⟨rfl, f2_rep g00 j⟩
        have hg : jF2 gE ((.inr (.inr (z, (List.range k).map (fun i => some (ha.length + 1 + i)))) : aE) :: List.replicate k (.inr (.inl (0, List.replicate j (0, 0))))) ((.inr (.inr (z, (List.range k).map (fun i => some (h.length + 1 + i)))) : jE) :: List.replicate k (.inr (.inl (0, List.replicate j 0)))) := ⟨by rw [f2_len hh]; rfl, f2_rep hi k⟩
        refine gmk (c := (t, L, .ref h.length :: r, h ++ (.inr (.inr (z, (List.range k).map (fun i => some (h.length + 1 + i)))) :: List.replicate k (.inr (.inl (0, List.replicate j 0)))))) ?_ ⟨rfl, hL, ⟨by rw [f2_len hh]; exact g_ref _, h4⟩, f2_app hh hg⟩
        unfold jnewg
        simp only []
        rw [if_pos ⟨k1, j1, by rw [k2]; exact Nat.le_of_ble_eq_true hc.1, by rw [j2]; exact Nat.le_of_ble_eq_true hc.2.1, by rw [k2, ← f2_len hh]; exact Nat.le_of_ble_eq_true hc.2.2⟩, k2, j2]
        rfl
      · cases he
    · cases he
  · cases he
/-- the calls are within the ranges -/
def gCall (ac : Nat → List aV → List aE → Option aR) (jc : Nat → List Value → List jE → Option jR) : Prop := ∀ (m : Nat) (va : List aV) (ha : List aE) (ra : aR) (v : List Value) (h : List jE), ac m va ha = some ra → jF2 gV va v → jF2 gE ha h → ∃ r, jc m v h = some r ∧ gR ra r
theorem gx_inv {ac : Nat → List aV → List aE → Option aR} {jc : Nat → List Value → List jE → Option jR} (hc : gCall ac jc) {m n : Nat} (hL : jF2 gL a L) (hs : jF2 gV sa st) (hh : jF2 gE ha h) (he : ainv ac m n t a sa ha = some o) : ∃ o', jinv jc m n t L st h = some o' ∧ gO o o' := by
  unfold ainv at he
  rw [Bool.cond_eq_ite] at he
  split at he
  · rename_i hb
    rw [Bool.and_eq_true] at hb
    have b1 : n ≤ st.length := by rw [← f2_len hs]; exact Nat.le_of_ble_eq_true hb.1
    have b2 : ((st.drop n).map fun v => v.category).sum ≤ 8 := by rw [← gV_sum (f2_drop n hs)]; exact Nat.le_of_ble_eq_true hb.2
    have hd := f2_drop n hs
    split at he
    · rename_i X h' hr
      obtain ⟨r, r1, r2, r3⟩ := hc _ _ _ _ _ _ hr (f2_rev (f2_take n hs)) hh
      obtain ⟨rv, rh⟩ := r
      obtain ⟨v, rfl, hv⟩ := r2
      cases he
      refine gmk (c := (t, L, v :: st.drop n, rh)) ?_ ⟨rfl, hL, ⟨hv, hd⟩, r3⟩
      unfold jinv
      rw [if_pos ⟨b1, b2⟩, r1]
      rfl
    · rename_i h' hr
      obtain ⟨r, r1, r2, r3⟩ := hc _ _ _ _ _ _ hr (f2_rev (f2_take n hs)) hh
      obtain ⟨rv, rh⟩ := r
      have r2 : rv = none := r2
      subst r2
      cases he
      refine gmk (c := (t, L, st.drop n, rh)) ?_ ⟨rfl, hL, hd, r3⟩
      unfold jinv
      rw [if_pos ⟨b1, b2⟩, r1]
      rfl
    · cases he
  · cases he
theorem gx_invV {ac : Nat → List aV → List aE → Option aR} {jc : Nat → List Value → List jE → Option jR} (hc : gCall ac jc) {m n ci : Nat} (hL : jF2 gL a L) (hs : jF2 gV sa st) (hh : jF2 gE ha h) (he : ainvV ac m n ci t a sa ha = some o) : ∃ o', jinvV jc m n ci t L st h = some o' ∧ gO o o' := by
  unfold ainvV at he
  split at he
  · rename_i i As hrv
    have hf := f2_rev (f2_take n hs)
    rw [hrv] at hf
    obtain ⟨v, r, e1, h1, h2⟩ := f2_cons hf
    cases gV_ex h1
    split at he
    · rename_i z hz
      obtain ⟨e, e2, e3⟩ := f2_get hh hz
      obtain ⟨p, rfl, e5, e6⟩ := gE_obj e3
      rw [Bool.cond_eq_ite] at he
      split at he
      · rename_i hb
        obtain ⟨o', o1, o2⟩ := gx_inv hc hL hs hh he
        refine ⟨o', ?_, o2⟩
        unfold jinvV
        rw [e1]
        simp only [e2]
        rw [show (p.1 == ci) = true by rw [← e5]; exact hb, cond_true]
        exact o1
      · cases he
    · cases he
  · cases he
theorem gx_invI {ac : Nat → List aV → List aE → Option aR} {jc : Nat → List Value → List jE → Option jR} (hc : gCall ac jc) {m n : Nat} (hL : jF2 gL a L) (hs : jF2 gV sa st) (hh : jF2 gE ha h) (he : ainvI ac m n t a sa ha = some o) : ∃ o', jinvI jc m n t L st h = some o' ∧ gO o o' := by
  unfold ainvI at he
  split at he
  · rename_i i As hrv
    have hf := f2_rev (f2_take n hs)
    rw [hrv] at hf
    obtain ⟨v, r, e1, h1, h2⟩ := f2_cons hf
    cases gV_ex h1
    obtain ⟨o', o1, o2⟩ := gx_inv hc hL hs hh he
    refine ⟨o', ?_, o2⟩
    unfold jinvI
    rw [e1]
    exact o1
  · cases he
theorem g_getD {fa : List aI} {f : List Int32} (hf : jF2 gI fa f) (k : Nat) : gI (fa.getD k (0, 0)) (f.getD k 0) := by
  rw [List.getD_eq_getElem?_getD, List.getD_eq_getElem?_getD]
  cases he : fa[k]? with
  | some x =>
    obtain ⟨y, h1, h2⟩ := f2_get hf he
    rw [h1]
    exact h2
  | none =>
    have : f[k]? = none := by
      rw [List.getElem?_eq_none_iff] at he ⊢
      rw [← f2_len hf]
      exact he
    rw [this]
    exact g00
theorem g_cpy {fa ga : List aI} {f g : List Int32} (hf : jF2 gI fa f) (hg : jF2 gI ga g) (sp dp n : Nat) : jF2 gI (acpy fa ga sp dp n) (jcpy f g sp dp n) := by
  unfold acpy jcpy
  rw [f2_len hg]
  refine f2_map _ (fun k _ => ?_)
  split
  · exact g_getD hf _
  · exact g_getD hg _
theorem gx_copy (hL : jF2 gL a L) (hs : jF2 gV sa st) (hh : jF2 gE ha h) (he : acopy t a sa ha = some o) : ∃ o', jcopy t L st h = some o' ∧ gO o o' := by
  unfold acopy at he
  split at he
  · obtain ⟨v, r, rfl, h1, h2⟩ := f2_cons hs
    obtain ⟨v2, r, rfl, h3, h4⟩ := f2_cons h2
    obtain ⟨v3, r, rfl, h5, h6⟩ := f2_cons h4
    obtain ⟨v4, r, rfl, h7, h8⟩ := f2_cons h6
    obtain ⟨v5, r, rfl, h9, h10⟩ := f2_cons h8
    obtain ⟨n, rfl, hn⟩ := gV_int h1
    obtain ⟨dp, rfl, hdp⟩ := gV_int h3
    cases gV_ex h5
    obtain ⟨sp, rfl, hsp⟩ := gV_int h7
    cases gV_ex h9
    split at he
    · rename_i n' dp' sp' q1 q2 q3
      obtain ⟨n1, n2, -⟩ := g_ix hn q1
      obtain ⟨d1, d2, -⟩ := g_ix hdp q2
      obtain ⟨s1, s2, -⟩ := g_ix hsp q3
      split at he
      · rename_i f g hq hd
        obtain ⟨e, e1, e2⟩ := f2_get hh hq
        obtain ⟨p, rfl, e3, e4⟩ := gE_int e2
        obtain ⟨e', e1', e2'⟩ := f2_get hh hd
        obtain ⟨p', rfl, e3', e4'⟩ := gE_int e2'
        rw [Bool.cond_eq_ite] at he
        split at he
        · rename_i hb
          rw [Bool.and_eq_true, Bool.and_eq_true, Bool.and_eq_true, Bool.and_eq_true] at hb
          obtain ⟨b1, b2, b3, b4, b5⟩ := hb
          cases he
          refine gmk (c := (t, L, r, h.set _ (.inr (.inl (0, jcpy p.2 p'.2 sp' dp' n'))))) ?_ ⟨rfl, hL, h10, f2_set hh (a := .inr (.inl (0, acpy f.2 g.2 sp' dp' n'))) (b := .inr (.inl (0, jcpy p.2 p'.2 sp' dp' n'))) ⟨rfl, g_cpy e4 e4' sp' dp' n'⟩⟩
          unfold jcopy
          simp only [e1, e1']
          rw [if_pos ⟨by rw [← e3]; exact eq_of_beq b1, by rw [← e3']; exact eq_of_beq b2, s1, d1, n1, by rw [s2, n2, ← f2_len e4]; exact Nat.le_of_ble_eq_true b3, by rw [d2, n2, ← f2_len e4']; exact Nat.le_of_ble_eq_true b4, by rw [← gV_sum h10]; exact Nat.le_of_ble_eq_true b5⟩, n2, d2, s2]
          rfl
        · cases he
      · cases he
    · cases he
  · cases he
theorem gx_tsw {dflt lo hi : Int} {offs : List Int} {pc : Nat} (hL : jF2 gL a L) (hs : jF2 gV sa st) (hh : jF2 gE ha h) (he : atsw dflt lo hi offs pc a sa ha = some o) : ∃ o', jtsw dflt lo hi offs pc L st h = some o' ∧ gO o o' := by
  unfold atsw at he
  split at he
  · obtain ⟨v, r, rfl, h1, h2⟩ := f2_cons hs
    obtain ⟨y, rfl, hy⟩ := gV_int h1
    rw [Bool.cond_eq_ite] at he
    split at he
    · rename_i hb
      rw [Bool.or_eq_true, decide_eq_true_eq, decide_eq_true_eq] at hb
      rw [Bool.cond_eq_ite] at he
      split at he
      · rename_i hd
        rw [decide_eq_true_eq] at hd
        cases he
        refine gmk (c := (((pc : Int) + dflt).toNat, L, r, h)) ?_ ⟨rfl, hL, h2, hh⟩
        unfold jtsw
        simp only []
        rw [if_pos (by obtain ⟨g1, g2⟩ := hy; omega), if_pos hd]
        rfl
      · cases he
    · rw [Bool.cond_eq_ite] at he
      split at he
      · rename_i hb
        rw [Bool.and_eq_true, Bool.and_eq_true, decide_eq_true_eq, decide_eq_true_eq] at hb
        obtain ⟨e1, -⟩ := gI_ex hb.1 hy
        split at he
        · rename_i off ho
          rw [Bool.cond_eq_ite] at he
          split at he
          · rename_i hd
            rw [decide_eq_true_eq] at hd
            cases he
            refine gmk (c := (((pc : Int) + off).toNat, L, r, h)) ?_ ⟨rfl, hL, h2, hh⟩
            unfold jtsw
            simp only []
            rw [if_neg (by omega), e1]
            simp only [ho]
            rw [if_pos hd]
            rfl
          · cases he
        · cases he
      · cases he
  · cases he
theorem gx_lsw {dflt : Int} {ps : List (Int × Int)} {pc : Nat} (hL : jF2 gL a L) (hs : jF2 gV sa st) (hh : jF2 gE ha h) (he : alsw dflt ps pc a sa ha = some o) : ∃ o', jlsw dflt ps pc L st h = some o' ∧ gO o o' := by
  unfold alsw at he
  split at he
  · obtain ⟨v, r, rfl, h1, h2⟩ := f2_cons hs
    obtain ⟨y, rfl, hy⟩ := gV_int h1
    rw [Bool.cond_eq_ite] at he
    split at he
    · rename_i hb
      rw [Bool.and_eq_true, Bool.and_eq_true, decide_eq_true_eq] at hb
      obtain ⟨e1, -⟩ := gI_ex hb.1 hy
      cases he
      refine gmk (c := (((pc : Int) + Op.lookupswitch.offset ps dflt y.toInt).toNat, L, r, h)) ?_ ⟨by rw [e1], hL, h2, hh⟩
      unfold jlsw
      simp only []
      rw [if_pos ⟨hb.2.1, by rw [e1]; exact hb.2.2⟩]
      rfl
    · cases he
  · cases he
theorem gx_if {q : ClassFile.Cond} {x : Nat} (hL : jF2 gL a L) (hs : jF2 gV sa st) (hh : jF2 gE ha h) (he : aif q x t a sa ha = some o) : ∃ o', jif q x t L st h = some o' ∧ gO o o' := by
  unfold aif at he
  split at he
  · obtain ⟨v, r, rfl, h1, h2⟩ := f2_cons hs
    obtain ⟨y, rfl, hy⟩ := gV_int h1
    split at he
    · rename_i hb
      cases he
      refine gmk (c := (x, L, r, h)) ?_ ⟨rfl, hL, h2, hh⟩
      unfold jif
      simp only [g_cond hy g00 hb, cond_true]
      rfl
    · rename_i hb
      cases he
      refine gmk (c := (t, L, r, h)) ?_ ⟨rfl, hL, h2, hh⟩
      unfold jif
      simp only [g_cond hy g00 hb, cond_false]
      rfl
    · cases he
  · cases he
theorem gx_icmp {q : ClassFile.Cond} {x : Nat} (hL : jF2 gL a L) (hs : jF2 gV sa st) (hh : jF2 gE ha h) (he : aicmp q x t a sa ha = some o) : ∃ o', jicmp q x t L st h = some o' ∧ gO o o' := by
  unfold aicmp at he
  split at he
  · obtain ⟨v, r, rfl, h1, h2⟩ := f2_cons hs
    obtain ⟨v2, r, rfl, h3, h4⟩ := f2_cons h2
    obtain ⟨y, rfl, hy⟩ := gV_int h1
    obtain ⟨z, rfl, hz⟩ := gV_int h3
    split at he
    · rename_i hb
      cases he
      refine gmk (c := (x, L, r, h)) ?_ ⟨rfl, hL, h4, hh⟩
      unfold jicmp
      simp only [g_cond hz hy hb, cond_true]
      rfl
    · rename_i hb
      cases he
      refine gmk (c := (t, L, r, h)) ?_ ⟨rfl, hL, h4, hh⟩
      unfold jicmp
      simp only [g_cond hz hy hb, cond_false]
      rfl
    · cases he
  · cases he
theorem gmr {j : jO} {A : aR} {c : jR} (h1 : j = some (.inr c)) (h2 : gR A c) : ∃ o', j = some o' ∧ gO (.inr A) o' := ⟨.inr c, h1, h2⟩
theorem gx_ret {ret : Option FieldType} (hs : jF2 gV sa st) (hh : jF2 gE ha h) (he : aret ret sa ha = some o) : ∃ o', jret ret L st h = some o' ∧ gO o o' := by
  unfold aret at he
  split at he
  · obtain ⟨v, r, rfl, h1, h2⟩ := f2_cons hs
    cases f2_nil h2
    obtain ⟨y, rfl, hy⟩ := gV_int h1
    split at he
    · cases he
      exact gmr (c := (some (.int y), h)) rfl ⟨⟨_, rfl, hy⟩, hh⟩
    · rw [Bool.cond_eq_ite] at he
      split at he
      · rename_i hb
        rw [Bool.and_eq_true, decide_eq_true_eq, decide_eq_true_eq] at hb
        cases he
        refine gmr (c := (some (.int y), h)) ?_ ⟨⟨_, rfl, hy⟩, hh⟩
        unfold jret
        simp only []
        rw [if_pos]
        obtain ⟨g1, g2⟩ := hy
        have h3 : y.toInt = 0 ∨ y.toInt = 1 := by omega
        rcases h3 with h3 | h3
        · left
          exact Int32.toInt_inj.mp (by rw [h3]; rfl)
        · right
          exact Int32.toInt_inj.mp (by rw [h3]; rfl)
      · cases he
    · cases he
  · cases he
theorem gx_retA {ret : Option FieldType} (hs : jF2 gV sa st) (hh : jF2 gE ha h) (he : aretA ret sa ha = some o) : ∃ o', jretA ret L st h = some o' ∧ gO o o' := by
  unfold aretA at he
  split at he
  · rename_i x
    obtain ⟨v, r, rfl, h1, h2⟩ := f2_cons hs
    cases f2_nil h2
    cases gV_ex h1
    split at he
    · cases he
      exact gmr (c := (some (.ref x), h)) rfl ⟨⟨_, rfl, g_ref x⟩, hh⟩
    · cases he
  · cases he
theorem gx_retL {ret : Option FieldType} (hs : jF2 gV sa st) (hh : jF2 gE ha h) (he : aretL ret sa ha = some o) : ∃ o', jretL ret L st h = some o' ∧ gO o o' := by
  unfold aretL at he
  split at he
  · obtain ⟨v, r, rfl, h1, h2⟩ := f2_cons hs
    cases f2_nil h2
    obtain ⟨y, rfl⟩ := gV_long h1
    split at he
    · cases he
      exact gmr (c := (some (.long y), h)) rfl ⟨⟨_, rfl, trivial⟩, hh⟩
    · cases he
  · cases he
theorem gx_retV {ret : Option FieldType} (hs : jF2 gV sa st) (hh : jF2 gE ha h) (he : aretV ret sa ha = some o) : ∃ o', jretV ret L st h = some o' ∧ gO o o' := by
  unfold aretV at he
  split at he
  · cases f2_nil hs
    split at he
    · cases he
      exact gmr (c := (none, h)) rfl ⟨rfl, hh⟩
    · cases he
  · cases he
end GY
