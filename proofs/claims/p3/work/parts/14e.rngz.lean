section GZ
variable {a : List (Nat × aV)} {L : List (Nat × Value)} {sa : List aV} {st : List Value} {ha : List aE} {h : List jE} {o : aC ⊕ aR}
set_option maxHeartbeats 4000000 in
theorem g_exec {acs : Nat → Option (List aI)} {cs : Nat → Option (List Int32)} (hcs : ∀ (k : Nat) (l : List aI), acs k = some l → ∃ l2, cs k = some l2 ∧ jF2 gI l l2) {ac : Nat → List aV → List aE → Option aR} {jc : Nat → List Value → List jE → Option jR} (hc : gCall ac jc) {nL : Nat} {ret : Option FieldType} {x : jI} {pc : Nat} (hL : jF2 gL a L) (hs : jF2 gV sa st) (hh : jF2 gE ha h) (he : aexec acs ac nL ret x pc a sa ha = some o) : ∃ o', jexec cs jc nL ret x pc L st h = some o' ∧ gO o o' := by
  obtain ⟨ins, len, p, b, c, k⟩ := x
  cases ins with
  | iconst n => cases he; exact gmk (c := (pc + 1, L, .int (Int32.ofInt n) :: st, h)) rfl ⟨rfl, hL, ⟨gI_K _, hs⟩, hh⟩
  | bipush n => cases he; exact gmk (c := (pc + 2, L, .int (Int8.ofInt n).toInt32 :: st, h)) rfl ⟨rfl, hL, ⟨gI_K _, hs⟩, hh⟩
  | sipush n => cases he; exact gmk (c := (pc + 3, L, .int (Int16.ofInt n).toInt32 :: st, h)) rfl ⟨rfl, hL, ⟨gI_K _, hs⟩, hh⟩
  | lconst n => cases he; exact gmk (c := (pc + 1, L, .long (Int64.ofNat (n : Nat)) :: st, h)) rfl ⟨rfl, hL, ⟨trivial, hs⟩, hh⟩
  | ldc i =>
    unfold aexec at he
    simp only [] at he
    cases hb : (p == 0) with
    | true =>
      rw [hb] at he
      cases he
      refine gmk (c := (pc + 2, L, .int k.toInt32 :: st, h)) ?_ ⟨rfl, hL, ⟨gI_K _, hs⟩, hh⟩
      unfold jexec
      simp only [hb, cond_true]
      rfl
    | false =>
      rw [hb] at he
      cases he
      refine gmk (c := (pc + 2, L, .ref (jK0 + b) :: st, h)) ?_ ⟨rfl, hL, ⟨g_ref _, hs⟩, hh⟩
      unfold jexec
      simp only [hb, cond_false]
      rfl
  | ldc_w i => cases he; exact gmk (c := (pc + 3, L, .int k.toInt32 :: st, h)) rfl ⟨rfl, hL, ⟨gI_K _, hs⟩, hh⟩
  | ldc2_w i => cases he; exact gmk (c := (pc + 3, L, .long k :: st, h)) rfl ⟨rfl, hL, ⟨trivial, hs⟩, hh⟩
  | iload_n i => exact gx_loadI hL hs hh he
  | iload i => exact gx_loadI hL hs hh he
  | lload_n i => exact gx_loadL hL hs hh he
  | lload i => exact gx_loadL hL hs hh he
  | aload_n i => exact gx_loadA hL hs hh he
  | aload i => exact gx_loadA hL hs hh he
  | istore_n i => exact gx_storeI hL hs hh he
  | istore i => exact gx_storeI hL hs hh he
  | astore_n i => exact gx_storeA hL hs hh he
  | astore i => exact gx_storeA hL hs hh he
  | lstore_n i => exact gx_storeL hL hs hh he
  | lstore i => exact gx_storeL hL hs hh he
  | iinc i n =>
    unfold aexec at he
    simp only [] at he
    split at he
    · rename_i X hX
      obtain ⟨v, h1, h2⟩ := g_get hL hX
      obtain ⟨y, rfl, hy⟩ := gV_int h2
      cases hn : Nat.blt i nL with
      | false => rw [hn] at he; cases he
      | true =>
        rw [hn] at he
        cases he
        refine gmk (c := (pc + 3, jput L i (.int (y + Int32.ofInt n)), st, h)) ?_ ⟨rfl, g_put hL (X := .inl (aadd X (aK (Int32.ofInt n).toInt))) (v := .int (y + Int32.ofInt n)) (g_add hy (gI_K _)), hs, hh⟩
        unfold jexec
        simp only [h1, hn, cond_true]
        rfl
    · cases he
  | iadd => exact gx_bin g_add hL hs hh he
  | isub => exact gx_bin g_sub hL hs hh he
  | imul => exact gx_bin g_mul hL hs hh he
  | iand => exact gx_bin (g_op _) hL hs hh he
  | ior => exact gx_bin (g_op _) hL hs hh he
  | ixor => exact gx_bin (g_op _) hL hs hh he
  | ishl => exact gx_bin (g_op _) hL hs hh he
  | ishr => exact gx_bin (g_op _) hL hs hh he
  | iushr => exact gx_bin (g_op _) hL hs hh he
  | iaload => exact gx_iald hcs hL hs hh he
  | iastore => exact gx_iast hL hs hh he
  | aaload => exact gx_aald hL hs hh he
  | aastore => exact gx_aast hL hs hh he
  | arraylength => exact gx_alen hcs hL hs hh he
  | ineg => exact gx_un g_neg hL hs hh he
  | i2b => exact gx_un (g_op1 _) hL hs hh he
  | i2s => exact gx_un (g_op1 _) hL hs hh he
  | i2c => exact gx_un (g_op1 _) hL hs hh he
  | ladd => exact gx_binL hL hs hh he
  | lmul => exact gx_binL hL hs hh he
  | land => exact gx_binL hL hs hh he
  | lor => exact gx_binL hL hs hh he
  | lshl => exact gx_shL hL hs hh he
  | lshr => exact gx_shL hL hs hh he
  | lushr => exact gx_shL hL hs hh he
  | i2l =>
    unfold aexec at he
    simp only [] at he
    split at he
    · obtain ⟨v, r, rfl, h1, h2⟩ := f2_cons hs
      obtain ⟨y, rfl, hy⟩ := gV_int h1
      cases he
      exact gmk (c := (pc + 1, L, .long y.toInt64 :: r, h)) rfl ⟨rfl, hL, ⟨trivial, h2⟩, hh⟩
    · cases he
  | l2i =>
    unfold aexec at he
    simp only [] at he
    split at he
    · obtain ⟨v, r, rfl, h1, h2⟩ := f2_cons hs
      obtain ⟨y, rfl⟩ := gV_long h1
      cases he
      exact gmk (c := (pc + 1, L, .int y.toInt32 :: r, h)) rfl ⟨rfl, hL, ⟨gI_T _, h2⟩, hh⟩
    · cases he
  | idiv =>
    unfold aexec at he
    simp only [] at he
    split at he
    · obtain ⟨v, r, rfl, h1, h2⟩ := f2_cons hs
      obtain ⟨v2, r, rfl, h3, h4⟩ := f2_cons h2
      obtain ⟨y, rfl, hy⟩ := gV_int h1
      obtain ⟨x, rfl, hx⟩ := gV_int h3
      rw [Bool.cond_eq_ite] at he
      split at he
      · rename_i hb
        rw [Bool.or_eq_true, decide_eq_true_eq, decide_eq_true_eq] at hb
        cases he
        have hne : ¬ y = 0 := fun z => by
          subst z
          obtain ⟨g1, g2⟩ := hy
          rw [Int32.toInt_zero] at g1 g2
          omega
        refine gmk (c := (pc + 1, L, .int (x / y) :: r, h)) ?_ ⟨rfl, hL, ⟨g_op (fun x y => x / y) hx hy, h4⟩, hh⟩
        unfold jexec
        simp only []
        rw [if_neg hne]
        rfl
      · cases he
    · cases he
  | irem =>
    unfold aexec at he
    simp only [] at he
    split at he
    · obtain ⟨v, r, rfl, h1, h2⟩ := f2_cons hs
      obtain ⟨v2, r, rfl, h3, h4⟩ := f2_cons h2
      obtain ⟨y, rfl, hy⟩ := gV_int h1
      obtain ⟨x, rfl, hx⟩ := gV_int h3
      rw [Bool.cond_eq_ite] at he
      split at he
      · rename_i hb
        rw [Bool.or_eq_true, decide_eq_true_eq, decide_eq_true_eq] at hb
        cases he
        have hne : ¬ y = 0 := fun z => by
          subst z
          obtain ⟨g1, g2⟩ := hy
          rw [Int32.toInt_zero] at g1 g2
          omega
        refine gmk (c := (pc + 1, L, .int (x - x / y * y) :: r, h)) ?_ ⟨rfl, hL, ⟨g_op (fun x y => x - x / y * y) hx hy, h4⟩, hh⟩
        unfold jexec
        simp only []
        rw [if_neg hne]
        rfl
      · cases he
    · cases he
  | dup =>
    unfold aexec at he
    simp only [] at he
    split at he
    · obtain ⟨v, r, rfl, h1, h2⟩ := f2_cons hs
      obtain ⟨y, rfl, hy⟩ := gV_int h1
      cases he
      exact gmk (c := (pc + 1, L, .int y :: .int y :: r, h)) rfl ⟨rfl, hL, ⟨hy, hy, h2⟩, hh⟩
    · rename_i x r9
      obtain ⟨v, r, rfl, h1, h2⟩ := f2_cons hs
      cases gV_ex h1
      cases he
      exact gmk (c := (pc + 1, L, .ref x :: .ref x :: r, h)) rfl ⟨rfl, hL, ⟨g_ref x, g_ref x, h2⟩, hh⟩
    · cases he
  | pop =>
    unfold aexec at he
    simp only [] at he
    split at he
    · obtain ⟨v, r, rfl, h1, h2⟩ := f2_cons hs
      obtain ⟨y, rfl, hy⟩ := gV_int h1
      cases he
      exact gmk (c := (pc + 1, L, r, h)) rfl ⟨rfl, hL, h2, hh⟩
    · obtain ⟨v, r, rfl, h1, h2⟩ := f2_cons hs
      cases gV_ex h1
      cases he
      exact gmk (c := (pc + 1, L, r, h)) rfl ⟨rfl, hL, h2, hh⟩
    · cases he
  | dup2 =>
    unfold aexec at he
    simp only [] at he
    split at he
    · rename_i y9 x r9
      obtain ⟨v, r, rfl, h1, h2⟩ := f2_cons hs
      obtain ⟨v2, r, rfl, h3, h4⟩ := f2_cons h2
      obtain ⟨y, rfl, hy⟩ := gV_int h1
      cases gV_ex h3
      cases he
      exact gmk (c := (pc + 1, L, .int y :: .ref x :: .int y :: .ref x :: r, h)) rfl ⟨rfl, hL, ⟨hy, g_ref x, hy, g_ref x, h4⟩, hh⟩
    · obtain ⟨v, r, rfl, h1, h2⟩ := f2_cons hs
      obtain ⟨v2, r, rfl, h3, h4⟩ := f2_cons h2
      obtain ⟨y, rfl, hy⟩ := gV_int h1
      obtain ⟨x, rfl, hx⟩ := gV_int h3
      cases he
      exact gmk (c := (pc + 1, L, .int y :: .int x :: .int y :: .int x :: r, h)) rfl ⟨rfl, hL, ⟨hy, hx, hy, hx, h4⟩, hh⟩
    · cases he
  | goto off => cases he; exact gmk (c := (p, L, st, h)) rfl ⟨rfl, hL, hs, hh⟩
  | ifCond q off => exact gx_if hL hs hh he
  | if_icmp q off => exact gx_icmp hL hs hh he
  | tableswitch d lo hi offs => exact gx_tsw hL hs hh he
  | lookupswitch d ps => exact gx_lsw hL hs hh he
  | getfield i =>
    unfold aexec at he
    simp only [] at he
    cases hb : (c == 9) with
    | true => rw [hb, cond_true] at he; cases he
    | false =>
      rw [hb, cond_false] at he
      obtain ⟨o', o1, o2⟩ := gx_getf hL hs hh he
      refine ⟨o', ?_, o2⟩
      unfold jexec
      simp only [hb, cond_false]
      exact o1
  | putfield i => exact gx_putf hL hs hh he
  | getstatic i =>
    unfold aexec at he
    simp only [] at he
    cases hb : (b == 9) with
    | true => rw [hb, cond_true] at he; cases he
    | false =>
      rw [hb, cond_false] at he
      cases he
      refine gmk (c := (pc + 3, L, .ref (jK0 + p) :: st, h)) ?_ ⟨rfl, hL, ⟨g_ref _, hs⟩, hh⟩
      unfold jexec
      simp only [hb, cond_false]
      rfl
  | new i => exact gx_new hL hs hh he
  | newarray i => exact gx_newa hL hs hh he
  | anewarray i => exact gx_newq hL hs hh he
  | multianewarray i n => exact gx_newg hL hs hh he
  | invokevirtual i =>
    unfold aexec at he
    simp only [] at he
    cases hb : (k == 9) with
    | true => rw [hb, cond_true] at he; cases he
    | false =>
      rw [hb, cond_false] at he
      obtain ⟨o', o1, o2⟩ := gx_invV hc hL hs hh he
      refine ⟨o', ?_, o2⟩
      unfold jexec
      simp only [hb, cond_false]
      exact o1
  | invokespecial i =>
    unfold aexec at he
    simp only [] at he
    cases hb : (c == 1) with
    | true =>
      rw [hb, cond_true] at he
      split at he
      · obtain ⟨v, r, rfl, h1, h2⟩ := f2_cons hs
        cases gV_ex h1
        rw [Bool.cond_eq_ite] at he
        split at he
        · rename_i hq
          cases he
          refine gmk (c := (pc + 3, L, r, h)) ?_ ⟨rfl, hL, h2, hh⟩
          unfold jexec
          simp only [hb, cond_true]
          rw [if_pos (by rw [← gV_sum h2]; exact Nat.le_of_ble_eq_true hq)]
          rfl
        · cases he
      · cases he
    | false =>
      rw [hb, cond_false] at he
      obtain ⟨o', o1, o2⟩ := gx_invI hc hL hs hh he
      refine ⟨o', ?_, o2⟩
      unfold jexec
      simp only [hb, cond_false]
      exact o1
  | invokestatic i =>
    unfold aexec at he
    simp only [] at he
    cases hb : (c == 1) with
    | true =>
      rw [hb, cond_true] at he
      obtain ⟨o', o1, o2⟩ := gx_copy hL hs hh he
      refine ⟨o', ?_, o2⟩
      unfold jexec
      simp only [hb, cond_true]
      exact o1
    | false =>
      rw [hb, cond_false] at he
      obtain ⟨o', o1, o2⟩ := gx_inv hc hL hs hh he
      refine ⟨o', ?_, o2⟩
      unfold jexec
      simp only [hb, cond_false]
      exact o1
  | ireturn => exact gx_ret (L := L) hs hh he
  | areturn => exact gx_retA (L := L) hs hh he
  | return_ => exact gx_retV (L := L) hs hh he
  | lreturn => exact gx_retL (L := L) hs hh he
  | _ => exact nomatch (show (none : aO) = some o from he)
end GZ
theorem g_run {acs : Nat → Option (List aI)} {cs : Nat → Option (List Int32)} (hcs : ∀ (k : Nat) (l : List aI), acs k = some l → ∃ l2, cs k = some l2 ∧ jF2 gI l l2) {ac : Nat → List aV → List aE → Option aR} {jc : Nat → List Value → List jE → Option jR} (hc : gCall ac jc) {nL : Nat} {ret : Option FieldType} {tab : Nat → Option jI} : ∀ (f : Nat) (x : aC) (c : jC) (r : aR), gC x c → arun acs ac nL ret tab f x = some r → ∃ r', jrun cs jc nL ret tab f c = some r' ∧ gR r r'
  | 0, _, _, _, _, h => by cases h
  | f + 1, x, c, r, hx, h => by
    obtain ⟨pc, L, st, h0⟩ := c
    obtain ⟨pa, La, sa, ha⟩ := x
    obtain ⟨e1, e2, e3, e4⟩ := hx
    have e1 : pa = pc := e1
    subst e1
    unfold arun at h
    simp only [] at h
    unfold jrun jstep
    cases ht : tab pa with
    | none => simp only [ht] at h; cases h
    | some y =>
      simp only [ht] at h
      cases he : aexec acs ac nL ret y pa La sa ha with
      | none => simp only [he] at h; cases h
      | some o =>
        simp only [he] at h
        obtain ⟨o', o1, o2⟩ := g_exec hcs hc e2 e3 e4 he
        simp only [ht, o1]
        cases o with
        | inl x' =>
          cases o' with
          | inl c' => exact g_run hcs hc f x' c' r o2 h
          | inr c' => cases o2
        | inr r' =>
          cases o' with
          | inl c' => cases o2
          | inr c' =>
            cases h
            exact ⟨c', rfl, o2⟩
theorem g_sl : ∀ {a : List aV} {s : List Value}, jF2 gV a s → (lg_sl s).length = asl a
  | [], [], _ => rfl
  | X :: a, v :: s, h => by
    unfold lg_sl
    rw [List.flatMap_cons, List.length_append]
    have ih := g_sl (a := a) (s := s) h.2
    unfold lg_sl at ih
    rw [ih]
    show _ = acat X + asl a
    rw [gV_cat h.1]
    congr 1
    rcases lv_cat v with e | e
    · rw [e]; rfl
    · rw [e]; rfl
  | [], v :: s, h => by cases h
  | X :: a, [], h => by cases h
theorem g_args : ∀ {a : List aV} {s : List Value}, jF2 gV a s → ∀ i : Nat, jF2 gL (aargs i a) (lv_args i s)
  | [], [], _, _ => trivial
  | X :: a, v :: s, h, i => by
    show jF2 gL ((i, X) :: aargs (if acat X = 2 then i + 2 else i + 1) a) ((i, v) :: lv_args (if v.category = 2 then i + 2 else i + 1) s)
    rw [gV_cat h.1]
    exact ⟨⟨rfl, h.1⟩, g_args (a := a) (s := s) h.2 _⟩
  | [], v :: s, h, _ => by cases h
  | X :: a, [], h, _ => by cases h
theorem g_call {mt : Nat → Option jM} {acs : Nat → Option (List aI)} {cs : Nat → Option (List Int32)} (hcs : ∀ (k : Nat) (l : List aI), acs k = some l → ∃ l2, cs k = some l2 ∧ jF2 gI l l2) (F : Nat) : ∀ d : Nat, gCall (acall mt acs F d) (jcall mt cs F d)
  | 0 => fun _ _ _ _ _ _ h => by cases h
  | d + 1 => fun m va ha ra v h he hv hh => by
    unfold acall at he
    unfold jcall
    cases hm : mt m with
    | none => rw [hm] at he; cases he
    | some q =>
      rw [hm] at he
      simp only [] at he ⊢
      rw [Bool.cond_eq_ite] at he
      split at he
      · rename_i hb
        rw [Bool.and_eq_true] at hb
        rw [if_pos ⟨by rw [← f2_len hv]; exact eq_of_beq hb.1, by rw [g_sl hv]; exact Nat.le_of_ble_eq_true hb.2⟩]
        rcases Bool.eq_false_or_eq_true (m == 264) with hb9 | hb9
        · rw [hb9, cond_true] at he; cases he
        rw [hb9, cond_false] at he ⊢
        exact g_run hcs (g_call hcs F d) F (0, aargs 0 va, [], ha) _ _ ⟨rfl, g_args hv 0, trivial, hh⟩ he
      · cases he
