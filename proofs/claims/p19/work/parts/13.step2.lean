section JF
variable {p : Program} {l : Launch} {e : Env} {R : Room} {s : State} {m : MethodId} {args : Array Value} {below : List Frame} {meth : Method} {c : Code} {Q : State → Prop} {base : Nat} {ca : Nat → Nat} {cT : Nat → ClassId} {D : va_G} {A : Nat → Prop} {nL n0 s0 : Nat}
variable {cc : ByteArray} {pc t : Nat} {L : List (Nat × Value)} {st : List Value} {h : List jE} {x' : jC} {G Ts : List Cond} {own : String} {xs : List Int32} {H : Heap} {locs : List Loc} {cells slots : Nat}
set_option maxHeartbeats 4000000 in
theorem j_step (hx : p.tables.exec = Jvm.exec) (hb : c.code = cc) (hml : c.maxLocals = nL) (hts : ∀ w ∈ Ts, w.before args s = true) (hG : ∀ w ∈ G, w ∈ Ts) (hgd : ∀ w ∈ G, goodWord w = true) (hown : s.vm.findClass own = some m.cls) (hK : jK xs ca cT D A s s.heap) (hA : ∀ q, base ≤ q → A q) (hbase : s.heap.size = base + n0) {ini : Prop} (hin : ini → meth.name = "<init>") {mt : Nat → Option jM} {d : Nat} {call : Nat → List Value → List jE → Option jR} (hM : jKnown l G xs base ca cT D A mt d call) (hfr : d + 1 ≤ R.frames) (hlo : 60 * d + 60 ≤ R.locals)
    {ret : Option FieldType} {x : jI} (hok : jok G own ini mt cc pc x) (he : jexec (jcs xs) call nL ret x pc L st h = some (.inl x')) (hz0 : h.length ≤ jK0) (hR1 : x'.2.2.2.length ≤ R.cells + n0) (hR2 : jsl x'.2.2.2 ≤ R.slots + s0) (kk : jWs p l e R s m args below meth c Q base ca cT D A nL n0 s0 x') : jWs p l e R s m args below meth c Q base ca cT D A nL n0 s0 (pc, L, st, h) := by
  obtain ⟨ins, len, a, b, c9, k⟩ := x
  obtain ⟨hd, hl, hext⟩ := hok
  have hd : decode cc pc = .ok (ins, len) := hd
  have hl : jl ins len = true := hl
  cases ins with
  | iconst n => cases eq_of_beq hl; cases he; exact js_st (st' := .int (Int32.ofInt n) :: st) (fun H locs ls cells slots k => lv_iconst hx hb hd rfl k) kk
  | bipush n => cases eq_of_beq hl; cases he; exact js_st (st' := .int (Int8.ofInt n).toInt32 :: st) (fun H locs ls cells slots k => lv_bipush hx hb hd rfl k) kk
  | sipush n => cases eq_of_beq hl; cases he; exact js_st (st' := .int (Int16.ofInt n).toInt32 :: st) (fun H locs ls cells slots k => lv_sipush hx hb hd rfl k) kk
  | lconst n => cases eq_of_beq hl; cases he; exact js_st (st' := .long (Int64.ofNat (n : Nat)) :: st) (fun H locs ls cells slots k => lv_lconst hx hb hd rfl k) kk
  | ldc i =>
    cases eq_of_beq hl
    rcases hext with ⟨ha, hw⟩ | ⟨ha, z, q, hb9, hq, hq1, hq2⟩
    · have ha : a = 0 := ha
      subst ha
      cases he
      exact js_st (st' := .int k.toInt32 :: st) (fun H locs ls cells slots k => lv_ldc hx hb hown (hts _ (hG _ hw)) hd k) kk
    · have ha : a = 1 := ha
      subst ha
      have hb9 : b = 10 + z := hb9
      subst hb9
      obtain ⟨o1, i1, tx⟩ := q
      have hq1 : o1 = own := hq1
      have hq2 : i1 = i := hq2
      subst hq1
      subst hq2
      cases he
      refine js_st (st' := .ref (jK0 + (10 + z)) :: st) (fun H locs ls cells slots k => ?_) kk
      have k2 : W p l e R s m args below meth c H locs cells slots Q (F0 m (pc + 2) ls (.ref (jad base ca (jK0 + (10 + z))) :: st.map (jv (jad base ca)))) := k
      rw [jad_k] at k2
      exact va_ldcS hx hb hown (hK.2.2.2.1 z _ hq).1 hd k2
  | ldc_w i => cases eq_of_beq hl; cases he; exact js_st (st' := .int k.toInt32 :: st) (fun H locs ls cells slots k => lv_ldcw hx hb hown (hts _ (hG _ hext)) hd k) kk
  | ldc2_w i => cases eq_of_beq hl; cases he; exact js_st (st' := .long k :: st) (fun H locs ls cells slots k => lv_ldc2 hx hb hown (hts _ (hG _ hext)) hd k) kk
  | iload_n i => cases eq_of_beq hl; exact js_loadI_n hx hb hd he kk
  | iload i => cases eq_of_beq hl; exact js_loadI hx hb hd he kk
  | lload_n i => cases eq_of_beq hl; exact js_loadL_n hx hb hd he kk
  | lload i => cases eq_of_beq hl; exact js_loadL hx hb hd he kk
  | aload_n i => cases eq_of_beq hl; exact js_loadA_n hx hb hd he kk
  | aload i => cases eq_of_beq hl; exact js_loadA hx hb hd he kk
  | istore_n i => cases eq_of_beq hl; exact js_storeI_n hx hb hd he kk
  | istore i => cases eq_of_beq hl; exact js_storeI hx hb hd he kk
  | astore_n i => cases eq_of_beq hl; exact js_storeA_n hx hb hd he kk
  | astore i => cases eq_of_beq hl; exact js_storeA hx hb hd he kk
  | lstore_n i => cases eq_of_beq hl; exact js_storeL_n hx hb hd he kk
  | lstore i => cases eq_of_beq hl; exact js_storeL hx hb hd he kk
  | iinc i n =>
    cases eq_of_beq hl
    unfold jexec at he
    simp only [] at he
    split at he
    · rename_i v hg
      cases hn : Nat.blt i nL with
      | false => rw [hn] at he; cases he
      | true =>
        rw [hn] at he
        cases he
        exact js_iinc hx hb hd hg hn kk
    · cases he
  | iadd => cases eq_of_beq hl; exact js_op2 (fun H locs ls cells slots x y rest k => lv_iadd hx hb hd k) he kk
  | isub => cases eq_of_beq hl; exact js_op2 (fun H locs ls cells slots x y rest k => lv_isub hx hb hd k) he kk
  | imul => cases eq_of_beq hl; exact js_op2 (fun H locs ls cells slots x y rest k => lv_imul hx hb hd k) he kk
  | iand => cases eq_of_beq hl; exact js_op2 (fun H locs ls cells slots x y rest k => lv_iand hx hb hd k) he kk
  | ior => cases eq_of_beq hl; exact js_op2 (fun H locs ls cells slots x y rest k => lv_ior hx hb hd k) he kk
  | ixor => cases eq_of_beq hl; exact js_op2 (fun H locs ls cells slots x y rest k => lv_ixor hx hb hd k) he kk
  | ishl => cases eq_of_beq hl; exact js_op2 (fun H locs ls cells slots x y rest k => lv_ishl hx hb hd k) he kk
  | ishr => cases eq_of_beq hl; exact js_op2 (fun H locs ls cells slots x y rest k => lv_ishr hx hb hd k) he kk
  | iushr => cases eq_of_beq hl; exact js_op2 (fun H locs ls cells slots x y rest k => lv_iushr hx hb hd rfl k) he kk
  | iaload => cases eq_of_beq hl; exact js_ald hx hb hK hd he kk
  | iastore => cases eq_of_beq hl; exact js_ast hx hb hK hA hd he kk
  | aaload => cases eq_of_beq hl; exact js_aald hx hb hK hd he kk
  | aastore => cases eq_of_beq hl; exact js_aast hx hb hK hA hd he kk
  | arraylength => cases eq_of_beq hl; exact js_len hx hb hK hd he kk
  | ineg => cases eq_of_beq hl; exact js_op1 (fun H locs ls cells slots x rest k => lv_ineg hx hb hd k) he kk
  | i2b => cases eq_of_beq hl; exact js_op1 (fun H locs ls cells slots x rest k => lv_i2b hx hb hd rfl k) he kk
  | i2s => cases eq_of_beq hl; exact js_op1 (fun H locs ls cells slots x rest k => lv_i2s hx hb hd rfl k) he kk
  | i2c => cases eq_of_beq hl; exact js_op1 (fun H locs ls cells slots x rest k => lv_i2c hx hb hd rfl k) he kk
  | ladd => cases eq_of_beq hl; exact js_op2L (fun H locs ls cells slots x y rest k => lv_ladd hx hb hd k) he kk
  | lmul => cases eq_of_beq hl; exact js_op2L (fun H locs ls cells slots x y rest k => lv_lmul hx hb hd k) he kk
  | land => cases eq_of_beq hl; exact js_op2L (fun H locs ls cells slots x y rest k => lv_land hx hb hd k) he kk
  | lor => cases eq_of_beq hl; exact js_op2L (fun H locs ls cells slots x y rest k => lv_lor hx hb hd k) he kk
  | lshl => cases eq_of_beq hl; exact js_shL (fun H locs ls cells slots x y rest k => lv_lshl hx hb hd rfl k) he kk
  | lshr => cases eq_of_beq hl; exact js_shL (fun H locs ls cells slots x y rest k => lv_lshr hx hb hd rfl k) he kk
  | lushr => cases eq_of_beq hl; exact js_shL (fun H locs ls cells slots x y rest k => lv_lushr hx hb hd rfl k) he kk
  | i2l =>
    cases eq_of_beq hl
    unfold jexec at he
    simp only [] at he
    split at he
    · cases he
      exact js_st (fun H locs ls cells slots k => lv_i2l hx hb hd rfl k) kk
    · cases he
  | l2i =>
    cases eq_of_beq hl
    unfold jexec at he
    simp only [] at he
    split at he
    · cases he
      exact js_st (fun H locs ls cells slots k => lv_l2i hx hb hd rfl k) kk
    · cases he
  | idiv =>
    cases eq_of_beq hl
    unfold jexec at he
    simp only [] at he
    split at he
    · split at he
      · cases he
      · rename_i hne
        cases he
        exact js_st (fun H locs ls cells slots k => lv_idiv hx hb hd hne k) kk
    · cases he
  | irem =>
    cases eq_of_beq hl
    unfold jexec at he
    simp only [] at he
    split at he
    · split at he
      · cases he
      · rename_i hne
        cases he
        exact js_st (fun H locs ls cells slots k => lv_irem hx hb hd hne k) kk
    · cases he
  | ldiv =>
    cases eq_of_beq hl
    unfold jexec at he
    simp only [] at he
    split at he
    · split at he
      · cases he
      · rename_i hne
        cases he
        exact js_st (fun H locs ls cells slots k => lv_ldiv hx hb hd hne k) kk
    · cases he
  | lcmp =>
    cases eq_of_beq hl
    unfold jexec at he
    simp only [] at he
    split at he
    · cases he
      exact js_st (fun H locs ls cells slots k => W.lcmp hx hb hd k) kk
    · cases he
  | dup =>
    cases eq_of_beq hl
    unfold jexec at he
    simp only [] at he
    split at he
    · cases he
      exact js_st (fun H locs ls cells slots k => lv_dup hx hb hd rfl k) kk
    · cases he
      exact js_st (fun H locs ls cells slots k => lv_dup hx hb hd rfl k) kk
    · cases he
  | pop =>
    cases eq_of_beq hl
    unfold jexec at he
    simp only [] at he
    split at he
    · cases he
      exact js_st (fun H locs ls cells slots k => lv_pop hx hb hd rfl k) kk
    · cases he
      exact js_st (fun H locs ls cells slots k => lv_pop hx hb hd rfl k) kk
    · cases he
  | dup2 =>
    cases eq_of_beq hl
    unfold jexec at he
    simp only [] at he
    split at he
    · cases he
      exact js_st (fun H locs ls cells slots k => lv_dup2_11 hx hb hd rfl rfl k) kk
    · cases he
      exact js_st (fun H locs ls cells slots k => lv_dup2_11 hx hb hd rfl rfl k) kk
    · cases he
  | goto off => cases eq_of_beq hl; cases he; exact js_st (fun H locs ls cells slots k => lv_goto hx hb hd hext k) kk
  | ifCond q off => cases eq_of_beq hl; exact js_if hx hb hd hext he kk
  | if_icmp q off => cases eq_of_beq hl; exact js_icmp hx hb hd hext he kk
  | tableswitch d lo hi offs => exact js_tsw hx hb hd he kk
  | lookupswitch d ps => exact js_lsw hx hb hd he kk
  | getfield i =>
    cases eq_of_beq hl
    rcases hext with ⟨hc9, hext⟩ | ⟨hc9, hext⟩
    · have hc9 : c9 = 0 := hc9
      subst hc9
      exact js_get hx hb hts hG hown hK hd hext he kk
    · have hc9 : c9 = 9 := hc9
      subst hc9
      exact js_getk hx hb hts hG hown hK hd hext he kk
  | baload => cases eq_of_beq hl; exact js_bald hx hb hK hd he kk
  | putfield i => cases eq_of_beq hl; exact js_put hx hb hts hG hown hK hA hin hd hext he kk
  | getstatic i =>
    cases eq_of_beq hl
    rcases hext with ⟨hb9, hw⟩ | ⟨hb9, hext⟩
    · have hb9 : b = 9 := hb9
      subst hb9
      have he : jgo (pc + 3) L (.int 1 :: st) h = some (.inl x') := he
      cases he
      intro hz H locs ls cells slots h1 h2 hl hP hS
      exact va_gets hx hb hK.2.2.2.2.2.2.2.2.2.1 hS hown (hts _ (hG _ hw)) (fun _ h9 => h9) hd (kk hz H locs ls cells slots h1 h2 hl hP hS)
    have hb9 : b = 0 := hb9
    subst hb9
    obtain ⟨q, hq, hw⟩ := hext
    have he : jgo (pc + 3) L (.ref (jK0 + a) :: st) h = some (.inl x') := he
    cases he
    intro hz H locs ls cells slots h1 h2 hl hP hS
    have k2 : W p l e R s m args below meth c H locs cells slots Q (F0 m (pc + 3) ls (.ref (jad base ca (jK0 + a)) :: st.map (jv (jad base ca)))) := kk hz H locs ls cells slots h1 h2 hl hP hS
    rw [jad_k] at k2
    exact va_gets hx hb (hK.2.2.1 a _ hq) hS hown (hts _ (hG _ hw)) (fun _ h9 => h9) hd k2
  | new i => cases eq_of_beq hl; exact js_new hx hb hts hG hown hK hA hbase hd hext he hR1 hR2 kk
  | newarray t =>
    cases eq_of_beq hl
    obtain ⟨h1, h2⟩ := hext
    have h1 : t = .int := h1
    subst h1
    exact js_newa hx hb hts hG hK hA hbase hd h2 he hR1 hR2 kk
  | anewarray i => cases eq_of_beq hl; exact js_newq hx hb hts hG hown hK hA hbase hd hext he hR1 hR2 kk
  | multianewarray i n =>
    cases eq_of_beq hl
    obtain ⟨h1, h2⟩ := hext
    have h1 : n = 2 := h1
    subst h1
    exact js_newg hx hb hts hG hown hK hA hbase hd h2 he hR1 hR2 kk
  | invokevirtual i =>
    cases eq_of_beq hl
    rcases hext with ⟨hk9, hext⟩ | ⟨hk9, hext⟩
    · have hk9 : k = 0 := hk9
      subst hk9
      exact js_callV hx hb hml hts hG hgd hown hK hbase hM hfr hlo hA hd hext he hz0 hR1 hR2 kk
    · have hk9 : k = 9 := hk9
      subst hk9
      exact js_callK hx hb hml hts hG hgd hown hK hbase hM hfr hlo hA hd hext he hz0 hR1 hR2 kk
  | invokespecial i =>
    cases eq_of_beq hl
    rcases hext with ⟨hc9, w1, w2, w3⟩ | ⟨hc9, hext⟩
    · have hc9 : c9 = 1 := hc9
      subst hc9
      unfold jexec at he
      simp only [BEq.rfl, cond_true] at he
      split at he
      · split at he
        · rename_i h9
          cases he
          intro hz H locs ls cells slots h1 h2 hl hP hS
          exact W.objInit hx hb hown (hts _ (hG _ w1)) (hts _ (hG _ w2)) (hts _ (hG _ w3)) rfl (by rw [hml]; exact hl.1) rfl hd (by omega) (by rw [jv_sum]; show 2 * 0 + _ + 12 ≤ R.locals; omega) (kk hz H locs ls cells slots h1 h2 hl hP hS)
        · cases he
      · cases he
    · have hc9 : c9 = 0 := hc9
      subst hc9
      have he : jinvI call a b (pc + 3) L st h = some (.inl x') := he
      unfold jinvI at he
      split at he
      · rename_i hrv
        exact js_callI hx hb hml hts hG hgd hown hK hbase hM hfr hlo hd hext hrv he hz0 hR1 hR2 kk
      · cases he
  | invokestatic i =>
    cases eq_of_beq hl
    rcases hext with ⟨hc9, w⟩ | ⟨hc9, hext⟩
    · have hc9 : c9 = 1 := hc9
      subst hc9
      exact js_copy hx hb hml hts hG hown hK hA (by omega) (by omega) hd w he kk
    · have hc9 : c9 = 0 := hc9
      subst hc9
      exact js_callS hx hb hml hts hG hgd hown hK hbase hM hfr hlo hd hext he hz0 hR1 hR2 kk
  | ireturn =>
    unfold jexec jret at he
    simp only [] at he
    repeat' split at he
    all_goals (cases he)
  | areturn =>
    unfold jexec jretA at he
    simp only [] at he
    repeat' split at he
    all_goals (cases he)
  | lreturn =>
    unfold jexec jretL at he
    simp only [] at he
    repeat' split at he
    all_goals (cases he)
  | return_ =>
    unfold jexec jretV at he
    simp only [] at he
    repeat' split at he
    all_goals (cases he)
  | _ => exact nomatch (show (none : jO) = some (.inl x') from he)
end JF
