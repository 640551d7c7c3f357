theorem fndK3 {m : Mem} (h : KI m) (hs : SH m) : ∃ v m', (fX9_finding (-1000003) m).bind (fun q => some (q.1, q.2)) = some (v, m') ∧ KI m' ∧ SH m' := ⟨_, _, by rw [fnd3]; rfl, KI_off h (by omega), SH_off hs (by omega)⟩
theorem SH_put {m : Mem} {k n : Nat} (h : SH m) (hn : n ≤ 24) : SH (mput m 152 k (o32 n)) := fun j hj => by
  by_cases e : j = k
  · exact ⟨n, hn, by rw [mput_get, if_pos ⟨rfl, e⟩]⟩
  · obtain ⟨n', a, b⟩ := h j hj
    exact ⟨n', a, by rw [mput_get, if_neg (fun w => e w.2)]; exact b⟩
theorem sheet89_op {m : Mem} {k n : Nat} (hk : k < 4) (hn : n ≤ 24) (h : KI m) (hs : SH m) : ∃ v m', bX9_sheet_89 (o32 k) (o32 k) (o32 n) m = some (v, m') ∧ KI m' ∧ SH m' := by
  have bk : inb (o32 k) 4 := o_inb hk (by omega)
  have tk : (o32 k).toNatClampNeg = k := o_tn (by omega)
  unfold bX9_sheet_89
  rw [if_pos bk, tk]
  have key := lp_ix (body := lX9_sheet_93 (o32 k)) (fun i s => s.1 = o32 i ∧ KI s.2 ∧ SH s.2) (fun e => KI e.2 ∧ SH e.2) 24 0 ((0 : Int32), mput m 152 k (o32 n)) fu ⟨rfl, KI_off h (by omega), SH_put hs hn⟩ (fun i s _ hi hI => ?_) (fun s hI => ?_) (lt_fu (by omega))
  · obtain ⟨⟨v, m'⟩, e1, e2⟩ := key
    exact ⟨v, m', e1, e2⟩
  · obtain ⟨s1, s2⟩ := s
    obtain ⟨e1, hK, hS⟩ := hI
    dsimp only at e1 hK hS
    subst e1
    have ei : (24 : Int32) * o32 k + o32 i = o32 (24 * k + i) := by
      show o32 24 * o32 k + o32 i = _
      rw [o_mul, o_add]
    have nl : ¬ (24 : Int32) ≤ o32 i := fun z => by
      have := (o_le (a := 24) (by omega) (by omega)).mp z
      omega
    unfold lX9_sheet_93
    dsimp only
    rw [if_neg nl, ei, if_pos (o_inb (by omega) (by omega))]
    exact ⟨_, rfl, by show o32 i + 1 = _; rw [o_s], KI_off hK (by omega), SH_off hS (by omega)⟩
  · obtain ⟨s1, s2⟩ := s
    obtain ⟨e1, hK, hS⟩ := hI
    dsimp only at e1 hK hS
    subst e1
    refine ⟨((1 : Int32), s2), ?_, hK, hS⟩
    unfold lX9_sheet_93
    dsimp only
    rw [if_pos (show (24 : Int32) ≤ o32 (0 + 24) by decide)]
theorem sheet_op {m : Mem} (x y z : Int32) (h : KI m) (hs : SH m) : ∃ v m', fX9_sheet x y z m = some (v, m') ∧ KI m' ∧ SH m' := by
  obtain ⟨no1, _⟩ := fndK h hs
  have no3 := fndK3 h hs
  unfold fX9_sheet
  rcases isSheet_op x with e | ⟨k, hk, ex, e⟩
  · rw [e, Option.bind_some, if_pos rfl]
    exact no1
  · subst ex
    have bk : inb (o32 k) 4 := o_inb hk (by omega)
    have go68 : (y = 0 ∨ ∃ n, n ≤ 24 ∧ z = o32 n) → ∃ v m', bX9_sheet_68 (o32 k) y z m = some (v, m') ∧ KI m' ∧ SH m' := fun hz => by
      unfold bX9_sheet_68
      rw [if_pos bk]
      by_cases y0 : y = 0
      · rw [if_pos y0]
        exact sheet89_op (n := 0) hk (by omega) (KI_off h (by omega)) (SH_off hs (by omega))
      · rw [if_neg y0]
        obtain ⟨n, n24, en⟩ := hz.resolve_left y0
        subst en
        exact sheet89_op hk n24 (KI_off h (by omega)) (SH_off hs (by omega))
    have go36 : ∃ v m', bX9_sheet_36 (o32 k) y z m = some (v, m') ∧ KI m' ∧ SH m' := by
      unfold bX9_sheet_36
      by_cases y0 : y = 0
      · rw [if_pos y0]
        unfold bX9_sheet_51
        rw [if_pos y0]
        exact go68 (.inl y0)
      · rw [if_neg y0]
        by_cases z0 : 0 ≤ z
        · rw [if_pos z0]
          unfold bX9_sheet_51
          rw [if_neg y0]
          by_cases z24 : z ≤ 24
          · rw [if_pos z24]
            refine go68 (.inr ?_)
            rw [Int32.le_iff_toInt_le] at z0 z24
            have e0 : (0 : Int32).toInt = 0 := rfl
            have e24 : (24 : Int32).toInt = 24 := rfl
            refine ⟨z.toInt.toNat, by omega, Int32.toInt_inj.mp ?_⟩
            rw [o_ti (by omega)]
            omega
          · rw [if_neg z24]
            exact no1
        · rw [if_neg z0]
          exact no3
    rw [e, Option.bind_some, if_neg (by decide)]
    split
    · exact go36
    split
    · exact go36
    split
    · exact go36
    split
    · exact go36
    · unfold bX9_sheet_29
      exact no1
