/-! BOTH READERS: THE WHOLE TEXT -/
theorem one_S {u sz : Nat} {B : Nat → Nat} {m0 mr0 : Mem} (X : CX u sz B m0 mr0) : ∀ h n n' o x1, h ≤ n → h ≤ n' → o + h = 5 → x1 ≤ o → ∀ p L m mr z, h < z → GD sz m0 mr0 o p L m mr → ∃ m' mr', lp (lX2_single_2 (nX2_single n) (o32 x1)) z (o32 o, m) = NT (o - x1) m' ∧ nX9_one (n' + 1) mr = some mr' ∧ OK1 sz m0 mr0 o p L m' mr' := by
  intro h
  induction h with
  | zero =>
    intro n n' o x1 hn hn' ho hx p L m mr z hz hg
    obtain ⟨z, rfl⟩ : ∃ y, z = y + 1 := ⟨z - 1, by omega⟩
    obtain ⟨m', mr', a1, a2, a3⟩ := plain_R (e := nX2_single n) (g := nX9_one n') X (show o ≤ 5 by omega) hx (fun q => absurd q (by omega)) hg (fun _ => by omega)
    refine ⟨m', mr', ?_, a2, a3⟩
    have s1 : lX2_single_2 (nX2_single n) (o32 x1) (o32 o, m) = (bX2_single_32 (nX2_single n) (o32 x1) (o32 o) m).map Sum.inr := by
      unfold lX2_single_2
      dsimp only
      rw [if_pos (show (5 : Int32) ≤ o32 o by rw [show o = 5 by omega]; decide)]
    unfold lp
    rw [s1, a1]
    cases NT (o - x1) m' <;> rfl
  | succ h ih =>
    intro n n' o x1 hn hn' ho hx p L m mr z hz hg
    obtain ⟨z, rfl⟩ : ∃ y, z = y + 1 := ⟨z - 1, by omega⟩
    have le5 : ¬ (5 : Int32) ≤ o32 o := by rw [show (5 : Int32) = o32 5 from rfl, o_le (by omega) (by omega)]; omega
    have t1 := nI_g (n := 0) X hg 33
    by_cases c : bt sz B p = 33
    · have ps : p < sz := ((bt_255 (n := 33) X (by omega)).mp c).1
      rw [if_pos c] at t1
      have s1 : lX2_single_2 (nX2_single n) (o32 x1) (o32 o, m) = some (.inl (o32 (o + 1), mput m 118 0 (m 118 0 + 1))) := by
        unfold lX2_single_2
        dsimp only
        rw [if_neg le5, t1, Option.bind_some, if_neg one0, o_s]
      rw [lp_i s1]
      obtain ⟨n', rfl⟩ : ∃ y, n' = y + 1 := ⟨n' - 1, by omega⟩
      have G := adv_g (open_g hg (o + 1)) ps
      obtain ⟨m', mr', a1, a2, a3⟩ := ih n n' (o + 1) x1 (by omega) (by omega) (by omega) (by omega) _ _ _ _ z (by omega) G
      have h5 := hg.2.2.2.2.2.1
      have h6 := hg.2.2.2.2.2.2.1
      have h3 := hg.2.2.2.1
      have m7 : (mput mr 137 8 (o32 (o + 1))) 137 7 + 1 = o32 (p + 1) := by rw [mput_get, if_neg (by omega), h3, o_s]
      have ne5 : ¬ o32 o = 5 := fun q => by have := (o_eq (b := 5) (by omega) (by omega)).mp q; omega
      have e1 : nX9_one (n' + 1 + 1) mr = (fX9_codes 20010 mr').bind fun q4 => bX9_one_103 (nX9_one (n' + 1)) q4 := by
        show fX9_one (nX9_one (n' + 1)) mr = _
        unfold fX9_one
        rw [(nx_g X hg).2, Option.bind_some, c, if_pos rfl]
        unfold bX9_one_17
        rw [h6, if_neg ne5]
        unfold bX9_one_31
        rw [if_pos (.inl rfl), mput_self h5, if_pos h5, if_pos rfl, h6, o_s, m7, a2, Option.bind_some]
      have os : ∀ M : Mem, M 137 8 = o32 (o + 1) → bX9_one_103 (nX9_one (n' + 1)) M = some (mput M 137 8 (o32 o)) := fun M e => by
        unfold bX9_one_103
        rw [e, show o32 (o + 1) - 1 = o32 (o + 1 - 1) from o_sub (b := 1) (by omega) (by omega), Nat.add_sub_cancel]
      rw [a1, e1, show o + 1 - x1 = o - x1 + 1 by omega]
      rcases a3 with ⟨p', S, r1, r2, r3, r4⟩ | bd
      · have hl := hg.2.2.2.2.2.2.2.1
        obtain ⟨m2, mr2, n1, n2, n3⟩ := note_g (t := 20010) r4 X.2.1 (by rw [List.length_append]; omega)
        have n1 : fX2_note (fX5_ofSign 33) m' = some m2 := n1
        have n2 : fX9_codes 20010 mr' = some mr2 := n2
        rw [NT_s n1, n2, Option.bind_some, os _ n3.2.2.2.2.2.2.1]
        refine ⟨m2, _, rfl, rfl, .inl ⟨p', S ++ [20010], by omega, by rw [List.length_append, List.length_singleton]; omega, SG_not r3, ?_⟩⟩
        rw [← List.append_assoc]
        exact open_g n3 o
      · obtain ⟨m2, mr2, n1, n2, n3⟩ := note_b bd (fX5_ofSign 33) 20010
        rw [NT_s n1, n2, Option.bind_some]
        unfold bX9_one_103
        exact ⟨m2, _, rfl, rfl, .inr (open_b n3 _)⟩
    · rw [if_neg c] at t1
      have E : SPEC sz m0 mr0 (o + 1) (fX2_either (nX2_single n) (o32 (o + 1))) (fX9_either (nX9_one n')) := by
        obtain ⟨n, rfl⟩ : ∃ y, n = y + 1 := ⟨n - 1, by omega⟩
        obtain ⟨n', rfl⟩ : ∃ y, n' = y + 1 := ⟨n' - 1, by omega⟩
        refine either_S X ⟨fun p L m mr hg => ?_, fun m mr hb => ?_⟩
        · obtain ⟨m', mr', a1, a2, a3⟩ := ih n n' (o + 1) (o + 1) (by omega) (by omega) (by omega) (Nat.le_refl _) p L m mr fu (lt_fu (by omega)) hg
          rw [Nat.sub_self] at a1
          exact ⟨m', mr', a1, a2, a3⟩
        · exact one_b hb
      obtain ⟨m', mr', a1, a2, a3⟩ := plain_R (e := nX2_single n) (g := nX9_one n') X (show o ≤ 5 by omega) hx (fun _ => E) hg (fun q => absurd q c)
      refine ⟨m', mr', ?_, a2, a3⟩
      have s1 : lX2_single_2 (nX2_single n) (o32 x1) (o32 o, m) = (bX2_single_32 (nX2_single n) (o32 x1) (o32 o) m).map Sum.inr := by
        unfold lX2_single_2
        dsimp only
        rw [if_neg le5, t1, Option.bind_some, if_pos rfl]
      unfold lp
      rw [s1, a1]
      cases NT (o - x1) m' <;> rfl
theorem all_S {u sz : Nat} {B : Nat → Nat} {m0 mr0 : Mem} (X : CX u sz B m0 mr0) : SPEC sz m0 mr0 0 (fX2_either (nX2_single 8) 0) (fX9_either (nX9_one 8)) := by
  refine either_S (o := 0) X ⟨fun p L m mr hg => ?_, fun m mr hb => ?_⟩
  · obtain ⟨m', mr', a1, a2, a3⟩ := one_S X 5 7 7 0 0 (by omega) (by omega) (by omega) (Nat.le_refl _) p L m mr fu (lt_fu (by omega)) hg
    exact ⟨m', mr', a1, a2, a3⟩
  · exact one_b hb
