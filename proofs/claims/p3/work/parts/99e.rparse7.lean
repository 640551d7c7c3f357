/-! BOTH READERS: ONE VALUE, ALL OF IT -/
def OK1 (sz : Nat) (m0 mr0 : Mem) (o p : Nat) (L : List Nat) (m mr : Mem) : Prop := (∃ p' S, p < p' ∧ S.length ≤ p' - p ∧ SG S ∧ GD sz m0 mr0 o p' (L ++ S) m mr) ∨ BD sz m0 mr0 m mr
theorem bad_end {u sz o p x1 : Nat} {B : Nat → Nat} {m0 mr0 m mr : Mem} {L : List Nat} {e : Int32 → Mem → Option Mem} (X : CX u sz B m0 mr0) (ho : o ≤ 5) (hx : x1 ≤ o) (h : GD sz m0 mr0 o p L m mr) : ∃ m' mr', bX2_single_138 e (o32 x1) (o32 o) m = NT (o - x1) m' ∧ some (mput mr 137 10 1) = some mr' ∧ OK1 sz m0 mr0 o p L m' mr' := ⟨_, _, nots_f _ hx (by omega), rfl, .inr (wrong_g h X.2.1)⟩
theorem m218 {g : Mem → Option Mem} {x : Int32} (mr : Mem) : bX9_one_218 g x 1 mr = some (mput mr 137 10 1) := by
  unfold bX9_one_218
  rw [if_pos (.inr rfl), mput_at, if_neg one0]
theorem m31b {g : Mem → Option Mem} {x : Int32} (mr : Mem) : bX9_one_31 g x 1 mr = some (mput mr 137 10 1) := by
  unfold bX9_one_31
  rw [if_pos (.inr rfl), mput_at, if_neg one0]
theorem m200 {g : Mem → Option Mem} {mr : Mem} (h : mr 137 10 = 0) : bX9_one_200 g (-1) mr = some (mput mr 137 10 1) := by
  unfold bX9_one_200
  rw [if_pos h, if_neg (show ¬ (0 : Int32) ≤ -1 by decide), m218]
theorem plain_R {u sz o p x1 : Nat} {B : Nat → Nat} {m0 mr0 m mr : Mem} {L : List Nat} {e : Int32 → Mem → Option Mem} {g : Mem → Option Mem} (X : CX u sz B m0 mr0) (ho : o ≤ 5) (hx : x1 ≤ o) (hE : o < 5 → SPEC sz m0 mr0 (o + 1) (fX2_either e (o32 (o + 1))) (fX9_either g)) (h : GD sz m0 mr0 o p L m mr) (hs : bt sz B p = 33 → o = 5) : ∃ m' mr', bX2_single_32 e (o32 x1) (o32 o) m = NT (o - x1) m' ∧ fX9_one g mr = some mr' ∧ OK1 sz m0 mr0 o p L m' mr' := by
  obtain ⟨x1', x2'⟩ := nx_g X h
  have H := h
  obtain ⟨⟨f1, f2⟩, h1, h2, h3, h4, h5, h6, h7, h8, h9, h10⟩ := H
  have s5 : m 118 5 = o32 (11 + u) := (f1 118 5 (by omega) (by omega)).trans X.2.2.2.2.1
  have s9 : mr 137 9 = o32 u := (f2 137 9 (by omega) (by omega)).trans X.2.2.2.2.2.2.2.2
  have st : (o32 (11 + u)).toNatClampNeg = 11 + u := o_tn (by have := X.1; omega)
  unfold bX2_single_32 fX9_one
  rw [x1', x2', Option.bind_some, Option.bind_some]
  rcases bt_cases X p with b | ⟨c, c1, ps, b⟩
  · rw [b, if_neg (show ¬ (0 : Int32) ≤ -1 by decide), if_neg (show ¬ (-1 : Int32) = 33 by decide), if_neg (show ¬ (-1 : Int32) = 40 by decide), if_pos (show fX9_within (-1) 48 57 = 0 by decide), if_neg (show ¬ (0 : Int32) ≤ -1 by decide), m200 h5]
    unfold bX2_single_54 bX2_single_103
    rw [if_pos (show fX2_isDigit (-1) = 0 by decide), if_pos (show (-1 : Int32) < 0 by decide), if_neg (show ¬ (-1 : Int32) = 40 by decide)]
    exact bad_end X ho hx h
  · have ge : (0 : Int32) ≤ o32 c := by rw [show (0 : Int32) = o32 0 from rfl, o_le (by omega) (by omega)]; omega
    have e33 : o32 c = 33 ↔ c = 33 := o_eq (b := 33) (by omega) (by omega)
    have e40 : o32 c = 40 ↔ c = 40 := o_eq (b := 40) (by omega) (by omega)
    have wi : fX9_within (o32 c) 48 57 = _ := within_o (l := 48) (h := 57) (x := c) (by omega) (by omega) (by omega)
    rw [b] at hs ⊢
    rw [if_pos ge, s5, if_pos (show strq (o32 (11 + u)).toNatClampNeg from str_u X.1), st, name_c X.1 c1, Option.bind_some]
    unfold bX2_single_54
    rw [dig_w]
    by_cases dg : 48 ≤ c ∧ c ≤ 57
    · have w : ¬ fX9_within (o32 c) 48 57 = 0 := by rw [wi, if_pos dg]; exact one0
      have q33 : ¬ o32 c = 33 := fun q => by have := e33.mp q; omega
      have q40 : ¬ o32 c = 40 := fun q => by have := e40.mp q; omega
      rw [if_neg w, if_neg w, if_neg q33, if_neg q40]
      obtain ⟨m', mr', n1, n2, p', v, n3, n4, n5⟩ := number_R (g := g) X h b dg.1 dg.2
      rw [n1, n2, Option.bind_some]
      exact ⟨m', mr', nots_f _ hx (by omega), rfl, .inl ⟨p', [v], by omega, by rw [List.length_singleton]; omega, SG_one (by omega), n5⟩⟩
    · have w : fX9_within (o32 c) 48 57 = 0 := by rw [wi, if_neg dg]
      rw [if_pos w, if_pos w, if_pos ge, name_m X.1 c1 s9, Option.bind_some]
      rcases nm_5 X.1 c1 with v | ⟨k, k5, v⟩
      · rw [v, if_pos (show (-1 : Int32) < 0 by decide), m200 h5]
        unfold bX2_single_103
        by_cases c40 : c = 40
        · have q33 : ¬ o32 c = 33 := fun q => by have := e33.mp q; omega
          rw [if_pos (e40.mpr c40), if_neg q33, if_pos (e40.mpr c40)]
          unfold bX9_one_17
          rw [h6]
          by_cases o5 : o = 5
          · rw [if_pos (show (5 : Int32) ≤ o32 o by rw [o5]; decide), if_pos (show o32 o = 5 by rw [o5]; rfl), m31b]
            exact bad_end X ho hx h
          · have le5 : ¬ (5 : Int32) ≤ o32 o := by rw [show (5 : Int32) = o32 5 from rfl, o_le (by omega) (by omega)]; omega
            have ne5 : ¬ o32 o = 5 := fun q => o5 ((o_eq (b := 5) (by omega) (by omega)).mp q)
            rw [if_neg le5, if_neg ne5]
            unfold bX9_one_31
            rw [if_pos (.inl rfl), mput_self h5, if_pos h5, if_neg q33, h6, o_s]
            have m7 : (mput mr 137 8 (o32 (o + 1))) 137 7 + 1 = o32 (p + 1) := by rw [mput_get, if_neg (by omega), h3, o_s]
            rw [m7]
            have G := adv_g (open_g h (o + 1)) ps
            obtain ⟨mE, mrE, q1, q2, q3⟩ := (hE (by omega)).1 _ _ _ _ G
            rw [q1, q2, Option.bind_some, Option.bind_some]
            rcases q3 with ⟨p', S, r1, r2, r3, r4⟩ | bd
            · obtain ⟨m', mr', t1, t2, t3⟩ := close_R (g := g) X r4 (by omega)
              rw [t1, Option.bind_some]
              refine ⟨m', mr', nots_f _ hx (by omega), t2, ?_⟩
              rcases t3 with t3 | t3
              · exact .inl ⟨p' + 1, S, by omega, by omega, r3, t3⟩
              · exact .inr t3
            · obtain ⟨m', mr', t1, t2, t3⟩ := close_B (g := g) bd
              rw [t1, Option.bind_some]
              exact ⟨m', mr', nots_f _ hx (by omega), t2, .inr t3⟩
        · have q40 : ¬ o32 c = 40 := fun q => c40 (e40.mp q)
          rw [if_neg q40]
          by_cases c33 : c = 33
          · have o5 := hs (e33.mpr c33)
            rw [if_pos (e33.mpr c33)]
            unfold bX9_one_17
            rw [if_pos (show mr 137 8 = 5 by rw [h6, o5]; rfl), m31b]
            exact bad_end X ho hx h
          · have q33 : ¬ o32 c = 33 := fun q => c33 (e33.mp q)
            rw [if_neg q33, if_neg q40]
            exact bad_end X ho hx h
      · have n5 : ∀ k, k < 5 → ¬ o32 k = -1 := by decide
        have nn : nmV u c ≠ -1 := fun q => n5 k k5 (v.symm.trans q)
        have c33 : ¬ c = 33 := fun q => nn (by rw [q]; exact (nm_sg u X.1).1)
        have c40 : ¬ c = 40 := fun q => nn (by rw [q]; exact (nm_sg u X.1).2)
        have k1 : ∀ k, k < 5 → ¬ o32 k < 0 ∧ ¬ (5 : Int32) ≤ o32 k ∧ 0 ≤ o32 k ∧ fX5_ofName (o32 k) = ctok (10000 + k) ∧ (10000 : Int32) + o32 k = o32 (10000 + k) := by decide
        obtain ⟨k2, k3, k4, k6, k7⟩ := k1 k k5
        have q33 : ¬ o32 c = 33 := fun q => c33 (e33.mp q)
        have q40 : ¬ o32 c = 40 := fun q => c40 (e40.mp q)
        rw [v, if_neg k2, if_neg k3, if_neg q33, if_neg q40, k6]
        unfold bX9_one_200 bX9_one_218
        rw [if_pos h5, if_pos k4, if_pos (.inl rfl), mput_self h5, if_pos h5, k7]
        have ad := adv_g h ps
        obtain ⟨m', mr', n1, n2, n3⟩ := note_g (t := 10000 + k) ad X.2.1 (by omega)
        have s60 := X.2.1
        rw [codes_p _ (o32 (p + 1)) h5 (fun q hq => by
          unfold fX9_codes at hq
          rw [if_pos h5, h9, if_pos (o_inb (show L.length < 60 by omega) (by omega))] at hq
          cases hq
          rw [mput_get, if_neg (by omega), mput_get, if_neg (by omega), h3, o_s]), n1, n2, Option.bind_some]
        exact ⟨m', mr', nots_f _ hx (by omega), rfl, .inl ⟨p + 1, [10000 + k], by omega, by rw [List.length_singleton]; omega, SG_one (by omega), n3⟩⟩
theorem one_b {sz n n' o : Nat} {m0 mr0 m mr : Mem} (h : BD sz m0 mr0 m mr) : ∃ m' mr', nX2_single (n + 1) (o32 o) m = some m' ∧ nX9_one (n' + 1) mr = some mr' ∧ BD sz m0 mr0 m' mr' := by
  obtain ⟨z, hz⟩ : ∃ y, fu = y + 1 := ⟨fu - 1, by have := lt_fu (n := 1) (by omega); omega⟩
  have L0 : lp (lX2_single_146 (nX2_single n) (o32 o)) fu (o32 o, m) = some m := by
    rw [hz]
    refine lp_e ?_
    unfold lX2_single_146
    dsimp only
    rw [if_pos (Int32.le_refl _)]
  have b32 : bX2_single_32 (nX2_single n) (o32 o) (o32 o) m = some m := by
    unfold bX2_single_32
    rw [(nx_b h).1, Option.bind_some, if_neg (show ¬ (0 : Int32) ≤ -1 by decide)]
    unfold bX2_single_54 bX2_single_103 bX2_single_138
    rw [if_pos (show fX2_isDigit (-1) = 0 by decide), if_pos (show (-1 : Int32) < 0 by decide), if_neg (show ¬ (-1 : Int32) = 40 by decide), (wrong_b h).1, L0]
  refine ⟨m, mr, ?_, ?_, h⟩
  · show fX2_single (nX2_single n) (o32 o) m = _
    unfold fX2_single
    rw [hz]
    refine lp_e ?_
    unfold lX2_single_2
    dsimp only
    rw [nI_b h (by decide), Option.bind_some, if_pos rfl, b32]
    split <;> rfl
  · show fX9_one (nX9_one n') mr = _
    unfold fX9_one
    rw [(nx_b h).2, Option.bind_some, if_neg (show ¬ (-1 : Int32) = 33 by decide), if_neg (show ¬ (-1 : Int32) = 40 by decide), if_pos (show fX9_within (-1) 48 57 = 0 by decide), if_neg (show ¬ (0 : Int32) ≤ -1 by decide)]
    unfold bX9_one_200
    rw [h.2.2.2.1, if_neg one0, m218, (wrong_b h).2]
