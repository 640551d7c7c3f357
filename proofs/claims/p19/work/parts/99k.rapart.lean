/-! APART: BOTH ANSWER -/
theorem apart_n (m : Mem) : ∀ n i x, i + 1 ≤ n → i ≤ 16 → ∃ v, nX3_apartIn_16 n x (o32 i - 1) 123 m = some v := by
  intro n
  induction n with
  | zero => intro i x h; omega
  | succ n ih =>
    intro i x h h16
    show ∃ v, fX3_apartIn_16 (nX3_apartIn_16 n) x (o32 i - 1) 123 m = some v
    unfold fX3_apartIn_16
    by_cases x0 : x = 0
    · rw [if_pos x0]
      exact ⟨_, rfl⟩
    rw [if_neg x0]
    by_cases i0 : i = 0
    · rw [i0, if_pos (show o32 0 - 1 < 0 by decide)]
      exact ⟨_, rfl⟩
    · obtain ⟨i, rfl⟩ : ∃ y, i = y + 1 := ⟨i - 1, by omega⟩
      have e : o32 (i + 1) - 1 = o32 i := by
        rw [show o32 (i + 1) - 1 = o32 (i + 1 - 1) from o_sub (b := 1) (by omega) (by omega), Nat.add_sub_cancel]
      have l16 : o32 i < 16 := by rw [show (16 : Int32) = o32 16 from rfl, o_lt (by omega) (by omega)]; omega
      obtain ⟨v, hv⟩ := ih i (x &&& ((jShl 1 (o32 i)) ^^^ -1)) (by omega) (by omega)
      rw [e, if_neg (not_lt0 (by omega)), if_pos l16, hv, Option.bind_some]
      split
      · exact ⟨_, rfl⟩
      · obtain ⟨v', hv'⟩ := ih i ((x &&& ((jShl 1 (o32 i)) ^^^ -1)) &&& ((m 123 (o32 i).toNatClampNeg) ^^^ -1)) (by omega) (by omega)
        rw [if_pos (o_inb (by omega) (by omega)), hv', Option.bind_some]
        split <;> exact ⟨_, rfl⟩
theorem ap100 {x1 x2 x3 x4 : Int32} {m : Mem} (fl : Int32) : ∃ e, lp (lX9_apart_100 x1 x2 x3 x4 m) fu (fl, 0) = some e ∧ (e = .inl (x3, x4 + 1) ∨ e = .inl (x4, x4 + 1)) := by
  have ex : ∀ v, ∃ e, (bX9_apart_148 x1 x2 x3 x4 v m).map (Sum.inr : _ → (Int32 × Int32) ⊕ ((Int32 × Int32) ⊕ (Int32 × Mem))) = some (.inr e) ∧ (e = .inl (x3, x4 + 1) ∨ e = .inl (x4, x4 + 1)) := fun v => by
    unfold bX9_apart_148
    split
    · exact ⟨_, rfl, .inl rfl⟩
    · exact ⟨_, rfl, .inr rfl⟩
  refine lp_inv (fun s => ∃ j, j ≤ 16 ∧ s.2 = o32 j) (fun s => 100 - s.2.toNatClampNeg) _ (fun s hI => ?_) fu (fl, 0) ⟨0, by omega, rfl⟩ (lt_fu (by show 100 - _ < _; omega))
  obtain ⟨j, j1, j2⟩ := hI
  unfold lX9_apart_100
  rw [j2]
  by_cases c : j = 16
  · right
    rw [if_pos (show (16 : Int32) ≤ o32 j by rw [c]; decide)]
    exact ex _
  · rw [if_neg (not_16 (by omega)), if_pos (o_inb (show j < 16 by omega) (by omega)), o_s]
    by_cases c0 : s.1 = 0
    · right
      rw [if_pos c0]
      exact ex _
    · left
      rw [if_neg c0]
      have st : ∀ v : Int32, ∃ s', (some (.inl (v, o32 (j + 1))) : Option ((Int32 × Int32) ⊕ ((Int32 × Int32) ⊕ (Int32 × Mem)))) = some (.inl s') ∧ (∃ j, j ≤ 16 ∧ s'.2 = o32 j) ∧ 100 - s'.2.toNatClampNeg < 100 - (o32 j).toNatClampNeg := fun v => ⟨_, rfl, ⟨j + 1, by omega, rfl⟩, by rw [o_tn (show j < 2147483648 by omega), show ((v, o32 (j + 1)) : Int32 × Int32).2 = o32 (j + 1) from rfl, o_tn (show j + 1 < 2147483648 by omega)]; omega⟩
      split
      · exact st 1
      · split
        · exact st 1
        · exact st 0
theorem ap63 {x1 : Int32} {n : Nat} {m : Mem} (hn : n < 65536) : ∃ v, lp (lX9_apart_63 x1 (o32 n) m) fu (0, 1) = some (v, m) := by
  have key := lp_inv (body := lX9_apart_63 x1 (o32 n) m) (fun s => ∃ b c, b < 65536 ∧ c ≤ n + 1 ∧ s.1 = o32 b ∧ s.2 = o32 c) (fun s => 65537 - s.2.toNatClampNeg) (fun e => ∃ v, e = (v, m)) (fun s hI => ?_) fu (0, 1) ⟨0, 1, by omega, by omega, rfl, rfl⟩ (lt_fu (by show 65537 - _ < _; omega))
  · obtain ⟨e, e1, v, e2⟩ := key
    exact ⟨v, by rw [e1, e2]⟩
  · obtain ⟨b, c, b1, c1, i1, i2⟩ := hI
    unfold lX9_apart_63
    rw [i1, i2]
    by_cases g : c = n + 1
    · right
      rw [if_pos (by rw [o_lt (by omega) (by omega)]; omega), bits_s b1, Option.bind_some]
      split <;> exact ⟨_, rfl, _, rfl⟩
    · left
      have nl : ¬ o32 n < o32 c := by rw [o_lt (by omega) (by omega)]; omega
      have st : ∀ fl, ∃ s', lp (lX9_apart_100 x1 (o32 n) (o32 b) (o32 c) m) fu (fl, 0) = some (.inl s') ∧ (∃ b c, b < 65536 ∧ c ≤ n + 1 ∧ s'.1 = o32 b ∧ s'.2 = o32 c) ∧ 65537 - s'.2.toNatClampNeg < 65537 - (o32 c).toNatClampNeg := fun fl => by
        obtain ⟨e, e1, e2⟩ := ap100 (x1 := x1) (x2 := o32 n) (x3 := o32 b) (x4 := o32 c) (m := m) fl
        have mu : ∀ y : Int32, 65537 - ((y, o32 c + 1) : Int32 × Int32).2.toNatClampNeg < 65537 - (o32 c).toNatClampNeg := fun y => by
          rw [show ((y, o32 c + 1) : Int32 × Int32).2 = o32 (c + 1) from o_s c, o_tn (show c + 1 < 2147483648 by omega), o_tn (show c < 2147483648 by omega)]
          omega
        rcases e2 with e2 | e2
        · exact ⟨(o32 b, o32 c + 1), by rw [e1, e2], ⟨b, c + 1, b1, by omega, rfl, o_s c⟩, mu _⟩
        · exact ⟨(o32 c, o32 c + 1), by rw [e1, e2], ⟨c, c + 1, by omega, by omega, rfl, o_s c⟩, mu _⟩
      rw [if_neg nl, bits_s b1, bits_s (show c < 65536 by omega), Option.bind_some, Option.bind_some]
      split
      · split
        · exact st 0
        · exact st 1
      · exact st 0
theorem RL_look {mc mr m1 mr1 : Mem} (h : RLx mc mr) (c : ∀ a j, (a < 119 ∨ 129 ≤ a ∨ (a = 125 ∧ j = 1)) → m1 a j = mc a j) (k : ∀ a j, ¬ (148 ≤ a ∧ a ≤ 149) → mr1 a j = mr a j) : RLx m1 mr1 := by
  have hh := h
  obtain ⟨⟨r, al, f, q, w⟩, _⟩ := h
  exact RL_k hh ⟨r, al, f, q, WS_same w (fun a j ha => c a j (by obtain ⟨o, e, ho⟩ := ha; unfold cw at e; omega)) (fun j => k 138 j (by omega))⟩ (fun a j ha => c a j (by omega)) (fun a j ha => k a j (by omega))
theorem apart_o {mc mr : Mem} (h : RLx mc mr) (x : Int32) : Df (fX8_apart x mc) (fX9_apart x mr) := by
  have hh := h
  obtain ⟨⟨r, al, f, q, w⟩, _⟩ := h
  have hg := WS_1 w
  unfold fX8_apart fX9_apart
  rw [wi_eq]
  by_cases z : fX9_within x 0 1 = 0
  · rw [if_pos z, if_pos z]
    exact Sm_Df (err1 hh)
  rw [if_neg z, if_neg z]
  obtain ⟨m1, k1, k2, k3, k4⟩ := look_c (WS_4 w) hg
  obtain ⟨v, hv⟩ := apart_n m1 18 16 (m1 121 3) (by omega) (by omega)
  have hv : nX3_apartIn_16 18 (m1 121 3) 15 123 m1 = some v := hv
  have A : ∃ v, ((fX3_look 0 mc).bind fun q3 => (fX3_mostApart q3).bind fun q4 => (if x = 0 then some ((fJ6_bitCount_0f7a4 q4), q3) else some (q4, q3))) = some (v, m1) := by
    unfold fX3_mostApart
    rw [k1, Option.bind_some, hv, Option.bind_some, Option.bind_some]
    split <;> exact ⟨_, rfl⟩
  obtain ⟨n, n1, n2, n3⟩ := there_s (WS_3 w)
  have B : ∃ v mr1, lp (lX9_apart_23 x (o32 n)) fu (0, mr) = some (v, mr1) ∧ ∀ c j, c ≠ 149 → mr1 c j = mr c j := by
    have key := lp_ix (body := lX9_apart_23 x (o32 n)) (fun i s => s.1 = o32 i ∧ ∀ c j, c ≠ 149 → s.2 c j = mr c j) (fun e => ∀ c j, c ≠ 149 → e.2 c j = mr c j) 16 0 (0, mr) fu ⟨rfl, fun _ _ _ => rfl⟩ (fun i s _ hi hI => ?_) (fun s hI => ?_) (lt_fu (by omega))
    · obtain ⟨e, e1, e2⟩ := key
      exact ⟨e.1, e.2, e1, e2⟩
    · obtain ⟨i1, i2⟩ := hI
      have hs : RS s.2 r al := RS_same (WS_3 w) (fun j _ _ => i2 138 j (by omega))
      have fin : ∀ v, ∃ s', bX9_apart_51 x (o32 n) (o32 i) (o32 i) v s.2 = some (.inl s') ∧ s'.1 = o32 (i + 1) ∧ ∀ c j, c ≠ 149 → s'.2 c j = mr c j := fun v => by
        unfold bX9_apart_51
        rw [if_pos (o_inb (by omega) (by omega)), o_s]
        exact ⟨_, rfl, rfl, fun c j hc => by dsimp only; rw [mput_c _ _ _ hc]; exact i2 c j hc⟩
      unfold lX9_apart_23
      rw [i1, if_neg (not_16 (by omega)), is_s (by omega) hs, Option.bind_some]
      cases ala : al i with
      | false =>
        rw [if_pos (show i01 false = 0 by decide)]
        exact fin _
      | true =>
        rw [if_neg (show ¬ i01 true = 0 by decide), beside_mN hs hg (by omega) ala, Option.bind_some]
        exact fin _
    · obtain ⟨i1, i2⟩ := hI
      obtain ⟨v, hv⟩ := ap63 (x1 := x) (m := s.2) n1
      unfold lX9_apart_23
      rw [i1, if_pos (show (16 : Int32) ≤ o32 (0 + 16) by decide), hv]
      exact ⟨_, rfl, i2⟩
  obtain ⟨v1, e1⟩ := A
  obtain ⟨v2, mr1, e2, e3⟩ := B
  rw [n2, Option.bind_some]
  exact ⟨v1, v2, m1, mr1, e1, e2, RL_look hh (fun a j ha => k2 a j (by omega) (by omega)) (fun a j ha => e3 a j (by omega))⟩
