/-! VOICE: BOTH ANSWER ALIKE: A CALL, ON BOTH SIDES -/
/-- both return: alike where nothing went wrong, else both know that it did -/
noncomputable def RPq (mc mr : Mem) (ac am : Option (Int32 × Mem)) : Prop := ∃ u mc' u' mr', ac = some (u, mc') ∧ am = some (u', mr') ∧ FV mc mc' ∧ FB mr mr' ∧ ((mc 125 0 = 0 ∧ mr 137 21 = 0 ∧ mc' 125 0 = 0 ∧ mr' 137 21 = 0 ∧ u = u') ∨ (mc' 125 0 = 1 ∧ mr' 137 21 = 1))
noncomputable def FLq (mc mr : Mem) : Prop := (mc 125 0 = 0 ∧ mr 137 21 = 0) ∨ (mc 125 0 = 1 ∧ mr 137 21 = 1)
/-- who is asked, and of what kind -/
noncomputable def GSq (a w : Nat) (g : Int32) (mc mr : Mem) : Prop := (mc 125 5 = o32 a ∧ mc 125 6 = g ∧ mc 125 7 = o32 w ∧ ∃ t, t ≤ 30 ∧ mc 125 4 = o32 t) ∧ mr 137 20 = o32 a ∧ mr 138 (12 + 50 * a + 1) = o32 w ∧ mr 138 (12 + 50 * a + 4) = g ∧ ∃ t, t ≤ 30 ∧ mr 137 19 = o32 t
theorem GS_on {a w : Nat} {g : Int32} {mc mr mc' mr' : Mem} (h : GSq a w g mc mr) (f1 : FV mc mc') (f2 : FB mr mr') : GSq a w g mc' mr' := ⟨⟨(f1.1 125 5 (by omega) (by omega)).trans h.1.1, (f1.1 125 6 (by omega) (by omega)).trans h.1.2.1, (f1.1 125 7 (by omega) (by omega)).trans h.1.2.2.1, f1.2⟩, (f2.1 137 20 (by omega) (by omega)).trans h.2.1, (f2.1 138 _ (by omega) (by omega)).trans h.2.2.1, (f2.1 138 _ (by omega) (by omega)).trans h.2.2.2.1, f2.2⟩
theorem GS_F1 {a w : Nat} {g : Int32} {mc mr : Mem} (h : GSq a w g mc mr) : FV mc mc := ⟨fun _ _ _ _ => rfl, h.1.2.2.2⟩
theorem GS_F2 {a w : Nat} {g : Int32} {mc mr : Mem} (h : GSq a w g mc mr) : FB mr mr := ⟨fun _ _ _ _ => rfl, h.2.2.2.2⟩
theorem RP_FL {mc mr mc' mr' : Mem} {u u' : Int32} (h : (mc 125 0 = 0 ∧ mr 137 21 = 0 ∧ mc' 125 0 = 0 ∧ mr' 137 21 = 0 ∧ u = u') ∨ (mc' 125 0 = 1 ∧ mr' 137 21 = 1)) : FLq mc' mr' := by
  rcases h with h | h
  · exact .inl ⟨h.2.2.1, h.2.2.2.1⟩
  · exact .inr h
theorem RP_1 {mc mr : Mem} {A B : Option (Int32 × Mem)} {g1 g2 : Int32 → Mem → Int32} (h : RPq mc mr A B) (hg : ∀ u M M', FV mc M → FB mr M' → g1 u M = g2 u M') : RPq mc mr (A.bind fun q => some (g1 q.1 q.2, q.2)) (B.bind fun q => some (g2 q.1 q.2, q.2)) := by
  obtain ⟨u, mc', u', mr', e1, e2, f1, f2, h⟩ := h
  rw [e1, e2]
  refine ⟨_, _, _, _, rfl, rfl, f1, f2, ?_⟩
  rcases h with ⟨a1, a2, a3, a4, a5⟩ | h
  · exact .inl ⟨a1, a2, a3, a4, by rw [a5]; exact hg u' mc' mr' f1 f2⟩
  · exact .inr h
theorem RP_2 {mc mr : Mem} {A B : Option (Int32 × Mem)} {b b' : Mem → Option (Int32 × Mem)} {g : Int32 → Int32 → Int32} (h : RPq mc mr A B) (hb : ∀ M M', FV mc M → FB mr M' → FLq M M' → RPq M M' (b M) (b' M')) : RPq mc mr (A.bind fun q => (b q.2).bind fun p => some (g q.1 p.1, p.2)) (B.bind fun q => (b' q.2).bind fun p => some (g q.1 p.1, p.2)) := by
  obtain ⟨u, mc', u', mr', e1, e2, f1, f2, h⟩ := h
  obtain ⟨v, md, v', ms, e3, e4, f3, f4, h'⟩ := hb mc' mr' f1 f2 (RP_FL h)
  rw [e1, e2, Option.bind_some, Option.bind_some]
  dsimp only
  rw [e3, e4]
  refine ⟨_, _, _, _, rfl, rfl, FV_tr f1 f3, FB_tr f2 f4, ?_⟩
  rcases h' with ⟨b1, b2, b3, b4, b5⟩ | h'
  · rcases h with ⟨a1, a2, a3, a4, a5⟩ | h
    · exact .inl ⟨a1, a2, b3, b4, by dsimp only; rw [a5, b5]⟩
    · rw [h.1] at b1
      exact absurd b1 one0
  · exact .inr h'
theorem began_2 {m : Mem} (x : Int32) (ht : ∃ t, t ≤ 30 ∧ m 137 19 = o32 t) : ∃ m', fX9_began x m = some m' ∧ FB m m' ∧ m' 137 21 = m 137 21 := by
  have F0 : FB m m := ⟨fun _ _ _ _ => rfl, ht⟩
  obtain ⟨t, t1, t2⟩ := ht
  unfold fX9_began
  rw [t2]
  by_cases c : t = 30
  · rw [if_pos (show (30 : Int32) ≤ o32 t by rw [c]; decide)]
    exact ⟨_, rfl, F0, rfl⟩
  · have n30 : ¬ (30 : Int32) ≤ o32 t := by rw [show (30 : Int32) = o32 30 from rfl, o_le (by omega) (by omega)]; omega
    rw [if_neg n30, if_pos (o_inb (show t < 30 by omega) (by omega)), mput_c _ _ _ (show 137 ≠ 150 by omega), t2, o_s]
    exact ⟨_, rfl, ⟨fun c j a b => by rw [mput_get, if_neg (by omega), mput_c _ _ _ a], t + 1, by omega, by rw [mput_at]⟩, by rw [mput_get, if_neg (by omega), mput_c _ _ _ (show 137 ≠ 150 by omega)]⟩
theorem RP_b {mc mr : Mem} {x : Int32} {A : Option (Int32 × Mem)} {b : Mem → Option (Int32 × Mem)} (ht : ∃ t, t ≤ 30 ∧ mr 137 19 = o32 t) (h0 : mr 137 21 = 0) (hb : ∀ m1, FB mr m1 → m1 137 21 = 0 → RPq mc m1 A (b m1)) : RPq mc mr A ((fX9_began x mr).bind b) := by
  obtain ⟨m1, e1, f1, f2⟩ := began_2 x ht
  obtain ⟨u, mc', u', mr', g1, g2, g3, g4, h⟩ := hb m1 f1 (f2.trans h0)
  refine ⟨u, mc', u', mr', g1, by rw [e1, Option.bind_some, g2], g3, FB_tr f1 g4, ?_⟩
  rcases h with ⟨a1, a2, a3, a4, a5⟩ | h
  · exact .inl ⟨a1, h0, a3, a4, a5⟩
  · exact .inr h
theorem tri_0 : ∀ v, v < 4 → ((4 * 0 + v = 0 ∧ bd 0 v = 10) ∨ (4 * 0 + v = 1 ∧ bd 0 v = 11) ∨ (4 * 0 + v = 2 ∧ bd 0 v = 12) ∨ (4 * 0 + v = 3 ∧ bd 0 v = 13)) := by decide +kernel
theorem tri_n : ∀ k, k < 7 → ∀ v, v < 4 → (bd k v = 0 ∨ k = 0) ∨ (4 * k + v) + 100 * bd k v + 10000 * up k ∈ [2004, 2107, 13008, 13110, 4113, 4014, 5019, 36021, 36122, 7024] := by decide +kernel
theorem bd_99 : ∀ k, k < 7 → ∀ v, v < 4 → bd k v < 100 := by decide +kernel
theorem tri_tab : ∀ k, k < 7 → ∀ v, v < 4 → ¬ bd k v = 0 → (k = 0 ∧ ((4 * k + v = 0 ∧ bd k v = 10) ∨ (4 * k + v = 1 ∧ bd k v = 11) ∨ (4 * k + v = 2 ∧ bd k v = 12) ∨ (4 * k + v = 3 ∧ bd k v = 13))) ∨ (1 ≤ k ∧ ((4 * k + v = 4 ∧ bd k v = 20 ∧ up k = 0) ∨ (4 * k + v = 7 ∧ bd k v = 21 ∧ up k = 0) ∨ (4 * k + v = 8 ∧ bd k v = 30 ∧ up k = 1) ∨ (4 * k + v = 10 ∧ bd k v = 31 ∧ up k = 1) ∨ (4 * k + v = 13 ∧ bd k v = 41 ∧ up k = 0) ∨ (4 * k + v = 14 ∧ bd k v = 40 ∧ up k = 0) ∨ (4 * k + v = 19 ∧ bd k v = 50 ∧ up k = 0) ∨ (4 * k + v = 21 ∧ bd k v = 60 ∧ up k = 3) ∨ (4 * k + v = 22 ∧ bd k v = 61 ∧ up k = 3) ∨ (4 * k + v = 24 ∧ bd k v = 70 ∧ up k = 0))) := by
  intro k hk v hv h
  by_cases h0 : k = 0
  · left
    rw [h0]
    exact ⟨rfl, tri_0 v hv⟩
  · right
    refine ⟨by omega, ?_⟩
    have h2 := (tri_n k hk v hv).resolve_left (fun z => z.elim h h0)
    have h3 := bd_99 k hk v hv
    simp only [List.mem_cons, List.not_mem_nil, or_false] at h2
    generalize bd k v = y at h2 h3 ⊢
    generalize up k = z at h2 ⊢
    rcases h2 with h2 | h2 | h2 | h2 | h2 | h2 | h2 | h2 | h2 | h2
    · exact .inl ⟨by omega, by omega, by omega⟩
    · exact .inr (.inl ⟨by omega, by omega, by omega⟩)
    · exact .inr (.inr (.inl ⟨by omega, by omega, by omega⟩))
    · exact .inr (.inr (.inr (.inl ⟨by omega, by omega, by omega⟩)))
    · exact .inr (.inr (.inr (.inr (.inl ⟨by omega, by omega, by omega⟩))))
    · exact .inr (.inr (.inr (.inr (.inr (.inl ⟨by omega, by omega, by omega⟩)))))
    · exact .inr (.inr (.inr (.inr (.inr (.inr (.inl ⟨by omega, by omega, by omega⟩))))))
    · exact .inr (.inr (.inr (.inr (.inr (.inr (.inr (.inl ⟨by omega, by omega, by omega⟩)))))))
    · exact .inr (.inr (.inr (.inr (.inr (.inr (.inr (.inr (.inl ⟨by omega, by omega, by omega⟩))))))))
    · exact .inr (.inr (.inr (.inr (.inr (.inr (.inr (.inr (.inr (⟨by omega, by omega, by omega⟩)))))))))
theorem rs_bd : ∀ k, k < 7 → ∀ v, v < 4 → ¬ bd (rs v k) v = 0 := by decide +kernel
/-- a call of both, from a state in which nothing is wrong -/
noncomputable def PAIR (ec : Ev) (em : Eb) (n a w : Nat) (g : Int32) : Prop := ∀ v k x d mc mr, v < 4 → k < 7 → okc n w v k = true → okm n w (rs v k) v = true → d + n ≤ 40 → GSq a w g mc mr → mc 125 0 = 0 → mr 137 21 = 0 → RPq mc mr (ec (o32 v) (o32 k) x (o32 d) mc) (em (o32 (rs v k)) (o32 v) x mr)
theorem call_q {ec : Ev} {em : Eb} {n a w : Nat} {g : Int32} (hw : w < 7) (ih : PAIR ec em n a w g) (iw : SYW ec n) {v k : Nat} {x : Int32} {d : Nat} {mc mr : Mem} (hv : v < 4) (hk : k < 7) (ok : okc n w v k = true) (ok2 : okm n w (rs v k) v = true) (hd : d + n ≤ 40) (hs : GSq a w g mc mr) (hf : FLq mc mr) : RPq mc mr (ec (o32 v) (o32 k) x (o32 d) mc) (fX9_bodyFrom em (o32 k) (o32 v) x mr) := by
  rw [from_lp hv hk]
  rcases hf with ⟨h1, h2⟩ | ⟨h1, h2⟩
  · rw [if_pos h2]
    have k1 := ih v k x d mc mr hv hk ok ok2 hd hs h1 h2
    obtain ⟨u, mc', u', mr', e1, e2, f1, f2, h⟩ := k1
    exact ⟨u, mc', u', mr', e1, by rw [e2]; rfl, f1, f2, h⟩
  · obtain ⟨u, mc', e1, f1⟩ := iw w v k x (o32 d) mc hw hv hk ok hs.1.2.2.1 hs.1.2.2.2 h1
    rw [if_neg (by rw [h2]; exact one0)]
    exact ⟨u, mc', 0, mr, e1, rfl, ⟨f1.1, f1.2.1⟩, GS_F2 hs, .inr ⟨f1.2.2, h2⟩⟩
theorem own_q {ec : Ev} {em : Eb} {n a w : Nat} {g : Int32} (ha : a < 16) (hw : w < 7) (ih : PAIR ec em n a w g) (iw : SYW ec n) {v : Nat} {x : Int32} {d : Nat} {mc mr : Mem} (hv : v < 4) (ok : okc n w v w = true) (ok2 : okm n w (rs v w) v = true) (hd : d + n ≤ 40) (hs : GSq a w g mc mr) (hf : FLq mc mr) : RPq mc mr (ec (o32 v) (mc 125 7) x (o32 d) mc) (fX9_voiced em (o32 v) x mr) := by
  unfold fX9_voiced
  rw [hs.2.1, show fX9_of (o32 a) 1 mr = _ from of_m (j := 1) ha (by omega), Option.bind_some, hs.2.2.1, hs.1.2.2.1]
  have k1 := call_q (x := x) hw ih iw hv hw ok ok2 hd hs hf
  obtain ⟨u, mc', u', mr', e1, e2, f1, f2, h⟩ := k1
  exact ⟨u, mc', u', mr', e1, by rw [e2]; rfl, f1, f2, h⟩
