/-! VOICE: BOTH ANSWER ALIKE: WHAT IS WRONG STAYS WRONG -/
noncomputable def FW (m m' : Mem) : Prop := (∀ c j, c ≠ 127 → ¬ (c = 125 ∧ (j = 0 ∨ j = 4)) → m' c j = m c j) ∧ (∃ t, t ≤ 30 ∧ m' 125 4 = o32 t) ∧ m' 125 0 = 1
theorem FW_tr {m m1 m2 : Mem} (h1 : FW m m1) (h2 : FW m1 m2) : FW m m2 := ⟨fun c j a b => (h2.1 c j a b).trans (h1.1 c j a b), h2.2⟩
noncomputable def AW (m : Mem) (a : Option (Int32 × Mem)) : Prop := ∃ w m', a = some (w, m') ∧ FW m m'
noncomputable def SYW (e : Ev) (n : Nat) : Prop := ∀ w v k x3 x4 m, w < 7 → v < 4 → k < 7 → okc n w v k = true → m 125 7 = o32 w → (∃ t, t ≤ 30 ∧ m 125 4 = o32 t) → m 125 0 = 1 → AW m (e (o32 v) (o32 k) x3 x4 m)
theorem AW_1 {m m1 : Mem} {a : Option (Int32 × Mem)} {g : Int32 → Mem → Int32} (h : AW m1 a) (f : FW m m1) : AW m (a.bind fun q => some (g q.1 q.2, q.2)) := by
  obtain ⟨w, m', e, f'⟩ := h
  rw [e]
  exact ⟨_, _, rfl, FW_tr f f'⟩
theorem AW_2 {m m1 : Mem} {a : Option (Int32 × Mem)} {b : Mem → Option (Int32 × Mem)} {g : Int32 → Int32 → Int32} (h : AW m1 a) (f : FW m m1) (hb : ∀ m2, FW m1 m2 → AW m2 (b m2)) : AW m (a.bind fun q => (b q.2).bind fun p => some (g q.1 p.1, p.2)) := by
  obtain ⟨w, m', e, f'⟩ := h
  obtain ⟨w2, m2, e2, f2⟩ := hb m' f'
  rw [e, Option.bind_some, e2]
  exact ⟨_, _, rfl, FW_tr (FW_tr f f') f2⟩
theorem speak_w {e : Ev} {n w v k : Nat} {x3 x4 : Int32} {m : Mem} (ih : SYW e n) (hw : w < 7) (hv : v < 4) (hk : k < 7) (ok : okc (n + 1) w v k = true) (h7 : m 125 7 = o32 w) (ht : ∃ t, t ≤ 30 ∧ m 125 4 = o32 t) (h0 : m 125 0 = 1) (q2 : Int32) (hq : 1 ≤ rs v k → q2 = o32 (up (rs v k))) : AW m (fX6_speak e (o32 (bd (rs v k) v)) q2 x3 x4 m) := by
  have r7 := rs_7 k hk v hv
  have F0 : FW m m := ⟨fun _ _ _ _ => rfl, ht, h0⟩
  have own : ∀ m2 : Mem, FW m m2 → m2 125 7 = o32 w := fun m2 f => (f.1 125 7 (by omega) (by omega)).trans h7
  have c7 : ∀ m2 : Mem, FW m m2 → ∀ u x, u < 4 → okc n w u w = true → AW m2 (e (o32 u) (m2 125 7) x x4 m2) := fun m2 f u x hu ho => by
    rw [own m2 f]
    exact ih w u w x x4 m2 hw hu hw ho (own m2 f) f.2.1 f.2.2
  have oke : okc (n + 1) w v k = (match bd (rs v k) v with
    | 11 => okc n w 0 w
    | 12 => okc n w 1 w
    | 20 => okc n w 0 (up (rs v k))
    | 21 => okc n w 3 (up (rs v k)) && okc n w 1 w
    | 30 => okc n w 0 (up (rs v k))
    | 31 => okc n w 2 (up (rs v k))
    | 40 => okc n w 2 (up (rs v k))
    | 41 => okc n w 1 (up (rs v k))
    | 50 => okc n w 3 (up (rs v k)) && okc n w 0 w
    | 60 => okc n w 1 (up (rs v k))
    | 61 => okc n w 2 (up (rs v k)) && okc n w 1 (up (rs v k))
    | _ => true) := rfl
  rw [oke] at ok
  rcases bd_in _ r7 v hv with h | ⟨r1, h⟩
  · simp only [List.mem_cons, List.not_mem_nil, or_false] at h
    rcases h with h | h | h | h | h | h
    · rw [h]
      show AW m (some (0, m))
      exact ⟨_, _, rfl, F0⟩
    · rw [h]
      show AW m (some (x3 + m 125 5, m))
      exact ⟨_, _, rfl, F0⟩
    · rw [h]
      show AW m ((fX6_parting x3 m).bind fun q6 => some (q6.1, q6.2))
      unfold fX6_parting
      by_cases c : (m 125 5) - (m 125 6) = 0
      · rw [if_pos c]
        refine ⟨_, _, rfl, fun c j a b => ?_, ?_, ?_⟩
        · dsimp only
          rw [mput_get, if_neg (by omega)]
        · obtain ⟨t, t1, t2⟩ := ht
          exact ⟨t, t1, by dsimp only; rw [mput_get, if_neg (by omega)]; exact t2⟩
        · dsimp only
          rw [mput_at]
      · rw [if_neg c, if_pos c]
        exact ⟨_, _, rfl, F0⟩
    · rw [h]
      show AW m (some (7, m))
      exact ⟨_, _, rfl, F0⟩
    · rw [h] at ok ⊢
      show AW m ((e (o32 0) (m 125 7) x3 x4 m).bind fun q => some (q.1 * 2, q.2))
      exact AW_1 (g := fun a _ => a * 2) (c7 m F0 0 x3 (by omega) ok) F0
    · rw [h] at ok ⊢
      show AW m ((e (o32 1) (m 125 7) x3 x4 m).bind fun q => some (q.1 - q.2 125 6, q.2))
      exact AW_1 (g := fun a M => a - M 125 6) (c7 m F0 1 x3 (by omega) ok) F0
  · have u7 := (above_tab _ r7 r1).2
    rw [hq r1]
    have cu : ∀ m2 : Mem, FW m m2 → ∀ u x, u < 4 → okc n w u (up (rs v k)) = true → AW m2 (e (o32 u) (o32 (up (rs v k))) x x4 m2) := fun m2 f u x hu ho => ih w u _ x x4 m2 hw hu u7 ho (own m2 f) f.2.1 f.2.2
    simp only [List.mem_cons, List.not_mem_nil, or_false] at h
    rcases h with h | h | h | h | h | h | h | h | h
    · rw [h] at ok ⊢
      exact AW_1 (g := fun a _ => a - 4) (cu m F0 0 x3 (by omega) ok) F0
    · rw [h] at ok ⊢
      have ok := Bool.and_eq_true_iff.mp ok
      exact AW_2 (g := fun a b => a + b) (b := fun M => e (o32 1) (M 125 7) 1 x4 M) (cu m F0 3 x3 (by omega) ok.1) F0 (fun m2 f => c7 m2 f 1 1 (by omega) ok.2)
    · rw [h] at ok ⊢
      exact AW_1 (g := fun a _ => a * 3) (cu m F0 0 x3 (by omega) ok) F0
    · rw [h] at ok ⊢
      exact AW_1 (g := fun a M => a ^^^ (M 125 5)) (cu m F0 2 x3 (by omega) ok) F0
    · rw [h] at ok ⊢
      exact AW_1 (g := fun a _ => a) (cu m F0 2 (x3 / 2) (by omega) ok) F0
    · rw [h] at ok ⊢
      exact AW_1 (g := fun a _ => 0 - a) (cu m F0 1 x3 (by omega) ok) F0
    · rw [h] at ok ⊢
      have ok := Bool.and_eq_true_iff.mp ok
      exact AW_2 (g := fun a b => a - b) (b := fun M => e (o32 0) (M 125 7) 2 x4 M) (cu m F0 3 x3 (by omega) ok.1) F0 (fun m2 f => c7 m2 f 0 2 (by omega) ok.2)
    · rw [h] at ok ⊢
      exact AW_1 (g := fun a _ => a) (cu m F0 1 (x3 + 1) (by omega) ok) F0
    · rw [h] at ok ⊢
      have ok := Bool.and_eq_true_iff.mp ok
      exact AW_2 (g := fun a b => a + b) (b := fun M => e (o32 1) (o32 (up (rs v k))) 0 x4 M) (cu m F0 2 x3 (by omega) ok.1) F0 (fun m2 f => cu m2 f 1 0 (by omega) ok.2)
theorem say_w : ∀ n, SYW (nX6_say n) n := by
  intro n
  induction n with
  | zero =>
    intro w v k x3 x4 m _ _ _ ok
    cases (show false = true from ok)
  | succ n ih =>
    intro w v k x3 x4 m hw hv hk ok h7 ht h0
    show AW m (fX6_say (nX6_say n) (o32 v) (o32 k) x3 x4 m)
    rw [say_lp hv hk]
    have r7 := rs_7 k hk v hv
    have F0 : FW m m := ⟨fun _ _ _ _ => rfl, ht, h0⟩
    have go : ∀ m1, FW m m1 → AW m (bX6_say_92 (nX6_say n) x3 x4 (o32 (rs v k)) (o32 (bd (rs v k) v)) m1) := fun m1 f => by
      unfold bX6_say_92
      have hq : ∃ q2, fX1_above (o32 (rs v k)) m1 = some q2 ∧ (1 ≤ rs v k → q2 = o32 (up (rs v k))) := by
        by_cases r0 : rs v k = 0
        · rw [r0]
          exact ⟨_, above_0 m1, fun z => absurd z (by omega)⟩
        · exact ⟨_, above_c r7 (by omega) m1, fun _ => rfl⟩
      obtain ⟨q2, h1, h2⟩ := hq
      rw [h1, Option.bind_some]
      exact AW_1 (g := fun a _ => a) (speak_w ih hw hv hk ok ((f.1 125 7 (by omega) (by omega)).trans h7) f.2.1 f.2.2 q2 h2) f
    unfold bX6_say_40
    rw [body_c r7 hv, Option.bind_some]
    split
    · exact ⟨_, _, rfl, F0⟩
    · split
      · obtain ⟨t, t1, t2⟩ := ht
        rw [t2]
        by_cases c : t = 30
        · rw [if_pos (show (30 : Int32) ≤ o32 t by rw [c]; decide)]
          exact go m F0
        · have n30 : ¬ (30 : Int32) ≤ o32 t := by rw [show (30 : Int32) = o32 30 from rfl, o_le (by omega) (by omega)]; omega
          rw [if_neg n30, if_pos (o_inb (show t < 30 by omega) (by omega)), mput_c _ _ _ (show 125 ≠ 127 by omega), t2, o_s]
          refine go _ ⟨fun c j a b => by rw [mput_get, if_neg (by omega), mput_c _ _ _ a], ⟨t + 1, by omega, by rw [mput_at]⟩, by rw [mput_get, if_neg (by omega), mput_c _ _ _ (by omega)]; exact h0⟩
      · exact ⟨_, _, rfl, F0⟩
