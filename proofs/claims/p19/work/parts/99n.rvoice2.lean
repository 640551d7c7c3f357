/-! VOICE: THE CLASS ANSWERS, ON -/
abbrev Ev := Int32 → Int32 → Int32 → Int32 → Mem → Option (Int32 × Mem)
noncomputable def AN (m : Mem) (a : Option (Int32 × Mem)) : Prop := ∃ w m', a = some (w, m') ∧ FV m m'
noncomputable def SAY (e : Ev) (n : Nat) : Prop := ∀ w v k x3 x4 m, w < 7 → v < 4 → k < 7 → okc n w v k = true → m 125 7 = o32 w → (∃ t, t ≤ 30 ∧ m 125 4 = o32 t) → AN m (e (o32 v) (o32 k) x3 x4 m)
theorem AN_1 {m m1 : Mem} {a : Option (Int32 × Mem)} {g : Int32 → Mem → Int32} (h : AN m1 a) (f : FV m m1) : AN m (a.bind fun q => some (g q.1 q.2, q.2)) := by
  obtain ⟨w, m', e, f'⟩ := h
  rw [e]
  exact ⟨_, _, rfl, FV_tr f f'⟩
theorem AN_2 {m m1 : Mem} {a : Option (Int32 × Mem)} {b : Mem → Option (Int32 × Mem)} {g : Int32 → Int32 → Int32} (h : AN m1 a) (f : FV m m1) (hb : ∀ m2, FV m1 m2 → AN m2 (b m2)) : AN m (a.bind fun q => (b q.2).bind fun p => some (g q.1 p.1, p.2)) := by
  obtain ⟨w, m', e, f'⟩ := h
  obtain ⟨w2, m2, e2, f2⟩ := hb m' f'
  rw [e, Option.bind_some, e2]
  exact ⟨_, _, rfl, FV_tr (FV_tr f f') f2⟩
theorem speak_s {e : Ev} {n w v k : Nat} {x3 x4 : Int32} {m : Mem} (ih : SAY e n) (hw : w < 7) (hv : v < 4) (hk : k < 7) (ok : okc (n + 1) w v k = true) (h7 : m 125 7 = o32 w) (ht : ∃ t, t ≤ 30 ∧ m 125 4 = o32 t) (q2 : Int32) (hq : 1 ≤ rs v k → q2 = o32 (up (rs v k))) : AN m (fX6_speak e (o32 (bd (rs v k) v)) q2 x3 x4 m) := by
  have r7 := rs_7 k hk v hv
  have F0 : FV m m := ⟨fun _ _ _ _ => rfl, ht⟩
  have own : ∀ m2 : Mem, FV m m2 → m2 125 7 = o32 w := fun m2 f => (f.1 125 7 (by omega) (by omega)).trans h7
  have c7 : ∀ m2 : Mem, FV m m2 → ∀ u x, u < 4 → okc n w u w = true → AN m2 (e (o32 u) (m2 125 7) x x4 m2) := fun m2 f u x hu ho => by
    rw [own m2 f]
    exact ih w u w x x4 m2 hw hu hw ho (own m2 f) f.2
  have oke : okc (n + 1) w v k = (match bd (rs v k) v with
    | 11 => okc n w 0 w
    | 12 => okc n w 1 w
    | 20 => okc n w 0 (up (rs v k))
    | 21 => okc n w 3 (up (rs v k)) && okc n w 1 w
    | 30 => okc n w 0 (up (rs v k))
    | 31 => okc n w 2 (up (rs v k))
    | 40 => okc n w 2 (up (rs v k))
    | 41 => okc n w 1 (up (rs v k))
    | 50 => okc n w 3 (up (rs v k)) && okc n w 0 w
    | 60 => okc n w 1 (up (rs v k))
    | 61 => okc n w 2 (up (rs v k)) && okc n w 1 (up (rs v k))
    | _ => true) := rfl
  rw [oke] at ok
  rcases bd_in _ r7 v hv with h | ⟨r1, h⟩
  · simp only [List.mem_cons, List.not_mem_nil, or_false] at h
    rcases h with h | h | h | h | h | h
    · rw [h]
      show AN m (some (0, m))
      exact ⟨_, _, rfl, F0⟩
    · rw [h]
      show AN m (some (x3 + m 125 5, m))
      exact ⟨_, _, rfl, F0⟩
    · rw [h]
      show AN m ((fX6_parting x3 m).bind fun q6 => some (q6.1, q6.2))
      unfold fX6_parting
      by_cases c : (m 125 5) - (m 125 6) = 0
      · rw [if_pos c]
        refine ⟨_, _, rfl, fun c j a b => ?_, ?_⟩
        · dsimp only
          rw [mput_get, if_neg (by omega)]
        · obtain ⟨t, t1, t2⟩ := ht
          exact ⟨t, t1, by dsimp only; rw [mput_get, if_neg (by omega)]; exact t2⟩
      · rw [if_neg c, if_pos c]
        exact ⟨_, _, rfl, F0⟩
    · rw [h]
      show AN m (some (7, m))
      exact ⟨_, _, rfl, F0⟩
    · rw [h] at ok ⊢
      show AN m ((e (o32 0) (m 125 7) x3 x4 m).bind fun q => some (q.1 * 2, q.2))
      exact AN_1 (g := fun a _ => a * 2) (c7 m F0 0 x3 (by omega) ok) F0
    · rw [h] at ok ⊢
      show AN m ((e (o32 1) (m 125 7) x3 x4 m).bind fun q => some (q.1 - q.2 125 6, q.2))
      exact AN_1 (g := fun a M => a - M 125 6) (c7 m F0 1 x3 (by omega) ok) F0
  · have u7 := (above_tab _ r7 r1).2
    rw [hq r1]
    have cu : ∀ m2 : Mem, FV m m2 → ∀ u x, u < 4 → okc n w u (up (rs v k)) = true → AN m2 (e (o32 u) (o32 (up (rs v k))) x x4 m2) := fun m2 f u x hu ho => ih w u _ x x4 m2 hw hu u7 ho (own m2 f) f.2
    simp only [List.mem_cons, List.not_mem_nil, or_false] at h
    rcases h with h | h | h | h | h | h | h | h | h
    · rw [h] at ok ⊢
      exact AN_1 (g := fun a _ => a - 4) (cu m F0 0 x3 (by omega) ok) F0
    · rw [h] at ok ⊢
      have ok := Bool.and_eq_true_iff.mp ok
      exact AN_2 (g := fun a b => a + b) (b := fun M => e (o32 1) (M 125 7) 1 x4 M) (cu m F0 3 x3 (by omega) ok.1) F0 (fun m2 f => c7 m2 f 1 1 (by omega) ok.2)
    · rw [h] at ok ⊢
      exact AN_1 (g := fun a _ => a * 3) (cu m F0 0 x3 (by omega) ok) F0
    · rw [h] at ok ⊢
      exact AN_1 (g := fun a M => a ^^^ (M 125 5)) (cu m F0 2 x3 (by omega) ok) F0
    · rw [h] at ok ⊢
      exact AN_1 (g := fun a _ => a) (cu m F0 2 (x3 / 2) (by omega) ok) F0
    · rw [h] at ok ⊢
      exact AN_1 (g := fun a _ => 0 - a) (cu m F0 1 x3 (by omega) ok) F0
    · rw [h] at ok ⊢
      have ok := Bool.and_eq_true_iff.mp ok
      exact AN_2 (g := fun a b => a - b) (b := fun M => e (o32 0) (M 125 7) 2 x4 M) (cu m F0 3 x3 (by omega) ok.1) F0 (fun m2 f => c7 m2 f 0 2 (by omega) ok.2)
    · rw [h] at ok ⊢
      exact AN_1 (g := fun a _ => a) (cu m F0 1 (x3 + 1) (by omega) ok) F0
    · rw [h] at ok ⊢
      have ok := Bool.and_eq_true_iff.mp ok
      exact AN_2 (g := fun a b => a + b) (b := fun M => e (o32 1) (o32 (up (rs v k))) 0 x4 M) (cu m F0 2 x3 (by omega) ok.1) F0 (fun m2 f => cu m2 f 1 0 (by omega) ok.2)
theorem say_s : ∀ n, SAY (nX6_say n) n := by
  intro n
  induction n with
  | zero =>
    intro w v k x3 x4 m _ _ _ ok
    cases (show false = true from ok)
  | succ n ih =>
    intro w v k x3 x4 m hw hv hk ok h7 ht
    show AN m (fX6_say (nX6_say n) (o32 v) (o32 k) x3 x4 m)
    rw [say_lp hv hk]
    have r7 := rs_7 k hk v hv
    have F0 : FV m m := ⟨fun _ _ _ _ => rfl, ht⟩
    have go : ∀ m1, FV m m1 → AN m (bX6_say_92 (nX6_say n) x3 x4 (o32 (rs v k)) (o32 (bd (rs v k) v)) m1) := fun m1 f => by
      unfold bX6_say_92
      have hq : ∃ q2, fX1_above (o32 (rs v k)) m1 = some q2 ∧ (1 ≤ rs v k → q2 = o32 (up (rs v k))) := by
        by_cases r0 : rs v k = 0
        · rw [r0]
          exact ⟨_, above_0 m1, fun z => absurd z (by omega)⟩
        · exact ⟨_, above_c r7 (by omega) m1, fun _ => rfl⟩
      obtain ⟨q2, h1, h2⟩ := hq
      rw [h1, Option.bind_some]
      exact AN_1 (g := fun a _ => a) (speak_s ih hw hv hk ok ((f.1 125 7 (by omega) (by omega)).trans h7) f.2 q2 h2) f
    unfold bX6_say_40
    rw [body_c r7 hv, Option.bind_some]
    split
    · exact ⟨_, _, rfl, F0⟩
    · split
      · obtain ⟨t, t1, t2⟩ := ht
        rw [t2]
        by_cases c : t = 30
        · rw [if_pos (show (30 : Int32) ≤ o32 t by rw [c]; decide)]
          exact go m F0
        · have n30 : ¬ (30 : Int32) ≤ o32 t := by rw [show (30 : Int32) = o32 30 from rfl, o_le (by omega) (by omega)]; omega
          rw [if_neg n30, if_pos (o_inb (show t < 30 by omega) (by omega)), mput_c _ _ _ (show 125 ≠ 127 by omega), t2, o_s]
          refine go _ ⟨fun c j a b => by rw [mput_get, if_neg (by omega), mput_c _ _ _ a], t + 1, by omega, by rw [mput_at]⟩
      · exact ⟨_, _, rfl, F0⟩
theorem voice_c {mc mr : Mem} {r : Nat → List Nat} {al : Nat → Bool} {f : Nat → Nat → Nat} {q : Nat → List Nat} {a v : Nat} (w : WS 0 mc (mr 138) r al f q) (ha : a < 16) (ala : al a = true) (hv : v < 4) (x : Int32) : ∃ u m', fX6_answer 0 (o32 a) (o32 v) x mc = some (u, m') ∧ (∀ c j, c ≠ 125 → c ≠ 127 → m' c j = mc c j) ∧ m' 125 1 = mc 125 1 ∧ ∃ t, t ≤ 30 ∧ m' 125 4 = o32 t := by
  unfold fX6_answer
  generalize hm0 : mput (mput mc 125 0 0) 125 4 0 = m0
  have c0 : ∀ c j, ¬ (c = 125 ∧ (j = 0 ∨ j = 4)) → m0 c j = mc c j := fun c j h => by rw [← hm0, mput_get, if_neg (by omega), mput_get, if_neg (by omega)]
  have hc : CS 0 m0 r al := CS_same (WS_4 w) (fun c j h => c0 c j (by rcases h with h | h | ⟨b, hb, h⟩ <;> unfold cw at h <;> omega))
  have h1 := has_c hc ha
  rw [ala] at h1
  rw [h1, if_neg (show ¬ i01 true = 0 by decide), if_pos (o_inb ha (by omega)), if_pos (o_inb ha (by omega)), o_tn (show a < 2147483648 by omega)]
  generalize hm1 : mput (mput m0 125 5 (o32 a)) 125 6 (mput m0 125 5 (o32 a) (cw 0 6) a) = m1
  have c1 : ∀ c j, ¬ (c = 125 ∧ (j = 5 ∨ j = 6)) → m1 c j = m0 c j := fun c j h => by rw [← hm1, mput_get, if_neg (by omega), mput_get, if_neg (by omega)]
  have F := (WS_5 w) a ha ala 1 (by omega) (by omega)
  have k7 : m1 (cw 0 3) a = o32 (f a 1) := by rw [c1 _ _ (by unfold cw; omega), c0 _ _ (by unfold cw; omega)]; exact F.2.1
  have l7 : f a 1 < 7 := by have := F.2.2; unfold lim at this; simp at this; omega
  rw [k7, mput_at]
  obtain ⟨u, m', e1, e2, e3⟩ := say_s 20 (f a 1) v (f a 1) x 0 (mput m1 125 7 (o32 (f a 1))) l7 hv l7 (okc_20 _ l7 v hv) (by rw [mput_at]) ⟨0, by omega, by rw [mput_get, if_neg (by omega), c1 _ _ (by omega), ← hm0, mput_at]; rfl⟩
  have e1 : nX6_say 20 (o32 v) (o32 (f a 1)) x 0 (mput m1 125 7 (o32 (f a 1))) = some (u, m') := e1
  rw [e1]
  refine ⟨u, m', rfl, fun c j h h2 => ?_, ?_, e3⟩
  · rw [e2 c j h2 (by omega), mput_get, if_neg (by omega), c1 _ _ (by omega), c0 _ _ (by omega)]
  · rw [e2 _ _ (by omega) (by omega), mput_get, if_neg (by omega), c1 _ _ (by omega), c0 _ _ (by omega)]
