section
/-! VOICE: THE CLASS ANSWERS -/
noncomputable def bd (k v : Nat) : Nat := [10, 11, 12, 13, 20, 0, 0, 21, 30, 0, 31, 0, 0, 41, 40, 0, 0, 0, 0, 50, 0, 60, 61, 0, 70, 0, 0, 0].getD (4 * k + v) 0
noncomputable def up (k : Nat) : Nat := if k = 2 then 1 else if k = 5 then 3 else 0
theorem body_tab : ∀ k, k < 7 → ∀ v, v < 4 → fX6_bodyAt (o32 k) (o32 v) (fun _ _ => 0) = some (o32 (bd k v)) := by decide +kernel
theorem body_c {k v : Nat} (hk : k < 7) (hv : v < 4) (m : Mem) : fX6_bodyAt (o32 k) (o32 v) m = some (o32 (bd k v)) := body_tab k hk v hv
theorem above_tab : ∀ k, k < 7 → 1 ≤ k → fX1_above (o32 k) (fun _ _ => 0) = some (o32 (up k)) ∧ up k < 7 := by decide +kernel
theorem above_c {k : Nat} (hk : k < 7) (h1 : 1 ≤ k) (m : Mem) : fX1_above (o32 k) m = some (o32 (up k)) := (above_tab k hk h1).1
theorem above_0 (m : Mem) : fX1_above (o32 0) m = some (-1) := by
  have : fX1_above (o32 0) (fun _ _ => 0) = some (-1) := by decide +kernel
  exact this
noncomputable def rs (v k : Nat) : Nat := if ¬ bd k v = 0 ∨ k = 0 then k else if ¬ bd (up k) v = 0 ∨ up k = 0 then up k else 0
theorem rs_7 : ∀ k, k < 7 → ∀ v, v < 4 → rs v k < 7 := by decide +kernel
theorem up_3 : ∀ k, k < 7 → up (up k) = 0 := by decide +kernel
theorem say_stop {e : Int32 → Int32 → Int32 → Int32 → Mem → Option (Int32 × Mem)} {v k i : Nat} {x3 x4 : Int32} {m : Mem} (hv : v < 4) (hk : k < 7) (hi : i ≤ 6) (h : ¬ bd k v = 0 ∨ k = 0) : lX6_say_6 e (o32 v) x3 x4 m (o32 k, o32 i) = (bX6_say_40 e (o32 v) x3 x4 (o32 k) m).map Sum.inr := by
  have n6 : ¬ (6 : Int32) < o32 i := by rw [show (6 : Int32) = o32 6 from rfl, o_lt (by omega) (by omega)]; omega
  unfold lX6_say_6
  dsimp only
  rw [if_neg n6]
  by_cases k0 : k = 0
  · rw [if_pos (show o32 k ≤ 0 by rw [k0]; decide)]
  · have nk : ¬ o32 k ≤ 0 := by rw [show (0 : Int32) = o32 0 from rfl, o_le (by omega) (by omega)]; omega
    have nb : ∀ k, k < 7 → ∀ v, v < 4 → ¬ bd k v = 0 → ¬ o32 (bd k v) = 0 := by decide +kernel
    rw [if_neg nk, body_c hk hv, Option.bind_some, if_neg (nb k hk v hv (h.resolve_right k0))]
theorem say_next {e : Int32 → Int32 → Int32 → Int32 → Mem → Option (Int32 × Mem)} {v k i : Nat} {x3 x4 : Int32} {m : Mem} (hv : v < 4) (hk : k < 7) (hi : i ≤ 6) (h : ¬ (¬ bd k v = 0 ∨ k = 0)) : lX6_say_6 e (o32 v) x3 x4 m (o32 k, o32 i) = some (.inl (o32 (up k), o32 (i + 1))) := by
  have n6 : ¬ (6 : Int32) < o32 i := by rw [show (6 : Int32) = o32 6 from rfl, o_lt (by omega) (by omega)]; omega
  have k0 : ¬ k = 0 := fun z => h (.inr z)
  have b0 : bd k v = 0 := Classical.byContradiction fun z => h (.inl z)
  have nk : ¬ o32 k ≤ 0 := by rw [show (0 : Int32) = o32 0 from rfl, o_le (by omega) (by omega)]; omega
  unfold lX6_say_6
  dsimp only
  rw [if_neg n6, if_neg nk, body_c hk hv, Option.bind_some, b0, if_pos (show o32 0 = 0 from rfl), above_c hk (by omega), Option.bind_some, o_s]
theorem say_lp {e : Int32 → Int32 → Int32 → Int32 → Mem → Option (Int32 × Mem)} {v k : Nat} {x3 x4 : Int32} {m : Mem} (hv : v < 4) (hk : k < 7) : fX6_say e (o32 v) (o32 k) x3 x4 m = bX6_say_40 e (o32 v) x3 x4 (o32 (rs v k)) m := by
  obtain ⟨z, hz⟩ : ∃ y, fu = y + 3 := ⟨fu - 3, by have := lt_fu (n := 10) (by omega); omega⟩
  unfold fX6_say
  rw [hz]
  show lp (lX6_say_6 e (o32 v) x3 x4 m) (z + 2 + 1) (o32 k, o32 0) = _
  by_cases h : ¬ bd k v = 0 ∨ k = 0
  · rw [lp_map (say_stop hv hk (by omega) h), show rs v k = k from if_pos h]
  · have u7 := (above_tab k hk (by omega)).2
    rw [lp_i (say_next hv hk (by omega) h)]
    by_cases h2 : ¬ bd (up k) v = 0 ∨ up k = 0
    · rw [show z + 2 = z + 1 + 1 from rfl, lp_map (say_stop hv u7 (by omega) h2)]
      unfold rs
      rw [if_neg h, if_pos h2]
    · rw [show z + 2 = z + 1 + 1 from rfl, lp_i (say_next hv u7 (by omega) h2), up_3 k hk, lp_map (say_stop hv (by omega) (by omega) (.inr rfl))]
      unfold rs
      rw [if_neg h, if_neg h2]
noncomputable def okc : Nat → Nat → Nat → Nat → Bool
  | 0, _, _, _ => false
  | n + 1, w, v, k =>
    let k' := rs v k
    match bd k' v with
    | 11 => okc n w 0 w
    | 12 => okc n w 1 w
    | 20 => okc n w 0 (up k')
    | 21 => okc n w 3 (up k') && okc n w 1 w
    | 30 => okc n w 0 (up k')
    | 31 => okc n w 2 (up k')
    | 40 => okc n w 2 (up k')
    | 41 => okc n w 1 (up k')
    | 50 => okc n w 3 (up k') && okc n w 0 w
    | 60 => okc n w 1 (up k')
    | 61 => okc n w 2 (up k') && okc n w 1 (up k')
    | _ => true
theorem okc_20 : ∀ w, w < 7 → ∀ v, v < 4 → okc 20 w v w = true := by decide +kernel
noncomputable def FV (m m' : Mem) : Prop := (∀ c j, c ≠ 127 → ¬ (c = 125 ∧ (j = 0 ∨ j = 4)) → m' c j = m c j) ∧ ∃ t, t ≤ 30 ∧ m' 125 4 = o32 t
theorem FV_tr {m m1 m2 : Mem} (h1 : FV m m1) (h2 : FV m1 m2) : FV m m2 := ⟨fun c j a b => (h2.1 c j a b).trans (h1.1 c j a b), h2.2⟩
theorem bd_in : ∀ k, k < 7 → ∀ v, v < 4 → bd k v ∈ [0, 10, 13, 70, 11, 12] ∨ (1 ≤ k ∧ bd k v ∈ [20, 21, 30, 31, 40, 41, 50, 60, 61]) := by decide +kernel
end
section
/-! VOICE: THE CLASS ANSWERS, ON -/
abbrev Ev := Int32 → Int32 → Int32 → Int32 → Mem → Option (Int32 × Mem)
noncomputable def AN (m : Mem) (a : Option (Int32 × Mem)) : Prop := ∃ w m', a = some (w, m') ∧ FV m m'
noncomputable def SAY (e : Ev) (n : Nat) : Prop := ∀ w v k x3 x4 m, w < 7 → v < 4 → k < 7 → okc n w v k = true → m 125 7 = o32 w → (∃ t, t ≤ 30 ∧ m 125 4 = o32 t) → AN m (e (o32 v) (o32 k) x3 x4 m)
theorem AN_1 {m m1 : Mem} {a : Option (Int32 × Mem)} {g : Int32 → Mem → Int32} (h : AN m1 a) (f : FV m m1) : AN m (a.bind fun q => some (g q.1 q.2, q.2)) := by
  obtain ⟨w, m', e, f'⟩ := h
  rw [e]
  exact ⟨_, _, rfl, FV_tr f f'⟩
theorem AN_2 {m m1 : Mem} {a : Option (Int32 × Mem)} {b : Mem → Option (Int32 × Mem)} {g : Int32 → Int32 → Int32} (h : AN m1 a) (f : FV m m1) (hb : ∀ m2, FV m1 m2 → AN m2 (b m2)) : AN m (a.bind fun q => (b q.2).bind fun p => some (g q.1 p.1, p.2)) := by
  obtain ⟨w, m', e, f'⟩ := h
  obtain ⟨w2, m2, e2, f2⟩ := hb m' f'
  rw [e, Option.bind_some, e2]
  exact ⟨_, _, rfl, FV_tr (FV_tr f f') f2⟩
theorem speak_s {e : Ev} {n w v k : Nat} {x3 x4 : Int32} {m : Mem} (ih : SAY e n) (hw : w < 7) (hv : v < 4) (hk : k < 7) (ok : okc (n + 1) w v k = true) (h7 : m 125 7 = o32 w) (ht : ∃ t, t ≤ 30 ∧ m 125 4 = o32 t) (q2 : Int32) (hq : 1 ≤ rs v k → q2 = o32 (up (rs v k))) : AN m (fX6_speak e (o32 (bd (rs v k) v)) q2 x3 x4 m) := by
  have r7 := rs_7 k hk v hv
  have F0 : FV m m := ⟨fun _ _ _ _ => rfl, ht⟩
  have own : ∀ m2 : Mem, FV m m2 → m2 125 7 = o32 w := fun m2 f => (f.1 125 7 (by omega) (by omega)).trans h7
  have c7 : ∀ m2 : Mem, FV m m2 → ∀ u x, u < 4 → okc n w u w = true → AN m2 (e (o32 u) (m2 125 7) x x4 m2) := fun m2 f u x hu ho => by
    rw [own m2 f]
    exact ih w u w x x4 m2 hw hu hw ho (own m2 f) f.2
  have oke : okc (n + 1) w v k = (match bd (rs v k) v with
    | 11 => okc n w 0 w
    | 12 => okc n w 1 w
    | 20 => okc n w 0 (up (rs v k))
    | 21 => okc n w 3 (up (rs v k)) && okc n w 1 w
    | 30 => okc n w 0 (up (rs v k))
    | 31 => okc n w 2 (up (rs v k))
    | 40 => okc n w 2 (up (rs v k))
    | 41 => okc n w 1 (up (rs v k))
    | 50 => okc n w 3 (up (rs v k)) && okc n w 0 w
    | 60 => okc n w 1 (up (rs v k))
    | 61 => okc n w 2 (up (rs v k)) && okc n w 1 (up (rs v k))
    | _ => true) := rfl
  rw [oke] at ok
  rcases bd_in _ r7 v hv with h | ⟨r1, h⟩
  · simp only [List.mem_cons, List.not_mem_nil, or_false] at h
    rcases h with h | h | h | h | h | h
    · rw [h]
      show AN m (some (0, m))
      exact ⟨_, _, rfl, F0⟩
    · rw [h]
      show AN m (some (x3 + m 125 5, m))
      exact ⟨_, _, rfl, F0⟩
    · rw [h]
      show AN m ((fX6_parting x3 m).bind fun q6 => some (q6.1, q6.2))
      unfold fX6_parting
      by_cases c : (m 125 5) - (m 125 6) = 0
      · rw [if_pos c]
        refine ⟨_, _, rfl, fun c j a b => ?_, ?_⟩
        · dsimp only
          rw [mput_get, if_neg (by omega)]
        · obtain ⟨t, t1, t2⟩ := ht
          exact ⟨t, t1, by dsimp only; rw [mput_get, if_neg (by omega)]; exact t2⟩
      · rw [if_neg c, if_pos c]
        exact ⟨_, _, rfl, F0⟩
    · rw [h]
      show AN m (some (7, m))
      exact ⟨_, _, rfl, F0⟩
    · rw [h] at ok ⊢
      show AN m ((e (o32 0) (m 125 7) x3 x4 m).bind fun q => some (q.1 * 2, q.2))
      exact AN_1 (g := fun a _ => a * 2) (c7 m F0 0 x3 (by omega) ok) F0
    · rw [h] at ok ⊢
      show AN m ((e (o32 1) (m 125 7) x3 x4 m).bind fun q => some (q.1 - q.2 125 6, q.2))
      exact AN_1 (g := fun a M => a - M 125 6) (c7 m F0 1 x3 (by omega) ok) F0
  · have u7 := (above_tab _ r7 r1).2
    rw [hq r1]
    have cu : ∀ m2 : Mem, FV m m2 → ∀ u x, u < 4 → okc n w u (up (rs v k)) = true → AN m2 (e (o32 u) (o32 (up (rs v k))) x x4 m2) := fun m2 f u x hu ho => ih w u _ x x4 m2 hw hu u7 ho (own m2 f) f.2
    simp only [List.mem_cons, List.not_mem_nil, or_false] at h
    rcases h with h | h | h | h | h | h | h | h | h
    · rw [h] at ok ⊢
      exact AN_1 (g := fun a _ => a - 4) (cu m F0 0 x3 (by omega) ok) F0
    · rw [h] at ok ⊢
      have ok := Bool.and_eq_true_iff.mp ok
      exact AN_2 (g := fun a b => a + b) (b := fun M => e (o32 1) (M 125 7) 1 x4 M) (cu m F0 3 x3 (by omega) ok.1) F0 (fun m2 f => c7 m2 f 1 1 (by omega) ok.2)
    · rw [h] at ok ⊢
      exact AN_1 (g := fun a _ => a * 3) (cu m F0 0 x3 (by omega) ok) F0
    · rw [h] at ok ⊢
      exact AN_1 (g := fun a M => a ^^^ (M 125 5)) (cu m F0 2 x3 (by omega) ok) F0
    · rw [h] at ok ⊢
      exact AN_1 (g := fun a _ => a) (cu m F0 2 (x3 / 2) (by omega) ok) F0
    · rw [h] at ok ⊢
      exact AN_1 (g := fun a _ => 0 - a) (cu m F0 1 x3 (by omega) ok) F0
    · rw [h] at ok ⊢
      have ok := Bool.and_eq_true_iff.mp ok
      exact AN_2 (g := fun a b => a - b) (b := fun M => e (o32 0) (M 125 7) 2 x4 M) (cu m F0 3 x3 (by omega) ok.1) F0 (fun m2 f => c7 m2 f 0 2 (by omega) ok.2)
    · rw [h] at ok ⊢
      exact AN_1 (g := fun a _ => a) (cu m F0 1 (x3 + 1) (by omega) ok) F0
    · rw [h] at ok ⊢
      have ok := Bool.and_eq_true_iff.mp ok
      exact AN_2 (g := fun a b => a + b) (b := fun M => e (o32 1) (o32 (up (rs v k))) 0 x4 M) (cu m F0 2 x3 (by omega) ok.1) F0 (fun m2 f => cu m2 f 1 0 (by omega) ok.2)
theorem say_s : ∀ n, SAY (nX6_say n) n := by
  intro n
  induction n with
  | zero =>
    intro w v k x3 x4 m _ _ _ ok
    cases (show false = true from ok)
  | succ n ih =>
    intro w v k x3 x4 m hw hv hk ok h7 ht
    show AN m (fX6_say (nX6_say n) (o32 v) (o32 k) x3 x4 m)
    rw [say_lp hv hk]
    have r7 := rs_7 k hk v hv
    have F0 : FV m m := ⟨fun _ _ _ _ => rfl, ht⟩
    have go : ∀ m1, FV m m1 → AN m (bX6_say_92 (nX6_say n) x3 x4 (o32 (rs v k)) (o32 (bd (rs v k) v)) m1) := fun m1 f => by
      unfold bX6_say_92
      have hq : ∃ q2, fX1_above (o32 (rs v k)) m1 = some q2 ∧ (1 ≤ rs v k → q2 = o32 (up (rs v k))) := by
        by_cases r0 : rs v k = 0
        · rw [r0]
          exact ⟨_, above_0 m1, fun z => absurd z (by omega)⟩
        · exact ⟨_, above_c r7 (by omega) m1, fun _ => rfl⟩
      obtain ⟨q2, h1, h2⟩ := hq
      rw [h1, Option.bind_some]
      exact AN_1 (g := fun a _ => a) (speak_s ih hw hv hk ok ((f.1 125 7 (by omega) (by omega)).trans h7) f.2 q2 h2) f
    unfold bX6_say_40
    rw [body_c r7 hv, Option.bind_some]
    split
    · exact ⟨_, _, rfl, F0⟩
    · split
      · obtain ⟨t, t1, t2⟩ := ht
        rw [t2]
        by_cases c : t = 30
        · rw [if_pos (show (30 : Int32) ≤ o32 t by rw [c]; decide)]
          exact go m F0
        · have n30 : ¬ (30 : Int32) ≤ o32 t := by rw [show (30 : Int32) = o32 30 from rfl, o_le (by omega) (by omega)]; omega
          rw [if_neg n30, if_pos (o_inb (show t < 30 by omega) (by omega)), mput_c _ _ _ (show 125 ≠ 127 by omega), t2, o_s]
          refine go _ ⟨fun c j a b => by rw [mput_get, if_neg (by omega), mput_c _ _ _ a], t + 1, by omega, by rw [mput_at]⟩
      · exact ⟨_, _, rfl, F0⟩
theorem voice_c {mc mr : Mem} {r : Nat → List Nat} {al : Nat → Bool} {f : Nat → Nat → Nat} {q : Nat → List Nat} {a v : Nat} (w : WS 0 mc (mr 138) r al f q) (ha : a < 16) (ala : al a = true) (hv : v < 4) (x : Int32) : ∃ u m', fX6_answer 0 (o32 a) (o32 v) x mc = some (u, m') ∧ (∀ c j, c ≠ 125 → c ≠ 127 → m' c j = mc c j) ∧ m' 125 1 = mc 125 1 ∧ ∃ t, t ≤ 30 ∧ m' 125 4 = o32 t := by
  unfold fX6_answer
  generalize hm0 : mput (mput mc 125 0 0) 125 4 0 = m0
  have c0 : ∀ c j, ¬ (c = 125 ∧ (j = 0 ∨ j = 4)) → m0 c j = mc c j := fun c j h => by rw [← hm0, mput_get, if_neg (by omega), mput_get, if_neg (by omega)]
  have hc : CS 0 m0 r al := CS_same (WS_4 w) (fun c j h => c0 c j (by rcases h with h | h | ⟨b, hb, h⟩ <;> unfold cw at h <;> omega))
  have h1 := has_c hc ha
  rw [ala] at h1
  rw [h1, if_neg (show ¬ i01 true = 0 by decide), if_pos (o_inb ha (by omega)), if_pos (o_inb ha (by omega)), o_tn (show a < 2147483648 by omega)]
  generalize hm1 : mput (mput m0 125 5 (o32 a)) 125 6 (mput m0 125 5 (o32 a) (cw 0 6) a) = m1
  have c1 : ∀ c j, ¬ (c = 125 ∧ (j = 5 ∨ j = 6)) → m1 c j = m0 c j := fun c j h => by rw [← hm1, mput_get, if_neg (by omega), mput_get, if_neg (by omega)]
  have F := (WS_5 w) a ha ala 1 (by omega) (by omega)
  have k7 : m1 (cw 0 3) a = o32 (f a 1) := by rw [c1 _ _ (by unfold cw; omega), c0 _ _ (by unfold cw; omega)]; exact F.2.1
  have l7 : f a 1 < 7 := by have := F.2.2; unfold lim at this; simp at this; omega
  rw [k7, mput_at]
  obtain ⟨u, m', e1, e2, e3⟩ := say_s 20 (f a 1) v (f a 1) x 0 (mput m1 125 7 (o32 (f a 1))) l7 hv l7 (okc_20 _ l7 v hv) (by rw [mput_at]) ⟨0, by omega, by rw [mput_get, if_neg (by omega), c1 _ _ (by omega), ← hm0, mput_at]; rfl⟩
  have e1 : nX6_say 20 (o32 v) (o32 (f a 1)) x 0 (mput m1 125 7 (o32 (f a 1))) = some (u, m') := e1
  rw [e1]
  refine ⟨u, m', rfl, fun c j h h2 => ?_, ?_, e3⟩
  · rw [e2 c j h2 (by omega), mput_get, if_neg (by omega), c1 _ _ (by omega), c0 _ _ (by omega)]
  · rw [e2 _ _ (by omega) (by omega), mput_get, if_neg (by omega), c1 _ _ (by omega), c0 _ _ (by omega)]
end
section
/-! VOICE: THE MODEL ANSWERS -/
abbrev Eb := Int32 → Int32 → Int32 → Mem → Option (Int32 × Mem)
/-- all but the trace and what went wrong stays -/
noncomputable def FB (m m' : Mem) : Prop := (∀ c j, c ≠ 150 → ¬ (c = 137 ∧ (j = 19 ∨ j = 21)) → m' c j = m c j) ∧ ∃ t, t ≤ 30 ∧ m' 137 19 = o32 t
theorem FB_tr {m m1 m2 : Mem} (h1 : FB m m1) (h2 : FB m1 m2) : FB m m2 := ⟨fun c j a b => (h2.1 c j a b).trans (h1.1 c j a b), h2.2⟩
noncomputable def AB (m : Mem) (a : Option (Int32 × Mem)) : Prop := ∃ w m', a = some (w, m') ∧ FB m m'
theorem AB_1 {m m1 : Mem} {a : Option (Int32 × Mem)} {g : Int32 → Mem → Int32} (h : AB m1 a) (f : FB m m1) : AB m (a.bind fun q => some (g q.1 q.2, q.2)) := by
  obtain ⟨w, m', e, f'⟩ := h
  rw [e]
  exact ⟨_, _, rfl, FB_tr f f'⟩
theorem AB_2 {m m1 : Mem} {a : Option (Int32 × Mem)} {b : Mem → Option (Int32 × Mem)} {g : Int32 → Int32 → Int32} (h : AB m1 a) (f : FB m m1) (hb : ∀ m2, FB m1 m2 → AB m2 (b m2)) : AB m (a.bind fun q => (b q.2).bind fun p => some (g q.1 p.1, p.2)) := by
  obtain ⟨w, m', e, f'⟩ := h
  obtain ⟨w2, m2, e2, f2⟩ := hb m' f'
  rw [e, Option.bind_some, e2]
  exact ⟨_, _, rfl, FB_tr (FB_tr f f') f2⟩
noncomputable def okm : Nat → Nat → Nat → Nat → Bool
  | 0, _, _, _ => false
  | n + 1, w, k, v => match 4 * k + v with
    | 1 => okm n w (rs 0 w) 0
    | 2 => okm n w (rs 1 w) 1
    | 4 => okm n w (rs 0 0) 0
    | 7 => okm n w (rs 3 0) 3 && okm n w (rs 1 w) 1
    | 8 => okm n w (rs 0 1) 0
    | 10 => okm n w (rs 2 1) 2
    | 13 => okm n w (rs 1 0) 1
    | 14 => okm n w (rs 2 0) 2
    | 19 => okm n w (rs 3 0) 3 && okm n w (rs 0 w) 0
    | 21 => okm n w (rs 1 3) 1
    | 22 => okm n w (rs 2 3) 2 && okm n w (rs 1 3) 1
    | _ => true
theorem okm_20 : ∀ w, w < 7 → ∀ v, v < 4 → okm 20 w (rs v w) v = true := by decide +kernel
noncomputable def BODY (e : Eb) (n : Nat) (a w : Nat) : Prop := ∀ k v x m, k < 7 → v < 4 → okm n w k v = true → m 137 20 = o32 a → m 138 (12 + 50 * a + 1) = o32 w → (∃ t, t ≤ 30 ∧ m 137 19 = o32 t) → AB m (e (o32 k) (o32 v) x m)
theorem own_tab : ∀ k, k < 7 → ∀ v, v < 4 → (fX9_hasOwn (o32 k) (o32 v) = 0 ↔ ¬ (¬ bd k v = 0 ∨ k = 0)) ∧ (1 ≤ k → fX9_above (o32 k) = o32 (up k)) := by decide +kernel
theorem from_lp {e : Eb} {v k : Nat} {x : Int32} {m : Mem} (hv : v < 4) (hk : k < 7) : fX9_bodyFrom e (o32 k) (o32 v) x m = if m 137 21 = 0 then (e (o32 (rs v k)) (o32 v) x m).bind fun q => some (q.1, q.2) else some (0, m) := by
  obtain ⟨z, hz⟩ : ∃ y, fu = y + 3 := ⟨fu - 3, by have := lt_fu (n := 10) (by omega); omega⟩
  have stop : ∀ k, k < 7 → (¬ bd k v = 0 ∨ k = 0) → lX9_bodyFrom_3 e (o32 v) x m (o32 k) = (if m 137 21 = 0 then (e (o32 k) (o32 v) x m).bind fun q => some (q.1, q.2) else some (0, m)).map Sum.inr := fun k hk h => by
    unfold lX9_bodyFrom_3
    rw [if_neg (fun z => (own_tab k hk v hv).1.mp z h)]
    split
    · cases e (o32 k) (o32 v) x m <;> rfl
    · rfl
  have next : ∀ k, k < 7 → ¬ (¬ bd k v = 0 ∨ k = 0) → lX9_bodyFrom_3 e (o32 v) x m (o32 k) = some (.inl (o32 (up k))) := fun k hk h => by
    have k0 : ¬ k = 0 := fun z => h (.inr z)
    unfold lX9_bodyFrom_3
    rw [if_pos ((own_tab k hk v hv).1.mpr h), (own_tab k hk v hv).2 (by omega)]
  unfold fX9_bodyFrom
  rw [hz]
  by_cases h : ¬ bd k v = 0 ∨ k = 0
  · rw [show z + 3 = z + 2 + 1 from rfl, lp_map (stop k hk h), show rs v k = k from if_pos h]
  · have k0 : ¬ k = 0 := fun z => h (.inr z)
    have u7 := (above_tab k hk (by omega)).2
    rw [show z + 3 = z + 2 + 1 from rfl, lp_i (next k hk h)]
    by_cases h2 : ¬ bd (up k) v = 0 ∨ up k = 0
    · rw [show z + 2 = z + 1 + 1 from rfl, lp_map (stop _ u7 h2), show rs v k = up k from by unfold rs; rw [if_neg h, if_pos h2]]
    · rw [show z + 2 = z + 1 + 1 from rfl, lp_i (next _ u7 h2), up_3 k hk, lp_map (stop 0 (by omega) (.inr rfl)), show rs v k = 0 from by unfold rs; rw [if_neg h, if_neg h2]]
theorem from_s {e : Eb} {n a w v k : Nat} {x : Int32} {m : Mem} (ih : BODY e n a w) (hv : v < 4) (hk : k < 7) (ok : okm n w (rs v k) v = true) (h1 : m 137 20 = o32 a) (h2 : m 138 (12 + 50 * a + 1) = o32 w) (ht : ∃ t, t ≤ 30 ∧ m 137 19 = o32 t) : AB m (fX9_bodyFrom e (o32 k) (o32 v) x m) := by
  rw [from_lp hv hk]
  split
  · exact AB_1 (g := fun a _ => a) (ih _ v x m (rs_7 k hk v hv) hv ok h1 h2 ht) ⟨fun _ _ _ _ => rfl, ht⟩
  · exact ⟨_, _, rfl, fun _ _ _ _ => rfl, ht⟩
theorem voiced_s {e : Eb} {n a w v : Nat} {x : Int32} {m : Mem} (ha : a < 16) (ih : BODY e n a w) (hv : v < 4) (hw : w < 7) (ok : okm n w (rs v w) v = true) (h1 : m 137 20 = o32 a) (h2 : m 138 (12 + 50 * a + 1) = o32 w) (ht : ∃ t, t ≤ 30 ∧ m 137 19 = o32 t) : AB m (fX9_voiced e (o32 v) x m) := by
  have o1 : fX9_of (o32 a) 1 m = some (o32 w) := by
    unfold fX9_of
    have e1 : (12 : Int32) + 50 * o32 a + 1 = o32 (12 + 50 * a + 1) := by
      rw [show (50 : Int32) * o32 a = o32 (50 * a) from o_mul 50 a, show (12 : Int32) + o32 (50 * a) = o32 (12 + 50 * a) from o_add 12 _, o_s]
    rw [e1, if_pos (o_inb (show 12 + 50 * a + 1 < 1082 by omega) (by omega)), o_tn (by omega), h2]
  unfold fX9_voiced
  rw [h1, o1, Option.bind_some]
  exact AB_1 (g := fun a _ => a) (from_s ih hv hw ok h1 h2 ht) ⟨fun _ _ _ _ => rfl, ht⟩
theorem began_s {m : Mem} (x : Int32) (ht : ∃ t, t ≤ 30 ∧ m 137 19 = o32 t) : ∃ m', fX9_began x m = some m' ∧ FB m m' := by
  have F0 : FB m m := ⟨fun _ _ _ _ => rfl, ht⟩
  obtain ⟨t, t1, t2⟩ := ht
  unfold fX9_began
  rw [t2]
  by_cases c : t = 30
  · rw [if_pos (show (30 : Int32) ≤ o32 t by rw [c]; decide)]
    exact ⟨_, rfl, F0⟩
  · have n30 : ¬ (30 : Int32) ≤ o32 t := by rw [show (30 : Int32) = o32 30 from rfl, o_le (by omega) (by omega)]; omega
    rw [if_neg n30, if_pos (o_inb (show t < 30 by omega) (by omega)), mput_c _ _ _ (show 137 ≠ 150 by omega), t2, o_s]
    exact ⟨_, rfl, fun c j a b => by rw [mput_get, if_neg (by omega), mput_c _ _ _ a], t + 1, by omega, by rw [mput_at]⟩
theorem AB_b {m : Mem} {x : Int32} {b : Mem → Option (Int32 × Mem)} (ht : ∃ t, t ≤ 30 ∧ m 137 19 = o32 t) (hb : ∀ m1, FB m m1 → AB m1 (b m1)) : AB m ((fX9_began x m).bind b) := by
  obtain ⟨m1, e1, f1⟩ := began_s x ht
  obtain ⟨w, m2, e2, f2⟩ := hb m1 f1
  rw [e1, Option.bind_some, e2]
  exact ⟨w, m2, rfl, FB_tr f1 f2⟩
end
section
/-! VOICE: BOTH ANSWER -/
theorem sub_ne {x y : Int32} (h : ¬ x = y) : ¬ x - y = 0 := fun z => h (by
  have := Int32.sub_add_cancel x y
  rw [z, Int32.zero_add] at this
  exact this.symm)
theorem of_m {m : Mem} {a j : Nat} (ha : a < 16) (hj : j < 50) : fX9_of (o32 a) (o32 j) m = some (m 138 (12 + 50 * a + j)) := by
  unfold fX9_of
  have e1 : (12 : Int32) + 50 * o32 a + o32 j = o32 (12 + 50 * a + j) := by
    rw [show (50 : Int32) * o32 a = o32 (50 * a) from o_mul 50 a, show (12 : Int32) + o32 (50 * a) = o32 (12 + 50 * a) from o_add 12 _, o_add]
  rw [e1, if_pos (o_inb (show 12 + 50 * a + j < 1082 by omega) (by omega)), o_tn (by omega)]
theorem id_in : ∀ i, i < 28 → i ∈ [0, 1, 2, 3, 4, 7, 8, 10, 13, 14, 19, 21, 22] ∨ i ∈ [5, 6, 9, 11, 12, 15, 16, 17, 18, 20, 23, 24, 25, 26, 27] := by decide +kernel
theorem body_s {a w : Nat} (ha : a < 16) (hw : w < 7) : ∀ n, BODY (nX9_body n) n a w := by
  intro n
  induction n with
  | zero =>
    intro k v x m _ _ ok
    cases (show false = true from ok)
  | succ n ih =>
    intro k v x m hk hv ok h1 h2 ht
    show AB m (fX9_body (nX9_body n) (o32 k) (o32 v) x m)
    have P1 : ∀ m1 : Mem, FB m m1 → m1 137 20 = o32 a := fun m1 f => (f.1 _ _ (by omega) (by omega)).trans h1
    have P2 : ∀ m1 : Mem, FB m m1 → m1 138 (12 + 50 * a + 1) = o32 w := fun m1 f => (f.1 _ _ (by omega) (by omega)).trans h2
    have F0 : ∀ m1 : Mem, FB m m1 → FB m1 m1 := fun m1 f => ⟨fun _ _ _ _ => rfl, f.2⟩
    have fr : ∀ m1 : Mem, FB m m1 → ∀ k v x, k < 7 → v < 4 → okm n w (rs v k) v = true → AB m1 (fX9_bodyFrom (nX9_body n) (o32 k) (o32 v) x m1) := fun m1 f k v x hk hv ok => from_s ih hv hk ok (P1 m1 f) (P2 m1 f) f.2
    have vo : ∀ m1 : Mem, FB m m1 → ∀ v x, v < 4 → okm n w (rs v w) v = true → AB m1 (fX9_voiced (nX9_body n) (o32 v) x m1) := fun m1 f v x hv ok => voiced_s ha ih hv hw ok (P1 m1 f) (P2 m1 f) f.2
    have e4 : (4 : Int32) * o32 k + o32 v = o32 (4 * k + v) := by
      rw [show (4 : Int32) * o32 k = o32 (4 * k) from o_mul 4 k, o_add]
    have oke : okm (n + 1) w k v = (match 4 * k + v with
    | 1 => okm n w (rs 0 w) 0
    | 2 => okm n w (rs 1 w) 1
    | 4 => okm n w (rs 0 0) 0
    | 7 => okm n w (rs 3 0) 3 && okm n w (rs 1 w) 1
    | 8 => okm n w (rs 0 1) 0
    | 10 => okm n w (rs 2 1) 2
    | 13 => okm n w (rs 1 0) 1
    | 14 => okm n w (rs 2 0) 2
    | 19 => okm n w (rs 3 0) 3 && okm n w (rs 0 w) 0
    | 21 => okm n w (rs 1 3) 1
    | 22 => okm n w (rs 2 3) 2 && okm n w (rs 1 3) 1
    | _ => true) := rfl
    rw [oke] at ok
    unfold fX9_body
    rw [h1, show fX9_of (o32 a) 4 m = _ from of_m (j := 4) ha (by omega), Option.bind_some, e4]
    generalize m 138 (12 + 50 * a + 4) = q1
    have i28 : 4 * k + v < 28 := by omega
    generalize 4 * k + v = i at ok i28
    rcases id_in i i28 with h | h
    · simp only [List.mem_cons, List.not_mem_nil, or_false] at h
      rcases h with h | h | h | h | h | h | h | h | h | h | h | h | h <;> subst h
      · exact AB_b (b := fun q2 => some (x + q2 137 20, q2)) ht (fun m1 f => ⟨_, _, rfl, F0 m1 f⟩)
      · exact AB_b (b := fun q4 => (fX9_voiced (nX9_body n) 0 x q4).bind fun q5 => some (q5.1 * 2, q5.2)) ht (fun m1 f => AB_1 (g := fun a _ => a * 2) (vo m1 f 0 x (by omega) ok) (F0 m1 f))
      · exact AB_b (b := fun q7 => (fX9_voiced (nX9_body n) 1 x q7).bind fun q8 => some (q8.1 - q1, q8.2)) ht (fun m1 f => AB_1 (g := fun a _ => a - q1) (vo m1 f 1 x (by omega) ok) (F0 m1 f))
      · refine AB_b (b := fun q10 => if q10 137 20 = q1 then bX9_body_189 (nX9_body n) x q1 1 q10 else bX9_body_189 (nX9_body n) x q1 0 q10) ht (fun m1 f => ?_)
        have fp : ∀ y, FB m1 (mput m1 137 21 y) := fun y => ⟨fun c j a b => by rw [mput_get, if_neg (by omega)], by
          obtain ⟨t, t1, t2⟩ := f.2
          exact ⟨t, t1, by rw [mput_get, if_neg (by omega)]; exact t2⟩⟩
        by_cases c : m1 137 20 = q1
        · show AB m1 (if m1 137 20 = q1 then _ else _)
          rw [if_pos c]
          unfold bX9_body_189
          rw [if_pos (.inr rfl), mput_at, if_neg one0]
          exact ⟨_, _, rfl, fp 1⟩
        · show AB m1 (if m1 137 20 = q1 then _ else _)
          rw [if_neg c]
          unfold bX9_body_189
          rw [if_pos (.inl rfl), mput_at, if_pos rfl, mput_j _ _ _ _ (show 20 ≠ 21 by omega), if_pos (sub_ne c)]
          exact ⟨_, _, rfl, fp 0⟩
      · exact AB_b (b := fun q14 => (fX9_bodyFrom (nX9_body n) 0 0 x q14).bind fun q15 => some (q15.1 - 4, q15.2)) ht (fun m1 f => AB_1 (g := fun a _ => a - 4) (fr m1 f 0 0 x (by omega) (by omega) ok) (F0 m1 f))
      · have ok := Bool.and_eq_true_iff.mp ok
        exact AB_b (b := fun q17 => (fX9_bodyFrom (nX9_body n) 0 3 x q17).bind fun q18 => (fX9_voiced (nX9_body n) 1 1 q18.2).bind fun q19 => some (q18.1 + q19.1, q19.2)) ht (fun m1 f => AB_2 (g := fun a b => a + b) (b := fun M => fX9_voiced (nX9_body n) 1 1 M) (fr m1 f 0 3 x (by omega) (by omega) ok.1) (F0 m1 f) (fun m2 f2 => vo m2 (FB_tr f f2) 1 1 (by omega) ok.2))
      · exact AB_b (b := fun q21 => (fX9_bodyFrom (nX9_body n) 1 0 x q21).bind fun q22 => some (q22.1 * 3, q22.2)) ht (fun m1 f => AB_1 (g := fun a _ => a * 3) (fr m1 f 1 0 x (by omega) (by omega) ok) (F0 m1 f))
      · exact AB_b (b := fun q24 => (fX9_bodyFrom (nX9_body n) 1 2 x q24).bind fun q25 => some (q25.1 ^^^ (q25.2 137 20), q25.2)) ht (fun m1 f => AB_1 (g := fun a M => a ^^^ (M 137 20)) (fr m1 f 1 2 x (by omega) (by omega) ok) (F0 m1 f))
      · exact AB_b (b := fun q27 => (fX9_bodyFrom (nX9_body n) 0 1 x q27).bind fun q28 => some (-q28.1, q28.2)) ht (fun m1 f => AB_1 (g := fun a _ => -a) (fr m1 f 0 1 x (by omega) (by omega) ok) (F0 m1 f))
      · exact AB_b (b := fun q30 => (fX9_bodyFrom (nX9_body n) 0 2 (x / 2) q30).bind fun q31 => some (q31.1, q31.2)) ht (fun m1 f => AB_1 (g := fun a _ => a) (fr m1 f 0 2 (x / 2) (by omega) (by omega) ok) (F0 m1 f))
      · have ok := Bool.and_eq_true_iff.mp ok
        exact AB_b (b := fun q33 => (fX9_bodyFrom (nX9_body n) 0 3 x q33).bind fun q34 => (fX9_voiced (nX9_body n) 0 2 q34.2).bind fun q35 => some (q34.1 - q35.1, q35.2)) ht (fun m1 f => AB_2 (g := fun a b => a - b) (b := fun M => fX9_voiced (nX9_body n) 0 2 M) (fr m1 f 0 3 x (by omega) (by omega) ok.1) (F0 m1 f) (fun m2 f2 => vo m2 (FB_tr f f2) 0 2 (by omega) ok.2))
      · exact AB_b (b := fun q37 => (fX9_bodyFrom (nX9_body n) 3 1 (x + 1) q37).bind fun q38 => some (q38.1, q38.2)) ht (fun m1 f => AB_1 (g := fun a _ => a) (fr m1 f 3 1 (x + 1) (by omega) (by omega) ok) (F0 m1 f))
      · have ok := Bool.and_eq_true_iff.mp ok
        exact AB_b (b := fun q40 => (fX9_bodyFrom (nX9_body n) 3 2 x q40).bind fun q41 => (fX9_bodyFrom (nX9_body n) 3 1 0 q41.2).bind fun q42 => some (q41.1 + q42.1, q42.2)) ht (fun m1 f => AB_2 (g := fun a b => a + b) (b := fun M => fX9_bodyFrom (nX9_body n) 3 1 0 M) (fr m1 f 3 2 x (by omega) (by omega) ok.1) (F0 m1 f) (fun m2 f2 => fr m2 (FB_tr f f2) 3 1 0 (by omega) (by omega) ok.2))
    · have D : AB m ((fX9_began 70 m).bind fun q44 => some (7, q44)) := AB_b (b := fun q44 => some (7, q44)) ht (fun m1 f => ⟨_, _, rfl, F0 m1 f⟩)
      simp only [List.mem_cons, List.not_mem_nil, or_false] at h
      rcases h with h | h | h | h | h | h | h | h | h | h | h | h | h | h | h <;> subst h <;> exact D
end
section
/-! VOICE: BOTH ANSWER, ON -/
theorem RL_tr {mc mr m1 mr1 : Mem} (h : RLx mc mr) (c : ∀ a j, (a < 119 ∨ (129 ≤ a ∧ a ≤ 135)) → m1 a j = mc a j) (k : ∀ a j, (a = 138 ∨ a = 139 ∨ (a = 137 ∧ j = 3) ∨ (151 ≤ a ∧ a ≤ 153)) → mr1 a j = mr a j) (n1 : ∃ n, n ≤ 30 ∧ m1 125 1 = o32 n) (n2 : ∃ n, n ≤ 30 ∧ mr1 137 19 = o32 n) : RLx m1 mr1 := by
  obtain ⟨⟨r, al, f, q, w⟩, h2, h3, h4, _, _⟩ := h
  refine ⟨⟨r, al, f, q, WS_same w (fun a j ha => c a j (by obtain ⟨o, e, ho⟩ := ha; unfold cw at e; omega)) (fun j => k 138 j (by omega))⟩, ?_, fun hz => ?_, fun s hs => ?_, n1, n2⟩
  · rw [c 0 8 (by omega), k 137 3 (by omega)]
    exact h2
  · obtain ⟨r, al, f, q, w⟩ := h3 (by rw [c 0 8 (by omega)] at hz; exact hz)
    exact ⟨r, al, f, q, WS_same w (fun a j ha => c a j (by obtain ⟨o, e, ho⟩ := ha; unfold cw at e; omega)) (fun j => k 139 j (by omega))⟩
  · obtain ⟨⟨t, t1, t2, t3⟩, ⟨n, n1, n2, n3⟩, g⟩ := h4 s hs
    exact ⟨⟨t, t1, (c _ _ (by omega)).trans t2, (k _ _ (by omega)).trans t3⟩, ⟨n, n1, (c _ _ (by omega)).trans n2, (k _ _ (by omega)).trans n3⟩, fun i hi => ((c _ _ (by omega)).trans (g i hi)).trans (k _ _ (by omega)).symm⟩
theorem voice_o {mc mr : Mem} (h : RLx mc mr) (x y z : Int32) : Df (fX8_voice x y z mc) (fX9_voice x y z mr) := by
  have hh := h
  obtain ⟨⟨r, al, f, q, w⟩, _, _, _, hn1, _⟩ := h
  unfold fX8_voice fX9_voice bX8_voice_23 bX9_voice_17
  rw [wi_eq]
  rcases isb w x with ⟨a1, a2⟩ | ⟨a, a1, a2, a3, a4, a5⟩
  · rw [if_pos a1, a2, Option.bind_some, if_pos rfl]
    exact Sm_Df (err1 hh)
  rw [a4, a5, if_neg one0, Option.bind_some, if_neg one0, a2]
  rcases win (l := 0) (h := 3) (by omega) (by omega) y with c | ⟨v, _, v2, rfl, v4⟩
  · rw [if_pos (show fX9_within y 0 3 = 0 from c), if_pos (show fX9_within y 0 3 = 0 from c)]
    exact Sm_Df (err1 hh)
  have c : ¬ fX9_within (o32 v) 0 3 = 0 := by rw [show fX9_within (o32 v) 0 3 = 1 from v4]; exact one0
  have hv : v < 4 := by omega
  rw [if_neg c, if_neg c]
  obtain ⟨u, m1, e1, e2, e3, e4⟩ := voice_c w a1 a3 hv z
  have F := (WS_5 w) a a1 a3 1 (by omega) (by omega)
  have l7 : f a 1 < 7 := by have := F.2.2; unfold lim at this; simp at this; omega
  generalize hm0 : mput (mput (mput mr 137 19 0) 137 20 (o32 a)) 137 21 0 = r0
  have c0 : ∀ c j, ¬ (c = 137 ∧ 19 ≤ j ∧ j ≤ 21) → r0 c j = mr c j := fun c j h => by rw [← hm0, mput_get, if_neg (by omega), mput_get, if_neg (by omega), mput_get, if_neg (by omega)]
  obtain ⟨u2, m2, g1, g2, g3⟩ := voiced_s (e := nX9_body 20) (n := 20) (a := a) (w := f a 1) (v := v) (x := z) (m := r0) a1 (body_s a1 l7 20) hv l7 (okm_20 _ l7 v hv) (by rw [← hm0, mput_get, if_neg (by omega), mput_at]) (by rw [c0 _ _ (by omega)]; exact F.1) ⟨0, by omega, by rw [← hm0, mput_get, if_neg (by omega), mput_get, if_neg (by omega), mput_at]; rfl⟩
  have A : ∃ v' m', (if m1 125 0 = 0 then some (u, fX6_keepTrace m1) else (fX8_no 6 m1).bind fun q6 => some (q6.1, q6.2)) = some (v', m') ∧ (∀ c j, c ≠ 136 → c ≠ 126 → ¬ (c = 125 ∧ j = 1) → m' c j = m1 c j) ∧ ∃ n, n ≤ 30 ∧ m' 125 1 = o32 n := by
    rw [show fX8_no 6 m1 = _ from no_c (i := 6) (by omega)]
    split
    · refine ⟨_, _, rfl, fun c j h1 h2 h3 => ?_, ?_⟩
      · unfold fX6_keepTrace
        rw [mput_get, if_neg h3, mcpy_get, if_neg (by omega)]
      · obtain ⟨t, t1, t2⟩ := e4
        refine ⟨t, t1, ?_⟩
        unfold fX6_keepTrace
        rw [mput_at, mcpy_get, if_neg (by omega), t2]
    · refine ⟨_, _, rfl, fun c j h1 h2 h3 => by dsimp only; rw [mput_c _ _ _ h1], ?_⟩
      obtain ⟨n, n1, n2⟩ := hn1
      exact ⟨n, n1, by dsimp only; rw [mput_c _ _ _ (show 125 ≠ 136 by omega), e3, n2]⟩
  have B : ∃ v' m', (if m2 137 21 = 0 then some (u2, m2) else (fX9_finding (-1000006) m2).bind fun q5 => some (q5.1, q5.2)) = some (v', m') ∧ ∀ c j, c ≠ 141 → m' c j = m2 c j := by
    rw [fnd_m (i := 6) (by omega) (by decide)]
    split
    · exact ⟨_, _, rfl, fun _ _ _ => rfl⟩
    · exact ⟨_, _, rfl, fun c j hc => by dsimp only; rw [mput_c _ _ _ hc]⟩
  obtain ⟨v5, m5, a7, a8, a9⟩ := A
  obtain ⟨v6, m6, b7, b8⟩ := B
  rw [e1, g1, Option.bind_some, Option.bind_some]
  refine ⟨v5, v6, m5, m6, a7, b7, RL_tr hh (fun c j hc => ?_) (fun c j hc => ?_) a9 ?_⟩
  · rw [a8 c j (by omega) (by omega) (by omega), e2 c j (by omega) (by omega)]
  · rw [b8 c j (by omega), g2 c j (by omega) (by omega), c0 c j (by omega)]
  · obtain ⟨t, t1, t2⟩ := g3
    exact ⟨t, t1, by rw [b8 _ _ (by omega)]; exact t2⟩
end
