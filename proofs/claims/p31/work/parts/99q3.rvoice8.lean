/-! VOICE: BOTH ANSWER ALIKE: A BODY, ON BOTH SIDES -/
theorem core_q {ec : Ev} {em : Eb} {n a w : Nat} {g : Int32} (ha : a < 16) (hw : w < 7) (ih : PAIR ec em n a w g) (iw : SYW ec n) {v k : Nat} {x : Int32} {d : Nat} {mc mr : Mem} (hv : v < 4) (hk : k < 7) (ok : okc (n + 1) w v k = true) (ok2 : okm (n + 1) w (rs v k) v = true) (hd : d + n ≤ 40) (hs : GSq a w g mc mr) (z1 : mc 125 0 = 0) (z2 : mr 137 21 = 0) (q2 : Int32) (hq : 1 ≤ rs v k → q2 = o32 (up (rs v k))) : RPq mc mr (fX6_speak ec (o32 (bd (rs v k) v)) q2 x (o32 d) mc) (fX9_body em (o32 (rs v k)) (o32 v) x mr) := by
  have r7 := rs_7 k hk v hv
  have tri := tri_tab _ r7 v hv (rs_bd k hk v hv)
  have F1 := GS_F1 hs
  have ht := hs.2.2.2.2
  have e4 : (4 : Int32) * o32 (rs v k) + o32 v = o32 (4 * rs v k + v) := by
    rw [show (4 : Int32) * o32 (rs v k) = o32 (4 * rs v k) from o_mul 4 _, o_add]
  have gs : ∀ m1, FB mr m1 → GSq a w g mc m1 := fun m1 f => GS_on hs F1 f
  have oke : okc (n + 1) w v k = (match bd (rs v k) v with
    | 11 => okc n w 0 w
    | 12 => okc n w 1 w
    | 20 => okc n w 0 (up (rs v k))
    | 21 => okc n w 3 (up (rs v k)) && okc n w 1 w
    | 30 => okc n w 0 (up (rs v k))
    | 31 => okc n w 2 (up (rs v k))
    | 40 => okc n w 2 (up (rs v k))
    | 41 => okc n w 1 (up (rs v k))
    | 50 => okc n w 3 (up (rs v k)) && okc n w 0 w
    | 60 => okc n w 1 (up (rs v k))
    | 61 => okc n w 2 (up (rs v k)) && okc n w 1 (up (rs v k))
    | _ => true) := rfl
  have okf : okm (n + 1) w (rs v k) v = (match 4 * rs v k + v with
    | 1 => okm n w (rs 0 w) 0
    | 2 => okm n w (rs 1 w) 1
    | 4 => okm n w (rs 0 0) 0
    | 7 => okm n w (rs 3 0) 3 && okm n w (rs 1 w) 1
    | 8 => okm n w (rs 0 1) 0
    | 10 => okm n w (rs 2 1) 2
    | 13 => okm n w (rs 1 0) 1
    | 14 => okm n w (rs 2 0) 2
    | 19 => okm n w (rs 3 0) 3 && okm n w (rs 0 w) 0
    | 21 => okm n w (rs 1 3) 1
    | 22 => okm n w (rs 2 3) 2 && okm n w (rs 1 3) 1
    | _ => true) := rfl
  rw [oke] at ok
  rw [okf] at ok2
  unfold fX9_body
  rw [hs.2.1, show fX9_of (o32 a) 4 mr = _ from of_m (j := 4) ha (by omega), Option.bind_some, e4, hs.2.2.2.1]
  rcases tri with ⟨r0, h⟩ | ⟨r1, h⟩
  · generalize 4 * rs v k + v = i at ok2 h ⊢
    generalize bd (rs v k) v = z at ok h ⊢
    rcases h with ⟨rfl, rfl⟩ | ⟨rfl, rfl⟩ | ⟨rfl, rfl⟩ | ⟨rfl, rfl⟩
    · exact RP_b (x := 10) (A := some (x + mc 125 5, mc)) (b := fun q2 => some (x + q2 137 20, q2)) ht z2 (fun m1 f f0 => ⟨_, _, _, _, rfl, rfl, F1, ⟨fun _ _ _ _ => rfl, f.2⟩, .inl ⟨z1, f0, z1, f0, by rw [hs.1.1, (gs m1 f).2.1]⟩⟩)
    · exact RP_b (x := 11) (A := (ec (o32 0) (mc 125 7) x (o32 d) mc).bind fun q => some (q.1 * 2, q.2)) (b := fun q4 => (fX9_voiced em (o32 0) x q4).bind fun q5 => some (q5.1 * 2, q5.2)) ht z2 (fun m1 f f0 => RP_1 (g1 := fun u _ => u * 2) (g2 := fun u _ => u * 2) (own_q ha hw ih iw (by omega) ok ok2 hd (gs m1 f) (.inl ⟨z1, f0⟩)) (fun _ _ _ _ _ => rfl))
    · exact RP_b (x := 12) (A := (ec (o32 1) (mc 125 7) x (o32 d) mc).bind fun q => some (q.1 - q.2 125 6, q.2)) (b := fun q7 => (fX9_voiced em (o32 1) x q7).bind fun q8 => some (q8.1 - g, q8.2)) ht z2 (fun m1 f f0 => RP_1 (g1 := fun u M => u - M 125 6) (g2 := fun u _ => u - g) (own_q ha hw ih iw (by omega) ok ok2 hd (gs m1 f) (.inl ⟨z1, f0⟩)) (fun u M M' f1 f2 => by rw [(GS_on (gs m1 f) f1 f2).1.2.1]))
    · refine RP_b (x := 13) (A := (fX6_parting x mc).bind fun q6 => some (q6.1, q6.2)) (b := fun q10 => if q10 137 20 = g then bX9_body_189 em x g 1 q10 else bX9_body_189 em x g 0 q10) ht z2 (fun m1 f f0 => ?_)
      have fp : ∀ y, FB m1 (mput m1 137 21 y) := fun y => ⟨fun c j a b => by rw [mput_get, if_neg (by omega)], by
        obtain ⟨t, t1, t2⟩ := f.2
        exact ⟨t, t1, by rw [mput_get, if_neg (by omega)]; exact t2⟩⟩
      have m20 := (gs m1 f).2.1
      show RPq mc m1 ((fX6_parting x mc).bind fun q6 => some (q6.1, q6.2)) (if m1 137 20 = g then bX9_body_189 em x g 1 m1 else bX9_body_189 em x g 0 m1)
      unfold fX6_parting
      rw [hs.1.1, hs.1.2.1, m20]
      by_cases c : o32 a = g
      · have c0 : o32 a - g = 0 := by rw [c]; exact Int32.sub_self g
        rw [if_pos c0, if_pos c]
        unfold bX9_body_189
        rw [if_pos (.inr rfl), mput_at, if_neg one0]
        refine ⟨_, _, _, _, rfl, rfl, ⟨fun c j a b => by (try dsimp only); rw [mput_get, if_neg (by omega)], ?_⟩, fp 1, .inr ⟨by (try dsimp only); rw [mput_at], by (try dsimp only); rw [mput_at]⟩⟩
        obtain ⟨t, t1, t2⟩ := F1.2
        exact ⟨t, t1, by (try dsimp only); rw [mput_get, if_neg (by omega)]; exact t2⟩
      · rw [if_neg (sub_ne c), if_pos (sub_ne c), if_neg c]
        unfold bX9_body_189
        rw [if_pos (.inl rfl), mput_at, if_pos rfl, mput_j _ _ _ _ (show 20 ≠ 21 by omega), m20, if_pos (sub_ne c)]
        exact ⟨_, _, _, _, rfl, rfl, F1, fp 0, .inl ⟨z1, f0, z1, by (try dsimp only); rw [mput_at], rfl⟩⟩
  · rw [hq r1]
    have u7 := (above_tab _ r7 r1).2
    generalize 4 * rs v k + v = i at ok2 h ⊢
    generalize bd (rs v k) v = z at ok h ⊢
    generalize up (rs v k) = y at ok h u7 ⊢
    rcases h with ⟨rfl, rfl, rfl⟩ | ⟨rfl, rfl, rfl⟩ | ⟨rfl, rfl, rfl⟩ | ⟨rfl, rfl, rfl⟩ | ⟨rfl, rfl, rfl⟩ | ⟨rfl, rfl, rfl⟩ | ⟨rfl, rfl, rfl⟩ | ⟨rfl, rfl, rfl⟩ | ⟨rfl, rfl, rfl⟩ | ⟨rfl, rfl, rfl⟩
    · exact RP_b (x := 20) (A := (ec (o32 0) (o32 0) x (o32 d) mc).bind fun q => some (q.1 - 4, q.2)) (b := fun q14 => (fX9_bodyFrom em (o32 0) (o32 0) x q14).bind fun q15 => some (q15.1 - 4, q15.2)) ht z2 (fun m1 f f0 => RP_1 (g1 := fun u _ => u - 4) (g2 := fun u _ => u - 4) (call_q hw ih iw (by omega) u7 ok ok2 hd (gs m1 f) (.inl ⟨z1, f0⟩)) (fun _ _ _ _ _ => rfl))
    · have ok := Bool.and_eq_true_iff.mp ok
      have ok2 := Bool.and_eq_true_iff.mp ok2
      exact RP_b (x := 21) (A := (ec (o32 3) (o32 0) x (o32 d) mc).bind fun q => (ec (o32 1) (q.2 125 7) 1 (o32 d) q.2).bind fun p => some (q.1 + p.1, p.2)) (b := fun q17 => (fX9_bodyFrom em (o32 0) (o32 3) x q17).bind fun q18 => (fX9_voiced em (o32 1) 1 q18.2).bind fun q19 => some (q18.1 + q19.1, q19.2)) ht z2 (fun m1 f f0 => RP_2 (g := fun a b => a + b) (b := fun M => ec (o32 1) (M 125 7) 1 (o32 d) M) (b' := fun M => fX9_voiced em (o32 1) 1 M) (call_q hw ih iw (by omega) u7 ok.1 ok2.1 hd (gs m1 f) (.inl ⟨z1, f0⟩)) (fun M M' f1 f2 fl => own_q ha hw ih iw (by omega) ok.2 ok2.2 hd (GS_on (gs m1 f) f1 f2) fl))
    · exact RP_b (x := 30) (A := (ec (o32 0) (o32 1) x (o32 d) mc).bind fun q => some (q.1 * 3, q.2)) (b := fun q21 => (fX9_bodyFrom em (o32 1) (o32 0) x q21).bind fun q22 => some (q22.1 * 3, q22.2)) ht z2 (fun m1 f f0 => RP_1 (g1 := fun u _ => u * 3) (g2 := fun u _ => u * 3) (call_q hw ih iw (by omega) u7 ok ok2 hd (gs m1 f) (.inl ⟨z1, f0⟩)) (fun _ _ _ _ _ => rfl))
    · exact RP_b (x := 31) (A := (ec (o32 2) (o32 1) x (o32 d) mc).bind fun q => some (q.1 ^^^ (q.2 125 5), q.2)) (b := fun q24 => (fX9_bodyFrom em (o32 1) (o32 2) x q24).bind fun q25 => some (q25.1 ^^^ (q25.2 137 20), q25.2)) ht z2 (fun m1 f f0 => RP_1 (g1 := fun u M => u ^^^ (M 125 5)) (g2 := fun u M => u ^^^ (M 137 20)) (call_q hw ih iw (by omega) u7 ok ok2 hd (gs m1 f) (.inl ⟨z1, f0⟩)) (fun u M M' f1 f2 => by
        have k := GS_on (gs m1 f) f1 f2
        try dsimp only
        rw [k.1.1, k.2.1]))
    · exact RP_b (x := 41) (A := (ec (o32 1) (o32 0) x (o32 d) mc).bind fun q => some (0 - q.1, q.2)) (b := fun q27 => (fX9_bodyFrom em (o32 0) (o32 1) x q27).bind fun q28 => some (-q28.1, q28.2)) ht z2 (fun m1 f f0 => RP_1 (g1 := fun u _ => 0 - u) (g2 := fun u _ => -u) (call_q hw ih iw (by omega) u7 ok ok2 hd (gs m1 f) (.inl ⟨z1, f0⟩)) (fun u _ _ _ _ => Int32.zero_sub u))
    · exact RP_b (x := 40) (A := (ec (o32 2) (o32 0) (x / 2) (o32 d) mc).bind fun q => some (q.1, q.2)) (b := fun q30 => (fX9_bodyFrom em (o32 0) (o32 2) (x / 2) q30).bind fun q31 => some (q31.1, q31.2)) ht z2 (fun m1 f f0 => RP_1 (g1 := fun u _ => u) (g2 := fun u _ => u) (call_q hw ih iw (by omega) u7 ok ok2 hd (gs m1 f) (.inl ⟨z1, f0⟩)) (fun _ _ _ _ _ => rfl))
    · have ok := Bool.and_eq_true_iff.mp ok
      have ok2 := Bool.and_eq_true_iff.mp ok2
      exact RP_b (x := 50) (A := (ec (o32 3) (o32 0) x (o32 d) mc).bind fun q => (ec (o32 0) (q.2 125 7) 2 (o32 d) q.2).bind fun p => some (q.1 - p.1, p.2)) (b := fun q33 => (fX9_bodyFrom em (o32 0) (o32 3) x q33).bind fun q34 => (fX9_voiced em (o32 0) 2 q34.2).bind fun q35 => some (q34.1 - q35.1, q35.2)) ht z2 (fun m1 f f0 => RP_2 (g := fun a b => a - b) (b := fun M => ec (o32 0) (M 125 7) 2 (o32 d) M) (b' := fun M => fX9_voiced em (o32 0) 2 M) (call_q hw ih iw (by omega) u7 ok.1 ok2.1 hd (gs m1 f) (.inl ⟨z1, f0⟩)) (fun M M' f1 f2 fl => own_q ha hw ih iw (by omega) ok.2 ok2.2 hd (GS_on (gs m1 f) f1 f2) fl))
    · exact RP_b (x := 60) (A := (ec (o32 1) (o32 3) (x + 1) (o32 d) mc).bind fun q => some (q.1, q.2)) (b := fun q37 => (fX9_bodyFrom em (o32 3) (o32 1) (x + 1) q37).bind fun q38 => some (q38.1, q38.2)) ht z2 (fun m1 f f0 => RP_1 (g1 := fun u _ => u) (g2 := fun u _ => u) (call_q hw ih iw (by omega) u7 ok ok2 hd (gs m1 f) (.inl ⟨z1, f0⟩)) (fun _ _ _ _ _ => rfl))
    · have ok := Bool.and_eq_true_iff.mp ok
      have ok2 := Bool.and_eq_true_iff.mp ok2
      exact RP_b (x := 61) (A := (ec (o32 2) (o32 3) x (o32 d) mc).bind fun q => (ec (o32 1) (o32 3) 0 (o32 d) q.2).bind fun p => some (q.1 + p.1, p.2)) (b := fun q40 => (fX9_bodyFrom em (o32 3) (o32 2) x q40).bind fun q41 => (fX9_bodyFrom em (o32 3) (o32 1) 0 q41.2).bind fun q42 => some (q41.1 + q42.1, q42.2)) ht z2 (fun m1 f f0 => RP_2 (g := fun a b => a + b) (b := fun M => ec (o32 1) (o32 3) 0 (o32 d) M) (b' := fun M => fX9_bodyFrom em (o32 3) (o32 1) 0 M) (call_q hw ih iw (by omega) u7 ok.1 ok2.1 hd (gs m1 f) (.inl ⟨z1, f0⟩)) (fun M M' f1 f2 fl => call_q hw ih iw (by omega) u7 ok.2 ok2.2 hd (GS_on (gs m1 f) f1 f2) fl))
    · exact RP_b (x := 70) (A := some (7, mc)) (b := fun q44 => some (7, q44)) ht z2 (fun m1 f f0 => ⟨_, _, _, _, rfl, rfl, F1, ⟨fun _ _ _ _ => rfl, f.2⟩, .inl ⟨z1, f0, z1, f0, rfl⟩⟩)
theorem pair_q {a w : Nat} {g : Int32} (ha : a < 16) (hw : w < 7) : ∀ n, PAIR (nX6_say n) (nX9_body n) n a w g := by
  intro n
  induction n with
  | zero =>
    intro v k x d mc mr _ _ ok
    cases (show false = true from ok)
  | succ n ih =>
    intro v k x d mc mr hv hk ok ok2 hd hs z1 z2
    show RPq mc mr (fX6_say (nX6_say n) (o32 v) (o32 k) x (o32 d) mc) (fX9_body (nX9_body n) (o32 (rs v k)) (o32 v) x mr)
    rw [say_lp hv hk]
    have r7 := rs_7 k hk v hv
    have F1 := GS_F1 hs
    have F2 := GS_F2 hs
    have go : ∀ m1, FV mc m1 → m1 125 0 = 0 → RPq mc mr (bX6_say_92 (nX6_say n) x (o32 d) (o32 (rs v k)) (o32 (bd (rs v k) v)) m1) (fX9_body (nX9_body n) (o32 (rs v k)) (o32 v) x mr) := fun m1 f f0 => by
      unfold bX6_say_92
      have hq : ∃ q2, fX1_above (o32 (rs v k)) m1 = some q2 ∧ (1 ≤ rs v k → q2 = o32 (up (rs v k))) := by
        by_cases r0 : rs v k = 0
        · rw [r0]
          exact ⟨_, above_0 m1, fun z => absurd z (by omega)⟩
        · exact ⟨_, above_c r7 (by omega) m1, fun _ => rfl⟩
      obtain ⟨q2, h1, h2⟩ := hq
      have c := core_q ha hw ih (say_w n) (x := x) (d := d + 1) hv hk ok ok2 (by omega) (GS_on hs f F2) f0 z2 q2 h2
      obtain ⟨u, mc', u', mr', e1, e2, f1, f2, h⟩ := c
      rw [h1, Option.bind_some, o_s d, e1]
      refine ⟨u, mc', u', mr', rfl, e2, FV_tr f f1, f2, ?_⟩
      rcases h with ⟨a1, a2, a3, a4, a5⟩ | h
      · exact .inl ⟨z1, z2, a3, a4, a5⟩
      · exact .inr h
    have nb : ∀ k, k < 7 → ∀ v, v < 4 → ¬ bd k v = 0 → ¬ o32 (bd k v) = 0 := by decide +kernel
    unfold bX6_say_40
    rw [body_c r7 hv, Option.bind_some, if_neg (nb _ r7 v hv (rs_bd k hk v hv)), if_pos (show o32 d < 40 by rw [show (40 : Int32) = o32 40 from rfl, o_lt (by omega) (by omega)]; omega)]
    obtain ⟨t, t1, t2⟩ := hs.1.2.2.2
    rw [t2]
    by_cases c : t = 30
    · rw [if_pos (show (30 : Int32) ≤ o32 t by rw [c]; decide)]
      exact go mc F1 z1
    · have n30 : ¬ (30 : Int32) ≤ o32 t := by rw [show (30 : Int32) = o32 30 from rfl, o_le (by omega) (by omega)]; omega
      rw [if_neg n30, if_pos (o_inb (show t < 30 by omega) (by omega)), mput_c _ _ _ (show 125 ≠ 127 by omega), t2, o_s]
      exact go _ ⟨fun c j a b => by (try dsimp only); rw [mput_get, if_neg (by omega), mput_c _ _ _ a], t + 1, by omega, by rw [mput_at]⟩ (by rw [mput_get, if_neg (by omega), mput_c _ _ _ (show 125 ≠ 127 by omega)]; exact z1)
theorem voice_s {mc mr : Mem} (h : RLx mc mr) (x y z : Int32) : Sm (fX8_voice x y z mc) (fX9_voice x y z mr) := by
  have hh := h
  obtain ⟨⟨r, al, f, q, w⟩, _, _, _, hn1, _⟩ := h
  unfold fX8_voice fX9_voice bX8_voice_23 bX9_voice_17
  rw [wi_eq]
  rcases isb w x with ⟨a1, a2⟩ | ⟨a, a1, a2, a3, a4, a5⟩
  · rw [if_pos a1, a2, Option.bind_some, if_pos rfl]
    exact err1 hh
  rw [a4, a5, if_neg one0, Option.bind_some, if_neg one0, a2]
  rcases win (l := 0) (h := 3) (by omega) (by omega) y with c | ⟨v, _, v2, rfl, v4⟩
  · rw [if_pos (show fX9_within y 0 3 = 0 from c), if_pos (show fX9_within y 0 3 = 0 from c)]
    exact err1 hh
  have c : ¬ fX9_within (o32 v) 0 3 = 0 := by rw [show fX9_within (o32 v) 0 3 = 1 from v4]; exact one0
  have hv : v < 4 := by omega
  rw [if_neg c, if_neg c]
  have F := (WS_5 w) a a1 a3 1 (by omega) (by omega)
  have F4 := (WS_5 w) a a1 a3 4 (by omega) (by omega)
  have l7 : f a 1 < 7 := by have := F.2.2; unfold lim at this; simp at this; omega
  generalize hr0 : mput (mput (mput mr 137 19 0) 137 20 (o32 a)) 137 21 0 = r0
  have d0 : ∀ c j, ¬ (c = 137 ∧ 19 ≤ j ∧ j ≤ 21) → r0 c j = mr c j := fun c j h => by rw [← hr0, mput_get, if_neg (by omega), mput_get, if_neg (by omega), mput_get, if_neg (by omega)]
  unfold fX6_answer
  generalize hm0 : mput (mput mc 125 0 0) 125 4 0 = m0
  have c0 : ∀ c j, ¬ (c = 125 ∧ (j = 0 ∨ j = 4)) → m0 c j = mc c j := fun c j h => by rw [← hm0, mput_get, if_neg (by omega), mput_get, if_neg (by omega)]
  have hc : CS 0 m0 r al := CS_same (WS_4 w) (fun c j h => c0 c j (by rcases h with h | h | ⟨b, hb, h⟩ <;> unfold cw at h <;> omega))
  have h1 := has_c hc a1
  rw [a3] at h1
  rw [h1, if_neg (show ¬ i01 true = 0 by decide), if_pos (o_inb a1 (by omega)), if_pos (o_inb a1 (by omega)), o_tn (show a < 2147483648 by omega)]
  generalize hm1 : mput (mput m0 125 5 (o32 a)) 125 6 (mput m0 125 5 (o32 a) (cw 0 6) a) = m1
  have c1 : ∀ c j, ¬ (c = 125 ∧ (j = 5 ∨ j = 6)) → m1 c j = m0 c j := fun c j h => by rw [← hm1, mput_get, if_neg (by omega), mput_get, if_neg (by omega)]
  have k7 : m1 (cw 0 3) a = o32 (f a 1) := by rw [c1 _ _ (by unfold cw; omega), c0 _ _ (by unfold cw; omega)]; exact F.2.1
  rw [k7, mput_at]
  generalize hm2 : mput m1 125 7 (o32 (f a 1)) = m2
  have c2 : ∀ c j, ¬ (c = 125 ∧ j = 7) → m2 c j = m1 c j := fun c j h => by rw [← hm2, mput_get, if_neg (by omega)]
  have gs : GSq a (f a 1) (o32 (f a 4)) m2 r0 := by
    refine ⟨⟨?_, ?_, ?_, 0, by omega, ?_⟩, ?_, ?_, ?_, 0, by omega, ?_⟩
    · rw [c2 _ _ (by omega), ← hm1, mput_get, if_neg (by omega), mput_at]
    · rw [c2 _ _ (by omega), ← hm1, mput_at, mput_get, if_neg (by unfold cw; omega), c0 _ _ (by unfold cw; omega)]
      exact F4.2.1
    · rw [← hm2, mput_at]
    · rw [c2 _ _ (by omega), c1 _ _ (by omega), ← hm0, mput_at]; rfl
    · rw [← hr0, mput_get, if_neg (by omega), mput_at]
    · rw [d0 _ _ (by omega)]; exact F.1
    · rw [d0 _ _ (by omega)]; exact F4.1
    · rw [← hr0, mput_get, if_neg (by omega), mput_get, if_neg (by omega), mput_at]; rfl
  have z1 : m2 125 0 = 0 := by rw [c2 _ _ (by omega), c1 _ _ (by omega), ← hm0, mput_get, if_neg (by omega), mput_at]
  have z2 : r0 137 21 = 0 := by rw [← hr0, mput_at]
  obtain ⟨u, m5, u', m6, e1, e2, f1, f2, hf⟩ := own_q (x := z) (d := 0) a1 l7 (pair_q a1 l7 20) (say_w 20) hv (okc_20 _ l7 v hv) (okm_20 _ l7 v hv) (by omega) gs (.inl ⟨z1, z2⟩)
  rw [show m2 125 7 = o32 (f a 1) by rw [← hm2, mput_at]] at e1
  have e1 : nX6_say 20 (o32 v) (o32 (f a 1)) z 0 m2 = some (u, m5) := e1
  rw [e1, e2, Option.bind_some, Option.bind_some, Option.bind_some]
  have q1 : m5 125 1 = mc 125 1 := by rw [f1.1 _ _ (by omega) (by omega), c2 _ _ (by omega), c1 _ _ (by omega), c0 _ _ (by omega)]
  have qc : ∀ c j, c ≠ 125 → c ≠ 127 → m5 c j = mc c j := fun c j h1 h2 => by rw [f1.1 _ _ h2 (by omega), c2 _ _ (by omega), c1 _ _ (by omega), c0 _ _ (by omega)]
  have qr : ∀ c j, c ≠ 150 → c ≠ 137 → m6 c j = mr c j := fun c j h1 h2 => by rw [f2.1 _ _ h1 (by omega), d0 _ _ (by omega)]
  have q3 : m6 137 3 = mr 137 3 := by rw [f2.1 _ _ (by omega) (by omega), d0 _ _ (by omega)]
  try dsimp only
  rcases hf with ⟨_, _, b1, b2, b3⟩ | ⟨b1, b2⟩
  · rw [if_pos b1, if_pos b2, b3]
    refine ⟨u', _, m6, rfl, rfl, RL_tr hh (fun c j hc => ?_) (fun c j hc => ?_) ?_ f2.2⟩
    · unfold fX6_keepTrace
      rw [mput_get, if_neg (by omega), mcpy_get, if_neg (by omega)]
      exact qc c j (by omega) (by omega)
    · rcases hc with hc | hc | ⟨hc, hj⟩ | hc
      · exact qr c j (by omega) (by omega)
      · exact qr c j (by omega) (by omega)
      · rw [hc, hj]; exact q3
      · exact qr c j (by omega) (by omega)
    · obtain ⟨t, t1, t2⟩ := f1.2
      refine ⟨t, t1, ?_⟩
      unfold fX6_keepTrace
      rw [mput_at, mcpy_get, if_neg (by omega), t2]
  · rw [if_neg (by rw [b1]; exact one0), if_neg (by rw [b2]; exact one0), show fX8_no 6 m5 = _ from no_c (i := 6) (by omega), fnd_m (i := 6) (by omega) (by decide), show (-1000000 : Int32) - o32 6 = -1000006 by decide]
    refine ⟨-1000006, _, _, rfl, rfl, RL_tr hh (fun c j hc => ?_) (fun c j hc => ?_) ?_ ?_⟩
    · (try dsimp only)
      rw [mput_c _ _ _ (by omega)]
      exact qc c j (by omega) (by omega)
    · (try dsimp only)
      rw [mput_c _ _ _ (by omega)]
      rcases hc with hc | hc | ⟨hc, hj⟩ | hc
      · exact qr c j (by omega) (by omega)
      · exact qr c j (by omega) (by omega)
      · rw [hc, hj]; exact q3
      · exact qr c j (by omega) (by omega)
    · obtain ⟨n, n1, n2⟩ := hn1
      exact ⟨n, n1, by (try dsimp only); rw [mput_c _ _ _ (show 125 ≠ 136 by omega), q1, n2]⟩
    · obtain ⟨t, t1, t2⟩ := f2.2
      exact ⟨t, t1, by (try dsimp only); rw [mput_c _ _ _ (show 137 ≠ 141 by omega), t2]⟩
