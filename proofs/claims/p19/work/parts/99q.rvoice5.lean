/-! VOICE: BOTH ANSWER, ON -/
theorem RL_tr {mc mr m1 mr1 : Mem} (h : RLx mc mr) (c : ∀ a j, (a < 119 ∨ (129 ≤ a ∧ a ≤ 135)) → m1 a j = mc a j) (k : ∀ a j, (a = 138 ∨ a = 139 ∨ (a = 137 ∧ j = 3) ∨ (151 ≤ a ∧ a ≤ 153)) → mr1 a j = mr a j) (n1 : ∃ n, n ≤ 30 ∧ m1 125 1 = o32 n) (n2 : ∃ n, n ≤ 30 ∧ mr1 137 19 = o32 n) : RLx m1 mr1 := by
  obtain ⟨⟨r, al, f, q, w⟩, h2, h3, h4, _, _⟩ := h
  refine ⟨⟨r, al, f, q, WS_same w (fun a j ha => c a j (by obtain ⟨o, e, ho⟩ := ha; unfold cw at e; omega)) (fun j => k 138 j (by omega))⟩, ?_, fun hz => ?_, fun s hs => ?_, n1, n2⟩
  · rw [c 0 8 (by omega), k 137 3 (by omega)]
    exact h2
  · obtain ⟨r, al, f, q, w⟩ := h3 (by rw [c 0 8 (by omega)] at hz; exact hz)
    exact ⟨r, al, f, q, WS_same w (fun a j ha => c a j (by obtain ⟨o, e, ho⟩ := ha; unfold cw at e; omega)) (fun j => k 139 j (by omega))⟩
  · obtain ⟨⟨t, t1, t2, t3⟩, ⟨n, n1, n2, n3⟩, g⟩ := h4 s hs
    exact ⟨⟨t, t1, (c _ _ (by omega)).trans t2, (k _ _ (by omega)).trans t3⟩, ⟨n, n1, (c _ _ (by omega)).trans n2, (k _ _ (by omega)).trans n3⟩, fun i hi => ((c _ _ (by omega)).trans (g i hi)).trans (k _ _ (by omega)).symm⟩
theorem voice_o {mc mr : Mem} (h : RLx mc mr) (x y z : Int32) : Df (fX8_voice x y z mc) (fX9_voice x y z mr) := by
  have hh := h
  obtain ⟨⟨r, al, f, q, w⟩, _, _, _, hn1, _⟩ := h
  unfold fX8_voice fX9_voice bX8_voice_23 bX9_voice_17
  rw [wi_eq]
  rcases isb w x with ⟨a1, a2⟩ | ⟨a, a1, a2, a3, a4, a5⟩
  · rw [if_pos a1, a2, Option.bind_some, if_pos rfl]
    exact Sm_Df (err1 hh)
  rw [a4, a5, if_neg one0, Option.bind_some, if_neg one0, a2]
  rcases win (l := 0) (h := 3) (by omega) (by omega) y with c | ⟨v, _, v2, rfl, v4⟩
  · rw [if_pos (show fX9_within y 0 3 = 0 from c), if_pos (show fX9_within y 0 3 = 0 from c)]
    exact Sm_Df (err1 hh)
  have c : ¬ fX9_within (o32 v) 0 3 = 0 := by rw [show fX9_within (o32 v) 0 3 = 1 from v4]; exact one0
  have hv : v < 4 := by omega
  rw [if_neg c, if_neg c]
  obtain ⟨u, m1, e1, e2, e3, e4⟩ := voice_c w a1 a3 hv z
  have F := (WS_5 w) a a1 a3 1 (by omega) (by omega)
  have l7 : f a 1 < 7 := by have := F.2.2; unfold lim at this; simp at this; omega
  generalize hm0 : mput (mput (mput mr 137 19 0) 137 20 (o32 a)) 137 21 0 = r0
  have c0 : ∀ c j, ¬ (c = 137 ∧ 19 ≤ j ∧ j ≤ 21) → r0 c j = mr c j := fun c j h => by rw [← hm0, mput_get, if_neg (by omega), mput_get, if_neg (by omega), mput_get, if_neg (by omega)]
  obtain ⟨u2, m2, g1, g2, g3⟩ := voiced_s (e := nX9_body 20) (n := 20) (a := a) (w := f a 1) (v := v) (x := z) (m := r0) a1 (body_s a1 l7 20) hv l7 (okm_20 _ l7 v hv) (by rw [← hm0, mput_get, if_neg (by omega), mput_at]) (by rw [c0 _ _ (by omega)]; exact F.1) ⟨0, by omega, by rw [← hm0, mput_get, if_neg (by omega), mput_get, if_neg (by omega), mput_at]; rfl⟩
  have A : ∃ v' m', (if m1 125 0 = 0 then some (u, fX6_keepTrace m1) else (fX8_no 6 m1).bind fun q6 => some (q6.1, q6.2)) = some (v', m') ∧ (∀ c j, c ≠ 136 → c ≠ 126 → ¬ (c = 125 ∧ j = 1) → m' c j = m1 c j) ∧ ∃ n, n ≤ 30 ∧ m' 125 1 = o32 n := by
    rw [show fX8_no 6 m1 = _ from no_c (i := 6) (by omega)]
    split
    · refine ⟨_, _, rfl, fun c j h1 h2 h3 => ?_, ?_⟩
      · unfold fX6_keepTrace
        rw [mput_get, if_neg h3, mcpy_get, if_neg (by omega)]
      · obtain ⟨t, t1, t2⟩ := e4
        refine ⟨t, t1, ?_⟩
        unfold fX6_keepTrace
        rw [mput_at, mcpy_get, if_neg (by omega), t2]
    · refine ⟨_, _, rfl, fun c j h1 h2 h3 => by dsimp only; rw [mput_c _ _ _ h1], ?_⟩
      obtain ⟨n, n1, n2⟩ := hn1
      exact ⟨n, n1, by dsimp only; rw [mput_c _ _ _ (show 125 ≠ 136 by omega), e3, n2]⟩
  have B : ∃ v' m', (if m2 137 21 = 0 then some (u2, m2) else (fX9_finding (-1000006) m2).bind fun q5 => some (q5.1, q5.2)) = some (v', m') ∧ ∀ c j, c ≠ 141 → m' c j = m2 c j := by
    rw [fnd_m (i := 6) (by omega) (by decide)]
    split
    · exact ⟨_, _, rfl, fun _ _ _ => rfl⟩
    · exact ⟨_, _, rfl, fun c j hc => by dsimp only; rw [mput_c _ _ _ hc]⟩
  obtain ⟨v5, m5, a7, a8, a9⟩ := A
  obtain ⟨v6, m6, b7, b8⟩ := B
  rw [e1, g1, Option.bind_some, Option.bind_some]
  refine ⟨v5, v6, m5, m6, a7, b7, RL_tr hh (fun c j hc => ?_) (fun c j hc => ?_) a9 ?_⟩
  · rw [a8 c j (by omega) (by omega) (by omega), e2 c j (by omega) (by omega)]
  · rw [b8 c j (by omega), g2 c j (by omega) (by omega), c0 c j (by omega)]
  · obtain ⟨t, t1, t2⟩ := g3
    exact ⟨t, t1, by rw [b8 _ _ (by omega)]; exact t2⟩
