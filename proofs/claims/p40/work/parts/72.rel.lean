section
/-! THE RELATION OF BOTH MEMORIES; TWO LOOPS AT ONCE -/
theorem lp_two {S T E F : Type} {bs : S → Option (S ⊕ E)} {bt : T → Option (T ⊕ F)} (J : Nat → S → T → Prop) (Q : E → F → Prop) : ∀ (k i : Nat) (s : S) (t : T) (n n' : Nat), J i s t → (∀ j s t, i ≤ j → j < i + k → J j s t → ∃ s' t', bs s = some (.inl s') ∧ bt t = some (.inl t') ∧ J (j + 1) s' t') → (∀ s t, J (i + k) s t → ∃ e f, bs s = some (.inr e) ∧ bt t = some (.inr f) ∧ Q e f) → k < n → k < n' → ∃ e f, lp bs n s = some e ∧ lp bt n' t = some f ∧ Q e f
  | 0, i, s, t, n, n', hi, _, he, hn, hn' => by
    obtain ⟨n, rfl⟩ : ∃ z, n = z + 1 := ⟨n - 1, by omega⟩
    obtain ⟨n', rfl⟩ : ∃ z, n' = z + 1 := ⟨n' - 1, by omega⟩
    obtain ⟨e, f, e1, e2, e3⟩ := he s t hi
    unfold lp
    rw [e1, e2]
    exact ⟨e, f, rfl, rfl, e3⟩
  | k + 1, i, s, t, n, n', hi, hs, he, hn, hn' => by
    obtain ⟨n, rfl⟩ : ∃ z, n = z + 1 := ⟨n - 1, by omega⟩
    obtain ⟨n', rfl⟩ : ∃ z, n' = z + 1 := ⟨n' - 1, by omega⟩
    obtain ⟨s', t', e1, e2, e3⟩ := hs i s t (Nat.le_refl _) (by omega) hi
    unfold lp
    rw [e1, e2]
    exact lp_two J Q k (i + 1) s' t' n n' e3 (fun j s t h1 h2 => hs j s t (by omega) (by omega)) (fun s t h => he s t (by rw [show i + (k + 1) = i + 1 + k by omega]; exact h)) (by omega) (by omega)
noncomputable def lim (j : Nat) : Nat := if j = 1 then 6 else if j = 4 then 3 else 99999
noncomputable def FR (k : Nat) (m : Mem) (w : Nat → Int32) (al : Nat → Bool) (f : Nat → Nat → Nat) : Prop := ∀ b, b < 16 → al b = true → ∀ j, 1 ≤ j → j ≤ 4 → w (12 + 50 * b + j) = o32 (f b j) ∧ m (cw k (j + 2)) b = o32 (f b j) ∧ f b j ≤ lim j
noncomputable def sg1 (i : Nat) : Nat := [124, 38, 60, 61, 62, 43, 45, 42, 47, 37, 33].getD i 0
/-- a token of a TEXT as the class keeps it; the number itself is what the model keeps -/
noncomputable def ctok (t : Nat) : Int32 := if t < 10000 then o32 t else if t < 20000 then -1 - o32 (t - 10000) else -100 - o32 (sg1 (t - 20000))
noncomputable def otok (t : Nat) : Prop := t < 10005 ∨ (20000 ≤ t ∧ t ≤ 20010)
noncomputable def stp (d : Option Nat) (t : Nat) : Option Nat := match d with
  | none => none
  | some d => if t < 20000 then some (d + 1) else if t = 20010 then (if 1 ≤ d then some d else none) else if 2 ≤ d then some (d - 1) else none
noncomputable def dpt (l : List Nat) : Option Nat := l.foldl stp (some 0)
noncomputable def TR (k : Nat) (m : Mem) (w : Nat → Int32) (u : Nat) (l : List Nat) : Prop := l.length ≤ 60 ∧ (∀ t ∈ l, otok t) ∧ (l ≠ [] → dpt l = some 1) ∧ w (896 + 62 * u) = o32 l.length ∧ m (cw k (27 + 3 * u)) 0 = o32 l.length ∧ ∀ i, (h : i < l.length) → w (896 + 62 * u + 1 + i) = o32 l[i] ∧ m (cw k (28 + 3 * u)) i = ctok l[i]
noncomputable def SC (k : Nat) (m : Mem) (w : Nat → Int32) : Prop := w 8 = m (cw k 2) 6 ∧ w 9 = m (cw k 2) 7 ∧ w 10 = m (cw k 2) 8 ∧ w 3 = m (cw k 1) 9 ∧ (∃ n, n ≤ 99 ∧ w 4 = o32 n ∧ m (cw k 1) 6 = o32 n) ∧ (∃ n, n ≤ 999 ∧ w 5 = o32 n ∧ m (cw k 1) 7 = o32 n) ∧ (∃ n, n < 100 ∧ ¬ n % 10 = 0 ∧ w 6 = o32 n ∧ m (cw k 1) 8 = o32 n) ∧ (∃ n, n ≤ 9999 ∧ w 0 = o32 n ∧ m (cw k 1) 10 = o32 n) ∧ ∃ n, n ≤ 1999999999 ∧ w 7 = o32 n ∧ m (cw k 1) 11 = o32 n
noncomputable def TP (k : Nat) (m : Mem) (w : Nat → Int32) : Prop := (∃ n, n ≤ 60 ∧ w 1 = o32 n ∧ m (cw k 1) 3 = o32 n) ∧ (∀ i, i < 60 → ∃ n, n ≤ 255 ∧ w (812 + i) = o32 n ∧ m (cw k 36) i = o32 n) ∧ (∃ n, n ≤ 24 ∧ w 2 = o32 n ∧ m (cw k 1) 5 = o32 n) ∧ ∀ i, i < 24 → w (872 + i) = m (cw k 37) i
/-- one world: the class's k, and a row of the model's numbers -/
noncomputable def WS (k : Nat) (m : Mem) (w : Nat → Int32) (r : Nat → List Nat) (al : Nat → Bool) (f : Nat → Nat → Nat) (q : Nat → List Nat) : Prop := Gr r al ∧ FC r al ∧ RS (fun _ => w) r al ∧ CS k m r al ∧ FR k m w al f ∧ (∀ u, u < 3 → TR k m w u (q u)) ∧ SC k m w ∧ TP k m w
noncomputable def WR (k : Nat) (m : Mem) (w : Nat → Int32) : Prop := ∃ r al f q, WS k m w r al f q
theorem WS_1 {k : Nat} {m : Mem} {w : Nat → Int32} {r : Nat → List Nat} {al : Nat → Bool} {f : Nat → Nat → Nat} {q : Nat → List Nat} (h : WS k m w r al f q) : Gr r al := h.1
theorem WS_2 {k : Nat} {m : Mem} {w : Nat → Int32} {r : Nat → List Nat} {al : Nat → Bool} {f : Nat → Nat → Nat} {q : Nat → List Nat} (h : WS k m w r al f q) : FC r al := h.2.1
theorem WS_3 {k : Nat} {m mr : Mem} {r : Nat → List Nat} {al : Nat → Bool} {f : Nat → Nat → Nat} {q : Nat → List Nat} (h : WS k m (mr 138) r al f q) : RS mr r al := h.2.2.1
theorem WS_4 {k : Nat} {m : Mem} {w : Nat → Int32} {r : Nat → List Nat} {al : Nat → Bool} {f : Nat → Nat → Nat} {q : Nat → List Nat} (h : WS k m w r al f q) : CS k m r al := h.2.2.2.1
theorem WS_5 {k : Nat} {m : Mem} {w : Nat → Int32} {r : Nat → List Nat} {al : Nat → Bool} {f : Nat → Nat → Nat} {q : Nat → List Nat} (h : WS k m w r al f q) : FR k m w al f := h.2.2.2.2.1
theorem WS_6 {k : Nat} {m : Mem} {w : Nat → Int32} {r : Nat → List Nat} {al : Nat → Bool} {f : Nat → Nat → Nat} {q : Nat → List Nat} (h : WS k m w r al f q) : ∀ u, u < 3 → TR k m w u (q u) := h.2.2.2.2.2.1
theorem WS_7 {k : Nat} {m : Mem} {w : Nat → Int32} {r : Nat → List Nat} {al : Nat → Bool} {f : Nat → Nat → Nat} {q : Nat → List Nat} (h : WS k m w r al f q) : SC k m w := h.2.2.2.2.2.2.1
theorem WS_8 {k : Nat} {m : Mem} {w : Nat → Int32} {r : Nat → List Nat} {al : Nat → Bool} {f : Nat → Nat → Nat} {q : Nat → List Nat} (h : WS k m w r al f q) : TP k m w := h.2.2.2.2.2.2.2
/-- the cells of the class's world k that count -/
noncomputable def rc (k c : Nat) : Prop := ∃ o, c = cw k o ∧ ((1 ≤ o ∧ o ≤ 7) ∨ (9 ≤ o ∧ o ≤ 24) ∨ o = 27 ∨ o = 28 ∨ o = 30 ∨ o = 31 ∨ o = 33 ∨ o = 34 ∨ o = 36 ∨ o = 37)
theorem FR_same {k : Nat} {m m' : Mem} {w w' : Nat → Int32} {al : Nat → Bool} {f : Nat → Nat → Nat} (h : FR k m w al f) (e : ∀ o j, 3 ≤ o → o ≤ 6 → m' (cw k o) j = m (cw k o) j) (e2 : ∀ j, 12 ≤ j → j < 812 → w' j = w j) : FR k m' w' al f := fun b hb ha j h1 h2 => by
  rw [e _ _ (by omega) (by omega), e2 _ (by omega) (by omega)]
  exact h b hb ha j h1 h2
theorem TR_same {k : Nat} {m m' : Mem} {w w' : Nat → Int32} {u : Nat} {l : List Nat} (hu : u < 3) (h : TR k m w u l) (e : ∀ o j, o = 27 + 3 * u ∨ o = 28 + 3 * u → m' (cw k o) j = m (cw k o) j) (e2 : ∀ j, 896 ≤ j → w' j = w j) : TR k m' w' u l := by
  obtain ⟨h1, h2, h3, h4, h5, h6⟩ := h
  refine ⟨h1, h2, h3, by rw [e2 _ (by omega)]; exact h4, by rw [e _ _ (.inl rfl)]; exact h5, fun i hi => ?_⟩
  rw [e2 _ (by omega), e _ _ (.inr rfl)]
  exact h6 i hi
theorem SC_same {k : Nat} {m m' : Mem} {w w' : Nat → Int32} (h : SC k m w) (e : ∀ o j, (o = 1 ∧ 6 ≤ j ∧ j ≤ 11) ∨ (o = 2 ∧ 6 ≤ j ∧ j ≤ 8) → m' (cw k o) j = m (cw k o) j) (e2 : ∀ j, j ≤ 10 → j ≠ 1 → j ≠ 2 → w' j = w j) : SC k m' w' := by
  unfold SC
  rw [e2 8 (by omega) (by omega) (by omega), e2 9 (by omega) (by omega) (by omega), e2 10 (by omega) (by omega) (by omega), e2 3 (by omega) (by omega) (by omega), e2 4 (by omega) (by omega) (by omega), e2 5 (by omega) (by omega) (by omega), e2 6 (by omega) (by omega) (by omega), e2 0 (by omega) (by omega) (by omega), e2 7 (by omega) (by omega) (by omega), e 2 6 (by omega), e 2 7 (by omega), e 2 8 (by omega), e 1 9 (by omega), e 1 6 (by omega), e 1 7 (by omega), e 1 8 (by omega), e 1 10 (by omega), e 1 11 (by omega)]
  exact h
theorem TP_same {k : Nat} {m m' : Mem} {w w' : Nat → Int32} (h : TP k m w) (e : ∀ o j, (o = 1 ∧ (j = 3 ∨ j = 5)) ∨ o = 36 ∨ o = 37 → m' (cw k o) j = m (cw k o) j) (e2 : ∀ j, j = 1 ∨ j = 2 ∨ 812 ≤ j → w' j = w j) : TP k m' w' := by
  obtain ⟨h1, h2, h3, h4⟩ := h
  refine ⟨?_, fun i hi => ?_, ?_, fun i hi => ?_⟩
  · rw [e2 1 (by omega), e 1 3 (by omega)]; exact h1
  · rw [e2 _ (by omega), e 36 _ (by omega)]; exact h2 i hi
  · rw [e2 2 (by omega), e 1 5 (by omega)]; exact h3
  · rw [e2 _ (by omega), e 37 _ (by omega)]; exact h4 i hi
theorem WS_same {k : Nat} {m m' : Mem} {w w' : Nat → Int32} {r : Nat → List Nat} {al : Nat → Bool} {f : Nat → Nat → Nat} {q : Nat → List Nat} (h : WS k m w r al f q) (e : ∀ c j, rc k c → m' c j = m c j) (e2 : ∀ j, w' j = w j) : WS k m' w' r al f q := by
  obtain ⟨h1, h2, h3, h4, h5, h6, h7, h8⟩ := h
  have ew : w' = w := funext e2
  subst ew
  have eo : ∀ o j, ((1 ≤ o ∧ o ≤ 7) ∨ (9 ≤ o ∧ o ≤ 24) ∨ o = 27 ∨ o = 28 ∨ o = 30 ∨ o = 31 ∨ o = 33 ∨ o = 34 ∨ o = 36 ∨ o = 37) → m' (cw k o) j = m (cw k o) j := fun o j ho => e _ _ ⟨o, rfl, ho⟩
  refine ⟨h1, h2, h3, CS_same h4 (fun c j hc => ?_), FR_same h5 (fun o j a b => eo o j (by omega)) (fun _ _ _ => rfl), fun u hu => TR_same hu (h6 u hu) (fun o j ho => eo o j (by omega)) (fun _ _ => rfl), SC_same h7 (fun o j ho => eo o j (by omega)) (fun _ _ _ _ => rfl), TP_same h8 (fun o j ho => eo o j (by omega)) (fun _ _ => rfl)⟩
  rcases hc with hc | hc | ⟨z, hz, hc⟩
  · rw [hc.1]; exact eo _ _ (by omega)
  · rw [hc]; exact eo _ _ (by omega)
  · rw [hc]; exact eo _ _ (by omega)
theorem cw_inj {k a b : Nat} (h : cw k a = cw k b) : a = b := by
  unfold cw at h
  omega
theorem rc_ne {k o : Nat} {c : Nat} (h : rc k c) (ho : o = 8 ∨ o = 25 ∨ o = 26 ∨ o = 29 ∨ o = 32 ∨ o = 35 ∨ o = 38 ∨ o = 39) : c ≠ cw k o := by
  obtain ⟨a, e, h2⟩ := h
  intro z
  rw [e] at z
  have := cw_inj z
  omega
/-- only the class's world k may have changed; only what the model works in may have changed -/
noncomputable def CF (k : Nat) (m m' : Mem) : Prop := ∀ c j, (∀ o, 1 ≤ o → o ≤ 39 → c ≠ cw k o) → m' c j = m c j
noncomputable def MF (m m' : Mem) : Prop := ∀ c j, c ≠ 138 → c ≠ 142 → c ≠ 145 → c ≠ 146 → c ≠ 147 → m' c j = m c j
theorem CF_rf {k : Nat} {m : Mem} : CF k m m := fun _ _ _ => rfl
theorem MF_rf {m : Mem} : MF m m := fun _ _ _ _ _ _ _ => rfl
theorem CF_tr {k : Nat} {m m1 m2 : Mem} (h1 : CF k m m1) (h2 : CF k m1 m2) : CF k m m2 := fun c j h => (h2 c j h).trans (h1 c j h)
theorem MF_tr {m m1 m2 : Mem} (h1 : MF m m1) (h2 : MF m1 m2) : MF m m2 := fun c j a b d e g => (h2 c j a b d e g).trans (h1 c j a b d e g)
theorem CF_put {k o j : Nat} {m : Mem} {v : Int32} (h1 : 1 ≤ o) (h2 : o ≤ 39) : CF k m (mput m (cw k o) j v) := fun c _ h => by rw [mput_c _ _ _ (h o h1 h2)]
theorem MF_put {c j : Nat} {m : Mem} {v : Int32} (h : c = 138 ∨ c = 142 ∨ c = 145 ∨ c = 146 ∨ c = 147) : MF m (mput m c j v) := fun c' _ h1 h2 h3 h4 h5 => by rw [mput_c _ _ _ (by omega)]
end
section
/-! BOTH: A TEXT AT WORK -/
theorem dpt_s {l : List Nat} {i : Nat} (h : i < l.length) : dpt (l.take (i + 1)) = stp (dpt (l.take i)) l[i] := by
  unfold dpt
  rw [tk1 h, List.foldl_append]
  rfl
theorem stp_none : ∀ (l : List Nat), l.foldl stp none = none
  | [] => rfl
  | _ :: l => stp_none l
theorem dpt_some {l : List Nat} {d i : Nat} (h : dpt l = some d) : ∃ e, dpt (l.take i) = some e := by
  cases hd : dpt (l.take i) with
  | some e => exact ⟨e, rfl⟩
  | none =>
    have : dpt l = none := by
      have e : l = l.take i ++ l.drop i := (List.take_append_drop i l).symm
      unfold dpt at hd ⊢
      rw [e, List.foldl_append, hd]
      exact stp_none _
    rw [this] at h
    cases h
theorem tok_tab : ∀ i, i < 11 → ctok (20000 + i) ≤ -100 ∧ (ctok (20000 + i) = fX5_ofSign 33 ↔ i = 10) ∧ jI2c (-100 - ctok (20000 + i)) = o32 (sg1 i) := by decide +kernel
theorem nam_tab : ∀ j, j < 5 → ¬ ctok (10000 + j) ≤ -100 ∧ ctok (10000 + j) < 0 ∧ ¬ 5 ≤ (-1 - ctok (10000 + j)) ∧ inb (-1 - ctok (10000 + j)) 5 ∧ (-1 - ctok (10000 + j)).toNatClampNeg = j := by decide +kernel
theorem done_R (a b : Int32) : ∀ i, i < 10 → fX5_worked (o32 (sg1 i)) a b = fX9_done (o32 (20000 + i)) a b := fun i hi => by
  match i, hi with
  | 0, _ => rfl
  | 1, _ => rfl
  | 2, _ => rfl
  | 3, _ => rfl
  | 4, _ => rfl
  | 5, _ => rfl
  | 6, _ => rfl
  | 7, _ => rfl
  | 8, _ => rfl
  | 9, _ => rfl
theorem value_R {k u : Nat} {m mr : Mem} {l : List Nat} (hu : u < 3) (h : TR k m (mr 138) u l) (hl : l ≠ []) (hn : ∀ j, j < 5 → m (cw k 38) j = mr 145 j) : ∃ v m' mr', fX5_value_5 k u (cw k 38) m = some (v, m') ∧ fX9_worked (o32 (896 + 62 * u + 1)) mr = some (v, mr') ∧ (∀ c j, c ≠ cw k (29 + 3 * u) → m' c j = m c j) ∧ ∀ c j, c ≠ 146 → mr' c j = mr c j := by
  obtain ⟨h1, h2, h3, h4, h5, h6⟩ := h
  have h3 := h3 hl
  have key := lp_two (bs := lX5_value_5_4 k u (cw k 38)) (bt := lX9_worked_4 (o32 (896 + 62 * u + 1))) (fun i s t => ∃ d, dpt (l.take i) = some d ∧ d ≤ i ∧ s.1 = o32 d ∧ s.2.1 = o32 i ∧ t.1 = o32 d ∧ t.2.1 = o32 (896 + 62 * u + 1 + i) ∧ (∀ x, x < d → s.2.2 (cw k (29 + 3 * u)) x = t.2.2 146 x) ∧ (∀ c j, c ≠ cw k (29 + 3 * u) → s.2.2 c j = m c j) ∧ ∀ c j, c ≠ 146 → t.2.2 c j = mr c j) (fun e f => e.1 = f.1 ∧ (∀ c j, c ≠ cw k (29 + 3 * u) → e.2 c j = m c j) ∧ ∀ c j, c ≠ 146 → f.2 c j = mr c j) l.length 0 (0, 0, m) (0, o32 (896 + 62 * u + 1), mr) fu fu ⟨0, by simp [dpt], Nat.le_refl _, rfl, rfl, rfl, rfl, fun x hx => absurd hx (by omega), fun _ _ _ => rfl, fun _ _ _ => rfl⟩ (fun i s t _ hi hJ => ?_) (fun s t hJ => ?_) (lt_fu (by omega)) (lt_fu (by omega))
  · obtain ⟨e, f, e1, e2, e3, e4, e5⟩ := key
    obtain ⟨v, m'⟩ := e
    obtain ⟨v', mr'⟩ := f
    dsimp only at e3
    subst e3
    exact ⟨v, m', mr', e1, e2, e4, e5⟩
  · obtain ⟨d, j1, j2, j3, j4, j5, j6, j7, j8, j9⟩ := hJ
    have hi : i < l.length := by omega
    have hc := h6 i hi
    have ot := h2 _ (List.getElem_mem hi)
    have dn := dpt_s hi
    rw [j1] at dn
    obtain ⟨dd, hdd⟩ := dpt_some (i := i + 1) h3
    rw [hdd] at dn
    have c27 : s.2.2 (cw k (27 + 3 * u)) 0 = o32 l.length := by rw [j8 _ _ (cw_ne (by omega))]; exact h5
    have c28 : s.2.2 (cw k (28 + 3 * u)) (o32 i).toNatClampNeg = ctok l[i] := by rw [o_tn (by omega), j8 _ _ (cw_ne (by omega))]; exact hc.2
    have w0 : t.2.2 138 (o32 (896 + 62 * u + 1) - 1).toNatClampNeg = o32 l.length := by
      rw [show o32 (896 + 62 * u + 1) - 1 = o32 (896 + 62 * u) from o_sub (b := 1) (by omega) (by omega), o_tn (by omega), j9 _ _ (by omega)]
      exact h4
    have w1 : t.2.2 138 (o32 (896 + 62 * u + 1 + i)).toNatClampNeg = o32 l[i] := by rw [o_tn (by omega), j9 _ _ (by omega)]; exact hc.1
    have ib : inb (o32 (896 + 62 * u + 1) - 1) 1082 := by
      rw [show o32 (896 + 62 * u + 1) - 1 = o32 (896 + 62 * u) from o_sub (b := 1) (by omega) (by omega)]
      exact o_inb (by omega) (by omega)
    have il : ¬ o32 l.length ≤ o32 i := by rw [o_le (by omega) (by omega)]; omega
    have i60 : ¬ (60 : Int32) ≤ o32 i := by rw [show (60 : Int32) = o32 60 from rfl, o_le (by omega) (by omega)]; omega
    have iw : ¬ o32 (896 + 62 * u + 1 + l.length) ≤ o32 (896 + 62 * u + 1 + i) := by rw [o_le (by omega) (by omega)]; omega
    have ii : inb (o32 i) 60 := o_inb (by omega) (by omega)
    have im : inb (o32 (896 + 62 * u + 1 + i)) 1082 := o_inb (by omega) (by omega)
    have fin : ∀ (e p : Nat) (x : Int32), dpt (l.take (i + 1)) = some e → e ≤ i + 1 → (∀ z, z < e → z ≠ p → z < d) → lX5_value_5_4 k u (cw k 38) s = some (.inl (o32 e, o32 (i + 1), mput s.2.2 (cw k (29 + 3 * u)) p x)) → lX9_worked_4 (o32 (896 + 62 * u + 1)) t = some (.inl (o32 e, o32 (896 + 62 * u + 1 + (i + 1)), mput t.2.2 146 p x)) → ∃ s' t', lX5_value_5_4 k u (cw k 38) s = some (.inl s') ∧ lX9_worked_4 (o32 (896 + 62 * u + 1)) t = some (.inl t') ∧ ∃ d', dpt (l.take (i + 1)) = some d' ∧ d' ≤ i + 1 ∧ s'.1 = o32 d' ∧ s'.2.1 = o32 (i + 1) ∧ t'.1 = o32 d' ∧ t'.2.1 = o32 (896 + 62 * u + 1 + (i + 1)) ∧ (∀ x, x < d' → s'.2.2 (cw k (29 + 3 * u)) x = t'.2.2 146 x) ∧ (∀ c j, c ≠ cw k (29 + 3 * u) → s'.2.2 c j = m c j) ∧ ∀ c j, c ≠ 146 → t'.2.2 c j = mr c j := fun e p x q1 q2 q3 q4 q5 => by
      refine ⟨_, _, q4, q5, e, q1, q2, rfl, rfl, rfl, rfl, fun z hz => ?_, fun c j hc => ?_, fun c j hc => ?_⟩
      · dsimp only
        rw [mput_get, mput_get]
        by_cases e : z = p
        · rw [if_pos ⟨rfl, e⟩, if_pos ⟨rfl, e⟩]
        · rw [if_neg (fun q => e q.2), if_neg (fun q => e q.2)]
          exact j7 z (q3 z hz e)
      · dsimp only
        rw [mput_c _ _ _ hc]
        exact j8 c j hc
      · dsimp only
        rw [mput_c _ _ _ hc]
        exact j9 c j hc
    generalize l[i] = t0 at *
    unfold stp at dn
    dsimp only at dn
    by_cases b1 : t0 < 20000
    · have hd : dd = d + 1 := by rw [if_pos b1] at dn; exact Option.some.inj dn
      subst hd
      have t1 : t0 < 10005 := by unfold otok at ot; omega
      have d60 : ¬ (60 : Int32) ≤ o32 d := by rw [show (60 : Int32) = o32 60 from rfl, o_le (by omega) (by omega)]; omega
      have i20 : ¬ (20000 : Int32) ≤ o32 t0 := by rw [show (20000 : Int32) = o32 20000 from rfl, o_le (by omega) (by omega)]; omega
      have id : inb (o32 d) 60 := o_inb (by omega) (by omega)
      by_cases b2 : t0 < 10000
      · have et : ctok t0 = o32 t0 := if_pos b2
        refine fin (d + 1) d (o32 t0) hdd (by omega) (fun z h1 h2 => by omega) ?_ ?_
        · unfold lX5_value_5_4 fX5_plain_5
          rw [j3, j4, c27, if_neg il, if_neg i60, if_pos ii, c28, et, if_neg (by
            rw [Int32.le_iff_toInt_le, o_ti (by omega)]
            have : (-100 : Int32).toInt = -100 := by decide
            omega), if_neg d60, if_neg (not_lt0 (by omega)), Option.bind_some, if_pos id, o_tn (by omega), o_s, o_s]
        · unfold lX9_worked_4 bX9_worked_63
          rw [j5, j6, if_pos ib, w0, o_add, if_neg iw, if_pos im, w1, if_neg i20, if_neg (by rw [show (10000 : Int32) = o32 10000 from rfl, o_le (by omega) (by omega)]; omega), if_pos id, o_tn (by omega), o_s, o_s]
          rfl
      · obtain ⟨j, hj, ej⟩ : ∃ j, j < 5 ∧ t0 = 10000 + j := ⟨t0 - 10000, by omega, by omega⟩
        subst ej
        obtain ⟨n1, n2, n3, n4, n5⟩ := nam_tab j hj
        have e6 : o32 (10000 + j) - 10000 = o32 j := by
          rw [show o32 (10000 + j) - 10000 = o32 (10000 + j - 10000) from o_sub (b := 10000) (by omega) (by omega), show 10000 + j - 10000 = j by omega]
        refine fin (d + 1) d (mr 145 j) hdd (by omega) (fun z h1 h2 => by omega) ?_ ?_
        · unfold lX5_value_5_4 fX5_plain_5
          rw [j3, j4, c27, if_neg il, if_neg i60, if_pos ii, c28, if_neg n1, if_neg d60, if_pos n2, if_neg n3, if_pos n4, n5, Option.bind_some, if_pos id, o_tn (by omega), o_s, o_s, j8 _ _ (cw_ne (by omega)), hn j hj]
        · unfold lX9_worked_4 bX9_worked_63
          rw [j5, j6, if_pos ib, w0, o_add, if_neg iw, if_pos im, w1, if_neg i20, if_pos (by rw [show (10000 : Int32) = o32 10000 from rfl, o_le (by omega) (by omega)]; omega), e6, if_pos (o_inb hj (by omega)), if_pos id, o_tn (show j < 2147483648 by omega), o_tn (by omega), o_s, o_s, j9 _ _ (by omega)]
          rfl
    · obtain ⟨j, hj, ej⟩ : ∃ j, j < 11 ∧ t0 = 20000 + j := by
        unfold otok at ot
        exact ⟨t0 - 20000, by omega, by omega⟩
      subst ej
      obtain ⟨n1, n2, n3⟩ := tok_tab j hj
      have i20 : (20000 : Int32) ≤ o32 (20000 + j) := by rw [show (20000 : Int32) = o32 20000 from rfl, o_le (by omega) (by omega)]; omega
      rw [if_neg b1] at dn
      by_cases b2 : j = 10
      · subst b2
        rw [if_pos rfl] at dn
        have hd1 : 1 ≤ d := by
          by_cases q : 1 ≤ d
          · exact q
          · rw [if_neg q] at dn; cases dn
        rw [if_pos hd1] at dn
        have hd : dd = d := Option.some.inj dn
        subst hd
        have id : inb (o32 (dd - 1)) 60 := o_inb (by omega) (by omega)
        have rd : s.2.2 (cw k (29 + 3 * u)) (o32 (dd - 1)).toNatClampNeg = t.2.2 146 (dd - 1) := by rw [o_tn (by omega)]; exact j7 _ (by omega)
        have rm : t.2.2 146 (o32 (dd - 1)).toNatClampNeg = t.2.2 146 (dd - 1) := by rw [o_tn (by omega)]
        refine fin dd (dd - 1) (if t.2.2 146 (dd - 1) = 0 then 1 else 0) hdd (by omega) (fun z h1 h2 => by omega) ?_ ?_
        · unfold lX5_value_5_4 bX5_value_5_95
          rw [j3, j4, c27, if_neg il, if_neg i60, if_pos ii, c28, if_pos n1, if_pos (n2.mpr rfl), if_neg (by rw [show (1 : Int32) = o32 1 from rfl, o_lt (by omega) (by omega)]; omega), less1' hd1 (by omega), if_pos id, rd, if_pos id, if_pos id, o_tn (by omega), o_s]
          by_cases b3 : t.2.2 146 (dd - 1) = 0
          · rw [if_pos b3, if_pos b3]
          · rw [if_neg b3, if_neg b3]
        · unfold lX9_worked_4 bX9_worked_101
          rw [j5, j6, if_pos ib, w0, o_add, if_neg iw, if_pos im, w1, if_pos i20, if_pos (show o32 (20000 + 10) = 20010 from rfl), less1' hd1 (by omega), if_pos id, rm, if_pos id, if_pos id, o_tn (by omega), o_s]
          by_cases b3 : t.2.2 146 (dd - 1) = 0
          · rw [if_pos b3, if_pos b3]
            rfl
          · rw [if_neg b3, if_neg b3]
            rfl
      · have hj10 : j < 10 := by omega
        rw [if_neg (by omega)] at dn
        have hd2 : 2 ≤ d := by
          by_cases q : 2 ≤ d
          · exact q
          · rw [if_neg q] at dn; cases dn
        rw [if_pos hd2] at dn
        have hd : dd = d - 1 := Option.some.inj dn
        obtain ⟨x, hx⟩ := done_op (o32 (20000 + j)) (t.2.2 146 (d - 1 - 1)) (t.2.2 146 (d - 1))
        have i1 : inb (o32 (d - 1)) 60 := o_inb (by omega) (by omega)
        have i2 : inb (o32 (d - 1 - 1)) 60 := o_inb (by omega) (by omega)
        have rd : ∀ y, y < d → s.2.2 (cw k (29 + 3 * u)) (o32 y).toNatClampNeg = t.2.2 146 y := fun y hy => by rw [o_tn (by omega)]; exact j7 _ hy
        have rm : ∀ y, y < d → t.2.2 146 (o32 y).toNatClampNeg = t.2.2 146 y := fun y hy => by rw [o_tn (by omega)]
        refine fin (d - 1) (d - 1 - 1) x (by rw [hdd, hd]) (by omega) (fun z h1 h2 => by omega) ?_ ?_
        · unfold lX5_value_5_4
          rw [j3, j4, c27, if_neg il, if_neg i60, if_pos ii, c28, if_pos n1, if_neg (fun z => b2 (n2.mp z)), if_neg (by rw [show (2 : Int32) = o32 2 from rfl, o_lt (by omega) (by omega)]; omega), less1 (by omega) (by omega), less1' (by omega) (by omega), if_pos i2, if_pos i1, n3, rd _ (by omega), rd _ (by omega), done_R _ _ j hj10, hx, Option.bind_some, if_pos i2, o_tn (by omega), o_s]
        · unfold lX9_worked_4
          rw [j5, j6, if_pos ib, w0, o_add, if_neg iw, if_pos im, w1, if_pos i20, if_neg (by rw [show (20010 : Int32) = o32 20010 from rfl, o_eq (by omega) (by omega)]; omega), less1 (by omega) (by omega), less1' (by omega) (by omega), if_pos i2, if_pos i1, rm _ (by omega), rm _ (by omega), hx, Option.bind_some, if_pos i2, o_tn (by omega), o_s]
          rfl
  · obtain ⟨d, j1, j2, j3, j4, j5, j6, j7, j8, j9⟩ := hJ
    rw [Nat.zero_add] at j1 j2 j4 j6
    rw [List.take_length, h3] at j1
    have hd : d = 1 := (Option.some.inj j1).symm
    subst hd
    have c27 : s.2.2 (cw k (27 + 3 * u)) 0 = o32 l.length := by rw [j8 _ _ (cw_ne (by omega))]; exact h5
    have w0 : t.2.2 138 (o32 (896 + 62 * u + 1) - 1).toNatClampNeg = o32 l.length := by
      rw [show o32 (896 + 62 * u + 1) - 1 = o32 (896 + 62 * u) from o_sub (b := 1) (by omega) (by omega), o_tn (by omega), j9 _ _ (by omega)]
      exact h4
    have ib : inb (o32 (896 + 62 * u + 1) - 1) 1082 := by
      rw [show o32 (896 + 62 * u + 1) - 1 = o32 (896 + 62 * u) from o_sub (b := 1) (by omega) (by omega)]
      exact o_inb (by omega) (by omega)
    refine ⟨(s.2.2 (cw k (29 + 3 * u)) 0, s.2.2), (t.2.2 146 0, t.2.2), ?_, ?_, j7 0 (by omega), j8, j9⟩
    · unfold lX5_value_5_4 bX5_value_5_144
      rw [j3, j4, c27, if_pos (by rw [o_le (by omega) (by omega)]; omega), if_neg (by decide), if_pos (by decide)]
      rfl
    · unfold lX9_worked_4
      rw [j6, if_pos ib, w0, o_add, if_pos (by rw [o_le (by omega) (by omega)]; omega)]
end
section
/-! BOTH: WHAT TEXTS GIVE -/
noncomputable def NF (k : Nat) (m m' : Mem) : Prop := ∀ c j, (∀ o, o = 29 ∨ o = 32 ∨ o = 35 ∨ o = 38 → c ≠ cw k o) → m' c j = m c j
theorem NF_rf {k : Nat} {m : Mem} : NF k m m := fun _ _ _ => rfl
theorem NF_CF {k : Nat} {m m' : Mem} (h : NF k m m') : CF k m m' := fun c j hc => h c j (fun o ho => hc o (by omega) (by omega))
theorem F146_MF {m m' : Mem} (h : F146 m m') : MF m m' := fun c j _ _ h3 h4 _ => h c j h3 h4
theorem F146_rf {m : Mem} : F146 m m := fun _ _ _ _ => rfl
theorem NF_o {k : Nat} {m m' : Mem} (h : NF k m m') {o j : Nat} (ho : o ≠ 29 ∧ o ≠ 32 ∧ o ≠ 35 ∧ o ≠ 38) : m' (cw k o) j = m (cw k o) j := h _ _ (fun z hz => cw_ne (by omega))
theorem WS_NF {k : Nat} {m m' mr mr' : Mem} {r : Nat → List Nat} {al : Nat → Bool} {f : Nat → Nat → Nat} {q : Nat → List Nat} (h : WS k m (mr 138) r al f q) (h1 : NF k m m') (h2 : F146 mr mr') : WS k m' (mr' 138) r al f q := WS_same h (fun c j hc => h1 c j (fun o ho => rc_ne hc (by omega))) (fun j => h2 138 j (by omega) (by omega))
theorem told_c {k u : Nat} {m : Mem} {w : Nat → Int32} {l : List Nat} (h : TR k m w u l) : fX5_isTold k u m = if l = [] then 0 else 1 := by
  unfold fX5_isTold
  rw [h.2.2.2.2.1]
  have h1 := h.1
  by_cases e : l = []
  · subst e
    rfl
  · have : 0 < l.length := List.length_pos_iff.mpr e
    rw [if_neg (by rw [show (0 : Int32) = o32 0 from rfl, o_le (by omega) (by omega)]; omega), if_neg e]
theorem told_m {k u : Nat} {m mr : Mem} {l : List Nat} (hu : u < 3) (h : TR k m (mr 138) u l) : fX9_hasText (o32 u) mr = some (if l = [] then 0 else 1) := by
  unfold fX9_hasText
  have h1 := h.1
  rw [show (896 : Int32) + 62 * o32 u = o32 (896 + 62 * u) by
    show o32 896 + o32 62 * o32 u = _
    rw [o_mul, o_add], if_pos (o_inb (by omega) (by omega)), o_tn (by omega), h.2.2.2.1]
  by_cases e : l = []
  · subst e
    rfl
  · have : 0 < l.length := List.length_pos_iff.mpr e
    rw [if_neg (by rw [show (0 : Int32) = o32 0 from rfl, o_le (by omega) (by omega)]; omega), if_neg e]
theorem given_R {k u : Nat} {m mr : Mem} {l : List Nat} (hu : u < 3) (h : TR k m (mr 138) u l) (hl : l ≠ []) (x1 x2 x3 x4 x5 : Int32) : ∃ v m' mr', fX5_value_5 k u (cw k 38) (fX7_name k x1 x2 x3 x4 x5 m) = some (v, m') ∧ fX9_given (o32 u) x1 x2 x3 x4 x5 mr = some (v, mr') ∧ NF k m m' ∧ F146 mr mr' := by
  generalize hM : fX7_name k x1 x2 x3 x4 x5 m = m1
  generalize hR : mput (mput (mput (mput (mput mr 145 0 x1) 145 1 x2) 145 2 x3) 145 3 x4) 145 4 x5 = mr1
  have f1 : ∀ c j, c ≠ cw k 38 → m1 c j = m c j := fun c j hc => by
    rw [← hM]
    unfold fX7_name
    rw [mput_c _ _ _ hc, mput_c _ _ _ hc, mput_c _ _ _ hc, mput_c _ _ _ hc, mput_c _ _ _ hc]
  have f2 : ∀ c j, c ≠ 145 → mr1 c j = mr c j := fun c j hc => by
    rw [← hR, mput_c _ _ _ hc, mput_c _ _ _ hc, mput_c _ _ _ hc, mput_c _ _ _ hc, mput_c _ _ _ hc]
  have hn : ∀ j, j < 5 → m1 (cw k 38) j = mr1 145 j := fun j hj => by
    rw [← hM, ← hR]
    unfold fX7_name
    simp only [mput_get, true_and]
    (repeat' split) <;> first | rfl | (exfalso; omega)
  have h' : TR k m1 (mr1 138) u l := TR_same hu h (fun o j ho => f1 _ _ (cw_ne (by omega))) (fun j _ => f2 _ _ (by omega))
  obtain ⟨v, m', mr', e1, e2, e3, e4⟩ := value_R hu h' hl hn
  refine ⟨v, m', mr', e1, ?_, fun c j hc => ?_, fun c j h1 h2 => (e4 c j h2).trans (f2 c j h1)⟩
  · unfold fX9_given
    rw [hR, told_m hu h', if_neg hl, Option.bind_some, if_neg (by decide), show (896 : Int32) + 62 * o32 u + 1 = o32 (896 + 62 * u + 1) by
      show o32 896 + o32 62 * o32 u + o32 1 = _
      rw [o_mul, o_add, o_add], e2, Option.bind_some]
  · rw [e3 c j (hc _ (by omega))]
    exact f1 c j (hc _ (by omega))
theorem given_0 {k u : Nat} {m mr : Mem} {l : List Nat} (hu : u < 3) (h : TR k m (mr 138) u l) (hl : l = []) (x1 x2 x3 x4 x5 : Int32) : ∃ mr', fX9_given (o32 u) x1 x2 x3 x4 x5 mr = some (0, mr') ∧ F146 mr mr' := by
  generalize hR : mput (mput (mput (mput (mput mr 145 0 x1) 145 1 x2) 145 2 x3) 145 3 x4) 145 4 x5 = mr1
  have f2 : ∀ c j, c ≠ 145 → mr1 c j = mr c j := fun c j hc => by
    rw [← hR, mput_c _ _ _ hc, mput_c _ _ _ hc, mput_c _ _ _ hc, mput_c _ _ _ hc, mput_c _ _ _ hc]
  have h' : TR k m (mr1 138) u l := TR_same hu h (fun o j ho => rfl) (fun j _ => f2 _ _ (by omega))
  refine ⟨mr1, ?_, fun c j h1 _ => f2 c j h1⟩
  unfold fX9_given
  rw [hR, told_m hu h', if_pos hl, Option.bind_some, if_pos rfl]
theorem fld_m {mr : Mem} {a j : Nat} (ha : a < 16) (hj : j < 50) : fX9_of (o32 a) (o32 j) mr = some (mr 138 (12 + 50 * a + j)) := of_o ha hj
theorem lets_m {mr : Mem} {a : Nat} (ha : a < 16) : fX9_letsOf (o32 a) mr = some (fX1_lets (mr 138 (12 + 50 * a + 1))) := by
  unfold fX9_letsOf fX1_lets
  rw [show fX9_of (o32 a) 1 mr = _ from of_o (f := 1) ha (by omega), Option.bind_some]
  (repeat' split) <;> rfl
theorem dry_m {mr : Mem} {a : Nat} (ha : a < 16) : fX9_dryOf (o32 a) mr = some (fX1_dry (mr 138 (12 + 50 * a + 1)) (mr 138 5)) := by
  unfold fX9_dryOf fX1_dry
  rw [show fX9_of (o32 a) 1 mr = _ from of_o (f := 1) ha (by omega), Option.bind_some]
  (repeat' split) <;> first | rfl | (congr 1; exact Int32.mul_comm _ _)
theorem sd_m {k : Nat} {m mr : Mem} {r : Nat → List Nat} {al : Nat → Bool} {f : Nat → Nat → Nat} {q : Nat → List Nat} {a : Nat} (h : WS k m (mr 138) r al f q) (ha : a < 16) (ala : al a = true) : fX9_sidesOf (o32 a) mr = some (o32 (r a).length) := by
  rw [sd_o ha, (((WS_3 h) a ha).2 ala).2.1]
theorem sd_c {k : Nat} {m : Mem} {w : Nat → Int32} {r : Nat → List Nat} {al : Nat → Bool} {f : Nat → Nat → Nat} {q : Nat → List Nat} {a : Nat} (h : WS k m w r al f q) (ha : a < 16) (ala : al a = true) : m (cw k 7) (o32 a).toNatClampNeg = o32 (r a).length := by
  rw [o_tn (by omega)]
  exact (CS_g (WS_4 h) ha ala).2.1
theorem fd_c {k : Nat} {m : Mem} {w : Nat → Int32} {r : Nat → List Nat} {al : Nat → Bool} {f : Nat → Nat → Nat} {q : Nat → List Nat} {a : Nat} (h : WS k m w r al f q) (ha : a < 16) (ala : al a = true) (j : Nat) (h1 : 1 ≤ j) (h2 : j ≤ 4) : m (cw k (j + 2)) (o32 a).toNatClampNeg = o32 (f a j) := by
  rw [o_tn (by omega)]
  exact (WS_5 h a ha ala j h1 h2).2.1
theorem fd_m {k : Nat} {m mr : Mem} {r : Nat → List Nat} {al : Nat → Bool} {f : Nat → Nat → Nat} {q : Nat → List Nat} {a : Nat} (h : WS k m (mr 138) r al f q) (ha : a < 16) (ala : al a = true) (j : Nat) (h1 : 1 ≤ j) (h2 : j ≤ 4) : fX9_of (o32 a) (o32 j) mr = some (o32 (f a j)) := by
  rw [of_o ha (by omega), (WS_5 h a ha ala j h1 h2).1]
theorem tick_eq {k : Nat} {m mr : Mem} {w : Nat → Int32} (h : SC k m w) : m (cw k 1) 10 = w 0 := by
  obtain ⟨_, _, _, _, _, _, _, ⟨n, _, h1, h2⟩, _⟩ := h
  rw [h1, h2]
theorem rate_eq {k : Nat} {m : Mem} {w : Nat → Int32} (h : SC k m w) : m (cw k 1) 6 = w 4 := by
  obtain ⟨_, _, _, _, ⟨n, _, h1, h2⟩, _⟩ := h
  rw [h1, h2]
theorem dryn_eq {k : Nat} {m : Mem} {w : Nat → Int32} (h : SC k m w) : m (cw k 1) 7 = w 5 := by
  obtain ⟨_, _, _, _, _, ⟨n, _, h1, h2⟩, _⟩ := h
  rw [h1, h2]
theorem passing_R {k : Nat} {m mr : Mem} {r : Nat → List Nat} {al : Nat → Bool} {f : Nat → Nat → Nat} {q : Nat → List Nat} {a b : Nat} (h : WS k m (mr 138) r al f q) (ha : a < 16) (hb : b < 16) (ala : al a = true) (alb : al b = true) : ∃ v m' mr', fX7_passing k (o32 a) (o32 b) m = some (v, m') ∧ fX9_passesBy (o32 a) (o32 b) mr = some (v, mr') ∧ NF k m m' ∧ F146 mr mr' := by
  have T := WS_6 h 0 (by omega)
  have ia := o_inb ha (show a < 2147483648 by omega)
  have ib := o_inb hb (show b < 2147483648 by omega)
  have key : ∀ (v : Int32) (m' mr' : Mem), fX7_law k (o32 a) (o32 b) m = some (v, m') → NF k m m' → F146 mr mr' → ∃ u, fX7_passing k (o32 a) (o32 b) m = some (u, m') ∧ bX9_passesBy_57 (o32 a) (o32 b) v.toInt64 mr' = some (u, mr') := fun v m' mr' e1 n1 n2 => by
    have h' := WS_NF h n1 n2
    unfold fX7_passing bX9_passesBy_57
    rw [has_c (WS_4 h) ha, has_c (WS_4 h) hb, ala, alb, if_neg (by decide), if_neg (by decide), e1, Option.bind_some, if_pos ia, if_pos ib, lets_m ha, lets_m hb, Option.bind_some, Option.bind_some]
    dsimp only
    rw [show m' (cw k 3) (o32 a).toNatClampNeg = _ from fd_c h' ha ala 1 (by omega) (by omega), show m' (cw k 3) (o32 b).toNatClampNeg = _ from fd_c h' hb alb 1 (by omega) (by omega), (WS_5 h' a ha ala 1 (by omega) (by omega)).1, (WS_5 h' b hb alb 1 (by omega) (by omega)).1, rate_eq (WS_7 h), show mr 138 4 = mr' 138 4 from (n2 138 4 (by omega) (by omega)).symm]
    exact ⟨_, rfl, rfl⟩
  by_cases hl : q 0 = []
  · have e1 : fX7_law k (o32 a) (o32 b) m = some (o32 (r b).length - o32 (r a).length, m) := by
      unfold fX7_law
      rw [told_c T, if_pos hl, if_pos rfl, if_pos ib, if_pos ia, sd_c h ha ala, sd_c h hb alb]
    obtain ⟨u, k1, k2⟩ := key _ m mr e1 NF_rf F146_rf
    refine ⟨u, m, mr, k1, ?_, NF_rf, F146_rf⟩
    unfold fX9_passesBy
    rw [show fX9_hasText 0 mr = _ from told_m (u := 0) (by omega) T, if_pos hl, Option.bind_some, if_pos rfl, sd_m h ha ala, sd_m h hb alb, Option.bind_some, Option.bind_some]
    exact k2
  · obtain ⟨v, m', mr', e1, e2, n1, n2⟩ := given_R (by omega) T hl (o32 (r a).length) (o32 (r b).length) (o32 (f a 2)) (o32 (f b 2)) (mr 138 0)
    have e3 : fX7_law k (o32 a) (o32 b) m = some (v, m') := by
      unfold fX7_law
      rw [told_c T, if_neg hl, if_neg (by decide), if_pos ia, if_pos ib, if_pos ia, if_pos ib, sd_c h ha ala, sd_c h hb alb, show m (cw k 4) (o32 a).toNatClampNeg = _ from fd_c h ha ala 2 (by omega) (by omega), show m (cw k 4) (o32 b).toNatClampNeg = _ from fd_c h hb alb 2 (by omega) (by omega), tick_eq (mr := mr) (WS_7 h), e1, Option.bind_some]
    obtain ⟨u, k1, k2⟩ := key v m' mr' e3 n1 n2
    refine ⟨u, m', mr', k1, ?_, n1, n2⟩
    unfold fX9_passesBy
    rw [show fX9_hasText 0 mr = _ from told_m (u := 0) (by omega) T, if_neg hl, Option.bind_some, if_neg (by decide), sd_m h ha ala, sd_m h hb alb, Option.bind_some, Option.bind_some, show fX9_of (o32 a) 2 mr = _ from fd_m h ha ala 2 (by omega) (by omega), show fX9_of (o32 b) 2 mr = _ from fd_m h hb alb 2 (by omega) (by omega), Option.bind_some, Option.bind_some, show fX9_given 0 _ _ _ _ _ mr = _ from e2, Option.bind_some]
    exact k2
theorem dry_c {k : Nat} {m : Mem} {w : Nat → Int32} {r : Nat → List Nat} {al : Nat → Bool} {f : Nat → Nat → Nat} {q : Nat → List Nat} {a : Nat} (h : WS k m w r al f q) (ha : a < 16) (ala : al a = true) : fX7_dry k (o32 a) m = some (fX1_dry (w (12 + 50 * a + 1)) (w 5)) := by
  unfold fX7_dry
  rw [has_c (WS_4 h) ha, ala, if_neg (by decide), if_pos (o_inb ha (by omega)), show m (cw k 3) (o32 a).toNatClampNeg = _ from fd_c h ha ala 1 (by omega) (by omega), (WS_5 h a ha ala 1 (by omega) (by omega)).1, dryn_eq (WS_7 h)]
theorem burstOf_R {k : Nat} {m mr : Mem} {r : Nat → List Nat} {al : Nat → Bool} {f : Nat → Nat → Nat} {q : Nat → List Nat} {a b : Nat} (h : WS k m (mr 138) r al f q) (ha : a < 16) (hb : b < 16) (ala : al a = true) (alb : al b = true) : ∃ v v' m' mr', fX7_burstOf k (o32 a) (o32 b) m = some (v, m') ∧ fX9_isDry (o32 a) (o32 b) mr = some (v', mr') ∧ (v = 0 ↔ v' = 0) ∧ NF k m m' ∧ F146 mr mr' := by
  have T := WS_6 h 1 (by omega)
  have ia := o_inb ha (show a < 2147483648 by omega)
  have ib := o_inb hb (show b < 2147483648 by omega)
  have wa : m (cw k 5) (o32 a).toNatClampNeg = _ := fd_c h ha ala 3 (by omega) (by omega)
  have wb : m (cw k 5) (o32 b).toNatClampNeg = _ := fd_c h hb alb 3 (by omega) (by omega)
  have ma : fX9_of (o32 a) 3 mr = _ := fd_m h ha ala 3 (by omega) (by omega)
  have mb : fX9_of (o32 b) 3 mr = _ := fd_m h hb alb 3 (by omega) (by omega)
  unfold fX7_burstOf fX9_isDry
  rw [if_pos ia, if_pos ib, if_pos ia, if_pos ib, wa, wb, ma, mb, Option.bind_some, Option.bind_some, told_c T, show fX9_hasText 1 mr = _ from told_m (u := 1) (by omega) T, Option.bind_some]
  by_cases hl : q 1 = []
  · rw [if_pos hl, if_pos rfl, if_pos rfl, dry_c h ha ala, dry_c h hb alb, dry_m ha, dry_m hb]
    simp only [Option.bind_some]
    by_cases c1 : fJ9_min_7cf53 (o32 (f a 3)) (o32 (f b 3)) < fX1_dry (mr 138 (12 + 50 * a + 1)) (mr 138 5)
    · rw [if_pos c1, if_pos c1]
      exact ⟨_, _, m, mr, rfl, rfl, Iff.rfl, NF_rf, F146_rf⟩
    · rw [if_neg c1, if_neg c1]
      by_cases c2 : fX1_dry (mr 138 (12 + 50 * b + 1)) (mr 138 5) ≤ fJ9_min_7cf53 (o32 (f a 3)) (o32 (f b 3))
      · rw [if_pos c2, if_pos c2]
        exact ⟨_, _, m, mr, rfl, rfl, Iff.rfl, NF_rf, F146_rf⟩
      · rw [if_neg c2, if_neg c2]
        exact ⟨_, _, m, mr, rfl, rfl, Iff.rfl, NF_rf, F146_rf⟩
  · obtain ⟨v, m', mr', e1, e2, n1, n2⟩ := given_R (by omega) T hl (fJ9_min_7cf53 (o32 (f a 3)) (o32 (f b 3))) (fJ9_max_7cf53 (o32 (f a 3)) (o32 (f b 3))) (o32 (r a).length) (o32 (r b).length) (mr 138 0)
    have z1 : ¬ (1 : Int32) = 0 := by decide
    rw [if_neg hl, if_neg z1, if_neg z1, if_pos ia, if_pos ib, sd_c h ha ala, sd_c h hb alb, sd_m h ha ala, sd_m h hb alb, tick_eq (mr := mr) (WS_7 h), e1]
    simp only [Option.bind_some]
    rw [show fX9_given 1 _ _ _ _ _ mr = _ from e2, Option.bind_some]
    dsimp only
    by_cases c : v = 0
    · rw [if_pos c]
      exact ⟨_, _, m', mr', rfl, rfl, ⟨fun _ => rfl, fun _ => c⟩, n1, n2⟩
    · rw [if_neg c]
      exact ⟨_, _, m', mr', rfl, rfl, ⟨fun z => absurd z c, fun z => absurd z (by decide)⟩, n1, n2⟩
theorem mark_R {k : Nat} {m mr : Mem} {r : Nat → List Nat} {al : Nat → Bool} {f : Nat → Nat → Nat} {q : Nat → List Nat} {a : Nat} (h : WS k m (mr 138) r al f q) (ha : a < 16) (ala : al a = true) : ∃ v m' mr', fX7_mark k (o32 a) m = some (v, m') ∧ fX9_markOf (o32 a) mr = some (v, mr') ∧ NF k m m' ∧ F146 mr mr' := by
  have T := WS_6 h 2 (by omega)
  have ia := o_inb ha (show a < 2147483648 by omega)
  unfold fX7_mark fX9_markOf
  rw [has_c (WS_4 h) ha, ala, if_neg (by decide), told_c T, sd_m h ha ala, Option.bind_some, show fX9_of (o32 a) 2 mr = _ from fd_m h ha ala 2 (by omega) (by omega), show fX9_of (o32 a) 3 mr = _ from fd_m h ha ala 3 (by omega) (by omega), show fX9_of (o32 a) 4 mr = _ from fd_m h ha ala 4 (by omega) (by omega), show fX9_of (o32 a) 1 mr = _ from fd_m h ha ala 1 (by omega) (by omega), Option.bind_some, Option.bind_some, Option.bind_some, Option.bind_some]
  by_cases hl : q 2 = []
  · obtain ⟨mr', e2, n2⟩ := given_0 (u := 2) (by omega) T hl (o32 (r a).length) (o32 (f a 2)) (o32 (f a 3)) (o32 (f a 4)) (o32 (f a 1))
    rw [if_pos hl, if_pos rfl, show fX9_given 2 _ _ _ _ _ mr = _ from e2]
    exact ⟨0, m, mr', rfl, rfl, NF_rf, n2⟩
  · obtain ⟨v, m', mr', e1, e2, n1, n2⟩ := given_R (u := 2) (by omega) T hl (o32 (r a).length) (o32 (f a 2)) (o32 (f a 3)) (o32 (f a 4)) (o32 (f a 1))
    rw [if_neg hl, if_neg (by decide), if_pos ia, if_pos ia, if_pos ia, if_pos ia, if_pos ia, sd_c h ha ala, show m (cw k 4) (o32 a).toNatClampNeg = _ from fd_c h ha ala 2 (by omega) (by omega), show m (cw k 5) (o32 a).toNatClampNeg = _ from fd_c h ha ala 3 (by omega) (by omega), show m (cw k 6) (o32 a).toNatClampNeg = _ from fd_c h ha ala 4 (by omega) (by omega), show m (cw k 3) (o32 a).toNatClampNeg = _ from fd_c h ha ala 1 (by omega) (by omega), e1, show fX9_given 2 _ _ _ _ _ mr = _ from e2]
    exact ⟨v, m', mr', rfl, rfl, n1, n2⟩
end
section
/-! BOTH: GAS PASSES -/
theorem min_b {a b : Nat} (ha : a < 2147483648) (hb : b < 2147483648) : fJ9_min_7cf53 (o32 a) (o32 b) = o32 (min a b) := by
  unfold fJ9_min_7cf53
  by_cases h : b < a
  · rw [if_pos ((o_lt hb ha).mpr h), Nat.min_eq_right (by omega)]
  · rw [if_neg (fun z => h ((o_lt hb ha).mp z)), Nat.min_eq_left (by omega)]
theorem max_b {a b : Nat} (ha : a < 2147483648) (hb : b < 2147483648) : fJ9_max_7cf53 (o32 a) (o32 b) = o32 (max a b) := by
  unfold fJ9_max_7cf53
  by_cases h : a < b
  · rw [if_pos ((o_lt ha hb).mpr h), Nat.max_eq_right (by omega)]
  · rw [if_neg (fun z => h ((o_lt ha hb).mp z)), Nat.max_eq_left (by omega)]
theorem lets_bd (x : Int32) : 0 ≤ (fX1_lets x).toInt ∧ (fX1_lets x).toInt ≤ 12 := by
  unfold fX1_lets
  (repeat' split) <;> decide
theorem held_bd (x : Int64) : -9999 ≤ (fJ9_max_f86c9 (-9999) (fJ9_min_f86c9 9999 x)).toInt ∧ (fJ9_max_f86c9 (-9999) (fJ9_min_f86c9 9999 x)).toInt ≤ 9999 := by
  have e1 : (-9999 : Int64).toInt = -9999 := by decide
  have e2 : (9999 : Int64).toInt = 9999 := by decide
  have h1 : (fJ9_min_f86c9 9999 x).toInt ≤ 9999 := by
    unfold fJ9_min_f86c9
    split
    · rename_i h
      rw [lg_cmp_gt, Int64.lt_iff_toInt_lt] at h
      omega
    · omega
  unfold fJ9_max_f86c9
  split
  · rename_i h
    rw [lg_cmp_lt, Int64.lt_iff_toInt_lt] at h
    omega
  · omega
theorem flow_bd (x : Int64) (p q : Int32) : ∃ n, n < 2147483648 ∧ fJ9_abs_0f7a4 ((((fJ9_max_f86c9 (-9999) (fJ9_min_f86c9 9999 x)) * ((fX1_lets p).toInt64)) * ((fX1_lets q).toInt64)) / (144 : Int64)).toInt32 = o32 n := by
  obtain ⟨b1, b2⟩ := held_bd x
  obtain ⟨p1, p2⟩ := lets_bd p
  obtain ⟨q1, q2⟩ := lets_bd q
  generalize fJ9_max_f86c9 (-9999) (fJ9_min_f86c9 9999 x) = F at *
  generalize fX1_lets p = P at *
  generalize fX1_lets q = Q at *
  have a1 : (F.toInt * P.toInt).natAbs ≤ 9999 * 12 := by
    rw [Int.natAbs_mul]
    exact Nat.mul_le_mul (by omega) (by omega)
  have a2 : (F.toInt * P.toInt * Q.toInt).natAbs ≤ 9999 * 12 * 12 := by
    rw [Int.natAbs_mul]
    exact Nat.mul_le_mul a1 (by omega)
  have e1 : (F * P.toInt64).toInt = F.toInt * P.toInt := by
    rw [Int64.toInt_mul, Int32.toInt_toInt64]
    exact Int.bmod_eq_of_le (by omega) (by omega)
  have e2 : (F * P.toInt64 * Q.toInt64).toInt = F.toInt * P.toInt * Q.toInt := by
    rw [Int64.toInt_mul, Int32.toInt_toInt64, e1]
    exact Int.bmod_eq_of_le (by omega) (by omega)
  have e3 : (F * P.toInt64 * Q.toInt64 / 144).toInt = (F.toInt * P.toInt * Q.toInt).tdiv 144 := by
    rw [Int64.toInt_div_of_ne_right _ _ (by decide), e2]
    rfl
  have a3 := Int.natAbs_tdiv_le_natAbs (F.toInt * P.toInt * Q.toInt) 144
  rw [← e3] at a3
  generalize F * P.toInt64 * Q.toInt64 / 144 = G at *
  have e4 : G.toInt32.toInt = G.toInt := by
    rw [Int64.toInt_toInt32]
    exact Int.bmod_eq_of_le (by omega) (by omega)
  refine ⟨G.toInt.natAbs, by omega, ?_⟩
  unfold fJ9_abs_0f7a4
  have z0 : (0 : Int32).toInt = 0 := by decide
  by_cases h : (0 : Int32) ≤ G.toInt32
  · rw [if_pos h]
    rw [Int32.le_iff_toInt_le] at h
    apply Int32.toInt_inj.mp
    rw [o_ti (by omega)]
    omega
  · rw [if_neg h]
    rw [Int32.le_iff_toInt_le] at h
    apply Int32.toInt_inj.mp
    rw [o_ti (by omega), Int32.toInt_neg, e4, Int.bmod_eq_of_le (by omega) (by omega)]
    omega
theorem passing_bd {k : Nat} {x y v : Int32} {m m' : Mem} (h : fX7_passing k x y m = some (v, m')) : ∃ n, n < 2147483648 ∧ fJ9_abs_0f7a4 v = o32 n := by
  unfold fX7_passing at h
  split at h
  · cases h
    exact ⟨0, by omega, rfl⟩
  · split at h
    · cases h
      exact ⟨0, by omega, rfl⟩
    · cases hl : fX7_law k x y m with
      | none => rw [hl] at h; cases h
      | some q =>
        rw [hl, Option.bind_some] at h
        split at h
        · split at h
          · cases h
            exact flow_bd _ _ _
          · cases h
        · cases h
theorem RS_w {w w' : Nat → Int32} {r : Nat → List Nat} {al : Nat → Bool} (h : RS (fun _ => w) r al) (e : ∀ b, b < 16 → ∀ g, g = 0 ∨ (5 ≤ g ∧ g < 50) → w' (12 + 50 * b + g) = w (12 + 50 * b + g)) : RS (fun _ => w') r al := fun b hb => by
  have q := h b hb
  refine ⟨(e b hb 0 (by omega)).trans q.1, fun ha => ?_⟩
  obtain ⟨q1, q2, q3, q4⟩ := q.2 ha
  exact ⟨q1, (e b hb 5 (by omega)).trans q2, q3, fun i hi => (e b hb (6 + i) (by omega)).trans (q4 i hi)⟩
noncomputable def updF (f : Nat → Nat → Nat) (b j v : Nat) : Nat → Nat → Nat := fun b' j' => if b' = b ∧ j' = j then v else f b' j'
theorem updF_at (f : Nat → Nat → Nat) (b j v : Nat) : updF f b j v b j = v := if_pos ⟨rfl, rfl⟩
theorem updF_ne (f : Nat → Nat → Nat) {b j v b' j' : Nat} (h : ¬ (b' = b ∧ j' = j)) : updF f b j v b' j' = f b' j' := if_neg h
theorem WS_fld {k : Nat} {m mr : Mem} {r : Nat → List Nat} {al : Nat → Bool} {f : Nat → Nat → Nat} {q : Nat → List Nat} {b j v : Nat} (h : WS k m (mr 138) r al f q) (hb : b < 16) (h1 : 1 ≤ j) (h4 : j ≤ 4) (hv : v ≤ lim j) : WS k (mput m (cw k (j + 2)) b (o32 v)) (mput mr 138 (12 + 50 * b + j) (o32 v) 138) r al (updF f b j v) q := by
  obtain ⟨a1, a2, a3, a4, a5, a6, a7, a8⟩ := h
  have ew : ∀ z, mput mr 138 (12 + 50 * b + j) (o32 v) 138 z = if z = 12 + 50 * b + j then o32 v else mr 138 z := fun z => by
    rw [mput_get]
    simp only [true_and]
  refine ⟨a1, a2, RS_w a3 (fun b' hb' g hg => ?_), CS_same a4 (fun c z hc => ?_), fun b' hb' ha' j' h1' h4' => ?_, fun u hu => TR_same hu (a6 u hu) (fun o z ho => ?_) (fun z hz => ?_), SC_same a7 (fun o z ho => ?_) (fun z h5 h6 h7 => ?_), TP_same a8 (fun o z ho => ?_) (fun z hz => ?_)⟩
  · rw [ew, if_neg (by omega)]
  · rcases hc with hc | hc | ⟨x, hx, hc⟩
    · rw [hc.1, mput_c _ _ _ (cw_ne (by omega))]
    · rw [hc, mput_c _ _ _ (cw_ne (by omega))]
    · rw [hc, mput_c _ _ _ (cw_ne (by omega))]
  · have p := a5 b' hb' ha' j' h1' h4'
    by_cases e : b' = b ∧ j' = j
    · rw [e.1, e.2, updF_at, ew, if_pos rfl, mput_at]
      exact ⟨rfl, rfl, hv⟩
    · rw [updF_ne _ e, ew, if_neg (by omega), mput_get, if_neg (fun z => e ⟨z.2, by have := cw_inj z.1; omega⟩)]
      exact p
  · rw [mput_c _ _ _ (cw_ne (by omega))]
  · rw [ew, if_neg (by omega)]
  · rw [mput_c _ _ _ (cw_ne (by omega))]
  · rw [ew, if_neg (by omega)]
  · rw [mput_c _ _ _ (cw_ne (by omega))]
  · rw [ew, if_neg (by omega)]
theorem give_R {k : Nat} {m mr : Mem} {r : Nat → List Nat} {al : Nat → Bool} {f : Nat → Nat → Nat} {q : Nat → List Nat} {a b n : Nat} (h : WS k m (mr 138) r al f q) (ha : a < 16) (hb : b < 16) (hab : a ≠ b) (ala : al a = true) (alb : al b = true) (hn : n < 2147483648) : ∃ m' mr' f', fX7_give k (o32 a) (o32 b) (o32 n) m = some m' ∧ fX9_gives (o32 a) (o32 b) (o32 n) mr = some mr' ∧ WS k m' (mr' 138) r al f' q ∧ CF k m m' ∧ MF mr mr' ∧ mr' 138 0 = mr 138 0 := by
  have pa := WS_5 h a ha ala 2 (by omega) (by omega)
  have pb := WS_5 h b hb alb 2 (by omega) (by omega)
  have la : f a 2 ≤ 99999 := pa.2.2
  have lb : f b 2 ≤ 99999 := pb.2.2
  have ia := o_inb ha (show a < 2147483648 by omega)
  have ib := o_inb hb (show b < 2147483648 by omega)
  have e9 : (99999 : Int32) - o32 (f b 2) = o32 (99999 - f b 2) := o_sub (a := 99999) (by omega) (by omega)
  have en : fJ9_min_7cf53 (o32 n) (fJ9_min_7cf53 (o32 (f a 2)) (99999 - o32 (f b 2))) = o32 (min n (min (f a 2) (99999 - f b 2))) := by
    rw [e9, min_b (by omega) (by omega), min_b hn (by omega)]
  generalize hz : min n (min (f a 2) (99999 - f b 2)) = z at *
  have s1 : o32 (f a 2) - o32 z = o32 (f a 2 - z) := o_sub (by omega) (by omega)
  have w1 := WS_fld (v := f a 2 - z) h ha (by omega) (show 2 ≤ 4 by omega) (by show _ ≤ 99999; omega)
  have w2 := WS_fld (v := f b 2 + z) w1 hb (by omega) (show 2 ≤ 4 by omega) (by show _ ≤ 99999; omega)
  refine ⟨_, _, _, ?_, ?_, w2, CF_tr (CF_put (by omega) (by omega)) (CF_put (by omega) (by omega)), MF_tr (MF_put (by omega)) (MF_put (by omega)), ?_⟩
  · unfold fX7_give
    rw [if_pos ib, if_pos ia, if_pos ia, if_pos ia, if_pos ib, if_pos ib, o_tn (show a < 2147483648 by omega), o_tn (show b < 2147483648 by omega), show m (cw k 4) a = _ from pa.2.1, show m (cw k 4) b = _ from pb.2.1, en, s1, mput_j _ _ _ _ (fun z => hab z.symm), show m (cw k 4) b = _ from pb.2.1, o_add]
  · unfold fX9_gives
    rw [show fX9_of (o32 a) 2 mr = _ from fd_m h ha ala 2 (by omega) (by omega), show fX9_of (o32 b) 2 mr = _ from fd_m h hb alb 2 (by omega) (by omega)]
    simp only [Option.bind_some]
    rw [en, s1, show fX9_tells (o32 a) 2 _ mr = _ from tl_o (f := 2) ha (by omega), Option.bind_some, show fX9_of (o32 b) 2 _ = _ from of_o (f := 2) hb (by omega), mput_get, if_neg (by omega), pb.1, Option.bind_some, o_add, show fX9_tells (o32 b) 2 _ _ = _ from tl_o (f := 2) hb (by omega), Option.bind_some]
  · rw [mput_get, if_neg (by omega), mput_get, if_neg (by omega)]
noncomputable def RW (k : Nat) (m0 mr0 m mr : Mem) : Prop := WR k m (mr 138) ∧ CF k m0 m ∧ MF mr0 mr ∧ mr 138 0 = mr0 138 0
theorem RW_rf {k : Nat} {m mr : Mem} (h : WR k m (mr 138)) : RW k m mr m mr := ⟨h, CF_rf, MF_rf, rfl⟩
theorem RW_tr {k : Nat} {m0 mr0 m1 mr1 m2 mr2 : Mem} (h1 : RW k m0 mr0 m1 mr1) (h2 : RW k m1 mr1 m2 mr2) : RW k m0 mr0 m2 mr2 := ⟨h2.1, CF_tr h1.2.1 h2.2.1, MF_tr h1.2.2.1 h2.2.2.1, h2.2.2.2.trans h1.2.2.2⟩
theorem two_m {mr : Mem} {r : Nat → List Nat} {al : Nat → Bool} {a b : Nat} (h : RS mr r al) (ha : a < 16) (hb : b < 16) (ala : al a = true) : fX9_isWall (o32 a) (o32 b) mr = some (if b ∈ r a then 1 else 0) := isWall_s ha (by omega) ((h a ha).2 ala)
theorem pass_in {k : Nat} {m mr : Mem} {a b : Nat} (h : WR k m (mr 138)) (ha : a < 16) (hb : b < 16) (hab : a ≠ b) : ∃ m' mr', lX7_passGas_12 k (o32 a) (o32 b, m) = some (.inl (o32 (b + 1), m')) ∧ lX9_passesAll_12 (o32 a) (o32 b, mr) = some (.inl (o32 (b + 1), mr')) ∧ RW k m mr m' mr' := by
  obtain ⟨r, al, f, q, h⟩ := h
  have C := WS_4 h
  have S := WS_3 h
  have same : ∃ m' mr', some (Sum.inl (o32 (b + 1), m)) = some ((.inl (o32 (b + 1), m')) : (Int32 × Mem) ⊕ ((Int32 × Mem) ⊕ Mem)) ∧ some (Sum.inl (o32 (b + 1), mr)) = some ((.inl (o32 (b + 1), mr')) : (Int32 × Mem) ⊕ ((Int32 × Mem) ⊕ Mem)) ∧ RW k m mr m' mr' := ⟨m, mr, rfl, rfl, RW_rf ⟨r, al, f, q, h⟩⟩
  unfold lX7_passGas_12 lX9_passesAll_12
  rw [if_neg (not_16 hb), if_neg (not_16 hb), isWall_c C ha hb, is_s ha S, is_s hb S, Option.bind_some, Option.bind_some]
  cases ala : al a with
  | false =>
    rw [Bool.false_and, if_pos (show i01 false = 0 from rfl), if_pos (show i01 false = 0 from rfl), o_s]
    exact same
  | true =>
    cases alb : al b with
    | false =>
      rw [Bool.false_and, Bool.and_false, if_pos (show i01 false = 0 from rfl), if_neg (show ¬ i01 true = 0 by decide), Option.bind_some, if_pos (show i01 false = 0 from rfl), o_s]
      exact same
    | true =>
      rw [if_neg (show ¬ i01 true = 0 by decide), Option.bind_some, if_neg (show ¬ i01 true = 0 by decide), two_m S ha hb ala, Option.bind_some]
      by_cases hm : b ∈ r a
      · rw [decide_eq_true hm, if_pos hm, if_neg (show ¬ i01 (true && (true && true)) = 0 by decide), if_neg (show ¬ (1 : Int32) = 0 by decide)]
        obtain ⟨v, m1, mr1, e1, e2, n1, n2⟩ := passing_R h ha hb ala alb
        obtain ⟨n, hn, en⟩ := passing_bd e1
        have h1 := WS_NF h n1 n2
        rw [e1, e2, Option.bind_some, Option.bind_some]
        dsimp only
        unfold bX7_passGas_47 bX9_passesAll_60 bX7_passGas_56 bX9_passesAll_69
        rw [en]
        have fin : ∀ x y, x < 16 → y < 16 → x ≠ y → al x = true → al y = true → ∃ m' mr', ((fX7_give k (o32 x) (o32 y) (o32 n) m1).bind fun q4 => (some (.inl ((o32 b + 1), q4)) : Option ((Int32 × Mem) ⊕ ((Int32 × Mem) ⊕ Mem)))) = some (.inl (o32 (b + 1), m')) ∧ ((fX9_gives (o32 x) (o32 y) (o32 n) mr1).bind fun q6 => (some (.inl ((o32 b + 1), q6)) : Option ((Int32 × Mem) ⊕ ((Int32 × Mem) ⊕ Mem)))) = some (.inl (o32 (b + 1), mr')) ∧ RW k m mr m' mr' := fun x y hx hy hxy alx aly => by
          obtain ⟨m2, mr2, f', g1, g2, g3, g4, g5, g6⟩ := give_R h1 hx hy hxy alx aly hn
          rw [g1, g2, Option.bind_some, Option.bind_some, o_s]
          exact ⟨m2, mr2, rfl, rfl, ⟨r, al, f', q, g3⟩, CF_tr (NF_CF n1) g4, MF_tr (F146_MF n2) g5, g6.trans (n2 138 0 (by omega) (by omega))⟩
        by_cases hv : 0 ≤ v
        · rw [if_pos hv, if_pos hv, if_pos hv, if_pos hv]
          exact fin a b ha hb hab ala alb
        · rw [if_neg hv, if_neg hv, if_neg hv, if_neg hv]
          exact fin b a hb ha hab.symm alb ala
      · rw [decide_eq_false hm, if_neg hm, if_pos (show i01 (true && (true && false)) = 0 by decide), if_pos rfl, o_s]
        exact same
theorem passGas_R {k : Nat} {m mr : Mem} (h : WR k m (mr 138)) : ∃ m' mr', fX7_passGas k m = some m' ∧ fX9_passesAll mr = some mr' ∧ RW k m mr m' mr' := by
  unfold fX7_passGas fX9_passesAll
  refine lp_two (bs := lX7_passGas_2 k) (bt := lX9_passesAll_2) (fun i s t => s.1 = o32 i ∧ t.1 = o32 i ∧ RW k m mr s.2 t.2) (fun e f => RW k m mr e f) 16 0 (0, m) (0, mr) fu fu ⟨rfl, rfl, RW_rf h⟩ (fun a s t _ ha hJ => ?_) (fun s t hJ => ?_) (lt_fu (by omega)) (lt_fu (by omega))
  · obtain ⟨j1, j2, j3⟩ := hJ
    have ha : a < 16 := by omega
    unfold lX7_passGas_2 lX9_passesAll_2
    rw [j1, j2, if_neg (not_16 ha), if_neg (not_16 ha), o_s]
    refine lp_two (bs := lX7_passGas_12 k (o32 a)) (bt := lX9_passesAll_12 (o32 a)) (fun i s t => s.1 = o32 (a + 1 + i) ∧ t.1 = o32 (a + 1 + i) ∧ RW k m mr s.2 t.2) (fun e f => ∃ s' t', e = .inl s' ∧ f = .inl t' ∧ s'.1 = o32 (a + 1) ∧ t'.1 = o32 (a + 1) ∧ RW k m mr s'.2 t'.2) (15 - a) 0 (o32 (a + 1), s.2) (o32 (a + 1), t.2) fu fu ⟨rfl, rfl, j3⟩ (fun i s t _ hi hJ => ?_) (fun s t hJ => ?_) (lt_fu (by omega)) (lt_fu (by omega)) |> fun ⟨e, f, e1, e2, s', t', e3, e4, e5⟩ => ⟨s', t', by rw [e1, e3], by rw [e2, e4], e5⟩
    · obtain ⟨s1, s2⟩ := s
      obtain ⟨t1, t2⟩ := t
      obtain ⟨i1, i2, i3⟩ := hJ
      dsimp only at i1 i2 i3
      subst i1
      subst i2
      obtain ⟨m', mr', e1, e2, e3⟩ := pass_in (a := a) (b := a + 1 + i) i3.1 ha (by omega) (by omega)
      exact ⟨_, _, e1, e2, rfl, rfl, RW_tr i3 e3⟩
    · obtain ⟨i1, i2, i3⟩ := hJ
      unfold lX7_passGas_12 lX9_passesAll_12
      rw [i1, i2, if_pos (by rw [show (16 : Int32) = o32 16 from rfl, o_le (by omega) (by omega)]; omega), if_pos (by rw [show (16 : Int32) = o32 16 from rfl, o_le (by omega) (by omega)]; omega), o_s]
      exact ⟨_, _, rfl, rfl, _, _, rfl, rfl, rfl, rfl, i3⟩
  · obtain ⟨j1, j2, j3⟩ := hJ
    unfold lX7_passGas_2 lX9_passesAll_2
    rw [j1, j2, if_pos (by decide), if_pos (by decide)]
    exact ⟨_, _, rfl, rfl, j3⟩
end
section
/-! BITS, COUNTED -/
noncomputable def bc1 (n : Nat) : Nat := Nat.sub n (Nat.land (Nat.shiftRight n 1) 1431655765)
noncomputable def bc2 (n : Nat) : Nat := Nat.add (Nat.land n 858993459) (Nat.land (Nat.shiftRight n 2) 858993459)
noncomputable def bc3 (n : Nat) : Nat := Nat.land (Nat.add n (Nat.shiftRight n 4)) 252645135
noncomputable def bc4 (n : Nat) : Nat := Nat.add n (Nat.shiftRight n 8)
noncomputable def bc5 (n : Nat) : Nat := Nat.add n (Nat.shiftRight n 16)
noncomputable def bcN (n : Nat) : Nat := Nat.land (bc5 (bc4 (bc3 (bc2 (bc1 n))))) 63
noncomputable def pcF : Nat → Nat → Nat
  | 0, _ => 0
  | i + 1, n => Nat.add (Nat.mod n 2) (pcF i (Nat.div n 2))
noncomputable def pc (n : Nat) : Nat := ((List.range 16).map (fun i => if n.testBit i then 1 else 0)).sum
noncomputable def all256 (f : Nat → Bool) : Nat → Bool
  | 0 => true
  | i + 1 => f i && all256 f i
theorem all256_of {f : Nat → Bool} : ∀ (n : Nat), all256 f n = true → ∀ i, i < n → f i = true
  | 0, _, i, h => absurd h (by omega)
  | n + 1, e, i, h => by
    unfold all256 at e
    rw [Bool.and_eq_true] at e
    by_cases hi : i = n
    · rw [hi]; exact e.1
    · exact all256_of n e.2 i (by omega)
theorem pcF_mod : ∀ (i n : Nat), pcF i (n % 2 ^ i) = pcF i n
  | 0, _ => rfl
  | i + 1, n => by
    show (n % 2 ^ (i + 1)) % 2 + pcF i ((n % 2 ^ (i + 1)) / 2) = n % 2 + pcF i (n / 2)
    rw [show 2 ^ (i + 1) = 2 * 2 ^ i by rw [Nat.pow_succ, Nat.mul_comm], Nat.mod_mul_right_mod, Nat.mod_mul_right_div_self, pcF_mod i (n / 2)]
theorem pcF_add : ∀ (i j n : Nat), pcF (i + j) n = pcF i n + pcF j (n / 2 ^ i)
  | 0, j, n => by
    rw [Nat.zero_add, Nat.pow_zero, Nat.div_one]
    show pcF j n = 0 + pcF j n
    rw [Nat.zero_add]
  | i + 1, j, n => by
    rw [show i + 1 + j = (i + j) + 1 by omega]
    show n % 2 + pcF (i + j) (n / 2) = n % 2 + pcF i (n / 2) + pcF j (n / 2 ^ (i + 1))
    rw [pcF_add i j (n / 2), Nat.div_div_eq_div_mul, show 2 ^ (i + 1) = 2 * 2 ^ i by rw [Nat.pow_succ, Nat.mul_comm], Nat.add_assoc]
theorem bc_tab : all256 (fun h => all256 (fun l => Nat.beq (bcN (Nat.add (Nat.mul 256 h) l)) (Nat.add (pcF 8 l) (pcF 8 h))) 256) 256 = true := by decide +kernel
theorem bc_ok {n : Nat} (h : n < 65536) : bcN n = pcF 16 n := by
  have e := all256_of 256 (all256_of 256 bc_tab (n / 256) (by omega)) (n % 256) (Nat.mod_lt _ (by omega))
  have e2 : Nat.add (Nat.mul 256 (n / 256)) (n % 256) = n := Nat.div_add_mod n 256
  rw [e2] at e
  rw [Nat.eq_of_beq_eq_true e]
  show pcF 8 (n % 2 ^ 8) + pcF 8 (n / 2 ^ 8) = pcF (8 + 8) n
  rw [pcF_mod, pcF_add]
theorem pcF_s : ∀ (i n : Nat), pcF i n = ((List.range i).map (fun j => if n.testBit j then 1 else 0)).sum
  | 0, _ => rfl
  | i + 1, n => by
    show n % 2 + pcF i (n / 2) = _
    rw [pcF_s i (n / 2), List.range_succ_eq_map, List.map_cons, List.sum_cons, List.map_map]
    have e1 : (if n.testBit 0 then 1 else 0) = n % 2 := by
      rw [Nat.testBit_zero]
      rcases Nat.mod_two_eq_zero_or_one n with h | h <;> rw [h] <;> rfl
    rw [e1]
    congr 2
    apply List.map_congr_left
    intro j _
    show _ = if n.testBit (j + 1) then 1 else 0
    rw [Nat.testBit_add_one]
theorem pc_F (n : Nat) : pcF 16 n = pc n := pcF_s 16 n
theorem ad_le (a b : Nat) : Nat.land a b ≤ a := Nat.and_le_left
theorem sr_le (a b : Nat) : Nat.shiftRight a b ≤ a := Nat.shiftRight_le a b
theorem bitCount_o {n : Nat} (h : n < 65536) : fJ6_bitCount_0f7a4 (o32 n) = o32 (pc n) := by
  rw [← pc_F, ← bc_ok h]
  have b1 : bc1 n ≤ n := Nat.sub_le _ _
  have e1 : o32 n - ((jUshr (o32 n) 1) &&& 1431655765) = o32 (bc1 n) := by
    rw [show jUshr (o32 n) 1 = _ from o_ushr (b := 1) (by omega) (by omega), show o32 (n >>> 1) &&& 1431655765 = _ from o_and _ 1431655765]
    exact o_sub (Nat.le_trans (ad_le _ _) (sr_le _ _)) (by omega)
  have b2 : bc2 (bc1 n) ≤ bc1 n + bc1 n := Nat.add_le_add (ad_le _ _) (Nat.le_trans (ad_le _ _) (sr_le _ _))
  have e2 : (o32 (bc1 n) &&& 858993459) + ((jUshr (o32 (bc1 n)) 2) &&& 858993459) = o32 (bc2 (bc1 n)) := by
    rw [show jUshr (o32 (bc1 n)) 2 = _ from o_ushr (b := 2) (by omega) (by omega), show o32 (bc1 n) &&& 858993459 = _ from o_and _ 858993459, show o32 (bc1 n >>> 2) &&& 858993459 = _ from o_and _ 858993459, o_add]
    rfl
  have b3 : bc3 (bc2 (bc1 n)) ≤ bc2 (bc1 n) + bc2 (bc1 n) := Nat.le_trans (ad_le _ _) (Nat.add_le_add (Nat.le_refl _) (sr_le _ _))
  have e3 : (o32 (bc2 (bc1 n)) + jUshr (o32 (bc2 (bc1 n))) 4) &&& 252645135 = o32 (bc3 (bc2 (bc1 n))) := by
    rw [show jUshr (o32 (bc2 (bc1 n))) 4 = _ from o_ushr (b := 4) (by omega) (by omega), o_add]
    exact o_and _ 252645135
  have b4 : bc4 (bc3 (bc2 (bc1 n))) ≤ bc3 (bc2 (bc1 n)) + bc3 (bc2 (bc1 n)) := Nat.add_le_add (Nat.le_refl _) (sr_le _ _)
  have e4 : o32 (bc3 (bc2 (bc1 n))) + jUshr (o32 (bc3 (bc2 (bc1 n)))) 8 = o32 (bc4 (bc3 (bc2 (bc1 n)))) := by
    rw [show jUshr (o32 (bc3 (bc2 (bc1 n)))) 8 = _ from o_ushr (b := 8) (by omega) (by omega), o_add]
    rfl
  have e5 : o32 (bc4 (bc3 (bc2 (bc1 n)))) + jUshr (o32 (bc4 (bc3 (bc2 (bc1 n))))) 16 = o32 (bc5 (bc4 (bc3 (bc2 (bc1 n))))) := by
    rw [show jUshr (o32 (bc4 (bc3 (bc2 (bc1 n))))) 16 = _ from o_ushr (b := 16) (by omega) (by omega), o_add]
    rfl
  unfold fJ6_bitCount_0f7a4
  rw [e1, e2, e3, e4, e5]
  exact o_and _ 63
theorem pc_of {n : Nat} {p : Nat → Bool} (h : ∀ x, x < 16 → n.testBit x = p x) : pc n = ((List.range 16).map (fun i => if p i then 1 else 0)).sum := by
  unfold pc
  congr 1
  apply List.map_congr_left
  intro j hj
  rw [h j (List.mem_range.mp hj)]
theorem pc_len {n : Nat} {l : List Nat} (h : ∀ x, x < 16 → n.testBit x = decide (x ∈ l)) (h16 : ∀ x ∈ l, x < 16) (hc : ∀ x, l.count x ≤ 1) : pc n = l.length := by
  rw [len_sum l h16, pc_of h]
  congr 1
  apply List.map_congr_left
  intro j _
  by_cases hm : j ∈ l
  · rw [decide_eq_true hm, if_pos rfl]
    have := List.count_pos_iff.mpr hm
    have := hc j
    omega
  · rw [decide_eq_false hm, List.count_eq_zero.mpr hm]
    rfl
theorem pc_le (n : Nat) : pc n ≤ 16 := sum_le1 16 (fun x _ => by split <;> omega)
theorem bits_eq {a b : Nat} (ha : a < 65536) (hb : b < 65536) (h : ∀ x, x < 16 → a.testBit x = b.testBit x) : a = b := by
  apply Nat.eq_of_testBit_eq
  intro x
  by_cases hx : x < 16
  · exact h x hx
  · rw [Nat.testBit_lt_two_pow (Nat.lt_of_lt_of_le ha (Nat.pow_le_pow_right (n := 2) (by omega) (show 16 ≤ x by omega))), Nat.testBit_lt_two_pow (Nat.lt_of_lt_of_le hb (Nat.pow_le_pow_right (n := 2) (by omega) (show 16 ≤ x by omega)))]
theorem set_bit {n x : Nat} (h : n < 65536) (hx : x < 16) : n ||| 2 ^ x < 65536 ∧ ∀ y, (n ||| 2 ^ x).testBit y = (n.testBit y || decide (y = x)) := by
  refine ⟨Nat.or_lt_two_pow (n := 16) h (Nat.pow_lt_pow_right (by omega) hx), fun y => ?_⟩
  rw [Nat.testBit_or, Nat.testBit_two_pow]
  by_cases e : y = x
  · rw [decide_eq_true e, decide_eq_true e.symm]
  · rw [decide_eq_false e, show decide (x = y) = false from decide_eq_false (fun z => e z.symm)]
theorem bitsBeside_c {k : Nat} {m : Mem} {r : Nat → List Nat} {al : Nat → Bool} {b : Nat} (h : CS k m r al) (hg : Gr r al) (hb : b < 16) (alb : al b = true) : ∃ n, n < 65536 ∧ fX0_bitsBeside k (o32 b) m = some (o32 n) ∧ ∀ x, x < 16 → n.testBit x = decide (x ∈ r b) := by
  have g := CS_g h hb alb
  have lb := g.1
  unfold fX0_bitsBeside
  rw [sidesOf_c hb g, Option.bind_some]
  have key := lp_ix (body := lX0_bitsBeside_11 k (o32 b) (o32 (r b).length) m) (fun i s => s.2 = o32 i ∧ ∃ n, n < 65536 ∧ s.1 = o32 n ∧ ∀ x, x < 16 → n.testBit x = decide (x ∈ (r b).take i)) (fun e => ∃ n, n < 65536 ∧ e = o32 n ∧ ∀ x, x < 16 → n.testBit x = decide (x ∈ r b)) (r b).length 0 ((0 : Int32), (0 : Int32)) fu ⟨rfl, 0, by omega, rfl, fun x _ => by simp⟩ (fun i s _ hi hI => ?_) (fun s hI => ?_) (lt_fu (by omega))
  · obtain ⟨e, e1, n, e2, e3, e4⟩ := key
    exact ⟨n, e2, by rw [e1, e3], e4⟩
  · obtain ⟨i1, n, i2, i3, i4⟩ := hI
    have hi : i < (r b).length := by omega
    have px := CS_m (k := k) (m := m) hg hb alb (List.getElem_mem hi)
    unfold lX0_bitsBeside_11
    rw [i1, i3, if_neg (by rw [o_le (by omega) (by omega)]; omega), at_ci hb g hi, Option.bind_some]
    have tk := tk1 hi
    generalize (r b)[i] = x at px tk
    by_cases e : x = 16
    · rw [e, show fX0_has k (o32 16) m = 0 from rfl, if_pos rfl, o_s]
      refine ⟨_, rfl, rfl, n, i2, rfl, fun y hy => ?_⟩
      rw [i4 y hy, tk]
      by_cases hm : y ∈ (r b).take i
      · rw [decide_eq_true hm, decide_eq_true (List.mem_append_left _ hm)]
      · rw [decide_eq_false hm, decide_eq_false (fun z => by
          rcases List.mem_append.mp z with z | z
          · exact hm z
          · have := List.mem_singleton.mp z; omega)]
    · have p2 := px.2 e
      rw [has_c h p2.1, p2.2.1, if_neg (show ¬ i01 true = 0 by decide), shl_tab x (by omega), o_or, o_s]
      have sb := set_bit i2 p2.1
      refine ⟨_, rfl, rfl, _, sb.1, rfl, fun y hy => ?_⟩
      rw [sb.2, i4 y hy, tk]
      by_cases hm : y ∈ (r b).take i
      · rw [decide_eq_true hm, Bool.true_or, decide_eq_true (List.mem_append_left _ hm)]
      · rw [decide_eq_false hm, Bool.false_or]
        by_cases e2 : y = x
        · rw [decide_eq_true e2, decide_eq_true (List.mem_append_right _ (List.mem_singleton.mpr e2))]
        · rw [decide_eq_false e2, decide_eq_false (fun z => by
            rcases List.mem_append.mp z with z | z
            · exact hm z
            · exact e2 (List.mem_singleton.mp z))]
  · obtain ⟨i1, n, i2, i3, i4⟩ := hI
    rw [Nat.zero_add] at i1 i4
    rw [List.take_length] at i4
    unfold lX0_bitsBeside_11
    rw [i1, i3, if_pos (by rw [o_le (by omega) (by omega)]; omega)]
    exact ⟨_, rfl, n, i2, rfl, i4⟩
theorem glasses_c {k : Nat} {m : Mem} {b : Nat} {l : List Nat} (hb : b < 16) (g : cg k m b l) : fX0_glasses k (o32 b) m = some (o32 (l.count 16)) := by
  have lb := g.1
  unfold fX0_glasses
  rw [sidesOf_c hb g, Option.bind_some]
  have e0 : ((0 : Int32), (0 : Int32)) = (o32 ((l.take 0).count 16), o32 0) := by rw [List.take_zero]; rfl
  rw [e0]
  refine lp_fwd (body := lX0_glasses_11 k (o32 b) (o32 l.length) m) l.length (fun i => (o32 ((l.take i).count 16), o32 i)) fu (fun i hi => ?_) ?_ (lt_fu (by omega))
  · have hx := g.2.2.1 _ (List.getElem_mem hi)
    unfold lX0_glasses_11
    dsimp only
    rw [if_neg (by rw [o_le (by omega) (by omega)]; omega), at_ci hb g hi, Option.bind_some, tk1 hi, List.count_append, o_s, o_s]
    by_cases e : l[i] = 16
    · rw [if_pos ((e16 hx).mpr e), e]
      rfl
    · rw [if_neg (fun z => e ((e16 hx).mp z)), List.count_singleton, show (l[i] == 16) = false from by simp [e]]
      rfl
  · unfold lX0_glasses_11
    dsimp only
    rw [if_pos (by rw [o_le (by omega) (by omega)]; omega), List.take_length]
theorem glasses_m {m : Mem} {b : Nat} {l : List Nat} (hb : b < 16) (g : rgAt m b l) : fX9_glassesOf (o32 b) m = some (o32 (l.count 16)) := by
  have lb := g.1
  unfold fX9_glassesOf
  have e0 : ((0 : Int32), (0 : Int32)) = (o32 ((l.take 0).count 16), o32 0) := by rw [List.take_zero]; rfl
  rw [e0]
  refine lp_fwd (body := lX9_glassesOf_4 (o32 b) m) l.length (fun i => (o32 ((l.take i).count 16), o32 i)) fu (fun i hi => ?_) ?_ (lt_fu (by omega))
  · have hx := g.2.2.1 _ (List.getElem_mem hi)
    unfold lX9_glassesOf_4
    dsimp only
    rw [sd_o hb, g.2.1, Option.bind_some, if_neg (by rw [o_le (by omega) (by omega)]; omega), rg_o hb (by omega), Option.bind_some, g.2.2.2 i hi, tk1 hi, List.count_append, o_s, o_s]
    by_cases e : l[i] = 16
    · rw [if_pos ((e16 hx).mpr e), e]
      rfl
    · rw [if_neg (fun z => e ((e16 hx).mp z)), List.count_singleton, show (l[i] == 16) = false from by simp [e], show o32 ((l.take i).count 16) + 0 = _ from o_add _ 0]
      rfl
  · unfold lX9_glassesOf_4
    dsimp only
    rw [sd_o hb, g.2.1, Option.bind_some, if_pos (by rw [o_le (by omega) (by omega)]; omega), List.take_length]
end
section
/-! BOTH: LIQUID OF ONE BUBBLE -/
theorem i_add {a b : Int32} (h1 : -2147483648 ≤ a.toInt + b.toInt) (h2 : a.toInt + b.toInt < 2147483648) : (a + b).toInt = a.toInt + b.toInt := by
  rw [Int32.toInt_add]
  exact Int.bmod_eq_of_le (by omega) (by omega)
theorem i_sub {a b : Int32} (h1 : -2147483648 ≤ a.toInt - b.toInt) (h2 : a.toInt - b.toInt < 2147483648) : (a - b).toInt = a.toInt - b.toInt := by
  rw [Int32.toInt_sub]
  exact Int.bmod_eq_of_le (by omega) (by omega)
theorem i_eq {a : Int32} {n : Nat} (h : a.toInt = n) (hn : n < 2147483648) : a = o32 n := by
  apply Int32.toInt_inj.mp
  rw [h, o_ti hn]
theorem o_div {a b : Nat} (ha : a < 2147483648) (hb : b < 2147483648) (h0 : 0 < b) : o32 a / o32 b = o32 (a / b) := by
  apply Int32.toInt_inj.mp
  have hd := Nat.div_le_self a b
  rw [Int32.toInt_div_of_ne_right _ _ (fun z => by
    have := congrArg Int32.toInt z
    rw [o_ti hb] at this
    have e : (-1 : Int32).toInt = -1 := by decide
    omega), o_ti ha, o_ti hb, o_ti (by omega)]
  exact (Int.ofNat_tdiv a b).symm
theorem lp_up {S E : Type} {body : S → Option (S ⊕ E)} {e : E} : ∀ (n n' : Nat) (s : S), lp body n s = some e → n ≤ n' → lp body n' s = some e
  | 0, _, _, h, _ => by cases h
  | n + 1, n', s, h, hn => by
    obtain ⟨n', rfl⟩ : ∃ z, n' = z + 1 := ⟨n' - 1, by omega⟩
    unfold lp at h ⊢
    cases hb : body s with
    | none => rw [hb] at h; cases h
    | some t =>
      rw [hb] at h
      cases t with
      | inl s' => exact lp_up n n' s' h (by omega)
      | inr e' => exact h
noncomputable def underB (kd tp : Nat) : Bool := decide (tp = kd) || decide (tp = 0) || (decide (kd = 2) && decide (tp = 1)) || (decide (kd = 5) && decide (tp = 3))
theorem und_tab : ∀ kd, kd < 7 → ∀ tp, tp < 7 → lp (lX1_isUnder_4 (o32 tp) (fun _ _ => 0)) 10 (o32 kd, 0) = some (i01 (underB kd tp)) := by decide +kernel
theorem under_c {m : Mem} {kd tp : Nat} (h1 : kd < 7) (h2 : tp < 7) : fX1_isUnder (o32 kd) (o32 tp) m = some (i01 (underB kd tp)) := by
  have e : fX1_isUnder (o32 kd) (o32 tp) m = lp (lX1_isUnder_4 (o32 tp) (fun _ _ => 0)) fu (o32 kd, 0) := rfl
  rw [e]
  exact lp_up _ _ _ (und_tab kd h1 tp h2) (Nat.le_of_lt (lt_fu (by omega)))
/-- those lower than b in its RING -/
noncomputable def lowB (f : Nat → Nat → Nat) (b x : Nat) : Bool := !decide (x = 16) && decide (f b 4 < f x 4)
noncomputable def lowL (r : Nat → List Nat) (f : Nat → Nat → Nat) (b : Nat) : List Nat := (r b).filter (lowB f b)
theorem low_mem {r : Nat → List Nat} {f : Nat → Nat → Nat} {b x : Nat} : x ∈ lowL r f b ↔ x ∈ r b ∧ x ≠ 16 ∧ f b 4 < f x 4 := by
  unfold lowL lowB
  rw [List.mem_filter, Bool.and_eq_true, Bool.not_eq_true', decide_eq_false_iff_not, decide_eq_true_eq]
theorem low_16 {r : Nat → List Nat} {al : Nat → Bool} {f : Nat → Nat → Nat} {b : Nat} (hg : Gr r al) (hb : b < 16) (alb : al b = true) : (∀ x ∈ lowL r f b, x < 16 ∧ al x = true ∧ x ≠ b) ∧ (∀ x, (lowL r f b).count x ≤ 1) := by
  refine ⟨fun x hx => ?_, fun x => ?_⟩
  · have h := low_mem.mp hx
    have p := hg.1 b hb alb x h.1
    have p2 := p.2 h.2.1
    exact ⟨by omega, p2.1, p2.2.1⟩
  · by_cases e : x = 16
    · have : (lowL r f b).count x = 0 := List.count_eq_zero.mpr (fun z => (low_mem.mp z).2.1 e)
      omega
    · exact Nat.le_trans (List.Sublist.count_le _ List.filter_sublist) (hg.2.1 b hb alb x e)
theorem bitsBelow_c {k : Nat} {m : Mem} {w : Nat → Int32} {r : Nat → List Nat} {al : Nat → Bool} {f : Nat → Nat → Nat} {b : Nat} (h : CS k m r al) (hF : FR k m w al f) (hg : Gr r al) (hb : b < 16) (alb : al b = true) : ∃ n, n < 65536 ∧ fX7_bitsBelow k (o32 b) m = some (o32 n) ∧ ∀ x, x < 16 → n.testBit x = decide (x ∈ lowL r f b) := by
  obtain ⟨n0, a1, a2, a3⟩ := bitsBeside_c h hg hb alb
  have rb : m (cw k 6) (o32 b).toNatClampNeg = o32 (f b 4) := by rw [o_tn (by omega)]; exact (hF b hb alb 4 (by omega) (by omega)).2.1
  have lb : f b 4 ≤ 3 := (hF b hb alb 4 (by omega) (by omega)).2.2
  unfold fX7_bitsBelow
  rw [a2, Option.bind_some]
  have key := lp_ix (body := lX7_bitsBelow_11 k (o32 b) m) (fun i s => s.2 = o32 i ∧ ∃ n, n < 65536 ∧ s.1 = o32 n ∧ ∀ x, x < 16 → n.testBit x = if x < i then decide (x ∈ lowL r f b) else decide (x ∈ r b)) (fun e => ∃ n, n < 65536 ∧ e = o32 n ∧ ∀ x, x < 16 → n.testBit x = decide (x ∈ lowL r f b)) 16 0 (o32 n0, (0 : Int32)) fu ⟨rfl, n0, a1, rfl, fun x hx => by rw [if_neg (by omega)]; exact a3 x hx⟩ (fun i s _ hi hI => ?_) (fun s hI => ?_) (lt_fu (by omega))
  · obtain ⟨e, e1, n, e2, e3, e4⟩ := key
    exact ⟨n, e2, by rw [e1, e3], e4⟩
  · obtain ⟨i1, n, i2, i3, i4⟩ := hI
    have hi : i < 16 := by omega
    unfold lX7_bitsBelow_11
    rw [i1, i3, if_neg (not_16 hi), if_pos (o_inb hi (by omega)), if_pos (o_inb hb (by omega)), rb]
    by_cases c : o32 (f b 4) < m (cw k 6) (o32 i).toNatClampNeg
    · rw [if_pos c, o_s]
      refine ⟨_, rfl, rfl, n, i2, rfl, fun x hx => ?_⟩
      rw [i4 x hx]
      by_cases e : x = i
      · rw [if_neg (by omega), if_pos (by omega), e]
        by_cases hm : i ∈ r b
        · have p := CS_m (k := k) (m := m) hg hb alb hm
          have p2 := p.2 (by omega)
          have ri := (hF i hi p2.2.1 4 (by omega) (by omega))
          rw [o_tn (by omega), show m (cw k 6) i = _ from ri.2.1, o_lt (by omega) (by have : f i 4 ≤ 3 := ri.2.2; omega)] at c
          rw [decide_eq_true hm, decide_eq_true (low_mem.mpr ⟨hm, by omega, c⟩)]
        · rw [decide_eq_false hm, decide_eq_false (fun z => hm (low_mem.mp z).1)]
      · by_cases e2 : x < i
        · rw [if_pos e2, if_pos (by omega)]
        · rw [if_neg e2, if_neg (by omega)]
    · rw [if_neg c, shl_tab i (by omega), show (-1 : Int32) = o32 4294967295 by decide, o_xor, o_and, o_s]
      refine ⟨_, rfl, rfl, _, Nat.lt_of_le_of_lt Nat.and_le_left i2, rfl, fun x hx => ?_⟩
      rw [clr_bit (by omega), i4 x hx]
      by_cases e : x = i
      · rw [decide_eq_true e, Bool.not_true, Bool.and_false, if_pos (by omega), decide_eq_false]
        intro z
        have z := low_mem.mp z
        rw [e] at z
        have p := CS_m (k := k) (m := m) hg hb alb z.1
        have p2 := p.2 z.2.1
        have ri := (hF i hi p2.2.1 4 (by omega) (by omega))
        exact c (by rw [o_tn (by omega), show m (cw k 6) i = _ from ri.2.1, o_lt (by omega) (by have : f i 4 ≤ 3 := ri.2.2; omega)]; exact z.2.2)
      · rw [decide_eq_false e, Bool.not_false, Bool.and_true]
        by_cases e2 : x < i
        · rw [if_pos e2, if_pos (by omega)]
        · rw [if_neg e2, if_neg (by omega)]
  · obtain ⟨i1, n, i2, i3, i4⟩ := hI
    unfold lX7_bitsBelow_11
    rw [i1, i3, if_pos (by decide)]
    exact ⟨_, rfl, n, i2, rfl, fun x hx => by rw [i4 x hx, if_pos (by omega)]⟩
theorem drain_v {d v : Nat} (hd : d ≤ 1999999999) (hv : v < 2147483648) : ((fJ9_min_f86c9 (1999999999 : Int64) ((o32 d).toInt64 + (o32 v).toInt64)).toInt32) = o32 (min 1999999999 (d + v)) := by
  have e1 : ((o32 d).toInt64 + (o32 v).toInt64).toInt = (d : Int) + v := by
    rw [Int64.toInt_add, Int32.toInt_toInt64, Int32.toInt_toInt64, o_ti (by omega), o_ti hv]
    exact Int.bmod_eq_of_le (by omega) (by omega)
  have e2 : (1999999999 : Int64).toInt = 1999999999 := by decide
  generalize (o32 d).toInt64 + (o32 v).toInt64 = s at *
  apply i_eq ?_ (by omega)
  unfold fJ9_min_f86c9
  by_cases h : s < 1999999999
  · rw [if_pos ((lg_cmp_gt _ _).mpr h), Int64.toInt_toInt32, e1]
    rw [Int64.lt_iff_toInt_lt] at h
    rw [Int.bmod_eq_of_le (by omega) (by omega)]
    omega
  · rw [if_neg (fun z => h ((lg_cmp_gt _ _).mp z)), Int64.toInt_toInt32, e2]
    rw [Int64.lt_iff_toInt_lt] at h
    rw [Int.bmod_eq_of_le (by omega) (by omega)]
    omega
/-- the class's own notes of what moves (cell 39) and the model's new levels (cell 147), by what came and what went -/
noncomputable def WN (k : Nat) (m mr : Mem) (al : Nat → Bool) (f : Nat → Nat → Nat) (I O : Nat → Nat) (i : Nat) : Prop := ∀ x, x < 16 → (m (cw k 39) x).toInt = (I x : Int) - O x ∧ O x ≤ 99999 ∧ I x ≤ 100000 * i ∧ (al x = true → mr 147 x = o32 (f x 3 + I x - O x) ∧ O x ≤ f x 3 ∧ (i ≤ x → O x = 0))
theorem giveL_c {k : Nat} {m : Mem} {b n e c : Nat} {L : List Nat} {V : Nat → Int} (hb : b < 16) (hbL : b ∉ L) (hn : n < 65536) (hbit : ∀ x, x < 16 → n.testBit x = decide (x ∈ L)) (hc : c ≤ 16) (he : e ≤ 99999) (hV : ∀ x, x < 16 → (m (cw k 39) x).toInt = V x ∧ -100000000 ≤ V x ∧ V x ≤ 100000000) : ∃ m', lp (lX7_giveWater_59 k (o32 b) (o32 n) (o32 c) (o32 e)) fu (0, m) = some m' ∧ (∀ x, x < 16 → (m' (cw k 39) x).toInt = (if x = b then V b - (e * c : Nat) else if x ∈ L then V x + e else V x)) ∧ ∀ z j, z ≠ cw k 39 → m' z j = m z j := by
  have hec : e * c ≤ 99999 * 16 := Nat.mul_le_mul he hc
  refine lp_ix (body := lX7_giveWater_59 k (o32 b) (o32 n) (o32 c) (o32 e)) (fun i s => s.1 = o32 i ∧ (∀ x, x < 16 → (s.2 (cw k 39) x).toInt = if x < i ∧ x ∈ L then V x + e else V x) ∧ ∀ z j, z ≠ cw k 39 → s.2 z j = m z j) (fun m' => (∀ x, x < 16 → (m' (cw k 39) x).toInt = (if x = b then V b - (e * c : Nat) else if x ∈ L then V x + e else V x)) ∧ ∀ z j, z ≠ cw k 39 → m' z j = m z j) 16 0 ((0 : Int32), m) fu ⟨rfl, fun x hx => by rw [if_neg (by omega)]; exact (hV x hx).1, fun _ _ _ => rfl⟩ (fun i s _ hi hI => ?_) (fun s hI => ?_) (lt_fu (by omega))
  · obtain ⟨i1, i2, i3⟩ := hI
    have hi : i < 16 := by omega
    unfold lX7_giveWater_59
    rw [i1, if_neg (not_16 hi), bit1 (by omega) (by omega), hbit i hi]
    by_cases hm : i ∈ L
    · rw [decide_eq_true hm, if_pos rfl, if_pos rfl, if_pos (o_inb hi (by omega)), if_pos (o_inb hi (by omega)), o_tn (by omega), o_s]
      have vi := i2 i hi
      rw [if_neg (by omega)] at vi
      have bi := hV i hi
      refine ⟨_, rfl, rfl, fun x hx => ?_, fun z j hz => ?_⟩
      · dsimp only
        rw [mput_get]
        by_cases ex : x = i
        · rw [if_pos ⟨rfl, ex⟩, ex, if_pos ⟨by omega, hm⟩, i_add (by rw [vi, o_ti (by omega)]; omega) (by rw [vi, o_ti (by omega)]; omega), vi, o_ti (by omega)]
        · rw [if_neg (fun z => ex z.2), i2 x hx]
          by_cases e2 : x < i ∧ x ∈ L
          · rw [if_pos e2, if_pos ⟨by omega, e2.2⟩]
          · rw [if_neg e2, if_neg (fun z => e2 ⟨by omega, z.2⟩)]
      · dsimp only
        rw [mput_c _ _ _ hz]
        exact i3 z j hz
    · rw [decide_eq_false hm, if_neg (by decide), o_s]
      refine ⟨_, rfl, rfl, fun x hx => ?_, i3⟩
      dsimp only
      rw [i2 x hx]
      by_cases e2 : x < i ∧ x ∈ L
      · rw [if_pos e2, if_pos ⟨by omega, e2.2⟩]
      · rw [if_neg e2, if_neg (fun z => e2 ⟨by
          have : x ≠ i := fun q => hm (q ▸ z.2)
          omega, z.2⟩)]
  · obtain ⟨i1, i2, i3⟩ := hI
    unfold lX7_giveWater_59
    rw [i1, if_pos (by decide), if_pos (o_inb hb (by omega)), if_pos (o_inb hb (by omega)), o_tn (by omega), o_mul]
    have vb := i2 b hb
    rw [if_neg (fun z => hbL z.2)] at vb
    have bb := hV b hb
    refine ⟨_, rfl, fun x hx => ?_, fun z j hz => ?_⟩
    · rw [mput_get]
      by_cases ex : x = b
      · rw [if_pos ⟨rfl, ex⟩, if_pos ex, i_sub (by rw [vb, o_ti (by omega)]; omega) (by rw [vb, o_ti (by omega)]; omega), vb, o_ti (by omega)]
      · rw [if_neg (fun z => ex z.2), if_neg ex, i2 x hx]
        by_cases hm : x ∈ L
        · rw [if_pos ⟨by omega, hm⟩, if_pos hm]
        · rw [if_neg (fun z => hm z.2), if_neg hm]
    · rw [mput_c _ _ _ hz]
      exact i3 z j hz
end
section
/-! BOTH: LIQUID OF ONE BUBBLE, THE MODEL'S WAY -/
theorem isLower_m {mr : Mem} {w : Nat → Int32} {k : Nat} {m : Mem} {r : Nat → List Nat} {al : Nat → Bool} {f : Nat → Nat → Nat} {b x : Nat} (hw : ∀ j, 12 ≤ j → j < 812 → mr 138 j = w j) (hF : FR k m w al f) (hg : Gr r al) (hb : b < 16) (alb : al b = true) (hx : x ∈ r b) : fX9_isLower (o32 x) (o32 b) mr = some (i01 (lowB f b x)) := by
  have p := CS_m (k := k) (m := m) hg hb alb hx
  unfold fX9_isLower lowB
  by_cases e : x = 16
  · rw [if_pos ((e16 p.1).mpr e), decide_eq_true e]
    rfl
  · have p2 := p.2 e
    have fx := hF x p2.1 p2.2.1 4 (by omega) (by omega)
    have fb := hF b hb alb 4 (by omega) (by omega)
    have lx : f x 4 ≤ 3 := fx.2.2
    have lb : f b 4 ≤ 3 := fb.2.2
    rw [if_neg (fun z => e ((e16 p.1).mp z)), show fX9_of (o32 x) 4 mr = _ from of_o (f := 4) p2.1 (by omega), show fX9_of (o32 b) 4 mr = _ from of_o (f := 4) hb (by omega), Option.bind_some, Option.bind_some, hw _ (by omega) (by omega), hw _ (by omega) (by omega), fx.1, fb.1, decide_eq_false e]
    by_cases c : f b 4 < f x 4
    · rw [if_neg (by rw [o_le (by omega) (by omega)]; omega), decide_eq_true c]
      rfl
    · rw [if_pos (by rw [o_le (by omega) (by omega)]; omega), decide_eq_false c]
      rfl
theorem tk_low {l : List Nat} {i : Nat} (p : Nat → Bool) (h : i < l.length) : (l.take (i + 1)).filter p = (l.take i).filter p ++ (if p l[i] then [l[i]] else []) := by
  rw [tk1 h, List.filter_append]
  congr 1
  by_cases c : p l[i] = true
  · rw [if_pos c, List.filter_cons_of_pos c]
    rfl
  · rw [if_neg c, List.filter_cons_of_neg c]
    rfl
theorem runs92_s {mr : Mem} {k : Nat} {m : Mem} {w : Nat → Int32} {r : Nat → List Nat} {al : Nat → Bool} {f : Nat → Nat → Nat} {b : Nat} {e : (Int32 × Mem) ⊕ Mem} (g : Int32) (hw : ∀ j, 12 ≤ j → j < 812 → mr 138 j = w j) (hF : FR k m w al f) (hg : Gr r al) (hb : b < 16) (alb : al b = true) (hR : rgAt mr b (r b)) (he : lp (lX9_runs_139 (o32 b) g (o32 (lowL r f b).length)) fu (0, mr) = some e) : lp (lX9_runs_92 (o32 b) g mr) fu (0, 0) = some e := by
  have lb := hR.1
  have e0 : ((0 : Int32), (0 : Int32)) = (o32 (((r b).take 0).filter (lowB f b)).length, o32 0) := by rw [List.take_zero]; rfl
  rw [e0]
  refine lp_fwd (body := lX9_runs_92 (o32 b) g mr) (r b).length (fun i => (o32 (((r b).take i).filter (lowB f b)).length, o32 i)) fu (fun i hi => ?_) ?_ (lt_fu (by omega))
  · unfold lX9_runs_92
    dsimp only
    rw [sd_o hb, hR.2.1, Option.bind_some, if_neg (by rw [o_le (by omega) (by omega)]; omega), rg_o hb (by omega), Option.bind_some, hR.2.2.2 i hi, isLower_m hw hF hg hb alb (List.getElem_mem hi), Option.bind_some, o_s, o_s, tk_low _ hi]
    cases hl : lowB f b (r b)[i] with
    | false =>
      rw [if_pos (by decide), if_neg (by decide), List.append_nil, show o32 (((r b).take i).filter (lowB f b)).length + 0 = _ from o_add _ 0]
      rfl
    | true =>
      rw [if_neg (by decide), if_pos rfl, List.length_append]
      rfl
  · unfold lX9_runs_92
    dsimp only
    rw [sd_o hb, hR.2.1, Option.bind_some, if_pos (by rw [o_le (by omega) (by omega)]; omega), List.take_length]
    show (lp (lX9_runs_139 (o32 b) g (o32 (lowL r f b).length)) fu (0, mr)).map Sum.inr = _
    rw [he]
    rfl
theorem cnt_take {l : List Nat} {x i : Nat} (hi : i < l.length) (hc : l.count l[i] ≤ 1) : l[i] ∉ l.take i := fun z => by
  obtain ⟨j, hj, e⟩ := List.getElem_of_mem z
  have hj2 : j < i := by rw [List.length_take] at hj; omega
  rw [List.getElem_take] at e
  have := count_two hc (by omega) hi e rfl
  omega
/-- the model gives c shares of e to the lower ones, out of b -/
theorem runs139_s {mr : Mem} {k : Nat} {m : Mem} {w : Nat → Int32} {r : Nat → List Nat} {al : Nat → Bool} {f : Nat → Nat → Nat} {b g : Nat} {T : Nat → Nat} (hw : ∀ j, 12 ≤ j → j < 812 → mr 138 j = w j) (hF : FR k m w al f) (hg : Gr r al) (hb : b < 16) (alb : al b = true) (hR : rgAt mr b (r b)) (hg2 : g ≤ 99999) (h0 : 0 < (lowL r f b).length) (hT : ∀ x, x < 16 → al x = true → mr 147 x = o32 (T x) ∧ T x ≤ 10000000) (hTb : g ≤ T b) : ∃ m', lp (lX9_runs_139 (o32 b) (o32 g) (o32 (lowL r f b).length)) fu (0, mr) = some (.inl (o32 (b + 1), m')) ∧ (∀ x, x < 16 → al x = true → m' 147 x = o32 (if x = b then T b - g / (lowL r f b).length * (lowL r f b).length else if x ∈ lowL r f b then T x + g / (lowL r f b).length else T x)) ∧ ∀ c j, c ≠ 147 → m' c j = mr c j := by
  have lb := hR.1
  have l16 := low_16 (f := f) hg hb alb
  have cl : (lowL r f b).length ≤ 30 := Nat.le_trans (List.length_filter_le _ _) (Gr_len hg hb alb)
  have he : o32 g / o32 (lowL r f b).length = o32 (g / (lowL r f b).length) := o_div (by omega) (by omega) h0
  have hge : g / (lowL r f b).length * (lowL r f b).length ≤ g := Nat.div_mul_le_self _ _
  have hL : lowL r f b = (r b).filter (lowB f b) := rfl
  generalize hc : (lowL r f b).length = c at *
  generalize g / c = e at *
  have he1 : e ≤ e * c := Nat.le_mul_of_pos_right _ h0
  refine lp_ix (body := lX9_runs_139 (o32 b) (o32 g) (o32 c)) (fun i s => s.1 = o32 i ∧ (∀ x, x < 16 → al x = true → s.2 147 x = o32 (if x = b then T b - e * (((r b).take i).filter (lowB f b)).length else if x ∈ ((r b).take i).filter (lowB f b) then T x + e else T x)) ∧ ∀ c j, c ≠ 147 → s.2 c j = mr c j) (fun q => ∃ m', q = .inl (o32 (b + 1), m') ∧ (∀ x, x < 16 → al x = true → m' 147 x = o32 (if x = b then T b - e * c else if x ∈ lowL r f b then T x + e else T x)) ∧ ∀ c j, c ≠ 147 → m' c j = mr c j) (r b).length 0 ((0 : Int32), mr) fu ⟨rfl, fun x hx ax => by
      rw [List.take_zero, List.filter_nil, List.length_nil, Nat.mul_zero, Nat.sub_zero, if_neg (List.not_mem_nil (a := x))]
      refine (hT x hx ax).1.trans ?_
      by_cases e : x = b
      · rw [if_pos e, e]
      · rw [if_neg e], fun _ _ _ => rfl⟩ (fun i s _ hi hI => ?_) (fun s hI => ?_) (lt_fu (by omega)) |> fun ⟨q, q1, m', q2, q3⟩ => ⟨m', by rw [q1, q2], q3⟩
  · obtain ⟨i1, i2, i3⟩ := hI
    have hi : i < (r b).length := by omega
    have R2 : rgAt s.2 b (r b) := rgAt_142 hR (fun j => i3 138 j (by omega))
    have px := CS_m (k := k) (m := m) hg hb alb (List.getElem_mem hi)
    have lw := isLower_m (mr := s.2) (fun j h1 h2 => (i3 138 j (by omega)).trans (hw j h1 h2)) hF hg hb alb (List.getElem_mem hi)
    have tl := tk_low (lowB f b) hi
    have cx : (r b)[i] ≠ 16 → (r b)[i] ∉ (r b).take i := fun h => cnt_take (x := 0) hi (hg.2.1 b hb alb _ h)
    have lem := low_mem (r := r) (f := f) (b := b) (x := (r b)[i])
    unfold lX9_runs_139
    rw [sd_o hb, R2.2.1, Option.bind_some, i1, if_neg (by rw [o_le (by omega) (by omega)]; omega), if_neg (by rw [show (0 : Int32) = o32 0 from rfl, o_le (by omega) (by omega)]; omega), rg_o hb (by omega), Option.bind_some, R2.2.2.2 i hi, lw, Option.bind_some]
    cases hl : lowB f b (r b)[i] with
    | false =>
      rw [hl, if_neg (by decide), List.append_nil] at tl
      rw [if_pos (by decide), o_s]
      exact ⟨_, rfl, rfl, fun x hx ax => by rw [tl]; exact i2 x hx ax, i3⟩
    | true =>
      have hml : (r b)[i] ∈ lowL r f b := by
        rw [hL]
        exact List.mem_filter.mpr ⟨List.getElem_mem hi, hl⟩
      have p2 := px.2 (lem.mp hml).2.1
      have cx2 := cx (lem.mp hml).2.1
      rw [hl, if_pos rfl] at tl
      generalize (r b)[i] = y at *
      have hz : ¬ o32 c = 0 := by
        rw [show (0 : Int32) = o32 0 from rfl, o_eq (by omega) (by omega)]
        omega
      have yb : y ≠ b := p2.2.2.1
      have vy := i2 y p2.1 p2.2.1
      rw [if_neg yb, if_neg (fun z => cx2 (List.mem_filter.mp z).1)] at vy
      have vb := i2 b hb alb
      rw [if_pos rfl] at vb
      have ty := hT y p2.1 p2.2.1
      have tb := hT b hb alb
      have lt1 : (((r b).take i).filter (lowB f b)).length + 1 ≤ c := by
        rw [← hc, hL]
        have h1 : (((r b).take (i + 1)).filter (lowB f b)).length ≤ ((r b).filter (lowB f b)).length := List.Sublist.length_le (List.Sublist.filter _ (List.take_sublist _ _))
        rw [tl, List.length_append] at h1
        exact h1
      have mul1 : e * ((((r b).take i).filter (lowB f b)).length + 1) ≤ e * c := Nat.mul_le_mul_left _ lt1
      rw [Nat.mul_add, Nat.mul_one] at mul1
      rw [if_neg (by decide), if_pos (o_inb p2.1 (by omega)), if_pos hz, if_pos (o_inb p2.1 (by omega)), if_pos (o_inb hb (by omega)), if_pos hz, if_pos (o_inb hb (by omega)), he, o_tn (show y < 2147483648 by omega), o_tn (show b < 2147483648 by omega), vy, o_add, mput_j _ _ _ _ (fun z => yb z.symm), vb, o_sub (by omega) (by omega), o_s]
      refine ⟨_, rfl, rfl, fun x hx ax => ?_, fun z j hz2 => ?_⟩
      · dsimp only
        rw [tl, List.length_append, List.length_singleton, Nat.mul_add, Nat.mul_one, mput_get, mput_get]
        by_cases e1 : x = b
        · rw [if_pos ⟨rfl, e1⟩, if_pos e1]
          congr 1
          omega
        · rw [if_neg (fun z => e1 z.2), if_neg e1]
          by_cases e2 : x = y
          · rw [if_pos ⟨rfl, e2⟩, if_pos (List.mem_append_right _ (List.mem_singleton.mpr e2)), e2]
          · rw [if_neg (fun z => e2 z.2), i2 x hx ax, if_neg e1]
            by_cases e3 : x ∈ ((r b).take i).filter (lowB f b)
            · rw [if_pos e3, if_pos (List.mem_append_left _ e3)]
            · rw [if_neg e3, if_neg (fun z => by
                rcases List.mem_append.mp z with z | z
                · exact e3 z
                · exact e2 (List.mem_singleton.mp z))]
      · dsimp only
        rw [mput_c _ _ _ hz2, mput_c _ _ _ hz2]
        exact i3 z j hz2
  · obtain ⟨i1, i2, i3⟩ := hI
    rw [Nat.zero_add] at i1 i2
    rw [List.take_length] at i2
    have R2 : rgAt s.2 b (r b) := rgAt_142 hR (fun j => i3 138 j (by omega))
    unfold lX9_runs_139 bX9_runs_209
    rw [sd_o hb, R2.2.1, Option.bind_some, i1, if_pos (by rw [o_le (by omega) (by omega)]; omega), if_neg (by rw [show (0 : Int32) = o32 0 from rfl, o_eq (by omega) (by omega)]; omega), o_s]
    refine ⟨_, rfl, s.2, rfl, fun x hx ax => ?_, i3⟩
    rw [i2 x hx ax, ← hL, hc]
end
