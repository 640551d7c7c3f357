/-! THE RELATION OF BOTH MEMORIES; TWO LOOPS AT ONCE -/
theorem lp_two {S T E F : Type} {bs : S → Option (S ⊕ E)} {bt : T → Option (T ⊕ F)} (J : Nat → S → T → Prop) (Q : E → F → Prop) : ∀ (k i : Nat) (s : S) (t : T) (n n' : Nat), J i s t → (∀ j s t, i ≤ j → j < i + k → J j s t → ∃ s' t', bs s = some (.inl s') ∧ bt t = some (.inl t') ∧ J (j + 1) s' t') → (∀ s t, J (i + k) s t → ∃ e f, bs s = some (.inr e) ∧ bt t = some (.inr f) ∧ Q e f) → k < n → k < n' → ∃ e f, lp bs n s = some e ∧ lp bt n' t = some f ∧ Q e f
  | 0, i, s, t, n, n', hi, _, he, hn, hn' => by
    obtain ⟨n, rfl⟩ : ∃ z, n = z + 1 := ⟨n - 1, by omega⟩
    obtain ⟨n', rfl⟩ : ∃ z, n' = z + 1 := ⟨n' - 1, by omega⟩
    obtain ⟨e, f, e1, e2, e3⟩ := he s t hi
    unfold lp
    rw [e1, e2]
    exact ⟨e, f, rfl, rfl, e3⟩
  | k + 1, i, s, t, n, n', hi, hs, he, hn, hn' => by
    obtain ⟨n, rfl⟩ : ∃ z, n = z + 1 := ⟨n - 1, by omega⟩
    obtain ⟨n', rfl⟩ : ∃ z, n' = z + 1 := ⟨n' - 1, by omega⟩
    obtain ⟨s', t', e1, e2, e3⟩ := hs i s t (Nat.le_refl _) (by omega) hi
    unfold lp
    rw [e1, e2]
    exact lp_two J Q k (i + 1) s' t' n n' e3 (fun j s t h1 h2 => hs j s t (by omega) (by omega)) (fun s t h => he s t (by rw [show i + (k + 1) = i + 1 + k by omega]; exact h)) (by omega) (by omega)
def lim (j : Nat) : Nat := if j = 1 then 6 else if j = 4 then 3 else 99999
def FR (k : Nat) (m : Mem) (w : Nat → Int32) (al : Nat → Bool) (f : Nat → Nat → Nat) : Prop := ∀ b, b < 16 → al b = true → ∀ j, 1 ≤ j → j ≤ 4 → w (12 + 50 * b + j) = o32 (f b j) ∧ m (cw k (j + 2)) b = o32 (f b j) ∧ f b j ≤ lim j
def sg1 (i : Nat) : Nat := [124, 38, 60, 61, 62, 43, 45, 42, 47, 37, 33].getD i 0
/-- a token of a TEXT as the class keeps it; the number itself is what the model keeps -/
def ctok (t : Nat) : Int32 := if t < 10000 then o32 t else if t < 20000 then -1 - o32 (t - 10000) else -100 - o32 (sg1 (t - 20000))
def otok (t : Nat) : Prop := t < 10005 ∨ (20000 ≤ t ∧ t ≤ 20010)
def stp (d : Option Nat) (t : Nat) : Option Nat := match d with
  | none => none
  | some d => if t < 20000 then some (d + 1) else if t = 20010 then (if 1 ≤ d then some d else none) else if 2 ≤ d then some (d - 1) else none
def dpt (l : List Nat) : Option Nat := l.foldl stp (some 0)
def TR (k : Nat) (m : Mem) (w : Nat → Int32) (u : Nat) (l : List Nat) : Prop := l.length ≤ 60 ∧ (∀ t ∈ l, otok t) ∧ (l ≠ [] → dpt l = some 1) ∧ w (896 + 62 * u) = o32 l.length ∧ m (cw k (27 + 3 * u)) 0 = o32 l.length ∧ ∀ i, (h : i < l.length) → w (896 + 62 * u + 1 + i) = o32 l[i] ∧ m (cw k (28 + 3 * u)) i = ctok l[i]
def SC (k : Nat) (m : Mem) (w : Nat → Int32) : Prop := w 8 = m (cw k 2) 6 ∧ w 9 = m (cw k 2) 7 ∧ w 10 = m (cw k 2) 8 ∧ w 3 = m (cw k 1) 9 ∧ (∃ n, n ≤ 99 ∧ w 4 = o32 n ∧ m (cw k 1) 6 = o32 n) ∧ (∃ n, n ≤ 999 ∧ w 5 = o32 n ∧ m (cw k 1) 7 = o32 n) ∧ (∃ n, n < 100 ∧ ¬ n % 10 = 0 ∧ w 6 = o32 n ∧ m (cw k 1) 8 = o32 n) ∧ (∃ n, n ≤ 9999 ∧ w 0 = o32 n ∧ m (cw k 1) 10 = o32 n) ∧ ∃ n, n ≤ 1999999999 ∧ w 7 = o32 n ∧ m (cw k 1) 11 = o32 n
def TP (k : Nat) (m : Mem) (w : Nat → Int32) : Prop := (∃ n, n ≤ 60 ∧ w 1 = o32 n ∧ m (cw k 1) 3 = o32 n) ∧ (∀ i, i < 60 → ∃ n, n ≤ 255 ∧ w (812 + i) = o32 n ∧ m (cw k 36) i = o32 n) ∧ (∃ n, n ≤ 24 ∧ w 2 = o32 n ∧ m (cw k 1) 5 = o32 n) ∧ ∀ i, i < 24 → w (872 + i) = m (cw k 37) i
/-- one world: the class's k, and a row of the model's numbers -/
def WS (k : Nat) (m : Mem) (w : Nat → Int32) (r : Nat → List Nat) (al : Nat → Bool) (f : Nat → Nat → Nat) (q : Nat → List Nat) : Prop := Gr r al ∧ FC r al ∧ RS (fun _ => w) r al ∧ CS k m r al ∧ FR k m w al f ∧ (∀ u, u < 3 → TR k m w u (q u)) ∧ SC k m w ∧ TP k m w
def WR (k : Nat) (m : Mem) (w : Nat → Int32) : Prop := ∃ r al f q, WS k m w r al f q
theorem WS_1 {k : Nat} {m : Mem} {w : Nat → Int32} {r : Nat → List Nat} {al : Nat → Bool} {f : Nat → Nat → Nat} {q : Nat → List Nat} (h : WS k m w r al f q) : Gr r al := h.1
theorem WS_2 {k : Nat} {m : Mem} {w : Nat → Int32} {r : Nat → List Nat} {al : Nat → Bool} {f : Nat → Nat → Nat} {q : Nat → List Nat} (h : WS k m w r al f q) : FC r al := h.2.1
theorem WS_3 {k : Nat} {m mr : Mem} {r : Nat → List Nat} {al : Nat → Bool} {f : Nat → Nat → Nat} {q : Nat → List Nat} (h : WS k m (mr 138) r al f q) : RS mr r al := h.2.2.1
theorem WS_4 {k : Nat} {m : Mem} {w : Nat → Int32} {r : Nat → List Nat} {al : Nat → Bool} {f : Nat → Nat → Nat} {q : Nat → List Nat} (h : WS k m w r al f q) : CS k m r al := h.2.2.2.1
theorem WS_5 {k : Nat} {m : Mem} {w : Nat → Int32} {r : Nat → List Nat} {al : Nat → Bool} {f : Nat → Nat → Nat} {q : Nat → List Nat} (h : WS k m w r al f q) : FR k m w al f := h.2.2.2.2.1
theorem WS_6 {k : Nat} {m : Mem} {w : Nat → Int32} {r : Nat → List Nat} {al : Nat → Bool} {f : Nat → Nat → Nat} {q : Nat → List Nat} (h : WS k m w r al f q) : ∀ u, u < 3 → TR k m w u (q u) := h.2.2.2.2.2.1
theorem WS_7 {k : Nat} {m : Mem} {w : Nat → Int32} {r : Nat → List Nat} {al : Nat → Bool} {f : Nat → Nat → Nat} {q : Nat → List Nat} (h : WS k m w r al f q) : SC k m w := h.2.2.2.2.2.2.1
theorem WS_8 {k : Nat} {m : Mem} {w : Nat → Int32} {r : Nat → List Nat} {al : Nat → Bool} {f : Nat → Nat → Nat} {q : Nat → List Nat} (h : WS k m w r al f q) : TP k m w := h.2.2.2.2.2.2.2
/-- the cells of the class's world k that count -/
def rc (k c : Nat) : Prop := ∃ o, c = cw k o ∧ ((1 ≤ o ∧ o ≤ 7) ∨ (9 ≤ o ∧ o ≤ 24) ∨ o = 27 ∨ o = 28 ∨ o = 30 ∨ o = 31 ∨ o = 33 ∨ o = 34 ∨ o = 36 ∨ o = 37)
theorem FR_same {k : Nat} {m m' : Mem} {w w' : Nat → Int32} {al : Nat → Bool} {f : Nat → Nat → Nat} (h : FR k m w al f) (e : ∀ o j, 3 ≤ o → o ≤ 6 → m' (cw k o) j = m (cw k o) j) (e2 : ∀ j, 12 ≤ j → j < 812 → w' j = w j) : FR k m' w' al f := fun b hb ha j h1 h2 => by
  rw [e _ _ (by omega) (by omega), e2 _ (by omega) (by omega)]
  exact h b hb ha j h1 h2
theorem TR_same {k : Nat} {m m' : Mem} {w w' : Nat → Int32} {u : Nat} {l : List Nat} (hu : u < 3) (h : TR k m w u l) (e : ∀ o j, o = 27 + 3 * u ∨ o = 28 + 3 * u → m' (cw k o) j = m (cw k o) j) (e2 : ∀ j, 896 ≤ j → w' j = w j) : TR k m' w' u l := by
  obtain ⟨h1, h2, h3, h4, h5, h6⟩ := h
  refine ⟨h1, h2, h3, by rw [e2 _ (by omega)]; exact h4, by rw [e _ _ (.inl rfl)]; exact h5, fun i hi => ?_⟩
  rw [e2 _ (by omega), e _ _ (.inr rfl)]
  exact h6 i hi
theorem SC_same {k : Nat} {m m' : Mem} {w w' : Nat → Int32} (h : SC k m w) (e : ∀ o j, (o = 1 ∧ 6 ≤ j ∧ j ≤ 11) ∨ (o = 2 ∧ 6 ≤ j ∧ j ≤ 8) → m' (cw k o) j = m (cw k o) j) (e2 : ∀ j, j ≤ 10 → j ≠ 1 → j ≠ 2 → w' j = w j) : SC k m' w' := by
  unfold SC
  rw [e2 8 (by omega) (by omega) (by omega), e2 9 (by omega) (by omega) (by omega), e2 10 (by omega) (by omega) (by omega), e2 3 (by omega) (by omega) (by omega), e2 4 (by omega) (by omega) (by omega), e2 5 (by omega) (by omega) (by omega), e2 6 (by omega) (by omega) (by omega), e2 0 (by omega) (by omega) (by omega), e2 7 (by omega) (by omega) (by omega), e 2 6 (by omega), e 2 7 (by omega), e 2 8 (by omega), e 1 9 (by omega), e 1 6 (by omega), e 1 7 (by omega), e 1 8 (by omega), e 1 10 (by omega), e 1 11 (by omega)]
  exact h
theorem TP_same {k : Nat} {m m' : Mem} {w w' : Nat → Int32} (h : TP k m w) (e : ∀ o j, (o = 1 ∧ (j = 3 ∨ j = 5)) ∨ o = 36 ∨ o = 37 → m' (cw k o) j = m (cw k o) j) (e2 : ∀ j, j = 1 ∨ j = 2 ∨ 812 ≤ j → w' j = w j) : TP k m' w' := by
  obtain ⟨h1, h2, h3, h4⟩ := h
  refine ⟨?_, fun i hi => ?_, ?_, fun i hi => ?_⟩
  · rw [e2 1 (by omega), e 1 3 (by omega)]; exact h1
  · rw [e2 _ (by omega), e 36 _ (by omega)]; exact h2 i hi
  · rw [e2 2 (by omega), e 1 5 (by omega)]; exact h3
  · rw [e2 _ (by omega), e 37 _ (by omega)]; exact h4 i hi
theorem WS_same {k : Nat} {m m' : Mem} {w w' : Nat → Int32} {r : Nat → List Nat} {al : Nat → Bool} {f : Nat → Nat → Nat} {q : Nat → List Nat} (h : WS k m w r al f q) (e : ∀ c j, rc k c → m' c j = m c j) (e2 : ∀ j, w' j = w j) : WS k m' w' r al f q := by
  obtain ⟨h1, h2, h3, h4, h5, h6, h7, h8⟩ := h
  have ew : w' = w := funext e2
  subst ew
  have eo : ∀ o j, ((1 ≤ o ∧ o ≤ 7) ∨ (9 ≤ o ∧ o ≤ 24) ∨ o = 27 ∨ o = 28 ∨ o = 30 ∨ o = 31 ∨ o = 33 ∨ o = 34 ∨ o = 36 ∨ o = 37) → m' (cw k o) j = m (cw k o) j := fun o j ho => e _ _ ⟨o, rfl, ho⟩
  refine ⟨h1, h2, h3, CS_same h4 (fun c j hc => ?_), FR_same h5 (fun o j a b => eo o j (by omega)) (fun _ _ _ => rfl), fun u hu => TR_same hu (h6 u hu) (fun o j ho => eo o j (by omega)) (fun _ _ => rfl), SC_same h7 (fun o j ho => eo o j (by omega)) (fun _ _ _ _ => rfl), TP_same h8 (fun o j ho => eo o j (by omega)) (fun _ _ => rfl)⟩
  rcases hc with hc | hc | ⟨z, hz, hc⟩
  · rw [hc.1]; exact eo _ _ (by omega)
  · rw [hc]; exact eo _ _ (by omega)
  · rw [hc]; exact eo _ _ (by omega)
theorem cw_inj {k a b : Nat} (h : cw k a = cw k b) : a = b := by
  unfold cw at h
  omega
theorem rc_ne {k o : Nat} {c : Nat} (h : rc k c) (ho : o = 8 ∨ o = 25 ∨ o = 26 ∨ o = 29 ∨ o = 32 ∨ o = 35 ∨ o = 38 ∨ o = 39) : c ≠ cw k o := by
  obtain ⟨a, e, h2⟩ := h
  intro z
  rw [e] at z
  have := cw_inj z
  omega
/-- only the class's world k may have changed; only what the model works in may have changed -/
def CF (k : Nat) (m m' : Mem) : Prop := ∀ c j, (∀ o, 1 ≤ o → o ≤ 39 → c ≠ cw k o) → m' c j = m c j
def MF (m m' : Mem) : Prop := ∀ c j, c ≠ 138 → c ≠ 142 → c ≠ 145 → c ≠ 146 → c ≠ 147 → m' c j = m c j
theorem CF_rf {k : Nat} {m : Mem} : CF k m m := fun _ _ _ => rfl
theorem MF_rf {m : Mem} : MF m m := fun _ _ _ _ _ _ _ => rfl
theorem CF_tr {k : Nat} {m m1 m2 : Mem} (h1 : CF k m m1) (h2 : CF k m1 m2) : CF k m m2 := fun c j h => (h2 c j h).trans (h1 c j h)
theorem MF_tr {m m1 m2 : Mem} (h1 : MF m m1) (h2 : MF m1 m2) : MF m m2 := fun c j a b d e g => (h2 c j a b d e g).trans (h1 c j a b d e g)
theorem CF_put {k o j : Nat} {m : Mem} {v : Int32} (h1 : 1 ≤ o) (h2 : o ≤ 39) : CF k m (mput m (cw k o) j v) := fun c _ h => by rw [mput_c _ _ _ (h o h1 h2)]
theorem MF_put {c j : Nat} {m : Mem} {v : Int32} (h : c = 138 ∨ c = 142 ∨ c = 145 ∨ c = 146 ∨ c = 147) : MF m (mput m c j v) := fun c' _ h1 h2 h3 h4 h5 => by rw [mput_c _ _ _ (by omega)]
