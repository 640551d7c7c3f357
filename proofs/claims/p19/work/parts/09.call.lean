/-! calls, and the whole -/
def jPc (xs : List Int32) (base : Nat) (ca : Nat → Nat) (cT : Nat → ClassId) (D : va_G) (A : Nat → Prop) (h : List jE) : State → Prop := fun U => U.heap.size = base + h.length ∧ va_P D vwCl (jw base cT (jad base ca) h) U.heap ∧ jK xs ca cT D A U U.heap
def jQ (base : Nat) (ca : Nat → Nat) (cT : Nat → ClassId) (D : va_G) (A : Nat → Prop) (r : jR) : Array Value → State → Outcome → State → Prop := fun _ st o t => (o = .returned (r.1.map (jv (jad base ca))) ∧ t.heap.size = base + r.2.length ∧ va_P D vwCl (jw base cT (jad base ca) r.2) t.heap) ∧ va_F A st t
def jrm (d : Nat) (h : List jE) (r : jR) : Room := { frames := d, cells := r.2.length - h.length, slots := jsl r.2 - jsl h, locals := 60 * d }
def jMet (l : Launch) (G : List Cond) (xs : List Int32) (base : Nat) (ca : Nat → Nat) (cT : Nat → ClassId) (D : va_G) (A : Nat → Prop) (d : Nat) (q : jM) (vs : List Value) (h : List jE) (r : jR) : Prop :=
  Met l q.2.1 (Cond.code q.2.1 q.2.2.1 q.2.2.2.1 q.2.2.2.2.1 :: G) (jrm d h r) (va_Pc (vs.map (jv (jad base ca))) (jPc xs base ca cT D A h)) (jQ base ca cT D A r) (r.2.length - h.length) (jsl r.2 - jsl h) A
theorem jPc_blind {xs : List Int32} {base : Nat} {ca : Nat → Nat} {cT : Nat → ClassId} {D : va_G} {A : Nat → Prop} {h : List jE} {vs : List Value} : FrameBlind (va_Pc vs (jPc xs base ca cT D A h)) := fun a U g mk q => ⟨q.1, q.2.1, q.2.2.1, jK_blind q.2.2.2⟩
theorem j_goodIn {G Ts : List Cond} {w : Cond} (hG : ∀ w ∈ G, w ∈ Ts) (hg : ∀ w ∈ G, goodWord w = true) (hw : w ∈ G) : GoodIn Ts (w :: G) := fun x hx => by
  rcases List.mem_cons.mp hx with rfl | h
  · exact ⟨hG _ hw, good_of_word (hg _ hw)⟩
  · exact ⟨hG _ h, good_of_word (hg _ h)⟩
/-- what a call of method q by index i of own needs, beside the words that are the kind's own -/
def jcalB (G : List Cond) (q : jM) (n : Nat) : Prop := Cond.code q.2.1 q.2.2.1 q.2.2.2.1 q.2.2.2.2.1 ∈ G ∧ Cond.initialized q.2.1.cls ∈ G ∧ (q.2.1.cls ≠ "java/lang/invoke/MethodHandle" ∧ q.2.1.cls ≠ "java/lang/invoke/VarHandle" ∧ (parseMethodDescriptor q.2.1.desc).map (fun d => d.parameters.length) = some n) ∧ q.2.2.2.1 ≤ 40
def jcalV (G : List Cond) (own : String) (mt : Nat → Option jM) (i a b ci : Nat) : Prop := ∃ (q : jM) (z : vw_C), mt a = some q ∧ vwCl[ci]? = some z ∧ z.1 = q.2.1.cls ∧ jcalB G q (b - 1) ∧ 1 ≤ b ∧ Cond.methodLink own i q.2.1 ∈ G ∧ Cond.instanceMethod q.2.1 ∈ G ∧ Cond.selects q.2.1.cls q.2.1 q.2.1 ∈ G
def jcalK (G : List Cond) (own : String) (mt : Nat → Option jM) (i a b : Nat) : Prop := ∃ q : jM, mt a = some q ∧ q.2.1.cls = "java/lang/String" ∧ jcalB G q (b - 1) ∧ 1 ≤ b ∧ Cond.methodLink own i q.2.1 ∈ G ∧ Cond.instanceMethod q.2.1 ∈ G ∧ Cond.selects q.2.1.cls q.2.1 q.2.1 ∈ G
def jcalS (G : List Cond) (own : String) (mt : Nat → Option jM) (i a b : Nat) : Prop := ∃ q : jM, mt a = some q ∧ jcalB G q b ∧ Cond.methodLink own i q.2.1 ∈ G ∧ Cond.static q.2.1 ∈ G
def jcalI (G : List Cond) (own : String) (mt : Nat → Option jM) (i a b : Nat) : Prop := ∃ q : jM, mt a = some q ∧ jcalB G q (b - 1) ∧ 1 ≤ b ∧ q.2.1.name = "<init>" ∧ q.2.2.2.2.1 = none ∧ Cond.instanceMethod q.2.1 ∈ G ∧ (Cond.methodLink own i q.2.1 ∈ G ∨ ∃ (k : Nat) (host : String), jnest[k]? = some (own, i, q.2.1, host))
section JX
variable {p : Program} {l : Launch} {e : Env} {R : Room} {s : State} {m : MethodId} {args : Array Value} {below : List Frame} {meth : Method} {c : Code} {Q : State → Prop} {base : Nat} {ca : Nat → Nat} {cT : Nat → ClassId} {D : va_G} {A : Nat → Prop} {nL n0 s0 : Nat}
variable {cc : ByteArray} {pc t : Nat} {L : List (Nat × Value)} {st : List Value} {h : List jE} {x' : jC} {G Ts : List Cond} {own : String} {xs : List Int32} {H : Heap} {locs : List Loc} {cells slots : Nat}
theorem j_ret {ls : Array Slot} {st0 rest : List Value} {r : jR} {a : Array Value} {mc ms : Nat} (hr : va_Run p l e R s m args below meth c H locs cells slots mc ms (F0 m pc ls st0) rest (jQ base ca cT D A r a) A) (hS : va_S A s.heap H locs)
    (kk : ∀ (H1 : Heap) (locs1 : List Loc), va_P D vwCl (jw base cT (jad base ca) r.2) H1 → va_S A s.heap H1 locs1 → W p l e R s m args below meth c H1 locs1 (cells + mc) (slots + ms) Q (F0 m (pc + 3) ls ((r.1.map (jv (jad base ca))).toList ++ rest))) : W p l e R s m args below meth c H locs cells slots Q (F0 m pc ls st0) := by
  intro T hT X
  obtain ⟨v, st₀, t, T', L, h0, X', hL, e1, e2, ⟨⟨hv, hsz, hP1⟩, hz, hk⟩, st⟩ := hr T hT X
  cases hv
  rw [h0] at hz hk
  obtain ⟨t2, a1, b1⟩ := kk T'.heap (locs ++ L) (by rw [e1]; exact hP1)
    ⟨Nat.le_trans hS.1 (by rw [e1]; exact hz), fun q h1 h2 => by rw [e1, hk q (Nat.lt_of_lt_of_le h1 hS.1) h2]; exact hS.2.1 q h1 h2, fun q hq => by
      rcases List.mem_append.mp hq with h | h
      · exact hS.2.2 q h
      · exact hL q h⟩ T' rfl X'
  exact ⟨t2, st t2 a1, b1⟩
theorem j_callB {own : String} {q : jM} {i n d : Nat} {r : jR} (hts : ∀ w ∈ Ts, w.before args s = true) (hG : ∀ w ∈ G, w ∈ Ts) (hgd : ∀ w ∈ G, goodWord w = true) (hq : jcalB G q n) (hl : Cond.methodLink own i q.2.1 ∈ G) (hR1 : d + 1 ≤ R.frames) (hR2 : 60 * d + 60 ≤ R.locals) :
    CallB R s args own i q.2.1 q.2.2.1 q.2.2.2.1 q.2.2.2.2.1 (Cond.code q.2.1 q.2.2.1 q.2.2.2.1 q.2.2.2.2.1 :: G) (jrm d h r) (r.2.length - h.length) (jsl r.2 - jsl h) n := by
  obtain ⟨q1, q2, q3, q4⟩ := hq
  exact callB_of n hts (j_goodIn hG hgd q1) rfl rfl rfl (hts _ (hG _ q2)) (hts _ (hG _ hl)) q3 ⟨hR1, by show 8 + (q.2.2.2.1 + 11) + 60 * d ≤ R.locals; omega⟩
/-- the callee's start holds -/
theorem j_pre {U : State} {vs : List Value} (hK : jK xs ca cT D A s s.heap) (hP : va_P D vwCl (jw base cT (jad base ca) h) H) (hS : va_S A s.heap H locs) (hsz : H.size = base + h.length) (hU : U.heap = H) (hW : s.WarmedH U.vm) : va_Pc (vs.map (jv (jad base ca))) (jPc xs base ca cT D A h) ((vs.map (jv (jad base ca))).toArray) U :=
  ⟨rfl, by rw [hU]; exact hsz, by rw [hU]; exact hP, jK_call hK hS hU hW⟩
/-- how a call ends in the interpreter -/
theorem jinv_ret {call : Nat → List Value → List jE → Option jR} {a n t : Nat} (he : jinv call a n t L st h = some (.inl x')) : ∃ r : jR, n ≤ st.length ∧ ((st.drop n).map fun v => v.category).sum ≤ 8 ∧ call a (st.take n).reverse h = some r ∧ x' = (t, L, r.1.toList ++ st.drop n, r.2) := by
  unfold jinv at he
  split at he
  · rename_i hc
    split at he
    · rename_i v h' hr
      cases he
      exact ⟨_, hc.1, hc.2, hr, rfl⟩
    · rename_i h' hr
      cases he
      exact ⟨_, hc.1, hc.2, hr, rfl⟩
    · cases he
  · cases he
theorem jmapO (ad : Nat → Nat) (v : Option Value) (r : List Value) : (v.toList ++ r).map (jv ad) = (v.map (jv ad)).toList ++ r.map (jv ad) := by
  cases v <;> rfl
end JX
