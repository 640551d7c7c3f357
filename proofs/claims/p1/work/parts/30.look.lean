/-! one look at the law's switch -/
def arunat (z : aI) (X : List aI) : Option aR := arun (axs X) (acall jmt (axs X) jF0 40) 4 (some .boolean) jt_L_law 999979 (33, jL3, [.inl z], jH0)
def atop (pre : List aI) : List aI := aT :: (pre ++ List.replicate (5 - pre.length) aT)
def atry (z : aI) (pre : List aI) : Bool := aok 155 (arunat z (atop pre))
def jgo1 (z : Int32) (xs : List Int32) : Prop := ∀ (L : List (Nat × Value)) (h : List jE), jF2 gL jL3 L → jF2 gE jH0 h → ∃ r, jrun (jcs xs) (jcall jmt (jcs xs) jF0 40) 4 (some .boolean) jt_L_law 999979 (33, L, [.int z], h) = some r ∧ r.1 = some (.int 1) ∧ r.2.length = 155
theorem atop_ok {x0 : Int32} {pre : List aI} {a b : List Int32} (g : jF2 gI pre a) (hn : a.length + b.length = 5) : jF2 gI (atop pre) (x0 :: (a ++ b)) := by
  refine ⟨gI_T x0, f2_app g ?_⟩
  have e : 5 - pre.length = b.length := by rw [f2_len g]; omega
  rw [e]
  exact f2_top b
theorem atry_ok {z : aI} {zc x0 : Int32} (hz : gI z zc) (pre : List aI) (a b : List Int32) (h : atry z pre = true) (g : jF2 gI pre a) (hn : a.length + b.length = 5) : jgo1 zc (x0 :: (a ++ b)) := by
  intro L hp hL hE
  have hX : jF2 gI (atop pre) (x0 :: (a ++ b)) := atop_ok g hn
  unfold atry at h
  cases hr : arunat z (atop pre) with
  | none => rw [hr] at h; cases h
  | some r =>
    rw [hr] at h
    have hcs := fun k l hk => g_axs hX k l hk
    obtain ⟨r', r1, r2⟩ := g_run hcs (g_call (mt := jmt) hcs jF0 40) 999979 (33, jL3, [.inl z], jH0) (33, L, [.int zc], hp) r ⟨rfl, hL, ⟨hz, trivial⟩, hE⟩ hr
    obtain ⟨r3, r4⟩ := aok_ok h r2
    exact ⟨r', r1, r3, r4⟩
theorem ack5 {z : aI} {zc : Int32} (hz : gI z zc) {cs : List (List Int)} (h : ack (atry z) cs [] = true) (hl : cs.length ≤ 5) (x0 : Int32) (b : List Int32) (hb : b.length = 5) : jgo1 zc (x0 :: b) := by
  have key := ack_ok (g := atry z) (P := fun b => jgo1 zc (x0 :: b)) (n := 5) (fun pre a b h1 h2 h3 => atry_ok hz pre a b h1 h2 h3) cs [] [] b h trivial (by rw [List.length_nil]; omega) (by rw [List.length_nil]; omega)
  exact key
def jwell (r : jR) : Prop := r.1 = some (.int 1) ∧ r.2.length ≤ 600000 ∧ jsl r.2 ≤ 7302250
theorem a_room : (jH0.map asz).sum ≤ 7302250 := by decide +kernel
theorem a_n : jH0.length = 155 := by decide +kernel
theorem jl6 {xs : List Int32} (hl : xs.length = 6) (ops : ∀ (z x0 : Int32) (b : List Int32), b.length = 5 → jgo1 z (x0 :: b)) : ∃ r, jlaw jF0 xs = some r ∧ jwell r := by
  have hX : jF2 gI aT6 xs := by
    have := f2_top xs
    rw [hl] at this
    exact this
  have hcs := fun k l hk => g_axs hX k l hk
  obtain ⟨c', h1, h2⟩ := g_steps (nL := 4) (ret := some .boolean) (tab := jt_L_law) hcs (g_call (mt := jmt) hcs jF0 40) 21 ((0, [(0, aref (jK0 + 20))], [], []) : aC) ((0, [(0, .ref (jK0 + 20))], [], []) : jC) _ ⟨rfl, ⟨⟨rfl, ⟨⟨_, Or.inl rfl⟩, rfl⟩⟩, trivial⟩, trivial, trivial⟩ a_start
  obtain ⟨pc, L, st, h⟩ := c'
  obtain ⟨e1, e2, e3, e4⟩ := h1
  have e1 : 33 = pc := e1
  subst e1
  match st, e3 with
  | .int z :: [], e3 =>
    match xs, hl with
    | x0 :: b, hl =>
      obtain ⟨r, r1, r2, r3⟩ := ops z x0 b (by rw [List.length_cons] at hl; omega) L h e2 e4
      have hm := jmq_run (jmq_call (mt := jmt) (cs := jcs (x0 :: b)) (F := jF0) 40) _ _ _ r1
      have e5 : r.2.length = h.length := by rw [r3, ← f2_len e4, a_n]
      refine ⟨r, ?_, r2, by rw [r3]; exact Nat.le_of_ble_eq_true rfl, ?_⟩
      · have := h2 999979
        rw [r1] at this
        exact this
      · rw [hm.2.2.2 e5, g_jsl e4]
        exact a_room
