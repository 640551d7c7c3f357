set_option maxHeartbeats 4000000 in
theorem whole_of {p : Program} {e : Env} {s : State} {m : MethodId} {below : List Frame} {meth : Method} {c : Code} (l : Launch) {b L : Nat} {xs : Nat → Int32} (C0 : lw_At p s m meth c b L xs) {F : Nat} {r : jR} (hrun : jlaw F ((List.range L).map xs) = some r) (g1 : r.1 = some (.int 1)) (g2 : r.2.length ≤ 600000) (g3 : jsl r.2 ≤ 7302250) : W p l e room_1 s m #[Value.ref b] below meth c s.heap [] 0 0 (lw_Z below #[Value.ref b] s) (entryFrame m ([Value.ref b] : List Value).toArray 4) := by
  obtain ⟨ca, cT, D, hK, hb20⟩ := j_start C0
  obtain ⟨hx, hb, hr, hml, hown, hts, hX, hbl, hlocks, hgv⟩ := C0
  have hl := lv_entry ([.ref b]) (n := 4) (Nat.le_of_ble_eq_true rfl)
  rw [lg_entry_eq]
  generalize (lg_sl ([.ref b]) ++ List.replicate (4 - (lg_sl ([.ref b])).length) Slot.unset).toArray = ls at hl ⊢
  have hl : lv_has ls 4 [(0, .ref b)] := hl
  have hl2 : lv_has ls 4 (jL (jad s.heap.size ca) [(0, .ref (jK0 + 20))]) := by
    show lv_has ls 4 [(0, .ref (jad s.heap.size ca (jK0 + 20)))]
    rw [jad_k, hb20]
    exact hl
  have key := j_run (p := p) (l := l) (e := e) (R := room_1) (s := s) (m := m) (args := #[Value.ref b]) (below := below) (meth := meth) (c := c) (Q := lw_Z below #[Value.ref b] s) (base := s.heap.size) (ca := ca) (cT := cT) (D := D) (A := fun q => s.heap.size ≤ q) (nL := 4) (n0 := 0) (s0 := 0) (cc := cL_law) (G := jG) (Ts := lw_tbl) (own := RL) (xs := (List.range L).map xs) hx hb hml hts jG_in jG_good hown hK (fun q h => h) rfl (ini := yL_law.name = "<init>") (fun z => absurd z (by decide)) (mt := jmt) (d := 300) (call := jcall jmt (jcs ((List.range L).map xs)) F 300) (j_call jG_good (fun q => Iff.rfl) jtabs_ok (j_native (fun q => Iff.rfl)) 300 F) (jm_call 300) (Nat.le_of_ble_eq_true rfl) (Nat.le_of_ble_eq_true rfl) (ret := some .boolean) jz_L_law (r := r) g2 g3 ?_ F (0, [(0, .ref (jK0 + 20))], [], []) (Nat.zero_le _) hrun
  · exact key (Nat.zero_le _) s.heap [] ls 0 0 rfl rfl hl2 (fun k q h => by simp [jw] at h) va_S.rf
  · intro pc L9 st hr9 hz2 H locs ls cells slots h1 h2 hl hP hS
    have h1 : cells + 0 = r.2.length := h1
    have h2 : slots + 0 = jsl r.2 := h2
    rcases hr9 with ⟨x, d1, d2, d3, d4⟩ | ⟨x, n, d1, d2, d3, d4⟩ | ⟨d1, d2, d3, d4⟩ | ⟨x, d1, d2, d3, d4⟩
    · rw [g1] at d3
      cases d3
      subst d2
      refine va_forget (fun q hq => hS.2.2 q hq) ?_
      refine W.widen (k := 600000) (n := 7302250) (by omega) (by omega) ?_
      exact lw_ret hx hb hr hlocks d1
    · rw [g1] at d3; cases d3
    · rw [g1] at d3; cases d3
    · rw [g1] at d3; cases d3
