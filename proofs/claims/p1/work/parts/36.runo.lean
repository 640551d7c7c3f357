noncomputable def asumM (cs : Nat → Option (List aI)) (ac : Nat → List aV → List aE → Option aR) (a : Nat) (vs : List aV) (h : List aE) : Option aR := bif a == 150 then acopyM vs h else bif a == 161 then afoamM cs ac vs h else bif a == 110 then abesM cs ac vs h else bif a == 122 then atickM cs ac vs h else bif a == 221 then amtkM cs ac vs h else none
noncomputable def acallO (cs : Nat → Option (List aI)) : Nat → Nat → List aV → List aE → Option aR
  | 0, _, _, _ => none
  | d + 1, a, vs, h => match asumM cs (acallO cs d) a vs h with
    | some (v, h) => ssp h (fun h => some (v, h))
    | none => match jmt a with
      | none => none
      | some (tab, _, _, nL, ret, n, _) => bif vs.length == n && Nat.ble (asl vs) nL then sargs (aargs 0 vs) (fun L => arunS cs (acallO cs d) nL ret tab jF0 0 L [] h) else none
theorem g_callO {acs : Nat → Option (List aI)} {cs : Nat → Option (List Int32)} (hcs : ∀ (k : Nat) (l : List aI), acs k = some l → ∃ l2, cs k = some l2 ∧ jF2 gI l l2) : ∀ d : Nat, gCall (acallO acs d) (jcall jmt cs jF0 d)
  | 0 => fun _ _ _ _ _ _ h => by cases h
  | d + 1 => fun m va ha ra v h he hv hh => by
    have ih := g_callO hcs d
    unfold acallO at he
    split at he
    · rename_i v1 h1 hs
      rw [ssp_eq] at he
      cases he
      unfold asumM at hs
      simp only [Bool.cond_eq_ite] at hs
      split at hs
      · rename_i e
        have e : m = 150 := eq_of_beq e
        subst e
        exact acopyM_ok hs hv hh
      · split at hs
        · rename_i e
          have e : m = 161 := eq_of_beq e
          subst e
          exact afoamM_ok hcs ih hs hv hh
        · split at hs
          · rename_i e
            have e : m = 110 := eq_of_beq e
            subst e
            exact abesM_ok hcs ih hs hv hh
          · split at hs
            · rename_i e
              have e : m = 122 := eq_of_beq e
              subst e
              exact atickM_ok hcs ih hs hv hh
            · split at hs
              · rename_i e
                have e : m = 221 := eq_of_beq e
                subst e
                exact amtkM_ok hcs ih hs hv hh
              · cases hs
    · cases hm : jmt m with
      | none => rw [hm] at he; cases he
      | some q =>
        obtain ⟨tab, y, c, nL, ret, n, C⟩ := q
        rw [hm] at he
        simp only [] at he
        rw [Bool.cond_eq_ite] at he
        split at he
        · rename_i hb
          rw [Bool.and_eq_true] at hb
          rw [sargs_eq, arunS_eq _ rfl] at he
          rw [jcall_at hm (by rw [← f2_len hv]; exact eq_of_beq hb.1) (by rw [g_sl hv]; exact Nat.le_of_ble_eq_true hb.2)]
          exact g_run hcs ih jF0 (0, aargs 0 va, [], ha) _ _ ⟨rfl, g_args hv 0, trivial, hh⟩ he
        · cases he
noncomputable def atryO (z : aI) (pre : List aI) : Bool := aok 155 (arunS (axs (atop pre)) (acallO (axs (atop pre)) 40) 4 (some .boolean) jt_L_law 999979 33 jL3 [.inl z] jH0)
theorem atryO_ok {z : aI} {zc x0 : Int32} (hz : gI z zc) (pre : List aI) (a b : List Int32) (h : atryO z pre = true) (g : jF2 gI pre a) (hn : a.length + b.length = 5) : jgo1 zc (x0 :: (a ++ b)) := by
  intro L hp hL hE
  have hX : jF2 gI (atop pre) (x0 :: (a ++ b)) := atop_ok g hn
  unfold atryO at h
  rw [arunS_eq _ rfl] at h
  cases hr : arun (axs (atop pre)) (acallO (axs (atop pre)) 40) 4 (some .boolean) jt_L_law 999979 (33, jL3, [.inl z], jH0) with
  | none => rw [hr] at h; cases h
  | some r =>
    rw [hr] at h
    have hcs := fun k l hk => g_axs hX k l hk
    obtain ⟨r', r1, r2⟩ := g_run hcs (g_callO hcs 40) 999979 (33, jL3, [.inl z], jH0) (33, L, [.int zc], hp) r ⟨rfl, hL, ⟨hz, trivial⟩, hE⟩ hr
    obtain ⟨r3, r4⟩ := aok_ok h r2
    exact ⟨r', r1, r3, r4⟩
theorem ackO5 {z : aI} {zc : Int32} (hz : gI z zc) {cs : List (List Int)} (h : ack (atryO z) cs [] = true) (hl : cs.length ≤ 5) (x0 : Int32) (b : List Int32) (hb : b.length = 5) : jgo1 zc (x0 :: b) := by
  have key := ack_ok (g := atryO z) (P := fun b => jgo1 zc (x0 :: b)) (n := 5) (fun pre a b h1 h2 h3 => atryO_ok hz pre a b h1 h2 h3) cs [] [] b h trivial (by rw [List.length_nil]; omega) (by rw [List.length_nil]; omega)
  exact key
