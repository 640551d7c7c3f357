/-! FEED -/
theorem sh64_tab : ∀ i, i < 8 → ((8 * o32 i).toInt64.toUInt64 &&& Int64.toUInt64 63).toBitVec % 64 = BitVec.ofNat 64 (8 * i) ∧ ((8 * o32 i).toInt64 &&& 63).toBitVec.smod 64 = BitVec.ofNat 64 (8 * i) := by decide +kernel
theorem byte_u {x : Int64} {i : Nat} (hi : i < 8) : (lUshr x (8 * o32 i) &&& 255).toBitVec = (x.toBitVec >>> (8 * i)) &&& 255#64 := by
  have e := (sh64_tab i hi).1
  show ((x.toUInt64 >>> ((8 * o32 i).toInt64.toUInt64 &&& Int64.toUInt64 63)).toBitVec) &&& 255#64 = _
  rw [UInt64.toBitVec_shiftRight, e]
  congr 1
  show x.toBitVec >>> (BitVec.ofNat 64 (8 * i)).toNat = _
  rw [BitVec.toNat_ofNat, Nat.mod_eq_of_lt (show 8 * i < 2 ^ 64 by omega)]
theorem byte_s {x : Int64} {i : Nat} (hi : i < 8) : (lShr x (8 * o32 i) &&& 255).toBitVec = (x.toBitVec >>> (8 * i)) &&& 255#64 := by
  have e := (sh64_tab i hi).2
  show ((x >>> ((8 * o32 i).toInt64 &&& 63)).toBitVec) &&& 255#64 = _
  rw [Int64.toBitVec_shiftRight, e]
  show x.toBitVec.sshiftRight (BitVec.ofNat 64 (8 * i)).toNat &&& 255#64 = _
  rw [BitVec.toNat_ofNat, Nat.mod_eq_of_lt (show 8 * i < 2 ^ 64 by omega)]
  apply BitVec.eq_of_getLsbD_eq
  intro j hj
  rw [BitVec.getLsbD_and, BitVec.getLsbD_and, BitVec.getLsbD_sshiftRight, BitVec.getLsbD_ushiftRight]
  by_cases h8 : j < 8
  · rw [if_pos (show 8 * i + j < 64 by omega), show decide (64 ≤ j) = false from decide_eq_false (by omega)]
    rfl
  · have : (255#64).getLsbD j = false := by
      rw [BitVec.getLsbD_ofNat, show (255 : Nat) = 2 ^ 8 - 1 by decide, Nat.testBit_two_pow_sub_one, show decide (j < 8) = false from decide_eq_false h8, Bool.and_false]
    rw [this, Bool.and_false, Bool.and_false]
theorem byte_R {x : Int64} {i : Nat} (hi : i < 8) : ∃ n, n ≤ 255 ∧ (lUshr x (8 * o32 i) &&& 255).toInt32 = o32 n ∧ (lShr x (8 * o32 i) &&& 255).toInt32 = o32 n := by
  have key : ∀ y : Int64, y.toBitVec = (x.toBitVec >>> (8 * i)) &&& 255#64 → y.toInt32 = o32 ((x.toBitVec >>> (8 * i)) &&& 255#64).toNat := fun y hy => by
    have l : ((x.toBitVec >>> (8 * i)) &&& 255#64).toNat ≤ 255 := by
      rw [BitVec.toNat_and]
      exact Nat.and_le_right
    apply i_eq _ (by omega)
    rw [Int64.toInt_toInt32]
    have e : y.toInt = (((x.toBitVec >>> (8 * i)) &&& 255#64).toNat : Int) := by
      show y.toBitVec.toInt = _
      rw [hy]
      exact BitVec.toInt_eq_toNat_of_lt (by omega)
    rw [e]
    exact Int.bmod_eq_of_le (by omega) (by omega)
  refine ⟨((x.toBitVec >>> (8 * i)) &&& 255#64).toNat, ?_, key _ (byte_u hi), key _ (byte_s hi)⟩
  rw [BitVec.toNat_and]
  exact Nat.and_le_right
theorem feed_o {mc mr : Mem} (h : RLx mc mr) (x : Int64) (y : Int32) : Sm (fX8_feed x y mc) (fX9_feed x y mr) := by
  have hh := h
  obtain ⟨⟨r, al, f, q, w⟩, _⟩ := h
  obtain ⟨⟨p, p1, p2, p3⟩, t2, t3, t4⟩ := WS_8 w
  unfold fX8_feed fX9_feed
  rw [wi_eq]
  rcases win (l := 1) (h := 8) (by omega) (by omega) y with z | ⟨n, n1, n2, n3, n4⟩
  · rw [if_pos (show fX9_within y 1 8 = 0 from z), if_pos (show fX9_within y 1 8 = 0 from z)]
    exact err1 hh
  have z : ¬ fX9_within y 1 8 = 0 := by rw [show fX9_within y 1 8 = 1 from n4]; exact one0
  rw [if_neg z, if_neg z, p2, p3, n3, o_add]
  by_cases c : p + n ≤ 60
  · rw [if_pos (by rw [show (60 : Int32) = o32 60 from rfl, o_le (by omega) (by omega)]; exact c), if_pos (by rw [show (60 : Int32) = o32 60 from rfl, o_le (by omega) (by omega)]; exact c)]
    have key := lp_two (bs := lX7_takeBytes_3 0 x (o32 n)) (bt := lX9_feed_40 x (o32 n)) (fun i s t => s.1 = o32 i ∧ t.1 = o32 i ∧ s.2 (cw 0 1) 3 = o32 (p + i) ∧ t.2 138 1 = o32 (p + i) ∧ (∀ j, j < 60 → ∃ n, n ≤ 255 ∧ t.2 138 (812 + j) = o32 n ∧ s.2 (cw 0 36) j = o32 n) ∧ (∀ c j, ¬ (c = cw 0 1 ∧ j = 3) → c ≠ cw 0 36 → s.2 c j = mc c j) ∧ ∀ c j, ¬ (c = 138 ∧ (j = 1 ∨ (812 ≤ j ∧ j < 872))) → t.2 c j = mr c j) (fun m' g => g = (o32 (p + n), g.2) ∧ m' (cw 0 1) 3 = o32 (p + n) ∧ g.2 138 1 = o32 (p + n) ∧ (∀ j, j < 60 → ∃ n, n ≤ 255 ∧ g.2 138 (812 + j) = o32 n ∧ m' (cw 0 36) j = o32 n) ∧ (∀ c j, ¬ (c = cw 0 1 ∧ j = 3) → c ≠ cw 0 36 → m' c j = mc c j) ∧ ∀ c j, ¬ (c = 138 ∧ (j = 1 ∨ (812 ≤ j ∧ j < 872))) → g.2 c j = mr c j) n 0 (0, mc) (0, mr) fu fu ⟨rfl, rfl, p3, p2, t2, fun _ _ _ _ => rfl, fun _ _ _ => rfl⟩ (fun i s t _ hi hJ => ?_) (fun s t hJ => ?_) (lt_fu (by omega)) (lt_fu (by omega))
    · obtain ⟨m', g, e1, e2, e3, k1, k2, k3, k4, k5⟩ := key
      unfold fX7_takeBytes
      rw [e1, e2, Option.bind_some, k1]
      refine ⟨_, _, _, rfl, congrArg some e3, RL_k hh ⟨r, al, f, q, WS_tp w (fun o j ho h1 h2 h3 => k4 _ _ (fun z => h1 ⟨cw_inj z.1, .inl z.2⟩) (cw_ne h2)) (fun j h1 h2 h3 => k5 138 j (by omega)) ⟨⟨p + n, c, ?_, k1⟩, fun i hi => ?_, ?_, fun i hi => ?_⟩⟩ (fun c j hc => k4 c j (fun z => by have := z.1; unfold cw at this; omega) (by unfold cw; omega)) (fun c j hc => k5 c j (by omega))⟩
      · exact k2
      · exact k3 i hi
      · rw [k5 138 2 (by omega), k4 _ 5 (by omega) (cw_ne (by omega))]; exact t3
      · rw [k5 138 _ (by omega), k4 _ i (fun z => cw_ne (by omega) z.1) (cw_ne (by omega))]; exact t4 i hi
    · obtain ⟨j1, j2, j3, j4, j5, j6, j7⟩ := hJ
      obtain ⟨b, b1, b2, b3⟩ := byte_R (x := x) (i := i) (by omega)
      unfold lX7_takeBytes_3 lX9_feed_40
      have ni : ¬ o32 n ≤ o32 i := by rw [o_le (by omega) (by omega)]; omega
      have n60 : ¬ (60 : Int32) ≤ o32 (p + i) := by rw [show (60 : Int32) = o32 60 from rfl, o_le (by omega) (by omega)]; omega
      rw [j1, j2, j3, j4, if_neg ni, if_neg ni, if_neg n60, if_pos (o_inb (show p + i < 60 by omega) (by omega)), show (812 : Int32) + o32 (p + i) = o32 (812 + (p + i)) from o_add 812 _, if_pos (o_inb (show 812 + (p + i) < 1082 by omega) (by omega)), o_tn (show p + i < 2147483648 by omega), o_tn (show 812 + (p + i) < 2147483648 by omega), b2, b3, mput_c s.2 _ _ (show cw 0 1 ≠ cw 0 36 from cw_ne (by omega)), j3, mput_j t.2 _ _ _ (show 1 ≠ 812 + (p + i) by omega), j4, o_s, o_s]
      refine ⟨_, _, rfl, rfl, rfl, rfl, ?_, ?_, fun j hj => ?_, fun c j h1 h2 => ?_, fun c j h1 => ?_⟩
      · dsimp only
        rw [mput_at]
        rfl
      · dsimp only
        rw [mput_at]
        rfl
      · dsimp only
        rw [mput_get, if_neg (by omega), mput_get, mput_c _ _ _ (cw_ne (by omega)), mput_get]
        by_cases e : j = p + i
        · rw [if_pos (by omega), if_pos ⟨rfl, e⟩]
          exact ⟨b, b1, rfl, rfl⟩
        · rw [if_neg (by omega), if_neg (fun z => e z.2)]
          exact j5 j hj
      · dsimp only
        rw [mput_get, if_neg h1, mput_c _ _ _ h2]
        exact j6 c j h1 h2
      · dsimp only
        rw [mput_get, if_neg (by omega), mput_get, if_neg (by omega)]
        exact j7 c j h1
    · obtain ⟨j1, j2, j3, j4, j5, j6, j7⟩ := hJ
      rw [Nat.zero_add] at j1 j2 j3 j4
      unfold lX7_takeBytes_3 lX9_feed_40
      rw [j1, j2, if_pos (by rw [o_le (by omega) (by omega)]; omega), if_pos (by rw [o_le (by omega) (by omega)]; omega), j4]
      exact ⟨_, _, rfl, rfl, rfl, j3, j4, j5, j6, j7⟩
  · rw [if_neg (by rw [show (60 : Int32) = o32 60 from rfl, o_le (by omega) (by omega)]; exact c), if_neg (by rw [show (60 : Int32) = o32 60 from rfl, o_le (by omega) (by omega)]; exact c)]
    exact err4 hh
