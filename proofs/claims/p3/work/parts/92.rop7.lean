/-! MOVES, GASES, CHECK, FIRST, UNTELL -/
theorem l_cmp {i n z : Nat} (hi : i < 2147483648) (hn : n < 2147483648) (hz : z < 2147483648) : (0 < lg_cmp ((o32 i).toInt64 + (o32 n).toInt64) ((o32 z).toInt64)) ↔ z < i + n := by
  rw [lg_cmp_gt, Int64.lt_iff_toInt_lt, Int64.toInt_add, Int32.toInt_toInt64, Int32.toInt_toInt64, Int32.toInt_toInt64, o_ti hi, o_ti hn, o_ti hz, Int.bmod_eq_of_le (by omega) (by omega)]
  omega
theorem nn_o {x : Int32} (h : ¬ x < 0) : ∃ n, n < 2147483648 ∧ x = o32 n := by
  rw [Int32.lt_iff_toInt_lt] at h
  have e0 : (0 : Int32).toInt = 0 := by decide
  have := Int32.toInt_lt x
  exact ⟨x.toInt.toNat, by omega, i_eq (by omega) (by omega)⟩
def mvM (m : Mem) (b n : Nat) (g : Nat → Int32) : Mem := fun c j => if c = 153 ∧ b ≤ j ∧ j < b + n then g (j - b) else m c j
def caM (m : Mem) (a n : Nat) : Mem := fun c j => if c = 154 ∧ j < n then m 153 (a + j) else m c j
theorem move_m {m : Mem} {s o i j n : Nat} (hs : s < 4) (ho : o < 4) (hi : i + n ≤ 24) (hj : j + n ≤ 24) : lp (lX9_move_127 (o32 s) (o32 i) (o32 o) (o32 j) (o32 n)) fu (0, m) = some (o32 n, mvM (caM m (24 * s + i) n) (24 * o + j) n (fun k => m 153 (24 * s + i + k))) := by
  have ei : ∀ u v w : Nat, (24 : Int32) * o32 u + o32 v + o32 w = o32 (24 * u + v + w) := fun u v w => by
    show o32 24 * o32 u + o32 v + o32 w = _
    rw [o_mul, o_add, o_add]
  have c0 : caM m (24 * s + i) 0 = m := by
    funext c k
    unfold caM
    rw [if_neg (by omega)]
  have st := lp_fwd (body := lX9_move_127 (o32 s) (o32 i) (o32 o) (o32 j) (o32 n)) (e := (o32 n, mvM (caM m (24 * s + i) n) (24 * o + j) n (fun k => m 153 (24 * s + i + k)))) n (fun k => (o32 k, caM m (24 * s + i) k)) fu (fun k hk => ?_) ?_ (lt_fu (by omega))
  · rw [c0] at st
    exact st
  · unfold lX9_move_127
    dsimp only
    rw [if_neg (by rw [o_le (by omega) (by omega)]; omega), ei, if_pos (o_inb (by omega) (by omega)), if_pos (o_inb (by omega) (by omega)), o_tn (by omega), o_tn (by omega), o_s]
    congr 3
    funext c z
    rw [mput_get]
    unfold caM
    by_cases e : c = 154 ∧ z = k
    · rw [if_pos e, if_neg (by omega), if_pos ⟨e.1, by omega⟩, e.2]
    · rw [if_neg e]
      by_cases e2 : c = 154 ∧ z < k
      · rw [if_pos e2, if_pos ⟨e2.1, by omega⟩]
      · rw [if_neg e2, if_neg (by omega)]
  · have v0 : mvM (caM m (24 * s + i) n) (24 * o + j) 0 (fun k => m 153 (24 * s + i + k)) = caM m (24 * s + i) n := by
      funext c k
      unfold mvM
      rw [if_neg (by omega)]
    have st2 := lp_fwd (body := lX9_move_164 (o32 o) (o32 j) (o32 n)) (e := (o32 n, mvM (caM m (24 * s + i) n) (24 * o + j) n (fun k => m 153 (24 * s + i + k)))) n (fun k => (o32 k, mvM (caM m (24 * s + i) n) (24 * o + j) k (fun k => m 153 (24 * s + i + k)))) fu (fun k hk => ?_) ?_ (lt_fu (by omega))
    · rw [v0] at st2
      unfold lX9_move_127
      dsimp only
      rw [if_pos (by rw [o_le (by omega) (by omega)]; omega)]
      show (lp (lX9_move_164 (o32 o) (o32 j) (o32 n)) fu (o32 0, caM m (24 * s + i) n)).map Sum.inr = _
      rw [st2]
      rfl
    · unfold lX9_move_164
      dsimp only
      have rd : mvM (caM m (24 * s + i) n) (24 * o + j) k (fun k => m 153 (24 * s + i + k)) 154 k = m 153 (24 * s + i + k) := by
        unfold mvM caM
        rw [if_neg (by omega), if_pos ⟨rfl, hk⟩]
      rw [if_neg (by rw [o_le (by omega) (by omega)]; omega), if_pos (o_inb (by omega) (by omega)), ei, if_pos (o_inb (by omega) (by omega)), o_tn (by omega), o_tn (by omega), rd, o_s]
      congr 3
      funext c z
      rw [mput_get]
      unfold mvM
      by_cases e : c = 153 ∧ z = 24 * o + j + k
      · rw [if_pos e, if_pos ⟨e.1, by omega, by omega⟩, e.2, show 24 * o + j + k - (24 * o + j) = k by omega]
      · rw [if_neg e]
        by_cases e2 : c = 153 ∧ 24 * o + j ≤ z ∧ z < 24 * o + j + k
        · rw [if_pos e2, if_pos ⟨e2.1, e2.2.1, by omega⟩]
        · rw [if_neg e2, if_neg (by omega)]
    · unfold lX9_move_164
      dsimp only
      rw [if_pos (by rw [o_le (by omega) (by omega)]; omega)]
theorem move_o {mc mr : Mem} (h : RLx mc mr) (x y z u v : Int32) : Sm (fX8_move x y z u v mc) (fX9_move x y z u v mr) := by
  have hh := h
  obtain ⟨_, _, _, hs, _⟩ := h
  unfold fX8_move fX9_move bX8_move_14 bX9_move_14 bX8_move_44 bX9_move_39 bX8_move_106 bX9_move_117
  rcases shb x with ⟨a1, a2⟩ | ⟨s, s1, s2, s3, s4⟩
  · rw [if_pos a1, a2, Option.bind_some, if_pos rfl]
    exact err1 hh
  · rcases shb z with ⟨b1, b2⟩ | ⟨o, o1, o2, o3, o4⟩
    · rw [s3, s4, if_neg one0, Option.bind_some, if_neg one0, if_pos b1, b2, Option.bind_some, if_pos rfl]
      exact err1 hh
    · have is := o_inb s1 (show s < 2147483648 by omega)
      have io := o_inb o1 (show o < 2147483648 by omega)
      have ts : (o32 s).toNatClampNeg = s := o_tn (by omega)
      have to : (o32 o).toNatClampNeg = o := o_tn (by omega)
      obtain ⟨⟨t, t1, t2, t3⟩, ⟨n, n1, n2, n3⟩, q3⟩ := hs s s1
      obtain ⟨⟨t', t1', t2', t3'⟩, ⟨n', n1', n2', n3'⟩, q3'⟩ := hs o o1
      have A2 : mc 129 (o32 s).toNatClampNeg = o32 t := by rw [ts]; exact t2
      have A3 : mr 151 (o32 s).toNatClampNeg = o32 t := by rw [ts]; exact t3
      have B2 : mc 129 (o32 o).toNatClampNeg = o32 t' := by rw [to]; exact t2'
      have B3 : mr 151 (o32 o).toNatClampNeg = o32 t' := by rw [to]; exact t3'
      have N2 : mc 130 (o32 s).toNatClampNeg = o32 n := by rw [ts]; exact n2
      have N3 : mr 152 (o32 s).toNatClampNeg = o32 n := by rw [ts]; exact n3
      have P2 : mc 130 (o32 o).toNatClampNeg = o32 n' := by rw [to]; exact n2'
      have P3 : mr 152 (o32 o).toNatClampNeg = o32 n' := by rw [to]; exact n3'
      rw [s3, s4, if_neg one0, Option.bind_some, if_neg one0, o3, o4, if_neg one0, Option.bind_some, if_neg one0, s2, o2]
      simp only [if_pos is, if_pos io, A2, A3, B2, B3, N2, N3, P2, P3]
      by_cases z1 : o32 t = 0
      · rw [if_pos z1, if_pos z1]
        exact err2 hh
      rw [if_neg z1, if_neg z1]
      by_cases z2 : o32 t' = 0
      · rw [if_pos z2, if_pos z2]
        exact err2 hh
      rw [if_neg z2, if_neg z2]
      by_cases z3 : o32 t = o32 t'
      · rw [if_pos z3, if_pos z3]
        -- the runs
        have hr : ∀ (w : Nat) (k : Nat) (a : Int32), w < 4 → k ≤ 24 → mc 130 (o32 w).toNatClampNeg = o32 k → fX4_isOne (o32 w) = 1 → fX4_haveRun (o32 w) a v mc = some (if a < 0 then 0 else if v < 0 then 0 else if 0 < lg_cmp (a.toInt64 + v.toInt64) ((o32 k).toInt64) then 0 else 1) := fun w k a hw hk hm h1 => by
          unfold fX4_haveRun
          rw [h1, if_neg one0, if_pos (o_inb hw (by omega)), hm]
          (repeat' split) <;> rfl
        rw [hr s n y s1 n1 N2 (by rw [← s2]; exact s3), hr o n' u o1 n1' P2 (by rw [← o2]; exact o3), Option.bind_some, Option.bind_some]
        by_cases v0 : v < 0
        · rw [if_pos v0, if_pos v0]
          have e : (if y < 0 then (0 : Int32) else 0) = 0 := by split <;> rfl
          rw [e, if_pos rfl, if_pos v0]
          exact err1 hh
        · obtain ⟨c, hc, ec⟩ := nn_o v0
          rw [if_neg v0, if_neg v0, if_neg v0]
          by_cases y0 : y < 0
          · rw [if_pos y0, if_pos y0, if_pos rfl]
            exact err1 hh
          · obtain ⟨i, hi, ei⟩ := nn_o y0
            rw [if_neg y0, if_neg y0]
            by_cases u0 : u < 0
            · rw [if_pos u0, if_pos u0, if_pos rfl]
              by_cases c1 : 0 < lg_cmp (y.toInt64 + v.toInt64) ((o32 n).toInt64)
              · rw [if_pos c1, if_pos rfl]
                exact err1 hh
              · rw [if_neg c1, if_neg one0]
                exact err1 hh
            · obtain ⟨j, hj, ej⟩ := nn_o u0
              rw [if_neg u0, if_neg u0]
              by_cases c1 : 0 < lg_cmp (y.toInt64 + v.toInt64) ((o32 n).toInt64)
              · rw [if_pos c1, if_pos c1, if_pos rfl]
                exact err1 hh
              · rw [if_neg c1, if_neg c1, if_neg one0]
                by_cases c2 : 0 < lg_cmp (u.toInt64 + v.toInt64) ((o32 n').toInt64)
                · have c3 : ¬ lg_cmp (u.toInt64 + v.toInt64) ((o32 n').toInt64) ≤ 0 := by
                    rw [Int32.le_iff_toInt_le]
                    rw [Int32.lt_iff_toInt_lt] at c2
                    omega
                  rw [if_pos c2, if_neg c3, if_pos rfl]
                  exact err1 hh
                · have c3 : lg_cmp (u.toInt64 + v.toInt64) ((o32 n').toInt64) ≤ 0 := by
                    rw [Int32.le_iff_toInt_le]
                    rw [Int32.lt_iff_toInt_lt] at c2
                    omega
                  rw [if_neg c2, if_pos c3, if_neg one0]
                  subst ec
                  subst ei
                  subst ej
                  rw [l_cmp hi hc (by omega)] at c1
                  rw [l_cmp hj hc (by omega)] at c2
                  have cp : cpin (o32 i) (o32 j) (o32 c) 24 24 := ⟨o_ge0 hi, o_ge0 hj, o_ge0 hc, by rw [o_tn hi, o_tn hc]; omega, by rw [o_tn hj, o_tn hc]; omega⟩
                  rw [if_pos cp, move_m s1 o1 (by omega) (by omega), ts, to, o_tn hi, o_tn hj, o_tn hc]
                  refine ⟨_, _, _, rfl, rfl, RL_sh hh (fun a b hab => by rw [mcpy_get, if_neg (by omega)]) (fun a b hab => ?_) (fun w hw => ?_)⟩
                  · unfold mvM caM
                    rw [if_neg (by omega), if_neg (by omega)]
                  · obtain ⟨p1, p2, p3⟩ := hs w hw
                    have mo : ∀ a b, a = 151 ∨ a = 152 → mvM (caM mr (24 * s + i) c) (24 * o + j) c (fun k => mr 153 (24 * s + i + k)) a b = mr a b := fun a b hab => by
                      unfold mvM caM
                      rw [if_neg (by omega), if_neg (by omega)]
                    rw [mcpy_get, if_neg (by omega), mcpy_get, if_neg (by omega), mo 151 w (by omega), mo 152 w (by omega)]
                    refine ⟨p1, p2, fun k hk => ?_⟩
                    rw [mcpy_get]
                    unfold mvM caM
                    by_cases e : w = o ∧ j ≤ k ∧ k < j + c
                    · rw [if_pos ⟨by omega, e.2.1, e.2.2⟩, if_pos ⟨rfl, by omega, by omega⟩, q3 _ (by omega)]
                      congr 1
                      omega
                    · rw [if_neg (by omega), if_neg (by omega), if_neg (by omega)]
                      exact p3 k hk
      · rw [if_neg z3, if_neg z3]
        exact err5 hh
