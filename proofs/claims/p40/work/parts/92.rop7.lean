section
/-! MOVES, GASES, CHECK, FIRST, UNTELL -/
theorem l_cmp {i n z : Nat} (hi : i < 2147483648) (hn : n < 2147483648) (hz : z < 2147483648) : (0 < lg_cmp ((o32 i).toInt64 + (o32 n).toInt64) ((o32 z).toInt64)) ↔ z < i + n := by
  rw [lg_cmp_gt, Int64.lt_iff_toInt_lt, Int64.toInt_add, Int32.toInt_toInt64, Int32.toInt_toInt64, Int32.toInt_toInt64, o_ti hi, o_ti hn, o_ti hz, Int.bmod_eq_of_le (by omega) (by omega)]
  omega
theorem nn_o {x : Int32} (h : ¬ x < 0) : ∃ n, n < 2147483648 ∧ x = o32 n := by
  rw [Int32.lt_iff_toInt_lt] at h
  have e0 : (0 : Int32).toInt = 0 := by decide
  have := Int32.toInt_lt x
  exact ⟨x.toInt.toNat, by omega, i_eq (by omega) (by omega)⟩
noncomputable def mvM (m : Mem) (b n : Nat) (g : Nat → Int32) : Mem := fun c j => if c = 153 ∧ b ≤ j ∧ j < b + n then g (j - b) else m c j
noncomputable def caM (m : Mem) (a n : Nat) : Mem := fun c j => if c = 154 ∧ j < n then m 153 (a + j) else m c j
theorem move_m {m : Mem} {s o i j n : Nat} (hs : s < 4) (ho : o < 4) (hi : i + n ≤ 24) (hj : j + n ≤ 24) : lp (lX9_move_127 (o32 s) (o32 i) (o32 o) (o32 j) (o32 n)) fu (0, m) = some (o32 n, mvM (caM m (24 * s + i) n) (24 * o + j) n (fun k => m 153 (24 * s + i + k))) := by
  have ei : ∀ u v w : Nat, (24 : Int32) * o32 u + o32 v + o32 w = o32 (24 * u + v + w) := fun u v w => by
    show o32 24 * o32 u + o32 v + o32 w = _
    rw [o_mul, o_add, o_add]
  have c0 : caM m (24 * s + i) 0 = m := by
    funext c k
    unfold caM
    rw [if_neg (by omega)]
  have st := lp_fwd (body := lX9_move_127 (o32 s) (o32 i) (o32 o) (o32 j) (o32 n)) (e := (o32 n, mvM (caM m (24 * s + i) n) (24 * o + j) n (fun k => m 153 (24 * s + i + k)))) n (fun k => (o32 k, caM m (24 * s + i) k)) fu (fun k hk => ?_) ?_ (lt_fu (by omega))
  · rw [c0] at st
    exact st
  · unfold lX9_move_127
    dsimp only
    rw [if_neg (by rw [o_le (by omega) (by omega)]; omega), ei, if_pos (o_inb (by omega) (by omega)), if_pos (o_inb (by omega) (by omega)), o_tn (by omega), o_tn (by omega), o_s]
    congr 3
    funext c z
    rw [mput_get]
    unfold caM
    by_cases e : c = 154 ∧ z = k
    · rw [if_pos e, if_neg (by omega), if_pos ⟨e.1, by omega⟩, e.2]
    · rw [if_neg e]
      by_cases e2 : c = 154 ∧ z < k
      · rw [if_pos e2, if_pos ⟨e2.1, by omega⟩]
      · rw [if_neg e2, if_neg (by omega)]
  · have v0 : mvM (caM m (24 * s + i) n) (24 * o + j) 0 (fun k => m 153 (24 * s + i + k)) = caM m (24 * s + i) n := by
      funext c k
      unfold mvM
      rw [if_neg (by omega)]
    have st2 := lp_fwd (body := lX9_move_164 (o32 o) (o32 j) (o32 n)) (e := (o32 n, mvM (caM m (24 * s + i) n) (24 * o + j) n (fun k => m 153 (24 * s + i + k)))) n (fun k => (o32 k, mvM (caM m (24 * s + i) n) (24 * o + j) k (fun k => m 153 (24 * s + i + k)))) fu (fun k hk => ?_) ?_ (lt_fu (by omega))
    · rw [v0] at st2
      unfold lX9_move_127
      dsimp only
      rw [if_pos (by rw [o_le (by omega) (by omega)]; omega)]
      show (lp (lX9_move_164 (o32 o) (o32 j) (o32 n)) fu (o32 0, caM m (24 * s + i) n)).map Sum.inr = _
      rw [st2]
      rfl
    · unfold lX9_move_164
      dsimp only
      have rd : mvM (caM m (24 * s + i) n) (24 * o + j) k (fun k => m 153 (24 * s + i + k)) 154 k = m 153 (24 * s + i + k) := by
        unfold mvM caM
        rw [if_neg (by omega), if_pos ⟨rfl, hk⟩]
      rw [if_neg (by rw [o_le (by omega) (by omega)]; omega), if_pos (o_inb (by omega) (by omega)), ei, if_pos (o_inb (by omega) (by omega)), o_tn (by omega), o_tn (by omega), rd, o_s]
      congr 3
      funext c z
      rw [mput_get]
      unfold mvM
      by_cases e : c = 153 ∧ z = 24 * o + j + k
      · rw [if_pos e, if_pos ⟨e.1, by omega, by omega⟩, e.2, show 24 * o + j + k - (24 * o + j) = k by omega]
      · rw [if_neg e]
        by_cases e2 : c = 153 ∧ 24 * o + j ≤ z ∧ z < 24 * o + j + k
        · rw [if_pos e2, if_pos ⟨e2.1, e2.2.1, by omega⟩]
        · rw [if_neg e2, if_neg (by omega)]
    · unfold lX9_move_164
      dsimp only
      rw [if_pos (by rw [o_le (by omega) (by omega)]; omega)]
theorem move_o {mc mr : Mem} (h : RLx mc mr) (x y z u v : Int32) : Sm (fX8_move x y z u v mc) (fX9_move x y z u v mr) := by
  have hh := h
  obtain ⟨_, _, _, hs, _⟩ := h
  unfold fX8_move fX9_move bX8_move_14 bX9_move_14 bX8_move_44 bX9_move_39 bX8_move_106 bX9_move_117
  rcases shb x with ⟨a1, a2⟩ | ⟨s, s1, s2, s3, s4⟩
  · rw [if_pos a1, a2, Option.bind_some, if_pos rfl]
    exact err1 hh
  · rcases shb z with ⟨b1, b2⟩ | ⟨o, o1, o2, o3, o4⟩
    · rw [s3, s4, if_neg one0, Option.bind_some, if_neg one0, if_pos b1, b2, Option.bind_some, if_pos rfl]
      exact err1 hh
    · have is := o_inb s1 (show s < 2147483648 by omega)
      have io := o_inb o1 (show o < 2147483648 by omega)
      have ts : (o32 s).toNatClampNeg = s := o_tn (by omega)
      have to : (o32 o).toNatClampNeg = o := o_tn (by omega)
      obtain ⟨⟨t, t1, t2, t3⟩, ⟨n, n1, n2, n3⟩, q3⟩ := hs s s1
      obtain ⟨⟨t', t1', t2', t3'⟩, ⟨n', n1', n2', n3'⟩, q3'⟩ := hs o o1
      have A2 : mc 129 (o32 s).toNatClampNeg = o32 t := by rw [ts]; exact t2
      have A3 : mr 151 (o32 s).toNatClampNeg = o32 t := by rw [ts]; exact t3
      have B2 : mc 129 (o32 o).toNatClampNeg = o32 t' := by rw [to]; exact t2'
      have B3 : mr 151 (o32 o).toNatClampNeg = o32 t' := by rw [to]; exact t3'
      have N2 : mc 130 (o32 s).toNatClampNeg = o32 n := by rw [ts]; exact n2
      have N3 : mr 152 (o32 s).toNatClampNeg = o32 n := by rw [ts]; exact n3
      have P2 : mc 130 (o32 o).toNatClampNeg = o32 n' := by rw [to]; exact n2'
      have P3 : mr 152 (o32 o).toNatClampNeg = o32 n' := by rw [to]; exact n3'
      rw [s3, s4, if_neg one0, Option.bind_some, if_neg one0, o3, o4, if_neg one0, Option.bind_some, if_neg one0, s2, o2]
      simp only [if_pos is, if_pos io, A2, A3, B2, B3, N2, N3, P2, P3]
      by_cases z1 : o32 t = 0
      · rw [if_pos z1, if_pos z1]
        exact err2 hh
      rw [if_neg z1, if_neg z1]
      by_cases z2 : o32 t' = 0
      · rw [if_pos z2, if_pos z2]
        exact err2 hh
      rw [if_neg z2, if_neg z2]
      by_cases z3 : o32 t = o32 t'
      · rw [if_pos z3, if_pos z3]
        -- the runs
        have hr : ∀ (w : Nat) (k : Nat) (a : Int32), w < 4 → k ≤ 24 → mc 130 (o32 w).toNatClampNeg = o32 k → fX4_isOne (o32 w) = 1 → fX4_haveRun (o32 w) a v mc = some (if a < 0 then 0 else if v < 0 then 0 else if 0 < lg_cmp (a.toInt64 + v.toInt64) ((o32 k).toInt64) then 0 else 1) := fun w k a hw hk hm h1 => by
          unfold fX4_haveRun
          rw [h1, if_neg one0, if_pos (o_inb hw (by omega)), hm]
          (repeat' split) <;> rfl
        rw [hr s n y s1 n1 N2 (by rw [← s2]; exact s3), hr o n' u o1 n1' P2 (by rw [← o2]; exact o3), Option.bind_some, Option.bind_some]
        by_cases v0 : v < 0
        · rw [if_pos v0, if_pos v0]
          have e : (if y < 0 then (0 : Int32) else 0) = 0 := by split <;> rfl
          rw [e, if_pos rfl, if_pos v0]
          exact err1 hh
        · obtain ⟨c, hc, ec⟩ := nn_o v0
          rw [if_neg v0, if_neg v0, if_neg v0]
          by_cases y0 : y < 0
          · rw [if_pos y0, if_pos y0, if_pos rfl]
            exact err1 hh
          · obtain ⟨i, hi, ei⟩ := nn_o y0
            rw [if_neg y0, if_neg y0]
            by_cases u0 : u < 0
            · rw [if_pos u0, if_pos u0, if_pos rfl]
              by_cases c1 : 0 < lg_cmp (y.toInt64 + v.toInt64) ((o32 n).toInt64)
              · rw [if_pos c1, if_pos rfl]
                exact err1 hh
              · rw [if_neg c1, if_neg one0]
                exact err1 hh
            · obtain ⟨j, hj, ej⟩ := nn_o u0
              rw [if_neg u0, if_neg u0]
              by_cases c1 : 0 < lg_cmp (y.toInt64 + v.toInt64) ((o32 n).toInt64)
              · rw [if_pos c1, if_pos c1, if_pos rfl]
                exact err1 hh
              · rw [if_neg c1, if_neg c1, if_neg one0]
                by_cases c2 : 0 < lg_cmp (u.toInt64 + v.toInt64) ((o32 n').toInt64)
                · have c3 : ¬ lg_cmp (u.toInt64 + v.toInt64) ((o32 n').toInt64) ≤ 0 := by
                    rw [Int32.le_iff_toInt_le]
                    rw [Int32.lt_iff_toInt_lt] at c2
                    omega
                  rw [if_pos c2, if_neg c3, if_pos rfl]
                  exact err1 hh
                · have c3 : lg_cmp (u.toInt64 + v.toInt64) ((o32 n').toInt64) ≤ 0 := by
                    rw [Int32.le_iff_toInt_le]
                    rw [Int32.lt_iff_toInt_lt] at c2
                    omega
                  rw [if_neg c2, if_pos c3, if_neg one0]
                  subst ec
                  subst ei
                  subst ej
                  rw [l_cmp hi hc (by omega)] at c1
                  rw [l_cmp hj hc (by omega)] at c2
                  have cp : cpin (o32 i) (o32 j) (o32 c) 24 24 := ⟨o_ge0 hi, o_ge0 hj, o_ge0 hc, by rw [o_tn hi, o_tn hc]; omega, by rw [o_tn hj, o_tn hc]; omega⟩
                  rw [if_pos cp, move_m s1 o1 (by omega) (by omega), ts, to, o_tn hi, o_tn hj, o_tn hc]
                  refine ⟨_, _, _, rfl, rfl, RL_sh hh (fun a b hab => by rw [mcpy_get, if_neg (by omega)]) (fun a b hab => ?_) (fun w hw => ?_)⟩
                  · unfold mvM caM
                    rw [if_neg (by omega), if_neg (by omega)]
                  · obtain ⟨p1, p2, p3⟩ := hs w hw
                    have mo : ∀ a b, a = 151 ∨ a = 152 → mvM (caM mr (24 * s + i) c) (24 * o + j) c (fun k => mr 153 (24 * s + i + k)) a b = mr a b := fun a b hab => by
                      unfold mvM caM
                      rw [if_neg (by omega), if_neg (by omega)]
                    rw [mcpy_get, if_neg (by omega), mcpy_get, if_neg (by omega), mo 151 w (by omega), mo 152 w (by omega)]
                    refine ⟨p1, p2, fun k hk => ?_⟩
                    rw [mcpy_get]
                    unfold mvM caM
                    by_cases e : w = o ∧ j ≤ k ∧ k < j + c
                    · rw [if_pos ⟨by omega, e.2.1, e.2.2⟩, if_pos ⟨rfl, by omega, by omega⟩, q3 _ (by omega)]
                      congr 1
                      omega
                    · rw [if_neg (by omega), if_neg (by omega), if_neg (by omega)]
                      exact p3 k hk
      · rw [if_neg z3, if_neg z3]
        exact err5 hh
end
section
/-! GASES, CHECK, FIRST, UNTELL -/
theorem gases_o {mc mr : Mem} (h : RLx mc mr) (x : Int32) : Sm (fX8_gases x mc) (fX9_gases x mr) := by
  have hh := h
  obtain ⟨⟨r, al, f, q, w⟩, _, _, hs, _⟩ := h
  unfold fX8_gases fX9_gases
  rcases shb x with ⟨a1, a2⟩ | ⟨s, s1, s2, s3, s4⟩
  · rw [if_pos a1, a2, Option.bind_some, if_pos rfl]
    exact err1 hh
  · have is := o_inb s1 (show s < 2147483648 by omega)
    have ts : (o32 s).toNatClampNeg = s := o_tn (by omega)
    obtain ⟨⟨t, t1, t2, t3⟩, ⟨n, n1, n2, n3⟩, q3⟩ := hs s s1
    have A2 : mc 129 (o32 s).toNatClampNeg = o32 t := by rw [ts]; exact t2
    have A3 : mr 151 (o32 s).toNatClampNeg = o32 t := by rw [ts]; exact t3
    rw [s3, s4, if_neg one0, Option.bind_some, if_neg one0, s2, if_pos is, if_pos is, A2, A3]
    by_cases z1 : o32 t = 0
    · rw [if_pos z1, if_pos z1]
      exact err2 hh
    rw [if_neg z1, if_neg z1]
    apply Sm_of
    refine lp_twi (bs := lX8_gases_35 (o32 s)) (bt := lX9_gases_34 (o32 s)) (fun a b => ∃ i k f', i ≤ 16 ∧ k ≤ n ∧ a.1 = o32 k ∧ a.2.1 = o32 i ∧ b.1 = o32 k ∧ b.2.1 = o32 i ∧ WS 0 a.2.2 (b.2.2 138) r al f' q ∧ (∀ c j, c ≠ cw 0 4 → a.2.2 c j = mc c j) ∧ ∀ c j, c ≠ 138 → b.2.2 c j = mr c j) (fun a => 16 - a.2.1.toNatClampNeg) (fun e g => e.1 = g.1 ∧ RLx e.2 g.2) (fun a b hJ => ?_) fu fu (0, 0, mc) (0, 0, mr) ⟨0, 0, f, by omega, by omega, rfl, rfl, rfl, rfl, w, fun _ _ _ => rfl, fun _ _ _ => rfl⟩ (lt_fu (by show 16 - _ < _; omega)) (lt_fu (by show 16 - _ < _; omega))
    obtain ⟨i, k, f', i16, kn, j1, j2, j3, j4, j5, j6, j7⟩ := hJ
    have R : RLx a.2.2 b.2.2 := RL_k hh ⟨r, al, f', q, j5⟩ (fun c j hc => j6 c j (by unfold cw; omega)) (fun c j hc => j7 c j (by omega))
    have N2 : a.2.2 130 (o32 s).toNatClampNeg = o32 n := by rw [ts, j6 _ _ (by unfold cw; omega)]; exact n2
    have N3 : b.2.2 152 (o32 s).toNatClampNeg = o32 n := by rw [ts, j7 _ _ (by omega)]; exact n3
    unfold lX8_gases_35 lX9_gases_34
    rw [j1, j2, j3, j4, N2, N3]
    by_cases i6 : i = 16
    · right
      rw [if_pos (by rw [i6]; decide), if_pos (by rw [i6]; decide)]
      exact ⟨_, _, rfl, rfl, rfl, R⟩
    have hi : i < 16 := by omega
    rw [if_neg (not_16 hi), if_neg (not_16 hi)]
    simp only [if_pos is]
    by_cases kn2 : k = n
    · right
      rw [if_pos (by rw [o_le (by omega) (by omega)]; omega), if_pos (by rw [o_le (by omega) (by omega)]; omega)]
      exact ⟨_, _, rfl, rfl, rfl, R⟩
    have nk : ¬ o32 n ≤ o32 k := by rw [o_le (by omega) (by omega)]; omega
    have dec : 16 - (o32 (i + 1)).toNatClampNeg < 16 - (o32 i).toNatClampNeg := by rw [o_tn (by omega), o_tn (by omega)]; omega
    rw [if_neg nk, if_neg nk, has_c (WS_4 j5) hi, is_s hi (WS_3 j5), Option.bind_some, o_s]
    cases ai : al i with
    | false =>
      left
      rw [if_pos (show i01 false = 0 from rfl), if_pos (show i01 false = 0 from rfl)]
      exact ⟨_, _, rfl, rfl, ⟨i + 1, k, f', by omega, kn, rfl, rfl, rfl, rfl, j5, j6, j7⟩, dec⟩
    | true =>
      have ei : (24 : Int32) * o32 s + o32 k = o32 (24 * s + k) := by
        show o32 24 * o32 s + o32 k = _
        rw [o_mul, o_add]
      have V : b.2.2 153 (o32 (24 * s + k)).toNatClampNeg = a.2.2 (132 + (o32 s).toNatClampNeg) (o32 k).toNatClampNeg := by
        rw [o_tn (by omega), ts, o_tn (by omega), j7 _ _ (by omega), j6 _ _ (by unfold cw; omega)]
        exact (q3 k (by omega)).symm
      rw [if_neg (show ¬ i01 true = 0 by decide), if_neg (show ¬ i01 true = 0 by decide), if_pos (o_inb (show k < 24 by omega) (by omega)), ei, if_pos (o_inb (show 24 * s + k < 96 by omega) (by omega)), V, wi_eq]
      generalize a.2.2 (132 + (o32 s).toNatClampNeg) (o32 k).toNatClampNeg = v
      rcases win (l := 0) (h := 99999) (by omega) (by omega) v with z | ⟨p, _, p2, p3, p4⟩
      · right
        rw [if_pos (show fX9_within v 0 99999 = 0 from z), if_pos (show fX9_within v 0 99999 = 0 from z)]
        exact ⟨_, _, rfl, rfl, rfl, R⟩
      · left
        have z : ¬ fX9_within v 0 99999 = 0 := by rw [show fX9_within v 0 99999 = 1 from p4]; exact one0
        have W2 := WS_fld (v := p) j5 hi (by omega) (show 2 ≤ 4 by omega) p2
        rw [if_neg z, if_neg z, if_pos (o_inb hi (by omega)), show fX9_tells (o32 i) 2 v b.2.2 = _ from tl_o (f := 2) hi (by omega), Option.bind_some, o_tn (show i < 2147483648 by omega), o_s, p3]
        refine ⟨_, _, rfl, rfl, ⟨i + 1, k + 1, _, by omega, by omega, rfl, rfl, rfl, rfl, W2, fun c j hc => ?_, fun c j hc => ?_⟩, ?_⟩
        · dsimp only
          rw [mput_c _ _ _ hc]
          exact j6 c j hc
        · dsimp only
          rw [mput_c _ _ _ hc]
          exact j7 c j hc
        · dsimp only
          rw [o_tn (show i + 1 < 2147483648 by omega)]
          omega
theorem check_o {mc mr : Mem} (h : RLx mc mr) (x : Int32) : Sm (fX8_check x mc) (fX9_check x mr) := by
  have hh := h
  obtain ⟨⟨r, al, f, q, w⟩, _⟩ := h
  obtain ⟨t1, t2, ⟨n, n1, n2, n3⟩, t4⟩ := WS_8 w
  have W2 : WS 0 (mput mc (cw 0 1) 5 0) (mput mr 138 2 0 138) r al f q := by
    refine WS_tp w (fun o j ho h1 h2 h3 => ?_) (fun j h1 h2 h3 => ?_) ⟨?_, fun i hi => ?_, ⟨0, by omega, ?_, ?_⟩, fun i hi => ?_⟩
    · rw [mput_get, if_neg (fun z => h1 ⟨cw_inj z.1, .inr z.2⟩)]
    · rw [mput_get, if_neg (by omega)]
    · rw [mput_get, if_neg (by omega), mput_j _ _ _ _ (by omega)]
      exact t1
    · rw [mput_get, if_neg (by omega), mput_c _ _ _ (cw_ne (by omega))]
      exact t2 i hi
    · rw [mput_at]; rfl
    · rw [mput_at]; rfl
    · rw [mput_get, if_neg (by omega), mput_c _ _ _ (cw_ne (by omega))]
      exact t4 i hi
  have R2 : RLx (mput mc (cw 0 1) 5 0) (mput mr 138 2 0) := RL_k hh ⟨r, al, f, q, W2⟩ (CK_CF (CF_put (by omega) (by omega))) (MK_MF (MF_put (by omega)))
  have tp := (WS_8 W2).2.2.2
  unfold fX8_check fX9_check
  rw [n2, n3]
  generalize mput mc (cw 0 1) 5 0 = m1 at *
  generalize mput mr 138 2 0 = mr1 at *
  rcases isb W2 x with ⟨a1, a2⟩ | ⟨a, a1, a2, a3, a4, a5⟩
  · rw [if_pos a1, a2, Option.bind_some, if_pos rfl]
    exact err1 R2
  · have ga := CS_g (WS_4 W2) a1 a3
    have Ra := ((WS_3 W2) a a1).2 a3
    have la := ga.1
    rw [a4, a5, if_neg one0, Option.bind_some, if_neg one0, a2, if_pos (o_inb a1 (by omega)), sd_c W2 a1 a3, leastIn_s a1 Ra, Option.bind_some]
    apply Sm_of
    refine lp_twi (bs := lX8_check_52 (o32 a) (o32 n) (o32 (r a).length) m1) (bt := lX9_check_38 (o32 a) (o32 n) (o32 (lsI (r a) ((r a).length - 1))) mr1) (fun s t => ∃ i, i ≤ n ∧ i ≤ (r a).length ∧ s = o32 i ∧ t = o32 i) (fun s => 100 - s.toNatClampNeg) (fun e g => e.1 = g.1 ∧ RLx e.2 g.2) (fun s t hJ => ?_) fu fu 0 0 ⟨0, by omega, by omega, rfl, rfl⟩ (lt_fu (by show 100 - _ < _; omega)) (lt_fu (by show 100 - _ < _; omega))
    obtain ⟨i, i1, i2, rfl, rfl⟩ := hJ
    have ex : ∃ e g, ((bX8_check_96 (o32 n) (o32 (r a).length) (o32 i) m1).map (Sum.inr : Int32 × Mem → Int32 ⊕ (Int32 × Mem))) = some (.inr e) ∧ ((bX9_check_83 (o32 a) (o32 n) (o32 i) mr1).map (Sum.inr : Int32 × Mem → Int32 ⊕ (Int32 × Mem))) = some (.inr g) ∧ e.1 = g.1 ∧ RLx e.2 g.2 := by
      unfold bX8_check_96 bX9_check_83
      rw [sd_m W2 a1 a3, Option.bind_some]
      by_cases c1 : o32 i = o32 n
      · rw [if_pos c1, if_pos c1]
        by_cases c2 : o32 i = o32 (r a).length
        · rw [if_pos c2, if_pos c2]
          exact ⟨_, _, rfl, rfl, rfl, R2⟩
        · rw [if_neg c2, if_neg c2]
          exact ⟨_, _, rfl, rfl, rfl, R2⟩
      · rw [if_neg c1, if_neg c1]
        exact ⟨_, _, rfl, rfl, rfl, R2⟩
    unfold lX8_check_52 lX9_check_38
    rw [sd_m W2 a1 a3, Option.bind_some]
    by_cases c1 : i = n
    · right
      rw [if_pos (by rw [o_le (by omega) (by omega)]; omega), if_pos (by rw [o_le (by omega) (by omega)]; omega)]
      exact ex
    have d1 : ¬ o32 n ≤ o32 i := by rw [o_le (by omega) (by omega)]; omega
    rw [if_neg d1, if_neg d1]
    by_cases c2 : i = (r a).length
    · right
      have d2 : o32 (r a).length ≤ o32 i := by rw [o_le (by omega) (by omega)]; omega
      rw [if_pos d2, if_pos d2]
      exact ex
    have d2 : ¬ o32 (r a).length ≤ o32 i := by rw [o_le (by omega) (by omega)]; omega
    rw [if_neg d2, if_neg d2, if_pos (o_inb (show i < 24 by omega) (by omega)), toldAt_c a1 ga (by omega) (by omega), Option.bind_some, show (872 : Int32) + o32 i = o32 (872 + i) from o_add 872 i, if_pos (o_inb (show 872 + i < 1082 by omega) (by omega)), told_m2 a1 Ra (by omega) (by omega), Option.bind_some, o_tn (show i < 2147483648 by omega), o_tn (show 872 + i < 2147483648 by omega), tp i (by omega)]
    by_cases c3 : m1 (cw 0 37) i = o32 (tolD (r a) i)
    · left
      rw [if_pos c3, if_pos c3, o_s]
      exact ⟨_, _, rfl, rfl, ⟨i + 1, by omega, by omega, rfl, rfl⟩, by rw [o_tn (show i + 1 < 2147483648 by omega)]; omega⟩
    · right
      rw [if_neg c3, if_neg c3]
      exact ex
/-- a TEXT changed alike -/
theorem WS_txt {k u : Nat} {m m' mr mr' : Mem} {r : Nat → List Nat} {al : Nat → Bool} {f : Nat → Nat → Nat} {q : Nat → List Nat} {l : List Nat} (h : WS k m (mr 138) r al f q) (hu : u < 3) (e : ∀ o j, rc k (cw k o) → o ≠ 27 + 3 * u → o ≠ 28 + 3 * u → m' (cw k o) j = m (cw k o) j) (e2 : ∀ j, ¬ (896 + 62 * u ≤ j ∧ j < 896 + 62 * u + 62) → mr' 138 j = mr 138 j) (t : TR k m' (mr' 138) u l) : WS k m' (mr' 138) r al f (fun v => if v = u then l else q v) := by
  obtain ⟨a1, a2, a3, a4, a5, a6, a7, a8⟩ := h
  have ee : ∀ o j, ((1 ≤ o ∧ o ≤ 7) ∨ (9 ≤ o ∧ o ≤ 24) ∨ o = 36 ∨ o = 37) → m' (cw k o) j = m (cw k o) j := fun o j ho => e o j ⟨o, rfl, by omega⟩ (by omega) (by omega)
  refine ⟨a1, a2, RS_w a3 (fun b hb g hg => e2 _ (by omega)), CS_same a4 (fun c z hc => ?_), FR_same a5 (fun o z h1 h2 => ee o z (by omega)) (fun z h1 h2 => e2 z (by omega)), fun v hv => ?_, SC_same a7 (fun o z ho => ee o z (by omega)) (fun z h1 h2 h3 => e2 z (by omega)), ?_⟩
  · rcases hc with hc | hc | ⟨x, hx, hc⟩
    · rw [hc.1]; exact ee 2 z (by omega)
    · rw [hc]; exact ee 7 z (by omega)
    · rw [hc]; exact ee (9 + x) z (by omega)
  · dsimp only
    by_cases ev : v = u
    · subst ev
      rw [if_pos rfl]
      exact t
    · rw [if_neg ev]
      obtain ⟨h1, h2, h3, h4, h5, h6⟩ := a6 v hv
      refine ⟨h1, h2, h3, by rw [e2 _ (by omega)]; exact h4, by rw [e _ _ ⟨_, rfl, by omega⟩ (by omega) (by omega)]; exact h5, fun i hi => ?_⟩
      rw [e2 _ (by omega), e _ _ ⟨_, rfl, by omega⟩ (by omega) (by omega)]
      exact h6 i hi
  · obtain ⟨h1, h2, h3, h4⟩ := a8
    refine ⟨?_, fun i hi => ?_, ?_, fun i hi => ?_⟩
    · rw [e2 1 (by omega), ee 1 3 (by omega)]; exact h1
    · rw [e2 _ (by omega), ee 36 i (by omega)]; exact h2 i hi
    · rw [e2 2 (by omega), ee 1 5 (by omega)]; exact h3
    · rw [e2 _ (by omega), ee 37 i (by omega)]; exact h4 i hi
end
section
/-! UNTELL, FIRST, COUNT -/
theorem untell_o {mc mr : Mem} (h : RLx mc mr) (x : Int32) : Sm (fX8_untell x mc) (fX9_untell x mr) := by
  have hh := h
  obtain ⟨⟨r, al, f, q, w⟩, _⟩ := h
  unfold fX8_untell fX9_untell bX8_untell_37
  rw [wi_eq]
  rcases win (l := 0) (h := 2) (by omega) (by omega) x with z | ⟨u, _, u2, u3, u4⟩
  · rw [if_pos (show fX9_within x 0 2 = 0 from z), if_pos (show fX9_within x 0 2 = 0 from z)]
    exact err1 hh
  · have z : ¬ fX9_within x 0 2 = 0 := by rw [show fX9_within x 0 2 = 1 from u4]; exact one0
    have T := WS_6 w u (by omega)
    have l60 := T.1
    rw [if_neg z, if_neg z, u3, if_pos (o_inb (by omega) (by omega)), o_tn (by omega), told_c T, show (896 : Int32) + 62 * o32 u = o32 (896 + 62 * u) by
      show o32 896 + o32 62 * o32 u = _
      rw [o_mul, o_add], comes_op (by omega), Option.bind_some, T.2.2.2.1]
    have W2 : WS 0 (mput mc (cw 0 (27 + 3 * u)) 0 0) (mput mr 138 (896 + 62 * u) 0 138) r al f (fun v => if v = u then [] else q v) := by
      refine WS_txt w (by omega) (fun o j ho h1 h2 => by rw [mput_c _ _ _ (cw_ne h1)]) (fun j hj => by rw [mput_get, if_neg (by omega)]) ⟨by decide, fun t ht => (List.not_mem_nil ht).elim, fun z => absurd rfl z, ?_, ?_, fun i hi => absurd hi (by simp)⟩
      · rw [mput_at]; rfl
      · rw [mput_at]; rfl
    have R2 : RLx (mput mc (cw 0 (27 + 3 * u)) 0 0) (mput mr 138 (896 + 62 * u) 0) := RL_k hh ⟨r, al, f, _, W2⟩ (CK_CF (CF_put (by omega) (by omega))) (MK_MF (MF_put (by omega)))
    by_cases e : q u = []
    · rw [if_pos e, if_pos rfl, e]
      exact ⟨_, _, _, rfl, rfl, R2⟩
    · have : 0 < (q u).length := List.length_pos_iff.mpr e
      dsimp only
      rw [if_neg e, if_neg one0, if_neg (by rw [show (0 : Int32) = o32 0 from rfl, o_le (by omega) (by omega)]; omega)]
      exact ⟨_, _, _, rfl, rfl, R2⟩
theorem neg_le {a b : Nat} (ha : a < 2147483648) (hb : b < 2147483648) : ((-1 : Int32) * o32 a ≤ (-1) * o32 b) ↔ o32 b ≤ o32 a := by
  have e : ∀ n, n < 2147483648 → ((-1 : Int32) * o32 n).toInt = -(n : Int) := fun n hn => by
    rw [Int32.toInt_mul, o_ti hn, show (-1 : Int32).toInt = -1 by decide, Int.bmod_eq_of_le (by omega) (by omega)]
    omega
  rw [Int32.le_iff_toInt_le, Int32.le_iff_toInt_le, e a ha, e b hb, o_ti ha, o_ti hb]
  omega
theorem one_mul32 (x : Int32) : 1 * x = x := Int32.one_mul x
theorem first_lp {mc mr : Mem} (hh : RLx mc mr) {r : Nat → List Nat} {al : Nat → Bool} {f : Nat → Nat → Nat} {q : Nat → List Nat} (w : WS 0 mc (mr 138) r al f q) {g : Nat → Nat} {sg : Int32} {z3 : Int32} (y0 : Nat) (hy : y0 < 50) (hz : (z3 = 1 ∧ sg = 1) ∨ (z3 = 0 ∧ sg = -1)) (hg : ∀ b, b < 16 → al b = true → g b < 2147483648 ∧ mc (cw 0 7) (o32 b).toNatClampNeg = o32 (g b) ∧ mr 138 (12 + 50 * b + y0) = o32 (g b)) : Sm (lp (lX8_first_62 z3 mc) fu (-1, 0)) (lp (lX9_first_45 (o32 y0) sg mr) fu (-1, 0)) := by
  apply Sm_of
  refine lp_two (bs := lX8_first_62 z3 mc) (bt := lX9_first_45 (o32 y0) sg mr) (fun i s t => s.2 = o32 i ∧ t.2 = o32 i ∧ s.1 = t.1 ∧ (s.1 = -1 ∨ ∃ b, b < 16 ∧ al b = true ∧ s.1 = o32 b)) (fun e g => e.1 = g.1 ∧ RLx e.2 g.2) 16 0 (-1, 0) (-1, 0) fu fu ⟨rfl, rfl, rfl, .inl rfl⟩ (fun i s t _ hi hJ => ?_) (fun s t hJ => ?_) (lt_fu (by omega)) (lt_fu (by omega))
  · obtain ⟨j1, j2, j3, j4⟩ := hJ
    have hi : i < 16 := by omega
    unfold lX8_first_62 lX9_first_45
    rw [← j3, j1, j2, if_neg (not_16 hi), if_neg (not_16 hi), has_c (WS_4 w) hi, is_s hi (WS_3 w), Option.bind_some, o_s]
    cases ai : al i with
    | false =>
      rw [if_pos (show i01 false = 0 from rfl), if_pos (show i01 false = 0 from rfl)]
      exact ⟨_, _, rfl, rfl, rfl, rfl, rfl, j4⟩
    | true =>
      rw [if_neg (show ¬ i01 true = 0 by decide), if_neg (show ¬ i01 true = 0 by decide)]
      rcases j4 with j4 | ⟨b, b1, b2, b3⟩
      · rw [j4, if_pos (show (-1 : Int32) < 0 by decide), if_pos (show (-1 : Int32) < 0 by decide)]
        exact ⟨_, _, rfl, rfl, rfl, rfl, rfl, .inr ⟨i, hi, ai, rfl⟩⟩
      · obtain ⟨g1, g2, g3⟩ := hg i hi ai
        obtain ⟨p1, p2, p3⟩ := hg b b1 b2
        rw [b3, if_neg (not_lt0 (by omega)), if_neg (not_lt0 (by omega)), of_o hi hy, of_o b1 hy, Option.bind_some, Option.bind_some, g2, p2, g3, p3]
        simp only [if_pos (o_inb hi (show i < 2147483648 by omega)), if_pos (o_inb b1 (show b < 2147483648 by omega))]
        rcases hz with ⟨hz, hs⟩ | ⟨hz, hs⟩
        · rw [hz, hs, if_neg one0, one_mul32, one_mul32]
          by_cases c : o32 (g i) ≤ o32 (g b)
          · rw [if_pos c]
            exact ⟨_, _, rfl, rfl, rfl, rfl, rfl, .inr ⟨b, b1, b2, rfl⟩⟩
          · rw [if_neg c]
            exact ⟨_, _, rfl, rfl, rfl, rfl, rfl, .inr ⟨i, hi, ai, rfl⟩⟩
        · rw [hz, hs, if_pos rfl]
          by_cases c : o32 (g b) ≤ o32 (g i)
          · rw [if_pos c, if_pos ((neg_le g1 p1).mpr c)]
            exact ⟨_, _, rfl, rfl, rfl, rfl, rfl, .inr ⟨b, b1, b2, rfl⟩⟩
          · rw [if_neg c, if_neg (fun q => c ((neg_le g1 p1).mp q))]
            exact ⟨_, _, rfl, rfl, rfl, rfl, rfl, .inr ⟨i, hi, ai, rfl⟩⟩
  · obtain ⟨j1, j2, j3, j4⟩ := hJ
    unfold lX8_first_62 lX9_first_45
    rw [← j3, j1, j2, if_pos (show (16 : Int32) ≤ o32 (0 + 16) by decide), if_pos (show (16 : Int32) ≤ o32 (0 + 16) by decide)]
    rcases j4 with j4 | ⟨b, b1, b2, b3⟩
    · obtain ⟨v, m1, mr1, e1, e2, e3⟩ := err2 hh
      rw [j4, if_neg (show ¬ (0 : Int32) ≤ -1 by decide), if_neg (show ¬ (0 : Int32) ≤ -1 by decide)]
      cases k1 : fX8_no 2 mc with
      | none => rw [k1] at e1; cases e1
      | some p1 =>
        cases k2 : fX9_finding (-1000002) mr with
        | none => rw [k2] at e2; cases e2
        | some p2 =>
          rw [k1] at e1
          rw [k2] at e2
          have q1 : (p1.1, p1.2) = (v, m1) := Option.some.inj e1
          have q2 : (p2.1, p2.2) = (v, mr1) := Option.some.inj e2
          refine ⟨_, _, rfl, rfl, ?_, ?_⟩
          · exact (congrArg Prod.fst q1).trans (congrArg Prod.fst q2).symm
          · rw [show p1.2 = m1 from congrArg Prod.snd q1, show p2.2 = mr1 from congrArg Prod.snd q2]
            exact e3
    · rw [b3, if_pos (o_ge0 (by omega)), if_pos (o_ge0 (by omega))]
      exact ⟨_, _, rfl, rfl, rfl, hh⟩
theorem firsta_lp {mc mr : Mem} (hh : RLx mc mr) {r : Nat → List Nat} {al : Nat → Bool} {f : Nat → Nat → Nat} {q : Nat → List Nat} (w : WS 0 mc (mr 138) r al f q) {g : Nat → Nat} {sg : Int32} {z3 : Int32} (y0 : Nat) (hy : y0 < 50) (hz : (z3 = 1 ∧ sg = 1) ∨ (z3 = 0 ∧ sg = -1)) (hg : ∀ b, b < 16 → al b = true → g b < 2147483648 ∧ mc (cw 0 4) (o32 b).toNatClampNeg = o32 (g b) ∧ mr 138 (12 + 50 * b + y0) = o32 (g b)) : Sm (lp (lX8_first_62a z3 mc) fu (-1, 0)) (lp (lX9_first_45 (o32 y0) sg mr) fu (-1, 0)) := by
  apply Sm_of
  refine lp_two (bs := lX8_first_62a z3 mc) (bt := lX9_first_45 (o32 y0) sg mr) (fun i s t => s.2 = o32 i ∧ t.2 = o32 i ∧ s.1 = t.1 ∧ (s.1 = -1 ∨ ∃ b, b < 16 ∧ al b = true ∧ s.1 = o32 b)) (fun e g => e.1 = g.1 ∧ RLx e.2 g.2) 16 0 (-1, 0) (-1, 0) fu fu ⟨rfl, rfl, rfl, .inl rfl⟩ (fun i s t _ hi hJ => ?_) (fun s t hJ => ?_) (lt_fu (by omega)) (lt_fu (by omega))
  · obtain ⟨j1, j2, j3, j4⟩ := hJ
    have hi : i < 16 := by omega
    unfold lX8_first_62a lX9_first_45
    rw [← j3, j1, j2, if_neg (not_16 hi), if_neg (not_16 hi), has_c (WS_4 w) hi, is_s hi (WS_3 w), Option.bind_some, o_s]
    cases ai : al i with
    | false =>
      rw [if_pos (show i01 false = 0 from rfl), if_pos (show i01 false = 0 from rfl)]
      exact ⟨_, _, rfl, rfl, rfl, rfl, rfl, j4⟩
    | true =>
      rw [if_neg (show ¬ i01 true = 0 by decide), if_neg (show ¬ i01 true = 0 by decide)]
      rcases j4 with j4 | ⟨b, b1, b2, b3⟩
      · rw [j4, if_pos (show (-1 : Int32) < 0 by decide), if_pos (show (-1 : Int32) < 0 by decide)]
        exact ⟨_, _, rfl, rfl, rfl, rfl, rfl, .inr ⟨i, hi, ai, rfl⟩⟩
      · obtain ⟨g1, g2, g3⟩ := hg i hi ai
        obtain ⟨p1, p2, p3⟩ := hg b b1 b2
        rw [b3, if_neg (not_lt0 (by omega)), if_neg (not_lt0 (by omega)), of_o hi hy, of_o b1 hy, Option.bind_some, Option.bind_some, g2, p2, g3, p3]
        simp only [if_pos (o_inb hi (show i < 2147483648 by omega)), if_pos (o_inb b1 (show b < 2147483648 by omega))]
        rcases hz with ⟨hz, hs⟩ | ⟨hz, hs⟩
        · rw [hz, hs, if_neg one0, one_mul32, one_mul32]
          by_cases c : o32 (g i) ≤ o32 (g b)
          · rw [if_pos c]
            exact ⟨_, _, rfl, rfl, rfl, rfl, rfl, .inr ⟨b, b1, b2, rfl⟩⟩
          · rw [if_neg c]
            exact ⟨_, _, rfl, rfl, rfl, rfl, rfl, .inr ⟨i, hi, ai, rfl⟩⟩
        · rw [hz, hs, if_pos rfl]
          by_cases c : o32 (g b) ≤ o32 (g i)
          · rw [if_pos c, if_pos ((neg_le g1 p1).mpr c)]
            exact ⟨_, _, rfl, rfl, rfl, rfl, rfl, .inr ⟨b, b1, b2, rfl⟩⟩
          · rw [if_neg c, if_neg (fun q => c ((neg_le g1 p1).mp q))]
            exact ⟨_, _, rfl, rfl, rfl, rfl, rfl, .inr ⟨i, hi, ai, rfl⟩⟩
  · obtain ⟨j1, j2, j3, j4⟩ := hJ
    unfold lX8_first_62a lX9_first_45
    rw [← j3, j1, j2, if_pos (show (16 : Int32) ≤ o32 (0 + 16) by decide), if_pos (show (16 : Int32) ≤ o32 (0 + 16) by decide)]
    rcases j4 with j4 | ⟨b, b1, b2, b3⟩
    · obtain ⟨v, m1, mr1, e1, e2, e3⟩ := err2 hh
      rw [j4, if_neg (show ¬ (0 : Int32) ≤ -1 by decide), if_neg (show ¬ (0 : Int32) ≤ -1 by decide)]
      cases k1 : fX8_no 2 mc with
      | none => rw [k1] at e1; cases e1
      | some p1 =>
        cases k2 : fX9_finding (-1000002) mr with
        | none => rw [k2] at e2; cases e2
        | some p2 =>
          rw [k1] at e1
          rw [k2] at e2
          have q1 : (p1.1, p1.2) = (v, m1) := Option.some.inj e1
          have q2 : (p2.1, p2.2) = (v, mr1) := Option.some.inj e2
          refine ⟨_, _, rfl, rfl, ?_, ?_⟩
          · exact (congrArg Prod.fst q1).trans (congrArg Prod.fst q2).symm
          · rw [show p1.2 = m1 from congrArg Prod.snd q1, show p2.2 = mr1 from congrArg Prod.snd q2]
            exact e3
    · rw [b3, if_pos (o_ge0 (by omega)), if_pos (o_ge0 (by omega))]
      exact ⟨_, _, rfl, rfl, rfl, hh⟩
theorem first_o {mc mr : Mem} (h : RLx mc mr) (x : Int32) : Sm (fX8_first x mc) (fX9_first x mr) := by
  have hh := h
  obtain ⟨⟨r, al, f, q, w⟩, _⟩ := h
  have gS : ∀ b, b < 16 → al b = true → (r b).length < 2147483648 ∧ mc (cw 0 7) (o32 b).toNatClampNeg = o32 (r b).length ∧ mr 138 (12 + 50 * b + 5) = o32 (r b).length := fun b hb ab => ⟨by have := (CS_g (WS_4 w) hb ab).1; omega, sd_c w hb ab, ((WS_3 w b hb).2 ab).2.1⟩
  have gG : ∀ b, b < 16 → al b = true → f b 2 < 2147483648 ∧ mc (cw 0 4) (o32 b).toNatClampNeg = o32 (f b 2) ∧ mr 138 (12 + 50 * b + 2) = o32 (f b 2) := fun b hb ab => by
    have k := WS_5 w b hb ab 2 (by omega) (by omega)
    have : f b 2 ≤ 99999 := k.2.2
    exact ⟨by omega, fd_c w hb ab 2 (by omega) (by omega), k.1⟩
  unfold fX8_first fX9_first bX8_first_43 bX8_first_43a bX9_first_26
  rw [wi_eq]
  by_cases z : fX9_within x 0 3 = 0
  · rw [if_pos z, if_pos z]
    exact err1 hh
  · rw [if_neg z, if_neg z]
    by_cases c2 : 2 ≤ x
    · rw [if_pos c2, if_pos c2]
      by_cases c : x - x / 2 * 2 = 0
      · rw [if_pos c, if_pos c]
        exact first_lp hh w 5 (by omega) (.inl ⟨rfl, rfl⟩) gS
      · rw [if_neg c, if_neg c]
        exact first_lp hh w 5 (by omega) (.inr ⟨rfl, rfl⟩) gS
    · rw [if_neg c2, if_neg c2]
      by_cases c : x - x / 2 * 2 = 0
      · rw [if_pos c, if_pos c]
        exact firsta_lp hh w 2 (by omega) (.inl ⟨rfl, rfl⟩) gG
      · rw [if_neg c, if_neg c]
        exact firsta_lp hh w 2 (by omega) (.inr ⟨rfl, rfl⟩) gG
theorem walls_c {mc : Mem} {r : Nat → List Nat} {al : Nat → Bool} (h : CS 0 mc r al) (hg : Gr r al) : ∃ v, fX0_walls 0 mc = some v := by
  unfold fX0_walls
  have bb : ∀ b, b < 16 → ∃ v, fX0_bitsBeside 0 (o32 b) mc = some v := fun b hb => by
    cases ab : al b with
    | true =>
      obtain ⟨n, _, e, _⟩ := bitsBeside_c h hg hb ab
      exact ⟨_, e⟩
    | false =>
      have g := h.2 b hb
      rw [if_neg (by rw [ab]; decide)] at g
      refine ⟨0, ?_⟩
      unfold fX0_bitsBeside
      rw [sidesOf_c hb g, Option.bind_some]
      obtain ⟨z, hz⟩ : ∃ z, fu = z + 1 := ⟨fu - 1, by have := lt_fu (n := 1) (by omega); omega⟩
      rw [hz]
      exact lp_e (by unfold lX0_bitsBeside_11; rfl)
  refine lp_ix (body := lX0_walls_4 0 mc) (fun i s => s.2 = o32 i) (fun _ => True) 16 0 (0, 0) fu rfl (fun i s _ hi hI => ?_) (fun s hI => ?_) (lt_fu (by omega)) |> fun ⟨e, e1, _⟩ => ⟨e, e1⟩
  · obtain ⟨v, hv⟩ := bb i (by omega)
    unfold lX0_walls_4
    rw [hI, if_neg (not_16 (by omega)), hv, o_s]
    exact ⟨_, rfl, rfl⟩
  · unfold lX0_walls_4
    rw [hI, if_pos (by decide)]
    exact ⟨_, rfl, trivial⟩
theorem walls_m {mr : Mem} {r : Nat → List Nat} {al : Nat → Bool} (h : RS mr r al) (hg : Gr r al) : ∃ v, lp (lX9_count_60 mr) fu (0, 0) = some (v, mr) := by
  refine lp_ix (body := lX9_count_60 mr) (fun i s => s.2 = o32 i) (fun e => e.2 = mr) 16 0 (0, 0) fu rfl (fun i s _ hi hI => ?_) (fun s hI => ?_) (lt_fu (by omega)) |> fun ⟨e, e1, e2⟩ => ⟨e.1, by rw [e1, ← e2]⟩
  · have hi : i < 16 := by omega
    unfold lX9_count_60
    rw [hI, if_neg (not_16 hi), is_s hi h, Option.bind_some, o_s]
    cases ai : al i with
    | false =>
      rw [if_pos (show i01 false = 0 from rfl)]
      exact ⟨_, rfl, rfl⟩
    | true =>
      obtain ⟨n, n1, n2, _⟩ := besides_s h hg hi ai
      rw [if_neg (show ¬ i01 true = 0 by decide), n2, Option.bind_some, bits_s n1]
      exact ⟨_, rfl, rfl⟩
  · unfold lX9_count_60
    rw [hI, if_pos (by decide)]
    exact ⟨_, rfl, rfl⟩
theorem count_o {mc mr : Mem} (h : RLx mc mr) (x : Int32) : Df (fX8_count x mc) (fX9_count x mr) := by
  have hh := h
  obtain ⟨⟨r, al, f, q, w⟩, _⟩ := h
  obtain ⟨v, hv⟩ := walls_c (WS_4 w) (WS_1 w)
  obtain ⟨v', hv'⟩ := walls_m (WS_3 w) (WS_1 w)
  obtain ⟨n, _, hn, _⟩ := there_s (WS_3 w)
  unfold fX8_count fX9_count
  rw [hv, hv', hn, many_s (WS_3 w)]
  by_cases x0 : x = 0
  · rw [if_pos x0, if_pos x0]
    exact ⟨_, _, _, _, rfl, rfl, hh⟩
  rw [if_neg x0, if_neg x0]
  by_cases x1 : x = 1
  · rw [if_pos x1, if_pos x1]
    exact ⟨_, _, _, _, rfl, rfl, hh⟩
  rw [if_neg x1, if_neg x1]
  by_cases x2 : x = 2
  · rw [if_pos x2, if_pos x2]
    exact ⟨_, _, _, _, rfl, rfl, hh⟩
  rw [if_neg x2, if_neg x2]
  by_cases x3 : x = 3
  · rw [if_pos x3, if_pos x3]
    exact ⟨_, _, _, _, rfl, rfl, hh⟩
  rw [if_neg x3, if_neg x3]
  by_cases x4 : x = 4
  · rw [if_pos x4, if_pos x4]
    exact ⟨_, _, _, _, rfl, rfl, hh⟩
  rw [if_neg x4, if_neg x4]
  by_cases x5 : x = 5
  · rw [if_pos x5, if_pos x5]
    exact ⟨_, _, _, _, rfl, rfl, hh⟩
  rw [if_neg x5, if_neg x5]
  by_cases x6 : x = 6
  · rw [if_pos x6, if_pos x6]
    exact ⟨_, _, _, _, rfl, rfl, hh⟩
  rw [if_neg x6, if_neg x6]
  by_cases x7 : x = 7
  · rw [if_pos x7, if_pos x7]
    exact ⟨_, _, _, _, rfl, rfl, hh⟩
  rw [if_neg x7, if_neg x7]
  exact Sm_Df (err1 hh)
end
section
/-! COPIES OF A WORLD: IMAGE, RESTORE -/
noncomputable def cp1 (k k2 o j : Nat) (m : Mem) : Mem := mput m (cw k o) j (m (cw k2 o) j)
noncomputable def cpa (k k2 o n : Nat) (m : Mem) : Mem := mcpy m (cw k2 o) (cw k o) 0 0 n
noncomputable def TT (k k2 : Nat) (S : Nat → Nat → Prop) (m0 m : Mem) : Prop := CF k m0 m ∧ ∀ o j, S o j → m (cw k o) j = m0 (cw k2 o) j
theorem kk_ne {k k2 o o' : Nat} (h : k ≠ k2) (h1 : 1 ≤ o) (h2 : o ≤ 39) (h3 : 1 ≤ o') (h4 : o' ≤ 39) : cw k2 o ≠ cw k o' := by
  unfold cw
  omega
theorem TT_1 {k k2 o j : Nat} {S : Nat → Nat → Prop} {m0 m : Mem} (hk : k ≠ k2) (h1 : 1 ≤ o) (h2 : o ≤ 39) (h : TT k k2 S m0 m) : TT k k2 (fun o' j' => S o' j' ∨ (o' = o ∧ j' = j)) m0 (cp1 k k2 o j m) := by
  refine ⟨CF_tr h.1 (CF_put h1 h2), fun o' j' hs => ?_⟩
  unfold cp1
  rw [mput_get]
  by_cases e : o' = o ∧ j' = j
  · rw [if_pos ⟨by rw [e.1], e.2⟩, e.1, e.2]
    exact h.1 _ _ (fun o'' a b => kk_ne hk h1 h2 a b)
  · rw [if_neg (fun z => e ⟨cw_inj z.1, z.2⟩)]
    exact h.2 o' j' (hs.resolve_right e)
theorem TT_a {k k2 o n : Nat} {S : Nat → Nat → Prop} {m0 m : Mem} (hk : k ≠ k2) (h1 : 1 ≤ o) (h2 : o ≤ 39) (h : TT k k2 S m0 m) : TT k k2 (fun o' j' => S o' j' ∨ (o' = o ∧ j' < n)) m0 (cpa k k2 o n m) := by
  refine ⟨CF_tr h.1 (fun c j hc => by unfold cpa; rw [mcpy_get, if_neg (fun z => hc o h1 h2 z.1)]), fun o' j' hs => ?_⟩
  unfold cpa
  rw [mcpy_get]
  by_cases e : o' = o ∧ j' < n
  · rw [if_pos ⟨by rw [e.1], by omega, by omega⟩, show 0 + (j' - 0) = j' by omega, e.1]
    exact h.1 _ _ (fun o'' a b => kk_ne hk h1 h2 a b)
  · rw [if_neg (fun z => e ⟨cw_inj z.1, by omega⟩)]
    exact h.2 o' j' (hs.resolve_right e)
theorem TT_m {k k2 : Nat} {S S' : Nat → Nat → Prop} {m0 m : Mem} (h : TT k k2 S m0 m) (hs : ∀ o j, S' o j → S o j) : TT k k2 S' m0 m := ⟨h.1, fun o j hh => h.2 o j (hs o j hh)⟩
noncomputable def S1 (i o j : Nat) : Prop := (o = 2 ∧ (j = 0 ∨ j = 6 ∨ j = 7 ∨ j = 8)) ∨ (3 ≤ o ∧ o ≤ 7 ∧ j < 16) ∨ (9 ≤ o ∧ o < 9 + i ∧ j < 30)
theorem copyF_c {k k2 : Nat} {m : Mem} (hk : k ≠ k2) : ∃ m', fX0_copyFrom k k2 m = some m' ∧ TT k k2 (S1 16) m m' := by
  have T0 : TT k k2 (fun _ _ => False) m m := ⟨CF_rf, fun _ _ z => z.elim⟩
  have T9 := TT_a (n := 16) hk (show 1 ≤ 7 by omega) (by omega) (TT_a (n := 16) hk (show 1 ≤ 6 by omega) (by omega) (TT_a (n := 16) hk (show 1 ≤ 5 by omega) (by omega) (TT_a (n := 16) hk (show 1 ≤ 4 by omega) (by omega) (TT_a (n := 16) hk (show 1 ≤ 3 by omega) (by omega) (TT_1 (j := 8) hk (show 1 ≤ 2 by omega) (by omega) (TT_1 (j := 7) hk (show 1 ≤ 2 by omega) (by omega) (TT_1 (j := 6) hk (show 1 ≤ 2 by omega) (by omega) (TT_1 (j := 0) hk (show 1 ≤ 2 by omega) (by omega) T0))))))))
  have U : TT k k2 (S1 0) m _ := TT_m T9 (fun o j h => by unfold S1 at h; omega)
  clear T9
  generalize hM : cpa k k2 7 16 (cpa k k2 6 16 (cpa k k2 5 16 (cpa k k2 4 16 (cpa k k2 3 16 (cp1 k k2 2 8 (cp1 k k2 2 7 (cp1 k k2 2 6 (cp1 k k2 2 0 m)))))))) = M at U
  have e : fX0_copyFrom k k2 m = lp (lX0_copyFrom_109 k k2) fu (0, M) := by
    rw [← hM]
    rfl
  rw [e]
  refine lp_ix (body := lX0_copyFrom_109 k k2) (fun i s => s.1 = o32 i ∧ TT k k2 (S1 i) m s.2) (fun m' => TT k k2 (S1 16) m m') 16 0 (0, M) fu ⟨rfl, U⟩ (fun i s _ hi hI => ?_) (fun s hI => ?_) (lt_fu (by omega))
  · obtain ⟨i1, i2⟩ := hI
    have hi : i < 16 := by omega
    unfold lX0_copyFrom_109
    rw [i1, if_neg (not_16 hi), if_pos (o_inb hi (by omega)), if_pos (o_inb hi (by omega)), o_tn (by omega), o_s]
    exact ⟨_, rfl, rfl, TT_m (TT_a (o := 9 + i) (n := 30) hk (by omega) (by omega) i2) (fun o j h => by unfold S1 at *; omega)⟩
  · obtain ⟨i1, i2⟩ := hI
    unfold lX0_copyFrom_109
    rw [i1, if_pos (by decide)]
    exact ⟨_, rfl, i2⟩
noncomputable def S2 (L : Nat → Nat) (i o j : Nat) : Prop := S1 16 o j ∨ ∃ u, u < i ∧ ((o = 27 + 3 * u ∧ j = 0) ∨ (o = 28 + 3 * u ∧ j < L u))
noncomputable def S3 (L : Nat → Nat) (o j : Nat) : Prop := S2 L 3 o j ∨ (o = 36 ∧ j < 60) ∨ (o = 37 ∧ j < 24) ∨ (o = 1 ∧ (j = 3 ∨ (5 ≤ j ∧ j ≤ 11)))
theorem copyW_c {k k2 : Nat} {m : Mem} {L : Nat → Nat} (hk : k ≠ k2) (hL : ∀ u, u < 3 → L u ≤ 60 ∧ m (cw k2 (27 + 3 * u)) 0 = o32 (L u)) : ∃ m', fX7_copyFrom k k2 m = some m' ∧ TT k k2 (S3 L) m m' := by
  obtain ⟨m1, e1, T1⟩ := copyF_c (m := m) hk
  unfold fX7_copyFrom
  rw [e1, Option.bind_some]
  refine lp_ix (body := lX7_copyFrom_13 k k2) (fun i s => s.1 = o32 i ∧ TT k k2 (S2 L i) m s.2) (fun m' => TT k k2 (S3 L) m m') 3 0 (0, m1) fu ⟨rfl, TT_m T1 (fun o j h => by
    rcases h with h | ⟨u, hu, _⟩
    · exact h
    · omega)⟩ (fun i s _ hi hI => ?_) (fun s hI => ?_) (lt_fu (by omega))
  · obtain ⟨i1, i2⟩ := hI
    have hi : i < 3 := by omega
    obtain ⟨l60, lm⟩ := hL i hi
    have ls : s.2 (cw k2 (27 + 3 * i)) 0 = o32 (L i) := by
      rw [← lm]
      exact i2.1 _ _ (fun o a b => kk_ne hk (by omega) (by omega) a b)
    have T2 := TT_1 (j := 0) hk (show 1 ≤ 27 + 3 * i by omega) (by omega) (TT_a (n := L i) hk (show 1 ≤ 28 + 3 * i by omega) (by omega) i2)
    have eq : fX5_copyFrom k i k2 i s.2 = some (cp1 k k2 (27 + 3 * i) 0 (cpa k k2 (28 + 3 * i) (L i) s.2)) := by
      unfold fX5_copyFrom fX5_take_60
      rw [ls, if_neg (not_lt0 (by omega)), if_neg (by rw [show (60 : Int32) = o32 60 from rfl, o_lt (by omega) (by omega)]; omega), if_neg (by rw [show (60 : Int32) = o32 60 from rfl, o_lt (by omega) (by omega)]; omega), if_pos ⟨by decide, by decide, o_ge0 (by omega), by rw [o_tn (by omega)]; show 0 + _ ≤ _; omega, by rw [o_tn (by omega)]; show 0 + _ ≤ _; omega⟩, o_tn (by omega), Option.bind_some]
      unfold cp1 cpa
      rw [mcpy_get, if_neg (fun z => kk_ne hk (by omega) (by omega) (by omega) (by omega) z.1), ls]
    unfold lX7_copyFrom_13
    rw [i1, if_neg (by rw [show (3 : Int32) = o32 3 from rfl, o_le (by omega) (by omega)]; omega), if_pos (o_inb hi (by omega)), if_pos (o_inb hi (by omega)), o_tn (by omega), eq, Option.bind_some, o_s]
    refine ⟨_, rfl, rfl, TT_m T2 (fun o j h => ?_)⟩
    rcases h with h | ⟨u, hu, h⟩
    · exact .inl (.inl (.inl h))
    · by_cases e : u = i
      · subst e
        rcases h with h | h
        · exact .inr h
        · exact .inl (.inr h)
      · exact .inl (.inl (.inr ⟨u, by omega, h⟩))
  · obtain ⟨i1, i2⟩ := hI
    have T2 := TT_1 (j := 11) hk (show 1 ≤ 1 by omega) (by omega) (TT_1 (j := 10) hk (show 1 ≤ 1 by omega) (by omega) (TT_1 (j := 9) hk (show 1 ≤ 1 by omega) (by omega) (TT_1 (j := 8) hk (show 1 ≤ 1 by omega) (by omega) (TT_1 (j := 7) hk (show 1 ≤ 1 by omega) (by omega) (TT_1 (j := 6) hk (show 1 ≤ 1 by omega) (by omega) (TT_1 (j := 5) hk (show 1 ≤ 1 by omega) (by omega) (TT_a (n := 24) hk (show 1 ≤ 37 by omega) (by omega) (TT_1 (j := 3) hk (show 1 ≤ 1 by omega) (by omega) (TT_a (n := 60) hk (show 1 ≤ 36 by omega) (by omega) i2)))))))))
    refine ⟨cp1 k k2 1 11 (cp1 k k2 1 10 (cp1 k k2 1 9 (cp1 k k2 1 8 (cp1 k k2 1 7 (cp1 k k2 1 6 (cp1 k k2 1 5 (cpa k k2 37 24 (cp1 k k2 1 3 (cpa k k2 36 60 s.2))))))))), ?_, TT_m T2 (fun o j h => ?_)⟩
    · unfold lX7_copyFrom_13
      rw [i1, if_pos (show (3 : Int32) ≤ o32 (0 + 3) by decide)]
      rfl
    · rcases h with h | h
      · exact .inl (.inl (.inl (.inl (.inl (.inl (.inl (.inl (.inl (.inl h)))))))))
      · by_cases c : o = 36 ∧ j < 60
        · exact .inl (.inl (.inl (.inl (.inl (.inl (.inl (.inl (.inl (.inr c)))))))))
        · by_cases c2 : o = 37 ∧ j < 24
          · exact .inl (.inl (.inl (.inl (.inl (.inl (.inl (.inr c2)))))))
          · have c3 : o = 1 ∧ (j = 3 ∨ j = 5 ∨ j = 6 ∨ j = 7 ∨ j = 8 ∨ j = 9 ∨ j = 10 ∨ j = 11) := by omega
            obtain ⟨c4, c5⟩ := c3
            rcases c5 with c5 | c5 | c5 | c5 | c5 | c5 | c5 | c5
            · exact .inl (.inl (.inl (.inl (.inl (.inl (.inl (.inl (.inr ⟨c4, c5⟩))))))))
            · exact .inl (.inl (.inl (.inl (.inl (.inl (.inr ⟨c4, c5⟩))))))
            · exact .inl (.inl (.inl (.inl (.inl (.inr ⟨c4, c5⟩)))))
            · exact .inl (.inl (.inl (.inl (.inr ⟨c4, c5⟩))))
            · exact .inl (.inl (.inl (.inr ⟨c4, c5⟩)))
            · exact .inl (.inl (.inr ⟨c4, c5⟩))
            · exact .inl (.inr ⟨c4, c5⟩)
            · exact .inr ⟨c4, c5⟩
theorem copy_R {k k2 : Nat} {m : Mem} {w : Nat → Int32} {r : Nat → List Nat} {al : Nat → Bool} {f : Nat → Nat → Nat} {q : Nat → List Nat} (hk : k ≠ k2) (h : WS k2 m w r al f q) : ∃ m', fX7_copyFrom k k2 m = some m' ∧ WS k m' w r al f q ∧ CF k m m' := by
  obtain ⟨a1, a2, a3, ⟨⟨n, c1, c2, c3⟩, c4⟩, a5, a6, a7, ⟨t1, t2, t3, t4⟩⟩ := h
  obtain ⟨m', e, C, T⟩ := copyW_c (L := fun u => (q u).length) hk (fun u hu => ⟨(a6 u hu).1, (a6 u hu).2.2.2.2.1⟩)
  have T1 : ∀ o j, S1 16 o j → m' (cw k o) j = m (cw k2 o) j := fun o j hs => T o j (.inl (.inl hs))
  have T4 : ∀ o j, (o = 36 ∧ j < 60) ∨ (o = 37 ∧ j < 24) ∨ (o = 1 ∧ (j = 3 ∨ (5 ≤ j ∧ j ≤ 11))) → m' (cw k o) j = m (cw k2 o) j := fun o j hs => T o j (.inr hs)
  refine ⟨m', e, ⟨a1, a2, a3, ⟨⟨n, c1, by rw [T1 2 0 (by unfold S1; omega)]; exact c2, c3⟩, fun b hb => ?_⟩, fun b hb ab j j1 j4 => ?_, fun u hu => ?_, ?_, ⟨?_, fun i hi => ?_, ?_, fun i hi => ?_⟩⟩, C⟩
  · obtain ⟨g1, g2, g3, g4⟩ := c4 b hb
    exact ⟨g1, by rw [T1 7 b (by unfold S1; omega)]; exact g2, g3, fun i hi => by rw [T1 (9 + b) i (by unfold S1; omega)]; exact g4 i hi⟩
  · rw [T1 (j + 2) b (by unfold S1; omega)]
    exact a5 b hb ab j j1 j4
  · obtain ⟨h1, h2, h3, h4, h5, h6⟩ := a6 u hu
    refine ⟨h1, h2, h3, h4, ?_, fun i hi => ?_⟩
    · rw [T _ 0 (.inl (.inr ⟨u, hu, .inl ⟨rfl, rfl⟩⟩))]; exact h5
    · rw [T _ i (.inl (.inr ⟨u, hu, .inr ⟨rfl, hi⟩⟩))]; exact h6 i hi
  · unfold SC at a7 ⊢
    rw [T1 2 6 (by unfold S1; omega), T1 2 7 (by unfold S1; omega), T1 2 8 (by unfold S1; omega), T4 1 9 (by omega), T4 1 6 (by omega), T4 1 7 (by omega), T4 1 8 (by omega), T4 1 10 (by omega), T4 1 11 (by omega)]
    exact a7
  · rw [T4 1 3 (by omega)]; exact t1
  · rw [T4 36 i (by omega)]; exact t2 i hi
  · rw [T4 1 5 (by omega)]; exact t3
  · rw [T4 37 i (by omega)]; exact t4 i hi
end
section
/-! IMAGE, RESTORE, STANDS -/
noncomputable def cpR (m : Mem) (a b n : Nat) : Mem := fun c j => if c = b ∧ j < n then m a j else m c j
theorem copy_m {m : Mem} {a b : Nat} (hab : a ≠ b) : fX9_copy_1082_1082 a b m = some (cpR m a b 1082) := by
  unfold fX9_copy_1082_1082
  have e0 : cpR m a b 0 = m := by
    funext c j
    unfold cpR
    rw [if_neg (by omega)]
  have st := lp_fwd (body := lX9_copy_1082_1082_2 a b) (e := cpR m a b 1082) 1082 (fun i => (o32 i, cpR m a b i)) fu (fun i hi => ?_) ?_ (lt_fu (by omega))
  · rw [e0] at st
    exact st
  · unfold lX9_copy_1082_1082_2
    dsimp only
    rw [if_neg (by rw [show (1082 : Int32) = o32 1082 from rfl, o_le (by omega) (by omega)]; omega), if_pos (o_inb hi (by omega)), if_pos (o_inb hi (by omega)), o_tn (by omega), o_s]
    congr 3
    funext c j
    rw [mput_get]
    unfold cpR
    by_cases e : c = b ∧ j = i
    · rw [if_pos e, if_neg (fun z => hab z.1), if_pos ⟨e.1, by omega⟩, e.2]
    · rw [if_neg e]
      by_cases e2 : c = b ∧ j < i
      · rw [if_pos e2, if_pos ⟨e2.1, by omega⟩]
      · rw [if_neg e2, if_neg (by omega)]
  · unfold lX9_copy_1082_1082_2
    dsimp only
    rw [if_pos (by rw [show (1082 : Int32) = o32 1082 from rfl, o_le (by omega) (by omega)]; omega)]
theorem WS_row {k : Nat} {m : Mem} {w w' : Nat → Int32} {r : Nat → List Nat} {al : Nat → Bool} {f : Nat → Nat → Nat} {q : Nat → List Nat} (h : WS k m w r al f q) (e : ∀ j, j < 1082 → w' j = w j) : WS k m w' r al f q := by
  obtain ⟨a1, a2, a3, a4, a5, a6, a7, a8⟩ := h
  refine ⟨a1, a2, RS_w a3 (fun b hb g hg => e _ (by omega)), a4, FR_same a5 (fun _ _ _ _ => rfl) (fun j h1 h2 => e j (by omega)), fun u hu => ?_, SC_same a7 (fun _ _ _ => rfl) (fun j h1 h2 h3 => e j (by omega)), ?_⟩
  · obtain ⟨h1, h2, h3, h4, h5, h6⟩ := a6 u hu
    refine ⟨h1, h2, h3, by rw [e _ (by omega)]; exact h4, h5, fun i hi => ?_⟩
    rw [e _ (by omega)]
    exact h6 i hi
  · obtain ⟨h1, h2, h3, h4⟩ := a8
    refine ⟨?_, fun i hi => ?_, ?_, fun i hi => ?_⟩
    · rw [e 1 (by omega)]; exact h1
    · rw [e _ (by omega)]; exact h2 i hi
    · rw [e 2 (by omega)]; exact h3
    · rw [e _ (by omega)]; exact h4 i hi
theorem WR_far {k : Nat} {m m' : Mem} {w w' : Nat → Int32} (h : WR k m w) (e1 : ∀ o j, 1 ≤ o → o ≤ 39 → m' (cw k o) j = m (cw k o) j) (e2 : ∀ j, j < 1082 → w' j = w j) : WR k m' w' := by
  obtain ⟨r, al, f, q, h⟩ := h
  refine ⟨r, al, f, q, WS_row (WS_same h (fun c j hc => ?_) (fun _ => rfl)) e2⟩
  obtain ⟨o, e, ho⟩ := hc
  rw [e]
  exact e1 o j (by omega) (by omega)
theorem image_o {mc mr : Mem} (h : RLx mc mr) : Sm (fX8_image mc) (fX9_image mr) := by
  obtain ⟨⟨r, al, f, q, w⟩, h2, h3, h4, h5, h6⟩ := h
  obtain ⟨m', e, W, C⟩ := copy_R (k := 1) (k2 := 0) (by omega) w
  unfold fX8_image fX9_image
  have c8 : m' 0 8 = mc 0 8 := C 0 8 (fun o _ _ => by unfold cw; omega)
  have r3 : cpR mr 138 139 1082 137 3 = mr 137 3 := if_neg (by omega)
  rw [e, copy_m (by omega), Option.bind_some, Option.bind_some, mput_at, mput_at, c8, r3, h2]
  have e1 : ∀ c j, ¬ (c = 0 ∧ j = 8) → (∀ o, 1 ≤ o → o ≤ 39 → c ≠ cw 1 o) → mput m' 0 8 (mr 137 3 + 1) c j = mc c j := fun c j h1 h2 => by
    rw [mput_get, if_neg h1]
    exact C c j h2
  have e2 : ∀ c j, c ≠ 139 → ¬ (c = 137 ∧ j = 3) → mput (cpR mr 138 139 1082) 137 3 (mr 137 3 + 1) c j = mr c j := fun c j h1 h2 => by
    rw [mput_get, if_neg h2]
    exact if_neg (fun z => h1 z.1)
  refine ⟨_, _, _, rfl, rfl, ?_, by rw [mput_at, mput_at], fun _ => ?_, fun s hs => ?_, ?_, ?_⟩
  · refine WR_far ⟨r, al, f, q, w⟩ (fun o j o1 o2 => e1 _ _ (fun z => ?_) (fun o' a b => ?_)) (fun j _ => e2 138 j (by omega) (by omega))
    · have := z.1; unfold cw at this; omega
    · unfold cw; omega
  · refine WR_far ⟨r, al, f, q, W⟩ (fun o j o1 o2 => ?_) (fun j hj => ?_)
    · rw [mput_get, if_neg (fun z => by have := z.1; unfold cw at this; omega)]
    · rw [mput_get, if_neg (by omega)]
      exact if_pos ⟨rfl, hj⟩
  · obtain ⟨q1, q2, q3⟩ := h4 s hs
    rw [e1 129 s (by omega) (fun o a b => by unfold cw; omega), e1 130 s (by omega) (fun o a b => by unfold cw; omega), e2 151 s (by omega) (by omega), e2 152 s (by omega) (by omega)]
    refine ⟨q1, q2, fun i hi => ?_⟩
    rw [e1 (132 + s) i (by omega) (fun o a b => by unfold cw; omega), e2 153 _ (by omega) (by omega)]
    exact q3 i hi
  · rw [e1 125 1 (by omega) (fun o a b => by unfold cw; omega)]; exact h5
  · rw [e2 137 19 (by omega) (by omega)]; exact h6
theorem restore_o {mc mr : Mem} (h : RLx mc mr) : Sm (fX8_restore mc) (fX9_restore mr) := by
  have hh := h
  obtain ⟨w0, h2, h3, h4, h5, h6⟩ := h
  unfold fX8_restore fX9_restore
  rw [← h2]
  by_cases z : mc 0 8 = 0
  · rw [if_pos z, if_pos z]
    exact err2 hh
  · obtain ⟨r, al, f, q, w⟩ := h3 z
    obtain ⟨m', e, W, C⟩ := copy_R (k := 0) (k2 := 1) (by omega) w
    have W2 : WS 0 m' (cpR mr 139 138 1082 138) r al f q := WS_row W (fun j hj => if_pos ⟨rfl, hj⟩)
    rw [if_neg z, if_neg z, e, copy_m (by omega), Option.bind_some, Option.bind_some, howMany_s (WS_4 W2), many_s (WS_3 W2), Option.bind_some]
    exact ⟨_, _, _, rfl, rfl, RL_k hh ⟨r, al, f, q, W2⟩ (CK_CF C) (fun c j hc => if_neg (by omega))⟩
theorem stands_o {mc mr : Mem} (h : RLx mc mr) (x y : Int32) : Sm (fX8_stands x y mc) (fX9_stands x y mr) := by
  have hh := h
  obtain ⟨⟨r, al, f, q, w⟩, h2, h3, h4, h5, h6⟩ := h
  have S := WS_7 w
  unfold fX8_stands fX9_stands bX8_stands_20 bX9_stands_20
  rw [wi_eq, wi_eq]
  rcases win (l := 0) (h := 16) (by omega) (by omega) x with z | ⟨K, _, k2, k3, k4⟩
  · rw [if_pos (show fX9_within x 0 16 = 0 from z), if_pos (show fX9_within x 0 16 = 0 from z)]
    exact err1 hh
  have z : ¬ fX9_within x 0 16 = 0 := by rw [show fX9_within x 0 16 = 1 from k4]; exact one0
  rw [if_neg z, if_neg z]
  rcases win (l := 1) (h := 60) (by omega) (by omega) y with z | ⟨n, n1, n2, n3, n4⟩
  · rw [if_pos (show fX9_within y 1 60 = 0 from z), if_pos (show fX9_within y 1 60 = 0 from z)]
    exact err1 hh
  have z : ¬ fX9_within y 1 60 = 0 := by rw [show fX9_within y 1 60 = 1 from n4]; exact one0
  obtain ⟨t, t1, t2, t3⟩ := S.2.2.2.2.2.2.2.1
  rw [if_neg z, if_neg z, t2, t3, n3, k3, o_add]
  by_cases c : t + n ≤ 9999
  · obtain ⟨m', e, W, C⟩ := copy_R (k := 2) (k2 := 0) (by omega) w
    have W2 : WS 2 m' (cpR mr 138 140 1082 138) r al f q := WS_row W (fun j hj => if_neg (by omega))
    rw [if_pos (by rw [show (9999 : Int32) = o32 9999 from rfl, o_le (by omega) (by omega)]; exact c), if_pos (by rw [show (9999 : Int32) = o32 9999 from rfl, o_le (by omega) (by omega)]; exact c), e, copy_m (by omega), Option.bind_some, Option.bind_some]
    have M0 : ∀ c j, c ≠ 140 → cpR mr 138 140 1082 c j = mr c j := fun c j hc => if_neg (fun z => hc z.1)
    have A0 : ∀ j, j < 1082 → cpR mr 138 140 1082 140 j = mr 138 j := fun j hj => if_pos ⟨rfl, hj⟩
    have t0 : cpR mr 138 140 1082 138 0 = o32 (t + 0) := by rw [M0 _ _ (by omega)]; exact t2
    generalize cpR mr 138 140 1082 = m0 at *
    apply Sm_of
    -- what stands behind, as it was
    have back : ∀ m1 mr1, CF 2 mc m1 → MF m0 mr1 → RLx m1 (cpR mr1 140 138 1082) := fun m1 mr1 c1 c2 => by
      refine RL_k hh (WR_far ⟨r, al, f, q, w⟩ (fun o j o1 o2 => c1 _ _ (fun o' a b => by unfold cw; omega)) (fun j hj => ?_)) (CK_CF2 c1) (fun c j hc => ?_)
      · show (if 138 = 138 ∧ j < 1082 then mr1 140 j else mr1 138 j) = _
        rw [if_pos ⟨rfl, hj⟩, c2 140 j (by omega) (by omega) (by omega) (by omega) (by omega)]
        exact A0 j hj
      · show (if c = 138 ∧ j < 1082 then mr1 140 j else mr1 c j) = _
        rw [if_neg (by omega), c2 c j (by omega) (by omega) (by omega) (by omega) (by omega)]
        exact M0 c j (by omega)
    have fin97 : ∀ (i : Nat) (m1 mr1 : Mem), CF 2 mc m1 → MF m0 mr1 → WR 2 m1 (mr1 138) → ∀ N, fX9_many mr1 = some (o32 N) → N ≤ 16 → N ≤ K → ∃ g, bX9_stands_84 (o32 K) (o32 i) mr1 = some g ∧ o32 i = g.1 ∧ RLx m1 g.2 := fun i m1 mr1 c1 c2 w1 N hN N16 hK => by
      unfold bX9_stands_84 bX9_stands_97
      rw [hN, Option.bind_some, if_neg (by rw [o_lt (by omega) (by omega)]; omega), copy_m (by omega), Option.bind_some, if_neg one0]
      exact ⟨_, rfl, rfl, back m1 mr1 c1 c2⟩
    have go : ∀ d i u v m1 mr1, i + d = n → d + 3 < u → d + 3 < v → CF 2 mc m1 → MF m0 mr1 → WR 2 m1 (mr1 138) → mr1 138 0 = o32 (t + i) → ∃ e g, lp (lX8_stands_60 (o32 K) (o32 n)) u (o32 i, m1) = some e ∧ lp (lX9_stands_61 (o32 K) (o32 n)) v (o32 i, mr1) = some g ∧ e.1 = g.1 ∧ RLx e.2 g.2 := by
      intro d
      induction d with
      | zero =>
        intro i u v m1 mr1 hi hu hv c1 c2 w1 ti
        obtain ⟨u, rfl⟩ : ∃ z, u = z + 2 := ⟨u - 2, by omega⟩
        obtain ⟨v, rfl⟩ : ∃ z, v = z + 1 := ⟨v - 1, by omega⟩
        obtain ⟨N, N16, k1, k2'⟩ := many_R w1
        have ni : o32 n ≤ o32 i := by rw [o_le (by omega) (by omega)]; omega
        by_cases hK : N ≤ K
        · obtain ⟨g, g1, g2, g3⟩ := fin97 i m1 mr1 c1 c2 w1 N k2' N16 hK
          refine ⟨(o32 i, m1), g, lp_e ?_, lp_e ?_, g2, g3⟩
          · unfold lX8_stands_60
            dsimp only
            rw [if_neg (by rw [o_lt (by omega) (by omega)]; omega), k1, if_neg (by rw [o_lt (by omega) (by omega)]; omega)]
          · unfold lX9_stands_61
            dsimp only
            rw [if_pos ni, g1]
            rfl
        · have R2 := back m1 mr1 c1 c2
          obtain ⟨v1, mm, mmr, q1, q2, q3⟩ := err2 R2
          have x1 : lX8_stands_60 (o32 K) (o32 n) (o32 i, m1) = some (.inl (o32 (i + 1), m1)) := by
            unfold lX8_stands_60
            dsimp only
            rw [if_neg (by rw [o_lt (by omega) (by omega)]; omega), k1, if_pos (by rw [o_lt (by omega) (by omega)]; omega), if_pos ni, o_s]
          have x2 : lX8_stands_60 (o32 K) (o32 n) (o32 (i + 1), m1) = some (.inr (v1, mm)) := by
            unfold lX8_stands_60
            dsimp only
            rw [if_pos (by rw [o_lt (by omega) (by omega)]; omega)]
            cases z1 : fX8_no 2 m1 with
            | none => rw [z1] at q1; cases q1
            | some p =>
              rw [z1] at q1
              have q1 : (p.1, p.2) = (v1, mm) := Option.some.inj q1
              show some (Sum.inr (p.1, p.2)) = _
              rw [q1]
          refine ⟨(v1, mm), (v1, mmr), (lp_i x1).trans (lp_e x2), lp_e ?_, rfl, q3⟩
          unfold lX9_stands_61
          dsimp only
          rw [if_pos ni]
          unfold bX9_stands_84 bX9_stands_97
          rw [k2', Option.bind_some, if_pos (by rw [o_lt (by omega) (by omega)]; omega), copy_m (by omega), Option.bind_some, if_pos rfl, q2]
          rfl
      | succ d ih =>
        intro i u v m1 mr1 hi hu hv c1 c2 w1 ti
        obtain ⟨u, rfl⟩ : ∃ z, u = z + 1 := ⟨u - 1, by omega⟩
        obtain ⟨v, rfl⟩ : ∃ z, v = z + 1 := ⟨v - 1, by omega⟩
        obtain ⟨N, N16, k1, k2'⟩ := many_R w1
        have ni : ¬ o32 n ≤ o32 i := by rw [o_le (by omega) (by omega)]; omega
        by_cases hK : N ≤ K
        · obtain ⟨g, g1, g2, g3⟩ := fin97 i m1 mr1 c1 c2 w1 N k2' N16 hK
          refine ⟨(o32 i, m1), g, lp_e ?_, lp_e ?_, g2, g3⟩
          · unfold lX8_stands_60
            dsimp only
            rw [if_neg (by rw [o_lt (by omega) (by omega)]; omega), k1, if_neg (by rw [o_lt (by omega) (by omega)]; omega)]
          · unfold lX9_stands_61
            dsimp only
            rw [if_neg ni, k2', Option.bind_some, if_pos (by rw [o_le (by omega) (by omega)]; omega), g1]
            rfl
        · obtain ⟨m2, mr2, g1, g2, g3, g4, g5, g6⟩ := goOn_R w1 (by omega) ti
          have x1 : lX8_stands_60 (o32 K) (o32 n) (o32 i, m1) = some (.inl (o32 (i + 1), m2)) := by
            unfold lX8_stands_60
            dsimp only
            rw [if_neg (by rw [o_lt (by omega) (by omega)]; omega), k1, if_pos (by rw [o_lt (by omega) (by omega)]; omega), if_neg ni, g1, Option.bind_some, o_s]
          have x2 : lX9_stands_61 (o32 K) (o32 n) (o32 i, mr1) = some (.inl (o32 (i + 1), mr2)) := by
            unfold lX9_stands_61
            dsimp only
            rw [if_neg ni, k2', Option.bind_some, if_neg (by rw [o_le (by omega) (by omega)]; omega), g2, Option.bind_some, o_s]
          rw [lp_i x1, lp_i x2]
          exact ih (i + 1) u v m2 mr2 (by omega) (by omega) (by omega) (CF_tr c1 g4) (MF_tr c2 g5) g3 g6
    exact go n 0 fu fu m' m0 (by omega) (lt_fu (by omega)) (lt_fu (by omega)) C MF_rf ⟨r, al, f, q, W2⟩ t0
  · rw [if_neg (by rw [show (9999 : Int32) = o32 9999 from rfl, o_le (by omega) (by omega)]; exact c), if_neg (by rw [show (9999 : Int32) = o32 9999 from rfl, o_le (by omega) (by omega)]; exact c)]
    exact err3 hh
end
section
/-! FEED -/
theorem sh64_tab : ∀ i, i < 8 → ((8 * o32 i).toInt64.toUInt64 &&& Int64.toUInt64 63).toBitVec % 64 = BitVec.ofNat 64 (8 * i) ∧ ((8 * o32 i).toInt64 &&& 63).toBitVec.smod 64 = BitVec.ofNat 64 (8 * i) := by decide +kernel
theorem byte_u {x : Int64} {i : Nat} (hi : i < 8) : (lUshr x (8 * o32 i) &&& 255).toBitVec = (x.toBitVec >>> (8 * i)) &&& 255#64 := by
  have e := (sh64_tab i hi).1
  show ((x.toUInt64 >>> ((8 * o32 i).toInt64.toUInt64 &&& Int64.toUInt64 63)).toBitVec) &&& 255#64 = _
  rw [UInt64.toBitVec_shiftRight, e]
  congr 1
  show x.toBitVec >>> (BitVec.ofNat 64 (8 * i)).toNat = _
  rw [BitVec.toNat_ofNat, Nat.mod_eq_of_lt (show 8 * i < 2 ^ 64 by omega)]
theorem byte_s {x : Int64} {i : Nat} (hi : i < 8) : (lShr x (8 * o32 i) &&& 255).toBitVec = (x.toBitVec >>> (8 * i)) &&& 255#64 := by
  have e := (sh64_tab i hi).2
  show ((x >>> ((8 * o32 i).toInt64 &&& 63)).toBitVec) &&& 255#64 = _
  rw [Int64.toBitVec_shiftRight, e]
  show x.toBitVec.sshiftRight (BitVec.ofNat 64 (8 * i)).toNat &&& 255#64 = _
  rw [BitVec.toNat_ofNat, Nat.mod_eq_of_lt (show 8 * i < 2 ^ 64 by omega)]
  apply BitVec.eq_of_getLsbD_eq
  intro j hj
  rw [BitVec.getLsbD_and, BitVec.getLsbD_and, BitVec.getLsbD_sshiftRight, BitVec.getLsbD_ushiftRight]
  by_cases h8 : j < 8
  · rw [if_pos (show 8 * i + j < 64 by omega), show decide (64 ≤ j) = false from decide_eq_false (by omega)]
    rfl
  · have : (255#64).getLsbD j = false := by
      rw [BitVec.getLsbD_ofNat, show (255 : Nat) = 2 ^ 8 - 1 by decide, Nat.testBit_two_pow_sub_one, show decide (j < 8) = false from decide_eq_false h8, Bool.and_false]
    rw [this, Bool.and_false, Bool.and_false]
theorem byte_R {x : Int64} {i : Nat} (hi : i < 8) : ∃ n, n ≤ 255 ∧ (lUshr x (8 * o32 i) &&& 255).toInt32 = o32 n ∧ (lShr x (8 * o32 i) &&& 255).toInt32 = o32 n := by
  have key : ∀ y : Int64, y.toBitVec = (x.toBitVec >>> (8 * i)) &&& 255#64 → y.toInt32 = o32 ((x.toBitVec >>> (8 * i)) &&& 255#64).toNat := fun y hy => by
    have l : ((x.toBitVec >>> (8 * i)) &&& 255#64).toNat ≤ 255 := by
      rw [BitVec.toNat_and]
      exact Nat.and_le_right
    apply i_eq _ (by omega)
    rw [Int64.toInt_toInt32]
    have e : y.toInt = (((x.toBitVec >>> (8 * i)) &&& 255#64).toNat : Int) := by
      show y.toBitVec.toInt = _
      rw [hy]
      exact BitVec.toInt_eq_toNat_of_lt (by omega)
    rw [e]
    exact Int.bmod_eq_of_le (by omega) (by omega)
  refine ⟨((x.toBitVec >>> (8 * i)) &&& 255#64).toNat, ?_, key _ (byte_u hi), key _ (byte_s hi)⟩
  rw [BitVec.toNat_and]
  exact Nat.and_le_right
theorem feed_o {mc mr : Mem} (h : RLx mc mr) (x : Int64) (y : Int32) : Sm (fX8_feed x y mc) (fX9_feed x y mr) := by
  have hh := h
  obtain ⟨⟨r, al, f, q, w⟩, _⟩ := h
  obtain ⟨⟨p, p1, p2, p3⟩, t2, t3, t4⟩ := WS_8 w
  unfold fX8_feed fX9_feed
  rw [wi_eq]
  rcases win (l := 1) (h := 8) (by omega) (by omega) y with z | ⟨n, n1, n2, n3, n4⟩
  · rw [if_pos (show fX9_within y 1 8 = 0 from z), if_pos (show fX9_within y 1 8 = 0 from z)]
    exact err1 hh
  have z : ¬ fX9_within y 1 8 = 0 := by rw [show fX9_within y 1 8 = 1 from n4]; exact one0
  rw [if_neg z, if_neg z, p2, p3, n3, o_add]
  by_cases c : p + n ≤ 60
  · rw [if_pos (by rw [show (60 : Int32) = o32 60 from rfl, o_le (by omega) (by omega)]; exact c), if_pos (by rw [show (60 : Int32) = o32 60 from rfl, o_le (by omega) (by omega)]; exact c)]
    have key := lp_two (bs := lX7_takeBytes_3 0 x (o32 n)) (bt := lX9_feed_40 x (o32 n)) (fun i s t => s.1 = o32 i ∧ t.1 = o32 i ∧ s.2 (cw 0 1) 3 = o32 (p + i) ∧ t.2 138 1 = o32 (p + i) ∧ (∀ j, j < 60 → ∃ n, n ≤ 255 ∧ t.2 138 (812 + j) = o32 n ∧ s.2 (cw 0 36) j = o32 n) ∧ (∀ c j, ¬ (c = cw 0 1 ∧ j = 3) → c ≠ cw 0 36 → s.2 c j = mc c j) ∧ ∀ c j, ¬ (c = 138 ∧ (j = 1 ∨ (812 ≤ j ∧ j < 872))) → t.2 c j = mr c j) (fun m' g => g = (o32 (p + n), g.2) ∧ m' (cw 0 1) 3 = o32 (p + n) ∧ g.2 138 1 = o32 (p + n) ∧ (∀ j, j < 60 → ∃ n, n ≤ 255 ∧ g.2 138 (812 + j) = o32 n ∧ m' (cw 0 36) j = o32 n) ∧ (∀ c j, ¬ (c = cw 0 1 ∧ j = 3) → c ≠ cw 0 36 → m' c j = mc c j) ∧ ∀ c j, ¬ (c = 138 ∧ (j = 1 ∨ (812 ≤ j ∧ j < 872))) → g.2 c j = mr c j) n 0 (0, mc) (0, mr) fu fu ⟨rfl, rfl, p3, p2, t2, fun _ _ _ _ => rfl, fun _ _ _ => rfl⟩ (fun i s t _ hi hJ => ?_) (fun s t hJ => ?_) (lt_fu (by omega)) (lt_fu (by omega))
    · obtain ⟨m', g, e1, e2, e3, k1, k2, k3, k4, k5⟩ := key
      unfold fX7_takeBytes
      rw [e1, e2, Option.bind_some, k1]
      refine ⟨_, _, _, rfl, congrArg some e3, RL_k hh ⟨r, al, f, q, WS_tp w (fun o j ho h1 h2 h3 => k4 _ _ (fun z => h1 ⟨cw_inj z.1, .inl z.2⟩) (cw_ne h2)) (fun j h1 h2 h3 => k5 138 j (by omega)) ⟨⟨p + n, c, ?_, k1⟩, fun i hi => ?_, ?_, fun i hi => ?_⟩⟩ (fun c j hc => k4 c j (fun z => by have := z.1; unfold cw at this; omega) (by unfold cw; omega)) (fun c j hc => k5 c j (by omega))⟩
      · exact k2
      · exact k3 i hi
      · rw [k5 138 2 (by omega), k4 _ 5 (by omega) (cw_ne (by omega))]; exact t3
      · rw [k5 138 _ (by omega), k4 _ i (fun z => cw_ne (by omega) z.1) (cw_ne (by omega))]; exact t4 i hi
    · obtain ⟨j1, j2, j3, j4, j5, j6, j7⟩ := hJ
      obtain ⟨b, b1, b2, b3⟩ := byte_R (x := x) (i := i) (by omega)
      unfold lX7_takeBytes_3 lX9_feed_40
      have ni : ¬ o32 n ≤ o32 i := by rw [o_le (by omega) (by omega)]; omega
      have n60 : ¬ (60 : Int32) ≤ o32 (p + i) := by rw [show (60 : Int32) = o32 60 from rfl, o_le (by omega) (by omega)]; omega
      rw [j1, j2, j3, j4, if_neg ni, if_neg ni, if_neg n60, if_pos (o_inb (show p + i < 60 by omega) (by omega)), show (812 : Int32) + o32 (p + i) = o32 (812 + (p + i)) from o_add 812 _, if_pos (o_inb (show 812 + (p + i) < 1082 by omega) (by omega)), o_tn (show p + i < 2147483648 by omega), o_tn (show 812 + (p + i) < 2147483648 by omega), b2, b3, mput_c s.2 _ _ (show cw 0 1 ≠ cw 0 36 from cw_ne (by omega)), j3, mput_j t.2 _ _ _ (show 1 ≠ 812 + (p + i) by omega), j4, o_s, o_s]
      refine ⟨_, _, rfl, rfl, rfl, rfl, ?_, ?_, fun j hj => ?_, fun c j h1 h2 => ?_, fun c j h1 => ?_⟩
      · dsimp only
        rw [mput_at]
        rfl
      · dsimp only
        rw [mput_at]
        rfl
      · dsimp only
        rw [mput_get, if_neg (by omega), mput_get, mput_c _ _ _ (cw_ne (by omega)), mput_get]
        by_cases e : j = p + i
        · rw [if_pos (by omega), if_pos ⟨rfl, e⟩]
          exact ⟨b, b1, rfl, rfl⟩
        · rw [if_neg (by omega), if_neg (fun z => e z.2)]
          exact j5 j hj
      · dsimp only
        rw [mput_get, if_neg h1, mput_c _ _ _ h2]
        exact j6 c j h1 h2
      · dsimp only
        rw [mput_get, if_neg (by omega), mput_get, if_neg (by omega)]
        exact j7 c j h1
    · obtain ⟨j1, j2, j3, j4, j5, j6, j7⟩ := hJ
      rw [Nat.zero_add] at j1 j2 j3 j4
      unfold lX7_takeBytes_3 lX9_feed_40
      rw [j1, j2, if_pos (by rw [o_le (by omega) (by omega)]; omega), if_pos (by rw [o_le (by omega) (by omega)]; omega), j4]
      exact ⟨_, _, rfl, rfl, rfl, j3, j4, j5, j6, j7⟩
  · rw [if_neg (by rw [show (60 : Int32) = o32 60 from rfl, o_le (by omega) (by omega)]; exact c), if_neg (by rw [show (60 : Int32) = o32 60 from rfl, o_le (by omega) (by omega)]; exact c)]
    exact err4 hh
end
