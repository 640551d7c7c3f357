/-! what must hold of all the model's numbers, and the methods that set them -/
def KI (m : Mem) : Prop := MI m ∧ TX m ∧ OD m ∧ (∃ n, n ≤ 60 ∧ m 138 1 = o32 n) ∧ ∃ n, n ≤ 24 ∧ m 138 2 = o32 n
theorem KI_Fw {m m' : Mem} (h : KI m) (hM : MI m') (f : Fw m m') : KI m' := by
  obtain ⟨_, h2, h3, ⟨n, n1, n2⟩, k, k1, k2⟩ := h
  exact ⟨hM, TX_Fw h2 f, OD_Fw h3 f, ⟨n, n1, by rw [f.2 1 (by omega)]; exact n2⟩, k, k1, by rw [f.2 2 (by omega)]; exact k2⟩
theorem KI_put {m : Mem} {j : Nat} {v : Int32} (h : KI m) (hj : j = 4 ∨ j = 5 ∨ (812 ≤ j ∧ j < 896)) : KI (mput m 138 j v) := by
  obtain ⟨h1, h2, h3, ⟨n, n1, n2⟩, k, k1, k2⟩ := h
  refine ⟨MI_far (by omega) h1, fun i hi => ?_, ?_, ⟨n, n1, by rw [mput_get, if_neg (by omega)]; exact n2⟩, k, k1, by rw [mput_get, if_neg (by omega)]; exact k2⟩
  · obtain ⟨n, p1, p2, dep, p3, p4⟩ := h2 i hi
    exact ⟨n, p1, by rw [mput_get, if_neg (by omega)]; exact p2, dep, p3, fun k hk => by rw [mput_get, if_neg (by omega)]; exact p4 k hk⟩
  · unfold OD
    rw [mput_get, if_neg (by omega)]
    exact h3
theorem within_lh {x : Int32} {l h : Nat} (hl : l < 100000) (hh : h < 100000) (q : fX9_within x (o32 l) (o32 h) ≠ 0) : ∃ n, l ≤ n ∧ n ≤ h ∧ x = o32 n := by
  unfold fX9_within at q
  by_cases h1 : x < o32 l
  · rw [if_pos h1] at q; exact absurd rfl q
  · rw [if_neg h1] at q
    by_cases h2 : o32 h < x
    · rw [if_pos h2] at q; exact absurd rfl q
    · rw [Int32.lt_iff_toInt_lt, o_ti (by omega)] at h1 h2
      refine ⟨x.toInt.toNat, by omega, by omega, Int32.toInt_inj.mp ?_⟩
      rw [o_ti (by omega)]
      omega
theorem KF_1 {m : Mem} (h : KI m) : ∃ v m', (fX9_finding (-1000001) m).bind (fun q => some (q.1, q.2)) = some (v, m') ∧ KI m' := by
  obtain ⟨v, m', e, M, F⟩ := bd_s (MF_1 h.1)
  exact ⟨v, m', e, KI_Fw h M F⟩
theorem fnd4 (m : Mem) : fX9_finding (-1000004) m = some (-1000004, mput m 141 4 (m 141 4 + 1)) := by
  unfold fX9_finding
  rw [if_pos (by decide), if_pos (by decide)]
  rfl
theorem KF_4 {m : Mem} (h : KI m) : ∃ v m', (fX9_finding (-1000004) m).bind (fun q => some (q.1, q.2)) = some (v, m') ∧ KI m' := by
  obtain ⟨a, b⟩ := MI_141 (k := 4) (v := m 141 4 + 1) h.1
  exact ⟨_, _, by rw [fnd4]; rfl, KI_Fw h a (Fw_Fz b)⟩
theorem comes_op {m : Mem} {j : Nat} {x : Int32} (hj : j < 1082) : fX9_comes (o32 j) x m = some (m 138 j, mput m 138 j x) := by
  have b : inb (o32 j) 1082 := o_inb hj (by omega)
  unfold fX9_comes
  rw [if_pos b, if_pos b, o_tn (by omega)]
theorem untell_op {m : Mem} (x : Int32) (h : KI m) : ∃ v m', fX9_untell x m = some (v, m') ∧ KI m' := by
  unfold fX9_untell
  by_cases q : fX9_within x 0 2 = 0
  · rw [if_pos q]
    exact KF_1 h
  · rw [if_neg q]
    obtain ⟨n, _, n2, e⟩ := within_lh (l := 0) (h := 2) (by omega) (by omega) q
    subst e
    have e1 : (896 : Int32) + 62 * o32 n = o32 (896 + 62 * n) := by
      show o32 896 + o32 62 * o32 n = _
      rw [o_mul, o_add]
    rw [e1, comes_op (by omega), Option.bind_some]
    have K : KI (mput m 138 (896 + 62 * n) 0) := by
      obtain ⟨h1, h2, h3, ⟨t, t1, t2⟩, k, k1, k2⟩ := h
      refine ⟨MI_far (by omega) h1, fun i hi => ?_, ?_, ⟨t, t1, by rw [mput_get, if_neg (by omega)]; exact t2⟩, k, k1, by rw [mput_get, if_neg (by omega)]; exact k2⟩
      · by_cases ei : i = n
        · subst ei
          exact ⟨0, by omega, by rw [mput_get, if_pos ⟨rfl, rfl⟩]; rfl, fun _ => 0, rfl, fun k hk => absurd hk (by omega)⟩
        · obtain ⟨n', p1, p2, dep, p3, p4⟩ := h2 i hi
          exact ⟨n', p1, by rw [mput_get, if_neg (by omega)]; exact p2, dep, p3, fun k hk => by rw [mput_get, if_neg (by omega)]; exact p4 k hk⟩
      · unfold OD
        rw [mput_get, if_neg (by omega)]
        exact h3
    split
    · exact ⟨_, _, rfl, K⟩
    · exact ⟨_, _, rfl, K⟩
theorem tell_op {m : Mem} (x : Int32) (h : KI m) : ∃ v m', fX9_tell x m = some (v, m') ∧ KI m' := by
  have h0 := h
  obtain ⟨_, _, _, _, k, k1, k2⟩ := h
  unfold fX9_tell
  split
  · exact KF_4 h0
  · rename_i hn
    have kn : k ≠ 24 := fun w => hn (by rw [k2, w]; rfl)
    have e1 : (872 : Int32) + o32 k = o32 (872 + k) := o_add 872 k
    rw [k2, e1, if_pos (o_inb (by omega) (by omega)), o_tn (by omega)]
    refine ⟨_, _, rfl, ?_⟩
    have K := KI_put (v := x) h0 (j := 872 + k) (by omega)
    obtain ⟨q1, q2, q3, ⟨t, t1, t2⟩, _⟩ := K
    refine ⟨MI_far (by omega) q1, TX_same q2 (fun j hj => by rw [mput_get, if_neg (by omega)]), ?_, ⟨t, t1, by rw [mput_get, if_neg (by omega)]; exact t2⟩, k + 1, by omega, ?_⟩
    · unfold OD
      rw [mput_get, if_neg (by omega)]
      exact q3
    · rw [mput_get, if_pos ⟨rfl, rfl⟩, mput_get, if_neg (by omega), k2, o_s]
theorem rule_op {m : Mem} (x y : Int32) (h : KI m) : ∃ v m', fX9_rule x y m = some (v, m') ∧ KI m' := by
  have no : ∀ x, ∃ v m', bX9_rule_57 x y 0 m = some (v, m') ∧ KI m' := fun x => by
    unfold bX9_rule_57
    rw [if_pos rfl]
    exact KF_1 h
  have set : ∀ (x q : Int32) (j : Nat), 4 + x = o32 j → j < 1082 → KI (mput m 138 j y) → ∃ v m', bX9_rule_57 x y q m = some (v, m') ∧ KI m' := fun x q j e hj K => by
    unfold bX9_rule_57
    split
    · exact KF_1 h
    · rw [e, comes_op hj, Option.bind_some]
      exact ⟨_, _, rfl, K⟩
  unfold fX9_rule
  split
  · rename_i e
    subst e
    exact set 0 _ 4 (by decide) (by omega) (KI_put h (by omega))
  split
  · rename_i e
    subst e
    exact set 1 _ 5 (by decide) (by omega) (KI_put h (by omega))
  split
  · rename_i e
    subst e
    split
    · exact no 2
    · split
      · exact no 2
      · rename_i hy
        refine set 2 1 6 (by decide) (by omega) ?_
        obtain ⟨h1, h2, h3, ⟨t, t1, t2⟩, k, k1, k2⟩ := h
        refine ⟨MI_far (by omega) h1, TX_same h2 (fun j hj => by rw [mput_get, if_neg (by omega)]), ?_, ⟨t, t1, by rw [mput_get, if_neg (by omega)]; exact t2⟩, k, k1, by rw [mput_get, if_neg (by omega)]; exact k2⟩
        unfold OD
        rw [mput_get, if_pos ⟨rfl, rfl⟩]
        exact fun w => hy (by rw [w]; decide)
  · exact no x
