/-! the model's sheets -/
def SH (m : Mem) : Prop := ∀ k, k < 4 → ∃ n, n ≤ 24 ∧ m 152 k = o32 n
theorem KI_off {m : Mem} {c j : Nat} {v : Int32} (h : KI m) (hc : c ≠ 138) : KI (mput m c j v) := by
  obtain ⟨h1, h2, h3, ⟨n, n1, n2⟩, k, k1, k2⟩ := h
  have e : ∀ z, mput m c j v 138 z = m 138 z := fun z => by rw [mput_get, if_neg (fun w => hc w.1.symm)]
  exact ⟨MI_far (.inl hc) h1, TX_same h2 (fun z _ => e z), by unfold OD; rw [e]; exact h3, ⟨n, n1, by rw [e]; exact n2⟩, k, k1, by rw [e]; exact k2⟩
theorem SH_off {m : Mem} {c j : Nat} {v : Int32} (h : SH m) (hc : c ≠ 152) : SH (mput m c j v) := fun k hk => by
  obtain ⟨n, n1, n2⟩ := h k hk
  exact ⟨n, n1, by rw [mput_get, if_neg (fun w => hc w.1.symm)]; exact n2⟩
theorem fndK {m : Mem} (h : KI m) (hs : SH m) : (∃ v m', (fX9_finding (-1000001) m).bind (fun q => some (q.1, q.2)) = some (v, m') ∧ KI m' ∧ SH m') ∧ ∃ v m', (fX9_finding (-1000002) m).bind (fun q => some (q.1, q.2)) = some (v, m') ∧ KI m' ∧ SH m' := by
  have e2 : fX9_finding (-1000002) m = some (-1000002, mput m 141 2 (m 141 2 + 1)) := by
    unfold fX9_finding
    rw [if_pos (by decide), if_pos (by decide)]
    rfl
  exact ⟨⟨_, _, by rw [fnd1]; rfl, KI_off h (by omega), SH_off hs (by omega)⟩, ⟨_, _, by rw [e2]; rfl, KI_off h (by omega), SH_off hs (by omega)⟩⟩
theorem isSheet_op (x : Int32) : fX9_isSheet x = some 0 ∨ ∃ k, k < 4 ∧ x = o32 k ∧ fX9_isSheet x = some 1 := by
  unfold fX9_isSheet
  have w : fX9_within x 0 3 = 0 ∨ fX9_within x 0 3 = 1 := by
    unfold fX9_within
    split
    · exact .inl rfl
    · split
      · exact .inl rfl
      · exact .inr rfl
  rw [if_pos w]
  rcases w with w | w
  · exact .inl (by rw [w])
  · right
    have n0 : fX9_within x (o32 0) (o32 3) ≠ 0 := fun z => by
      have z' : fX9_within x 0 3 = 0 := z
      rw [w] at z'
      exact absurd z' (by decide)
    obtain ⟨k, _, k3, e⟩ := within_lh (l := 0) (h := 3) (by omega) (by omega) n0
    exact ⟨k, by omega, e, by rw [w]⟩
theorem put_op {m : Mem} (x y z : Int32) (h : KI m) (hs : SH m) : ∃ v m', fX9_put x y z m = some (v, m') ∧ KI m' ∧ SH m' := by
  obtain ⟨no1, no2⟩ := fndK h hs
  unfold fX9_put
  rcases isSheet_op x with e | ⟨k, hk, ex, e⟩
  · rw [e, Option.bind_some, if_pos rfl]
    exact no1
  · subst ex
    have bk : inb (o32 k) 4 := o_inb hk (by omega)
    have tk : (o32 k).toNatClampNeg = k := o_tn (by omega)
    obtain ⟨n, n24, en⟩ := hs k hk
    rw [e, Option.bind_some, if_neg (by decide), if_pos bk]
    split
    · exact no2
    · by_cases q : fX9_within y 0 (m 152 (o32 k).toNatClampNeg - 1) = 0
      · rw [if_pos q]
        exact no1
      · rw [if_neg q]
        rw [tk, en] at q
        obtain ⟨j, hj, ej⟩ : ∃ j, j < 24 ∧ y = o32 j := by
          by_cases n0 : n = 0
          · exfalso
            subst n0
            unfold fX9_within at q
            by_cases q1 : y < 0
            · rw [if_pos q1] at q; exact q rfl
            · rw [if_neg q1] at q
              by_cases q2 : o32 0 - 1 < y
              · rw [if_pos q2] at q; exact q rfl
              · rw [Int32.lt_iff_toInt_lt] at q1 q2
                have e0 : (0 : Int32).toInt = 0 := rfl
                have e9 : (o32 0 - 1).toInt = -1 := by decide
                omega
          · rw [less1' (by omega) (by omega)] at q
            obtain ⟨j, _, j2, ej⟩ := within_lh (l := 0) (h := n - 1) (by omega) (by omega) q
            exact ⟨j, by omega, ej⟩
        subst ej
        have ei : (24 : Int32) * o32 k + o32 j = o32 (24 * k + j) := by
          show o32 24 * o32 k + o32 j = _
          rw [o_mul, o_add]
        have go : ∀ w, ∃ v m', bX9_put_96 (24 * o32 k + o32 j) w m = some (v, m') ∧ KI m' ∧ SH m' := fun w => by
          unfold bX9_put_96
          rw [ei, if_pos (o_inb (by omega) (by omega))]
          exact ⟨_, _, rfl, KI_off h (by omega), SH_off hs (by omega)⟩
        split
        · exact go _
        · split
          · exact go _
          · exact go _
