/-! BOTH READERS: SIGNS BETWEEN VALUES -/
/-- the sign that stands at p, of those told -/
def op1 (ops : List Nat) (sz : Nat) (B : Nat → Nat) (p : Nat) : Option Nat := if p < sz then ops.find? (fun i => sg1 i == B p) else none
theorem op1_some {ops : List Nat} {sz p i : Nat} {B : Nat → Nat} (h : op1 ops sz B p = some i) : p < sz ∧ B p = sg1 i ∧ i ∈ ops := by
  unfold op1 at h
  by_cases c : p < sz
  · rw [if_pos c] at h
    have h1 := List.find?_some h
    exact ⟨c, (beq_iff_eq.mp h1).symm, List.mem_of_find?_eq_some h⟩
  · rw [if_neg c] at h
    cases h
def OUT (sz : Nat) (m0 mr0 : Mem) (o p p1 : Nat) (L : List Nat) (m mr : Mem) : Prop := (∃ p' S, p1 < p' ∧ S.length ≤ p' - p ∧ SG S ∧ GD sz m0 mr0 o p' (L ++ S) m mr) ∨ BD sz m0 mr0 m mr
theorem opstep {u sz o p p1 i : Nat} {B : Nat → Nat} {m0 mr0 m mr : Mem} {L S1 : List Nat} {f g : Mem → Option Mem} (X : CX u sz B m0 mr0) (hf : SPEC sz m0 mr0 o f g) (hi : i < 10) (h : GD sz m0 mr0 o p1 (L ++ S1) m mr) (hS : SG S1) (hl : S1.length ≤ p1 - p) (hp : p < p1) (hp1 : p1 < sz) : ∃ m' mr', ((f (mput m 118 0 (m 118 0 + 1))).bind (fX2_note (ctok (20000 + i)))) = some m' ∧ ((g (mput mr 137 7 (o32 (p1 + 1)))).bind (fX9_codes (o32 (20000 + i)))) = some mr' ∧ OUT sz m0 mr0 o p p1 L m' mr' := by
  have ha := adv_g h hp1
  obtain ⟨m1, mr1, e1, e2, e3⟩ := hf.1 _ _ _ _ ha
  rw [e1, e2, Option.bind_some, Option.bind_some]
  rcases e3 with ⟨p2, S2, q1, q2, q3, q4⟩ | e3
  · have hp2 := q4.2.1
    have hL := h.2.2.2.2.2.2.2.1
    have l1 : (L ++ S1 ++ S2).length + 1 ≤ p2 := by
      rw [List.length_append]
      omega
    obtain ⟨m2, mr2, n1, n2, n3⟩ := note_g (t := 20000 + i) q4 X.2.1 l1
    refine ⟨m2, mr2, n1, n2, .inl ⟨p2, S1 ++ S2 ++ [20000 + i], by omega, ?_, SG_op hS q3 (by omega) (by omega), ?_⟩⟩
    · rw [List.length_append, List.length_append, List.length_singleton]
      omega
    · rw [← List.append_assoc, ← List.append_assoc]
      exact n3
  · obtain ⟨m2, mr2, n1, n2, n3⟩ := note_b e3 (ctok (20000 + i)) (o32 (20000 + i))
    exact ⟨m2, mr2, n1, n2, .inr n3⟩
theorem levA {u sz o : Nat} {B : Nat → Nat} {m0 mr0 : Mem} {f g : Mem → Option Mem} {bC : Int32 × Mem → Option ((Int32 × Mem) ⊕ Mem)} {bM : Int32 × Mem → Option ((Int32 × Mem) ⊕ Mem)} {pick : Mem → Option (Int32 × Mem)} {ops : List Nat} (X : CX u sz B m0 mr0) (hf : SPEC sz m0 mr0 o f g) (ho : ∀ i ∈ ops, i < 10)
    (C1 : ∀ p L m mr k i, GD sz m0 mr0 o p L m mr → k < 60 → op1 ops sz B p = some i → bC (o32 k, m) = ((f (mput m 118 0 (m 118 0 + 1))).bind (fX2_note (ctok (20000 + i)))).map (fun q => .inl (o32 (k + 1), q)))
    (C2 : ∀ p L m mr k, GD sz m0 mr0 o p L m mr → k ≤ 60 → op1 ops sz B p = none → bC (o32 k, m) = some (.inr m))
    (C3 : ∀ m mr k, BD sz m0 mr0 m mr → k ≤ 60 → bC (o32 k, m) = some (.inr m))
    (M1 : ∀ i mr, i < 10 → bM (o32 (20000 + i), mr) = (((g mr).bind (fX9_codes (o32 (20000 + i)))).bind pick).map .inl)
    (M2 : ∀ mr, bM (0, mr) = some (.inr mr))
    (P1 : ∀ p L m mr i, GD sz m0 mr0 o p L m mr → op1 ops sz B p = some i → pick mr = some (o32 (20000 + i), mput mr 137 7 (o32 (p + 1))))
    (P2 : ∀ p L m mr, GD sz m0 mr0 o p L m mr → op1 ops sz B p = none → pick mr = some (0, mr))
    (P3 : ∀ m mr, BD sz m0 mr0 m mr → pick mr = some (0, mr)) : SPEC sz m0 mr0 o (fun m => (f m).bind fun q => lp bC fu (0, q)) (fun mr => (g mr).bind fun q => (pick q).bind fun s => lp bM fu s) := by
  have bad : ∀ m mr k z z', BD sz m0 mr0 m mr → k ≤ 60 → 0 < z → 0 < z' → ∃ m' mr', lp bC z (o32 k, m) = some m' ∧ ((pick mr).bind fun s => lp bM z' s) = some mr' ∧ BD sz m0 mr0 m' mr' := fun m mr k z z' h hk hz hz' => by
    obtain ⟨z, rfl⟩ : ∃ y, z = y + 1 := ⟨z - 1, by omega⟩
    obtain ⟨z', rfl⟩ : ∃ y, z' = y + 1 := ⟨z' - 1, by omega⟩
    rw [P3 m mr h, Option.bind_some]
    exact ⟨m, mr, lp_e (C3 m mr k h hk), lp_e (M2 mr), h⟩
  have go : ∀ d p p1 L S1 m mr k z z', sz - p1 ≤ d → k ≤ p1 → GD sz m0 mr0 o p1 (L ++ S1) m mr → SG S1 → S1.length ≤ p1 - p → p < p1 → d + 2 < z → d + 2 < z' → ∃ m' mr', lp bC z (o32 k, m) = some m' ∧ ((pick mr).bind fun s => lp bM z' s) = some mr' ∧ ((∃ p' S, p < p' ∧ S.length ≤ p' - p ∧ SG S ∧ GD sz m0 mr0 o p' (L ++ S) m' mr') ∨ BD sz m0 mr0 m' mr') := by
    intro d
    induction d with
    | zero =>
      intro p p1 L S1 m mr k z z' hd hk h hS hl hp hz hz'
      have h1 := h.2.1
      have hs := X.2.1
      have hn : op1 ops sz B p1 = none := by unfold op1; rw [if_neg (by omega)]
      obtain ⟨z, rfl⟩ : ∃ y, z = y + 1 := ⟨z - 1, by omega⟩
      obtain ⟨z', rfl⟩ : ∃ y, z' = y + 1 := ⟨z' - 1, by omega⟩
      rw [P2 _ _ _ _ h hn, Option.bind_some]
      exact ⟨m, mr, lp_e (C2 _ _ _ _ k h (by omega) hn), lp_e (M2 mr), .inl ⟨p1, S1, hp, hl, hS, h⟩⟩
    | succ d ih =>
      intro p p1 L S1 m mr k z z' hd hk h hS hl hp hz hz'
      have h1 := h.2.1
      have hs := X.2.1
      obtain ⟨z, rfl⟩ : ∃ y, z = y + 1 := ⟨z - 1, by omega⟩
      obtain ⟨z', rfl⟩ : ∃ y, z' = y + 1 := ⟨z' - 1, by omega⟩
      cases hn : op1 ops sz B p1 with
      | none =>
        rw [P2 _ _ _ _ h hn, Option.bind_some]
        exact ⟨m, mr, lp_e (C2 _ _ _ _ k h (by omega) hn), lp_e (M2 mr), .inl ⟨p1, S1, hp, hl, hS, h⟩⟩
      | some i =>
        obtain ⟨o1, o2, o3⟩ := op1_some hn
        have i10 := ho i o3
        obtain ⟨m', mr', s1, s2, s3⟩ := opstep X hf i10 h hS hl hp o1
        have c1 := C1 _ _ _ _ k i h (by omega) hn
        rw [s1] at c1
        rw [P1 _ _ _ _ _ h hn, Option.bind_some, lp_i c1]
        have m1 := M1 i (mput mr 137 7 (o32 (p1 + 1))) i10
        rw [s2, Option.bind_some] at m1
        have lift : ∀ r, ((pick mr').bind fun s => lp bM z' s) = some r → lp bM (z' + 1) (o32 (20000 + i), mput mr 137 7 (o32 (p1 + 1))) = some r := fun r hr => by
          cases hp : pick mr' with
          | none => rw [hp] at hr; cases hr
          | some s =>
            rw [hp] at hr m1
            exact (lp_i m1).trans hr
        rcases s3 with ⟨p', S, q1, q2, q3, q4⟩ | s3
        · obtain ⟨m2, mr2, r1, r2, r3⟩ := ih p p' L S m' mr' (k + 1) z z' (by omega) (by omega) q4 q3 q2 (by omega) (by omega) (by omega)
          exact ⟨m2, mr2, r1, lift _ r2, r3⟩
        · obtain ⟨m2, mr2, r1, r2, r3⟩ := bad m' mr' (k + 1) z z' s3 (by omega) (by omega) (by omega)
          exact ⟨m2, mr2, r1, lift _ r2, .inr r3⟩
  refine ⟨fun p L m mr h => ?_, fun m mr h => ?_⟩
  · obtain ⟨m1, mr1, e1, e2, e3⟩ := hf.1 p L m mr h
    dsimp only
    rw [e1, e2, Option.bind_some, Option.bind_some]
    rcases e3 with ⟨p1, S1, q1, q2, q3, q4⟩ | e3
    · have hs := X.2.1
      have h1 := q4.2.1
      exact go sz p p1 L S1 m1 mr1 0 fu fu (by omega) (by omega) q4 q3 q2 q1 (lt_fu (by omega)) (lt_fu (by omega))
    · obtain ⟨m2, mr2, r1, r2, r3⟩ := bad m1 mr1 0 fu fu e3 (by omega) (lt_fu (by omega)) (lt_fu (by omega))
      exact ⟨m2, mr2, r1, r2, .inr r3⟩
  · obtain ⟨m1, mr1, e1, e2, e3⟩ := hf.2 m mr h
    dsimp only
    rw [e1, e2, Option.bind_some, Option.bind_some]
    exact bad m1 mr1 0 fu fu e3 (by omega) (lt_fu (by omega)) (lt_fu (by omega))
theorem levB {u sz o i : Nat} {B : Nat → Nat} {m0 mr0 : Mem} {f g : Mem → Option Mem} {bC : Int32 × Mem → Option ((Int32 × Mem) ⊕ Mem)} {bM : Mem → Option (Mem ⊕ Mem)} (X : CX u sz B m0 mr0) (hf : SPEC sz m0 mr0 o f g) (i10 : i < 10)
    (C1 : ∀ p L m mr k, GD sz m0 mr0 o p L m mr → k < 60 → op1 [i] sz B p = some i → bC (o32 k, m) = ((f (mput m 118 0 (m 118 0 + 1))).bind (fX2_note (ctok (20000 + i)))).map (fun q => .inl (o32 (k + 1), q)))
    (C2 : ∀ p L m mr k, GD sz m0 mr0 o p L m mr → k ≤ 60 → op1 [i] sz B p = none → bC (o32 k, m) = some (.inr m))
    (C3 : ∀ m mr k, BD sz m0 mr0 m mr → k ≤ 60 → bC (o32 k, m) = some (.inr m))
    (M1 : ∀ p L m mr, GD sz m0 mr0 o p L m mr → op1 [i] sz B p = some i → bM mr = ((g (mput mr 137 7 (o32 (p + 1)))).bind (fX9_codes (o32 (20000 + i)))).map .inl)
    (M2 : ∀ p L m mr, GD sz m0 mr0 o p L m mr → op1 [i] sz B p = none → bM mr = some (.inr mr))
    (M3 : ∀ m mr, BD sz m0 mr0 m mr → bM mr = some (.inr mr)) : SPEC sz m0 mr0 o (fun m => (f m).bind fun q => lp bC fu (0, q)) (fun mr => (g mr).bind fun q => lp bM fu q) := by
  have bad : ∀ m mr k z z', BD sz m0 mr0 m mr → k ≤ 60 → 0 < z → 0 < z' → ∃ m' mr', lp bC z (o32 k, m) = some m' ∧ lp bM z' mr = some mr' ∧ BD sz m0 mr0 m' mr' := fun m mr k z z' h hk hz hz' => by
    obtain ⟨z, rfl⟩ : ∃ y, z = y + 1 := ⟨z - 1, by omega⟩
    obtain ⟨z', rfl⟩ : ∃ y, z' = y + 1 := ⟨z' - 1, by omega⟩
    exact ⟨m, mr, lp_e (C3 m mr k h hk), lp_e (M3 m mr h), h⟩
  have go : ∀ d p p1 L S1 m mr k z z', sz - p1 ≤ d → k ≤ p1 → GD sz m0 mr0 o p1 (L ++ S1) m mr → SG S1 → S1.length ≤ p1 - p → p < p1 → d + 2 < z → d + 2 < z' → ∃ m' mr', lp bC z (o32 k, m) = some m' ∧ lp bM z' mr = some mr' ∧ ((∃ p' S, p < p' ∧ S.length ≤ p' - p ∧ SG S ∧ GD sz m0 mr0 o p' (L ++ S) m' mr') ∨ BD sz m0 mr0 m' mr') := by
    intro d
    induction d with
    | zero =>
      intro p p1 L S1 m mr k z z' hd hk h hS hl hp hz hz'
      have h1 := h.2.1
      have hs := X.2.1
      have hn : op1 [i] sz B p1 = none := by unfold op1; rw [if_neg (by omega)]
      obtain ⟨z, rfl⟩ : ∃ y, z = y + 1 := ⟨z - 1, by omega⟩
      obtain ⟨z', rfl⟩ : ∃ y, z' = y + 1 := ⟨z' - 1, by omega⟩
      exact ⟨m, mr, lp_e (C2 _ _ _ _ k h (by omega) hn), lp_e (M2 _ _ _ _ h hn), .inl ⟨p1, S1, hp, hl, hS, h⟩⟩
    | succ d ih =>
      intro p p1 L S1 m mr k z z' hd hk h hS hl hp hz hz'
      have h1 := h.2.1
      have hs := X.2.1
      obtain ⟨z, rfl⟩ : ∃ y, z = y + 1 := ⟨z - 1, by omega⟩
      obtain ⟨z', rfl⟩ : ∃ y, z' = y + 1 := ⟨z' - 1, by omega⟩
      cases hn : op1 [i] sz B p1 with
      | none => exact ⟨m, mr, lp_e (C2 _ _ _ _ k h (by omega) hn), lp_e (M2 _ _ _ _ h hn), .inl ⟨p1, S1, hp, hl, hS, h⟩⟩
      | some j =>
        obtain ⟨o1, o2, o3⟩ := op1_some hn
        have ij : j = i := List.mem_singleton.mp o3
        subst ij
        obtain ⟨m', mr', s1, s2, s3⟩ := opstep X hf i10 h hS hl hp o1
        have c1 := C1 _ _ _ _ k h (by omega) hn
        rw [s1] at c1
        have m1 := M1 _ _ _ _ h hn
        rw [s2] at m1
        rw [lp_i c1, lp_i m1]
        rcases s3 with ⟨p', S, q1, q2, q3, q4⟩ | s3
        · exact ih p p' L S m' mr' (k + 1) z z' (by omega) (by omega) q4 q3 q2 (by omega) (by omega) (by omega)
        · obtain ⟨m2, mr2, r1, r2, r3⟩ := bad m' mr' (k + 1) z z' s3 (by omega) (by omega) (by omega)
          exact ⟨m2, mr2, r1, r2, .inr r3⟩
  refine ⟨fun p L m mr h => ?_, fun m mr h => ?_⟩
  · obtain ⟨m1, mr1, e1, e2, e3⟩ := hf.1 p L m mr h
    dsimp only
    rw [e1, e2, Option.bind_some, Option.bind_some]
    rcases e3 with ⟨p1, S1, q1, q2, q3, q4⟩ | e3
    · have hs := X.2.1
      have h1 := q4.2.1
      exact go sz p p1 L S1 m1 mr1 0 fu fu (by omega) (by omega) q4 q3 q2 q1 (lt_fu (by omega)) (lt_fu (by omega))
    · obtain ⟨m2, mr2, r1, r2, r3⟩ := bad m1 mr1 0 fu fu e3 (by omega) (lt_fu (by omega)) (lt_fu (by omega))
      exact ⟨m2, mr2, r1, r2, .inr r3⟩
  · obtain ⟨m1, mr1, e1, e2, e3⟩ := hf.2 m mr h
    dsimp only
    rw [e1, e2, Option.bind_some, Option.bind_some]
    exact bad m1 mr1 0 fu fu e3 (by omega) (lt_fu (by omega)) (lt_fu (by omega))
