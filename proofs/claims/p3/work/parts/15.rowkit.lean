/-! how the tables' rows are given -/
def jG : List Cond := lw_tbl.filter goodWord
theorem jg_in {w : Cond} (h : w ∈ lw_tbl) (hg : goodWord w = true) : w ∈ jG := List.mem_filter.mpr ⟨h, hg⟩
theorem jG_good : ∀ w ∈ jG, goodWord w = true := fun w h => (List.mem_filter.mp h).2
theorem jG_in : ∀ w ∈ jG, w ∈ lw_tbl := fun w h => (List.mem_filter.mp h).1
theorem jt_n {P : jI → Prop} {b : Bool} {l r : Option jI} (hl : ∀ x, l = some x → P x) (hr : ∀ x, r = some x → P x) : ∀ x, (bif b then l else r) = some x → P x := by
  cases b
  · exact hr
  · exact hl
theorem jt_l {P : Nat → jI → Prop} {pc k : Nat} {y : jI} (h : P k y) : ∀ x, (bif Nat.beq pc k then some y else none) = some x → P pc x := by
  intro x hx
  cases hb : Nat.beq pc k with
  | false => rw [hb] at hx; cases hx
  | true =>
    rw [hb] at hx
    cases hx
    rw [Nat.eq_of_beq_eq_true hb]
    exact h
section JO
variable {own : String} {ini : Prop} {mt : Nat → Option jM} {cc : ByteArray} {pc i a b c : Nat} {k : Int64}
theorem jmk {ins : Instr} {len : Nat} (hd : decode cc pc = .ok (ins, len)) (hl : jl ins len = true) (he : jext jG own ini mt pc (ins, len, a, b, c, k)) : jok jG own ini mt cc pc (ins, len, a, b, c, k) := And.intro hd (And.intro hl he)
theorem ok_get (hd : decode cc pc = .ok (.getfield i, 3)) (q : vw_C) (h1 : vwCl[a]? = some q) (h2 : b < q.2.2) (h3 : ∀ w ∈ u_ws q.1 q.2.1 q.2.2, w ∈ jG) (h4 : Cond.fieldLink own i (q.2.1 b).1 (q.2.1 b).2.1 (q.2.1 b).2.2.1 ∈ jG) : jok jG own ini mt cc pc (.getfield i, 3, a, b, 0, k) := jmk hd rfl (Or.inl (And.intro rfl (Exists.intro q (And.intro h1 (And.intro h2 (And.intro h3 h4))))))
theorem ok_getv (hd : decode cc pc = .ok (.getfield i, 3)) (h : Cond.fieldLink own i "java/lang/String" "value" "[B" ∈ jG) : jok jG own ini mt cc pc (.getfield i, 3, a, 0, 9, k) := jmk hd rfl (Or.inr (And.intro rfl (Or.inl (And.intro rfl h))))
theorem ok_getc (hd : decode cc pc = .ok (.getfield i, 3)) (h : Cond.fieldLink own i "java/lang/String" "coder" "B" ∈ jG) : jok jG own ini mt cc pc (.getfield i, 3, a, 1, 9, k) := jmk hd rfl (Or.inr (And.intro rfl (Or.inr (And.intro rfl h))))
theorem ok_gstz (hd : decode cc pc = .ok (.getstatic i, 3)) (h : Cond.fieldLink own i "java/lang/String" "COMPACT_STRINGS" "Z" ∈ jG) : jok jG own ini mt cc pc (.getstatic i, 3, a, 9, c, k) := jmk hd rfl (Or.inl (And.intro rfl h))
theorem ok_put (hd : decode cc pc = .ok (.putfield i, 3)) (q : vw_C) (ty0 : Nat → FieldType) (h1 : vwCl[a]? = some q) (h2 : b < q.2.2) (h3 : ∀ w ∈ u_ws q.1 q.2.1 q.2.2, w ∈ jG) (h4 : Cond.fieldLink own i (q.2.1 b).1 (q.2.1 b).2.1 (q.2.1 b).2.2.1 ∈ jG) (h5 : ∀ k, k < q.2.2 → parseFieldDescriptor (q.2.1 k).2.2.1 = some (ty0 k)) (h6 : ∀ x, x < q.2.2 → ∀ y, y < q.2.2 → x ≠ y → (q.2.1 x).2.1 ≠ (q.2.1 y).2.1) (h7 : jtyc c (ty0 b)) (h8 : (q.2.1 b).2.2.2 = false ∨ ((q.2.1 b).2.2.2 = true ∧ ini ∧ (q.2.1 b).1 = own)) : jok jG own ini mt cc pc (.putfield i, 3, a, b, c, k) := jmk hd rfl (Exists.intro q (Exists.intro ty0 (And.intro h1 (And.intro h2 (And.intro h3 (And.intro h4 (And.intro h5 (And.intro h6 (And.intro h7 h8)))))))))
theorem tc_0 : jtyc 0 .int := Or.inl (And.intro rfl rfl)
theorem tc_1 : jtyc 1 .boolean := Or.inr (Or.inl (And.intro rfl rfl))
theorem tc_o {n : String} : jtyc 2 (.object n) := Or.inr (Or.inr (And.intro rfl (Or.inl (Exists.intro n rfl))))
theorem tc_a {t : FieldType} : jtyc 2 (.array t) := Or.inr (Or.inr (And.intro rfl (Or.inr (Exists.intro t rfl))))
theorem ok_gst (hd : decode cc pc = .ok (.getstatic i, 3)) (q : String × String × List Int32) (h1 : jst[a]? = some q) (h2 : Cond.fieldLink own i q.1 q.2.1 "[I" ∈ jG) : jok jG own ini mt cc pc (.getstatic i, 3, a, 0, c, k) := jmk hd rfl (Or.inr (And.intro rfl (Exists.intro q (And.intro h1 h2))))
theorem ok_new (hd : decode cc pc = .ok (.new i, 3)) (q : vw_C) (ty0 : Nat → FieldType) (h1 : vwCl[a]? = some q) (h2 : ∀ w ∈ u_ws q.1 q.2.1 q.2.2, w ∈ jG) (h3 : ∀ k, k < q.2.2 → parseFieldDescriptor (q.2.1 k).2.2.1 = some (ty0 k)) (h4 : Cond.classLink own i q.1 ∈ jG) (h5 : Cond.instantiable q.1 q.2.2 ∈ jG) (h6 : Cond.initialized q.1 ∈ jG) (h7 : (jdf a).length = q.2.2) (h8 : ∀ j, j < q.2.2 → defaultValue (ty0 j) = vp_V (jdf a) j) : jok jG own ini mt cc pc (.new i, 3, a, b, c, k) := jmk hd rfl (Exists.intro q (Exists.intro ty0 (And.intro h1 (And.intro h2 (And.intro h3 (And.intro h4 (And.intro h5 (And.intro h6 (And.intro h7 h8)))))))))
theorem ok_nwa (hd : decode cc pc = .ok (.newarray .int, 2)) (h : Cond.arrayClass .int ∈ jG) : jok jG own ini mt cc pc (.newarray .int, 2, a, b, c, k) := jmk hd rfl (And.intro rfl h)
theorem ok_nwq (hd : decode cc pc = .ok (.anewarray i, 3)) (h : a = 2 ∨ a = 3) (h2 : Cond.classLink own i (jover a) ∈ jG) : jok jG own ini mt cc pc (.anewarray i, 3, a, b, c, k) := jmk hd rfl (And.intro h h2)
theorem ok_nwg (hd : decode cc pc = .ok (.multianewarray i 2, 4)) (h : Cond.classLink own i "[[I" ∈ jG) (h2 : Cond.arrayClass .int ∈ jG) : jok jG own ini mt cc pc (.multianewarray i 2, 4, a, b, c, k) := jmk hd rfl (And.intro rfl (And.intro h h2))
theorem ok_ldcI (hd : decode cc pc = .ok (.ldc i, 2)) (h : Cond.constant own i k.toInt32 ∈ jG) : jok jG own ini mt cc pc (.ldc i, 2, 0, b, c, k) := jmk hd rfl (Or.inl (And.intro rfl h))
theorem ok_ldcS (hd : decode cc pc = .ok (.ldc i, 2)) (z : Nat) (q : String × Nat × String) (h1 : jstr[z]? = some q) (h2 : q.1 = own) (h3 : q.2.1 = i) : jok jG own ini mt cc pc (.ldc i, 2, 1, 10 + z, c, k) := jmk hd rfl (Or.inr (And.intro rfl (Exists.intro z (Exists.intro q (And.intro rfl (And.intro h1 (And.intro h2 h3)))))))
theorem ok_ldcw (hd : decode cc pc = .ok (.ldc_w i, 3)) (h : Cond.constant own i k.toInt32 ∈ jG) : jok jG own ini mt cc pc (.ldc_w i, 3, a, b, c, k) := jmk hd rfl h
theorem ok_ldc2 (hd : decode cc pc = .ok (.ldc2_w i, 3)) (h : Cond.constantLong own i k ∈ jG) : jok jG own ini mt cc pc (.ldc2_w i, 3, a, b, c, k) := jmk hd rfl h
theorem ok_go {off : Int} (hd : decode cc pc = .ok (.goto off, 3)) (h : (pc : Int) + off = (a : Int)) : jok jG own ini mt cc pc (.goto off, 3, a, b, c, k) := jmk hd rfl h
theorem ok_if {off : Int} {q : ClassFile.Cond} (hd : decode cc pc = .ok (.ifCond q off, 3)) (h : (pc : Int) + off = (a : Int)) : jok jG own ini mt cc pc (.ifCond q off, 3, a, b, c, k) := jmk hd rfl h
theorem ok_icmp {off : Int} {q : ClassFile.Cond} (hd : decode cc pc = .ok (.if_icmp q off, 3)) (h : (pc : Int) + off = (a : Int)) : jok jG own ini mt cc pc (.if_icmp q off, 3, a, b, c, k) := jmk hd rfl h
theorem jcB {q : jM} {n : Nat} (h1 : Cond.code q.2.1 q.2.2.1 q.2.2.2.1 q.2.2.2.2.1 ∈ jG) (h2 : Cond.initialized q.2.1.cls ∈ jG) (h3 : q.2.1.cls ≠ "java/lang/invoke/MethodHandle") (h4 : q.2.1.cls ≠ "java/lang/invoke/VarHandle") (h5 : (parseMethodDescriptor q.2.1.desc).map (fun d => d.parameters.length) = some n) (h6 : q.2.2.2.1 ≤ 40) : jcalB jG q n := And.intro h1 (And.intro h2 (And.intro (And.intro h3 (And.intro h4 h5)) h6))
theorem ok_V (hd : decode cc pc = .ok (.invokevirtual i, 3)) (q : jM) (z : vw_C) (h1 : mt a = some q) (h2 : vwCl[c]? = some z) (h3 : z.1 = q.2.1.cls) (h4 : jcalB jG q (b - 1)) (h5 : 1 ≤ b) (h6 : Cond.methodLink own i q.2.1 ∈ jG) (h7 : Cond.instanceMethod q.2.1 ∈ jG) (h8 : Cond.selects q.2.1.cls q.2.1 q.2.1 ∈ jG) : jok jG own ini mt cc pc (.invokevirtual i, 3, a, b, c, 0) := jmk hd rfl (Or.inl (And.intro rfl (Exists.intro q (Exists.intro z (And.intro h1 (And.intro h2 (And.intro h3 (And.intro h4 (And.intro h5 (And.intro h6 (And.intro h7 h8)))))))))))
theorem ok_K (hd : decode cc pc = .ok (.invokevirtual i, 3)) (q : jM) (h1 : mt a = some q) (h3 : q.2.1.cls = "java/lang/String") (h4 : jcalB jG q (b - 1)) (h5 : 1 ≤ b) (h6 : Cond.methodLink own i q.2.1 ∈ jG) (h7 : Cond.instanceMethod q.2.1 ∈ jG) (h8 : Cond.selects q.2.1.cls q.2.1 q.2.1 ∈ jG) : jok jG own ini mt cc pc (.invokevirtual i, 3, a, b, c, 9) := jmk hd rfl (Or.inr (And.intro rfl (Exists.intro q (And.intro h1 (And.intro h3 (And.intro h4 (And.intro h5 (And.intro h6 (And.intro h7 h8)))))))))
theorem ok_S (hd : decode cc pc = .ok (.invokestatic i, 3)) (q : jM) (h1 : mt a = some q) (h4 : jcalB jG q b) (h6 : Cond.methodLink own i q.2.1 ∈ jG) (h7 : Cond.static q.2.1 ∈ jG) : jok jG own ini mt cc pc (.invokestatic i, 3, a, b, 0, k) := jmk hd rfl (Or.inr (And.intro rfl (Exists.intro q (And.intro h1 (And.intro h4 (And.intro h6 h7))))))
theorem ok_cpy (hd : decode cc pc = .ok (.invokestatic i, 3)) (h1 : Cond.methodLink own i arraycopyName ∈ jG) (h2 : Cond.native arraycopyName ∈ jG) (h3 : Cond.static arraycopyName ∈ jG) (h4 : Cond.initialized "java/lang/System" ∈ jG) : jok jG own ini mt cc pc (.invokestatic i, 3, a, b, 1, k) := jmk hd rfl (Or.inl (And.intro rfl (And.intro h1 (And.intro h2 (And.intro h3 h4)))))
theorem ok_obj (hd : decode cc pc = .ok (.invokespecial i, 3)) (h1 : Cond.methodLink own i objectInit ∈ jG) (h2 : Cond.instanceMethod objectInit ∈ jG) (h3 : Cond.code objectInit ⟨#[0xb1]⟩ 1 none ∈ jG) : jok jG own ini mt cc pc (.invokespecial i, 3, a, b, 1, k) := jmk hd rfl (Or.inl (And.intro rfl (And.intro h1 (And.intro h2 h3))))
theorem ok_I (hd : decode cc pc = .ok (.invokespecial i, 3)) (q : jM) (h1 : mt a = some q) (h4 : jcalB jG q (b - 1)) (h5 : 1 ≤ b) (h6 : q.2.1.name = "<init>") (h7 : q.2.2.2.2.1 = none) (h8 : Cond.instanceMethod q.2.1 ∈ jG) (h9 : Cond.methodLink own i q.2.1 ∈ jG ∨ ∃ (k : Nat) (host : String), jnest[k]? = some (own, i, q.2.1, host)) : jok jG own ini mt cc pc (.invokespecial i, 3, a, b, 0, k) := jmk hd rfl (Or.inr (And.intro rfl (Exists.intro q (And.intro h1 (And.intro h4 (And.intro h5 (And.intro h6 (And.intro h7 (And.intro h8 h9)))))))))
end JO
