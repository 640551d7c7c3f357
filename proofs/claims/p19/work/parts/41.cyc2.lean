/-! the same from the other side; faces; a turn keeps them -/
theorem prv_rmv {l : List Nat} {x y : Nat} (hx : x ∈ l) (hy : y ∈ l) (hn : x ≠ y) (cx : l.count x ≤ 1) (cy : l.count y ≤ 1) : prv (rmv l x) y = if prv l y = x then prv l x else prv l y := by
  obtain ⟨A, B, C, e, h1, h2, h3, h4, h5, h6⟩ := split2 hx hy hn cx cy
  rcases e with e | e
  · rw [e, rmv_sp h1]
    have n1 : prv (A ++ x :: (B ++ y :: C)) y = hd ((A ++ x :: B).reverse ++ (C.reverse ++ [y])) := by
      rw [show A ++ x :: (B ++ y :: C) = (A ++ x :: B) ++ y :: C by simp]
      exact prv_sp (by simp [h4, h5, hn.symm])
    have n2 : prv (A ++ (B ++ y :: C)) y = hd ((A ++ B).reverse ++ (C.reverse ++ [y])) := by
      rw [show A ++ (B ++ y :: C) = (A ++ B) ++ y :: C by simp]
      exact prv_sp (by simp [h4, h5])
    rw [n1, n2, prv_sp h1]
    rcases ends B with rfl | ⟨B', w, rfl⟩
    · rcases ends A with rfl | ⟨A', z, rfl⟩
      · rcases ends C with rfl | ⟨C', v, rfl⟩
        · simp [hd]
        · simp [hd]
      · simp [hd]
    · have hw : w ≠ x := fun z => h2 (by simp [z])
      simp [hd, hw]
  · rw [e]
    have r1 : rmv (A ++ y :: (B ++ x :: C)) x = A ++ y :: (B ++ C) := by
      rw [show A ++ y :: (B ++ x :: C) = (A ++ y :: B) ++ x :: C by simp, rmv_sp (by simp [h1, h2, hn])]
      simp
    have n3 : prv (A ++ y :: (B ++ x :: C)) x = hd ((A ++ y :: B).reverse ++ (C.reverse ++ [x])) := by
      rw [show A ++ y :: (B ++ x :: C) = (A ++ y :: B) ++ x :: C by simp]
      exact prv_sp (by simp [h1, h2, hn])
    rw [r1, prv_sp h4, prv_sp h4, n3]
    rcases ends A with rfl | ⟨A', z, rfl⟩
    · rcases ends C with rfl | ⟨C', v, rfl⟩
      · simp [hd]
      · have hv : v ≠ x := fun z => h3 (by simp [z])
        simp [hd, hv]
    · have hz : z ≠ x := fun w => h1 (by simp [w])
      simp [hd, hz]
theorem prv_insb {l : List Nat} {p d y : Nat} (hp : p ∈ l) (hy : y ∈ l) (cp : l.count p ≤ 1) (cy : l.count y ≤ 1) (hd2 : d ≠ y) : prv (insb l p d) y = if prv l y = p then d else prv l y := by
  by_cases e : y = p
  · subst e
    obtain ⟨A, B, e, h1, h2⟩ := split1 hy cy
    rw [e, insb_sp h1, prv_sp h1, prv_sp h1]
    rcases ends A with rfl | ⟨A', z, rfl⟩
    · rcases ends B with rfl | ⟨B', v, rfl⟩
      · simp [hd]
      · have hv : v ≠ y := fun z => h2 (by simp [z])
        simp [hd, hv]
    · have hz : z ≠ y := fun w => h1 (by simp [w])
      simp [hd, hz]
  · obtain ⟨A, B, C, e2, h1, h2, h3, h4, h5, h6⟩ := split2 hp hy (fun z => e z.symm) cp cy
    rcases e2 with e2 | e2
    · rw [e2, insb_sp h1]
      have n1 : prv (A ++ p :: (B ++ y :: C)) y = hd ((A ++ p :: B).reverse ++ (C.reverse ++ [y])) := by
        rw [show A ++ p :: (B ++ y :: C) = (A ++ p :: B) ++ y :: C by simp]
        exact prv_sp (by simp [h4, h5, e])
      have n2 : prv (A ++ p :: d :: (B ++ y :: C)) y = hd ((A ++ p :: d :: B).reverse ++ (C.reverse ++ [y])) := by
        rw [show A ++ p :: d :: (B ++ y :: C) = (A ++ p :: d :: B) ++ y :: C by simp]
        exact prv_sp (by simp [h4, h5, e, hd2.symm])
      rw [n1, n2]
      rcases ends B with rfl | ⟨B', w, rfl⟩
      · simp [hd]
      · have hw : w ≠ p := fun z => h2 (by simp [z])
        simp [hd, hw]
    · rw [e2, show A ++ y :: (B ++ p :: C) = (A ++ y :: B) ++ p :: C by simp, insb_sp (by simp [h1, h2, Ne.symm e])]
      rw [show (A ++ y :: B) ++ p :: d :: C = A ++ y :: (B ++ p :: d :: C) by simp, show (A ++ y :: B) ++ p :: C = A ++ y :: (B ++ p :: C) by simp, prv_sp h4, prv_sp h4]
      rcases ends A with rfl | ⟨A', z, rfl⟩
      · rcases ends C with rfl | ⟨C', v, rfl⟩
        · simp [hd]
        · have hv : v ≠ p := fun z => h3 (by simp [z])
          simp [hd, hv]
      · have hz : z ≠ p := fun w => h1 (by simp [w])
        simp [hd, hz]
/-- every corner is one of three (or of GLASS) -/
noncomputable def FC (r : Nat → List Nat) (al : Nat → Bool) : Prop := ∀ b, b < 16 → al b = true → ∀ x ∈ r b, x ≠ 16 → nxt (r b) x = prv (r x) b
theorem turn_FC {r : Nat → List Nat} {al : Nat → Bool} {a b : Nat} (ha : a < 16) (hb : b < 16) (hg : Gr r al) (hf : FC r al) (ala : al a = true) (alb : al b = true) (hab : b ∈ r a) (hla : 4 ≤ (r a).length) (hlb : 4 ≤ (r b).length) (hcd : prv (r a) b ≠ nxt (r a) b) (hn : if prv (r a) b = 16 then 16 ∉ r (nxt (r a) b) else nxt (r a) b ∉ r (prv (r a) b)) : FC (turnR r a b) al := by
  obtain ⟨g1, g2, g3⟩ := hg
  have ba := g1 a ha ala b hab
  have hba : b ≠ a := (ba.2 (by omega)).2.1
  have hab2 : a ∈ r b := (ba.2 (by omega)).2.2
  have hc := prv_mem hab
  have hd := nxt_mem hab
  have hcb : prv (r a) b ≠ b := prv_ne hab (g2 a ha ala b (by omega)) (by omega)
  have hdb : nxt (r a) b ≠ b := nxt_ne hab (g2 a ha ala b (by omega)) (by omega)
  have pc := g1 a ha ala _ hc
  have pd := g1 a ha ala _ hd
  have hca : prv (r a) b ≠ a := fun z => by
    by_cases e : prv (r a) b = 16
    · omega
    · exact (pc.2 e).2.1 z
  have hda : nxt (r a) b ≠ a := fun z => by
    by_cases e : nxt (r a) b = 16
    · omega
    · exact (pd.2 e).2.1 z
  -- the four corners
  have fab : prv (r b) a = nxt (r a) b := (hf a ha ala b hab (by omega)).symm
  have fba : nxt (r b) a = prv (r a) b := hf b hb alb a hab2 (by omega)
  have T : ∀ x, turnR r a b x = _ := fun x => turn_at (x := x) (fun z => hba z.symm) hca hcb hda hdb hcd
  generalize hcc : prv (r a) b = c at hc hcb pc hca hcd hn T fba
  generalize hdd : nxt (r a) b = d at hd hdb pd hda hcd hn T fab
  have cnd : d ≠ 16 → c ≠ 16 → d ∉ r c ∧ c ∉ r d := fun h1 h2 => by
    rw [if_neg h2] at hn
    refine ⟨hn, fun z => hn ?_⟩
    exact ((g1 d (by have := pd.1; omega) (pd.2 h1).1 c z).2 h2).2.2
  have cnt : ∀ u, u < 16 → al u = true → ∀ v, v ≠ 16 → (r u).count v ≤ 1 := g2
  have c16 : c ≠ 16 → c < 16 ∧ al c = true ∧ a ∈ r c ∧ b ∈ r c ∧ nxt (r c) b = a ∧ prv (r c) a = b := fun h => by
    have hc' : c < 16 := by have := pc.1; omega
    have p := pc.2 h
    have e1 : nxt (r a) c = b := (nxt_prv hab hc (cnt a ha ala b (by omega)) (cnt a ha ala c h)).mpr hcc
    have e2 : prv (r c) a = b := by rw [← hf a ha ala c hc h]; exact e1
    have e3 : b ∈ r c := by rw [← e2]; exact prv_mem p.2.2
    exact ⟨hc', p.1, p.2.2, e3, (nxt_prv p.2.2 e3 (cnt c hc' p.1 a (by omega)) (cnt c hc' p.1 b (by omega))).mpr e2, e2⟩
  have d16 : d ≠ 16 → d < 16 ∧ al d = true ∧ a ∈ r d ∧ b ∈ r d ∧ nxt (r d) a = b ∧ prv (r d) b = a := fun h => by
    have hd' : d < 16 := by have := pd.1; omega
    have p := pd.2 h
    have e1 : prv (r a) d = b := (nxt_prv hd hab (cnt a ha ala d h) (cnt a ha ala b (by omega))).mp hdd
    have e2 : nxt (r d) a = b := by rw [hf d hd' p.1 a p.2.2 (by omega)]; exact e1
    have e3 : b ∈ r d := by rw [← e2]; exact nxt_mem p.2.2
    exact ⟨hd', p.1, p.2.2, e3, e2, (nxt_prv e3 p.2.2 (cnt d hd' p.1 b (by omega)) (cnt d hd' p.1 a (by omega))).mp e2⟩
  intro u hu au v hv hv16
  have z1 := hba.symm
  have z2 := hca.symm
  have z3 := hcb.symm
  have z4 := hda.symm
  have z5 := hdb.symm
  have z6 := hcd.symm
  have eqs : ∀ {x y z : Nat}, x = y → (x = z ↔ z = y) := fun h => by rw [h]; exact eq_comm
  -- what comes next in the new rings
  have N : nxt (turnR r a b u) v = if u = c ∧ v = d then a else if u = d ∧ v = c then b else if u = a ∧ v = c then d else if u = b ∧ v = d then c else if u = c ∧ v = b then d else if u = d ∧ v = a then c else nxt (r u) v := by
    rw [T u] at hv ⊢
    by_cases h1 : u = a
    · rw [if_pos h1] at hv ⊢
      rw [rmv_mem (cnt a ha ala b (by omega))] at hv
      have q := (nxt_prv hab hv.1 (cnt a ha ala b (by omega)) (cnt a ha ala v hv16)).trans (eqs hcc)
      rw [nxt_rmv hab hv.1 (Ne.symm hv.2) (cnt a ha ala b (by omega)) (cnt a ha ala v hv16), hdd, h1]
      simp only [q]
      by_cases e : v = c
      · simp [e, z1, z2, z4]
      · simp [e, z1, z2, z4]
    · rw [if_neg h1] at hv ⊢
      by_cases h2 : u = b
      · rw [if_pos h2] at hv ⊢
        rw [rmv_mem (cnt b hb alb a (by omega))] at hv
        have q := (nxt_prv hab2 hv.1 (cnt b hb alb a (by omega)) (cnt b hb alb v hv16)).trans (eqs fab)
        rw [nxt_rmv hab2 hv.1 (Ne.symm hv.2) (cnt b hb alb a (by omega)) (cnt b hb alb v hv16), fba, h2]
        simp only [q]
        by_cases e : v = d
        · simp [e, hba, z3, z5]
        · simp [e, hba, z3, z5]
      · rw [if_neg h2] at hv ⊢
        by_cases h3 : u = c
        · have hc16 : c ≠ 16 := by omega
          obtain ⟨q1, q2, q3, q4, q5, q6⟩ := c16 hc16
          rw [if_pos ⟨h3, by omega⟩, h3] at hv ⊢
          rw [insb_mem] at hv
          by_cases e : v = d
          · rw [e, (nxt_new q4 (cnt c q1 q2 b (by omega)) (cnd (by omega) hc16).1).1, q5]
            simp
          · have hv1 : v ∈ r c := hv.resolve_left e
            rw [nxt_insb q4 hv1 (cnt c q1 q2 b (by omega)) (cnt c q1 q2 v hv16) hdb (Ne.symm e)]
            simp [e, hca, hcb, hcd]
        · rw [if_neg (fun z => h3 z.1)] at hv ⊢
          by_cases h4 : u = d
          · have hd16 : d ≠ 16 := by omega
            obtain ⟨q1, q2, q3, q4, q5, q6⟩ := d16 hd16
            rw [if_pos ⟨h4, by omega⟩, h4] at hv ⊢
            rw [insb_mem] at hv
            by_cases e : v = c
            · rw [e, (nxt_new q3 (cnt d q1 q2 a (by omega)) (cnd hd16 (by omega)).2).1, q5]
              simp [z6]
            · have hv1 : v ∈ r d := hv.resolve_left e
              rw [nxt_insb q3 hv1 (cnt d q1 q2 a (by omega)) (cnt d q1 q2 v hv16) hca (Ne.symm e)]
              simp [e, hda, hdb, z6]
          · rw [if_neg (fun z => h4 z.1)]
            simp [h1, h2, h3, h4]
  have P : ∀ u v, u < 16 → al u = true → v ≠ 16 → v ∈ turnR r a b u → prv (turnR r a b u) v = if u = c ∧ v = d then b else if u = d ∧ v = c then a else if u = a ∧ v = d then c else if u = b ∧ v = c then d else if u = c ∧ v = a then d else if u = d ∧ v = b then c else prv (r u) v := by
    intro u v hu au hv16 hv
    rw [T u] at hv ⊢
    by_cases h1 : u = a
    · rw [if_pos h1] at hv ⊢
      rw [rmv_mem (cnt a ha ala b (by omega))] at hv
      have q := ((nxt_prv hv.1 hab (cnt a ha ala v hv16) (cnt a ha ala b (by omega))).symm).trans (eqs hdd)
      rw [prv_rmv hab hv.1 (Ne.symm hv.2) (cnt a ha ala b (by omega)) (cnt a ha ala v hv16), hcc, h1]
      simp only [q]
      by_cases e : v = d
      · simp [e, z1, z2, z4]
      · simp [e, z1, z2, z4]
    · rw [if_neg h1] at hv ⊢
      by_cases h2 : u = b
      · rw [if_pos h2] at hv ⊢
        rw [rmv_mem (cnt b hb alb a (by omega))] at hv
        have q := ((nxt_prv hv.1 hab2 (cnt b hb alb v hv16) (cnt b hb alb a (by omega))).symm).trans (eqs fba)
        rw [prv_rmv hab2 hv.1 (Ne.symm hv.2) (cnt b hb alb a (by omega)) (cnt b hb alb v hv16), fab, h2]
        simp only [q]
        by_cases e : v = c
        · simp [e, hba, z3, z5]
        · simp [e, hba, z3, z5]
      · rw [if_neg h2] at hv ⊢
        by_cases h3 : u = c
        · have hc16 : c ≠ 16 := by omega
          obtain ⟨q1, q2, q3, q4, q5, q6⟩ := c16 hc16
          rw [if_pos ⟨h3, by omega⟩, h3] at hv ⊢
          rw [insb_mem] at hv
          by_cases e : v = d
          · rw [e, (nxt_new q4 (cnt c q1 q2 b (by omega)) (cnd (by omega) hc16).1).2]
            simp
          · have hv1 : v ∈ r c := hv.resolve_left e
            have q := ((nxt_prv hv1 q4 (cnt c q1 q2 v hv16) (cnt c q1 q2 b (by omega))).symm).trans (eqs q5)
            rw [prv_insb q4 hv1 (cnt c q1 q2 b (by omega)) (cnt c q1 q2 v hv16) (Ne.symm e)]
            simp [q, e, hca, hcb, hcd]
        · rw [if_neg (fun z => h3 z.1)] at hv ⊢
          by_cases h4 : u = d
          · have hd16 : d ≠ 16 := by omega
            obtain ⟨q1, q2, q3, q4, q5, q6⟩ := d16 hd16
            rw [if_pos ⟨h4, by omega⟩, h4] at hv ⊢
            rw [insb_mem] at hv
            by_cases e : v = c
            · rw [e, (nxt_new q3 (cnt d q1 q2 a (by omega)) (cnd hd16 (by omega)).2).2]
              simp [z6]
            · have hv1 : v ∈ r d := hv.resolve_left e
              have q := ((nxt_prv hv1 q3 (cnt d q1 q2 v hv16) (cnt d q1 q2 a (by omega))).symm).trans (eqs q5)
              rw [prv_insb q3 hv1 (cnt d q1 q2 a (by omega)) (cnt d q1 q2 v hv16) (Ne.symm e)]
              simp [q, e, hda, hdb, z6]
          · rw [if_neg (fun z => h4 z.1)]
            simp [h1, h2, h3, h4]
  have G : Gr (turnR r a b) al := turn_Gr ha hb ⟨g1, g2, g3⟩ ala alb hab hla hlb (by rw [hcc, hdd]; exact hcd) (by rw [hcc, hdd]; exact hn)
  have pv := (G.1 u hu au v hv).2 hv16
  have hv' : v < 16 := by have := (G.1 u hu au v hv).1; omega
  rw [N, P v u hv' pv.1 (by omega) pv.2.2]
  by_cases k1 : u = c ∧ v = d
  · obtain ⟨k1, k2⟩ := k1
    rw [k1, k2]
    simp [hcd, z6]
  · by_cases k2 : u = d ∧ v = c
    · obtain ⟨k2, k3⟩ := k2
      rw [k2, k3]
      simp [hcd, z6]
    · have old : v ∈ r u := by
        have := T u
        rw [this] at hv
        by_cases h1 : u = a
        · rw [if_pos h1, rmv_mem (cnt a ha ala b (by omega))] at hv
          rw [h1]; exact hv.1
        · rw [if_neg h1] at hv
          by_cases h2 : u = b
          · rw [if_pos h2, rmv_mem (cnt b hb alb a (by omega))] at hv
            rw [h2]; exact hv.1
          · rw [if_neg h2] at hv
            by_cases h3 : u = c ∧ u ≠ 16
            · rw [if_pos h3, insb_mem] at hv
              exact hv.resolve_left (fun z => k1 ⟨h3.1, z⟩)
            · rw [if_neg h3] at hv
              by_cases h4 : u = d ∧ u ≠ 16
              · rw [if_pos h4, insb_mem] at hv
                exact hv.resolve_left (fun z => k2 ⟨h4.1, z⟩)
              · rw [if_neg h4] at hv
                exact hv
      have e := hf u hu au v old hv16
      have k1' : ¬ (v = d ∧ u = c) := fun z => k1 ⟨z.2, z.1⟩
      have k2' : ¬ (v = c ∧ u = d) := fun z => k2 ⟨z.2, z.1⟩
      rw [if_neg k1, if_neg k2, if_neg k2', if_neg k1', e]
      by_cases a1 : u = a ∧ v = c
      · simp [a1.1, a1.2, hca, z2, hba, z1, hcb, z3, hda, z4, hdb, z5, hcd, z6]
      · by_cases a2 : u = b ∧ v = d
        · simp [a2.1, a2.2, hca, z2, hba, z1, hcb, z3, hda, z4, hdb, z5, hcd, z6]
        · by_cases a3 : u = c ∧ v = b
          · simp [a3.1, a3.2, hca, z2, hba, z1, hcb, z3, hda, z4, hdb, z5, hcd, z6]
          · by_cases a4 : u = d ∧ v = a
            · simp [a4.1, a4.2, hca, z2, hba, z1, hcb, z3, hda, z4, hdb, z5, hcd, z6]
            · have b1 : ¬ (v = a ∧ u = d) := fun z => a4 ⟨z.2, z.1⟩
              have b2 : ¬ (v = b ∧ u = c) := fun z => a3 ⟨z.2, z.1⟩
              have b3 : ¬ (v = c ∧ u = a) := fun z => a1 ⟨z.2, z.1⟩
              have b4 : ¬ (v = d ∧ u = b) := fun z => a2 ⟨z.2, z.1⟩
              rw [if_neg a1, if_neg a2, if_neg a3, if_neg a4, if_neg b1, if_neg b2, if_neg b3, if_neg b4]
