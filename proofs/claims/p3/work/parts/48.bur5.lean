theorem burst_FC {r : Nat → List Nat} {al : Nat → Bool} {a b : Nat} (ha : a < 16) (hb : b < 16) (hne : a ≠ b) (hg : Gr r al) (hf : FC r al) (ala : al a = true) (alb : al b = true) (hab : b ∈ r a) (hcd : prv (r a) b ≠ nxt (r a) b) (hc : ∀ x, x ∈ r a → x ∈ r b → x = prv (r a) b ∨ x = nxt (r a) b) : FC (burR r al a b) (offB al b) := by
  obtain ⟨C1, C2, C3, C4, C5, C6⟩ := bur_core ha hb hg hf ala alb hab hcd hc
  have cnt := hg.2.1
  have ea : burR r al a b a = seam r a b := setR_at _ _ _
  have M := fun x (hx : x < 16) (hxa : x ≠ a) (hxb : x ≠ b) (hal : al x = true) => burR_mem (a := a) hg hb hne hx hxa hxb hal
  have T := fun x (hx : x < 16) (hxa : x ≠ a) (hxb : x ≠ b) (hal : al x = true) => burR_at (r := r) (a := a) hx hxa hxb hal
  have aa : a ∉ r a := fun w => ((hg.1 a ha ala a w).2 (by omega)).2.1 rfl
  have bb : b ∉ r b := fun w => ((hg.1 b hb alb b w).2 (by omega)).2.1 rfl
  have hba : a ∈ r b := ((hg.1 a ha ala b hab).2 (by omega)).2.2
  have f1 : prv (r b) a = nxt (r a) b := (hf a ha ala b hab (by omega)).symm
  have f2 : nxt (r b) a = prv (r a) b := hf b hb alb a hba (by omega)
  -- a third one that is beside both: where a and b lie in its ring
  have two : ∀ x, x < 16 → al x = true → a ∈ r x → b ∈ r x → (x = prv (r a) b ∧ nxt (r x) b = a) ∨ (x = nxt (r a) b ∧ nxt (r x) a = b) := fun x hx hal h1 h2 => by
    have m1 := ((hg.1 x hx hal a h1).2 (by omega)).2.2
    have m2 := ((hg.1 x hx hal b h2).2 (by omega)).2.2
    rcases hc x m1 m2 with e | e
    · refine .inl ⟨e, ?_⟩
      have q : nxt (r a) x = b := (nxt_prv hab m1 (cnt a ha ala b (by omega)) (cnt a ha ala x (by omega))).mpr e.symm
      have q2 : prv (r x) a = b := by rw [← hf a ha ala x m1 (by omega)]; exact q
      exact (nxt_prv h1 h2 (cnt x hx hal a (by omega)) (cnt x hx hal b (by omega))).mpr q2
    · refine .inr ⟨e, ?_⟩
      have q : prv (r a) x = b := (nxt_prv m1 hab (cnt a ha ala x (by omega)) (cnt a ha ala b (by omega))).mp e.symm
      rw [hf x hx hal a h1 (by omega)]; exact q
  intro x hx hxo y hy h16
  obtain ⟨hal, hxb⟩ := offB_t.mp hxo
  by_cases hxa : x = a
  · -- from the merged one to y
    subst hxa
    rw [ea] at hy ⊢
    have py : y < 16 ∧ al y = true ∧ y ≠ x ∧ y ≠ b := by
      rcases (C1 y).mp hy with ⟨h1, h2⟩ | ⟨h1, h2⟩
      · have p := hg.1 x hx hal y h1
        have q := p.2 h16
        exact ⟨by omega, q.1, q.2.1, h2⟩
      · have p := hg.1 b hb alb y h1
        have q := p.2 h16
        exact ⟨by omega, q.1, h2, q.2.1⟩
    obtain ⟨y16, aly, yx, yb⟩ := py
    rw [T y y16 yx yb aly]
    by_cases h1 : y ∈ r x
    · have x1 := ((hg.1 x hx hal y h1).2 h16).2.2
      by_cases h2 : y ∈ r b
      · have x2 := ((hg.1 b hb alb y h2).2 h16).2.2
        rw [if_pos x2]
        unfold stand
        rw [if_pos x1, prv_rmv x2 x1 (Ne.symm hne) (cnt y y16 aly b (by omega)) (cnt y y16 aly x (by omega))]
        rcases two y y16 aly x1 x2 with ⟨e, t⟩ | ⟨e, t⟩
        · rw [if_pos ((nxt_prv x1 x2 (cnt y y16 aly x (by omega)) (cnt y y16 aly b (by omega))).mp t), C5 y h16 h2 yx (by rw [e]; exact hcd), hf b hb alb y h2 h16]
        · have n : prv (r y) x ≠ b := fun w => by
            rw [← hf x hx hal y h1 h16] at w
            have := (nxt_prv hab h1 (cnt x hx hal b (by omega)) (cnt x hx hal y h16)).mp w
            exact hcd (by rw [this]; exact e)
          rw [if_neg n, C3 y h16 h1 yb (by rw [e]; exact hcd.symm), hf x hx hal y h1 h16]
      · have x2 : b ∉ r y := fun w => h2 ((hg.1 y y16 aly b w).2 (by omega)).2.2
        rw [if_neg x2, C3 y h16 h1 yb (fun e => h2 (by rw [e, ← f2]; exact nxt_mem hba)), hf x hx hal y h1 h16]
    · have h2 : y ∈ r b := by
        rcases (C1 y).mp hy with ⟨w, _⟩ | ⟨w, _⟩
        · exact absurd w h1
        · exact w
      have x1 : x ∉ r y := fun w => h1 ((hg.1 y y16 aly x w).2 (by omega)).2.2
      have x2 := ((hg.1 b hb alb y h2).2 h16).2.2
      rw [if_pos x2, stand_map x1 x2 (cnt y y16 aly b (by omega)), C5 y h16 h2 yx (fun e => h1 (by rw [e]; exact nxt_mem hab)), hf b hb alb y h2 h16]
      have s := (sg_nxt (b := b) x1 x2).2
      rw [sg_b] at s
      rw [s, sg_n]
      rw [← hf b hb alb y h2 h16]
      exact fun w => by
        have z := nxt_mem h2
        rw [w] at z
        exact bb z
  · obtain ⟨yb, my⟩ := (M x hx hxa hxb hal y).mp hy
    rw [T x hx hxa hxb hal]
    by_cases hya : y = a
    · -- from x to the merged one
      subst hya
      rw [ea]
      by_cases h1 : y ∈ r x
      · have x1 := ((hg.1 x hx hal y h1).2 h16).2.2
        by_cases h2 : b ∈ r x
        · have x2 := ((hg.1 x hx hal b h2).2 (by omega)).2.2
          rw [if_pos h2]
          unfold stand
          rw [if_pos h1, nxt_rmv h2 h1 (Ne.symm hne) (cnt x hx hal b (by omega)) (cnt x hx hal y h16)]
          rcases two x hx hal h1 h2 with ⟨e, t⟩ | ⟨e, t⟩
          · have n : nxt (r x) y ≠ b := fun w => by
              rw [hf x hx hal y h1 h16] at w
              have := (nxt_prv x1 hab (cnt y ha ala x (by omega)) (cnt y ha ala b (by omega))).mpr w
              exact hcd (by rw [this]; exact e.symm)
            rw [if_neg n, C4 x (by omega) x1 hxb (by rw [e]; exact hcd), hf x hx hal y h1 h16]
          · rw [if_pos t, C6 x (by omega) x2 hxa (by rw [e]; exact hcd.symm), hf x hx hal b h2 (by omega)]
        · have x2 : x ∉ r b := fun w => h2 ((hg.1 b hb alb x w).2 (by omega)).2.2
          rw [if_neg h2, C4 x (by omega) x1 hxb (fun e => x2 (by rw [e, ← f1]; exact prv_mem hba)), hf x hx hal y h1 h16]
      · have h2 : b ∈ r x := by
          rcases my with w | ⟨_, w⟩
          · exact absurd w h1
          · exact w
        have x1 : x ∉ r y := fun w => h1 ((hg.1 y ha ala x w).2 (by omega)).2.2
        have x2 := ((hg.1 x hx hal b h2).2 (by omega)).2.2
        rw [if_pos h2, stand_map h1 h2 (cnt x hx hal b (by omega)), C6 x (by omega) x2 hxa (fun e => x1 (by rw [e]; exact prv_mem hab)), ← hf x hx hal b h2 (by omega)]
        have s := (sg_nxt (b := b) h1 h2).1
        rw [sg_b] at s
        rw [s, sg_n]
        rw [hf x hx hal b h2 (by omega)]
        exact fun w => by
          have z := prv_mem x2
          rw [w] at z
          exact bb z
    · -- two others
      have h3 : y ∈ r x := by
        rcases my with w | ⟨w, _⟩
        · exact w
        · exact absurd w hya
      have p := hg.1 x hx hal y h3
      have q := p.2 h16
      have y16 : y < 16 := by omega
      rw [T y y16 hya yb q.1]
      have N : nxt (if b ∈ r x then stand (r x) a b else r x) y = sg a b (nxt (r x) y) := by
        by_cases h2 : b ∈ r x
        · rw [if_pos h2]
          by_cases h1 : a ∈ r x
          · unfold stand
            rw [if_pos h1, nxt_rmv h2 h3 (Ne.symm yb) (cnt x hx hal b (by omega)) (cnt x hx hal y h16)]
            unfold sg
            by_cases t : nxt (r x) y = b
            · rw [if_pos t, if_pos t]
              rcases two x hx hal h1 h2 with ⟨_, t2⟩ | ⟨_, t2⟩
              · exact t2
              · exfalso
                have u1 := (nxt_prv h2 h3 (cnt x hx hal b (by omega)) (cnt x hx hal y h16)).mp t
                have u2 := (nxt_prv h2 h1 (cnt x hx hal b (by omega)) (cnt x hx hal a (by omega))).mp t2
                exact hya (by rw [← u1, u2])
            · rw [if_neg t, if_neg t]
          · rw [stand_map h1 h2 (cnt x hx hal b (by omega))]
            have s := (sg_nxt (b := b) h1 h3).1
            rw [sg_n yb] at s
            exact s
        · rw [if_neg h2, sg_n (fun w => h2 (by rw [← w]; exact nxt_mem h3))]
      have P : prv (if b ∈ r y then stand (r y) a b else r y) x = sg a b (prv (r y) x) := by
        have h3' := q.2.2
        by_cases h2 : b ∈ r y
        · rw [if_pos h2]
          by_cases h1 : a ∈ r y
          · unfold stand
            rw [if_pos h1, prv_rmv h2 h3' (Ne.symm hxb) (cnt y y16 q.1 b (by omega)) (cnt y y16 q.1 x (by omega))]
            unfold sg
            by_cases t : prv (r y) x = b
            · rw [if_pos t, if_pos t]
              rcases two y y16 q.1 h1 h2 with ⟨_, t2⟩ | ⟨_, t2⟩
              · exfalso
                have u1 := (nxt_prv h3' h2 (cnt y y16 q.1 x (by omega)) (cnt y y16 q.1 b (by omega))).mpr t
                exact hxa (by rw [← u1, t2])
              · exact (nxt_prv h2 h1 (cnt y y16 q.1 b (by omega)) (cnt y y16 q.1 a (by omega))).mp t2
            · rw [if_neg t, if_neg t]
          · rw [stand_map h1 h2 (cnt y y16 q.1 b (by omega))]
            have s := (sg_nxt (b := b) h1 h3').2
            rw [sg_n hxb] at s
            exact s
        · rw [if_neg h2, sg_n (fun w => h2 (by rw [← w]; exact prv_mem h3'))]
      rw [N, P, hf x hx hal y h3 h16]
