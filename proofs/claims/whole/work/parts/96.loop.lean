/-! the law's loop -/
theorem law_bd {i L j : Nat} {x : Int32} (h : 6 * i + 6 ≤ L) (hL : L ≤ 3072) (hj : j ≤ 5) (hx : x = nI (6 * i + j)) : vp_in x L := by
  rw [hx]
  exact vp_in_nI (by omega) (by omega)
theorem law_loop {l : Launch} {g : am_G} (hL : g.2.2.2.1 ≤ 3072) : ∀ (n i : Nat) (σ : am_S), g.2.2.2.1 + 6 < 6 * i + 6 * n → 6 * i ≤ g.2.2.2.1 + 6 → R σ → JW l g 1000 18 [(0, .ref 1000), (1, .ref 0), (2, .ref 55), (3, .int (nI (6 * i)))] [] σ (fun r _ => r = 1) := by
  intro n
  induction n with
  | zero =>
    intro i σ h1 h2
    omega
  | succ n ih =>
    intro i σ h1 h2 hR
    refine b_L_law_18 (d := 1000) (by omega) ⟨fun _ => rfl, fun c => ?_⟩
    have hi : 6 * i + 6 ≤ g.2.2.2.1 := by
      have e1 : Lean.Grind.ToInt.toInt (nI (6 * i)) = ((6 * i : Nat) : Int) := nIt (by omega)
      have e2 : Lean.Grind.ToInt.toInt (nI g.2.2.2.1) = (g.2.2.2.1 : Int) := nIt (by omega)
      have c2 : ¬ nI g.2.2.2.1 - 6 < nI (6 * i) := c
      generalize nI g.2.2.2.1 = a at *
      generalize nI (6 * i) = b at *
      grind
    have e6 : nI (6 * i) + 6 = nI (6 * (i + 1)) := nI_add (6 * i) 6
    have z0 : vp_in (nI (6 * i)) g.2.2.2.1 := law_bd (j := 0) hi hL (by omega) rfl
    have z1 : vp_in (nI (6 * i) + 1) g.2.2.2.1 := law_bd (j := 1) hi hL (by omega) (nI_add (6 * i) 1)
    have z2 : vp_in (nI (6 * i) + 2) g.2.2.2.1 := law_bd (j := 2) hi hL (by omega) (nI_add (6 * i) 2)
    have z3 : vp_in (nI (6 * i) + 3) g.2.2.2.1 := law_bd (j := 3) hi hL (by omega) (nI_add (6 * i) 3)
    have z4 : vp_in (nI (6 * i) + 4) g.2.2.2.1 := law_bd (j := 4) hi hL (by omega) (nI_add (6 * i) 4)
    have z5 : vp_in (nI (6 * i) + 5) g.2.2.2.1 := law_bd (j := 5) hi hL (by omega) (nI_add (6 * i) 5)
    have nx : ∀ σ2, R σ2 → JW l g 1000 18 [(0, .ref 1000), (1, .ref 0), (2, .ref 55), (3, .int (nI (6 * i) + 6))] [] σ2 (fun r _ => r = 1) := by
      intro σ2 h
      rw [e6]
      exact ih (i + 1) σ2 (by omega) (by omega) h
    have kk : ∀ r σ2, R σ2 → (fun (r1 r2 : Int32) (σ2 : am_S) => (r1 = r2 → JW l g 1000 18 [(0, .ref 1000), (1, .ref 0), (2, .ref 55), (3, .int (nI (6 * i) + 6))] [] σ2 (fun r _ => r = 1)) ∧ (¬ r1 = r2 → (0 : Int32) = 1)) r r σ2 := fun r σ2 h => ⟨fun _ => nx σ2 h, fun q => absurd rfl q⟩
    have kl : ∀ r σ2, R σ2 → (fun (r1 r2 : Int64) (σ2 : am_S) => (lg_cmp r1 r2 = 0 → JW l g 1000 18 [(0, .ref 1000), (1, .ref 0), (2, .ref 55), (3, .int (nI (6 * i) + 6))] [] σ2 (fun r _ => r = 1)) ∧ (¬ lg_cmp r1 r2 = 0 → (0 : Int32) = 1)) r r σ2 := fun r σ2 h => ⟨fun _ => nx σ2 h, fun q => absurd (lg_cmp_self r) q⟩
    refine ⟨z0, fun _ => nx σ hR, fun _ => ?_, fun _ => ?_, fun _ => ?_, fun _ => ?_, fun _ => ?_, fun _ => ?_, fun _ => ?_, fun _ => ?_, fun _ => ?_, fun _ => ?_, fun _ => ?_, fun _ => ?_, fun _ => ?_, fun _ => ?_, fun _ => ?_, fun _ => ?_, fun _ => ?_, fun _ => ?_, fun _ => ?_, fun _ => ?_, fun _ => ?_, fun _ => ?_, fun _ => ?_, fun _ => ?_, fun _ => ?_, fun _ => ?_, fun _ => ?_, fun _ => ?_, fun _ => ?_, fun _ => ?_, fun _ => ?_, fun _ => ?_, fun _ => ?_, fun _ => ?_, fun _ => ?_, fun _ => ?_, fun _ => ?_⟩
    · exact CI.mono (P_room (d := 1000 - 1) (by omega) hR _ kk) (fun r3 σ3 H => H)
    · exact ⟨z1, z2, CI.mono (P_door (d := 1000 - 1) (by omega) hR _ _ _ kk) (fun r3 σ3 H => ⟨z1, z2, H⟩)⟩
    · exact ⟨z1, z2, CI.mono (P_person (d := 1000 - 1) (by omega) hR _ _ _ kk) (fun r3 σ3 H => ⟨z1, z2, H⟩)⟩
    · exact ⟨z1, z2, z3, CI.mono (P_people (d := 1000 - 1) (by omega) hR _ _ _ _ kk) (fun r3 σ3 H => ⟨z1, z2, z3, H⟩)⟩
    · exact ⟨z1, z2, z3, CI.mono (P_mend (d := 1000 - 1) (by omega) hR _ _ _ _ kk) (fun r3 σ3 H => ⟨z1, z2, z3, H⟩)⟩
    · exact ⟨z1, CI.mono (P_wear (d := 1000 - 1) (by omega) hR _ _ kk) (fun r3 σ3 H => ⟨z1, H⟩)⟩
    · exact ⟨z1, z2, CI.mono (P_of (d := 1000 - 1) (by omega) hR _ _ _ kk) (fun r3 σ3 H => ⟨z1, z2, H⟩)⟩
    · exact ⟨z1, CI.mono (P_feed (d := 1000 - 1) (by omega) hR _ _ kk) (fun r3 σ3 H => ⟨z1, H⟩)⟩
    · exact CI.mono (P_law (d := 1000 - 1) (by omega) hR _ kk) (fun r3 σ3 H => H)
    · exact ⟨z1, z2, CI.mono (P_may (d := 1000 - 1) (by omega) hR _ _ _ kk) (fun r3 σ3 H => ⟨z1, z2, H⟩)⟩
    · exact ⟨z1, CI.mono (P_changes (d := 1000 - 1) (by omega) hR _ _ kk) (fun r3 σ3 H => ⟨z1, H⟩)⟩
    · exact ⟨z1, z2, CI.mono (P_change (d := 1000 - 1) (by omega) hR _ _ _ kk) (fun r3 σ3 H => ⟨z1, z2, H⟩)⟩
    · exact ⟨z1, CI.mono (P_led (d := 1000 - 1) (by omega) hR _ _ kk) (fun r3 σ3 H => ⟨z1, H⟩)⟩
    · exact ⟨z1, CI.mono (P_reach (d := 1000 - 1) (by omega) hR _ _ kk) (fun r3 σ3 H => ⟨z1, H⟩)⟩
    · exact ⟨z1, CI.mono (P_canBe (d := 1000 - 1) (by omega) hR _ _ kk) (fun r3 σ3 H => ⟨z1, H⟩)⟩
    · exact ⟨z1, z2, z3, CI.mono (P_fewest (d := 1000 - 1) (by omega) hR _ _ _ _ kk) (fun r3 σ3 H => ⟨z1, z2, z3, H⟩)⟩
    · exact ⟨z1, z2, CI.mono (P_first (d := 1000 - 1) (by omega) hR _ _ _ kk) (fun r3 σ3 H => ⟨z1, z2, H⟩)⟩
    · exact ⟨z1, z2, CI.mono (P_turn (d := 1000 - 1) (by omega) hR _ _ _ kk) (fun r3 σ3 H => ⟨z1, z2, H⟩)⟩
    · exact ⟨z1, z2, z3, CI.mono (P_boots (d := 1000 - 1) (by omega) hR _ _ _ _ kk) (fun r3 σ3 H => ⟨z1, z2, z3, H⟩)⟩
    · exact ⟨z1, z2, CI.mono (P_month (d := 1000 - 1) (by omega) hR _ _ _ kk) (fun r3 σ3 H => ⟨z1, z2, H⟩)⟩
    · exact ⟨z1, z2, z3, z4, CI.mono (P_tries (d := 1000 - 1) (by omega) hR _ _ _ _ _ kk) (fun r3 σ3 H => ⟨z1, z2, z3, z4, H⟩)⟩
    · exact ⟨z1, CI.mono (P_judge (d := 1000 - 1) (by omega) hR _ _ kk) (fun r3 σ3 H => ⟨z1, H⟩)⟩
    · exact ⟨z1, CI.mono (P_seen (d := 1000 - 1) (by omega) hR _ _ kk) (fun r3 σ3 H => ⟨z1, H⟩)⟩
    · exact CI.mono (P_image (d := 1000 - 1) (by omega) hR _ kk) (fun r3 σ3 H => H)
    · exact CI.mono (P_back (d := 1000 - 1) (by omega) hR _ kk) (fun r3 σ3 H => H)
    · exact CI.mono (P_undo (d := 1000 - 1) (by omega) hR _ kk) (fun r3 σ3 H => H)
    · exact CI.mono (P_redo (d := 1000 - 1) (by omega) hR _ kk) (fun r3 σ3 H => H)
    · exact ⟨z1, CI.mono (P_body (d := 1000 - 1) (by omega) hR _ _ kk) (fun r3 σ3 H => ⟨z1, H⟩)⟩
    · exact ⟨z1, z2, z3, CI.mono (P_act (d := 1000 - 1) (by omega) hR _ _ _ _ kk) (fun r3 σ3 H => ⟨z1, z2, z3, H⟩)⟩
    · exact ⟨z1, CI.mono (P_trace (d := 1000 - 1) (by omega) hR _ _ kk) (fun r3 σ3 H => ⟨z1, H⟩)⟩
    · exact ⟨z1, z2, CI.mono (P_keep (d := 1000 - 1) (by omega) hR _ _ _ kk) (fun r3 σ3 H => ⟨z1, z2, H⟩)⟩
    · exact ⟨z1, z2, z3, CI.mono (P_row (d := 1000 - 1) (by omega) hR _ _ _ _ kk) (fun r3 σ3 H => ⟨z1, z2, z3, H⟩)⟩
    · exact ⟨z1, z2, z3, z4, CI.mono (P_put (d := 1000 - 1) (by omega) hR _ _ _ _ kk) (fun r3 σ3 H => ⟨z1, z2, z3, z4, H⟩)⟩
    · exact ⟨z1, z2, CL.mono (P_element (d := 1000 - 1) (by omega) hR _ _ _ kl) (fun r3 σ3 H => ⟨z1, z2, H⟩)⟩
    · exact ⟨z1, z2, z3, z4, z5, CI.mono (P_shift (d := 1000 - 1) (by omega) hR _ _ _ _ _ _ kk) (fun r3 σ3 H => ⟨z1, z2, z3, z4, z5, H⟩)⟩
    · exact ⟨z1, z2, CI.mono (P_taken (d := 1000 - 1) (by omega) hR _ _ _ kk) (fun r3 σ3 H => ⟨z1, z2, H⟩)⟩
    · exact ⟨z1, CI.mono (P_count (d := 1000 - 1) (by omega) hR _ _ kk) (fun r3 σ3 H => ⟨z1, H⟩)⟩
theorem law_main {l : Launch} {g : am_G} (hL : g.2.2.2.1 ≤ 3072) : JW l g 1000 18 [(0, .ref 1000), (1, .ref 0), (2, .ref 55), (3, .int 0)] [] σ_0 (fun r _ => r = 1) :=
  law_loop hL (g.2.2.2.1 + 7) 0 σ_0 (by omega) (by omega) R_0
