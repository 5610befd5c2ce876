/-! the plain calls -/
section Easy
variable {l : Launch} {g : am_G} {d : Nat} {σ : am_S}
theorem P_room (hd : 300 ≤ d) (hR : R σ) : PP l g d M_X11_room M_X12_room [] σ := by
  intro K hk
  obtain ⟨nr, nd, n, pl, nt, dn, un, nb, nq, hH, hT, hD, hU, hI, hB, hS, hL⟩ := hR
  obtain ⟨⟨H1, H2, H3⟩, ⟨e64, e3521⟩, h65, h66, e3530, h68, hdo, hpe, hgr, e3529⟩ := hH
  have old : R σ := ⟨nr, nd, n, pl, nt, dn, un, nb, nq, ⟨⟨H1, H2, H3⟩, ⟨e64, e3521⟩, h65, h66, e3530, h68, hdo, hpe, hgr, e3529⟩, hT, hD, hU, hI, hB, hS, hL⟩
  refine b_X11_room_0 ?_
  rw [e64]
  refine ⟨fun c => ?_, fun c => ?_⟩
  · have hlt : nr < 4 := (ltn (by omega) (by omega)).mp c
    refine b_X12_room_0 ?_
    have f1 : rg (sR σ 64 (nI nr + 1)) 3521 = nI nr := e3521
    rw [f1]
    refine ⟨fun _ => ?_, fun c2 => absurd (nI_inj (b := 4) (by omega) (by omega) c2) (by omega)⟩
    rw [nI_11]
    refine hk _ _ ?_
    rw [nI_1]
    have fr : Fr [3521, 64] [] σ (sR (sR σ 64 (nI (nr + 1))) 3521 (nI (nr + 1))) := (Fr.rf.wR).wR
    refine ⟨nr + 1, nd, n, pl, nt, dn, un, nb, nq, ?_, hT.fr fr rfl rfl, hD.fr fr rfl rfl, hU.fr fr rfl rfl, (hI.mono (by omega) (by omega)).fr fr rfl rfl, hB.fr fr rfl rfl, hS.fr fr rfl rfl, hL.fr fr rfl rfl⟩
    refine ⟨⟨by omega, H2, H3⟩, ⟨rfl, rfl⟩, h65, h66, e3530, h68, fun j hj => ?_, fun j hj => ?_, hgr, e3529⟩
    · obtain ⟨a, b, k, ⟨q1, q2, q3, q4⟩, q5⟩ := hdo j hj
      exact ⟨a, b, k, ⟨by omega, by omega, q3, q4⟩, q5⟩
    · obtain ⟨q1, q2⟩ := hpe j hj
      exact ⟨by omega, q2⟩
  · have hge : ¬ nr < 4 := fun q => c ((ltn (b := 4) (by omega) (by omega)).mpr q)
    refine b_X12_room_0 ?_
    rw [e3521]
    refine ⟨fun c2 => absurd (show nI nr = 4 by rw [show nr = 4 by omega]; rfl) c2, fun _ => hk _ _ old⟩
theorem P_wear (hd : 300 ≤ d) (hR : R σ) (x1 : Int32) : PP l g d M_X11_wear M_X12_wear [.int x1] σ := by
  intro K hk
  obtain ⟨nr, nd, n, pl, nt, dn, un, nb, nq, hH, hT, hD, hU, hI, hB, hS, hL⟩ := hR
  obtain ⟨⟨H1, H2, H3⟩, h64, h65, ⟨e66, e3526⟩, e3530, h68, hdo, hpe, hgr, e3529⟩ := hH
  have old : R σ := ⟨nr, nd, n, pl, nt, dn, un, nb, nq, ⟨⟨H1, H2, H3⟩, h64, h65, ⟨e66, e3526⟩, e3530, h68, hdo, hpe, hgr, e3529⟩, hT, hD, hU, hI, hB, hS, hL⟩
  have nw : R (sR (sR σ 67 x1) 3530 x1) := by
    have fr : Fr [3530, 67] [] σ (sR (sR σ 67 x1) 3530 x1) := (Fr.rf.wR).wR
    refine ⟨nr, nd, n, pl, nt, dn, un, nb, nq, ?_, hT.fr fr rfl rfl, hD.fr fr rfl rfl, hU.fr fr rfl rfl, hI.fr fr rfl rfl, hB.fr fr rfl rfl, hS.fr fr rfl rfl, hL.fr fr rfl rfl⟩
    exact ⟨⟨H1, H2, H3⟩, h64, h65, ⟨e66, e3526⟩, rfl, h68, hdo, hpe, hgr, e3529⟩
  have go : CI l g M_X12_wear d [.ref 55, .int x1] (sR σ 67 x1) (fun r2 σ2 => K (rg σ 67) r2 σ2) ∨ ¬ (x1 = -1 ∨ ∃ j, j < n ∧ x1 = nI j) := by
    by_cases h : x1 = -1 ∨ ∃ j, j < n ∧ x1 = nI j
    · left
      refine b_X12_wear_0 (by omega) ?_
      have f1 : rg (sR σ 67 x1) 3530 = rg σ 67 := e3530
      have f2 : rg (sR σ 67 x1) 3526 = nI n := e3526
      rw [f1, f2]
      refine ⟨fun _ => hk _ _ nw, fun c => ⟨fun _ => hk _ _ nw, fun c2 => ?_⟩⟩
      rcases h with h | h
      · exact absurd h c
      · exact absurd ((cB (by omega)).mpr h) c2
    · exact Or.inr h
  refine b_X11_wear_0 (by omega) ?_
  rw [e66]
  refine ⟨fun c => ?_, fun c => ⟨fun c2 => ?_, fun c2 => ?_⟩⟩
  · rcases go with h | h
    · exact h
    · exact absurd (Or.inl c) h
  · rcases go with h | h
    · exact h
    · exact absurd (Or.inr ((cA (by omega)).mp c2)) h
  · refine b_X12_wear_0 (by omega) ?_
    rw [e3526]
    refine ⟨fun c3 => absurd c3 c, fun _ => ⟨fun c3 => absurd ((cA (by omega)).mpr ((cB (by omega)).mp c3)) c2, fun _ => hk _ _ old⟩⟩
theorem P_led (hd : 300 ≤ d) (hR : R σ) (x1 : Int32) : PP l g d M_X11_led M_X12_led [.int x1] σ := by
  intro K hk
  have old := hR
  obtain ⟨nr, nd, n, pl, nt, dn, un, nb, nq, hH, hT, ⟨e1, e2⟩, hU, hI, hB, hS, hL⟩ := hR
  have c01 : (¬ x1 < 0 ∧ ¬ 1 < x1) ↔ (x1 = 0 ∨ x1 = 1) := by grind
  refine b_X11_led_0 ⟨fun a => ⟨fun b => ⟨fun c => ?_, fun c => ?_⟩, fun b => ?_⟩, fun a => ?_⟩
  · exact b_X12_led_0 (by omega) ⟨fun _ => ⟨fun _ => ⟨fun _ => by rw [e2]; exact hk _ _ old, fun q => absurd (e1.symm.trans q) c⟩, fun q => absurd q a⟩, fun q => absurd (c01.mpr (Or.inr b)) q⟩
  · exact b_X12_led_0 (by omega) ⟨fun _ => ⟨fun _ => ⟨fun q => absurd (e1.trans c) q, fun q => hk _ _ old⟩, fun q => absurd q a⟩, fun q => absurd (c01.mpr (Or.inr b)) q⟩
  · exact b_X12_led_0 (by omega) ⟨fun q => (c01.mp q).elim (fun h => absurd h a) (fun h => absurd h b), fun _ => hk _ _ old⟩
  · exact b_X12_led_0 (by omega) ⟨fun _ => ⟨fun q => absurd a q, fun _ => by rw [e1]; exact hk _ _ old⟩, fun q => absurd (c01.mpr (Or.inl a)) q⟩
theorem P_count (hd : 300 ≤ d) (hR : R σ) (x1 : Int32) : PP l g d M_X11_count M_X12_count [.int x1] σ := by
  intro K hk
  have old := hR
  obtain ⟨nr, nd, n, pl, nt, dn, un, nb, nq, hH, ⟨-, ⟨t1, t2⟩, -⟩, hD, ⟨-, ⟨u1, u2⟩, -⟩, hI, ⟨-, ⟨b1, b2⟩, ⟨b3, b4⟩, -⟩, hS, hL⟩ := hR
  obtain ⟨-, ⟨e64, e3521⟩, ⟨e65, e3522⟩, ⟨e66, e3526⟩, -⟩ := hH
  have k01 : ∀ {a b : Int32}, a = b → K a b σ := fun e => by rw [e]; exact hk _ _ old
  have rng : ∀ {v : Int32}, x1 = v → (0 ≤ v.toInt ∧ v.toInt ≤ 6) → ¬ (x1.toInt < 0 ∨ 6 < x1.toInt) := by
    intro v e h q
    rw [e] at q
    omega
  refine b_X11_count_0 ⟨fun a => ?_, fun a => ?_, fun a => ?_, fun a => ?_, fun a => ?_, fun a => ?_, fun a => ?_, fun a => ?_⟩
  · exact b_X12_count_0 ⟨fun _ => hk _ _ old, fun q => absurd a (rng q (by decide)), fun q => absurd a (rng q (by decide)), fun q => absurd a (rng q (by decide)), fun q => absurd a (rng q (by decide)), fun q => absurd a (rng q (by decide)), fun q => absurd a (rng q (by decide)), fun q => absurd a (rng q (by decide))⟩
  · subst a; exact b_X12_count_0 ⟨fun q => absurd q (by decide), fun _ => k01 (e66.trans e3526.symm), fun q => absurd q (by decide), fun q => absurd q (by decide), fun q => absurd q (by decide), fun q => absurd q (by decide), fun q => absurd q (by decide), fun q => absurd q (by decide)⟩
  · subst a; exact b_X12_count_0 ⟨fun q => absurd q (by decide), fun q => absurd q (by decide), fun _ => k01 (e64.trans e3521.symm), fun q => absurd q (by decide), fun q => absurd q (by decide), fun q => absurd q (by decide), fun q => absurd q (by decide), fun q => absurd q (by decide)⟩
  · subst a; exact b_X12_count_0 ⟨fun q => absurd q (by decide), fun q => absurd q (by decide), fun q => absurd q (by decide), fun _ => k01 (e65.trans e3522.symm), fun q => absurd q (by decide), fun q => absurd q (by decide), fun q => absurd q (by decide), fun q => absurd q (by decide)⟩
  · subst a; exact b_X12_count_0 ⟨fun q => absurd q (by decide), fun q => absurd q (by decide), fun q => absurd q (by decide), fun q => absurd q (by decide), fun _ => k01 (t1.trans t2.symm), fun q => absurd q (by decide), fun q => absurd q (by decide), fun q => absurd q (by decide)⟩
  · subst a; exact b_X12_count_0 ⟨fun q => absurd q (by decide), fun q => absurd q (by decide), fun q => absurd q (by decide), fun q => absurd q (by decide), fun q => absurd q (by decide), fun _ => k01 (u1.trans u2.symm), fun q => absurd q (by decide), fun q => absurd q (by decide)⟩
  · subst a; exact b_X12_count_0 ⟨fun q => absurd q (by decide), fun q => absurd q (by decide), fun q => absurd q (by decide), fun q => absurd q (by decide), fun q => absurd q (by decide), fun q => absurd q (by decide), fun _ => k01 (b1.trans b2.symm), fun q => absurd q (by decide)⟩
  · subst a; exact b_X12_count_0 ⟨fun q => absurd q (by decide), fun q => absurd q (by decide), fun q => absurd q (by decide), fun q => absurd q (by decide), fun q => absurd q (by decide), fun q => absurd q (by decide), fun q => absurd q (by decide), fun _ => k01 (b3.trans b4.symm)⟩
end Easy
