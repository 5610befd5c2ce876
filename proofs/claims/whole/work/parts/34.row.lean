/-! row, body, trace -/
section Row
variable {l : Launch} {g : am_G} {d : Nat} {σ : am_S}
theorem c_holdRow {s so n : Nat} {k : am_S → Prop} (hd : 10 ≤ d) (hs : s < 6) (hn : n ≤ 60) (H : ∀ τ, (∀ r, (r < 64 * (43 + 2 * s) ∨ 64 * (43 + 2 * s) + 3 ≤ r) → rg τ r = rg σ r) → ar τ = ar σ → (∀ a, a ≠ 44 + 2 * s → lr τ a = lr σ a) → rg τ (64 * (43 + 2 * s) + 0) = -1 → rg τ (64 * (43 + 2 * s) + 1) = nI so → rg τ (64 * (43 + 2 * s) + 2) = nI n → (∀ j, j < n → lr τ (44 + 2 * s) j = 0) → k τ) : CV l g M_X8_holdRow d [.ref (43 + 2 * s), .int (nI so), .int (nI n)] σ k := by
  have loop : ∀ m i τ, i + m = n → (∀ r, (r < 64 * (43 + 2 * s) ∨ 64 * (43 + 2 * s) + 3 ≤ r) → rg τ r = rg σ r) → ar τ = ar σ → (∀ a, a ≠ 44 + 2 * s → lr τ a = lr σ a) → rg τ (64 * (43 + 2 * s) + 0) = -1 → rg τ (64 * (43 + 2 * s) + 1) = nI so → rg τ (64 * (43 + 2 * s) + 2) = nI n → (∀ j, j < i → lr τ (44 + 2 * s) j = 0) → JV l g M_X8_holdRow d 22 [(0, .ref (43 + 2 * s)), (1, .int (nI so)), (2, .int (nI n)), (3, .int (nI i))] [] τ k := by
    intro m
    induction m with
    | zero =>
      intro i τ h1 a1 a2 a3 a4 a5 a6 a7
      have hi : i = n := by omega
      subst hi
      refine b_X8_holdRow_22 hs ?_
      rw [a6]
      exact ⟨fun _ => H τ a1 a2 a3 a4 a5 a6 a7, fun q => absurd ((len (by omega) (by omega)).mpr (Nat.le_refl _)) q⟩
    | succ m ih =>
      intro i τ h1 a1 a2 a3 a4 a5 a6 a7
      have cl : (nI i).toNatClampNeg = i := nI_clamp (by omega)
      refine b_X8_holdRow_22 hs ?_
      rw [a6, cl, nI_1]
      refine ⟨fun q => absurd ((len (by omega) (by omega)).mp q) (by omega), fun _ => ⟨vp_in_nI (by omega) (by omega), ih (i + 1) _ (by omega) a1 a2 (fun a ha => ?_) a4 a5 a6 (fun j hj => ?_)⟩⟩
      · funext j
        rw [lr_sL, if_neg (fun q => ha q.1), a3 a ha]
      · rw [lr_sL]
        by_cases e : j = i
        · rw [if_pos ⟨rfl, e⟩]
        · rw [if_neg (fun q => e q.2)]
          exact a7 j (by omega)
  have em : (if 60 < nI n then 60 else nI n) = nI n := by
    rw [if_neg]
    intro q
    have := (ltn (a := 60) (b := n) (by omega) (by omega)).mp q
    omega
  refine b_X8_holdRow_0 hs (by omega) ?_
  rw [em]
  refine loop n 0 _ (by omega) (fun r hr => ?_) rfl (fun _ _ => rfl) ?_ ?_ ?_ (fun j hj => absurd hj (by omega))
  · rw [rg_sR, if_neg (by omega), rg_sR, if_neg (by omega), rg_sR, if_neg (by omega)]
  · rw [rg_sR, if_neg (by omega), rg_sR, if_neg (by omega), rg_sR, if_pos rfl]
  · rw [rg_sR, if_neg (by omega), rg_sR, if_pos rfl]
  · rw [rg_sR, if_pos rfl]
theorem c_rowM {s : Nat} {x2 x3 : Int32} {k : Int32 → am_S → Prop} (hs : s < 6) (H : ∀ τ, (∀ r, rg τ r = rg σ r) → ar τ = ar σ → (∀ a, a ≠ 83 → lr τ a = lr σ a) → (∀ j, lr τ 83 j = if 60 * s ≤ j ∧ j < 60 * s + 60 then 0 else lr σ 83 j) → k 1 τ) : JI l g M_X12_row d 54 [(0, .ref 55), (1, .int (nI s)), (2, .int x2), (3, .int x3), (4, .int (nI (60 * s)))] [] σ k := by
  have e60 : 60 * nI s + 60 = nI (60 * s + 60) := by
    rw [show (60 : Int32) = nI 60 from rfl, pk_mul, nI_add]
  have loop : ∀ m i τ, i + m = 60 → (∀ r, rg τ r = rg σ r) → ar τ = ar σ → (∀ a, a ≠ 83 → lr τ a = lr σ a) → (∀ j, lr τ 83 j = if 60 * s ≤ j ∧ j < 60 * s + i then 0 else lr σ 83 j) → JI l g M_X12_row d 54 [(0, .ref 55), (1, .int (nI s)), (2, .int x2), (3, .int x3), (4, .int (nI (60 * s + i)))] [] τ k := by
    intro m
    induction m with
    | zero =>
      intro i τ h1 a1 a2 a3 a4
      have hi : i = 60 := by omega
      subst hi
      refine b_X12_row_54 ?_
      rw [e60]
      exact ⟨fun _ => H τ a1 a2 a3 a4, fun q => absurd ((len (by omega) (by omega)).mpr (Nat.le_refl _)) q⟩
    | succ m ih =>
      intro i τ h1 a1 a2 a3 a4
      have cl : (nI (60 * s + i)).toNatClampNeg = 60 * s + i := nI_clamp (by omega)
      refine b_X12_row_54 ?_
      rw [e60, cl, nI_1]
      refine ⟨fun q => absurd ((len (by omega) (by omega)).mp q) (by omega), fun _ => ⟨vp_in_nI (by omega) (by omega), ih (i + 1) _ (by omega) a1 a2 (fun a ha => ?_) (fun j => ?_)⟩⟩
      · funext j
        rw [lr_sL, if_neg (fun q => ha q.1), a3 a ha]
      · rw [lr_sL]
        by_cases e : j = 60 * s + i
        · rw [if_pos ⟨rfl, e⟩, if_pos (by omega)]
        · rw [if_neg (fun q => e q.2), a4]
          by_cases e2 : 60 * s ≤ j ∧ j < 60 * s + i
          · rw [if_pos e2, if_pos (by omega)]
          · rw [if_neg e2, if_neg (by omega)]
  exact loop 60 0 σ (by omega) (fun _ => rfl) rfl (fun _ _ => rfl) (fun j => by rw [if_neg (by omega)])
theorem P_row (hd : 300 ≤ d) (hR : R σ) (x1 : Int32) (x2 : Int32) (x3 : Int32) : PP l g d M_X11_row M_X12_row [.int x1, .int x2, .int x3] σ := by
  intro K hk
  have old := hR
  obtain ⟨nr, nd, n0, pl, nt, dn, un, nb, nq, hRR⟩ := hR
  have c5 : ∀ {x : Int32}, (¬ x < 0 ∧ ¬ 5 < x) ↔ ∃ j, j < 6 ∧ x = nI j := cC (n := 6) 5 rfl (by omega)
  have c6 : ∀ {x : Int32}, (¬ x < 0 ∧ ¬ 6 ≤ x) ↔ ∃ j, j < 6 ∧ x = nI j := cD (n := 6) 6 rfl (by omega)
  have k4 : (¬ x2 < 0 ∧ ¬ 4 < x2) ↔ ∃ j, j < 5 ∧ x2 = nI j := cC (n := 5) 4 rfl (by omega)
  have k5 : (¬ x2 < 0 ∧ ¬ 5 ≤ x2) ↔ ∃ j, j < 5 ∧ x2 = nI j := cD (n := 5) 5 rfl (by omega)
  by_cases hs : ∃ s, s < 6 ∧ x1 = nI s
  · obtain ⟨s, hs, rfl⟩ := hs
    have cl : (nI s).toNatClampNeg = s := nI_clamp (by omega)
    have z : vp_in (nI s) 6 := vp_in_nI (by omega) (by omega)
    have hx := c5.mpr ⟨s, hs, rfl⟩
    have hx6 := c6.mpr ⟨s, hs, rfl⟩
    by_cases hso : ∃ so, so < 5 ∧ x2 = nI so
    · have kk4 := k4.mpr hso
      have kk5 := k5.mpr hso
      obtain ⟨so, hso, rfl⟩ := hso
      refine b_X11_row_0 (by omega) ?_
      rw [cl]
      refine ⟨fun _ => ⟨fun q => absurd q kk5.1, fun _ => ⟨fun q => absurd q kk5.2, fun _ => ⟨fun a => ⟨fun b => ⟨z, ?_⟩, fun b => ?_⟩, fun a => ?_⟩⟩⟩, fun q => absurd hx6 q⟩
      · obtain ⟨n, hn, rfl⟩ := (cA (n := 61) (x := x3) (by omega)).mp ⟨by grind, by
          intro q
          have q2 : (61 : Int32) ≤ x3 := q
          grind⟩
        refine c_holdRow (by omega) hs (by omega) (fun τ a1 a2 a3 a4 a5 a6 a7 => ?_)
        refine b_X12_row_0 (by omega) ?_
        rw [cl]
        refine ⟨fun _ => ⟨fun _ => ⟨fun _ => ⟨fun _ => ⟨z, z, ?_⟩, fun q => absurd b q⟩, fun q => absurd a q⟩, fun q => absurd kk4 q⟩, fun q => absurd hx q⟩
        rw [show 60 * nI s = nI (60 * s) from pk_mul 60 s]
        refine c_rowM hs (fun υ b1 b2 b3 b4 => hk _ _ (R_row hRR hs (so := so) (m := n) ?_ (fun r hr => (b1 r).trans (a1 r hr)) (fun c h1 h2 => ?_) (fun c h1 h2 _ => ?_) (fun t ht => ?_) (fun t j ht hj => ?_)))
        · refine ⟨hso, by omega, (b1 _).trans a4, (b1 _).trans a5, (b1 _).trans a6, ?_, ?_, fun j hj => ?_⟩
          · rw [b2, ar_sA, if_neg (by omega), ar_sA, if_pos ⟨rfl, rfl⟩]
          · rw [b2, ar_sA, if_pos ⟨rfl, rfl⟩]
          · rw [b4, if_pos (by omega), b3 _ (by omega)]
            exact (a7 j hj).symm
        · funext i
          rw [b2, ar_sA, if_neg (fun q => h2 q.1), ar_sA, if_neg (fun q => h1 q.1), a2]
        · rw [b3 c h2]
          exact a3 c h1
        · rw [b2]
          constructor
          · rw [ar_sA, if_neg (by omega), ar_sA, if_neg (by omega), a2]
          · rw [ar_sA, if_neg (by omega), ar_sA, if_neg (by omega), a2]
        · rw [b4, if_neg (by omega)]
          show lr τ 83 _ = _
          rw [a3 83 (by omega)]
      · refine b_X12_row_0 (by omega) ⟨fun _ => ⟨fun _ => ⟨fun _ => ⟨fun q => absurd q b, fun _ => hk _ _ old⟩, fun q => absurd a q⟩, fun q => absurd kk4 q⟩, fun q => absurd hx q⟩
      · refine b_X12_row_0 (by omega) ⟨fun _ => ⟨fun _ => ⟨fun q => absurd q a, fun _ => hk _ _ old⟩, fun q => absurd kk4 q⟩, fun q => absurd hx q⟩
    · have bad : CI l g M_X12_row d [.ref 55, .int (nI s), .int x2, .int x3] σ (fun r2 σ2 => K (-1) r2 σ2) := b_X12_row_0 (by omega) ⟨fun _ => ⟨fun q => absurd (k4.mp q) hso, fun _ => hk _ _ old⟩, fun q => absurd hx q⟩
      exact b_X11_row_0 (by omega) ⟨fun _ => ⟨fun _ => bad, fun a => ⟨fun _ => bad, fun b => absurd (k5.mp ⟨a, b⟩) hso⟩⟩, fun q => absurd hx6 q⟩
  · refine b_X11_row_0 (by omega) ⟨fun q => absurd (c6.mp q) hs, fun _ => ?_⟩
    exact b_X12_row_0 (by omega) ⟨fun q => absurd (c5.mp q) hs, fun _ => hk _ _ old⟩
theorem P_body (hd : 300 ≤ d) (hR : R σ) (x1 : Int32) : PP l g d M_X11_body M_X12_body [.int x1] σ := by
  intro K hk
  have old := hR
  obtain ⟨nr, nd, n, pl, nt, dn, un, nb, nq, hH, hT, hD, hU, hI, hB, hS, hL⟩ := hR
  obtain ⟨⟨b1, b2⟩, ⟨b3, b4⟩, ⟨b5, b6⟩, b7, b8⟩ := id hB
  have k7 : (¬ x1 < 0 ∧ ¬ 7 < x1) ↔ ∃ j, j < 8 ∧ x1 = nI j := cC (n := 8) 7 rfl (by omega)
  have cl : (nI nb).toNatClampNeg = nb := nI_clamp (by omega)
  have bad : ¬ (∃ j, j < 8 ∧ x1 = nI j) → CI l g M_X12_body d [.ref 55, .int x1] σ (fun r2 σ2 => K (-1) r2 σ2) := fun no => b_X12_body_0 (by omega) ⟨fun q => absurd (k7.mp q) no, fun _ => hk _ _ old⟩
  refine b_X11_body_0 (by omega) ⟨fun a => bad (fun q => (k7.mpr q).1 a), fun a => ⟨fun b => ?_, fun b => bad (fun q => (k7.mpr q).2 (by grind))⟩⟩
  have hx : ¬ x1 < 0 ∧ ¬ 7 < x1 := ⟨a, by grind⟩
  obtain ⟨kd, hkd, rfl⟩ := k7.mp hx
  refine b_X0_addBody_0 ?_
  rw [b3]
  rcases Nat.lt_or_ge nb 50 with h | h
  · have z : vp_in (nI nb) 50 := vp_in_nI (by omega) (by omega)
    rw [nI_11, cl, nI_1]
    refine ⟨fun _ => ⟨z, ?_⟩, fun q => absurd ((ltn (b := 50) (by omega) (by omega)).mpr h) q⟩
    have frC : Fr [2497] [40] σ (sR (sA σ 40 nb (nI kd)) 2497 (nI (nb + 1))) := (Fr.rf.wA.wR).mono (by simp) (by simp)
    have q1 : rg (sR (sA σ 40 nb (nI kd)) 2497 (nI (nb + 1))) 2497 = nI (nb + 1) := rfl
    have q2 : ∀ j, ar (sR (sA σ 40 nb (nI kd)) 2497 (nI (nb + 1))) 40 j = if j = nb then nI kd else ar σ 40 j := by
      intro j; simp [ar_sR, ar_sA]
    generalize (sR (sA σ 40 nb (nI kd)) 2497 (nI (nb + 1))) = τ at *
    refine b_X12_body_0 (by omega) ?_
    rw [frC.R 3569 rfl, b4, nI_11, cl, nI_1]
    refine ⟨fun _ => ⟨fun _ => ⟨z, hk _ _ ?_⟩, fun q => absurd (nI_inj (b := 50) (by omega) (by omega) q) (by omega)⟩, fun q => absurd hx q⟩
    have frM : Fr [3569] [79] τ (sR (sA τ 79 nb (nI kd)) 3569 (nI (nb + 1))) := (Fr.rf.wA.wR).mono (by simp) (by simp)
    have m2 : ∀ j, ar (sR (sA τ 79 nb (nI kd)) 3569 (nI (nb + 1))) 79 j = if j = nb then nI kd else ar τ 79 j := by
      intro j; simp [ar_sR, ar_sA]
    have fr := frC.tr frM
    refine ⟨nr, nd, n, pl, nt, dn, un, nb + 1, nq, hH.fr fr rfl rfl, hT.fr fr rfl rfl, hD.fr fr rfl rfl, hU.fr fr rfl rfl, hI.fr fr rfl rfl, ?_, (fun s hs => R_S1.mono (R_S.fr fr rfl rfl hS s hs) (by omega)), hL.fr fr rfl rfl⟩
    refine ⟨⟨by omega, b2⟩, ⟨(frM.R 2497 rfl).trans q1, rfl⟩, ⟨(fr.R 2499 rfl).trans b5, (fr.R 3571 rfl).trans b6⟩, fun j hj => ?_, fun j h1 h2 => ?_⟩
    · rw [m2, frM.A 40 rfl, q2, frC.A 79 rfl]
      by_cases e : j = nb
      · rw [if_pos e, if_pos e]
        exact ⟨kd, hkd, rfl, rfl⟩
      · rw [if_neg e, if_neg e]
        exact b7 j (by omega)
    · rw [fr.A 80 rfl, fr.A 41 rfl]
      exact b8 j h1 h2
  · have h50 : nb = 50 := by omega
    subst h50
    refine ⟨fun q => absurd q (by decide), fun _ => b_X12_body_0 (by omega) ?_⟩
    rw [b4]
    exact ⟨fun _ => ⟨fun q => absurd rfl q, fun _ => hk _ _ old⟩, fun q => absurd hx q⟩
theorem P_trace (hd : 300 ≤ d) (hR : R σ) (x1 : Int32) : PP l g d M_X11_trace M_X12_trace [.int x1] σ := by
  intro K hk
  have old := hR
  obtain ⟨nr, nd, n, pl, nt, dn, un, nb, nq, hH, hT, hD, hU, hI, hB, hS, hL⟩ := hR
  obtain ⟨⟨b1, b2⟩, ⟨b3, b4⟩, ⟨b5, b6⟩, b7, b8⟩ := id hB
  refine b_X11_trace_0 (by omega) ⟨fun a => b_X12_trace_0 ⟨fun _ => hk _ _ old, fun q => absurd a q⟩, fun a => b_X0_traced_0 (by omega) ?_⟩
  rw [b5]
  have em : (if 24 < nI nq then 24 else nI nq) = nI (min nq 24) := by
    show (if nI 24 < nI nq then nI 24 else nI nq) = _
    by_cases h : 24 < nq
    · rw [if_pos ((ltn (a := 24) (by omega) (by omega)).mpr h), Nat.min_eq_right (by omega)]
    · rw [if_neg (fun q => h ((ltn (a := 24) (by omega) (by omega)).mp q)), Nat.min_eq_left (by omega)]
  rw [em]
  refine ⟨fun b => b_X12_trace_0 ⟨fun q => absurd q a, fun _ => ?_⟩, fun b => ?_⟩
  · rw [b6]
    refine ⟨fun _ => hk _ _ old, fun c => ⟨fun _ => hk _ _ old, fun e => ?_⟩⟩
    exfalso
    obtain ⟨j, hj, rfl⟩ := (cA (by omega)).mp ⟨a, c⟩
    have h1 := (len (by omega) (by omega)).mp b
    have h2 : ¬ 24 ≤ j := fun q => e ((len (a := 24) (by omega) (by omega)).mpr q)
    omega
  · obtain ⟨j, hj, rfl⟩ := (cA (by omega)).mp ⟨a, b⟩
    have cl : (nI j).toNatClampNeg = j := nI_clamp (by omega)
    have z : vp_in (nI j) 24 := vp_in_nI (by omega) (by omega)
    rw [cl]
    refine ⟨z, b_X12_trace_0 ⟨fun q => absurd q a, fun _ => ?_⟩⟩
    rw [b6, cl]
    refine ⟨fun q => absurd ((len (by omega) (by omega)).mp q) (by omega), fun _ => ⟨fun q => absurd ((len (a := 24) (by omega) (by omega)).mp q) (by omega), fun _ => ⟨z, ?_⟩⟩⟩
    rw [b8 j (by omega) (by omega)]
    exact hk _ _ old
end Row
