/-! shelves -/
theorem R_S1.keep {σ τ : am_S} {nb s : Nat} (h : R_S1 σ nb s) (e0 : ∀ f, f < 3 → rg τ (64 * (43 + 2 * s) + f) = rg σ (64 * (43 + 2 * s) + f)) (e1 : ar τ 81 s = ar σ 81 s) (e2 : ar τ 82 s = ar σ 82 s) (e3 : ∀ j, j < 60 → lr τ 83 (60 * s + j) = lr σ 83 (60 * s + j)) (e4 : ∀ j, lr τ (44 + 2 * s) j = lr σ (44 + 2 * s) j) : R_S1 τ nb s := by
  unfold R_S1
  rw [e0 0 (by omega), e0 1 (by omega), e0 2 (by omega), e1, e2]
  rcases h with h | h | ⟨so, n, h1, h2, h3, h4, h5, h6, h7, h8⟩
  · exact Or.inl h
  · exact Or.inr (Or.inl h)
  · exact Or.inr (Or.inr ⟨so, n, h1, h2, h3, h4, h5, h6, h7, fun j hj => by rw [e3 j (by omega), e4]; exact h8 j hj⟩)
section Shelf
variable {l : Launch} {g : am_G} {d : Nat} {σ : am_S}
theorem m1ne {n : Nat} (h : n < 2 ^ 31) : ¬ nI n = (-1) := neg1_ne h
theorem m2lt {so : Nat} (h : so < 5) : (-2 - nI so < (0 : Int32)) ∧ ¬ (-2 - nI so = (-1 : Int32)) ∧ ¬ (0 ≤ (-2 - nI so : Int32)) ∧ (-2 - (-2 - nI so) = nI so) := by
  match so, h with
  | 0, _ => decide
  | 1, _ => decide
  | 2, _ => decide
  | 3, _ => decide
  | 4, _ => decide
  | n + 5, h => omega
/-- a body is kept, or nothing -/
theorem P_keep (hd : 300 ≤ d) (hR : R σ) (x1 : Int32) (x2 : Int32) : PP l g d M_X11_keep M_X12_keep [.int x1, .int x2] σ := by
  intro K hk
  have old := hR
  obtain ⟨nr, nd, n, pl, nt, dn, un, nb, nq, hH, hT, hD, hU, hI, hB, hS, hL⟩ := hR
  obtain ⟨⟨b1, b2⟩, ⟨b3, b4⟩, b5⟩ := id hB
  have c5 : ∀ {x : Int32}, (¬ x < 0 ∧ ¬ 5 < x) ↔ ∃ j, j < 6 ∧ x = nI j := cC (n := 6) 5 rfl (by omega)
  have c6 : ∀ {x : Int32}, (¬ x < 0 ∧ ¬ 6 ≤ x) ↔ ∃ j, j < 6 ∧ x = nI j := cD (n := 6) 6 rfl (by omega)
  by_cases hs : ∃ s, s < 6 ∧ x1 = nI s
  · obtain ⟨s, hs, rfl⟩ := hs
    have cl : (nI s).toNatClampNeg = s := nI_clamp (by omega)
    have z : vp_in (nI s) 6 := vp_in_nI (by omega) (by omega)
    have hx := c5.mpr ⟨s, hs, rfl⟩
    have hx6 := c6.mpr ⟨s, hs, rfl⟩
    have go : (x2 = -1 ∨ ∃ b, b < nb ∧ x2 = nI b) → CI l g M_X12_keep d [.ref 55, .int (nI s), .int x2] (sR (sR (sR σ (64 * (43 + 2 * s) + 0) x2) (64 * (43 + 2 * s) + 1) (-1)) (64 * (43 + 2 * s) + 2) 0) (fun r2 σ2 => K 1 r2 σ2) := by
      intro hx2
      have frC : Fr [64 * (43 + 2 * s) + 2, 64 * (43 + 2 * s) + 1, 64 * (43 + 2 * s) + 0] [] σ (sR (sR (sR σ (64 * (43 + 2 * s) + 0) x2) (64 * (43 + 2 * s) + 1) (-1)) (64 * (43 + 2 * s) + 2) 0) := Fr.rf.wR.wR.wR
      have q0 : rg (sR (sR (sR σ (64 * (43 + 2 * s) + 0) x2) (64 * (43 + 2 * s) + 1) (-1)) (64 * (43 + 2 * s) + 2) 0) (64 * (43 + 2 * s) + 0) = x2 := by
        rw [rg_sR, if_neg (by omega), rg_sR, if_neg (by omega), rg_sR, if_pos rfl]
      have q1 : rg (sR (sR (sR σ (64 * (43 + 2 * s) + 0) x2) (64 * (43 + 2 * s) + 1) (-1)) (64 * (43 + 2 * s) + 2) 0) (64 * (43 + 2 * s) + 1) = -1 := by
        rw [rg_sR, if_neg (by omega), rg_sR, if_pos rfl]
      have q2 : rg (sR (sR (sR σ (64 * (43 + 2 * s) + 0) x2) (64 * (43 + 2 * s) + 1) (-1)) (64 * (43 + 2 * s) + 2) 0) (64 * (43 + 2 * s) + 2) = 0 := by
        rw [rg_sR, if_pos rfl]
      generalize (sR (sR (sR σ (64 * (43 + 2 * s) + 0) x2) (64 * (43 + 2 * s) + 1) (-1)) (64 * (43 + 2 * s) + 2) 0) = τ at *
      have nin : ∀ r, (r < 2752 ∨ 3456 ≤ r) → r ∉ [64 * (43 + 2 * s) + 2, 64 * (43 + 2 * s) + 1, 64 * (43 + 2 * s) + 0] := by
        intro r hr hm
        simp only [List.mem_cons, List.not_mem_nil, or_false] at hm
        omega
      -- a frame without computed registers
      have frX : ∀ r, (r < 2752 ∨ 3456 ≤ r) → rg τ r = rg σ r := fun r hr => frC.1 r (nin r hr)
      have leaf : K 1 1 (sA τ 81 s x2) := by
        refine hk _ _ ?_
        have frM : Fr [] [81] τ (sA τ 81 s x2) := Fr.rf.wA
        have fr := frC.tr frM
        have RX : ∀ r, (r < 2752 ∨ 3456 ≤ r) → rg (sA τ 81 s x2) r = rg σ r := fun r hr => (frX r hr)
        have AX : ∀ a, a ≠ 81 → ar (sA τ 81 s x2) a = ar σ a ∧ lr (sA τ 81 s x2) a = lr σ a := fun a ha => fr.2 a (by simpa using ha)
        have big : Fr (List.range' 2752 704) [81] σ (sA τ 81 s x2) := ⟨fun r hr => RX r (by simp only [List.mem_range'_1] at hr; omega), fun a ha => AX a (by simpa using ha)⟩
        refine ⟨nr, nd, n, pl, nt, dn, un, nb, nq, ?_, ?_, ?_, ?_, ?_, ?_, ?_, ?_⟩
        · exact hH.fr big (by decide +kernel) rfl
        · exact hT.fr big (by decide +kernel) rfl
        · exact hD.fr big (by decide +kernel) rfl
        · exact hU.fr big (by decide +kernel) rfl
        · exact hI.fr big (by decide +kernel) rfl
        · exact hB.fr big (by decide +kernel) rfl
        · intro t ht
          by_cases e : t = s
          · subst e
            have e81 : ar (sA τ 81 t x2) 81 t = x2 := by rw [ar_sA, if_pos ⟨rfl, rfl⟩]
            rcases hx2 with rfl | ⟨b, hb, rfl⟩
            · exact Or.inl ⟨q0, q1, q2, e81⟩
            · exact Or.inr (Or.inl ⟨b, hb, q0, q1, q2, e81⟩)
          · refine (hS t ht).keep (fun f hf => ?_) ?_ ?_ (fun j hj => ?_) (fun j => ?_)
            · exact frC.1 _ (fun hm => by simp only [List.mem_cons, List.not_mem_nil, or_false] at hm; omega)
            · rw [ar_sA, if_neg (fun q => e q.2), (frC.2 81 (by simp)).1]
            · rw [(AX 82 (by decide)).1]
            · rw [(AX 83 (by decide)).2]
            · rw [(AX (44 + 2 * t) (by omega)).2]
        · exact hL.fr big (by decide +kernel) rfl
      refine b_X12_keep_0 (by omega) ?_
      rw [frX 3569 (by omega), b4, cl]
      refine ⟨fun _ => ⟨fun _ => ⟨z, leaf⟩, fun a => ⟨fun _ => ⟨z, leaf⟩, fun b => ?_⟩⟩, fun q => absurd hx q⟩
      rcases hx2 with q | ⟨b', hb', e⟩
      · exact absurd q a
      · exact absurd ((cB (by omega)).mpr ⟨b', hb', e⟩) b
    refine b_X11_keep_0 (by omega) ?_
    rw [b3, cl]
    refine ⟨fun _ => ⟨fun a => ⟨z, b_X8_holdBody_0 hs (go (Or.inl a))⟩, fun a => ⟨fun b => ⟨z, b_X8_holdBody_0 hs (go (Or.inr ((cA (by omega)).mp b)))⟩, fun b => ?_⟩⟩, fun q => absurd hx6 q⟩
    refine b_X12_keep_0 (by omega) ?_
    rw [b4]
    exact ⟨fun _ => ⟨fun q => absurd q a, fun _ => ⟨fun q => absurd ((cA (by omega)).mpr ((cB (by omega)).mp q)) b, fun _ => hk _ _ old⟩⟩, fun q => absurd hx q⟩
  · refine b_X11_keep_0 (by omega) ⟨fun q => absurd (c6.mp q) hs, fun _ => ?_⟩
    exact b_X12_keep_0 (by omega) ⟨fun q => absurd (c5.mp q) hs, fun _ => hk _ _ old⟩
end Shelf
