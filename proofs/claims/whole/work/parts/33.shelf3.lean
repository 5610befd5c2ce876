/-! put, row, taken, body, trace -/
section Shelf3
variable {l : Launch} {g : am_G} {d : Nat} {σ : am_S}
theorem eR_both {x1 x2 : Int32} {nb : Nat} (hnb : nb ≤ 50) (hS : R_S σ nb) : ∃ v : Int32, ((v < 0) ∨ (v = 0 ∧ ∃ s so n i, s < 6 ∧ x1 = nI s ∧ RowS σ s so n ∧ i < n ∧ x2 = nI i)) ∧ (∀ (l : Launch) (g : am_G) (d : Nat) (k : Int32 → am_S → Prop), 10 ≤ d → k v σ → CI l g M_X11_elementRefusal d [.ref 0, .int x1, .int x2] σ k) ∧ (∀ (l : Launch) (g : am_G) (d : Nat) (k : Int32 → am_S → Prop), 10 ≤ d → k v σ → CI l g M_X12_whyNoPlace d [.ref 55, .int x1, .int x2] σ k) := by
  have same : ∀ {s s' : Nat}, s < 6 → s' < 6 → x1 = nI s → x1 = nI s' → s = s' := fun h1 h2 e1 e2 => nI_inj (by omega) (by omega) (e1.symm.trans e2)
  by_cases hs : ∃ s, s < 6 ∧ x1 = nI s
  · obtain ⟨s, hs, e1⟩ := hs
    rcases hS s hs with ⟨q0, q1, q2, q3⟩ | ⟨b, hb, q0, q1, q2, q3⟩ | ⟨so, n, hr⟩
    · have f2 : ∀ s' b, s' < 6 → x1 = nI s' → b < nb → ar σ 81 s' = nI b → False := by
        intro s' b hs' e hb e3
        have := same hs hs' e1 e
        subst this
        exact neg1_ne (by omega) (e3.symm.trans q3)
      have f3 : ∀ s' so n, s' < 6 → x1 = nI s' → RowS σ s' so n → False := by
        intro s' so n hs' e hr
        have := same hs hs' e1 e
        subst this
        exact (m2lt hr.1).2.1 (hr.2.2.2.2.2.1.symm.trans q3)
      refine ⟨-11, Or.inl (by decide), fun l g d k hd hk => ?_, fun l g d k hd hk => ?_⟩
      · exact c_eR hd hnb hS (fun no => absurd ⟨s, hs, e1⟩ no) (fun _ _ _ _ => hk) (fun s' b h1 h2 h3 h4 => (f2 s' b h1 h2 h3 h4).elim) (fun s' so n i h1 h2 h3 _ _ => (f3 s' so n h1 h2 h3).elim) (fun s' so n h1 h2 h3 _ => (f3 s' so n h1 h2 h3).elim)
      · exact c_wnp hd hnb hS (fun no => absurd ⟨s, hs, e1⟩ no) (fun _ _ _ _ => hk) (fun s' b h1 h2 h3 h4 => (f2 s' b h1 h2 h3 h4).elim) (fun s' so n i h1 h2 h3 _ _ => (f3 s' so n h1 h2 h3).elim) (fun s' so n h1 h2 h3 _ => (f3 s' so n h1 h2 h3).elim)
    · have f1 : ∀ s', s' < 6 → x1 = nI s' → ar σ 81 s' = -1 → False := by
        intro s' hs' e e3
        have := same hs hs' e1 e
        subst this
        exact neg1_ne (by omega) (q3.symm.trans e3)
      have f3 : ∀ s' so n, s' < 6 → x1 = nI s' → RowS σ s' so n → False := by
        intro s' so n hs' e hr
        have := same hs hs' e1 e
        subst this
        have h1 := (m2lt hr.1).1
        rw [hr.2.2.2.2.2.1.symm.trans q3] at h1
        exact nI_pos (by omega) h1
      refine ⟨-12, Or.inl (by decide), fun l g d k hd hk => ?_, fun l g d k hd hk => ?_⟩
      · exact c_eR hd hnb hS (fun no => absurd ⟨s, hs, e1⟩ no) (fun s' h1 h2 h3 => (f1 s' h1 h2 h3).elim) (fun s' b h1 h2 h3 h4 => hk) (fun s' so n i h1 h2 h3 _ _ => (f3 s' so n h1 h2 h3).elim) (fun s' so n h1 h2 h3 _ => (f3 s' so n h1 h2 h3).elim)
      · exact c_wnp hd hnb hS (fun no => absurd ⟨s, hs, e1⟩ no) (fun s' h1 h2 h3 => (f1 s' h1 h2 h3).elim) (fun s' b h1 h2 h3 h4 => hk) (fun s' so n i h1 h2 h3 _ _ => (f3 s' so n h1 h2 h3).elim) (fun s' so n h1 h2 h3 _ => (f3 s' so n h1 h2 h3).elim)
    · have f1 : ∀ s', s' < 6 → x1 = nI s' → ar σ 81 s' = -1 → False := by
        intro s' hs' e e3
        have := same hs hs' e1 e
        subst this
        exact (m2lt hr.1).2.1 (hr.2.2.2.2.2.1.symm.trans e3)
      have f2 : ∀ s' b, s' < 6 → x1 = nI s' → b < nb → ar σ 81 s' = nI b → False := by
        intro s' b hs' e hb e3
        have := same hs hs' e1 e
        subst this
        have h1 := (m2lt hr.1).1
        rw [hr.2.2.2.2.2.1.symm.trans e3] at h1
        exact nI_pos (by omega) h1
      have fn : ∀ s' so' n', s' < 6 → x1 = nI s' → RowS σ s' so' n' → n' = n := by
        intro s' so' n' hs' e hr'
        have := same hs hs' e1 e
        subst this
        exact nI_inj (by have := hr'.2.1; omega) (by have := hr.2.1; omega) (hr'.2.2.2.2.1.symm.trans hr.2.2.2.2.1)
      by_cases hi : ∃ i, i < n ∧ x2 = nI i
      · obtain ⟨i, hi, e2⟩ := hi
        refine ⟨0, Or.inr ⟨rfl, s, so, n, i, hs, e1, hr, hi, e2⟩, fun l g d k hd hk => ?_, fun l g d k hd hk => ?_⟩
        · exact c_eR hd hnb hS (fun no => absurd ⟨s, hs, e1⟩ no) (fun s' h1 h2 h3 => (f1 s' h1 h2 h3).elim) (fun s' b h1 h2 h3 h4 => (f2 s' b h1 h2 h3 h4).elim) (fun s' so n i h1 h2 h3 _ _ => hk) (fun s' so' n' h1 h2 h3 no => absurd ⟨i, by rw [fn s' so' n' h1 h2 h3]; exact hi, e2⟩ no)
        · exact c_wnp hd hnb hS (fun no => absurd ⟨s, hs, e1⟩ no) (fun s' h1 h2 h3 => (f1 s' h1 h2 h3).elim) (fun s' b h1 h2 h3 h4 => (f2 s' b h1 h2 h3 h4).elim) (fun s' so n i h1 h2 h3 _ _ => hk) (fun s' so' n' h1 h2 h3 no => absurd ⟨i, by rw [fn s' so' n' h1 h2 h3]; exact hi, e2⟩ no)
      · refine ⟨-13, Or.inl (by decide), fun l g d k hd hk => ?_, fun l g d k hd hk => ?_⟩
        · exact c_eR hd hnb hS (fun no => absurd ⟨s, hs, e1⟩ no) (fun s' h1 h2 h3 => (f1 s' h1 h2 h3).elim) (fun s' b h1 h2 h3 h4 => (f2 s' b h1 h2 h3 h4).elim) (fun s' so' n' i h1 h2 h3 h4 h5 => absurd ⟨i, by rw [← fn s' so' n' h1 h2 h3]; exact h4, h5⟩ hi) (fun s' so' n' h1 h2 h3 no => hk)
        · exact c_wnp hd hnb hS (fun no => absurd ⟨s, hs, e1⟩ no) (fun s' h1 h2 h3 => (f1 s' h1 h2 h3).elim) (fun s' b h1 h2 h3 h4 => (f2 s' b h1 h2 h3 h4).elim) (fun s' so' n' i h1 h2 h3 h4 h5 => absurd ⟨i, by rw [← fn s' so' n' h1 h2 h3]; exact h4, h5⟩ hi) (fun s' so' n' h1 h2 h3 no => hk)
  · refine ⟨-1, Or.inl (by decide), fun l g d k hd hk => ?_, fun l g d k hd hk => ?_⟩
    · exact c_eR hd hnb hS (fun _ => hk) (fun s h1 h2 _ => absurd ⟨s, h1, h2⟩ hs) (fun s _ h1 h2 _ _ => absurd ⟨s, h1, h2⟩ hs) (fun s _ _ _ h1 h2 _ _ _ => absurd ⟨s, h1, h2⟩ hs) (fun s _ _ h1 h2 _ _ => absurd ⟨s, h1, h2⟩ hs)
    · exact c_wnp hd hnb hS (fun _ => hk) (fun s h1 h2 _ => absurd ⟨s, h1, h2⟩ hs) (fun s _ h1 h2 _ _ => absurd ⟨s, h1, h2⟩ hs) (fun s _ _ _ h1 h2 _ _ _ => absurd ⟨s, h1, h2⟩ hs) (fun s _ _ h1 h2 _ _ => absurd ⟨s, h1, h2⟩ hs)
/-- what of a long is kept in a row of a sort -/
def nar (so : Nat) (v : Int64) : Int64 := if so = 0 then v.toInt32.toInt8.toInt32.toInt64 else if so = 1 then v.toInt32.toInt16.toInt32.toInt64 else if so = 2 then v.toInt32.toInt64 else if so = 3 then v else if lg_cmp v 0 = 0 then 0 else 1
theorem R_row {σ τ : am_S} {nr nd n nt dn un nb nq s so m : Nat} {pl : Nat → Nat} (h : RR σ nr nd n pl nt dn un nb nq) (hs : s < 6) (hr : RowS τ s so m) (frR : ∀ r, (r < 64 * (43 + 2 * s) ∨ 64 * (43 + 2 * s) + 3 ≤ r) → rg τ r = rg σ r) (frA : ∀ a, a ≠ 81 → a ≠ 82 → ar τ a = ar σ a) (frL : ∀ a, a ≠ 44 + 2 * s → a ≠ 83 → a ≠ 84 → lr τ a = lr σ a) (e1 : ∀ t, t ≠ s → ar τ 81 t = ar σ 81 t ∧ ar τ 82 t = ar σ 82 t) (e2 : ∀ t j, t ≠ s → j < 60 → lr τ 83 (60 * t + j) = lr σ 83 (60 * t + j)) : R τ := by
  obtain ⟨hH, hT, hD, hU, hI, hB, hS, hL⟩ := h
  have big : Fr (List.range' 2752 704) ([81, 82, 83, 84] ++ List.range' 44 11) σ τ := by
    refine Fr.big (fun r hr => frR r (by omega)) (fun a ha => ?_)
    simp only [List.mem_append, List.mem_cons, List.not_mem_nil, or_false, List.mem_range'_1] at ha
    exact ⟨frA a (by omega) (by omega), frL a (by omega) (by omega) (by omega)⟩
  refine ⟨nr, nd, n, pl, nt, dn, un, nb, nq, ?_, ?_, ?_, ?_, ?_, ?_, ?_, ?_⟩
  · exact hH.fr big (by decide +kernel) (by decide +kernel)
  · exact hT.fr big (by decide +kernel) (by decide +kernel)
  · exact hD.fr big (by decide +kernel) (by decide +kernel)
  · exact hU.fr big (by decide +kernel) (by decide +kernel)
  · exact hI.fr big (by decide +kernel) (by decide +kernel)
  · exact hB.fr big (by decide +kernel) (by decide +kernel)
  · intro t ht
    by_cases e : t = s
    · subst e
      exact Or.inr (Or.inr ⟨so, m, hr⟩)
    · exact (hS t ht).keep (fun f hf => frR _ (by omega)) (e1 t e).1 (e1 t e).2 (fun j hj => e2 t j e hj) (fun j => by rw [frL (44 + 2 * t) (by omega) (by omega) (by omega)])
  · exact hL.fr big (by decide +kernel) (by decide +kernel)
theorem P_put (hd : 300 ≤ d) (hR : R σ) (x1 : Int32) (x2 : Int32) (x3 : Int64) : PP l g d M_X11_put M_X12_put [.int x1, .int x2, .long x3] σ := by
  intro K hk
  have old := hR
  obtain ⟨nr, nd, n0, pl, nt, dn, un, nb, nq, hRR⟩ := hR
  obtain ⟨hH, hT, hD, hU, hI, hB, hS, hL⟩ := id hRR
  have hnb := hB.1.1
  obtain ⟨v, hv, f1, f2⟩ := eR_both (x1 := x1) (x2 := x2) hnb hS
  refine b_X11_put_0 (by omega) (f1 l g (d - 1) _ (by omega) ?_)
  rcases hv with hv | ⟨rfl, s, so, n, i, hs, rfl, hr, hi, rfl⟩
  · refine ⟨fun q => absurd hv (by rw [q]; decide), fun _ => ?_⟩
    refine b_X12_put_0 (by omega) (f2 l g (d - 1) _ (by omega) ⟨fun q => absurd hv (by grind), fun _ => hk _ _ old⟩)
  · have cl : (nI s).toNatClampNeg = s := nI_clamp (by omega)
    have cli : (nI i).toNatClampNeg = i := nI_clamp (by have := hr.2.1; omega)
    have z : vp_in (nI s) 6 := vp_in_nI (by omega) (by omega)
    obtain ⟨r1, r2, r3, r4, r5, r6, r7, r8⟩ := id hr
    obtain ⟨i1, i2⟩ := idx60 (i := i) (n := n) hs hi r2
    rw [cl]
    refine ⟨fun _ => ⟨z, b_X8_set_0 hs (by omega) ?_⟩, fun q => absurd rfl q⟩
    rw [r5, cli]
    refine ⟨fun q => absurd q (nI_pos (by omega)), fun _ => ⟨fun q => absurd ((len (by omega) (by omega)).mp q) (by omega), fun _ => ?_⟩⟩
    have zi : vp_in (nI i) 60 := vp_in_nI (by omega) (by omega)
    have go : CI l g M_X12_put d [.ref 55, .int (nI s), .int (nI i), .long x3] (sL σ (44 + 2 * s) i (nar so x3)) (fun r2 σ2 => K 1 r2 σ2) := by
      have frC : Fr [] [44 + 2 * s] σ (sL σ (44 + 2 * s) i (nar so x3)) := Fr.rf.wL
      have b4 : ∀ j, lr (sL σ (44 + 2 * s) i (nar so x3)) (44 + 2 * s) j = if j = i then nar so x3 else lr σ (44 + 2 * s) j := by
        intro j
        rw [lr_sL]
        by_cases e : j = i
        · rw [if_pos ⟨rfl, e⟩, if_pos e]
        · rw [if_neg (fun q => e q.2), if_neg e]
      generalize hτ : (sL σ (44 + 2 * s) i (nar so x3)) = τ at *
      have t81 : ar τ 81 = ar σ 81 := by rw [← hτ]; rfl
      have t82 : ar τ 82 = ar σ 82 := by rw [← hτ]; rfl
      have tR : ∀ r, rg τ r = rg σ r := fun r => frC.1 r (by simp)
      refine b_X12_put_0 (by omega) (b_X12_whyNoPlace_0 (by omega) ⟨fun _ => ?_, fun q => absurd ((cC (n := 6) 5 rfl (by omega)).mpr ⟨s, hs, rfl⟩) q⟩)
      have m := m2lt r1
      rw [cl, t81, t82, r6, r7, m.2.2.2, i2]
      refine ⟨z, fun _ => ⟨z, fun _ => ⟨z, fun _ => ⟨fun _ => ⟨z, ?_⟩, fun q => absurd (by decide) q⟩, fun q => absurd ((cB (by omega)).mpr ⟨i, hi, rfl⟩) q⟩, fun q => absurd m.1 q⟩, fun q => absurd q m.2.1⟩
      have leaf : K 1 1 (sL τ 83 (60 * s + i) (nar so x3)) := by
        refine hk _ _ (R_row hRR hs (so := so) (m := n) ?_ (fun r _ => tR r) (fun a h1 h2 => ?_) (fun a h1 h2 _ => ?_) (fun t ht => ?_) (fun t j ht hj => ?_))
        · refine ⟨r1, r2, ?_, ?_, ?_, ?_, ?_, fun j hj => ?_⟩
          · exact (tR _).trans r3
          · exact (tR _).trans r4
          · exact (tR _).trans r5
          · exact (congrFun t81 s).trans r6
          · exact (congrFun t82 s).trans r7
          · have h2 : lr (sL τ 83 (60 * s + i) (nar so x3)) (44 + 2 * s) j = lr τ (44 + 2 * s) j := by
              rw [lr_sL, if_neg (fun q => absurd q.1 (by omega))]
            rw [h2, b4, lr_sL]
            by_cases e : j = i
            · rw [if_pos ⟨rfl, by rw [e]⟩, if_pos e]
            · rw [if_neg (fun q => e (by omega)), if_neg e, ← hτ, lr_sL, if_neg (fun q => absurd q.1 (by omega))]
              exact r8 j hj
        · show ar τ a = ar σ a
          rw [← hτ]
          rfl
        · funext j
          rw [lr_sL, if_neg (fun q => h2 q.1), ← hτ, lr_sL, if_neg (fun q => h1 q.1)]
        · exact ⟨congrFun t81 t, congrFun t82 t⟩
        · rw [lr_sL, if_neg (fun q => by omega), ← hτ, lr_sL, if_neg (fun q => by omega)]
      have so5 : so = 0 ∨ so = 1 ∨ so = 2 ∨ so = 3 ∨ so = 4 := by omega
      rcases so5 with rfl | rfl | rfl | rfl | rfl
      · exact ⟨fun q => absurd rfl q, fun _ => ⟨i1, leaf⟩⟩
      · exact ⟨fun _ => ⟨fun q => absurd rfl q, fun _ => ⟨i1, leaf⟩⟩, fun q => absurd q (by decide)⟩
      · exact ⟨fun _ => ⟨fun _ => ⟨fun q => absurd rfl q, fun _ => ⟨i1, leaf⟩⟩, fun q => absurd q (by decide)⟩, fun q => absurd q (by decide)⟩
      · exact ⟨fun _ => ⟨fun _ => ⟨fun _ => ⟨fun q => absurd rfl q, fun _ => ⟨i1, leaf⟩⟩, fun q => absurd q (by decide)⟩, fun q => absurd q (by decide)⟩, fun q => absurd q (by decide)⟩
      · refine ⟨fun _ => ⟨fun _ => ⟨fun _ => ⟨fun _ => ⟨fun c => ⟨i1, ?_⟩, fun c => ⟨i1, ?_⟩⟩, fun q => absurd q (by decide)⟩, fun q => absurd q (by decide)⟩, fun q => absurd q (by decide)⟩, fun q => absurd q (by decide)⟩
        · have e : nar 4 x3 = 0 := by
            show (if lg_cmp x3 0 = 0 then (0 : Int64) else 1) = 0
            rw [if_pos c]
          rw [e] at leaf
          exact leaf
        · have e : nar 4 x3 = 1 := by
            show (if lg_cmp x3 0 = 0 then (0 : Int64) else 1) = 1
            rw [if_neg c]
          rw [e] at leaf
          exact leaf
    refine b_X8_narrowed_0 hs ?_
    rw [r4]
    have so5 : so = 0 ∨ so = 1 ∨ so = 2 ∨ so = 3 ∨ so = 4 := by omega
    rcases so5 with rfl | rfl | rfl | rfl | rfl
    · exact ⟨fun q => absurd q (by decide), fun _ => ⟨zi, go⟩, fun q => absurd q (by decide), fun q => absurd q (by decide), fun q => absurd q (by decide)⟩
    · exact ⟨fun q => absurd q (by decide), fun q => absurd q (by decide), fun _ => ⟨zi, go⟩, fun q => absurd q (by decide), fun q => absurd q (by decide)⟩
    · exact ⟨fun q => absurd q (by decide), fun q => absurd q (by decide), fun q => absurd q (by decide), fun _ => ⟨zi, go⟩, fun q => absurd q (by decide)⟩
    · exact ⟨fun q => absurd q (by decide), fun q => absurd q (by decide), fun q => absurd q (by decide), fun q => absurd q (by decide), fun _ => ⟨zi, go⟩⟩
    · refine ⟨fun _ => ⟨fun c => ⟨zi, ?_⟩, fun c => ⟨zi, ?_⟩⟩, fun q => absurd q (by decide), fun q => absurd q (by decide), fun q => absurd q (by decide), fun q => absurd q (by decide)⟩
      · have e : nar 4 x3 = 0 := by
          show (if lg_cmp x3 0 = 0 then (0 : Int64) else 1) = 0
          rw [if_pos c]
        rw [e] at go
        exact go
      · have e : nar 4 x3 = 1 := by
          show (if lg_cmp x3 0 = 0 then (0 : Int64) else 1) = 1
          rw [if_neg c]
        rw [e] at go
        exact go
end Shelf3
