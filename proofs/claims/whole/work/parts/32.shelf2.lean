/-! rows on shelves: elements read and put -/
theorem Fr.big {σ τ : am_S} {as : List Nat} (h1 : ∀ r, (r < 2752 ∨ 3456 ≤ r) → rg τ r = rg σ r) (h2 : ∀ a, a ∉ as → ar τ a = ar σ a ∧ lr τ a = lr σ a) : Fr (List.range' 2752 704) as σ τ := ⟨fun r hr => h1 r (by simp only [List.mem_range'_1] at hr; omega), h2⟩
/-- what refuses an element -/
def RowS (σ : am_S) (s so n : Nat) : Prop := so < 5 ∧ n ≤ 60 ∧ rg σ (64 * (43 + 2 * s) + 0) = -1 ∧ rg σ (64 * (43 + 2 * s) + 1) = nI so ∧ rg σ (64 * (43 + 2 * s) + 2) = nI n ∧ ar σ 81 s = -2 - nI so ∧ ar σ 82 s = nI n ∧ ∀ j, j < n → lr σ 83 (60 * s + j) = lr σ (44 + 2 * s) j
section Shelf2
variable {l : Launch} {g : am_G} {d : Nat} {σ : am_S}
theorem c_rowRefusal {s : Nat} {k : Int32 → am_S → Prop} (hd : 1 ≤ d) (hs : s < 6) {nb : Nat} (hnb : nb ≤ 50) (h : R_S1 σ nb s) (h1 : ar σ 81 s = -1 → k (-11) σ) (h2 : ∀ b, b < nb → ar σ 81 s = nI b → k (-12) σ) (h3 : ∀ so n, RowS σ s so n → k 0 σ) : CI l g M_X8_rowRefusal d [.ref (43 + 2 * s)] σ k := by
  refine b_X8_rowRefusal_0 hs (by omega) ?_
  rcases h with ⟨q0, q1, q2, q3⟩ | ⟨b, hb, q0, q1, q2, q3⟩ | ⟨so, n, r1, r2, q0, q1, q2, q3, q4⟩
  · rw [q0, q1]
    exact ⟨fun _ => h1 q3, fun q => absurd ⟨rfl, rfl⟩ q⟩
  · rw [q0, q1]
    exact ⟨fun q => absurd q.1 (neg1_ne (by omega)), fun _ => ⟨fun q => absurd rfl q, fun _ => h2 b hb q3⟩⟩
  · have e := h3 so n ⟨r1, r2, q0, q1, q2, q3, q4⟩
    rw [q0, q1]
    exact ⟨fun q => absurd q.2 (neg1_ne (by omega)), fun _ => ⟨fun _ => e, fun q => absurd q (neg1_ne (by omega))⟩⟩
theorem c_eR {x1 x2 : Int32} {nb : Nat} {k : Int32 → am_S → Prop} (hd : 10 ≤ d) (hnb : nb ≤ 50) (hS : R_S σ nb) (h0 : (¬ ∃ s, s < 6 ∧ x1 = nI s) → k (-1) σ) (h1 : ∀ s, s < 6 → x1 = nI s → ar σ 81 s = -1 → k (-11) σ) (h2 : ∀ s b, s < 6 → x1 = nI s → b < nb → ar σ 81 s = nI b → k (-12) σ) (h3 : ∀ s so n i, s < 6 → x1 = nI s → RowS σ s so n → i < n → x2 = nI i → k 0 σ) (h4 : ∀ s so n, s < 6 → x1 = nI s → RowS σ s so n → (¬ ∃ i, i < n ∧ x2 = nI i) → k (-13) σ) : CI l g M_X11_elementRefusal d [.ref 0, .int x1, .int x2] σ k := by
  have c6 : ∀ {x : Int32}, (¬ x < 0 ∧ ¬ 6 ≤ x) ↔ ∃ j, j < 6 ∧ x = nI j := cD (n := 6) 6 rfl (by omega)
  refine b_X11_elementRefusal_0 (by omega) ⟨fun a => ?_, fun a => h0 (fun q => a (c6.mpr q))⟩
  obtain ⟨s, hs, rfl⟩ := c6.mp a
  have cl : (nI s).toNatClampNeg = s := nI_clamp (by omega)
  have z : vp_in (nI s) 6 := vp_in_nI (by omega) (by omega)
  rw [cl]
  refine ⟨z, ?_⟩
  refine c_rowRefusal (by omega) hs hnb (hS s hs) (fun e => ?_) (fun b hb e => ?_) (fun so n hr => ?_)
  · exact ⟨fun q => absurd q (by decide), fun _ => h1 s hs rfl e⟩
  · exact ⟨fun q => absurd q (by decide), fun _ => h2 s b hs rfl hb e⟩
  · refine ⟨fun _ => ⟨fun q => ?_, fun q => ⟨z, ?_⟩⟩, fun q => absurd rfl q⟩
    · refine h4 s so n hs rfl hr ?_
      rintro ⟨i, hi, rfl⟩
      exact nI_pos (by have := hr.2.1; omega) q
    · obtain ⟨r1, r2, r3, r4, r5, r6⟩ := id hr
      rw [r5]
      refine ⟨fun w => ?_, fun w => ?_⟩
      · obtain ⟨i, hi, e⟩ := (cA (n := n) (x := x2) (by omega)).mp ⟨q, by grind⟩
        exact h3 s so n i hs rfl hr hi e
      · refine h4 s so n hs rfl hr ?_
        rintro ⟨i, hi, rfl⟩
        exact w (nI_lt hi (by omega))
theorem c_wnp {x1 x2 : Int32} {nb : Nat} {k : Int32 → am_S → Prop} (hd : 10 ≤ d) (hnb : nb ≤ 50) (hS : R_S σ nb) (h0 : (¬ ∃ s, s < 6 ∧ x1 = nI s) → k (-1) σ) (h1 : ∀ s, s < 6 → x1 = nI s → ar σ 81 s = -1 → k (-11) σ) (h2 : ∀ s b, s < 6 → x1 = nI s → b < nb → ar σ 81 s = nI b → k (-12) σ) (h3 : ∀ s so n i, s < 6 → x1 = nI s → RowS σ s so n → i < n → x2 = nI i → k 0 σ) (h4 : ∀ s so n, s < 6 → x1 = nI s → RowS σ s so n → (¬ ∃ i, i < n ∧ x2 = nI i) → k (-13) σ) : CI l g M_X12_whyNoPlace d [.ref 55, .int x1, .int x2] σ k := by
  have c5 : ∀ {x : Int32}, (¬ x < 0 ∧ ¬ 5 < x) ↔ ∃ j, j < 6 ∧ x = nI j := cC (n := 6) 5 rfl (by omega)
  refine b_X12_whyNoPlace_0 (by omega) ⟨fun a => ?_, fun a => h0 (fun q => a (c5.mpr q))⟩
  obtain ⟨s, hs, rfl⟩ := c5.mp a
  have cl : (nI s).toNatClampNeg = s := nI_clamp (by omega)
  have z : vp_in (nI s) 6 := vp_in_nI (by omega) (by omega)
  rw [cl]
  rcases hS s hs with ⟨q0, q1, q2, q3⟩ | ⟨b, hb, q0, q1, q2, q3⟩ | ⟨so, n, r1, r2, q0, q1, q2, q3, q4, q5⟩
  · have := h1 s hs rfl q3
    rw [q3]
    exact ⟨z, fun q => absurd rfl q, fun _ => this⟩
  · have := h2 s b hs rfl hb q3
    rw [q3]
    exact ⟨z, fun _ => ⟨z, fun q => absurd q (nI_pos (by omega)), fun _ => this⟩, fun q => absurd q (neg1_ne (by omega))⟩
  · have hr : RowS σ s so n := ⟨r1, r2, q0, q1, q2, q3, q4, q5⟩
    have m := m2lt r1
    rw [q3, q4]
    refine ⟨z, fun _ => ⟨z, fun _ => ⟨z, fun q => ?_, fun q => ?_⟩, fun q => absurd m.1 q⟩, fun q => absurd q m.2.1⟩
    · obtain ⟨i, hi, e⟩ := (cB (by omega)).mp q
      exact h3 s so n i hs rfl hr hi e
    · exact h4 s so n hs rfl hr (fun w => q ((cB (by omega)).mpr w))
theorem idx60 {s i n : Nat} (hs : s < 6) (hi : i < n) (hn : n ≤ 60) : vp_in (60 * nI s + nI i) 360 ∧ (60 * nI s + nI i).toNatClampNeg = 60 * s + i := by
  have e : 60 * nI s + nI i = nI (60 * s + i) := by
    rw [show (60 : Int32) = nI 60 from rfl, pk_mul, nI_add]
  rw [e]
  exact ⟨vp_in_nI (by omega) (by omega), nI_clamp (by omega)⟩
theorem P_element (hd : 300 ≤ d) (hR : R σ) (x1 : Int32) (x2 : Int32) : PL l g d M_X11_element M_X12_element [.int x1, .int x2] σ := by
  intro K hk
  have old := hR
  obtain ⟨nr, nd, n0, pl, nt, dn, un, nb, nq, hH, hT, hD, hU, hI, hB, hS, hL⟩ := hR
  have hnb := hB.1.1
  have bad : ∀ v : Int32, v < 0 → CI l g M_X12_whyNoPlace (d - 1) [.ref 55, .int x1, .int x2] σ (fun r1 σ1 => r1 = v ∧ σ1 = σ) → CL l g M_X12_element d [.ref 55, .int x1, .int x2] σ (fun r2 σ2 => K (-9223372036854775808) r2 σ2) := by
    intro v hv hc
    refine b_X12_element_0 (by omega) (hc.mono ?_)
    rintro r σ1 ⟨rfl, rfl⟩
    exact ⟨fun q => absurd hv (by grind), fun _ => hk _ _ old⟩
  refine b_X11_element_0 (by omega) (c_eR (by omega) hnb hS (fun no => ⟨fun q => absurd q (by decide), fun _ => ?_⟩) (fun s hs e1 e2 => ⟨fun q => absurd q (by decide), fun _ => ?_⟩) (fun s b hs e1 hb e2 => ⟨fun q => absurd q (by decide), fun _ => ?_⟩) (fun s so n i hs e1 hr hi e2 => ⟨fun _ => ?_, fun q => absurd rfl q⟩) (fun s so n hs e1 hr no => ⟨fun q => absurd q (by decide), fun _ => ?_⟩))
  · refine bad (-1) (by decide) (c_wnp (by omega) hnb hS (fun _ => ⟨rfl, rfl⟩) (fun s hs e _ => absurd ⟨s, hs, e⟩ no) (fun s b hs e _ _ => absurd ⟨s, hs, e⟩ no) (fun s _ _ _ hs e _ _ _ => absurd ⟨s, hs, e⟩ no) (fun s _ _ hs e _ _ => absurd ⟨s, hs, e⟩ no))
  · refine bad (-11) (by decide) (c_wnp (by omega) hnb hS (fun no => absurd ⟨s, hs, e1⟩ no) (fun s hs e _ => ⟨rfl, rfl⟩) (fun s' b hs' e hb e3 => ?_) (fun s' so n i hs' e hr _ _ => ?_) (fun s' so n hs' e hr _ => ?_))
    · have : s = s' := nI_inj (by omega) (by omega) (e1.symm.trans e)
      subst this
      exact absurd (e3.symm.trans e2) (neg1_ne (by omega))
    · have : s = s' := nI_inj (by omega) (by omega) (e1.symm.trans e)
      subst this
      exact absurd (hr.2.2.2.2.2.1.symm.trans e2) (m2lt hr.1).2.1
    · have : s = s' := nI_inj (by omega) (by omega) (e1.symm.trans e)
      subst this
      exact absurd (hr.2.2.2.2.2.1.symm.trans e2) (m2lt hr.1).2.1
  · refine bad (-12) (by decide) (c_wnp (by omega) hnb hS (fun no => absurd ⟨s, hs, e1⟩ no) (fun s' hs' e e3 => ?_) (fun s' b hs' e hb e3 => ⟨rfl, rfl⟩) (fun s' so n i hs' e hr _ _ => ?_) (fun s' so n hs' e hr _ => ?_))
    · have : s = s' := nI_inj (by omega) (by omega) (e1.symm.trans e)
      subst this
      exact absurd (e2.symm.trans e3) (neg1_ne (by omega))
    · have : s = s' := nI_inj (by omega) (by omega) (e1.symm.trans e)
      subst this
      have h1 := (m2lt hr.1).1
      rw [hr.2.2.2.2.2.1.symm.trans e2] at h1
      exact absurd h1 (nI_pos (by omega))
    · have : s = s' := nI_inj (by omega) (by omega) (e1.symm.trans e)
      subst this
      have h1 := (m2lt hr.1).1
      rw [hr.2.2.2.2.2.1.symm.trans e2] at h1
      exact absurd h1 (nI_pos (by omega))
  · subst e1
    subst e2
    have cl : (nI s).toNatClampNeg = s := nI_clamp (by omega)
    have cli : (nI i).toNatClampNeg = i := nI_clamp (by have := hr.2.1; omega)
    have z : vp_in (nI s) 6 := vp_in_nI (by omega) (by omega)
    rw [cl]
    refine ⟨z, b_X8_at_0 hs ?_⟩
    obtain ⟨r1, r2, r3, r4, r5, r6, r7, r8⟩ := id hr
    rw [r5, cli]
    refine ⟨fun q => absurd q (nI_pos (by omega)), fun _ => ⟨fun q => absurd ((len (by omega) (by omega)).mp q) (by omega), fun _ => ⟨vp_in_nI (by omega) (by omega), ?_⟩⟩⟩
    refine b_X12_element_0 (by omega) (c_wnp (by omega) hnb hS (fun no => absurd ⟨s, hs, rfl⟩ no) (fun s' hs' e e3 => ?_) (fun s' b hs' e hb e3 => ?_) (fun s' so' n' i' hs' e hr' hi' e' => ?_) (fun s' so' n' hs' e hr' no => ?_))
    · have : s = s' := nI_inj (by omega) (by omega) e
      subst this
      exact absurd (r6.symm.trans e3) (m2lt r1).2.1
    · have : s = s' := nI_inj (by omega) (by omega) e
      subst this
      have h1 := (m2lt r1).1
      rw [r6.symm.trans e3] at h1
      exact absurd h1 (nI_pos (by omega))
    · obtain ⟨i1, i2⟩ := idx60 (i := i) (n := n) hs hi r2
      rw [i2]
      refine ⟨fun _ => ⟨i1, ?_⟩, fun q => absurd (by decide) q⟩
      rw [r8 i hi]
      exact hk _ _ old
    · have : s = s' := nI_inj (by omega) (by omega) e
      subst this
      have : n' = n := nI_inj (by have := hr'.2.1; omega) (by omega) (hr'.2.2.2.2.1.symm.trans r5)
      subst this
      exact absurd ⟨i, hi, rfl⟩ no
  · refine bad (-13) (by decide) (c_wnp (by omega) hnb hS (fun no => absurd ⟨s, hs, e1⟩ no) (fun s' hs' e e3 => ?_) (fun s' b hs' e hb e3 => ?_) (fun s' so' n' i' hs' e hr' hi' e' => ?_) (fun s' so' n' hs' e hr' _ => ⟨rfl, rfl⟩))
    · have : s = s' := nI_inj (by omega) (by omega) (e1.symm.trans e)
      subst this
      exact absurd (hr.2.2.2.2.2.1.symm.trans e3) (m2lt hr.1).2.1
    · have : s = s' := nI_inj (by omega) (by omega) (e1.symm.trans e)
      subst this
      have h1 := (m2lt hr.1).1
      rw [hr.2.2.2.2.2.1.symm.trans e3] at h1
      exact absurd h1 (nI_pos (by omega))
    · have : s = s' := nI_inj (by omega) (by omega) (e1.symm.trans e)
      subst this
      have : n' = n := nI_inj (by have := hr'.2.1; omega) (by have := hr.2.1; omega) (hr'.2.2.2.2.1.symm.trans hr.2.2.2.2.1)
      subst this
      exact absurd ⟨i', hi', e'⟩ no
end Shelf2
