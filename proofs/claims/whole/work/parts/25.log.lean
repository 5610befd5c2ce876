/-! the changes of numbers that are kept -/
/-- rows A moved down by one, up to place i -/
def Sh (A : List Nat) (i : Nat) (σ τ : am_S) : Prop := ∀ a ∈ A, (∀ j, j + 1 < i → ar τ a j = ar σ a (j + 1)) ∧ ∀ j, i ≤ j → ar τ a j = ar σ a j
theorem Sh.step {A : List Nat} {i : Nat} {σ τ υ : am_S} (h : Sh A i σ τ) (h1 : 1 ≤ i) (hu : ∀ a ∈ A, ∀ j, ar υ a j = if j = i - 1 then ar τ a i else ar τ a j) : Sh A (i + 1) σ υ := by
  intro a ha
  obtain ⟨q1, q2⟩ := h a ha
  refine ⟨fun j hj => ?_, fun j hj => ?_⟩
  · rw [hu a ha]
    by_cases e : j = i - 1
    · rw [if_pos e, q2 i (Nat.le_refl _), show j + 1 = i by omega]
    · rw [if_neg e]
      exact q1 j (by omega)
  · rw [hu a ha, if_neg (by omega)]
    exact q2 j (by omega)
/-- behind a change of numbers is kept: m entries from place s on, and the new one -/
def Wr (a1 a2 a3 a4 s m : Nat) (x1 x2 x3 x4 : Int32) (σ τ : am_S) : Prop := (∀ a ∈ ([a1, a2, a3, a4] : List Nat), ∀ j, j < m → ar τ a j = ar σ a (j + s)) ∧ ar τ a1 m = x1 ∧ ar τ a2 m = x2 ∧ ar τ a3 m = x3 ∧ ar τ a4 m = x4
section Log
variable {l : Launch} {g : am_G} {d : Nat} {σ : am_S}
theorem c_forget {k : am_S → Prop} (e : rg σ 2180 = nI 40) (H : ∀ τ, Fr [2180] [35, 36, 37, 38] σ τ → Sh [35, 36, 37, 38] 40 σ τ → rg τ 2180 = nI 39 → k τ) : CV l g M_X5_forgetOldest d [.ref 34] σ k := by
  have loop : ∀ m i τ, i + m = 40 → 1 ≤ i → Fr [] [35, 36, 37, 38] σ τ → Sh [35, 36, 37, 38] i σ τ → JV l g M_X5_forgetOldest d 2 [(0, .ref 34), (1, .int (nI i))] [] τ k := by
    intro m
    induction m with
    | zero =>
      intro i τ h1 h2 fr sh
      have e1 : rg τ 2180 = nI 40 := (fr.R 2180 rfl).trans e
      have hi : i = 40 := by omega
      subst hi
      refine b_X5_forgetOldest_2 ?_
      rw [e1]
      refine ⟨fun _ => ?_, fun q => absurd (by decide) q⟩
      refine H _ fr.wR ?_ rfl
      exact sh
    | succ m ih =>
      intro i τ h1 h2 fr sh
      have e1 : rg τ 2180 = nI 40 := (fr.R 2180 rfl).trans e
      have p1 : nI i - 1 = nI (i - 1) := by
        rw [show i = (i - 1) + 1 by omega, nI_pred]
        rfl
      have z1 : vp_in (nI i) 40 := vp_in_nI (by omega) (by omega)
      have z2 : vp_in (nI (i - 1)) 40 := vp_in_nI (by omega) (by omega)
      have c1 : (nI i).toNatClampNeg = i := nI_clamp (by omega)
      have c2 : (nI (i - 1)).toNatClampNeg = i - 1 := nI_clamp (by omega)
      refine b_X5_forgetOldest_2 ?_
      rw [e1, p1, c1, c2, nI_1]
      refine ⟨fun q => absurd ((len (by omega) (by omega)).mp q) (by omega), fun _ => ⟨z1, z2, z1, z2, z1, z2, z1, z2, ?_⟩⟩
      refine ih (i + 1) _ (by omega) (by omega) ((fr.wA.wA.wA.wA).mono (by simp) (by simp)) (sh.step h2 ?_)
      intro a ha j
      simp only [List.mem_cons, List.not_mem_nil, or_false] at ha
      rcases ha with rfl | rfl | rfl | rfl <;> simp [ar_sA]
  exact b_X5_forgetOldest_0 (loop 39 1 σ (by omega) (by omega) (Fr.rf.mono (by simp) (by simp)) (fun a _ => ⟨fun j hj => absurd hj (by omega), fun j _ => rfl⟩))
theorem c_write (hd : 10 ≤ d) {dn : Nat} {x1 x2 x3 x4 : Int32} {k : am_S → Prop} (hdn : dn ≤ 40) (e : rg σ 2180 = nI dn) (H : ∀ τ, Fr [2180, 2181] [35, 36, 37, 38] σ τ → Wr 35 36 37 38 (dn / 40) (dn - dn / 40) x1 x2 x3 x4 σ τ → rg τ 2180 = nI (dn - dn / 40 + 1) → rg τ 2181 = 0 → k τ) : CV l g M_X5_write d [.ref 34, .int x1, .int x2, .int x3, .int x4] σ k := by
  refine b_X5_write_0 (by omega) ?_
  rw [e]
  rcases Nat.lt_or_ge dn 40 with h | h
  · have c1 : (nI dn).toNatClampNeg = dn := nI_clamp (by omega)
    have z : vp_in (nI dn) 40 := vp_in_nI (by omega) (by omega)
    rw [c1, nI_1]
    refine ⟨fun _ => ⟨z, z, z, z, ?_⟩, fun q => absurd ((ltn (b := 40) (by omega) (by omega)).mpr h) q⟩
    have hs : dn / 40 = 0 := by omega
    rw [hs] at H
    refine H _ ((Fr.rf.wA.wA.wA.wA.wR.wR).mono (by simp) (by simp)) ⟨?_, ?_, ?_, ?_, ?_⟩ rfl rfl
    · intro a ha j hj
      have hne : ¬ j = dn := by omega
      simp only [List.mem_cons, List.not_mem_nil, or_false] at ha
      rcases ha with rfl | rfl | rfl | rfl <;> simp [ar_sA, ar_sR, hne]
    all_goals simp [ar_sA, ar_sR]
  · have h40 : dn = 40 := by omega
    subst h40
    refine ⟨fun q => absurd q (by decide), fun _ => ?_⟩
    refine c_forget e (fun τ fr sh e1 => ?_)
    have z : vp_in (nI 39) 40 := vp_in_nI (by omega) (by omega)
    rw [e1, nI_1]
    refine ⟨z, z, z, z, ?_⟩
    refine H _ ((fr.wA.wA.wA.wA.wR.wR).mono (by simp) (by simp)) ⟨?_, ?_, ?_, ?_, ?_⟩ rfl rfl
    · intro a ha j hj
      have hne : ¬ j = 39 := by omega
      have := (sh a ha).1 j (by omega)
      simp only [List.mem_cons, List.not_mem_nil, or_false] at ha
      have c39 : (nI 39).toNatClampNeg = 39 := nI_clamp (by omega)
      rcases ha with rfl | rfl | rfl | rfl <;> simp [ar_sA, ar_sR, c39, hne] <;> exact this
    all_goals
      have c39 : (nI 39).toNatClampNeg = 39 := nI_clamp (by omega)
      simp [ar_sA, ar_sR, c39]
theorem c_become (hd : 10 ≤ d) {dn n nd w j : Nat} {x3 : Int32} {k : Int32 → am_S → Prop} (hn : n ≤ 7) (hnd : nd ≤ 5) (ok : okW n nd w j) (hdn : dn ≤ 40) (e : rg σ 3532 = nI dn) (hne : ¬ getM σ w j = x3)
    (H : ∀ τ, Fr [3532, 3533] [61, 62, 63, 64] σ τ → Wr 61 62 63 64 (dn / 40) (dn - dn / 40) (nI w) (nI j) (getM σ w j) x3 σ τ → rg τ 3532 = nI (dn - dn / 40 + 1) → rg τ 3533 = 0 → k (getM σ w j) (setM τ w j x3)) : CI l g M_X12_become d [.ref 55, .int (nI w), .int (nI j), .int x3] σ k := by
  refine b_X12_become_0 (by omega) (c_valueAt hn hnd ok ⟨fun _ => ?_, fun q => absurd q hne⟩)
  generalize getM σ w j = v at *
  rw [e]
  rcases Nat.lt_or_ge dn 40 with h | h
  · have c1 : (nI dn).toNatClampNeg = dn := nI_clamp (by omega)
    have z : vp_in (nI dn) 40 := vp_in_nI (by omega) (by omega)
    rw [c1, nI_1]
    refine ⟨fun _ => ⟨z, z, z, z, ?_⟩, fun q => absurd (nI_inj (b := 40) (by omega) (by omega) q) (by omega)⟩
    have hs : dn / 40 = 0 := by omega
    rw [hs] at H
    refine c_lays hn hnd ok (H _ ((Fr.rf.wR.wA.wA.wA.wA.wR).mono (by simp) (by simp)) ⟨?_, ?_, ?_, ?_, ?_⟩ rfl rfl)
    · intro a ha i hi
      have hne : ¬ i = dn := by omega
      simp only [List.mem_cons, List.not_mem_nil, or_false] at ha
      rcases ha with rfl | rfl | rfl | rfl <;> simp [ar_sA, ar_sR, hne]
    all_goals simp [ar_sA, ar_sR]
  · have h40 : dn = 40 := by omega
    subst h40
    refine ⟨fun q => absurd rfl q, fun _ => ?_⟩
    have loop : ∀ m i τ, i + m = 40 → 1 ≤ i → Fr [3533] [61, 62, 63, 64] σ τ → rg τ 3533 = 0 → Sh [61, 62, 63, 64] i σ τ → JI l g M_X12_become d 34 [(0, .ref 55), (1, .int (nI w)), (2, .int (nI j)), (3, .int x3), (4, .int v), (5, .int (nI i))] [] τ k := by
      intro m
      induction m with
      | zero =>
        intro i τ h1 h2 fr e33 sh
        have e1 : rg τ 3532 = nI 40 := (fr.R 3532 rfl).trans e
        have hi : i = 40 := by omega
        subst hi
        have c39 : (nI 39).toNatClampNeg = 39 := nI_clamp (by omega)
        have z : vp_in (nI 39) 40 := vp_in_nI (by omega) (by omega)
        refine b_X12_become_34 (by omega) ?_
        rw [e1, show nI 40 - 1 = nI 39 from rfl, c39, nI_1]
        refine ⟨fun _ => ⟨z, z, z, z, ?_⟩, fun q => absurd (by decide) q⟩
        refine c_lays hn hnd ok (H _ ((fr.wR.wA.wA.wA.wA.wR).mono (by simp) (by simp)) ⟨?_, ?_, ?_, ?_, ?_⟩ rfl e33)
        · intro a ha i hi
          have hne : ¬ i = 39 := by omega
          have := (sh a ha).1 i (by omega)
          simp only [List.mem_cons, List.not_mem_nil, or_false] at ha
          rcases ha with rfl | rfl | rfl | rfl <;> simp [ar_sA, ar_sR, hne] <;> exact this
        all_goals simp [ar_sA, ar_sR]
      | succ m ih =>
        intro i τ h1 h2 fr e33 sh
        have p1 : nI i - 1 = nI (i - 1) := by
          rw [show i = (i - 1) + 1 by omega, nI_pred]
          rfl
        have z1 : vp_in (nI i) 40 := vp_in_nI (by omega) (by omega)
        have z2 : vp_in (nI (i - 1)) 40 := vp_in_nI (by omega) (by omega)
        have c1 : (nI i).toNatClampNeg = i := nI_clamp (by omega)
        have c2 : (nI (i - 1)).toNatClampNeg = i - 1 := nI_clamp (by omega)
        refine b_X12_become_34 (by omega) ?_
        rw [p1, c1, c2, nI_1]
        refine ⟨fun q => absurd ((len (a := 40) (by omega) (by omega)).mp q) (by omega), fun _ => ⟨z1, z2, z1, z2, z1, z2, z1, z2, ?_⟩⟩
        refine ih (i + 1) _ (by omega) (by omega) ((fr.wA.wA.wA.wA).mono (by simp) (by simp)) e33 (sh.step h2 ?_)
        intro a ha q
        simp only [List.mem_cons, List.not_mem_nil, or_false] at ha
        rcases ha with rfl | rfl | rfl | rfl <;> simp [ar_sA]
    exact loop 39 1 _ (by omega) (by omega) (Fr.rf.wR.mono (by simp) (by simp)) rfl (fun a _ => ⟨fun j hj => absurd hj (by omega), fun j _ => rfl⟩)
/-- the two logs behind a change -/
theorem RU_write {τ υ : am_S} {n nd dn un w j : Nat} {v x : Int32} (h : R_U σ n nd dn un) (ok : okW n nd w j) (hv : 0 ≤ v) (hx : 0 ≤ x) (hk : w = 2 → (∃ q, q < 3 ∧ v = nI q) ∧ ∃ q, q < 3 ∧ x = nI q)
    (W1 : Wr 35 36 37 38 (dn / 40) (dn - dn / 40) (nI j) (nI w) v x σ τ) (W2 : Wr 61 62 63 64 (dn / 40) (dn - dn / 40) (nI w) (nI j) v x σ υ) (e : ∀ a ∈ ([35, 36, 37, 38] : List Nat), ar υ a = ar τ a)
    (f1 : rg υ 2180 = nI (dn - dn / 40 + 1)) (f2 : rg υ 2181 = 0) (f3 : rg υ 3532 = nI (dn - dn / 40 + 1)) (f4 : rg υ 3533 = 0) : R_U υ n nd (dn - dn / 40 + 1) 0 := by
  obtain ⟨h1, h2, h3, h4⟩ := h
  refine ⟨by omega, ⟨f1, f3⟩, ⟨f2, f4⟩, fun i hi => ?_⟩
  obtain ⟨w1, w2, w3, w4, w5⟩ := W1
  obtain ⟨v1, v2, v3, v4, v5⟩ := W2
  rw [e 35 (by decide), e 36 (by decide), e 37 (by decide), e 38 (by decide)]
  by_cases hm : i = dn - dn / 40
  · subst hm
    rw [w2, w3, w4, w5, v2, v3, v4, v5]
    refine ⟨⟨rfl, rfl, rfl, rfl⟩, ⟨hv, hx⟩, ?_⟩
    rcases ok with ⟨rfl, hj⟩ | ⟨rfl, hj⟩ | ⟨rfl, hj⟩ | ⟨rfl, rfl⟩
    · exact Or.inl ⟨rfl, j, hj, rfl⟩
    · exact Or.inr (Or.inl ⟨rfl, j, hj, rfl⟩)
    · exact Or.inr (Or.inr (Or.inl ⟨rfl, ⟨j, hj, rfl⟩, hk rfl⟩))
    · exact Or.inr (Or.inr (Or.inr ⟨rfl, rfl⟩))
  · have hl : i < dn - dn / 40 := by omega
    have := h4 (i + dn / 40) (by omega)
    rw [w1 35 (by decide) i hl, w1 36 (by decide) i hl, w1 37 (by decide) i hl, w1 38 (by decide) i hl, v1 61 (by decide) i hl, v1 62 (by decide) i hl, v1 63 (by decide) i hl, v1 64 (by decide) i hl]
    exact this
end Log
