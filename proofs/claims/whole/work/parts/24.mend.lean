/-! mend, undo, redo -/
def okW (n nd w j : Nat) : Prop := (w = 0 ∧ j < n) ∨ (w = 1 ∧ j < n) ∨ (w = 2 ∧ j < nd) ∨ (w = 3 ∧ j = 0)
def setC (σ : am_S) (w j : Nat) (v : Int32) : am_S := if w = 0 then sA σ 5 j v else if w = 1 then sA σ 6 j v else if w = 2 then sA σ 4 j v else sR σ 68 v
def setM (σ : am_S) (w j : Nat) (v : Int32) : am_S := if w = 0 then sA σ 59 j v else if w = 1 then sA σ 60 j v else if w = 2 then sA σ 58 j v else sR σ 3531 v
theorem setC_fr {σ : am_S} {w j : Nat} {v : Int32} : Fr [68] [4, 5, 6] σ (setC σ w j v) := by
  unfold setC
  split
  · exact Fr.rf.wA.mono (by simp) (by simp)
  · split
    · exact Fr.rf.wA.mono (by simp) (by simp)
    · split
      · exact Fr.rf.wA.mono (by simp) (by simp)
      · exact Fr.rf.wR.mono (by simp) (by simp)
theorem setM_fr {σ : am_S} {w j : Nat} {v : Int32} : Fr [3531] [58, 59, 60] σ (setM σ w j v) := by
  unfold setM
  split
  · exact Fr.rf.wA.mono (by simp) (by simp)
  · split
    · exact Fr.rf.wA.mono (by simp) (by simp)
    · split
      · exact Fr.rf.wA.mono (by simp) (by simp)
      · exact Fr.rf.wR.mono (by simp) (by simp)
section Mend
variable {l : Launch} {g : am_G} {d : Nat} {σ : am_S}
theorem c_setNumber (hd : 10 ≤ d) {n nd w j : Nat} {v : Int32} {k : am_S → Prop} (e66 : rg σ 66 = nI n) (e65 : rg σ 65 = nI nd) (hn : n ≤ 7) (hnd : nd ≤ 5) (ok : okW n nd w j) (H : k (setC σ w j v)) : CV l g M_X2_setNumber d [.ref 1, .int (nI j), .int (nI w), .int v] σ k := by
  have cl : ∀ {m : Nat}, m < 2 ^ 31 → (nI m).toNatClampNeg = m := fun h => nI_clamp h
  rcases ok with ⟨rfl, hj⟩ | ⟨rfl, hj⟩ | ⟨rfl, hj⟩ | ⟨rfl, rfl⟩
  · refine b_X2_setNumber_0 (by omega) ⟨fun q => absurd rfl q, fun _ => ⟨fun _ => ⟨vp_in_nI (by omega) (by omega), ?_⟩, fun q => absurd ?_ q⟩⟩
    · rw [cl (by omega)]
      exact H
    · rw [e66]
      exact (cA (by omega)).mpr ⟨j, hj, rfl⟩
  · refine b_X2_setNumber_0 (by omega) ⟨fun _ => ⟨fun q => absurd rfl q, fun _ => ⟨fun _ => ⟨vp_in_nI (by omega) (by omega), ?_⟩, fun q => absurd ?_ q⟩⟩, fun q => absurd q (by decide)⟩
    · rw [cl (by omega)]
      exact H
    · rw [e66]
      exact (cA (by omega)).mpr ⟨j, hj, rfl⟩
  · refine b_X2_setNumber_0 (by omega) ⟨fun _ => ⟨fun _ => ⟨fun q => absurd rfl q, fun _ => ⟨fun _ => ⟨vp_in_nI (by omega) (by omega), ?_⟩, fun q => absurd ?_ q⟩⟩, fun q => absurd q (by decide)⟩, fun q => absurd q (by decide)⟩
    · rw [cl (by omega)]
      exact H
    · rw [e65]
      exact (cA (by omega)).mpr ⟨j, hj, rfl⟩
  · exact b_X2_setNumber_0 (by omega) ⟨fun _ => ⟨fun _ => ⟨fun _ => ⟨fun q => absurd rfl q, fun _ => H⟩, fun q => absurd q (by decide)⟩, fun q => absurd q (by decide)⟩, fun q => absurd q (by decide)⟩
theorem c_lays {n nd w j : Nat} {v : Int32} {k : am_S → Prop} (hn : n ≤ 7) (hnd : nd ≤ 5) (ok : okW n nd w j) (H : k (setM σ w j v)) : CV l g M_X12_lays d [.ref 55, .int (nI w), .int (nI j), .int v] σ k := by
  have cl : ∀ {m : Nat}, m < 2 ^ 31 → (nI m).toNatClampNeg = m := fun h => nI_clamp h
  rcases ok with ⟨rfl, hj⟩ | ⟨rfl, hj⟩ | ⟨rfl, hj⟩ | ⟨rfl, rfl⟩
  · refine b_X12_lays_0 ⟨fun q => absurd rfl q, fun _ => ⟨vp_in_nI (by omega) (by omega), ?_⟩⟩
    rw [cl (by omega)]
    exact H
  · refine b_X12_lays_0 ⟨fun _ => ⟨fun q => absurd rfl q, fun _ => ⟨vp_in_nI (by omega) (by omega), ?_⟩⟩, fun q => absurd q (by decide)⟩
    rw [cl (by omega)]
    exact H
  · refine b_X12_lays_0 ⟨fun _ => ⟨fun _ => ⟨fun q => absurd rfl q, fun _ => ⟨vp_in_nI (by omega) (by omega), ?_⟩⟩, fun q => absurd q (by decide)⟩, fun q => absurd q (by decide)⟩
    rw [cl (by omega)]
    exact H
  · exact b_X12_lays_0 ⟨fun _ => ⟨fun _ => ⟨fun _ => H, fun q => absurd q (by decide)⟩, fun q => absurd q (by decide)⟩, fun q => absurd q (by decide)⟩
/-- what the place holds, on both sides -/
def getC (σ : am_S) (w j : Nat) : Int32 := if w = 0 then ar σ 5 j else if w = 1 then ar σ 6 j else if w = 2 then ar σ 4 j else rg σ 68
def getM (σ : am_S) (w j : Nat) : Int32 := if w = 0 then ar σ 59 j else if w = 1 then ar σ 60 j else if w = 2 then ar σ 58 j else rg σ 3531
theorem c_valueAt {n nd w j : Nat} {k : Int32 → am_S → Prop} (hn : n ≤ 7) (hnd : nd ≤ 5) (ok : okW n nd w j) (H : k (getM σ w j) σ) : CI l g M_X12_valueAt d [.ref 55, .int (nI w), .int (nI j)] σ k := by
  have cl : ∀ {m : Nat}, m < 2 ^ 31 → (nI m).toNatClampNeg = m := fun h => nI_clamp h
  rcases ok with ⟨rfl, hj⟩ | ⟨rfl, hj⟩ | ⟨rfl, hj⟩ | ⟨rfl, rfl⟩
  · refine b_X12_valueAt_0 ⟨fun q => absurd rfl q, fun _ => ⟨vp_in_nI (by omega) (by omega), ?_⟩⟩
    rw [cl (by omega)]
    exact H
  · refine b_X12_valueAt_0 ⟨fun _ => ⟨fun q => absurd rfl q, fun _ => ⟨vp_in_nI (by omega) (by omega), ?_⟩⟩, fun q => absurd q (by decide)⟩
    rw [cl (by omega)]
    exact H
  · refine b_X12_valueAt_0 ⟨fun _ => ⟨fun _ => ⟨fun q => absurd rfl q, fun _ => ⟨vp_in_nI (by omega) (by omega), ?_⟩⟩, fun q => absurd q (by decide)⟩, fun q => absurd q (by decide)⟩
    rw [cl (by omega)]
    exact H
  · exact b_X12_valueAt_0 ⟨fun _ => ⟨fun _ => ⟨fun _ => H, fun q => absurd q (by decide)⟩, fun q => absurd q (by decide)⟩, fun q => absurd q (by decide)⟩
theorem RH_get {nr nd n : Nat} {pl : Nat → Nat} {w j : Nat} (h : R_H σ nr nd n pl) (ok : okW n nd w j) : getM σ w j = getC σ w j ∧ 0 ≤ getC σ w j ∧ (w = 2 → ∃ q, q < 3 ∧ getC σ w j = nI q) := by
  obtain ⟨⟨H1, H2, H3⟩, h64, h65, h66, e3530, ⟨e3531, q68⟩, hdo, hpe, hgr, e3529⟩ := h
  rcases ok with ⟨rfl, hj⟩ | ⟨rfl, hj⟩ | ⟨rfl, hj⟩ | ⟨rfl, rfl⟩
  · obtain ⟨-, -, ⟨a, b⟩, -⟩ := hpe j hj
    exact ⟨a, b, fun q => absurd q (by decide)⟩
  · obtain ⟨-, -, -, ⟨a, b⟩⟩ := hpe j hj
    exact ⟨a, b, fun q => absurd q (by decide)⟩
  · obtain ⟨a, b, k, ⟨-, -, -, hk⟩, -, -, ⟨q1, q2⟩⟩ := hdo j hj
    exact ⟨q2.trans q1.symm, by show 0 ≤ ar σ 4 j; rw [q1]; exact nneg (by omega), fun _ => ⟨k, hk, q1⟩⟩
  · exact ⟨e3531, q68, fun q => absurd q (by decide)⟩
theorem RH_set {τ : am_S} {nr nd n : Nat} {pl : Nat → Nat} {w j : Nat} {v : Int32} (h : R_H σ nr nd n pl) (ok : okW n nd w j) (hv : 0 ≤ v) (hk : w = 2 → ∃ q, q < 3 ∧ v = nI q)
    (e : ∀ r ∈ ([64, 3521, 65, 3522, 66, 3526, 3530, 67, 3529] : List Nat), rg τ r = rg σ r) (ea : ∀ a ∈ ([2, 3, 7, 56, 57] : List Nat), ar τ a = ar σ a)
    (c1 : rg τ 68 = rg (setC σ w j v) 68) (c2 : ∀ a ∈ ([4, 5, 6] : List Nat), ar τ a = ar (setC σ w j v) a) (m1 : rg τ 3531 = rg (setM σ w j v) 3531) (m2 : ∀ a ∈ ([58, 59, 60] : List Nat), ar τ a = ar (setM σ w j v) a) : R_H τ nr nd n pl := by
  obtain ⟨⟨H1, H2, H3⟩, h64, h65, h66, e3530, ⟨e3531, q68⟩, hdo, hpe, hgr, e3529⟩ := h
  have r := fun r hr => e r hr
  have a := fun a ha => ea a ha
  unfold R_H
  rw [r 64 (by decide), r 3521 (by decide), r 65 (by decide), r 3522 (by decide), r 66 (by decide), r 3526 (by decide), r 3530 (by decide), r 67 (by decide), r 3529 (by decide), a 2 (by decide), a 3 (by decide), a 7 (by decide), a 56 (by decide), a 57 (by decide), c1, m1, c2 4 (by decide), c2 5 (by decide), c2 6 (by decide), m2 58 (by decide), m2 59 (by decide), m2 60 (by decide)]
  refine ⟨⟨H1, H2, H3⟩, h64, h65, h66, e3530, ?_, ?_, ?_, ?_, e3529⟩
  · rcases ok with ⟨rfl, hj⟩ | ⟨rfl, hj⟩ | ⟨rfl, hj⟩ | ⟨rfl, rfl⟩
    · exact ⟨e3531, q68⟩
    · exact ⟨e3531, q68⟩
    · exact ⟨e3531, q68⟩
    · exact ⟨rfl, hv⟩
  · intro i hi
    obtain ⟨a, b, k, q1, q2, q3, q4⟩ := hdo i hi
    rcases ok with ⟨rfl, hj⟩ | ⟨rfl, hj⟩ | ⟨rfl, hj⟩ | ⟨rfl, rfl⟩
    · exact ⟨a, b, k, q1, q2, q3, q4⟩
    · exact ⟨a, b, k, q1, q2, q3, q4⟩
    · by_cases hij : i = j
      · obtain ⟨q, hq, e⟩ := hk rfl
        refine ⟨a, b, q, ⟨q1.1, q1.2.1, q1.2.2.1, hq⟩, q2, q3, ?_, ?_⟩
        · show ar (sA σ 4 j v) 4 i = nI q
          rw [ar_sA, if_pos ⟨rfl, hij⟩, e]
        · show ar (sA σ 58 j v) 58 i = nI q
          rw [ar_sA, if_pos ⟨rfl, hij⟩, e]
      · refine ⟨a, b, k, q1, q2, q3, ?_, ?_⟩
        · show ar (sA σ 4 j v) 4 i = nI k
          rw [ar_sA, if_neg (fun q => hij q.2)]
          exact q4.1
        · show ar (sA σ 58 j v) 58 i = nI k
          rw [ar_sA, if_neg (fun q => hij q.2)]
          exact q4.2
    · exact ⟨a, b, k, q1, q2, q3, q4⟩
  · intro i hi
    obtain ⟨q1, q2, q3, q4⟩ := hpe i hi
    rcases ok with ⟨rfl, hj⟩ | ⟨rfl, hj⟩ | ⟨rfl, hj⟩ | ⟨rfl, rfl⟩
    · refine ⟨q1, q2, ?_, q4⟩
      show ar (sA σ 59 j v) 59 i = ar (sA σ 5 j v) 5 i ∧ 0 ≤ ar (sA σ 5 j v) 5 i
      rw [ar_sA, ar_sA]
      by_cases hij : i = j
      · rw [if_pos ⟨rfl, hij⟩, if_pos ⟨rfl, hij⟩]
        exact ⟨rfl, hv⟩
      · rw [if_neg (fun q => hij q.2), if_neg (fun q => hij q.2)]
        exact q3
    · refine ⟨q1, q2, q3, ?_⟩
      show ar (sA σ 60 j v) 60 i = ar (sA σ 6 j v) 6 i ∧ 0 ≤ ar (sA σ 6 j v) 6 i
      rw [ar_sA, ar_sA]
      by_cases hij : i = j
      · rw [if_pos ⟨rfl, hij⟩, if_pos ⟨rfl, hij⟩]
        exact ⟨rfl, hv⟩
      · rw [if_neg (fun q => hij q.2), if_neg (fun q => hij q.2)]
        exact q4
    · exact ⟨q1, q2, q3, q4⟩
    · exact ⟨q1, q2, q3, q4⟩
  · intro i hi
    rcases ok with ⟨rfl, hj⟩ | ⟨rfl, hj⟩ | ⟨rfl, hj⟩ | ⟨rfl, rfl⟩
    · exact hgr i hi
    · show ar (sA σ 6 j v) 6 i = 0
      rw [ar_sA, if_neg (fun q => by omega)]
      exact hgr i hi
    · exact hgr i hi
    · exact hgr i hi
end Mend
