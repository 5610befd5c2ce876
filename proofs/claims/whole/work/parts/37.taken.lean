/-! taken -/
section Taken
variable {l : Launch} {g : am_G} {d : Nat} {σ : am_S}
def undC : Nat → Int32 → Int32 → Option Bool
  | 0, _, _ => none
  | f + 1, x, t => if x ≤ t ∨ 8 ≤ x then some (decide (x = t)) else undC f (am_above x.toNatClampNeg) t
theorem c_undC {x0 t : Int32} {b : Bool} {k : Int32 → am_S → Prop} (ht : 0 ≤ t) (h1 : b = true → k 1 σ) (h0 : b = false → k 0 σ) : ∀ (f : Nat) (x : Int32), undC f x t = some b → JI l g M_X0_isUnder d 2 [(0, .int x0), (1, .int t), (2, .int x)] [] σ k
  | 0, x, e => by cases e
  | f + 1, x, e => by
    refine b_X0_isUnder_2 ?_
    rw [undC] at e
    have E : (x ≤ t ∨ 8 ≤ x) → (¬ x = t → k 0 σ) ∧ (x = t → k 1 σ) := by
      intro c
      rw [if_pos c] at e
      have e2 := Option.some.inj e
      exact ⟨fun q => h0 (by rw [← e2]; exact decide_eq_false q), fun q => h1 (by rw [← e2]; exact decide_eq_true q)⟩
    refine ⟨fun c => E (Or.inl c), fun c => ⟨fun c2 => E (Or.inr c2), fun c2 => ⟨vin (k := 8) (by grind) (by grind) (by decide), ?_⟩⟩⟩
    rw [if_neg (fun q => q.elim c c2)] at e
    exact c_undC ht h1 h0 f _ e
def undB (a b : Nat) : Bool := (undC 9 (nI a) (nI b)) == some true
theorem undB_some : ∀ a : Fin 8, ∀ b : Fin 8, undC 9 (nI a.val) (nI b.val) = some (undB a.val b.val) := by decide +kernel
theorem c_isUnder {a b : Nat} {k : Int32 → am_S → Prop} (ha : a < 8) (hb : b < 8) (h1 : undB a b = true → k 1 σ) (h0 : undB a b = false → k 0 σ) : CI l g M_X0_isUnder d [.int (nI a), .int (nI b)] σ k := b_X0_isUnder_0 (c_undC (nneg (by omega)) h1 h0 9 (nI a) (undB_some ⟨a, ha⟩ ⟨b, hb⟩))
theorem c_isUnderM {a b : Nat} {k : Int32 → am_S → Prop} (ha : a < 8) (hb : b < 8) (h1 : undB a b = true → k 1 σ) (h0 : undB a b = false → k 0 σ) : CI l g M_X12_isUnder d [.int (nI a), .int (nI b)] σ k := by
  refine b_X12_isUnder_0 ?_
  have ea : a = 0 ∨ a = 1 ∨ a = 2 ∨ a = 3 ∨ a = 4 ∨ a = 5 ∨ a = 6 ∨ a = 7 := by omega
  have eb : b = 0 ∨ b = 1 ∨ b = 2 ∨ b = 3 ∨ b = 4 ∨ b = 5 ∨ b = 6 ∨ b = 7 := by omega
  rcases ea with rfl | rfl | rfl | rfl | rfl | rfl | rfl | rfl <;> rcases eb with rfl | rfl | rfl | rfl | rfl | rfl | rfl | rfl <;> (simp +decide at h1 h0 ⊢; first | exact h1 | exact h0)
theorem P_taken (hd : 300 ≤ d) (hR : R σ) (x1 : Int32) (x2 : Int32) : PP l g d M_X11_taken M_X12_taken [.int x1, .int x2] σ := by
  intro K hk
  have old := hR
  obtain ⟨nr, nd, n, pl, nt, dn, un, nb, nq, hH, hT, hD, hU, hI, hB, hS, hL⟩ := hR
  obtain ⟨⟨hnb, hnq⟩, ⟨e2497, e3569⟩, ⟨e2499, e3571⟩, hkd, htr⟩ := id hB
  have k2 : (¬ x2 < 0 ∧ ¬ 7 < x2) ↔ ∃ q, q < 8 ∧ x2 = nI q := cC (n := 8) 7 rfl (by omega)
  have k1 : (¬ x1 < 0 ∧ ¬ 5 < x1) ↔ ∃ q, q < 6 ∧ x1 = nI q := cC (n := 6) 5 rfl (by omega)
  have k1' : (¬ x1 < 0 ∧ ¬ 6 ≤ x1) ↔ ∃ q, q < 6 ∧ x1 = nI q := cD (n := 6) 6 rfl (by omega)
  refine b_X11_taken_0 (by omega) ⟨fun a => ⟨fun b => ?_, fun b => ⟨fun c => ?_, fun c => ?_⟩⟩, fun a => ?_⟩
  · refine b_X12_taken_0 (by omega) ⟨fun _ => ⟨fun q => absurd b q.1, fun _ => hk _ _ old⟩, fun _ => hk _ _ old⟩
  · obtain ⟨s, hs, es⟩ := k1'.mp a
    have hx2 : ¬ x2 < 0 ∧ ¬ 7 < x2 := ⟨b, by grind⟩
    obtain ⟨t, ht, et⟩ := k2.mp hx2
    have hx1 := k1.mpr ⟨s, hs, es⟩
    subst es
    subst et
    have cl : (nI s).toNatClampNeg = s := nI_clamp (by omega)
    have z : vp_in (nI s) 6 := vp_in_nI (by omega) (by omega)
    rw [cl]
    have M : ∀ K2 : Int32 → am_S → Prop, (ar σ 81 s = -1 → K2 (-11) σ) → ((¬ ar σ 81 s = -1 ∧ ar σ 81 s < 0) → K2 (-12) σ) → (∀ q, q < nb → ar σ 81 s = nI q → CI l g M_X12_isUnder (d - 1) [.int (ar σ 79 q), .int (nI t)] σ (fun r3 σ3 => ((r3 = 0 → K2 (-12) σ3) ∧ (¬ r3 = 0 → (vp_in (nI s) 6 ∧ (vp_in (ar σ3 81 s) 50 ∧ K2 (ar σ3 79 ((ar σ3 81 s).toNatClampNeg)) σ3)))))) → (¬ ar σ 81 s = -1 → ¬ ar σ 81 s < 0 → ∃ q, q < nb ∧ ar σ 81 s = nI q) → CI l g M_X12_taken d [.ref 55, .int (nI s), .int (nI t)] σ K2 := by
      intro K2 h0 h1 h2 h3
      refine b_X12_taken_0 (by omega) ?_
      rw [cl]
      refine ⟨fun _ => ⟨fun _ => ⟨z, fun c0 => ⟨z, fun c1 => h1 ⟨c0, c1⟩, fun c1 => ⟨z, ?_⟩⟩, h0⟩, fun q => absurd hx2 q⟩, fun q => absurd hx1 q⟩
      obtain ⟨q, hq, eq⟩ := h3 c0 c1
      have h2' := h2 q hq eq
      rw [eq, nI_clamp (by omega)]
      exact ⟨vp_in_nI (by omega) (by omega), h2'⟩
    refine ⟨z, ?_⟩
    rcases S1_cases hnb (hS s hs) with ⟨e1, e2, e3⟩ | ⟨⟨q, hq, eq⟩, ne⟩ | ⟨so, m, hrow⟩
    · exact ⟨fun _ => M _ (fun _ => hk _ _ old) (fun w => absurd e1 w.1) (fun q hq eq => absurd (eq.symm.trans e1) (neg1_ne (by omega))) (fun w => absurd e1 w), fun w => absurd ⟨e2, e3⟩ w⟩
    · have e0 : rg σ (64 * (43 + 2 * s) + 0) = nI q := by
        rcases hS s hs with ⟨a1, -⟩ | ⟨b, hb, a1, a2, a3, a4⟩ | ⟨so, m, h1, h2, a1, -⟩
        · exact absurd a1 ne
        · rw [a1, ← eq, a4]
        · exact absurd a1 ne
      refine ⟨fun w => absurd w.1 ne, fun _ => ?_⟩
      obtain ⟨kq, hkq, ek, ek2⟩ := hkd q hq
      refine b_X0_kindOf_0 (by omega) ?_
      rw [e0, e2497, nI_clamp (by omega), ek]
      refine ⟨fun _ => ⟨vp_in_nI (by omega) (by omega), ?_⟩, fun w => absurd ((cA (by omega)).mpr ⟨q, hq, rfl⟩) w⟩
      have n1 : ¬ ar σ 81 s = -1 := by rw [eq]; exact neg1_ne (by omega)
      have n2 : ¬ ar σ 81 s < 0 := by rw [eq]; exact nI_pos (by omega)
      refine c_isUnder hkq ht (fun u => ⟨fun w => absurd w (by decide), fun _ => M _ (fun w => absurd w n1) (fun w => absurd w.2 n2) (fun q2 hq2 eq2 => ?_) (fun _ _ => ⟨q, hq, eq⟩)⟩) (fun u => ⟨fun _ => M _ (fun w => absurd w n1) (fun w => absurd w.2 n2) (fun q2 hq2 eq2 => ?_) (fun _ _ => ⟨q, hq, eq⟩), fun w => absurd rfl w⟩)
      · have : q2 = q := nI_inj (by omega) (by omega) (eq2.symm.trans eq)
        subst this
        rw [ek2]
        refine c_isUnderM hkq ht (fun _ => ⟨fun w => absurd w (by decide), fun _ => ⟨z, ?_⟩⟩) (fun w => absurd (u.symm.trans w) (by decide))
        rw [eq, nI_clamp (by omega), ek2]
        exact ⟨vp_in_nI (by omega) (by omega), hk _ _ old⟩
      · have : q2 = q := nI_inj (by omega) (by omega) (eq2.symm.trans eq)
        subst this
        rw [ek2]
        exact c_isUnderM hkq ht (fun w => absurd (u.symm.trans w) (by decide)) (fun _ => ⟨fun _ => hk _ _ old, fun w => absurd rfl w⟩)
    · refine ⟨fun w => absurd w (row_ne hrow), fun _ => ?_⟩
      obtain ⟨h1, h2, r0, r1, r2, r3, r4, r5⟩ := id hrow
      have m := m2lt h1
      refine b_X0_kindOf_0 (by omega) ?_
      rw [r0]
      refine ⟨fun w => absurd w.1 (by decide), fun _ => ?_⟩
      have ub : undC 9 (-1) (nI t) = some false := by
        have : ∀ t : Fin 8, undC 9 (-1) (nI t.val) = some false := by decide +kernel
        exact this ⟨t, ht⟩
      refine b_X0_isUnder_0 (c_undC (nneg (by omega)) (fun w => absurd w (by decide)) (fun _ => ⟨fun _ => M _ (fun w => absurd (r3.symm.trans w) m.2.1) (fun _ => hk _ _ old) (fun q hq eq => absurd (r3.symm.trans eq) (fun w => ?_)) (fun _ w => absurd (r3 ▸ m.1) w), fun w => absurd rfl w⟩) 9 (-1) ub)
      exact nI_pos (n := q) (by omega) (w ▸ m.1)
  · refine b_X12_taken_0 (by omega) ⟨fun _ => ⟨fun q => absurd q.2 (by grind), fun _ => hk _ _ old⟩, fun _ => hk _ _ old⟩
  · refine b_X12_taken_0 (by omega) ⟨fun q => absurd (k1'.mpr (k1.mp q)) a, fun _ => hk _ _ old⟩
end Taken
