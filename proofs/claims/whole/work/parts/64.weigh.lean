/-! heights, doors, who may: weighed by the class, found by the reference -/
def fr0 (σ : am_S) (j : Nat) : Nat := (ar σ 2 j).toNatClampNeg
def to0 (σ : am_S) (j : Nat) : Nat := (ar σ 3 j).toNatClampNeg
def tbt (tn d : Nat) : Bool := decide (tn / 2 ^ d % 2 = 1)
def frT (σ : am_S) (tn d : Nat) : Nat := if tbt tn d = true then to0 σ d else fr0 σ d
def toT (σ : am_S) (tn d : Nat) : Nat := if tbt tn d = true then fr0 σ d else to0 σ d
def htB (σ : am_S) (wr mo : Int32) (p : Nat) : Int32 := if nI p = wr then ar σ 5 p + mo * ar σ 6 p + rg σ 68 else ar σ 5 p + mo * ar σ 6 p
def mayW (σ : am_S) (o : Option (List Lin)) (tn : Nat) (wr mo : Int32) (d p q : Nat) : Bool := !decide (p = q) && lawB o (htB σ wr mo p) (htB σ wr mo q) (nI d) (ar σ 4 d) (nI (frT σ tn d)) (nI (toT σ tn d))
def wld (σ : am_S) (o : Option (List Lin)) (nd n tn : Nat) (wr mo : Int32) : Wd := (nd, n, frT σ tn, toT σ tn, mayW σ o tn wr mo)
/-- what is kept of the house where the places of people don't count -/
def R_W (σ : am_S) (nr nd n : Nat) : Prop :=
  (nr ≤ 4 ∧ nd ≤ 5 ∧ n ≤ 7) ∧ (rg σ 64 = nI nr ∧ rg σ 3521 = nI nr) ∧ (rg σ 65 = nI nd ∧ rg σ 3522 = nI nd) ∧ (rg σ 66 = nI n ∧ rg σ 3526 = nI n) ∧ rg σ 3530 = rg σ 67 ∧ (rg σ 3531 = rg σ 68 ∧ 0 ≤ rg σ 68) ∧
  (∀ j, j < nd → ∃ a b k : Nat, (a < nr ∧ b < nr ∧ a ≠ b ∧ k < 3) ∧ (ar σ 2 j = nI a ∧ ar σ 56 j = nI a) ∧ (ar σ 3 j = nI b ∧ ar σ 57 j = nI b) ∧ (ar σ 4 j = nI k ∧ ar σ 58 j = nI k)) ∧
  (∀ j, j < n → True ∧ True ∧ (ar σ 59 j = ar σ 5 j ∧ 0 ≤ ar σ 5 j) ∧ (ar σ 60 j = ar σ 6 j ∧ 0 ≤ ar σ 6 j)) ∧ (∀ j, n ≤ j → ar σ 6 j = 0)
theorem R_H.W {σ : am_S} {nr nd n : Nat} {pl : Nat → Nat} (h : R_H σ nr nd n pl) : R_W σ nr nd n := by
  obtain ⟨h1, h2, h3, h4, h5, h6, h7, h8, h9, h10⟩ := h
  exact ⟨h1, h2, h3, h4, h5, h6, h7, fun j hj => ⟨trivial, trivial, (h8 j hj).2.2⟩, h9⟩
theorem R_W.fr {rs as : List Nat} {σ τ : am_S} {nr nd n : Nat} (h : Fr rs as σ τ) (hc : ([64, 3521, 65, 3522, 66, 3526, 3530, 67, 3531, 68] : List Nat).all (fun r => !rs.contains r) = true) (ha : ([2, 3, 4, 5, 6, 56, 57, 58, 59, 60] : List Nat).all (fun a => !as.contains a) = true) (H : R_W σ nr nd n) : R_W τ nr nd n := by
  have hr : ∀ r ∈ ([64, 3521, 65, 3522, 66, 3526, 3530, 67, 3531, 68] : List Nat), rs.contains r = false := fun r q => by simpa using List.all_eq_true.mp hc r q
  have hb : ∀ a ∈ ([2, 3, 4, 5, 6, 56, 57, 58, 59, 60] : List Nat), as.contains a = false := fun a q => by simpa using List.all_eq_true.mp ha a q
  unfold R_W at H ⊢
  simp only [h.R 64 (hr 64 (by decide)), h.R 3521 (hr 3521 (by decide)), h.R 65 (hr 65 (by decide)), h.R 3522 (hr 3522 (by decide)), h.R 66 (hr 66 (by decide)), h.R 3526 (hr 3526 (by decide)), h.R 3530 (hr 3530 (by decide)), h.R 67 (hr 67 (by decide)), h.R 3531 (hr 3531 (by decide)), h.R 68 (hr 68 (by decide)), h.A 2 (hb 2 (by decide)), h.A 3 (hb 3 (by decide)), h.A 4 (hb 4 (by decide)), h.A 5 (hb 5 (by decide)), h.A 6 (hb 6 (by decide)), h.A 56 (hb 56 (by decide)), h.A 57 (hb 57 (by decide)), h.A 58 (hb 58 (by decide)), h.A 59 (hb 59 (by decide)), h.A 60 (hb 60 (by decide))]
  exact H
theorem RH_door {σ : am_S} {nr nd n j : Nat} (h : R_W σ nr nd n) (hj : j < nd) : (fr0 σ j < 4 ∧ to0 σ j < 4 ∧ fr0 σ j ≠ to0 σ j) ∧ (ar σ 2 j = nI (fr0 σ j) ∧ ar σ 56 j = nI (fr0 σ j)) ∧ (ar σ 3 j = nI (to0 σ j) ∧ ar σ 57 j = nI (to0 σ j)) ∧ ar σ 58 j = ar σ 4 j := by
  obtain ⟨⟨H1, H2, H3⟩, -, -, -, -, -, hdo, -⟩ := h
  obtain ⟨a, b, k, ⟨h1, h2, h3, h4⟩, ⟨e1, e2⟩, ⟨e3, e4⟩, e5, e6⟩ := hdo j hj
  have f1 : fr0 σ j = a := by
    unfold fr0
    rw [e1, nI_clamp (by omega)]
  have f2 : to0 σ j = b := by
    unfold to0
    rw [e3, nI_clamp (by omega)]
  rw [f1, f2]
  exact ⟨⟨by omega, by omega, h3⟩, ⟨e1, e2⟩, ⟨e3, e4⟩, e6.trans e5.symm⟩
theorem frT_nI {σ : am_S} {nr nd n j tn : Nat} (h : R_W σ nr nd n) (hj : j < nd) : frT σ tn j < 4 ∧ toT σ tn j < 4 ∧ frT σ tn j ≠ toT σ tn j := by
  obtain ⟨⟨h1, h2, h3⟩, -⟩ := RH_door h hj
  unfold frT toT
  split
  · exact ⟨h2, h1, fun q => h3 q.symm⟩
  · exact ⟨h1, h2, h3⟩
theorem wld_ok {σ : am_S} {nr nd n tn : Nat} {o : Option (List Lin)} {wr mo : Int32} (h : R_W σ nr nd n) : wd_ok (wld σ o nd n tn wr mo) := ⟨⟨h.1.2.1, h.1.2.2⟩, fun d hd => frT_nI h hd⟩
/-- the class's rows of a world, and the reference's -/
def WC (W : Wd) (σ : am_S) : Prop := (rg σ 65 = nI W.1 ∧ rg σ 66 = nI W.2.1) ∧ (∀ d, d < W.1 → ar σ 15 d = nI (W.2.2.1 d) ∧ ar σ 16 d = nI (W.2.2.2.1 d)) ∧ ∀ d p, d < W.1 → p < W.2.1 → ar σ 18 (d * 7 + p) = nI (msk (W.2.2.2.2 d p) W.2.1)
def WM (W : Wd) (σ : am_S) : Prop := (rg σ 3522 = nI W.1 ∧ rg σ 3526 = nI W.2.1) ∧ (∀ d, d < W.1 → ar σ 74 d = nI (W.2.2.1 d) ∧ ar σ 75 d = nI (W.2.2.2.1 d)) ∧ ∀ d p q, d < W.1 → p < W.2.1 → q < W.2.1 → ar σ 73 (49 * d + 7 * p + q) = if W.2.2.2.2 d p q = true then 1 else 0
theorem WC.fr {rs as : List Nat} {σ τ : am_S} {W : Wd} (h : Fr rs as σ τ) (hc : ([65, 66] : List Nat).all (fun r => !rs.contains r) = true) (ha : ([15, 16, 18] : List Nat).all (fun a => !as.contains a) = true) (H : WC W σ) : WC W τ := by
  have hr : ∀ r ∈ ([65, 66] : List Nat), rs.contains r = false := fun r q => by simpa using List.all_eq_true.mp hc r q
  have hb : ∀ a ∈ ([15, 16, 18] : List Nat), as.contains a = false := fun a q => by simpa using List.all_eq_true.mp ha a q
  unfold WC at H ⊢
  rw [h.R 65 (hr 65 (by decide)), h.R 66 (hr 66 (by decide)), h.A 15 (hb 15 (by decide)), h.A 16 (hb 16 (by decide)), h.A 18 (hb 18 (by decide))]
  exact H
theorem WM.fr {rs as : List Nat} {σ τ : am_S} {W : Wd} (h : Fr rs as σ τ) (hc : ([3522, 3526] : List Nat).all (fun r => !rs.contains r) = true) (ha : ([73, 74, 75] : List Nat).all (fun a => !as.contains a) = true) (H : WM W σ) : WM W τ := by
  have hr : ∀ r ∈ ([3522, 3526] : List Nat), rs.contains r = false := fun r q => by simpa using List.all_eq_true.mp hc r q
  have hb : ∀ a ∈ ([73, 74, 75] : List Nat), as.contains a = false := fun a q => by simpa using List.all_eq_true.mp ha a q
  unfold WM at H ⊢
  rw [h.R 3522 (hr 3522 (by decide)), h.R 3526 (hr 3526 (by decide)), h.A 73 (hb 73 (by decide)), h.A 74 (hb 74 (by decide)), h.A 75 (hb 75 (by decide))]
  exact H
section Weigh
variable {l : Launch} {g : am_G} {σ0 : am_S} {nr nd n tn : Nat} {o : Option (List Lin)} {wr mo : Int32}
/-- heights and doors alone -/
def LK (σ0 : am_S) (nd n tn : Nat) (wr mo : Int32) (σ : am_S) : Prop := Fr [707] [13, 15, 16, 17, 18] σ0 σ ∧ (∀ p, p < n → ar σ 17 p = htB σ0 wr mo p) ∧ ∀ d, d < nd → ar σ 15 d = nI (frT σ0 tn d) ∧ ar σ 16 d = nI (toT σ0 tn d)
theorem c_look42 {d : Nat} {k : am_S → Prop} (hH : R_W σ0 nr nd n) (ht : tn < 32) (H : ∀ τ, LK σ0 nd n tn wr mo τ → k τ) : ∀ (m D : Nat) (σ : am_S), D + m = nd → Fr [707] [13, 15, 16, 17, 18] σ0 σ → (∀ p, p < n → ar σ 17 p = htB σ0 wr mo p) → (∀ j, j < D → ar σ 15 j = nI (frT σ0 tn j) ∧ ar σ 16 j = nI (toT σ0 tn j)) →
    JV l g M_X6_look d 42 [(0, .ref 14), (1, .int mo), (2, .int wr), (3, .int (nI tn)), (4, .int (nI D))] [] σ k
  | 0, D, σ, e, h, h17, hj => by
    have H2 := hH.1.2.1
    refine b_X6_look_42 ?_
    rw [h.R 65 rfl, hH.2.2.1.1]
    exact ⟨fun _ => H σ ⟨h, h17, fun j hj2 => hj j (by omega)⟩, fun q => absurd ((len (by omega) (by omega)).mpr (by omega)) q⟩
  | m + 1, D, σ, e, h, h17, hj => by
    have H2 := hH.1.2.1
    have vD : vp_in (nI D) 5 := vp_in_nI (by omega) (by omega)
    obtain ⟨-, ⟨e1, -⟩, ⟨e2, -⟩, -⟩ := RH_door hH (j := D) (by omega)
    refine b_X6_look_42 ?_
    rw [h.R 65 rfl, hH.2.2.1.1, i_bt (m := tn) (by omega) (by omega), nI_clamp (n := D) (by omega), h.A 2 rfl, h.A 3 rfl, e1, e2, nI_1]
    have nxt : ∀ u v : Nat, u = frT σ0 tn D → v = toT σ0 tn D → JV l g M_X6_look d 42 [(0, .ref 14), (1, .int mo), (2, .int wr), (3, .int (nI tn)), (4, .int (nI (D + 1)))] [] (sA (sA σ 15 D (nI u)) 16 D (nI v)) k := by
      intro u v eu ev
      refine c_look42 hH ht H m (D + 1) _ (by omega) ((h.wA.wA).mono (by simp) (by simp)) (fun p hp => h17 p hp) (fun j hj2 => ?_)
      by_cases c : j = D
      · subst c
        exact ⟨by rw [ar_sA, if_neg (fun q => absurd q.1 (by decide)), ar_sA, if_pos ⟨rfl, rfl⟩, eu], by rw [ar_sA, if_pos ⟨rfl, rfl⟩, ev]⟩
      · have := hj j (by omega)
        exact ⟨by rw [ar_sA, if_neg (fun q => absurd q.1 (by decide)), ar_sA, if_neg (fun q => c q.2)]; exact this.1, by rw [ar_sA, if_neg (fun q => c q.2), ar_sA, if_neg (fun q => absurd q.1 (by decide))]; exact this.2⟩
    refine ⟨fun q => absurd ((len (by omega) (by omega)).mp q) (by omega), fun _ => ⟨fun c => ⟨vD, vD, vD, vD, nxt _ _ ?_ ?_⟩, fun c => ⟨vD, vD, vD, vD, nxt _ _ ?_ ?_⟩⟩⟩
    · have : ¬ tn / 2 ^ D % 2 = 1 := fun q => by rw [q] at c; exact absurd c (by decide)
      unfold frT tbt
      rw [if_neg (by simpa using this)]
    · have : ¬ tn / 2 ^ D % 2 = 1 := fun q => by rw [q] at c; exact absurd c (by decide)
      unfold toT tbt
      rw [if_neg (by simpa using this)]
    · have : tn / 2 ^ D % 2 = 1 := by
        rcases Nat.mod_two_eq_zero_or_one (tn / 2 ^ D) with q | q
        · rw [q] at c
          exact absurd rfl c
        · exact q
      unfold frT tbt
      rw [if_pos (by simpa using this)]
    · have : tn / 2 ^ D % 2 = 1 := by
        rcases Nat.mod_two_eq_zero_or_one (tn / 2 ^ D) with q | q
        · rw [q] at c
          exact absurd rfl c
        · exact q
      unfold toT tbt
      rw [if_pos (by simpa using this)]
theorem c_look3 {d : Nat} {k : am_S → Prop} (hd : 1 ≤ d) (hH : R_W σ0 nr nd n) (ht : tn < 32) (H : ∀ τ, LK σ0 nd n tn wr mo τ → k τ) : ∀ (m P : Nat) (σ : am_S), P + m = n → Fr [707] [13, 15, 16, 17, 18] σ0 σ → (∀ p, p < P → ar σ 17 p = htB σ0 wr mo p) →
    JV l g M_X6_look d 3 [(0, .ref 14), (1, .int mo), (2, .int wr), (3, .int (nI tn)), (4, .int (nI P))] [] σ k
  | 0, P, σ, e, h, h17 => by
    have H3 := hH.1.2.2
    refine b_X6_look_3 hd ?_
    rw [h.R 66 rfl, hH.2.2.2.1.1]
    exact ⟨fun _ => c_look42 hH ht H nd 0 σ (Nat.zero_add _) h (fun p hp => h17 p (by omega)) (fun j hj => absurd hj (Nat.not_lt_zero j)), fun q => absurd ((len (by omega) (by omega)).mpr (by omega)) q⟩
  | m + 1, P, σ, e, h, h17 => by
    have H3 := hH.1.2.2
    have vP : vp_in (nI P) 7 := vp_in_nI (by omega) (by omega)
    refine b_X6_look_3 hd ?_
    rw [h.R 66 rfl, hH.2.2.2.1.1]
    have go : ∀ v, v = htB σ0 wr mo P → JV l g M_X6_look d 3 [(0, .ref 14), (1, .int mo), (2, .int wr), (3, .int (nI tn)), (4, .int (nI P + 1))] [] (sA σ 17 (nI P).toNatClampNeg v) k := by
      intro v ev
      rw [nI_clamp (by omega), nI_1]
      refine c_look3 hd hH ht H m (P + 1) _ (by omega) ((h.wA).mono (by simp) (by simp)) (fun p hp => ?_)
      by_cases c : p = P
      · subst c
        rw [ar_sA, if_pos ⟨rfl, rfl⟩, ev]
      · rw [ar_sA, if_neg (fun q => c q.2)]
        exact h17 p (by omega)
    refine ⟨fun q => absurd ((len (by omega) (by omega)).mp q) (by omega), fun _ => b_X2_height_0 ?_⟩
    rw [nI_clamp (n := P) (by omega), h.A 5 rfl, h.A 6 rfl, h.R 68 rfl]
    rw [nI_clamp (n := P) (by omega)] at go
    exact ⟨vP, vP, fun c => ⟨vP, go _ (by unfold htB; rw [if_neg c])⟩, fun c => ⟨vP, go _ (by unfold htB; rw [if_pos c])⟩⟩
theorem c_look {d : Nat} {k : am_S → Prop} (hd : 1 ≤ d) (hH : R_W σ0 nr nd n) (ht : tn < 32) (H : ∀ τ, LK σ0 nd n tn wr mo τ → k τ) : CV l g M_X6_look d [.ref 14, .int mo, .int wr, .int (nI tn)] σ0 k :=
  b_X6_look_0 (c_look3 hd hH ht H n 0 σ0 (Nat.zero_add _) (Fr.rf.mono (by simp) (by simp)) (fun p hp => absurd hp (Nat.not_lt_zero p)))
theorem LK.fr {σ τ : am_S} (h : LK σ0 nd n tn wr mo σ) (f : Fr [707] [13, 18] σ τ) : LK σ0 nd n tn wr mo τ := by
  obtain ⟨h1, h2, h3⟩ := h
  refine ⟨(h1.tr f).mono (by simp) (by simp), fun p hp => ?_, fun d hd => ?_⟩
  · rw [f.A 17 rfl]
    exact h2 p hp
  · rw [f.A 15 rfl, f.A 16 rfl]
    exact h3 d hd
theorem c_law2 {d D p q : Nat} {σ : am_S} {k : Int32 → am_S → Prop} (hd : 4 ≤ d) (hH : R_W σ0 nr nd n) (hL : R_tl σ0 o) (h : LK σ0 nd n tn wr mo σ) (hD : D < nd) (hp : p < n) (hq : q < n) (hpq : p ≠ q) (H : ∀ τ, Fr [707] [13] σ τ → LK σ0 nd n tn wr mo τ → k (if mayW σ0 o tn wr mo D p q = true then 1 else 0) τ) : CI l g M_X6_isLawful d [.ref 14, .int (nI D), .int (nI p), .int (nI q)] σ k := by
  have H1 := hH.1
  refine c_isLawful hd (R_tl.fr h.1 rfl rfl hL) (by omega) (by omega) (by omega) (fun τ hτ => ?_)
  have := H τ hτ (h.fr (hτ.mono (by simp) (by simp)))
  unfold mayW at this
  rw [h.2.1 p hp, h.2.1 q hq, (h.2.2 D hD).1, (h.2.2 D hD).2, h.1.A 4 rfl]
  simp [hpq] at this
  exact this
theorem c_part5 {d D p : Nat} {k : Int32 → am_S → Prop} (hd : 5 ≤ d) (hH : R_W σ0 nr nd n) (hL : R_tl σ0 o) (hD : D < nd) (hp : p < n) : ∀ (m q : Nat) (σ1 σ : am_S), q + m = n → Fr [707] [13] σ1 σ → LK σ0 nd n tn wr mo σ → (∀ τ, Fr [707] [13] σ1 τ → LK σ0 nd n tn wr mo τ → k (nI (msk (mayW σ0 o tn wr mo D p) n)) τ) →
    JI l g M_X6_partnersOf d 5 [(0, .ref 14), (1, .int (nI D)), (2, .int (nI p)), (3, .int (nI (msk (mayW σ0 o tn wr mo D p) q))), (4, .int (nI q))] [] σ k
  | 0, q, σ1, σ, e, hf, h, H => by
    have H3 := hH.1.2.2
    have e : q = n := by omega
    subst e
    refine b_X6_partnersOf_5 (by omega) ?_
    rw [h.1.R 66 rfl, hH.2.2.2.1.1]
    exact ⟨fun _ => H σ hf h, fun q => absurd ((len (by omega) (by omega)).mpr (Nat.le_refl _)) q⟩
  | m + 1, q, σ1, σ, e, hf, h, H => by
    have H3 := hH.1.2.2
    refine b_X6_partnersOf_5 (by omega) ?_
    rw [h.1.R 66 rfl, hH.2.2.2.1.1, nI_1]
    refine ⟨fun z => absurd ((len (by omega) (by omega)).mp z) (by omega), fun _ => ⟨fun c => ?_, fun c => ?_⟩⟩
    · have c2 : q = p := nI_inj (by omega) (by omega) c
      have : ¬ mayW σ0 o tn wr mo D p q = true := by
        unfold mayW
        simp [c2]
      have := msk_no this
      rw [← this]
      exact c_part5 hd hH hL hD hp m (q + 1) σ1 σ (by omega) hf h H
    · have c2 : p ≠ q := fun z => c (by rw [z])
      refine c_law2 (by omega) hH hL h hD hp (by omega) c2 (fun τ hτ hτ2 => ?_)
      have hf2 := (hf.tr hτ).mono (rs2 := [707]) (as2 := [13]) (by simp) (by simp)
      by_cases c3 : mayW σ0 o tn wr mo D p q = true
      · rw [if_pos c3, i_or1 c3 (by omega)]
        exact ⟨fun z => absurd z (by decide), fun _ => c_part5 hd hH hL hD hp m (q + 1) σ1 τ (by omega) hf2 hτ2 H⟩
      · rw [if_neg c3, ← msk_no c3]
        exact ⟨fun _ => c_part5 hd hH hL hD hp m (q + 1) σ1 τ (by omega) hf2 hτ2 H, fun z => absurd rfl z⟩
/-- what is weighed up to a place -/
def LWP (σ0 : am_S) (o : Option (List Lin)) (nd n tn : Nat) (wr mo : Int32) (b : Nat) (σ : am_S) : Prop := LK σ0 nd n tn wr mo σ ∧ ∀ D p, D < nd → p < n → D * 7 + p < b → ar σ 18 (D * 7 + p) = nI (msk (mayW σ0 o tn wr mo D p) n)
theorem c_weigh25 {d D : Nat} {k : am_S → Prop} (hd : 6 ≤ d) (hH : R_W σ0 nr nd n) (hL : R_tl σ0 o) (hD : D < nd) (H : ∀ τ, LWP σ0 o nd n tn wr mo ((D + 1) * 7) τ → JV l g M_X6_weigh d 10 [(0, .ref 14), (1, .int mo), (2, .int wr), (3, .int (nI tn)), (4, .int (nI (D + 1)))] [] τ k) : ∀ (m p : Nat) (σ : am_S), p + m = n → LWP σ0 o nd n tn wr mo (D * 7 + p) σ →
    JV l g M_X6_weigh d 25 [(0, .ref 14), (1, .int mo), (2, .int wr), (3, .int (nI tn)), (4, .int (nI D)), (5, .int (nI p))] [] σ k
  | 0, p, σ, e, h => by
    have H3 := hH.1.2.2
    refine b_X6_weigh_25 (by omega) ?_
    rw [h.1.1.R 66 rfl, hH.2.2.2.1.1, nI_1]
    exact ⟨fun _ => H σ ⟨h.1, fun D2 p2 h1 h2 h3 => h.2 D2 p2 h1 h2 (by omega)⟩, fun q => absurd ((len (by omega) (by omega)).mpr (by omega)) q⟩
  | m + 1, p, σ, e, h => by
    have H3 := hH.1.2.2
    have H2 := hH.1.2.1
    refine b_X6_weigh_25 (by omega) ?_
    rw [h.1.1.R 66 rfl, hH.2.2.2.1.1, nI_1]
    refine ⟨fun q => absurd ((len (by omega) (by omega)).mp q) (by omega), fun _ => b_X6_partnersOf_0 (c_part5 (by omega) hH hL hD (p := p) (by omega) n 0 σ σ (Nat.zero_add _) (Fr.rf.mono (by simp) (by simp)) h.1 (fun τ hτ hτ2 => ?_))⟩
    have ei : nI D * 7 + nI p = nI (D * 7 + p) := by rw [show (7 : Int32) = nI 7 from rfl, pk_mul, nI_add]
    rw [ei, nI_clamp (by omega), nI_1 p]
    refine ⟨vp_in_nI (by omega) (by omega), c_weigh25 hd hH hL hD H m (p + 1) _ (by omega) ⟨hτ2.fr ((Fr.rf.wA).mono (by simp) (by simp)), fun D2 p2 h1 h2 h3 => ?_⟩⟩
    by_cases c : D2 * 7 + p2 = D * 7 + p
    · have c1 : D2 = D := by omega
      have c2 : p2 = p := by omega
      rw [c, ar_sA, if_pos ⟨rfl, rfl⟩, c1, c2]
    · rw [ar_sA, if_neg (fun q => c q.2), hτ.A 18 rfl]
      exact h.2 D2 p2 h1 h2 (by omega)
theorem c_weigh10 {d : Nat} {k : am_S → Prop} (hd : 6 ≤ d) (hH : R_W σ0 nr nd n) (hL : R_tl σ0 o) (H : ∀ τ, LK σ0 nd n tn wr mo τ → WC (wld σ0 o nd n tn wr mo) τ → k τ) : ∀ (m D : Nat) (σ : am_S), D + m = nd → LWP σ0 o nd n tn wr mo (D * 7) σ →
    JV l g M_X6_weigh d 10 [(0, .ref 14), (1, .int mo), (2, .int wr), (3, .int (nI tn)), (4, .int (nI D))] [] σ k
  | 0, D, σ, e, h => by
    have H2 := hH.1.2.1
    have H3 := hH.1.2.2
    refine b_X6_weigh_10 ?_
    rw [h.1.1.R 65 rfl, hH.2.2.1.1]
    refine ⟨fun _ => H σ h.1 ⟨⟨(h.1.1.R 65 rfl).trans hH.2.2.1.1, (h.1.1.R 66 rfl).trans hH.2.2.2.1.1⟩, h.1.2.2, fun D2 p2 h1 h2 => h.2 D2 p2 h1 h2 ?_⟩, fun q => absurd ((len (by omega) (by omega)).mpr (by omega)) q⟩
    have h1 : D2 < nd := h1
    have h2 : p2 < n := h2
    omega
  | m + 1, D, σ, e, h => by
    have H2 := hH.1.2.1
    refine b_X6_weigh_10 ?_
    rw [h.1.1.R 65 rfl, hH.2.2.1.1]
    exact ⟨fun q => absurd ((len (by omega) (by omega)).mp q) (by omega), fun _ => c_weigh25 hd hH hL (by omega) (fun τ hτ => c_weigh10 hd hH hL H m (D + 1) τ (by omega) hτ) n 0 σ (Nat.zero_add _) h⟩
theorem c_weigh {d : Nat} {k : am_S → Prop} (hd : 6 ≤ d) (hH : R_W σ0 nr nd n) (hL : R_tl σ0 o) (ht : tn < 32) (H : ∀ τ, LK σ0 nd n tn wr mo τ → WC (wld σ0 o nd n tn wr mo) τ → k τ) : CV l g M_X6_weigh d [.ref 14, .int mo, .int wr, .int (nI tn)] σ0 k :=
  b_X6_weigh_0 (by omega) (c_look (by omega) hH ht (fun τ hτ => c_weigh10 hd hH hL H nd 0 τ (Nat.zero_add _) ⟨hτ, fun D p _ _ h => absurd h (by omega)⟩))
/-- what the reference has found up to a place -/
def FW (σ0 : am_S) (o : Option (List Lin)) (nd n tn : Nat) (wr mo : Int32) (D b : Nat) (σ : am_S) : Prop := Fr [] [71, 72, 73, 74, 75] σ0 σ ∧ (∀ j, j < D → ar σ 74 j = nI (frT σ0 tn j) ∧ ar σ 75 j = nI (toT σ0 tn j)) ∧ ∀ e p q, e < nd → p < n → q < n → 49 * e + 7 * p + q < b → ar σ 73 (49 * e + 7 * p + q) = if mayW σ0 o tn wr mo e p q = true then 1 else 0
theorem FW.put {σ : am_S} {D e p q : Nat} {v : Int32} (h : FW σ0 o nd n tn wr mo D (49 * e + 7 * p + q) σ) (hn : n ≤ 7) (he : e < nd) (hp : p < n) (hq : q < n) (ev : v = if mayW σ0 o tn wr mo e p q = true then 1 else 0) : FW σ0 o nd n tn wr mo D (49 * e + 7 * p + (q + 1)) (sA σ 73 (49 * e + 7 * p + q) v) := by
  obtain ⟨h1, h2, h3⟩ := h
  refine ⟨(h1.wA).mono (by simp) (by simp), fun j hj => h2 j hj, fun e2 p2 q2 k1 k2 k3 k4 => ?_⟩
  by_cases c : 49 * e2 + 7 * p2 + q2 = 49 * e + 7 * p + q
  · have c1 : e2 = e := by omega
    have c2 : p2 = p := by omega
    have c3 : q2 = q := by omega
    rw [c, ar_sA, if_pos ⟨rfl, rfl⟩, ev, c1, c2, c3]
  · rw [ar_sA, if_neg (fun z => c z.2)]
    exact h3 e2 p2 q2 k1 k2 k3 (by omega)
theorem nar_b01 : vp_nar .boolean 0 = 0 ∧ vp_nar .boolean 1 = 1 := by decide
theorem m_fm102 {d D p : Nat} {k : am_S → Prop} (hd : 4 ≤ d) (hH : R_W σ0 nr nd n) (hL : R_tl σ0 o) (hD : D < nd) (hp : p < n) (H : ∀ τ, FW σ0 o nd n tn wr mo (D + 1) (49 * D + 7 * (p + 1)) τ → JV l g M_X12_findMay d 90 [(0, .ref 55), (1, .int (nI tn)), (2, .int wr), (3, .int mo), (4, .int (nI D)), (5, .int (if tbt tn D = true then 1 else 0)), (6, .int (nI (p + 1)))] [] τ k) : ∀ (m q : Nat) (σ : am_S), q + m = n → FW σ0 o nd n tn wr mo (D + 1) (49 * D + 7 * p + q) σ →
    JV l g M_X12_findMay d 102 [(0, .ref 55), (1, .int (nI tn)), (2, .int wr), (3, .int mo), (4, .int (nI D)), (5, .int (if tbt tn D = true then 1 else 0)), (6, .int (nI p)), (7, .int (nI q))] [] σ k
  | 0, q, σ, e, h => by
    have H3 := hH.1.2.2
    refine b_X12_findMay_102 (by omega) ?_
    rw [h.1.R 3526 rfl, hH.2.2.2.1.2, nI_1 p]
    exact ⟨fun _ => H σ ⟨h.1, h.2.1, fun e2 p2 q2 h1 h2 h3 h4 => h.2.2 e2 p2 q2 h1 h2 h3 (by omega)⟩, fun z => absurd ((len (by omega) (by omega)).mpr (by omega)) z⟩
  | m + 1, q, σ, e, h => by
    have H3 := hH.1.2.2
    have H2 := hH.1.2.1
    have pe := hH.2.2.2.2.2.2.2.1
    refine b_X12_findMay_102 (by omega) ?_
    have ei : 49 * nI D + 7 * nI p + nI q = nI (49 * D + 7 * p + q) := by rw [show (49 : Int32) = nI 49 from rfl, show (7 : Int32) = nI 7 from rfl, pk_mul, pk_mul, nI_add, nI_add]
    have vx : vp_in (nI (49 * D + 7 * p + q)) 245 := vp_in_nI (by omega) (by omega)
    rw [h.1.R 3526 rfl, hH.2.2.2.1.2, ei, nI_clamp (n := 49 * D + 7 * p + q) (by omega), nar_b01.1, nar_b01.2, nI_1 q]
    refine ⟨fun z => absurd ((len (by omega) (by omega)).mp z) (by omega), fun _ => ⟨fun c => ⟨vx, ?_⟩, fun c => ?_⟩⟩
    · have c2 : p = q := nI_inj (by omega) (by omega) c
      exact m_fm102 hd hH hL hD hp H m (q + 1) _ (by omega) (h.put H3 hD hp (by omega) (by unfold mayW; simp [c2]))
    · have c2 : p ≠ q := fun z => c (by rw [z])
      have ht : ∀ {z : Nat} {υ : am_S} {K2 : Int32 → am_S → Prop}, z < n → FW σ0 o nd n tn wr mo (D + 1) (49 * D + 7 * p + q) υ → K2 (htB σ0 wr mo z) υ → CI l g M_X12_height (d - 1) [.ref 55, .int (nI z), .int wr, .int mo] υ K2 := by
        intro z υ K2 hz hυ h2
        have vz : vp_in (nI z) 7 := vp_in_nI (by omega) (by omega)
        refine b_X12_height_0 ?_
        rw [nI_clamp (n := z) (by omega), hυ.1.A 59 rfl, hυ.1.A 60 rfl, hυ.1.R 3531 rfl, (pe z hz).2.2.1.1, (pe z hz).2.2.2.1, hH.2.2.2.2.2.1.1]
        unfold htB at h2
        refine ⟨vz, vz, fun c => ?_, fun c => ?_⟩
        · rw [if_neg c] at h2
          rw [Int32.add_zero]
          exact h2
        · rw [if_pos c] at h2
          exact h2
      refine ht (z := p) hp h (ht (z := q) (by omega) h ?_)
      obtain ⟨-, ⟨e1, e2⟩, ⟨e3, e4⟩, e5⟩ := RH_door hH hD
      refine m_asks (t := tbt tn D) (by omega) (R_tl.fr h.1 rfl rfl hL) (by omega) (fun τ hτ => ?_)
      have ev : (if lawB o (htB σ0 wr mo p) (htB σ0 wr mo q) (nI D) (ar σ 58 D) (if tbt tn D = true then ar σ 57 D else ar σ 56 D) (if tbt tn D = true then ar σ 56 D else ar σ 57 D) = true then (1 : Int32) else 0) = if mayW σ0 o tn wr mo D p q = true then 1 else 0 := by
        rw [h.1.A 58 rfl, h.1.A 57 rfl, h.1.A 56 rfl, e2, e4, e5]
        unfold mayW frT toT
        have b1 : (if tbt tn D = true then nI (to0 σ0 D) else nI (fr0 σ0 D)) = nI (if tbt tn D = true then to0 σ0 D else fr0 σ0 D) := by split <;> rfl
        have b2 : (if tbt tn D = true then nI (fr0 σ0 D) else nI (to0 σ0 D)) = nI (if tbt tn D = true then fr0 σ0 D else to0 σ0 D) := by split <;> rfl
        rw [b1, b2]
        simp [c2]
      rw [ev]
      have hF : FW σ0 o nd n tn wr mo (D + 1) (49 * D + 7 * p + q) τ := by
        obtain ⟨h1, h2, h3⟩ := h
        refine ⟨(h1.tr hτ).mono (by simp) (by simp), fun j hj => ?_, fun e2 p2 q2 k1 k2 k3 k4 => ?_⟩
        · rw [hτ.A 74 rfl, hτ.A 75 rfl]
          exact h2 j hj
        · rw [hτ.A 73 rfl]
          exact h3 e2 p2 q2 k1 k2 k3 k4
      by_cases c3 : mayW σ0 o tn wr mo D p q = true
      · rw [if_pos c3]
        exact ⟨fun z => absurd z (by decide), fun _ => ⟨vx, m_fm102 hd hH hL hD hp H m (q + 1) _ (by omega) (hF.put H3 hD hp (by omega) (by rw [if_pos c3]))⟩⟩
      · rw [if_neg c3]
        exact ⟨fun _ => ⟨vx, m_fm102 hd hH hL hD hp H m (q + 1) _ (by omega) (hF.put H3 hD hp (by omega) (by rw [if_neg c3]))⟩, fun z => absurd rfl z⟩
theorem m_fm90 {d D : Nat} {k : am_S → Prop} (hd : 4 ≤ d) (hH : R_W σ0 nr nd n) (hL : R_tl σ0 o) (hD : D < nd) (H : ∀ τ, FW σ0 o nd n tn wr mo (D + 1) (49 * (D + 1)) τ → JV l g M_X12_findMay d 3 [(0, .ref 55), (1, .int (nI tn)), (2, .int wr), (3, .int mo), (4, .int (nI (D + 1)))] [] τ k) : ∀ (m p : Nat) (σ : am_S), p + m = n → FW σ0 o nd n tn wr mo (D + 1) (49 * D + 7 * p) σ →
    JV l g M_X12_findMay d 90 [(0, .ref 55), (1, .int (nI tn)), (2, .int wr), (3, .int mo), (4, .int (nI D)), (5, .int (if tbt tn D = true then 1 else 0)), (6, .int (nI p))] [] σ k
  | 0, p, σ, e, h => by
    have H3 := hH.1.2.2
    refine b_X12_findMay_90 ?_
    rw [h.1.R 3526 rfl, hH.2.2.2.1.2, nI_1]
    exact ⟨fun _ => H σ ⟨h.1, h.2.1, fun e2 p2 q2 h1 h2 h3 h4 => h.2.2 e2 p2 q2 h1 h2 h3 (by omega)⟩, fun z => absurd ((len (by omega) (by omega)).mpr (by omega)) z⟩
  | m + 1, p, σ, e, h => by
    have H3 := hH.1.2.2
    refine b_X12_findMay_90 ?_
    rw [h.1.R 3526 rfl, hH.2.2.2.1.2]
    exact ⟨fun z => absurd ((len (by omega) (by omega)).mp z) (by omega), fun _ => m_fm102 hd hH hL hD (by omega) (fun τ hτ => m_fm90 hd hH hL hD H m (p + 1) τ (by omega) hτ) n 0 σ (Nat.zero_add _) h⟩
theorem m_fm3 {d : Nat} {k : am_S → Prop} (hd : 4 ≤ d) (hH : R_W σ0 nr nd n) (hL : R_tl σ0 o) (ht : tn < 32) (H : ∀ τ, Fr [] [71, 72, 73, 74, 75] σ0 τ → WM (wld σ0 o nd n tn wr mo) τ → k τ) : ∀ (m D : Nat) (σ : am_S), D + m = nd → FW σ0 o nd n tn wr mo D (49 * D) σ →
    JV l g M_X12_findMay d 3 [(0, .ref 55), (1, .int (nI tn)), (2, .int wr), (3, .int mo), (4, .int (nI D))] [] σ k
  | 0, D, σ, e, h => by
    have H2 := hH.1.2.1
    have H3 := hH.1.2.2
    have e : D = nd := by omega
    subst e
    refine b_X12_findMay_3 ?_
    rw [h.1.R 3522 rfl, hH.2.2.1.2]
    refine ⟨fun _ => H σ h.1 ⟨⟨(h.1.R 3522 rfl).trans hH.2.2.1.2, (h.1.R 3526 rfl).trans hH.2.2.2.1.2⟩, h.2.1, fun e p q h1 h2 h3 => h.2.2 e p q h1 h2 h3 ?_⟩, fun z => absurd ((len (by omega) (by omega)).mpr (Nat.le_refl _)) z⟩
    have h1 : e < D := h1
    have h2 : p < n := h2
    have h3 : q < n := h3
    omega
  | m + 1, D, σ, e, h => by
    have H2 := hH.1.2.1
    have vD : vp_in (nI D) 5 := vp_in_nI (by omega) (by omega)
    obtain ⟨-, ⟨-, e1⟩, ⟨-, e2⟩, -⟩ := RH_door hH (j := D) (by omega)
    refine b_X12_findMay_3 ?_
    rw [h.1.R 3522 rfl, hH.2.2.1.2, i_bt (m := tn) (by omega) (by omega), nI_clamp (n := D) (by omega), h.1.A 56 rfl, h.1.A 57 rfl, e1, e2]
    have nxt : ∀ (u v : Nat) (x5 : Int32), u = frT σ0 tn D → v = toT σ0 tn D → x5 = (if tbt tn D = true then 1 else 0) → JV l g M_X12_findMay d 90 [(0, .ref 55), (1, .int (nI tn)), (2, .int wr), (3, .int mo), (4, .int (nI D)), (5, .int x5), (6, .int 0)] [] (sA (sA σ 74 D (nI u)) 75 D (nI v)) k := by
      intro u v x5 eu ev e5
      rw [e5]
      refine m_fm90 hd hH hL (by omega) (fun τ hτ => m_fm3 hd hH hL ht H m (D + 1) τ (by omega) hτ) n 0 _ (Nat.zero_add _) ?_
      refine ⟨(h.1.wA.wA).mono (by simp) (by simp), fun j hj2 => ?_, fun e2 p2 q2 h1 h2 h3 h4 => ?_⟩
      · by_cases c : j = D
        · subst c
          exact ⟨by rw [ar_sA, if_neg (fun q => absurd q.1 (by decide)), ar_sA, if_pos ⟨rfl, rfl⟩, eu], by rw [ar_sA, if_pos ⟨rfl, rfl⟩, ev]⟩
        · have := h.2.1 j (by omega)
          exact ⟨by rw [ar_sA, if_neg (fun q => absurd q.1 (by decide)), ar_sA, if_neg (fun q => c q.2)]; exact this.1, by rw [ar_sA, if_neg (fun q => c q.2), ar_sA, if_neg (fun q => absurd q.1 (by decide))]; exact this.2⟩
      · rw [ar_sA, if_neg (fun q => absurd q.1 (by decide)), ar_sA, if_neg (fun q => absurd q.1 (by decide))]
        exact h.2.2 e2 p2 q2 h1 h2 h3 (by omega)
    refine ⟨fun q => absurd ((len (by omega) (by omega)).mp q) (by omega), fun _ => ⟨fun c => ⟨vD, vD, vD, vD, nxt _ _ _ ?_ ?_ ?_⟩, fun c => ⟨vD, vD, vD, vD, nxt _ _ _ ?_ ?_ ?_⟩⟩⟩
    all_goals have tb : tbt tn D = decide (tn / 2 ^ D % 2 = 1) := rfl
    · have : ¬ tn / 2 ^ D % 2 = 1 := fun q => c (by rw [q]; rfl)
      unfold frT
      rw [tb, if_neg (by simpa using this)]
    · have : ¬ tn / 2 ^ D % 2 = 1 := fun q => c (by rw [q]; rfl)
      unfold toT
      rw [tb, if_neg (by simpa using this)]
    · have : ¬ tn / 2 ^ D % 2 = 1 := fun q => c (by rw [q]; rfl)
      rw [tb, if_neg (by simpa using this)]
    · have : tn / 2 ^ D % 2 = 1 := nI_inj (b := 1) (by omega) (by omega) c
      unfold frT
      rw [tb, if_pos (by simpa using this)]
    · have : tn / 2 ^ D % 2 = 1 := nI_inj (b := 1) (by omega) (by omega) c
      unfold toT
      rw [tb, if_pos (by simpa using this)]
    · have : tn / 2 ^ D % 2 = 1 := nI_inj (b := 1) (by omega) (by omega) c
      rw [tb, if_pos (by simpa using this)]
theorem m_findMay {d : Nat} {k : am_S → Prop} (hd : 4 ≤ d) (hH : R_W σ0 nr nd n) (hL : R_tl σ0 o) (ht : tn < 32) (H : ∀ τ, Fr [] [71, 72, 73, 74, 75] σ0 τ → WM (wld σ0 o nd n tn wr mo) τ → k τ) : CV l g M_X12_findMay d [.ref 55, .int (nI tn), .int wr, .int mo] σ0 k :=
  b_X12_findMay_0 (m_fm3 hd hH hL ht H nd 0 σ0 (Nat.zero_add _) ⟨Fr.rf.mono (by simp) (by simp), fun j hj => absurd hj (Nat.not_lt_zero j), fun _ _ _ _ _ _ h => absurd h (by omega)⟩)
end Weigh
