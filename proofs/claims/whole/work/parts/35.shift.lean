/-! shift -/
theorem part_iff {n : Nat} {x z : Int32} (hn : n ≤ 60) : (¬ x < 0 ∧ ¬ z < 0 ∧ ¬ nI n < x ∧ ¬ nI n - x < z) ↔ ∃ i c, i + c ≤ n ∧ x = nI i ∧ z = nI c := by
  constructor
  · rintro ⟨h1, h2, h3, h4⟩
    obtain ⟨i, hi, rfl⟩ := (cA (n := n + 1) (x := x) (by omega)).mp ⟨h1, by
      rw [← nI_1]
      have t : Lean.Grind.ToInt.toInt (nI n) = (n : Int) := nIt (by omega)
      generalize nI n = a at *
      grind⟩
    rw [pk_sub (by omega)] at h4
    obtain ⟨c, hc, rfl⟩ := (cA (n := n - i + 1) (x := z) (by omega)).mp ⟨h2, by
      rw [← nI_1]
      have t : Lean.Grind.ToInt.toInt (nI (n - i)) = ((n - i : Nat) : Int) := nIt (by omega)
      generalize nI (n - i) = a at *
      grind⟩
    exact ⟨i, c, by omega, rfl, rfl⟩
  · rintro ⟨i, c, h, rfl, rfl⟩
    refine ⟨nI_pos (by omega), nI_pos (by omega), fun q => ?_, fun q => ?_⟩
    · have := (ltn (by omega) (by omega)).mp q
      omega
    · rw [pk_sub (by omega)] at q
      have := (ltn (by omega) (by omega)).mp q
      omega
theorem part_m {n : Nat} {x z : Int32} (hn : n ≤ 60) (h1 : ¬ x < 0) (h2 : ¬ z < 0) : (¬ nI n - z < x) ↔ (¬ nI n < x ∧ ¬ nI n - x < z) := by
  have t : Lean.Grind.ToInt.toInt (nI n) = (n : Int) := nIt (by omega)
  generalize nI n = a at *
  constructor
  · intro h
    constructor <;> grind
  · rintro ⟨q1, q2⟩
    grind
section ShiftJ
variable {l : Launch} {g : am_G} {d : Nat} {σ : am_S}
theorem c_shM {s i t j c : Nat} {k : Int32 → am_S → Prop} (hs : s < 6) (ht : t < 6) (hi : i + c ≤ 60) (hj : j + c ≤ 60) (H : ∀ τ, (∀ r, rg τ r = rg σ r) → ar τ = ar σ → (∀ a, a ≠ 83 → a ≠ 84 → lr τ a = lr σ a) → (∀ q, lr τ 83 q = if 60 * t + j ≤ q ∧ q < 60 * t + j + c then lr σ 83 (60 * s + i + (q - (60 * t + j))) else lr σ 83 q) → k (nI c) τ) : JI l g M_X12_shift d 113 [(0, .ref 55), (1, .int (nI s)), (2, .int (nI i)), (3, .int (nI t)), (4, .int (nI j)), (5, .int (nI c)), (6, .int 0)] [] σ k := by
  have e1 : ∀ m, 60 * nI s + nI i + nI m = nI (60 * s + i + m) := fun m => by rw [show (60 : Int32) = nI 60 from rfl, pk_mul, nI_add, nI_add]
  have e2 : ∀ m, 60 * nI t + nI j + nI m = nI (60 * t + j + m) := fun m => by rw [show (60 : Int32) = nI 60 from rfl, pk_mul, nI_add, nI_add]
  have loop2 : ∀ m p τ, p + m = c → (∀ r, rg τ r = rg σ r) → ar τ = ar σ → (∀ a, a ≠ 83 → a ≠ 84 → lr τ a = lr σ a) → (∀ q, q < c → lr τ 84 q = lr σ 83 (60 * s + i + q)) → (∀ q, lr τ 83 q = if 60 * t + j ≤ q ∧ q < 60 * t + j + p then lr σ 83 (60 * s + i + (q - (60 * t + j))) else lr σ 83 q) → JI l g M_X12_shift d 150 [(0, .ref 55), (1, .int (nI s)), (2, .int (nI i)), (3, .int (nI t)), (4, .int (nI j)), (5, .int (nI c)), (6, .int (nI p))] [] τ k := by
    intro m
    induction m with
    | zero =>
      intro p τ h1 a1 a2 a3 a4 a5
      have hp : p = c := by omega
      subst hp
      exact b_X12_shift_150 ⟨fun _ => H τ a1 a2 a3 a5, fun q => absurd ((len (by omega) (by omega)).mpr (Nat.le_refl _)) q⟩
    | succ m ih =>
      intro p τ h1 a1 a2 a3 a4 a5
      have cl : (nI p).toNatClampNeg = p := nI_clamp (by omega)
      have cl2 : (nI (60 * t + j + p)).toNatClampNeg = 60 * t + j + p := nI_clamp (by omega)
      refine b_X12_shift_150 ?_
      rw [e2, cl, cl2, nI_1]
      refine ⟨fun q => absurd ((len (by omega) (by omega)).mp q) (by omega), fun _ => ⟨vp_in_nI (by omega) (by omega), vp_in_nI (by omega) (by omega), ih (p + 1) _ (by omega) a1 a2 (fun a h1 h2 => ?_) (fun q hq => ?_) (fun q => ?_)⟩⟩
      · funext z
        rw [lr_sL, if_neg (fun w => h1 w.1), a3 a h1 h2]
      · rw [lr_sL, if_neg (fun w => absurd w.1 (by decide)), a4 q hq]
      · rw [lr_sL]
        by_cases e : q = 60 * t + j + p
        · rw [if_pos ⟨rfl, e⟩, if_pos (by omega), a4 p (by omega), e]
          congr 1
          omega
        · rw [if_neg (fun w => e w.2), a5]
          by_cases e3 : 60 * t + j ≤ q ∧ q < 60 * t + j + p
          · rw [if_pos e3, if_pos (by omega)]
          · rw [if_neg e3, if_neg (by omega)]
  have loop1 : ∀ m p τ, p + m = c → (∀ r, rg τ r = rg σ r) → ar τ = ar σ → (∀ a, a ≠ 84 → lr τ a = lr σ a) → (∀ q, q < p → lr τ 84 q = lr σ 83 (60 * s + i + q)) → JI l g M_X12_shift d 113 [(0, .ref 55), (1, .int (nI s)), (2, .int (nI i)), (3, .int (nI t)), (4, .int (nI j)), (5, .int (nI c)), (6, .int (nI p))] [] τ k := by
    intro m
    induction m with
    | zero =>
      intro p τ h1 a1 a2 a3 a4
      have hp : p = c := by omega
      subst hp
      refine b_X12_shift_113 ⟨fun _ => ?_, fun q => absurd ((len (by omega) (by omega)).mpr (Nat.le_refl _)) q⟩
      exact loop2 p 0 τ (by omega) a1 a2 (fun a _ h => a3 a h) a4 (fun q => by rw [if_neg (by omega), a3 83 (by decide)])
    | succ m ih =>
      intro p τ h1 a1 a2 a3 a4
      have cl : (nI p).toNatClampNeg = p := nI_clamp (by omega)
      have cl2 : (nI (60 * s + i + p)).toNatClampNeg = 60 * s + i + p := nI_clamp (by omega)
      refine b_X12_shift_113 ?_
      rw [e1, cl, cl2, nI_1]
      refine ⟨fun q => absurd ((len (by omega) (by omega)).mp q) (by omega), fun _ => ⟨vp_in_nI (by omega) (by omega), vp_in_nI (by omega) (by omega), ih (p + 1) _ (by omega) a1 a2 (fun a h1 => ?_) (fun q hq => ?_)⟩⟩
      · funext z
        rw [lr_sL, if_neg (fun w => h1 w.1), a3 a h1]
      · rw [lr_sL]
        by_cases e : q = p
        · rw [if_pos ⟨rfl, e⟩, a3 83 (by decide), e]
        · rw [if_neg (fun w => e w.2)]
          exact a4 q (by omega)
  exact loop1 c 0 σ (by omega) (fun _ => rfl) rfl (fun _ _ => rfl) (fun q hq => absurd hq (by omega))
/-- what shelf s holds, by its three registers -/
theorem S1_cases {nb s : Nat} (hnb : nb ≤ 50) (h : R_S1 σ nb s) : (ar σ 81 s = -1 ∧ rg σ (64 * (43 + 2 * s) + 0) = -1 ∧ rg σ (64 * (43 + 2 * s) + 1) = -1) ∨ ((∃ b, b < nb ∧ ar σ 81 s = nI b) ∧ ¬ rg σ (64 * (43 + 2 * s) + 0) = -1) ∨ ∃ so n, RowS σ s so n := by
  rcases h with ⟨q0, q1, q2, q3⟩ | ⟨b, hb, q0, q1, q2, q3⟩ | ⟨so, n, hr⟩
  · exact Or.inl ⟨q3, q0, q1⟩
  · exact Or.inr (Or.inl ⟨⟨b, hb, q3⟩, by rw [q0]; exact neg1_ne (by omega)⟩)
  · exact Or.inr (Or.inr ⟨so, n, hr⟩)
theorem row_ne {s so n : Nat} (h : RowS σ s so n) : ¬ (rg σ (64 * (43 + 2 * s) + 0) = -1 ∧ rg σ (64 * (43 + 2 * s) + 1) = -1) := by
  rintro ⟨-, q⟩
  rw [h.2.2.2.1] at q
  exact neg1_ne (by have := h.1; omega) q
theorem P_shift (hd : 300 ≤ d) (hR : R σ) (x1 : Int32) (x2 : Int32) (x3 : Int32) (x4 : Int32) (x5 : Int32) : PP l g d M_X11_shift M_X12_shift [.int x1, .int x2, .int x3, .int x4, .int x5] σ := by
  intro K hk
  have old := hR
  obtain ⟨nr, nd, n0, pl, nt, dn, un, nb, nq, hRR⟩ := hR
  have hS : R_S σ nb := hRR.2.2.2.2.2.2.1
  have hnb : nb ≤ 50 := hRR.2.2.2.2.2.1.1.1
  have c5 : ∀ {x : Int32}, (¬ x < 0 ∧ ¬ 5 < x) ↔ ∃ j, j < 6 ∧ x = nI j := cC (n := 6) 5 rfl (by omega)
  have c6 : ∀ {x : Int32}, (¬ x < 0 ∧ ¬ 6 ≤ x) ↔ ∃ j, j < 6 ∧ x = nI j := cD (n := 6) 6 rfl (by omega)
  by_cases hs : ∃ s, s < 6 ∧ x1 = nI s
  · by_cases ht : ∃ t, t < 6 ∧ x3 = nI t
    · obtain ⟨s, hs, rfl⟩ := hs
      obtain ⟨t, ht, rfl⟩ := ht
      have cl : (nI s).toNatClampNeg = s := nI_clamp (by omega)
      have cl2 : (nI t).toNatClampNeg = t := nI_clamp (by omega)
      have z : vp_in (nI s) 6 := vp_in_nI (by omega) (by omega)
      have z2 : vp_in (nI t) 6 := vp_in_nI (by omega) (by omega)
      have hx := c5.mpr ⟨s, hs, rfl⟩
      have hx6 := c6.mpr ⟨s, hs, rfl⟩
      have ht5 := c5.mpr ⟨t, ht, rfl⟩
      have ht6 := c6.mpr ⟨t, ht, rfl⟩
      have bpos : ∀ {b : Nat}, b < nb → ¬ nI b < 0 := fun h => nI_pos (by omega)
      refine b_X11_shift_0 (by omega) ⟨fun _ => ⟨fun _ => ?_, fun q => absurd ht6 q⟩, fun q => absurd hx6 q⟩
      rw [cl, cl2]
      refine ⟨z, z2, ?_⟩
      -- the reference, by what the shelves hold
      have refM : ∀ (k : Int32 → am_S → Prop), (ar σ 81 s = -1 → k (-11) σ) → (ar σ 81 t = -1 → k (-11) σ) → (¬ ar σ 81 s = -1 → ¬ ar σ 81 t = -1 → (¬ ∃ so n m, RowS σ s so n ∧ RowS σ t so m) → k (-12) σ) → (∀ so n m, RowS σ s so n → RowS σ t so m → ((¬ ∃ i c, i + c ≤ n ∧ x2 = nI i ∧ x5 = nI c) ∨ ¬ ∃ j c, j + c ≤ m ∧ x4 = nI j ∧ x5 = nI c) → k (-13) σ) → (∀ so n m i j c, RowS σ s so n → RowS σ t so m → i + c ≤ n → j + c ≤ m → x2 = nI i → x4 = nI j → x5 = nI c → JI l g M_X12_shift d 113 [(0, .ref 55), (1, .int (nI s)), (2, .int x2), (3, .int (nI t)), (4, .int x4), (5, .int x5), (6, .int 0)] [] σ k) → CI l g M_X12_shift d [.ref 55, .int (nI s), .int x2, .int (nI t), .int x4, .int x5] σ k := by
        intro k k1 k2 k3 k4 k5
        refine b_X12_shift_0 (by omega) ?_
        rw [cl, cl2]
        refine ⟨fun _ => ⟨fun _ => ⟨z, fun q => k1 q, fun q1 => ⟨z2, fun q2 => ⟨z, fun q3 => ?_, fun q3 => ⟨z, z2, fun q4 => ?_, fun q4 => ?_⟩⟩, fun q2 => k2 q2⟩⟩, fun q => absurd ht5 q⟩, fun q => absurd hx q⟩
        · refine k3 q1 q2 ?_
          rintro ⟨so, n, m, h1, h2⟩
          rw [h1.2.2.2.2.2.1] at q3
          exact (m2lt h1.1).2.2.1 q3
        · -- both rows of one sort
          have hs3 := S1_cases hnb (hS s hs)
          have ht3 := S1_cases hnb (hS t ht)
          rcases hs3 with ⟨e, -⟩ | ⟨⟨b, hb, e⟩, -⟩ | ⟨so, n, h1⟩
          · exact absurd e q1
          · rw [e] at q3
            exact absurd (nneg (by omega)) q3
          rcases ht3 with ⟨e, -⟩ | ⟨⟨b, hb, e⟩, -⟩ | ⟨so2, m, h2⟩
          · exact absurd e q2
          · rw [q4, e] at q3
            exact absurd (nneg (by omega)) q3
          have eso : so2 = so := by
            have e := h1.2.2.2.2.2.1
            rw [q4, h2.2.2.2.2.2.1] at e
            have e3 := (m2lt h2.1).2.2.2
            rw [e, (m2lt h1.1).2.2.2] at e3
            exact (nI_inj (by have := h1.1; omega) (by have := h2.1; omega) e3).symm
          subst eso
          have r1 := h1.2.1
          have r2 := h2.2.1
          rw [h1.2.2.2.2.2.2.1, h2.2.2.2.2.2.2.1]
          have no1 : ∀ {P : Prop}, (P → ∃ i c, i + c ≤ n ∧ x2 = nI i ∧ x5 = nI c) → ¬ P → True := fun _ _ => trivial
          refine ⟨fun a => k4 so2 n m h1 h2 (Or.inl (fun q => (part_iff r1).mpr q |>.2.1 a)), fun a => ⟨fun b => k4 so2 n m h1 h2 (Or.inl (fun q => (part_iff r1).mpr q |>.1 b)), fun b => ⟨fun c => k4 so2 n m h1 h2 (Or.inr (fun q => (part_iff r2).mpr q |>.1 c)), fun c => ⟨z, fun e => ?_, fun e => ⟨z2, fun f => ?_, fun f => ?_⟩⟩⟩⟩⟩
          · refine k4 so2 n m h1 h2 (Or.inl (fun q => ?_))
            have := (part_iff r1).mpr q
            exact (part_m r1 b a).mpr this.2.2 e
          · obtain ⟨i, c1, hic, rfl, rfl⟩ := (part_iff r1).mp ⟨b, a, (part_m r1 b a).mp e⟩
            obtain ⟨j, c2, hjc, rfl, e5⟩ := (part_iff r2).mp ⟨c, a, (part_m r2 c a).mp (by grind)⟩
            have : c1 = c2 := nI_inj (by omega) (by omega) e5
            subst this
            exact k5 so2 n m i j c1 h1 h2 hic hjc rfl rfl rfl
          · refine k4 so2 n m h1 h2 (Or.inr (fun q => ?_))
            have := (part_iff r2).mpr q
            have h3 := (part_m r2 c a).mpr this.2.2
            exact f (by grind)
        · refine k3 q1 q2 ?_
          rintro ⟨so, n, m, h1, h2⟩
          exact q4 (h1.2.2.2.2.2.1.trans h2.2.2.2.2.2.1.symm)
      have hs3 := S1_cases hnb (hS s hs)
      have ht3 := S1_cases hnb (hS t ht)
      rcases hs3 with ⟨e1, e2, e3⟩ | ⟨⟨b, hb, e1⟩, e2⟩ | ⟨so, n, h1⟩
      · rw [e2, e3]
        refine ⟨fun _ => refM _ (fun _ => hk _ _ old) (fun _ => hk _ _ old) (fun q => absurd e1 q) (fun so n m h => absurd ⟨e2, e3⟩ (row_ne h)) (fun so n m i j c h => absurd ⟨e2, e3⟩ (row_ne h)), fun q => absurd ⟨rfl, rfl⟩ q⟩
      · have e1n : ¬ ar σ 81 s = -1 := by rw [e1]; exact neg1_ne (by omega)
        have nrow : ∀ so n, ¬ RowS σ s so n := by
          intro so n h
          exact e2 h.2.2.1
        refine ⟨fun q => absurd q.1 e2, fun _ => ⟨fun w => ?_, fun w => ?_⟩⟩
        · rcases ht3 with ⟨f1, -⟩ | ⟨-, f2⟩ | ⟨so, m, h2⟩
          · exact refM _ (fun _ => hk _ _ old) (fun _ => hk _ _ old) (fun _ q => absurd f1 q) (fun so n m h => absurd h (nrow so n)) (fun so n m i j c h => absurd h (nrow so n))
          · exact absurd w.1 f2
          · exact absurd w (row_ne h2)
        · have f1 : ¬ ar σ 81 t = -1 := by
            intro q
            rcases ht3 with ⟨-, f2⟩ | ⟨⟨b, hb, f2⟩, -⟩ | ⟨so, m, h2⟩
            · exact w f2
            · exact neg1_ne (by omega) (f2.symm.trans q)
            · exact (m2lt h2.1).2.1 (h2.2.2.2.2.2.1.symm.trans q)
          refine c_rowRefusal (by omega) hs hnb (hS s hs) (fun q => absurd q e1n) (fun _ _ _ => ⟨fun _ => ?_, fun q => absurd q (by decide)⟩) (fun so n h => absurd h (nrow so n))
          exact refM _ (fun q => absurd q e1n) (fun q => absurd q f1) (fun _ _ _ => hk _ _ old) (fun so n m h => absurd h (nrow so n)) (fun so n m i j c h => absurd h (nrow so n))
      · have e1n : ¬ ar σ 81 s = -1 := by rw [h1.2.2.2.2.2.1]; exact (m2lt h1.1).2.1
        refine ⟨fun q => absurd q (row_ne h1), fun _ => ⟨fun w => ?_, fun w => ?_⟩⟩
        · rcases ht3 with ⟨f1, -⟩ | ⟨-, f2⟩ | ⟨so, m, h2⟩
          · have nrow : ∀ so n, ¬ RowS σ t so n := fun so n h => (m2lt h.1).2.1 (h.2.2.2.2.2.1.symm.trans f1)
            exact refM _ (fun q => absurd q e1n) (fun _ => hk _ _ old) (fun _ q => absurd f1 q) (fun so n m _ h => absurd h (nrow so m)) (fun so n m i j c _ h => absurd h (nrow so m))
          · exact absurd w.1 f2
          · exact absurd w (row_ne h2)
        · have rowonly : ∀ so' n', RowS σ s so' n' → so' = so ∧ n' = n := by
            intro so' n' h
            exact ⟨nI_inj (by have := h.1; omega) (by have := h1.1; omega) (h.2.2.2.1.symm.trans h1.2.2.2.1), nI_inj (by have := h.2.1; omega) (by have := h1.2.1; omega) (h.2.2.2.2.1.symm.trans h1.2.2.2.2.1)⟩
          refine c_rowRefusal (by omega) hs hnb (hS s hs) (fun q => absurd q e1n) (fun b hb q => ?_) (fun so' n' h => ⟨fun q => absurd rfl q, fun _ => ?_⟩)
          · exfalso
            have m := (m2lt h1.1).1
            rw [h1.2.2.2.2.2.1.symm.trans q] at m
            exact nI_pos (by omega) m
          · refine c_rowRefusal (by omega) ht hnb (hS t ht) (fun q => ?_) (fun b hb q => ⟨fun _ => ?_, fun q => absurd q (by decide)⟩) (fun so2 m h2 => ⟨fun q => absurd rfl q, fun _ => ?_⟩)
            · exfalso
              rcases ht3 with ⟨-, f2⟩ | ⟨⟨b, hb, f2⟩, -⟩ | ⟨so, m, h2⟩
              · exact w f2
              · exact neg1_ne (by omega) (f2.symm.trans q)
              · exact (m2lt h2.1).2.1 (h2.2.2.2.2.2.1.symm.trans q)
            · have nrow : ∀ so n, ¬ RowS σ t so n := by
                intro so n h
                have m := (m2lt h.1).1
                rw [h.2.2.2.2.2.1.symm.trans q] at m
                exact nI_pos (by omega) m
              exact refM _ (fun q => absurd q e1n) (fun e => absurd (q.symm.trans e) (neg1_ne (by omega))) (fun _ _ _ => hk _ _ old) (fun so n m _ h => absurd h (nrow so m)) (fun so n m i j c _ h => absurd h (nrow so m))
            · have t1n : ¬ ar σ 81 t = -1 := by rw [h2.2.2.2.2.2.1]; exact (m2lt h2.1).2.1
              have rowonly2 : ∀ so' n', RowS σ t so' n' → so' = so2 ∧ n' = m := by
                intro so' n' h
                exact ⟨nI_inj (by have := h.1; omega) (by have := h2.1; omega) (h.2.2.2.1.symm.trans h2.2.2.2.1), nI_inj (by have := h.2.1; omega) (by have := h2.2.1; omega) (h.2.2.2.2.1.symm.trans h2.2.2.2.2.1)⟩
              have r1 := h1.2.1
              have r2 := h2.2.1
              rw [h1.2.2.2.1, h2.2.2.2.1, h1.2.2.2.2.1, h2.2.2.2.2.1]
              refine ⟨fun eso => ⟨fun p1 => ⟨fun p2 => ?_, fun p2 => ?_⟩, fun p1 => ?_⟩, fun eso => ?_⟩
              · obtain ⟨i, c, hic, rfl, rfl⟩ := (part_iff r1).mp p1
                obtain ⟨j, c2, hjc, rfl, e5⟩ := (part_iff r2).mp p2
                have : c = c2 := nI_inj (by omega) (by omega) e5
                subst this
                have so12 : so = so2 := nI_inj (by have := h1.1; omega) (by have := h2.1; omega) eso
                subst so12
                have cli : (nI i).toNatClampNeg = i := nI_clamp (by omega)
                have clj : (nI j).toNatClampNeg = j := nI_clamp (by omega)
                have clc : (nI c).toNatClampNeg = c := nI_clamp (by omega)
                rw [cli, clj, clc]
                refine ⟨p1.1, p2.1, p1.2.1, by omega, by omega, ?_⟩
                have tR : ∀ r, rg (sC σ (44 + 2 * s) i (44 + 2 * t) j c) r = rg σ r := fun _ => rfl
                have tA : ar (sC σ (44 + 2 * s) i (44 + 2 * t) j c) = ar σ := rfl
                have tL : ∀ a, a ≠ 44 + 2 * t → lr (sC σ (44 + 2 * s) i (44 + 2 * t) j c) a = lr σ a := by
                  intro a ha
                  funext q
                  rw [lr_sC, if_neg (fun w => ha w.1)]
                have tT : ∀ q, lr (sC σ (44 + 2 * s) i (44 + 2 * t) j c) (44 + 2 * t) q = if j ≤ q ∧ q < j + c then lr σ (44 + 2 * s) (i + (q - j)) else lr σ (44 + 2 * t) q := by
                  intro q
                  rw [lr_sC]
                  by_cases e : j ≤ q ∧ q < j + c
                  · rw [if_pos ⟨rfl, e⟩, if_pos e]
                  · rw [if_neg (fun w => e w.2), if_neg e]
                generalize (sC σ (44 + 2 * s) i (44 + 2 * t) j c) = τ at *
                refine b_X12_shift_0 (by omega) ?_
                have m1 := m2lt h1.1
                rw [cl, cl2, tA, h1.2.2.2.2.2.1, h2.2.2.2.2.2.1, h1.2.2.2.2.2.2.1, h2.2.2.2.2.2.2.1]
                refine ⟨fun _ => ⟨fun _ => ⟨z, fun q => absurd q m1.2.1, fun _ => ⟨z2, fun _ => ⟨z, fun q => absurd q m1.2.2.1, fun _ => ⟨z, z2, fun _ => ⟨fun q => absurd q p1.2.1, fun _ => ⟨fun q => absurd q p1.1, fun _ => ⟨fun q => absurd q p2.1, fun _ => ⟨z, fun q => absurd q ((part_m r1 p1.1 p1.2.1).mpr p1.2.2), fun _ => ⟨z2, fun _ => ?_, fun q => absurd ?_ q⟩⟩⟩⟩⟩, fun q => absurd rfl q⟩⟩, fun q => absurd q m1.2.1⟩⟩, fun q => absurd ht5 q⟩, fun q => absurd hx q⟩
                · refine c_shM hs ht (by omega) (by omega) (fun υ b1 b2 b3 b4 => hk _ _ (R_row hRR ht (so := so) (m := m) ?_ (fun r _ => (b1 r).trans (tR r)) (fun a _ _ => by rw [b2, tA]) (fun a q1 q2 q3 => ?_) (fun t' ht' => by rw [b2, tA]; exact ⟨rfl, rfl⟩) (fun t' q ht' hq => ?_)))
                  · refine ⟨h2.1, r2, (b1 _).trans ((tR _).trans h2.2.2.1), (b1 _).trans ((tR _).trans h2.2.2.2.1), (b1 _).trans ((tR _).trans h2.2.2.2.2.1), ?_, ?_, fun q hq => ?_⟩
                    · rw [b2, tA]
                      exact h2.2.2.2.2.2.1
                    · rw [b2, tA]
                      exact h2.2.2.2.2.2.2.1
                    · rw [b4, b3 (44 + 2 * t) (by omega) (by omega), tT, tL 83 (by omega)]
                      by_cases e : j ≤ q ∧ q < j + c
                      · rw [if_pos (by omega), if_pos e, ← h1.2.2.2.2.2.2.2 (i + (q - j)) (by omega)]
                        congr 1
                        omega
                      · rw [if_neg (by omega), if_neg e]
                        exact h2.2.2.2.2.2.2.2 q hq
                  · rw [b3 a q2 q3, tL a q1]
                  · rw [b4, if_neg (by omega), tL 83 (by omega)]
                · have h3 := (part_m r2 p2.1 p2.2.1).mpr p2.2.2
                  grind
              · refine refM _ (fun q => absurd q e1n) (fun q => absurd q t1n) (fun _ _ no => absurd ⟨so, n, m, h1, by rw [nI_inj (by have := h1.1; omega) (by have := h2.1; omega) eso]; exact h2⟩ no) (fun _ _ _ _ _ _ => hk _ _ old) (fun so' n' m' i j c a1 a2 a3 a4 a5 a6 a7 => ?_)
                obtain ⟨-, rfl⟩ := rowonly2 _ _ a2
                exact absurd ((part_iff r2).mpr ⟨j, c, a4, a6, a7⟩) p2
              · refine refM _ (fun q => absurd q e1n) (fun q => absurd q t1n) (fun _ _ no => absurd ⟨so, n, m, h1, by rw [nI_inj (by have := h1.1; omega) (by have := h2.1; omega) eso]; exact h2⟩ no) (fun _ _ _ _ _ _ => hk _ _ old) (fun so' n' m' i j c a1 a2 a3 a4 a5 a6 a7 => ?_)
                obtain ⟨-, rfl⟩ := rowonly _ _ a1
                exact absurd ((part_iff r1).mpr ⟨i, c, a3, a5, a7⟩) p1
              · refine refM _ (fun q => absurd q e1n) (fun q => absurd q t1n) (fun _ _ _ => hk _ _ old) (fun so' n' m' a1 a2 _ => ?_) (fun so' n' m' i j c a1 a2 _ _ _ _ _ => ?_)
                · exact absurd (by rw [← (rowonly _ _ a1).1, (rowonly2 _ _ a2).1]) eso
                · exact absurd (by rw [← (rowonly _ _ a1).1, (rowonly2 _ _ a2).1]) eso
    · refine b_X11_shift_0 (by omega) ⟨fun _ => ⟨fun q => absurd (c6.mp q) ht, fun _ => ?_⟩, fun _ => ?_⟩
      · exact b_X12_shift_0 (by omega) ⟨fun _ => ⟨fun q => absurd (c5.mp q) ht, fun _ => hk _ _ old⟩, fun _ => hk _ _ old⟩
      · exact b_X12_shift_0 (by omega) ⟨fun _ => ⟨fun q => absurd (c5.mp q) ht, fun _ => hk _ _ old⟩, fun _ => hk _ _ old⟩
  · refine b_X11_shift_0 (by omega) ⟨fun q => absurd (c6.mp q) hs, fun _ => ?_⟩
    exact b_X12_shift_0 (by omega) ⟨fun q => absurd (c5.mp q) hs, fun _ => hk _ _ old⟩
end ShiftJ
