/-! people out of a row -/
theorem cm_lt (x y : Int64) : (lg_cmp x y < 0) ↔ x < y := by
  unfold lg_cmp
  by_cases h : x > y
  · rw [if_pos h]
    exact ⟨fun q => absurd q (by decide), fun q => by grind⟩
  · rw [if_neg h]
    by_cases h2 : x = y
    · rw [if_pos h2]
      exact ⟨fun q => absurd q (by decide), fun q => by grind⟩
    · rw [if_neg h2]
      exact ⟨fun _ => by grind, fun _ => by decide⟩
theorem cm_ge (x y : Int64) : (0 ≤ lg_cmp x y) ↔ y ≤ x := by
  unfold lg_cmp
  by_cases h : x > y
  · rw [if_pos h]
    exact ⟨fun _ => by grind, fun _ => by decide⟩
  · rw [if_neg h]
    by_cases h2 : x = y
    · rw [if_pos h2]
      exact ⟨fun _ => by grind, fun _ => by decide⟩
    · rw [if_neg h2]
      exact ⟨fun q => absurd q (by decide), fun q => by grind⟩
theorem L64 {n : Nat} (h : n < 2 ^ 31) : ((nI n).toInt64).toInt = n := by
  rw [Int32.toInt_toInt64, nI_toInt h]
theorem L64_add {i j : Nat} (hi : i < 2 ^ 31) (hj : j < 2 ^ 31) : ((nI i).toInt64 + (nI j).toInt64).toInt = (i : Int) + j := by
  rw [Int64.toInt_add, L64 hi, L64 hj]
  exact Int.bmod_eq_of_le (by omega) (by omega)
theorem L64_add1 {i j : Nat} (hi : i < 2 ^ 31) (hj : j < 2 ^ 31) : ((nI i).toInt64 + (nI j).toInt64 + 1).toInt = (i : Int) + j + 1 := by
  rw [Int64.toInt_add, L64_add hi hj]
  exact Int.bmod_eq_of_le (by show _ ≤ (i : Int) + j + 1; omega) (by show (i : Int) + j + 1 < _; omega)
theorem L64_i {i j : Nat} (h : i + j < 2 ^ 31) : ((nI i).toInt64 + (nI j).toInt64).toInt32 = nI (i + j) := by
  apply Int32.toInt_inj.mp
  rw [Int64.toInt_toInt32, L64_add (by omega) (by omega), nI_toInt h]
  exact Int.bmod_eq_of_le (by omega) (by omega)
theorem L64_lt0 {i j : Nat} (hi : i < 2 ^ 31) (hj : j < 2 ^ 31) : ¬ lg_cmp ((nI i).toInt64 + (nI j).toInt64) 0 < 0 := by
  rw [cm_lt, Int64.lt_iff_toInt_lt, L64_add hi hj]
  show ¬ (i : Int) + j < 0
  omega
theorem L64_ge {i j m : Nat} (hi : i < 2 ^ 31) (hj : j < 2 ^ 31) (hm : m < 2 ^ 31) : 0 ≤ lg_cmp ((nI i).toInt64 + (nI j).toInt64 + 1) ((nI m).toInt64) ↔ m ≤ i + j + 1 := by
  rw [cm_ge, Int64.le_iff_toInt_le, L64_add1 hi hj, L64 hm]
  omega
theorem two_nI (j : Nat) : (2 : Int32) * nI j = nI (2 * j) := by rw [show (2 : Int32) = nI 2 from rfl, pk_mul]
theorem left_lt {m i j : Nat} (hm : m ≤ 60) (hi : i < 2 ^ 31) (hj : j ≤ 7) : nI m - nI i < 2 * nI j + 2 ↔ ¬ i + 2 * j + 2 ≤ m := by
  rw [two_nI, show (2 : Int32) = nI 2 from rfl, nI_add, Int32.lt_iff_toInt_lt, Int32.toInt_sub, nI_toInt (by omega), nI_toInt hi, nI_toInt (by omega), i32_bmod (by omega) (by omega)]
  omega
theorem addC0 {σ τ : am_S} {n m : Nat} {f : Nat → Int32} {r : Nat → Nat} (h : AddC σ n m f r τ) : rg τ 66 = nI (n + m) := h.2.1
section People
variable {l : Launch} {g : am_G} {d : Nat} {σ : am_S}
/-- the t-th of a row can come -/
def pGood (σ : am_S) (s i m n nr t : Nat) : Prop := i + 2 * t + 2 ≤ m ∧ n + t < 7 ∧ okV 0 (lr σ (44 + 2 * s) (i + 2 * t)).toInt32 ∧ ∃ r, r < nr ∧ (lr σ (44 + 2 * s) (i + 2 * t + 1)).toInt32 = nI r
def pF (σ : am_S) (s i t : Nat) : Int32 := (lr σ (44 + 2 * s) (i + 2 * t)).toInt32
def pR (σ : am_S) (s i t : Nat) : Nat := ((lr σ (44 + 2 * s) (i + 2 * t + 1)).toInt32).toNatClampNeg
theorem c_peC {s i m n nr c : Nat} {k : Int32 → am_S → Prop} (hd : 30 ≤ d) (hs : s < 6) (hm : m ≤ 60) (hi : i < 2 ^ 31) (hc : c ≤ 7) (e2 : rg σ (64 * (43 + 2 * s) + 2) = nI m) (e64 : rg σ 64 = nI nr) (hnr : nr ≤ 4) (hn : n ≤ 7)
    (H : ∀ j τ, AddC σ n j (pF σ s i) (pR σ s i) τ → j ≤ c → (∀ t, t < j → pGood σ s i m n nr t) → (j = c ∨ ¬ pGood σ s i m n nr j) → k (nI j) τ) : ∀ (q j : Nat) (τ : am_S), j + q = c → AddC σ n j (pF σ s i) (pR σ s i) τ → (∀ t, t < j → pGood σ s i m n nr t) → JI l g M_X11_people d 58 [(0, .ref 0), (1, .int (nI s)), (2, .int (nI i)), (3, .int (nI c)), (4, .ref (43 + 2 * s)), (5, .int (nI j))] [] τ k
  | 0, j, τ, ej, hA, hg => by
    refine b_X11_people_58 hs (by omega) ⟨fun _ => H j τ hA (by omega) hg (Or.inl (by omega)), fun q => absurd ((len (by omega) (by omega)).mpr (by omega)) q⟩
  | q + 1, j, τ, ej, hA, hg => by
    have fr := hA.1
    have g2 : rg τ (64 * (43 + 2 * s) + 2) = nI m := (fr.1 _ (by simp; omega)).trans e2
    have gl : lr τ (44 + 2 * s) = lr σ (44 + 2 * s) := (fr.2 _ (by simp; omega)).2
    have hj : j < c := by omega
    refine b_X11_people_58 hs (by omega) ?_
    rw [g2, left_lt hm hi (by omega), hA.2.1]
    refine ⟨fun q => absurd ((len (by omega) (by omega)).mp q) (by omega), fun _ => ⟨fun w => H j τ hA (by omega) hg (Or.inr (fun z => w z.1)), fun w => ?_⟩⟩
    have w := Classical.not_not.mp w
    refine ⟨fun v => H j τ hA (by omega) hg (Or.inr (fun z => ?_)), fun v => ?_⟩
    · have := (len (a := 7) (b := n + j) (by omega) (by omega)).mp v
      have := z.2.1
      omega
    · have v : n + j < 7 := by
        rcases Nat.lt_or_ge (n + j) 7 with h | h
        · exact h
        · exact absurd ((len (a := 7) (b := n + j) (by omega) (by omega)).mpr h) v
      rw [two_nI, nI_add, nI_1]
      refine b_X8_at_0 hs ?_
      rw [g2, gl, nI_clamp (by omega)]
      refine ⟨fun u => absurd u (nI_pos (by omega)), fun _ => ⟨fun u => absurd ((len (by omega) (by omega)).mp u) (by omega), fun _ => ⟨vp_in_nI (by omega) (by omega), ?_⟩⟩⟩
      refine b_X8_at_0 hs ?_
      rw [g2, gl, nI_clamp (by omega)]
      refine ⟨fun u => absurd u (nI_pos (by omega)), fun _ => ⟨fun u => absurd ((len (by omega) (by omega)).mp u) (by omega), fun _ => ⟨vp_in_nI (by omega) (by omega), ?_⟩⟩⟩
      refine c_canCome (by omega) ((fr.R 64 rfl).trans e64) hnr (fun o1 o2 => ⟨fun _ => ?_, fun u => absurd u (by decide)⟩) (fun o => ⟨fun u => absurd rfl u, fun _ => H j τ hA (by omega) hg (Or.inr (fun z => o ⟨z.2.2.1, z.2.2.2⟩))⟩)
      have good : pGood σ s i m n nr j := ⟨w, v, o1, o2⟩
      have er : (lr σ (44 + 2 * s) (i + 2 * j + 1)).toInt32 = nI (pR σ s i j) := by
        obtain ⟨r, hr, e⟩ := o2
        unfold pR
        rw [e, nI_clamp (by omega)]
      refine b_X2_addPerson_0 ?_
      rw [hA.2.1, nI_clamp (by omega), nI_1, er]
      have z : vp_in (nI (n + j)) 7 := vp_in_nI (by omega) (by omega)
      refine ⟨fun _ => ⟨z, z, ?_⟩, fun u => absurd ((ltn (b := 7) (by omega) (by omega)).mpr v) u⟩
      rw [nI_1]
      exact c_peC hd hs hm hi hc e2 e64 hnr hn H q (j + 1) _ (by omega) hA.succ (fun t ht => by
        rcases Nat.lt_or_ge t j with h | h
        · exact hg t h
        · rw [show t = j by omega]
          exact good)
theorem c_peM {σ0 : am_S} {s i m n nr c cnt : Nat} {pl : Nat → Nat} {k : Int32 → am_S → Prop} (hd : 30 ≤ d) (hs : s < 6) (hm : m ≤ 60) (hi : i < 2 ^ 31) (hc : c ≤ 7) (e2 : ar σ 82 s = nI m) (e21 : rg σ 3521 = nI nr) (hnr : nr ≤ 4) (hn : n ≤ 7) (hl : ∀ j, j < n → pl j < 4) (el : ∀ j, j < m → lr σ 83 (60 * s + j) = lr σ0 (44 + 2 * s) j) (hcnt : cnt ≤ c)
    (hg : ∀ t, t < cnt → pGood σ0 s i m n nr t) (hstop : cnt = c ∨ ¬ pGood σ0 s i m n nr cnt) (H : ∀ τ, AddM σ pl n cnt (pF σ0 s i) (pR σ0 s i) τ → k (nI cnt) τ) : ∀ (q j : Nat) (τ : am_S), j + q = cnt → AddM σ pl n j (pF σ0 s i) (pR σ0 s i) τ → JI l g M_X12_people d 58 [(0, .ref 55), (1, .int (nI s)), (2, .int (nI i)), (3, .int (nI c)), (4, .int (nI j))] [] τ k
  | 0, j, τ, ej, hA => by
    have ej : j = cnt := by omega
    subst ej
    have fr := hA.1
    refine b_X12_people_58 (by omega) ?_
    have cs : (nI s).toNatClampNeg = s := nI_clamp (by omega)
    have zs : vp_in (nI s) 6 := vp_in_nI (by omega) (by omega)
    rw [two_nI, cs, fr.A 82 rfl, e2, L64_ge hi (by omega) (by omega), hA.2.1]
    refine ⟨fun u => ?_, fun u => ⟨fun v => absurd v (L64_lt0 hi (by omega)), fun _ => ⟨zs, fun _ => H τ hA, fun v => ⟨fun w => ?_, fun _ => H τ hA⟩⟩⟩⟩
    · have : j = c := by have := (len (by omega) (by omega)).mp u; omega
      rw [← this]
      exact H τ hA
    · have hne : ¬ j = c := fun e => u (by rw [e]; exact (len (by omega) (by omega)).mpr (Nat.le_refl _))
      have bad := hstop.resolve_left hne
      have h7 : n + j < 7 := by
        have hh : n + j ≤ 7 := by
          rcases j with _ | j
          · omega
          · have := (hg j (by omega)).2.1
            omega
        rcases Nat.lt_or_ge (n + j) 7 with h | h
        · exact h
        · exact absurd (show nI (n + j) = 7 by rw [show n + j = 7 by omega]; rfl) w
      have e1 : 60 * nI s + ((nI i).toInt64 + (nI (2 * j)).toInt64).toInt32 = nI (60 * s + (i + 2 * j)) := by
        rw [L64_i (by omega), show (60 : Int32) = nI 60 from rfl, pk_mul, nI_add]
      rw [e1, nI_1, nI_clamp (by omega), nI_clamp (by omega), fr.L 83 rfl, el (i + 2 * j) (by omega), show 60 * s + (i + 2 * j) + 1 = 60 * s + (i + 2 * j + 1) by omega, el (i + 2 * j + 1) (by omega), fr.R 3521 rfl, e21]
      refine ⟨vp_in_nI (by omega) (by omega), fun o1 => ⟨vp_in_nI (by omega) (by omega), fun o2 => ?_, fun _ => H τ hA⟩, fun _ => H τ hA⟩
      exact absurd ⟨by omega, h7, okV0_iff.mp o1, (cB (by omega)).mp o2⟩ bad
  | q + 1, j, τ, ej, hA => by
    have fr := hA.1
    obtain ⟨g1, g2, g3, g4⟩ := hg j (by omega)
    have cs : (nI s).toNatClampNeg = s := nI_clamp (by omega)
    have zs : vp_in (nI s) 6 := vp_in_nI (by omega) (by omega)
    have e1 : 60 * nI s + ((nI i).toInt64 + (nI (2 * j)).toInt64).toInt32 = nI (60 * s + (i + 2 * j)) := by
      rw [L64_i (by omega), show (60 : Int32) = nI 60 from rfl, pk_mul, nI_add]
    have er : (lr σ0 (44 + 2 * s) (i + 2 * j + 1)).toInt32 = nI (pR σ0 s i j) := by
      obtain ⟨r, hr, e⟩ := g4
      unfold pR
      rw [e, nI_clamp (by omega)]
    refine b_X12_people_58 (by omega) ?_
    rw [two_nI, cs, fr.A 82 rfl, e2, L64_ge hi (by omega) (by omega), hA.2.1, e1, nI_1, nI_clamp (by omega), nI_clamp (by omega), fr.L 83 rfl, el (i + 2 * j) (by omega), show 60 * s + (i + 2 * j) + 1 = 60 * s + (i + 2 * j + 1) by omega, el (i + 2 * j + 1) (by omega), fr.R 3521 rfl, e21]
    refine ⟨fun u => absurd ((len (by omega) (by omega)).mp u) (by omega), fun _ => ⟨fun v => absurd v (L64_lt0 hi (by omega)), fun _ => ⟨zs, fun v => absurd v (by omega), fun _ => ⟨fun _ => ⟨vp_in_nI (by omega) (by omega), fun _ => ⟨vp_in_nI (by omega) (by omega), fun _ => ⟨vp_in_nI (by omega) (by omega), vp_in_nI (by omega) (by omega), ?_⟩, fun u => absurd ((cB (by omega)).mpr g4) u⟩, fun u => absurd (okV0_iff.mpr g3) u⟩, fun u => absurd (nI_inj (b := 7) (by omega) (by omega) u) (by omega)⟩⟩⟩⟩
    refine b_X12_addPerson_0 (by omega) ?_
    have z : vp_in (nI (n + j)) 7 := vp_in_nI (by omega) (by omega)
    rw [hA.2.1, nI_clamp (by omega), nI_1, er]
    refine ⟨z, z, ?_⟩
    rw [nI_1]
    refine c_peM hd hs hm hi hc e2 e21 hnr hn hl el hcnt hg hstop H q (j + 1) _ (by omega) (hA.succ g2 hl (fun t ht => ?_))
    obtain ⟨r, hr, e⟩ := (hg t (by omega)).2.2.2
    unfold pR
    rw [e, nI_clamp (by omega)]
    omega
theorem c_bytes {s : Nat} {k : Int32 → am_S → Prop} (hd : 2 ≤ d) (hs : s < 6) {nb : Nat} (hnb : nb ≤ 50) (h : R_S1 σ nb s) (h1 : ar σ 81 s = -1 → k (-11) σ) (h2 : ∀ b, b < nb → ar σ 81 s = nI b → k (-12) σ) (h3 : ∀ so n, so ≠ 0 → RowS σ s so n → k (-12) σ) (h4 : ∀ n, RowS σ s 0 n → k 0 σ) : CI l g M_X8_bytesRefusal d [.ref (43 + 2 * s)] σ k := by
  refine b_X8_bytesRefusal_0 hs (by omega) (c_rowRefusal (by omega) hs hnb h (fun e => ⟨fun _ => h1 e, fun q => absurd q (by decide)⟩) (fun b hb e => ⟨fun _ => h2 b hb e, fun q => absurd q (by decide)⟩) (fun so n hr => ⟨fun q => absurd rfl q, fun _ => ?_⟩))
  rw [hr.2.2.2.1]
  refine ⟨fun e => ?_, fun e => h3 so n (fun q => e (by rw [q]; rfl)) hr⟩
  have : so = 0 := nI_inj (b := 0) (by have := hr.1; omega) (by omega) e
  subst this
  exact h4 n hr
theorem P_people (hd : 300 ≤ d) (hR : R σ) (x1 : Int32) (x2 : Int32) (x3 : Int32) : PP l g d M_X11_people M_X12_people [.int x1, .int x2, .int x3] σ := by
  intro K hk
  have old := hR
  obtain ⟨nr, nd, n, pl, nt, dn, un, nb, nq, hRR⟩ := hR
  obtain ⟨hH, hT, hD, hU, hI, hB, hS, hL⟩ := id hRR
  obtain ⟨⟨H1, H2, H3⟩, ⟨e64, e3521⟩, h65, ⟨e66, e3526⟩, e3530, h68, hdo, hpe, hgr, e3529⟩ := id hH
  have hnb := hB.1.1
  have hl : ∀ j, j < n → pl j < 4 := fun j hj => by have := (hpe j hj).1; omega
  have k1 : (¬ x1 < 0 ∧ ¬ 5 < x1) ↔ ∃ q, q < 6 ∧ x1 = nI q := cC (n := 6) 5 rfl (by omega)
  have k1' : (¬ x1 < 0 ∧ ¬ 6 ≤ x1) ↔ ∃ q, q < 6 ∧ x1 = nI q := cD (n := 6) 6 rfl (by omega)
  have k3 : (¬ x3 < 1 ∧ ¬ 7 < x3) → ∃ c, 1 ≤ c ∧ c ≤ 7 ∧ x3 = nI c := by
    intro h
    obtain ⟨q, hq, e⟩ := (cC (n := 8) (x := x3) 7 rfl (by omega)).mp ⟨by grind, h.2⟩
    refine ⟨q, ?_, by omega, e⟩
    rcases q with _ | q
    · exact absurd (by rw [e]; decide) h.1
    · omega
  refine b_X11_people_0 (by omega) ⟨fun a => ⟨fun b => ?_, fun b => ⟨fun c => ?_, fun c => ?_⟩⟩, fun a => ?_⟩
  · refine b_X12_people_0 (by omega) ⟨fun _ => ⟨fun q => absurd b q.1, fun _ => hk _ _ old⟩, fun _ => hk _ _ old⟩
  · obtain ⟨s, hs, es⟩ := k1'.mp a
    have hx1 := k1.mpr ⟨s, hs, es⟩
    have hx3 : ¬ x3 < 1 ∧ ¬ 7 < x3 := ⟨b, by grind⟩
    obtain ⟨m3, hm3, hm3', e3⟩ := k3 hx3
    subst es
    subst e3
    have cl : (nI s).toNatClampNeg = s := nI_clamp (by omega)
    have z : vp_in (nI s) 6 := vp_in_nI (by omega) (by omega)
    rw [cl]
    have M : ∀ (υ : am_S) (K2 : Int32 → am_S → Prop), ar υ 81 = ar σ 81 → (ar σ 81 s = -1 → K2 0 υ) → (¬ ar σ 81 s = -1 → ¬ ar σ 81 s = -2 → K2 (-12) υ) → (ar σ 81 s = -2 → JI l g M_X12_people d 58 [(0, .ref 55), (1, .int (nI s)), (2, .int x2), (3, .int (nI m3)), (4, .int 0)] [] υ K2) → CI l g M_X12_people d [.ref 55, .int (nI s), .int x2, .int (nI m3)] υ K2 := by
      intro υ K2 eu h0 h1 h2
      refine b_X12_people_0 (by omega) ?_
      rw [cl, eu]
      refine ⟨fun _ => ⟨fun _ => ⟨z, fun c0 => ⟨z, fun q => absurd c0 q, fun _ => h0 c0⟩, fun c0 => ⟨z, fun c2 => ⟨z, fun _ => h2 c2, fun q => absurd q c0⟩, fun c2 => h1 c0 c2⟩⟩, fun q => absurd hx3 q⟩, fun q => absurd hx1 q⟩
    refine ⟨z, ?_⟩
    rcases S1_cases hnb (hS s hs) with ⟨e1, e2, e3⟩ | ⟨⟨q, hq, eq⟩, ne⟩ | ⟨so, m, hrow⟩
    · exact ⟨fun _ => M σ _ rfl (fun _ => hk _ _ old) (fun w => absurd e1 w) (fun w => absurd (e1.symm.trans w) (by decide)), fun w => absurd ⟨e2, e3⟩ w⟩
    · refine ⟨fun w => absurd w.1 ne, fun _ => ?_⟩
      have n1 : ¬ ar σ 81 s = -1 := by rw [eq]; exact neg1_ne (by omega)
      have n2 : ¬ ar σ 81 s = -2 := by
        intro w
        have : ¬ nI q < 0 := nI_pos (by omega)
        rw [← eq, w] at this
        exact this (by decide)
      have fin : ∀ r3 : Int32, ¬ r3 = 0 → ((r3 = 0 → ((0 ≤ x2 → JI l g M_X11_people d 58 [(0, .ref 0), (1, .int (nI s)), (2, .int x2), (3, .int (nI m3)), (4, .ref (43 + 2 * s)), (5, .int 0)] [] σ (fun r1 σ1 => CI l g M_X12_people d [.ref 55, .int (nI s), .int x2, .int (nI m3)] σ1 (fun r2 σ2 => K r1 r2 σ2))) ∧ (¬ 0 ≤ x2 → CI l g M_X12_people d [.ref 55, .int (nI s), .int x2, .int (nI m3)] σ (fun r2 σ2 => K 0 r2 σ2)))) ∧ (¬ r3 = 0 → CI l g M_X12_people d [.ref 55, .int (nI s), .int x2, .int (nI m3)] σ (fun r2 σ2 => K (-12) r2 σ2))) := fun r3 h => ⟨fun w => absurd w h, fun _ => M σ _ rfl (fun w => absurd w n1) (fun _ _ => hk _ _ old) (fun w => absurd w n2)⟩
      exact c_bytes (by omega) hs hnb (hS s hs) (fun w => fin _ (by decide)) (fun _ _ _ => fin _ (by decide)) (fun _ _ _ _ => fin _ (by decide)) (fun n2 h => absurd (h.2.2.1) ne)
    · have n1 : ¬ ar σ 81 s = -1 := by rw [hrow.2.2.2.2.2.1]; exact (m2lt hrow.1).2.1
      refine ⟨fun w => absurd w (row_ne hrow), fun _ => ?_⟩
      refine c_bytes (by omega) hs hnb (hS s hs) (fun w => absurd w n1) (fun b hb w => ?_) (fun so2 m2 hne hr2 => ⟨fun w => absurd w (by decide), fun _ => M σ _ rfl (fun w => absurd w n1) (fun _ _ => hk _ _ old) (fun w => ?_)⟩) (fun m2 hr2 => ⟨fun _ => ?_, fun w => absurd rfl w⟩)
      · have := (m2lt hrow.1).1
        rw [← hrow.2.2.2.2.2.1, w] at this
        exact absurd this (nI_pos (by omega))
      · have h5 := hr2.1
        have := hr2.2.2.2.2.2.1.symm.trans w
        have h : nI so2 = nI 0 := by
          have h2 := (m2lt h5).2.2.2
          rw [this] at h2
          exact h2.symm
        exact absurd (nI_inj (by omega) (by omega) h) hne
      · have is2 : ar σ 81 s = -2 := hr2.2.2.2.2.2.1
        obtain ⟨-, hm, r0, r1, r2, r3, r4, r5⟩ := id hr2
        refine ⟨fun pos => ?_, fun npos => ?_⟩
        · have ex : ∃ i, i < 2 ^ 31 ∧ x2 = nI i := by
            refine ⟨x2.toNatClampNeg, ?_, ?_⟩
            · have := Int32.toInt_lt x2
              rw [← Int32.toNat_toInt]
              omega
            · apply Int32.toInt_inj.mp
              have h0 : 0 ≤ x2.toInt := by simpa using Int32.le_iff_toInt_le.mp pos
              have h1 := Int32.toInt_lt x2
              rw [nI_toInt (by rw [← Int32.toNat_toInt]; omega), ← Int32.toNat_toInt]
              omega
          obtain ⟨i, hi, ei⟩ := ex
          subst ei
          refine c_peC (c := m3) (by omega) hs hm hi hm3' r2 e64 H1 H3 (fun j τ hA hj hg hst => ?_) m3 0 σ (by omega) (AddC.zero e66) (fun t ht => absurd ht (by omega))
          have frC := hA.1
          refine M τ _ (frC.A 81 rfl) (fun w => absurd w n1) (fun _ w => absurd is2 w) (fun _ => ?_)
          refine c_peM (σ0 := σ) (pl := pl) (n := n) (cnt := j) (by omega) hs hm hi hm3' (by rw [frC.A 82 rfl]; exact r4) ((frC.R 3521 rfl).trans e3521) H1 H3 hl (fun t ht => by rw [frC.L 83 rfl]; exact r5 t ht) hj hg hst (fun υ hM => ?_) j 0 τ (by omega) (AddM.zero ((frC.R 3526 rfl).trans e3526) ((frC.R 3529 rfl).trans e3529))
          refine hk _ _ (R_add hRR hA hM (fun t ht => ?_) ?_)
          · obtain ⟨g1, g2, g3, r, hr, er⟩ := hg t ht
            refine ⟨okV_0 g3, ?_⟩
            unfold pR
            rw [er, nI_clamp (by omega)]
            exact hr
          · rcases j with _ | j
            · omega
            · have := (hg j (by omega)).2.1
              omega
        · refine M σ _ rfl (fun w => absurd w n1) (fun _ w => absurd is2 w) (fun _ => ?_)
          refine b_X12_people_58 (by omega) ⟨fun w => ?_, fun _ => ⟨fun _ => hk _ _ old, fun w => ?_⟩⟩
          · exact absurd w (fun w => absurd ((len (a := m3) (b := 0) (by omega) (by omega)).mp w) (by omega))
          · exfalso
            refine w ((cm_lt _ _).mpr ?_)
            rw [show (2 : Int32) * 0 = 0 from rfl, Int64.lt_iff_toInt_lt, Int64.toInt_add, Int32.toInt_toInt64]
            have h1 : x2.toInt < 0 := by
              have : x2 < 0 := by grind
              simpa using Int32.lt_iff_toInt_lt.mp this
            have h2 := Int32.le_toInt x2
            show (x2.toInt + 0).bmod (2 ^ 64) < 0
            rw [Int.bmod_eq_of_le (by omega) (by omega)]
            omega
  · refine b_X12_people_0 (by omega) ⟨fun _ => ⟨fun q => absurd q.2 (by grind), fun _ => hk _ _ old⟩, fun _ => hk _ _ old⟩
  · refine b_X12_people_0 (by omega) ⟨fun q => absurd (k1'.mpr (k1.mp q)) a, fun _ => hk _ _ old⟩
end People
