/-! of -/
section Of
variable {l : Launch} {g : am_G} {d : Nat} {σ : am_S}
def whoL (pl : Nat → Nat) (r : Int32) : Nat → Int32 → Nat → Int32
  | 0, a, _ => a
  | m + 1, a, j => whoL pl r m (if nI (pl j) = r then a ||| ((1 : Int32) <<< (nI j &&& 31)) else a) (j + 1)
theorem c_whoC {n : Nat} {pl : Nat → Nat} {r : Int32} {k : Int32 → am_S → Prop} (e66 : rg σ 66 = nI n) (hn : n ≤ 7) (hp : ∀ j, j < n → ar σ 7 j = nI (pl j)) : ∀ (m j : Nat) (a : Int32), j + m = n → k (whoL pl r m a j) σ → JI l g M_X2_whoIn d 4 [(0, .ref 1), (1, .int r), (2, .int a), (3, .int (nI j))] [] σ k
  | 0, j, a, e, H => by
    refine b_X2_whoIn_4 ?_
    rw [e66]
    exact ⟨fun _ => H, fun q => absurd ((len (by omega) (by omega)).mpr (by omega)) q⟩
  | m + 1, j, a, e, H => by
    refine b_X2_whoIn_4 ?_
    rw [e66, nI_clamp (by omega), hp j (by omega), nI_1]
    refine ⟨fun q => absurd ((len (by omega) (by omega)).mp q) (by omega), fun _ => ⟨vp_in_nI (by omega) (by omega), fun c => c_whoC e66 hn hp m (j + 1) a (by omega) ?_, fun c => c_whoC e66 hn hp m (j + 1) _ (by omega) ?_⟩⟩
    · rw [whoL, if_neg c] at H
      exact H
    · rw [whoL, if_pos c] at H
      exact H
theorem c_whoM {n : Nat} {pl : Nat → Nat} {r : Int32} {k : Int32 → am_S → Prop} (hd : 1 ≤ d) (e66 : rg σ 3526 = nI n) (hn : n ≤ 7) (h4 : ∀ j, j < n → pl j < 4) (e : rg σ 3529 = nI (enc pl n)) : ∀ (m j : Nat) (a : Int32), j + m = n → k (whoL pl r m a j) σ → JI l g M_X12_whoIn d 4 [(0, .ref 55), (1, .int r), (2, .int a), (3, .int (nI j))] [] σ k
  | 0, j, a, ee, H => by
    refine b_X12_whoIn_4 (by omega) ?_
    rw [e66]
    exact ⟨fun _ => H, fun q => absurd ((len (by omega) (by omega)).mpr (by omega)) q⟩
  | m + 1, j, a, ee, H => by
    refine b_X12_whoIn_4 (by omega) ?_
    rw [e66, e, room_enc (by omega) (by omega) h4, if_pos (by omega), nI_1]
    refine ⟨fun q => absurd ((len (by omega) (by omega)).mp q) (by omega), fun _ => ⟨fun c => c_whoM hd e66 hn h4 e m (j + 1) a (by omega) ?_, fun c => c_whoM hd e66 hn h4 e m (j + 1) _ (by omega) ?_⟩⟩
    · rw [whoL, if_neg c] at H
      exact H
    · rw [whoL, if_pos c] at H
      exact H
theorem neD {x : Int32} {a b : Nat} (ha : a < 100) (hb : b < 100) (hab : a ≠ b) (e : x = nI a) : ¬ x = nI b := by
  rw [e]
  exact fun q => hab (nI_inj (by omega) (by omega) q)
theorem P_of (hd : 300 ≤ d) (hR : R σ) (x1 : Int32) (x2 : Int32) : PP l g d M_X11_of M_X12_of [.int x1, .int x2] σ := by
  intro K hk
  have old := hR
  obtain ⟨nr, nd, n, pl, nt, dn, un, nb, nq, hH, hT, hD, hU, hI, hB, hS, hL⟩ := hR
  obtain ⟨⟨H1, H2, H3⟩, ⟨e64, e3521⟩, ⟨e65, e3522⟩, ⟨e66, e3526⟩, e3530, ⟨e3531, q68⟩, hdo, hpe, hgr, e3529⟩ := id hH
  have hl : ∀ j, j < n → pl j < 4 := fun j hj => by have := (hpe j hj).1; omega
  have low : ∀ m, m < 31 → 3 < m → ¬ (¬ nI m < 0 ∧ ¬ 3 < nI m) := fun m h1 h2 q => q.2 ((ltn (a := 3) (by omega) (by omega)).mpr h2)
  have ten : ∀ m, m < 31 → 11 < m → ¬ (¬ nI m < 10 ∧ ¬ 11 < nI m) := fun m h1 h2 q => q.2 ((ltn (a := 11) (by omega) (by omega)).mpr h2)
  -- what the reference answers, by cases
  have m10 : x2 = 10 → ∀ K2 : Int32 → am_S → Prop, (∀ j, j < nd → x1 = nI j → K2 (10 * ar σ 56 j + ar σ 57 j) σ) → ((¬ ∃ j, j < nd ∧ x1 = nI j) → K2 (-1) σ) → CI l g M_X12_of d [.ref 55, .int x1, .int x2] σ K2 := by
    intro e K2 h1 h0
    subst e
    refine b_X12_of_0 (by omega) ?_
    rw [e3522]
    refine ⟨fun q => absurd q (by decide), fun _ => ⟨fun _ => ⟨fun c => ⟨fun q => absurd rfl q, fun _ => ?_⟩, fun c => h0 (fun q => c ((cB (by omega)).mpr q))⟩, fun q => absurd (by decide) q⟩⟩
    obtain ⟨j, hj, e⟩ := (cB (by omega)).mp c
    subst e
    rw [nI_clamp (by omega)]
    exact ⟨vp_in_nI (by omega) (by omega), vp_in_nI (by omega) (by omega), h1 j hj rfl⟩
  have m11 : x2 = 11 → ∀ K2 : Int32 → am_S → Prop, (∀ j, j < nd → x1 = nI j → K2 (ar σ 58 j) σ) → ((¬ ∃ j, j < nd ∧ x1 = nI j) → K2 (-1) σ) → CI l g M_X12_of d [.ref 55, .int x1, .int x2] σ K2 := by
    intro e K2 h1 h0
    subst e
    refine b_X12_of_0 (by omega) ?_
    rw [e3522]
    refine ⟨fun q => absurd q (by decide), fun _ => ⟨fun _ => ⟨fun c => ⟨fun _ => ?_, fun q => absurd q (by decide)⟩, fun c => h0 (fun q => c ((cB (by omega)).mpr q))⟩, fun q => absurd (by decide) q⟩⟩
    obtain ⟨j, hj, e⟩ := (cB (by omega)).mp c
    subst e
    rw [nI_clamp (by omega)]
    exact ⟨vp_in_nI (by omega) (by omega), h1 j hj rfl⟩
  have m20 : x2 = 20 → ∀ K2 : Int32 → am_S → Prop, (∀ j, j < nr → x1 = nI j → K2 (whoL pl x1 n 0 0) σ) → ((¬ ∃ j, j < nr ∧ x1 = nI j) → K2 (-1) σ) → CI l g M_X12_of d [.ref 55, .int x1, .int x2] σ K2 := by
    intro e K2 h1 h0
    subst e
    refine b_X12_of_0 (by omega) ?_
    rw [e3521]
    refine ⟨fun q => absurd q (by decide), fun _ => ⟨fun q => absurd q (by decide), fun _ => ⟨fun q => absurd rfl q, fun _ => ⟨fun c => ?_, fun c => h0 (fun q => c ((cB (by omega)).mpr q))⟩⟩⟩⟩
    obtain ⟨j, hj, e⟩ := (cB (by omega)).mp c
    exact b_X12_whoIn_0 (c_whoM (by omega) e3526 H3 hl e3529 n 0 0 (by omega) (h1 j hj e))
  have m30 : x2 = 30 → ∀ K2 : Int32 → am_S → Prop, (x1 = 0 → K2 (rg σ 3531) σ) → (¬ x1 = 0 → K2 (-1) σ) → CI l g M_X12_of d [.ref 55, .int x1, .int x2] σ K2 := by
    intro e K2 h1 h0
    subst e
    refine b_X12_of_0 (by omega) ?_
    exact ⟨fun q => absurd q (by decide), fun _ => ⟨fun q => absurd q (by decide), fun _ => ⟨fun _ => ⟨fun q => absurd rfl q, fun _ => ⟨h0, h1⟩⟩, fun q => absurd q (by decide)⟩⟩⟩
  have mno : ¬ (¬ x2 < 0 ∧ ¬ 3 < x2) → (¬ x2 = 10 ∧ ¬ x2 = 11 ∧ ¬ x2 = 20 ∧ ¬ x2 = 30) → ∀ K2 : Int32 → am_S → Prop, K2 (-1) σ → CI l g M_X12_of d [.ref 55, .int x1, .int x2] σ K2 := by
    rintro a ⟨b1, b2, b3, b4⟩ K2 h
    refine b_X12_of_0 (by omega) ?_
    refine ⟨fun q => absurd q a, fun _ => ⟨fun q => absurd q (by grind), fun _ => ⟨fun _ => ⟨fun _ => h, fun q => absurd q b4⟩, fun q => absurd q b3⟩⟩⟩
  have rest : ¬ (¬ x2 < 0 ∧ ¬ 3 < x2) → (((¬ x2 = 10 ∧ ¬ x2 = 11 ∧ ¬ x2 = 20 ∧ ¬ x2 = 30) → CI l g M_X12_of d [.ref 55, .int x1, .int x2] σ (fun r2 σ2 => K (-1) r2 σ2)) ∧ (x2 = 10 → (((¬ x1 < 0 ∧ ¬ nI nd ≤ x1) → (vp_in x1 5 ∧ (vp_in x1 5 ∧ CI l g M_X12_of d [.ref 55, .int x1, .int x2] σ (fun r2 σ2 => K ((10 * (ar σ 2 x1.toNatClampNeg)) + (ar σ 3 x1.toNatClampNeg)) r2 σ2)))) ∧ (¬ (¬ x1 < 0 ∧ ¬ nI nd ≤ x1) → CI l g M_X12_of d [.ref 55, .int x1, .int x2] σ (fun r2 σ2 => K (-1) r2 σ2)))) ∧ (x2 = 11 → CI l g M_X2_number (d - 1) [.ref 1, .int x1, .int 2] σ (fun r1 σ1 => CI l g M_X12_of d [.ref 55, .int x1, .int x2] σ1 (fun r2 σ2 => K r1 r2 σ2))) ∧ (x2 = 20 → (((¬ x1 < 0 ∧ ¬ nI nr ≤ x1) → CI l g M_X2_whoIn (d - 1) [.ref 1, .int x1] σ (fun r1 σ1 => CI l g M_X12_of d [.ref 55, .int x1, .int x2] σ1 (fun r2 σ2 => K r1 r2 σ2))) ∧ (¬ (¬ x1 < 0 ∧ ¬ nI nr ≤ x1) → CI l g M_X12_of d [.ref 55, .int x1, .int x2] σ (fun r2 σ2 => K (-1) r2 σ2)))) ∧ (x2 = 30 → CI l g M_X2_number (d - 1) [.ref 1, .int x1, .int 3] σ (fun r1 σ1 => CI l g M_X12_of d [.ref 55, .int x1, .int x2] σ1 (fun r2 σ2 => K r1 r2 σ2)))) := by
    intro a
    refine ⟨fun b => mno a b _ (hk _ _ old), fun e => ⟨fun c => ?_, fun c => ?_⟩, fun e => ?_, fun e => ⟨fun c => ?_, fun c => ?_⟩, fun e => ?_⟩
    · obtain ⟨j, hj, ej⟩ := (cA (by omega)).mp c
      subst ej
      rw [nI_clamp (by omega)]
      refine ⟨vp_in_nI (by omega) (by omega), vp_in_nI (by omega) (by omega), m10 e _ (fun i hi ei => ?_) (fun q => absurd ⟨j, hj, rfl⟩ q)⟩
      have := nI_inj (by omega) (by omega) ei
      subst this
      obtain ⟨a, b, k, -, ⟨p1, p2⟩, ⟨p3, p4⟩, -⟩ := hdo j hj
      rw [p1, p2, p3, p4]
      exact hk _ _ old
    · exact m10 e _ (fun i hi ei => absurd ((cA (by omega)).mpr ⟨i, hi, ei⟩) c) (fun _ => hk _ _ old)
    · by_cases c : ∃ j, j < nd ∧ x1 = nI j
      · obtain ⟨j, hj, ej⟩ := c
        subst ej
        refine c_number_ok (w := 2) (by omega) e66 e65 H3 H2 (Or.inr (Or.inr (Or.inl ⟨rfl, hj⟩))) (m11 e _ (fun i hi ei => ?_) (fun q => absurd ⟨j, hj, rfl⟩ q))
        have := nI_inj (by omega) (by omega) ei
        subst this
        obtain ⟨a, b, k, -, -, -, p5, p6⟩ := hdo j hj
        show K (ar σ 4 j) _ _
        rw [p5, p6]
        exact hk _ _ old
      · refine c_number_no (by omega) e66 e65 H3 H2 ?_ (m11 e _ (fun i hi ei => absurd ⟨i, hi, ei⟩ c) (fun _ => hk _ _ old))
        rintro ⟨w, j, ok, ej, ew⟩
        have ww : w = 2 := (nI_inj (a := 2) (by omega) (by have := okW_lt ok H3 H2; omega) ew).symm
        subst ww
        rcases ok with ⟨h, -⟩ | ⟨h, -⟩ | ⟨-, h⟩ | ⟨h, -⟩
        · exact absurd h (by decide)
        · exact absurd h (by decide)
        · exact c ⟨j, h, ej⟩
        · exact absurd h (by decide)
    · obtain ⟨j, hj, ej⟩ := (cA (by omega)).mp c
      refine b_X2_whoIn_0 (c_whoC e66 H3 (fun j hj => (hpe j hj).2.1) n 0 0 (by omega) (m20 e _ (fun _ _ _ => hk _ _ old) (fun q => absurd ⟨j, hj, ej⟩ q)))
    · exact m20 e _ (fun i hi ei => absurd ((cA (by omega)).mpr ⟨i, hi, ei⟩) c) (fun _ => hk _ _ old)
    · by_cases c : x1 = 0
      · subst c
        refine c_number_ok (w := 3) (j := 0) (by omega) e66 e65 H3 H2 (Or.inr (Or.inr (Or.inr ⟨rfl, rfl⟩))) (m30 e _ (fun _ => ?_) (fun q => absurd rfl q))
        rw [e3531]
        exact hk _ _ old
      · refine c_number_no (by omega) e66 e65 H3 H2 ?_ (m30 e _ (fun q => absurd q c) (fun _ => hk _ _ old))
        rintro ⟨w, j, ok, ej, ew⟩
        have ww : w = 3 := (nI_inj (a := 3) (by omega) (by have := okW_lt ok H3 H2; omega) ew).symm
        subst ww
        rcases ok with ⟨h, -⟩ | ⟨h, -⟩ | ⟨h, -⟩ | ⟨-, h⟩
        · exact absurd h (by decide)
        · exact absurd h (by decide)
        · exact absurd h (by decide)
        · exact c (by rw [ej, h]; rfl)
  refine b_X11_of_0 (by omega) ?_
  rw [e64, e65, e66]
  refine ⟨fun a => rest (fun q => q.1 a), fun a => ⟨fun b => rest (fun q => q.2 b), fun b => ⟨fun c => ?_, fun c => ?_⟩⟩⟩
  · obtain ⟨j, hj, ej⟩ := (cA (by omega)).mp c
    subst ej
    have cl : (nI j).toNatClampNeg = j := nI_clamp (by omega)
    have z : vp_in (nI j) 7 := vp_in_nI (by omega) (by omega)
    have pj := hpe j hj
    have M : ∀ K2 : Int32 → am_S → Prop, (x2 = 0 → K2 (ar σ 5 j) σ) → (x2 = 1 → K2 (nI (pl j)) σ) → (x2 = 2 → K2 (ar σ 6 j) σ) → ((¬ x2 = 0 ∧ ¬ x2 = 1 ∧ ¬ x2 = 2) → CI l g M_X12_height (d - 1) [.ref 55, .int (nI j), .int (rg σ 3530), .int 0] σ K2) → CI l g M_X12_of d [.ref 55, .int (nI j), .int x2] σ K2 := by
      intro K2 h0 h1 h2 h3
      refine b_X12_of_0 (by omega) ?_
      rw [e3526, e3529, room_enc (by omega) (by omega) hl, if_pos hj, cl, pj.2.2.1.1, pj.2.2.2.1]
      exact ⟨fun _ => ⟨fun _ => ⟨fun c0 => ⟨fun c1 => ⟨fun c2 => h3 ⟨c0, c1, c2⟩, fun e => ⟨z, h2 e⟩⟩, h1⟩, fun e => ⟨z, h0 e⟩⟩, fun q => absurd ((cB (by omega)).mpr ⟨j, hj, rfl⟩) q⟩, fun q => absurd ⟨a, b⟩ q⟩
    refine b_X11_ofPerson_0 (by omega) ?_
    rw [cl]
    refine ⟨fun e => ?_, fun e => ⟨z, M _ (fun _ => hk _ _ old) (fun q => absurd q (by rw [e]; decide)) (fun q => absurd q (by rw [e]; decide)) (fun q => absurd e q.1)⟩, fun e => ⟨z, ?_⟩, fun e => ⟨z, M _ (fun q => absurd q (by rw [e]; decide)) (fun q => absurd q (by rw [e]; decide)) (fun _ => hk _ _ old) (fun q => absurd e q.2.2)⟩⟩
    · have no : ¬ x2 = 0 ∧ ¬ x2 = 1 ∧ ¬ x2 = 2 := by
        refine ⟨fun q => ?_, fun q => ?_, fun q => ?_⟩ <;> rw [q] at e <;> exact absurd e (by decide)
      refine b_X2_height_0 ?_
      rw [cl]
      have HM : ∀ K2 : Int32 → am_S → Prop, (¬ nI j = rg σ 67 → K2 (ar σ 5 j + 0 * ar σ 6 j) σ) → (nI j = rg σ 67 → K2 (ar σ 5 j + 0 * ar σ 6 j + rg σ 68) σ) → CI l g M_X12_height (d - 1) [.ref 55, .int (nI j), .int (rg σ 3530), .int 0] σ K2 := by
        intro K2 h0 h1
        refine b_X12_height_0 ?_
        rw [cl, e3530, e3531, pj.2.2.1.1, pj.2.2.2.1]
        refine ⟨z, z, fun c => ?_, h1⟩
        rw [Int32.add_zero]
        exact h0 c
      refine ⟨z, z, fun c => M _ (fun q => absurd q no.1) (fun q => absurd q no.2.1) (fun q => absurd q no.2.2) (fun _ => HM _ (fun _ => hk _ _ old) (fun q => absurd q c)), fun c => M _ (fun q => absurd q no.1) (fun q => absurd q no.2.1) (fun q => absurd q no.2.2) (fun _ => HM _ (fun q => absurd c q) (fun _ => hk _ _ old))⟩
    · rw [pj.2.1]
      exact M _ (fun q => absurd q (by rw [e]; decide)) (fun _ => hk _ _ old) (fun q => absurd q (by rw [e]; decide)) (fun q => absurd e q.2.1)
  · refine b_X12_of_0 (by omega) ?_
    rw [e3526]
    exact ⟨fun _ => ⟨fun q => absurd ((cA (by omega)).mpr ((cB (by omega)).mp q)) c, fun _ => hk _ _ old⟩, fun q => absurd ⟨a, b⟩ q⟩
end Of
