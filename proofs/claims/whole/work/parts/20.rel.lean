/-! the relation between the class and the reference, module by module -/
theorem nIt {n : Nat} (h : n < 2 ^ 31) : Lean.Grind.ToInt.toInt (nI n) = (n : Int) := nI_toInt h
theorem i32_bmod {z : Int} (h1 : -2147483648 ≤ z) (h2 : z < 2147483648) : z.bmod (2 ^ 32) = z := Int.bmod_eq_of_le (by omega) (by omega)
theorem vin {i k : Int32} {n : Nat} (h0 : 0 ≤ i) (h1 : i < k) (hk : k.toInt ≤ n) : vp_in i n := by
  rw [vp_in_iff]
  have h2 := Int32.le_iff_toInt_le.mp h0
  have h3 := Int32.lt_iff_toInt_lt.mp h1
  exact ⟨by simpa using h2, by omega⟩
theorem vinN {m n : Nat} (h : m < n) (hn : n < 2 ^ 31) : vp_in (nI m) n := vp_in_nI h hn
theorem clN {n : Nat} (h : n < 2 ^ 31) : (nI n).toNatClampNeg = n := nI_clamp h
/-- rooms of people as one number, two bits for each -/
def enc (pl : Nat → Nat) : Nat → Nat
  | 0 => 0
  | n + 1 => enc pl n + pl n * 4 ^ n
/-- what two states share but for some registers and rows -/
def Fr (rs as : List Nat) (σ τ : am_S) : Prop := (∀ r, r ∉ rs → rg τ r = rg σ r) ∧ ∀ a, a ∉ as → ar τ a = ar σ a ∧ lr τ a = lr σ a
theorem Fr.rf {σ : am_S} : Fr [] [] σ σ := ⟨fun _ _ => rfl, fun _ _ => ⟨rfl, rfl⟩⟩
theorem Fr.tr {rs rs2 as as2 : List Nat} {σ τ υ : am_S} (h1 : Fr rs as σ τ) (h2 : Fr rs2 as2 τ υ) : Fr (rs ++ rs2) (as ++ as2) σ υ :=
  ⟨fun r hr => (h2.1 r (fun q => hr (List.mem_append_right _ q))).trans (h1.1 r (fun q => hr (List.mem_append_left _ q))), fun a ha => ⟨((h2.2 a (fun q => ha (List.mem_append_right _ q))).1).trans (h1.2 a (fun q => ha (List.mem_append_left _ q))).1, ((h2.2 a (fun q => ha (List.mem_append_right _ q))).2).trans (h1.2 a (fun q => ha (List.mem_append_left _ q))).2⟩⟩
theorem Fr.mono {rs rs2 as as2 : List Nat} {σ τ : am_S} (h : Fr rs as σ τ) (h1 : ∀ r ∈ rs, r ∈ rs2) (h2 : ∀ a ∈ as, a ∈ as2) : Fr rs2 as2 σ τ := ⟨fun r hr => h.1 r (fun q => hr (h1 r q)), fun a ha => h.2 a (fun q => ha (h2 a q))⟩
theorem Fr.wR {rs as : List Nat} {σ τ : am_S} {r : Nat} {v : Int32} (h : Fr rs as σ τ) : Fr (r :: rs) as σ (sR τ r v) :=
  ⟨fun q hq => by rw [rg_sR, if_neg (fun e => hq (by rw [e]; exact List.mem_cons_self))]; exact h.1 q (fun z => hq (List.mem_cons_of_mem _ z)), fun a ha => h.2 a ha⟩
theorem Fr.wA {rs as : List Nat} {σ τ : am_S} {a i : Nat} {v : Int32} (h : Fr rs as σ τ) : Fr rs (a :: as) σ (sA τ a i v) :=
  ⟨fun q hq => h.1 q hq, fun b hb => ⟨by
    have e : ar (sA τ a i v) b = ar τ b := by
      funext j
      rw [ar_sA, if_neg (fun q => hb (by rw [q.1]; exact List.mem_cons_self))]
    rw [e]
    exact (h.2 b (fun z => hb (List.mem_cons_of_mem _ z))).1, (h.2 b (fun z => hb (List.mem_cons_of_mem _ z))).2⟩⟩
theorem Fr.wL {rs as : List Nat} {σ τ : am_S} {a i : Nat} {v : Int64} (h : Fr rs as σ τ) : Fr rs (a :: as) σ (sL τ a i v) :=
  ⟨fun q hq => h.1 q hq, fun b hb => ⟨(h.2 b (fun z => hb (List.mem_cons_of_mem _ z))).1, by
    have e : lr (sL τ a i v) b = lr τ b := by
      funext j
      rw [lr_sL, if_neg (fun q => hb (by rw [q.1]; exact List.mem_cons_self))]
    rw [e]
    exact (h.2 b (fun z => hb (List.mem_cons_of_mem _ z))).2⟩⟩
theorem Fr.wC {rs as : List Nat} {σ τ : am_S} {a sp b dp n : Nat} (h : Fr rs as σ τ) : Fr rs (b :: as) σ (sC τ a sp b dp n) :=
  ⟨fun q hq => h.1 q hq, fun c hc => ⟨(h.2 c (fun z => hc (List.mem_cons_of_mem _ z))).1, by
    have e : lr (sC τ a sp b dp n) c = lr τ c := by
      funext j
      rw [lr_sC, if_neg (fun q => hc (by rw [q.1]; exact List.mem_cons_self))]
    rw [e]
    exact (h.2 c (fun z => hc (List.mem_cons_of_mem _ z))).2⟩⟩
theorem Fr.R {rs as : List Nat} {σ τ : am_S} (h : Fr rs as σ τ) (r : Nat) (hr : rs.contains r = false) : rg τ r = rg σ r := h.1 r (fun q => by rw [List.contains_iff_mem.mpr q] at hr; cases hr)
theorem Fr.A {rs as : List Nat} {σ τ : am_S} (h : Fr rs as σ τ) (a : Nat) (ha : as.contains a = false) : ar τ a = ar σ a := (h.2 a (fun q => by rw [List.contains_iff_mem.mpr q] at ha; cases ha)).1
theorem Fr.L {rs as : List Nat} {σ τ : am_S} (h : Fr rs as σ τ) (a : Nat) (ha : as.contains a = false) : lr τ a = lr σ a := (h.2 a (fun q => by rw [List.contains_iff_mem.mpr q] at ha; cases ha)).2
def R_H (σ : am_S) (nr nd n : Nat) (pl : Nat → Nat) : Prop :=
  (nr ≤ 4 ∧ nd ≤ 5 ∧ n ≤ 7) ∧ (rg σ 64 = nI nr ∧ rg σ 3521 = nI nr) ∧ (rg σ 65 = nI nd ∧ rg σ 3522 = nI nd) ∧ (rg σ 66 = nI n ∧ rg σ 3526 = nI n) ∧ rg σ 3530 = rg σ 67 ∧ (rg σ 3531 = rg σ 68 ∧ 0 ≤ rg σ 68) ∧
  (∀ j, j < nd → ∃ a b k : Nat, (a < nr ∧ b < nr ∧ a ≠ b ∧ k < 3) ∧ (ar σ 2 j = nI a ∧ ar σ 56 j = nI a) ∧ (ar σ 3 j = nI b ∧ ar σ 57 j = nI b) ∧ (ar σ 4 j = nI k ∧ ar σ 58 j = nI k)) ∧
  (∀ j, j < n → pl j < nr ∧ ar σ 7 j = nI (pl j) ∧ (ar σ 59 j = ar σ 5 j ∧ 0 ≤ ar σ 5 j) ∧ (ar σ 60 j = ar σ 6 j ∧ 0 ≤ ar σ 6 j)) ∧ (∀ j, n ≤ j → ar σ 6 j = 0) ∧ rg σ 3529 = nI (enc pl n)
theorem R_H.fr {rs as : List Nat} {σ τ : am_S} {nr nd n : Nat} {pl : Nat → Nat} (h : Fr rs as σ τ) (hc : ([64, 3521, 65, 3522, 66, 3526, 3530, 67, 3531, 68, 3529] : List Nat).all (fun r => !rs.contains r) = true) (ha : ([2, 3, 4, 5, 6, 7, 56, 57, 58, 59, 60] : List Nat).all (fun a => !as.contains a) = true) (H : R_H σ nr nd n pl) : R_H τ nr nd n pl := by
  have hr : ∀ r ∈ ([64, 3521, 65, 3522, 66, 3526, 3530, 67, 3531, 68, 3529] : List Nat), rs.contains r = false := fun r q => by simpa using List.all_eq_true.mp hc r q
  have hb : ∀ a ∈ ([2, 3, 4, 5, 6, 7, 56, 57, 58, 59, 60] : List Nat), as.contains a = false := fun a q => by simpa using List.all_eq_true.mp ha a q
  unfold R_H at H ⊢
  simp only [h.R 64 (hr 64 (by decide)), h.R 3521 (hr 3521 (by decide)), h.R 65 (hr 65 (by decide)), h.R 3522 (hr 3522 (by decide)), h.R 66 (hr 66 (by decide)), h.R 3526 (hr 3526 (by decide)), h.R 3530 (hr 3530 (by decide)), h.R 67 (hr 67 (by decide)), h.R 3531 (hr 3531 (by decide)), h.R 68 (hr 68 (by decide)), h.R 3529 (hr 3529 (by decide)), h.A 2 (hb 2 (by decide)), h.A 3 (hb 3 (by decide)), h.A 4 (hb 4 (by decide)), h.A 5 (hb 5 (by decide)), h.A 6 (hb 6 (by decide)), h.A 7 (hb 7 (by decide)), h.A 56 (hb 56 (by decide)), h.A 57 (hb 57 (by decide)), h.A 58 (hb 58 (by decide)), h.A 59 (hb 59 (by decide)), h.A 60 (hb 60 (by decide))]
  exact H
def R_T (σ : am_S) (nt : Nat) : Prop :=
  nt ≤ 120 ∧ (rg σ 513 = nI nt ∧ rg σ 3539 = nI nt) ∧ ∀ j, j < nt → (0 ≤ ar σ 9 j ∧ ar σ 9 j ≤ 255) ∧ ar σ 65 j = (ar σ 9 j).toInt8.toInt32
theorem R_T.fr {rs as : List Nat} {σ τ : am_S} {nt : Nat} (h : Fr rs as σ τ) (hc : ([513, 3539] : List Nat).all (fun r => !rs.contains r) = true) (ha : ([9, 65] : List Nat).all (fun a => !as.contains a) = true) (H : R_T σ nt) : R_T τ nt := by
  have hr : ∀ r ∈ ([513, 3539] : List Nat), rs.contains r = false := fun r q => by simpa using List.all_eq_true.mp hc r q
  have hb : ∀ a ∈ ([9, 65] : List Nat), as.contains a = false := fun a q => by simpa using List.all_eq_true.mp ha a q
  unfold R_T at H ⊢
  simp only [h.R 513 (hr 513 (by decide)), h.R 3539 (hr 3539 (by decide)), h.A 9 (hb 9 (by decide)), h.A 65 (hb 65 (by decide))]
  exact H
def R_D (σ : am_S)  : Prop :=
  rg σ 3555 = rg σ 10 ∧ rg σ 3556 = rg σ 11
theorem R_D.fr {rs as : List Nat} {σ τ : am_S}  (h : Fr rs as σ τ) (hc : ([10, 11, 3555, 3556] : List Nat).all (fun r => !rs.contains r) = true) (ha : ([] : List Nat).all (fun a => !as.contains a) = true) (H : R_D σ ) : R_D τ  := by
  have hr : ∀ r ∈ ([10, 11, 3555, 3556] : List Nat), rs.contains r = false := fun r q => by simpa using List.all_eq_true.mp hc r q
  have hb : ∀ a ∈ ([] : List Nat), as.contains a = false := fun a q => by simpa using List.all_eq_true.mp ha a q
  unfold R_D at H ⊢
  simp only [h.R 10 (hr 10 (by decide)), h.R 11 (hr 11 (by decide)), h.R 3555 (hr 3555 (by decide)), h.R 3556 (hr 3556 (by decide))]
  exact H
def R_U (σ : am_S) (n nd dn un : Nat) : Prop :=
  (dn + un ≤ 40) ∧ (rg σ 2180 = nI dn ∧ rg σ 3532 = nI dn) ∧ (rg σ 2181 = nI un ∧ rg σ 3533 = nI un) ∧ ∀ j, j < dn + un → (ar σ 62 j = ar σ 35 j ∧ ar σ 61 j = ar σ 36 j ∧ ar σ 63 j = ar σ 37 j ∧ ar σ 64 j = ar σ 38 j) ∧ (0 ≤ ar σ 37 j ∧ 0 ≤ ar σ 38 j) ∧
  ((ar σ 36 j = 0 ∧ ∃ p, p < n ∧ ar σ 35 j = nI p) ∨ (ar σ 36 j = 1 ∧ ∃ p, p < n ∧ ar σ 35 j = nI p) ∨ (ar σ 36 j = 2 ∧ (∃ p, p < nd ∧ ar σ 35 j = nI p) ∧ (∃ q, q < 3 ∧ ar σ 37 j = nI q) ∧ ∃ q, q < 3 ∧ ar σ 38 j = nI q) ∨ (ar σ 36 j = 3 ∧ ar σ 35 j = 0))
theorem R_U.fr {rs as : List Nat} {σ τ : am_S} {n nd dn un : Nat} (h : Fr rs as σ τ) (hc : ([2180, 2181, 3532, 3533] : List Nat).all (fun r => !rs.contains r) = true) (ha : ([35, 36, 37, 38, 61, 62, 63, 64] : List Nat).all (fun a => !as.contains a) = true) (H : R_U σ n nd dn un) : R_U τ n nd dn un := by
  have hr : ∀ r ∈ ([2180, 2181, 3532, 3533] : List Nat), rs.contains r = false := fun r q => by simpa using List.all_eq_true.mp hc r q
  have hb : ∀ a ∈ ([35, 36, 37, 38, 61, 62, 63, 64] : List Nat), as.contains a = false := fun a q => by simpa using List.all_eq_true.mp ha a q
  unfold R_U at H ⊢
  simp only [h.R 2180 (hr 2180 (by decide)), h.R 2181 (hr 2181 (by decide)), h.R 3532 (hr 3532 (by decide)), h.R 3533 (hr 3533 (by decide)), h.A 35 (hb 35 (by decide)), h.A 36 (hb 36 (by decide)), h.A 37 (hb 37 (by decide)), h.A 38 (hb 38 (by decide)), h.A 61 (hb 61 (by decide)), h.A 62 (hb 62 (by decide)), h.A 63 (hb 63 (by decide)), h.A 64 (hb 64 (by decide))]
  exact H
def R_I (σ : am_S) (nr n : Nat) : Prop :=
  rg σ 3565 = rg σ 2051 ∧ (rg σ 2051 = 0 ∨ (rg σ 2051 = 1 ∧ ∃ (kn : Nat) (pk : Nat → Nat), kn ≤ n ∧ (rg σ 2049 = nI kn ∧ rg σ 3566 = nI kn) ∧ (∀ j, j < kn → pk j < nr ∧ ar σ 33 j = nI (pk j)) ∧ rg σ 3567 = nI (enc pk kn) ∧ rg σ 3568 = rg σ 2050))
theorem R_I.fr {rs as : List Nat} {σ τ : am_S} {nr n : Nat} (h : Fr rs as σ τ) (hc : ([2049, 2050, 2051, 3565, 3566, 3567, 3568] : List Nat).all (fun r => !rs.contains r) = true) (ha : ([33] : List Nat).all (fun a => !as.contains a) = true) (H : R_I σ nr n) : R_I τ nr n := by
  have hr : ∀ r ∈ ([2049, 2050, 2051, 3565, 3566, 3567, 3568] : List Nat), rs.contains r = false := fun r q => by simpa using List.all_eq_true.mp hc r q
  have hb : ∀ a ∈ ([33] : List Nat), as.contains a = false := fun a q => by simpa using List.all_eq_true.mp ha a q
  unfold R_I at H ⊢
  simp only [h.R 2049 (hr 2049 (by decide)), h.R 2050 (hr 2050 (by decide)), h.R 2051 (hr 2051 (by decide)), h.R 3565 (hr 3565 (by decide)), h.R 3566 (hr 3566 (by decide)), h.R 3567 (hr 3567 (by decide)), h.R 3568 (hr 3568 (by decide)), h.A 33 (hb 33 (by decide))]
  exact H
def R_B (σ : am_S) (nb nq : Nat) : Prop :=
  (nb ≤ 50 ∧ nq ≤ 1000) ∧ (rg σ 2497 = nI nb ∧ rg σ 3569 = nI nb) ∧ (rg σ 2499 = nI nq ∧ rg σ 3571 = nI nq) ∧ (∀ j, j < nb → ∃ k, k < 8 ∧ ar σ 40 j = nI k ∧ ar σ 79 j = nI k) ∧ ∀ j, j < nq → j < 24 → ar σ 80 j = ar σ 41 j
theorem R_B.fr {rs as : List Nat} {σ τ : am_S} {nb nq : Nat} (h : Fr rs as σ τ) (hc : ([2497, 3569, 2499, 3571] : List Nat).all (fun r => !rs.contains r) = true) (ha : ([40, 79, 41, 80] : List Nat).all (fun a => !as.contains a) = true) (H : R_B σ nb nq) : R_B τ nb nq := by
  have hr : ∀ r ∈ ([2497, 3569, 2499, 3571] : List Nat), rs.contains r = false := fun r q => by simpa using List.all_eq_true.mp hc r q
  have hb : ∀ a ∈ ([40, 79, 41, 80] : List Nat), as.contains a = false := fun a q => by simpa using List.all_eq_true.mp ha a q
  unfold R_B at H ⊢
  simp only [h.R 2497 (hr 2497 (by decide)), h.R 3569 (hr 3569 (by decide)), h.R 2499 (hr 2499 (by decide)), h.R 3571 (hr 3571 (by decide)), h.A 40 (hb 40 (by decide)), h.A 79 (hb 79 (by decide)), h.A 41 (hb 41 (by decide)), h.A 80 (hb 80 (by decide))]
  exact H
/-- shelf s -/
def R_S1 (σ : am_S) (nb s : Nat) : Prop :=
  (rg σ (64 * (43 + 2 * s) + 0) = -1 ∧ rg σ (64 * (43 + 2 * s) + 1) = -1 ∧ rg σ (64 * (43 + 2 * s) + 2) = 0 ∧ ar σ 81 s = -1) ∨
  (∃ b, b < nb ∧ rg σ (64 * (43 + 2 * s) + 0) = nI b ∧ rg σ (64 * (43 + 2 * s) + 1) = -1 ∧ rg σ (64 * (43 + 2 * s) + 2) = 0 ∧ ar σ 81 s = nI b) ∨
  (∃ so n : Nat, so < 5 ∧ n ≤ 60 ∧ rg σ (64 * (43 + 2 * s) + 0) = -1 ∧ rg σ (64 * (43 + 2 * s) + 1) = nI so ∧ rg σ (64 * (43 + 2 * s) + 2) = nI n ∧ ar σ 81 s = -2 - nI so ∧ ar σ 82 s = nI n ∧ ∀ j, j < n → lr σ 83 (60 * s + j) = lr σ (44 + 2 * s) j)
def R_S (σ : am_S) (nb : Nat) : Prop := ∀ s, s < 6 → R_S1 σ nb s
theorem R_S1.fr {rs as : List Nat} {σ τ : am_S} {nb s : Nat} (h : Fr rs as σ τ) (hr : ∀ f, f < 3 → 64 * (43 + 2 * s) + f ∉ rs) (h1 : 81 ∉ as) (h2 : 82 ∉ as) (h3 : 83 ∉ as) (h4 : 44 + 2 * s ∉ as) (H : R_S1 σ nb s) : R_S1 τ nb s := by
  unfold R_S1 at H ⊢
  rw [h.1 _ (hr 0 (by omega)), h.1 _ (hr 1 (by omega)), h.1 _ (hr 2 (by omega)), (h.2 81 h1).1, (h.2 82 h2).1, (h.2 83 h3).2, (h.2 _ h4).2]
  exact H
theorem R_S.fr {rs as : List Nat} {σ τ : am_S} {nb : Nat} (h : Fr rs as σ τ) (hc : rs.all (fun r => decide (r < 2752 ∨ 3456 ≤ r)) = true) (ha : as.all (fun a => decide (a ≠ 81 ∧ a ≠ 82 ∧ a ≠ 83 ∧ (a < 44 ∨ 55 ≤ a))) = true) (H : R_S σ nb) : R_S τ nb := by
  intro s hs
  have hr : ∀ r ∈ rs, r < 2752 ∨ 3456 ≤ r := fun r q => of_decide_eq_true (List.all_eq_true.mp hc r q)
  have hb : ∀ a ∈ as, a ≠ 81 ∧ a ≠ 82 ∧ a ≠ 83 ∧ (a < 44 ∨ 55 ≤ a) := fun a q => of_decide_eq_true (List.all_eq_true.mp ha a q)
  refine (H s hs).fr h (fun f hf q => ?_) (fun q => ?_) (fun q => ?_) (fun q => ?_) (fun q => ?_)
  · have := hr _ q
    omega
  · exact (hb _ q).1 rfl
  · exact (hb _ q).2.1 rfl
  · exact (hb _ q).2.2.1 rfl
  · have := (hb _ q).2.2.2
    omega
/-- the told law: a token is what the reference keeps of it (act, with) -/
abbrev Tok : Type := Int32 × Int32
def tk_name (w : Int32) : Int32 := if w = 0 then 97 else if w = 1 then 98 else if w = 2 then 100 else if w = 3 then 107 else if w = 4 then 105 else 106
def tk_sign (t : Tok) : Int32 := if t.1 = 1 then t.2 else if t.1 = 2 then -(tk_name t.2) else if t.1 = 3 then -33 else if t.1 = 4 then -126 else -t.1
def tk_bin (a : Int32) : Prop := a = 124 ∨ a = 38 ∨ a = 60 ∨ a = 61 ∨ a = 62 ∨ a = 43 ∨ a = 45 ∨ a = 42 ∨ a = 47 ∨ a = 37
def tk_ok (t : Tok) : Prop := (t.1 = 1 ∧ 0 ≤ t.2) ∨ (t.1 = 2 ∧ 0 ≤ t.2 ∧ t.2 ≤ 5) ∨ t.1 = 3 ∨ t.1 = 4 ∨ tk_bin t.1
def tk_dep : Nat → List Tok → Option Nat
  | n, [] => some n
  | n, t :: r => if t.1 = 1 ∨ t.1 = 2 then tk_dep (n + 1) r else if t.1 = 3 ∨ t.1 = 4 then (if 1 ≤ n then tk_dep n r else none) else (if 2 ≤ n then tk_dep (n - 1) r else none)
def tk_wf (ts : List Tok) : Prop := (∀ t ∈ ts, tk_ok t) ∧ tk_dep 0 ts = some 1
abbrev Lin : Type := List Tok × List Tok
def ln_C (q : Lin) : List Int32 := (if q.1 = [] then [] else q.1.map tk_sign ++ [-63]) ++ q.2.map tk_sign ++ [-59]
def ln_M (q : Lin) : List Tok := q.1 ++ q.2
def L_C (σ : am_S) (ls : List Lin) : Prop := (ls.flatMap ln_C).length ≤ 121 ∧ rg σ 705 = nI (ls.flatMap ln_C).length ∧ ∀ j v, (ls.flatMap ln_C)[j]? = some v → ar σ 12 j = v
def L_M (σ : am_S) (ls : List Lin) : Prop := ls.length ≤ 60 ∧ (ls.flatMap ln_M).length ≤ 121 ∧ ar σ 68 0 = nI ls.length ∧ (∀ j t, (ls.flatMap ln_M)[j]? = some t → ar σ 66 j = t.1 ∧ ar σ 67 j = t.2) ∧
  ∀ i q, ls[i]? = some q → ar σ 69 i = nI (((ls.take i).flatMap ln_M).length + q.1.length) ∧ ar σ 70 i = nI (((ls.take i).flatMap ln_M).length + q.1.length + q.2.length)
def R_L0 (σ : am_S) : Prop := (rg σ 705 = 0 ∧ rg σ 3551 = 0) ∨ (rg σ 3551 = 1 ∧ ∃ ls : List Lin, ls ≠ [] ∧ (∀ q ∈ ls, (q.1 = [] ∨ tk_wf q.1) ∧ tk_wf q.2) ∧ L_C σ ls ∧ L_M σ ls)
/-- what a search of the class leaves matters to none (each search clears all slots first) -/
def R_F (σ : am_S) : Prop := rg σ 1224 = rg σ 1224
def R_L (σ : am_S) : Prop := R_L0 σ ∧ R_F σ
theorem R_L0.fr {rs as : List Nat} {σ τ : am_S} (h : Fr rs as σ τ) (hc : ([705, 3551] : List Nat).all (fun r => !rs.contains r) = true) (ha : ([12, 66, 67, 68, 69, 70] : List Nat).all (fun a => !as.contains a) = true) (H : R_L0 σ) : R_L0 τ := by
  have hr : ∀ r ∈ ([705, 3551] : List Nat), rs.contains r = false := fun r q => by simpa using List.all_eq_true.mp hc r q
  have hb : ∀ a ∈ ([12, 66, 67, 68, 69, 70] : List Nat), as.contains a = false := fun a q => by simpa using List.all_eq_true.mp ha a q
  unfold R_L0 L_C L_M at H ⊢
  simp only [h.R 705 (hr 705 (by decide)), h.R 3551 (hr 3551 (by decide)), h.A 12 (hb 12 (by decide)), h.A 66 (hb 66 (by decide)), h.A 67 (hb 67 (by decide)), h.A 68 (hb 68 (by decide)), h.A 69 (hb 69 (by decide)), h.A 70 (hb 70 (by decide))]
  exact H
theorem R_F.fr {rs as : List Nat} {σ τ : am_S} (_ : Fr rs as σ τ) (_ : ([1224] : List Nat).all (fun r => !rs.contains r) = true) (_ : ([24, 30] : List Nat).all (fun a => !as.contains a) = true) (_ : R_F σ) : R_F τ := rfl
theorem R_L.fr {rs as : List Nat} {σ τ : am_S} (h : Fr rs as σ τ) (hc : ([705, 3551, 1224] : List Nat).all (fun r => !rs.contains r) = true) (ha : ([12, 66, 67, 68, 69, 70, 24, 30] : List Nat).all (fun a => !as.contains a) = true) (H : R_L σ) : R_L τ := by
  have hr := List.all_eq_true.mp hc
  have hb := List.all_eq_true.mp ha
  exact ⟨H.1.fr h (List.all_eq_true.mpr (fun r q => hr r (by simp at q ⊢; omega))) (List.all_eq_true.mpr (fun r q => hb r (by simp at q ⊢; omega))), H.2.fr h (List.all_eq_true.mpr (fun r q => hr r (by simp at q ⊢; omega))) (List.all_eq_true.mpr (fun r q => hb r (by simp at q ⊢; omega)))⟩
def RR (σ : am_S) (nr nd n : Nat) (pl : Nat → Nat) (nt dn un nb nq : Nat) : Prop := R_H σ nr nd n pl ∧ R_T σ nt ∧ R_D σ ∧ R_U σ n nd dn un ∧ R_I σ nr n ∧ R_B σ nb nq ∧ R_S σ nb ∧ R_L σ
def R (σ : am_S) : Prop := ∃ (nr nd n : Nat) (pl : Nat → Nat) (nt dn un nb nq : Nat), RR σ nr nd n pl nt dn un nb nq
/-- a pair of calls, of the class and of the reference: one answer, and R again -/
def PP (l : Launch) (g : am_G) (d : Nat) (f h : am_M) (as : List Value) (σ : am_S) : Prop := ∀ K : Int32 → Int32 → am_S → Prop, (∀ r σ2, R σ2 → K r r σ2) → CI l g f d (.ref 0 :: as) σ (fun r1 σ1 => CI l g h d (.ref 55 :: as) σ1 (fun r2 σ2 => K r1 r2 σ2))
