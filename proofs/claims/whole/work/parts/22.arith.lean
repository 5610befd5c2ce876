/-! small rows about ints -/
theorem cA {n : Nat} {x : Int32} (hn : n < 2 ^ 31) : (¬ x < 0 ∧ ¬ nI n ≤ x) ↔ ∃ j, j < n ∧ x = nI j := by
  constructor
  · rintro ⟨h1, h2⟩
    rcases pk_ix x hn with h | h | h
    · exact absurd h h1
    · exact absurd h h2
    · exact h
  · rintro ⟨j, hj, rfl⟩
    exact ⟨nI_pos (by omega), nI_ge hj hn⟩
theorem cD {n : Nat} {x : Int32} (m : Int32) (hm : m = nI n) (hn : n < 2 ^ 31) : (¬ x < 0 ∧ ¬ m ≤ x) ↔ ∃ j, j < n ∧ x = nI j := by
  subst hm
  exact cA hn
theorem cC {n : Nat} {x : Int32} (m : Int32) (hm : m + 1 = nI n) (hn : n < 2 ^ 31) : (¬ x < 0 ∧ ¬ m < x) ↔ ∃ j, j < n ∧ x = nI j := by
  rw [← cA hn]
  have t : Lean.Grind.ToInt.toInt (nI n) = (n : Int) := nIt hn
  have e : m = nI n - 1 := by
    rw [← hm]
    grind
  subst e
  generalize nI n = a at *
  clear hm
  constructor
  · rintro ⟨h1, h2⟩
    refine ⟨h1, fun h => h2 ?_⟩
    grind
  · rintro ⟨h1, h2⟩
    refine ⟨h1, fun h => h2 ?_⟩
    grind
theorem cB {n : Nat} {x : Int32} (hn : n < 2 ^ 31) : (¬ x < 0 ∧ ¬ nI n - 1 < x) ↔ ∃ j, j < n ∧ x = nI j := cC _ (by grind) hn
theorem nI_inj {a b : Nat} (ha : a < 2 ^ 31) (hb : b < 2 ^ 31) (h : nI a = nI b) : a = b := (nI_eq ha hb).mp h
theorem nlt {a b : Nat} (hb : b < 2 ^ 31) (h : a < b) : nI a < nI b := nI_lt h hb
theorem ltn {a b : Nat} (ha : a < 2 ^ 31) (hb : b < 2 ^ 31) : nI a < nI b ↔ a < b := nI_ltI ha hb
theorem len {a b : Nat} (ha : a < 2 ^ 31) (hb : b < 2 ^ 31) : nI a ≤ nI b ↔ a ≤ b := nI_leI ha hb
theorem eqn {a b : Nat} (ha : a < 2 ^ 31) (hb : b < 2 ^ 31) : nI a = nI b ↔ a = b := nI_eq ha hb
theorem nI_11 (n : Nat) : nI n + 1 - 1 = nI n := by rw [nI_1, nI_pred]
theorem neg1_ne {n : Nat} (h : n < 2 ^ 31) : ¬ nI n = -1 := by
  intro e
  have := congrArg Int32.toInt e
  rw [nI_toInt h] at this
  have h2 : (-1 : Int32).toInt = -1 := rfl
  omega
theorem nneg {n : Nat} (h : n < 2 ^ 31) : 0 ≤ nI n := nI_pos' h
theorem enc_congr {f f2 : Nat → Nat} : ∀ {n : Nat}, (∀ j, j < n → f j = f2 j) → enc f n = enc f2 n
  | 0, _ => rfl
  | n + 1, h => by
    show enc f n + f n * 4 ^ n = enc f2 n + f2 n * 4 ^ n
    rw [enc_congr (fun j hj => h j (Nat.lt_succ_of_lt hj)), h n (Nat.lt_succ_self n)]
theorem R_U.mono {σ : am_S} {n nd dn un n2 nd2 : Nat} (h : R_U σ n nd dn un) (h1 : n ≤ n2) (h2 : nd ≤ nd2) : R_U σ n2 nd2 dn un := by
  obtain ⟨a, b, c, q⟩ := h
  refine ⟨a, b, c, fun j hj => ?_⟩
  obtain ⟨q1, q2, q3⟩ := q j hj
  refine ⟨q1, q2, ?_⟩
  rcases q3 with ⟨z, p, hp, e⟩ | ⟨z, p, hp, e⟩ | ⟨z, ⟨p, hp, e⟩, w⟩ | z
  · exact Or.inl ⟨z, p, by omega, e⟩
  · exact Or.inr (Or.inl ⟨z, p, by omega, e⟩)
  · exact Or.inr (Or.inr (Or.inl ⟨z, ⟨p, by omega, e⟩, w⟩))
  · exact Or.inr (Or.inr (Or.inr z))
theorem R_I.mono {σ : am_S} {nr n nr2 n2 : Nat} (h : R_I σ nr n) (h1 : nr ≤ nr2) (h2 : n ≤ n2) : R_I σ nr2 n2 := by
  obtain ⟨a, b⟩ := h
  refine ⟨a, ?_⟩
  rcases b with b | ⟨b, kn, pk, c, d, e, f⟩
  · exact Or.inl b
  · exact Or.inr ⟨b, kn, pk, by omega, d, fun j hj => ⟨by have := (e j hj).1; omega, (e j hj).2⟩, f⟩
theorem R_S1.mono {σ : am_S} {nb nb2 s : Nat} (h : R_S1 σ nb s) (h1 : nb ≤ nb2) : R_S1 σ nb2 s := by
  rcases h with h | ⟨b, hb, h⟩ | h
  · exact Or.inl h
  · exact Or.inr (Or.inl ⟨b, by omega, h⟩)
  · exact Or.inr (Or.inr h)
theorem R_H.room {σ : am_S} {nr nd n nr2 : Nat} {pl : Nat → Nat} (h : R_H σ nr nd n pl) (h1 : nr ≤ nr2) (h2 : nr2 ≤ 4) (e1 : rg σ 64 = nI nr2) (e2 : rg σ 3521 = nI nr2) (hh : nr = nr2) : R_H σ nr2 nd n pl := by
  subst hh
  exact h
