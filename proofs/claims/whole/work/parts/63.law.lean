/-! sets as ints; what the law says of two -/
def msk (P : Nat → Bool) : Nat → Nat
  | 0 => 0
  | n + 1 => msk P n + if P n = true then 2 ^ n else 0
theorem msk_lt {P : Nat → Bool} : ∀ n, msk P n < 2 ^ n
  | 0 => by
    show 0 < 2 ^ 0
    decide
  | n + 1 => by
    have ih := msk_lt (P := P) n
    show msk P n + _ < 2 ^ (n + 1)
    rw [Nat.pow_succ]
    split <;> omega
theorem msk_bit {P : Nat → Bool} : ∀ n i, (msk P n).testBit i = (decide (i < n) && P i)
  | 0, i => by
    show (0 : Nat).testBit i = _
    simp
  | n + 1, i => by
    have ih := msk_bit (P := P) n i
    have hl := msk_lt (P := P) n
    have e : msk P (n + 1) = 2 ^ n * (if P n = true then 1 else 0) + msk P n := by
      show msk P n + _ = _
      split <;> omega
    rw [e, Nat.testBit_two_pow_mul_add _ hl]
    by_cases h : i < n
    · rw [if_pos h, ih]
      have : i < n + 1 := by omega
      simp [h, this]
    · rw [if_neg h]
      by_cases h2 : i = n
      · subst h2
        cases hp : P i <;> simp
      · have h3 : ¬ i < n + 1 := by omega
        have h4 : (if P n = true then 1 else 0 : Nat).testBit (i - n) = false := by
          apply Nat.testBit_lt_two_pow
          have : 2 ^ 1 ≤ 2 ^ (i - n) := Nat.pow_le_pow_right (by decide) (by omega)
          split <;> omega
        rw [h4]
        simp [h3]
theorem bit_iff {m i : Nat} : m / 2 ^ i % 2 = 1 ↔ m.testBit i = true := by
  rw [Nat.testBit_eq_decide_div_mod_eq, decide_eq_true_iff]
theorem msk_mod {P : Nat → Bool} {n i : Nat} (hi : i < n) : msk P n / 2 ^ i % 2 = if P i = true then 1 else 0 := by
  have h := bit_iff (m := msk P n) (i := i)
  rw [msk_bit] at h
  simp [hi] at h
  split
  · rename_i c
    exact h.mpr c
  · rename_i c
    have : ¬ msk P n / 2 ^ i % 2 = 1 := fun q => c (h.mp q)
    omega
theorem msk_and {P Q : Nat → Bool} {n : Nat} : msk P n &&& msk Q n = msk (fun j => P j && Q j) n := by
  apply Nat.eq_of_testBit_eq
  intro i
  rw [Nat.testBit_and, msk_bit, msk_bit, msk_bit]
  cases decide (i < n) <;> simp
theorem msk_congr {P Q : Nat → Bool} : ∀ {n : Nat}, (∀ j, j < n → P j = Q j) → msk P n = msk Q n
  | 0, _ => rfl
  | n + 1, h => by
    show msk P n + _ = msk Q n + _
    rw [msk_congr (fun j hj => h j (Nat.lt_succ_of_lt hj)), h n (Nat.lt_succ_self n)]
theorem i_or1 {P : Nat → Bool} {n : Nat} (h : P n = true) (hn : n < 31) : nI (msk P n) ||| ((1 : Int32) <<< (nI n &&& 31)) = nI (msk P (n + 1)) := by
  rw [i_bit hn, i_or]
  congr 1
  show _ = msk P n + _
  have h2 := Nat.two_pow_add_eq_or_of_lt (msk_lt (P := P) n) 1
  rw [Nat.mul_one] at h2
  rw [if_pos h, Nat.or_comm, ← h2, Nat.add_comm]
theorem msk_no {P : Nat → Bool} {n : Nat} (h : ¬ P n = true) : msk P (n + 1) = msk P n := by
  show msk P n + _ = _
  rw [if_neg h, Nat.add_zero]
theorem sh_tab : ∀ q : Fin 31, ((nI q.val &&& 31).toBitVec.smod 32).toNat = q.val := by decide +kernel
theorem i_sh {m p : Nat} (hm : m < 2 ^ 31) (hp : p < 31) : nI m >>> (nI p &&& 31) = nI (m / 2 ^ p) := pk_shrN hm _ p (sh_tab ⟨p, hp⟩)
theorem i_bt {m p : Nat} (hm : m < 2 ^ 31) (hp : p < 31) : (nI m >>> (nI p &&& 31)) &&& 1 = nI (m / 2 ^ p % 2) := by
  rw [i_sh hm hp, pk_andN (Nat.lt_of_le_of_lt (Nat.div_le_self _ _) (by omega)) 1 (by decide)]
/-- which law is told -/
def R_tl (σ : am_S) : Option (List Lin) → Prop
  | none => rg σ 705 = 0 ∧ rg σ 3551 = 0
  | some ls => rg σ 3551 = 1 ∧ ls ≠ [] ∧ lnOk ls ∧ L_C σ ls ∧ L_M σ ls
theorem R_tl_of {σ : am_S} (h : R_L0 σ) : ∃ o, R_tl σ o := by
  rcases h with h | ⟨h1, ls, h2, h3, h4, h5⟩
  · exact ⟨none, h⟩
  · exact ⟨some ls, h1, h2, h3, h4, h5⟩
theorem R_tl.fr {rs as : List Nat} {σ τ : am_S} {o : Option (List Lin)} (h : Fr rs as σ τ) (hc : ([705, 3551] : List Nat).all (fun r => !rs.contains r) = true) (ha : ([12, 66, 67, 68, 69, 70] : List Nat).all (fun a => !as.contains a) = true) (H : R_tl σ o) : R_tl τ o := by
  have hr : ∀ r ∈ ([705, 3551] : List Nat), rs.contains r = false := fun r q => by simpa using List.all_eq_true.mp hc r q
  have hb : ∀ a ∈ ([12, 66, 67, 68, 69, 70] : List Nat), as.contains a = false := fun a q => by simpa using List.all_eq_true.mp ha a q
  match o, H with
  | none, H =>
    unfold R_tl at H ⊢
    rw [h.R 705 (hr 705 (by decide)), h.R 3551 (hr 3551 (by decide))]
    exact H
  | some ls, H =>
    unfold R_tl L_C L_M at H ⊢
    simp only [h.R 705 (hr 705 (by decide)), h.R 3551 (hr 3551 (by decide)), h.A 12 (hb 12 (by decide)), h.A 66 (hb 66 (by decide)), h.A 67 (hb 67 (by decide)), h.A 68 (hb 68 (by decide)), h.A 69 (hb 69 (by decide)), h.A 70 (hb 70 (by decide))]
    exact H
def lawB (o : Option (List Lin)) (a b d k i j : Int32) : Bool := match o with
  | none => if k = 0 then !decide (a ≤ b) else if k = 1 then !decide (b ≤ a) else !decide (a < b)
  | some ls => !decide (evL (fF a b d k i j) ls = 0)
theorem told_pos {σ : am_S} {ls : List Lin} (h : R_tl σ (some ls)) : ¬ rg σ 705 ≤ 0 := by
  obtain ⟨-, h2, -, ⟨h4, h5, -⟩, -⟩ := h
  rw [h5]
  refine nI_nle ?_ (by omega)
  match ls, h2 with
  | [], q => exact absurd rfl q
  | q :: r, _ =>
    rw [List.flatMap_cons, List.length_append]
    unfold ln_C
    rw [List.length_append]
    simp
    omega
section LawX
variable {l : Launch} {g : am_G} {d : Nat} {σ : am_S}
theorem c_isLawful {D p q : Nat} {o : Option (List Lin)} {k : Int32 → am_S → Prop} (hd : 4 ≤ d) (hL : R_tl σ o) (hD : D < 5) (hp : p < 7) (hq : q < 7) (H : ∀ τ, Fr [707] [13] σ τ → k (if lawB o (ar σ 17 p) (ar σ 17 q) (nI D) (ar σ 4 D) (ar σ 15 D) (ar σ 16 D) = true then 1 else 0) τ) : CI l g M_X6_isLawful d [.ref 14, .int (nI D), .int (nI p), .int (nI q)] σ k := by
  refine b_X6_isLawful_0 (by omega) ?_
  have vp : vp_in (nI p) 7 := vp_in_nI hp (by omega)
  have vq : vp_in (nI q) 7 := vp_in_nI hq (by omega)
  have vD : vp_in (nI D) 5 := vp_in_nI hD (by omega)
  rw [nI_clamp (n := p) (by omega), nI_clamp (n := q) (by omega), nI_clamp (n := D) (by omega)]
  refine ⟨vp, vq, vD, fun c => ⟨vD, vD, ?_⟩, fun c => ?_⟩
  · match o, hL, H with
    | none, hL, H =>
      rw [hL.1] at c
      exact absurd (by decide) c
    | some ls, hL, H =>
      refine c_value (by omega) hL.2.2.1 hL.2.2.2.1 (fun τ hτ => ⟨fun z => ?_, fun z => ?_⟩)
      · have := H τ hτ
        rw [show lawB (some ls) (ar σ 17 p) (ar σ 17 q) (nI D) (ar σ 4 D) (ar σ 15 D) (ar σ 16 D) = false by unfold lawB; simp [z]] at this
        exact this
      · have := H τ hτ
        rw [show lawB (some ls) (ar σ 17 p) (ar σ 17 q) (nI D) (ar σ 4 D) (ar σ 15 D) (ar σ 16 D) = true by unfold lawB; simp [z]] at this
        exact this
  · match o, hL, H with
    | some ls, hL, H => exact absurd (told_pos hL) c
    | none, hL, H =>
      have H := H σ (Fr.rf.mono (by simp) (by simp))
      unfold lawB at H
      simp only [] at H
      refine ⟨fun c0 => ⟨fun c1 => ⟨fun z => ?_, fun z => ?_⟩, fun c1 => ⟨fun z => ?_, fun z => ?_⟩⟩, fun c0 => ⟨fun z => ?_, fun z => ?_⟩⟩
      · rw [if_neg c0, if_neg c1, decide_eq_true z] at H
        exact H
      · rw [if_neg c0, if_neg c1, decide_eq_false z] at H
        exact H
      · rw [if_neg c0, if_pos c1, decide_eq_true z] at H
        exact H
      · rw [if_neg c0, if_pos c1, decide_eq_false z] at H
        exact H
      · rw [if_pos c0, decide_eq_true z] at H
        exact H
      · rw [if_pos c0, decide_eq_false z] at H
        exact H
theorem m_asks {D : Nat} {t : Bool} {a b : Int32} {o : Option (List Lin)} {k : Int32 → am_S → Prop} (hd : 3 ≤ d) (hL : R_tl σ o) (hD : D < 5) (H : ∀ τ, Fr [] [71, 72] σ τ → k (if lawB o a b (nI D) (ar σ 58 D) (if t = true then ar σ 57 D else ar σ 56 D) (if t = true then ar σ 56 D else ar σ 57 D) = true then 1 else 0) τ) : CI l g M_X12_asks d [.ref 55, .int (nI D), .int (if t = true then 1 else 0), .int a, .int b] σ k := by
  refine b_X12_asks_0 (by omega) ?_
  have vD : vp_in (nI D) 5 := vp_in_nI hD (by omega)
  rw [nI_clamp (n := D) (by omega)]
  match o, hL, H with
  | none, hL, H =>
    have H := H σ (Fr.rf.mono (by simp) (by simp))
    unfold lawB at H
    simp only [] at H
    refine ⟨fun c => absurd hL.2 c, fun _ => ⟨vD, fun c0 => ⟨vD, fun c1 => ⟨fun z => ?_, fun z => ?_⟩, fun c1 => ⟨fun z => ?_, fun z => ?_⟩⟩, fun c0 => ⟨fun z => ?_, fun z => ?_⟩⟩⟩
    · rw [if_neg c0, if_neg c1, decide_eq_true z] at H
      exact H
    · rw [if_neg c0, if_neg c1, decide_eq_false z] at H
      exact H
    · rw [if_neg c0, if_pos c1, decide_eq_true z] at H
      exact H
    · rw [if_neg c0, if_pos c1, decide_eq_false z] at H
      exact H
    · rw [if_pos c0, decide_eq_true z] at H
      exact H
    · rw [if_pos c0, decide_eq_false z] at H
      exact H
  | some ls, hL, H =>
    have go : ∀ u v : Int32, u = (if t = true then ar σ 57 D else ar σ 56 D) → v = (if t = true then ar σ 56 D else ar σ 57 D) → CI l g M_X12_gives (d - 1) [.ref 55, .int 0] (sA (sA (sA (sA (sA (sA σ 71 0 a) 71 1 b) 71 2 (nI D)) 71 3 (ar σ 58 D)) 71 4 u) 71 5 v) (fun r1 σ1 => ((r1 = 0 → k 0 σ1) ∧ (¬ r1 = 0 → k 1 σ1))) := by
      intro u v eu ev
      rw [← eu, ← ev] at H
      have fr : Fr [] [71] σ (sA (sA (sA (sA (sA (sA σ 71 0 a) 71 1 b) 71 2 (nI D)) 71 3 (ar σ 58 D)) 71 4 u) 71 5 v) := (Fr.rf.wA.wA.wA.wA.wA.wA).mono (by simp) (by simp)
      have hL2 := R_tl.fr fr rfl rfl hL
      refine m_gives (F := fF a b (nI D) (ar σ 58 D) u v) (by omega) hL2.2.2.1 hL2.2.2.2.2 (fun j hj => ?_) (fun τ hτ => ?_)
      · match j, hj with
        | 0, _ => rfl
        | 1, _ => rfl
        | 2, _ => rfl
        | 3, _ => rfl
        | 4, _ => rfl
        | 5, _ => rfl
        | z + 6, q => omega
      · have := H τ ((fr.tr hτ).mono (by simp) (by simp))
        refine ⟨fun z => ?_, fun z => ?_⟩
        · rw [show lawB (some ls) a b (nI D) (ar σ 58 D) u v = false by unfold lawB; simp [z]] at this
          exact this
        · rw [show lawB (some ls) a b (nI D) (ar σ 58 D) u v = true by unfold lawB; simp [z]] at this
          exact this
    have n0 : ¬ rg σ 3551 = 0 := by
      rw [hL.1]
      decide
    cases t with
    | true => exact ⟨fun _ => ⟨vD, fun q => absurd q (by decide), fun _ => ⟨vD, fun q => absurd q (by decide), fun _ => ⟨vD, go _ _ rfl rfl⟩⟩⟩, fun q => absurd q n0⟩
    | false => exact ⟨fun _ => ⟨vD, fun _ => ⟨vD, fun _ => ⟨vD, go _ _ rfl rfl⟩, fun q => absurd rfl q⟩, fun q => absurd rfl q⟩, fun q => absurd q n0⟩
end LawX
