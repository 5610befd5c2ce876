/-! arrangements: two bits for the room of each -/
theorem i_and (a b : Nat) : nI a &&& nI b = nI (a &&& b) := by
  apply Int32.toBitVec_inj.mp
  apply BitVec.eq_of_toNat_eq
  show (BitVec.ofNat 32 a &&& BitVec.ofNat 32 b).toNat = (BitVec.ofNat 32 (a &&& b)).toNat
  simp only [BitVec.toNat_and, BitVec.toNat_ofNat]
  rw [Nat.and_mod_two_pow]
theorem i_or (a b : Nat) : nI a ||| nI b = nI (a ||| b) := by
  apply Int32.toBitVec_inj.mp
  apply BitVec.eq_of_toNat_eq
  show (BitVec.ofNat 32 a ||| BitVec.ofNat 32 b).toNat = (BitVec.ofNat 32 (a ||| b)).toNat
  simp only [BitVec.toNat_or, BitVec.toNat_ofNat]
  rw [Nat.or_mod_two_pow]
theorem i_xor (a b : Nat) : nI a ^^^ nI b = nI (a ^^^ b) := by
  apply Int32.toBitVec_inj.mp
  apply BitVec.eq_of_toNat_eq
  show (BitVec.ofNat 32 a ^^^ BitVec.ofNat 32 b).toNat = (BitVec.ofNat 32 (a ^^^ b)).toNat
  simp only [BitVec.toNat_xor, BitVec.toNat_ofNat]
  rw [Nat.xor_mod_two_pow]
theorem i_shl {p : Nat} (hp : p < 8) (a : Nat) (h : a < 4) : nI a <<< ((2 * nI p) &&& 31) = nI (a * 2 ^ (2 * p)) := by
  match p, hp with
  | 0, _ => exact pk_shlN _ 0 (by decide) (by omega)
  | 1, _ => exact pk_shlN _ 2 (by decide) (by omega)
  | 2, _ => exact pk_shlN _ 4 (by decide) (by omega)
  | 3, _ => exact pk_shlN _ 6 (by decide) (by omega)
  | 4, _ => exact pk_shlN _ 8 (by decide) (by omega)
  | 5, _ => exact pk_shlN _ 10 (by decide) (by omega)
  | 6, _ => exact pk_shlN _ 12 (by decide) (by omega)
  | 7, _ => exact pk_shlN _ 14 (by decide) (by omega)
  | n + 8, h => omega
theorem i_shr {p : Nat} (hp : p < 8) (a : Nat) (h : a < 2 ^ 31) : nI a >>> ((2 * nI p) &&& 31) = nI (a / 2 ^ (2 * p)) := by
  match p, hp with
  | 0, _ => exact pk_shrN h _ 0 (by decide)
  | 1, _ => exact pk_shrN h _ 2 (by decide)
  | 2, _ => exact pk_shrN h _ 4 (by decide)
  | 3, _ => exact pk_shrN h _ 6 (by decide)
  | 4, _ => exact pk_shrN h _ 8 (by decide)
  | 5, _ => exact pk_shrN h _ 10 (by decide)
  | 6, _ => exact pk_shrN h _ 12 (by decide)
  | 7, _ => exact pk_shrN h _ 14 (by decide)
  | n + 8, h => omega
theorem i_mask {p : Nat} (hp : p < 8) : (((3 : Int32) <<< ((2 * nI p) &&& 31)) ^^^ (-1)) = nI (2 ^ 32 - (3 * 2 ^ (2 * p) + 1)) := by
  match p, hp with
  | 0, _ => decide
  | 1, _ => decide
  | 2, _ => decide
  | 3, _ => decide
  | 4, _ => decide
  | 5, _ => decide
  | 6, _ => decide
  | 7, _ => decide
  | n + 8, h => omega
theorem i_bit {p : Nat} (hp : p < 31) : (1 : Int32) <<< (nI p &&& 31) = nI (2 ^ p) := by
  have h : ∀ q : Fin 31, (1 : Int32) <<< (nI q.val &&& 31) = nI (2 ^ q.val) := by decide +kernel
  exact h ⟨p, hp⟩
theorem pow42 (p : Nat) : 4 ^ p = 2 ^ (2 * p) := by rw [Nat.pow_mul]
theorem enc_lt {pl : Nat → Nat} : ∀ {n : Nat}, (∀ j, j < n → pl j < 4) → enc pl n < 4 ^ n
  | 0, _ => by
    show 0 < 4 ^ 0
    decide
  | n + 1, h => by
    have h1 := enc_lt (n := n) (fun j hj => h j (Nat.lt_succ_of_lt hj))
    have h2 := h n (Nat.lt_succ_self n)
    show enc pl n + pl n * 4 ^ n < 4 ^ (n + 1)
    rw [Nat.pow_succ]
    have : pl n * 4 ^ n ≤ 3 * 4 ^ n := Nat.mul_le_mul_right _ (by omega)
    omega
theorem small_bit {r i : Nat} (h : r < 4) (hi : 2 ≤ i) : r.testBit i = false := Nat.testBit_lt_two_pow (Nat.lt_of_lt_of_le h (by
  have : 2 ^ 2 ≤ 2 ^ i := Nat.pow_le_pow_right (by decide) hi
  exact this))
theorem enc_bit {pl : Nat → Nat} : ∀ {n : Nat}, (∀ j, j < n → pl j < 4) → ∀ i, (enc pl n).testBit i = (decide (i / 2 < n) && (pl (i / 2)).testBit (i % 2))
  | 0, _, i => by simp [enc]
  | n + 1, h, i => by
    have hn := fun j hj => h j (Nat.lt_succ_of_lt hj)
    have h1 : enc pl n < 2 ^ (2 * n) := by rw [← pow42]; exact enc_lt hn
    have e : enc pl (n + 1) = 2 ^ (2 * n) * pl n + enc pl n := by
      show enc pl n + pl n * 4 ^ n = _
      rw [pow42, Nat.mul_comm, Nat.add_comm]
    rw [e, Nat.testBit_two_pow_mul_add _ h1]
    by_cases hi : i < 2 * n
    · rw [if_pos hi, enc_bit hn i]
      have a1 : i / 2 < n := by omega
      have a2 : i / 2 < n + 1 := by omega
      simp [a1, a2]
    · rw [if_neg hi]
      by_cases h2 : i < 2 * n + 2
      · have a1 : i / 2 = n := by omega
        have a2 : i - 2 * n = i % 2 := by omega
        rw [a1, a2]
        simp
      · have a2 : ¬ i / 2 < n + 1 := by omega
        rw [small_bit (h n (Nat.lt_succ_self n)) (by omega)]
        simp [a2]
/-- the room of one -/
theorem room_enc {pl : Nat → Nat} {n p : Nat} (hn : n ≤ 8) (hp : p < 8) (h : ∀ j, j < n → pl j < 4) : (nI (enc pl n) >>> ((2 * nI p) &&& 31)) &&& 3 = nI (if p < n then pl p else 0) := by
  have hl := enc_lt h
  have hl2 : 4 ^ n ≤ 4 ^ 8 := Nat.pow_le_pow_right (by decide) hn
  have hs : enc pl n < 2 ^ 31 := Nat.lt_of_lt_of_le hl (Nat.le_trans hl2 (by decide))
  rw [i_shr hp _ hs, show (3 : Int32) = nI 3 from rfl, i_and]
  congr 1
  apply Nat.eq_of_testBit_eq
  intro i
  rw [Nat.testBit_and, Nat.testBit_div_two_pow, enc_bit h]
  by_cases hi : i < 2
  · have a1 : (i + 2 * p) / 2 = p := by omega
    have a2 : (i + 2 * p) % 2 = i := by omega
    rw [a1, a2]
    have a3 : (3 : Nat).testBit i = true := by
      match i, hi with
      | 0, _ => rfl
      | 1, _ => rfl
      | n + 2, h => omega
    rw [a3, Bool.and_true]
    by_cases hpn : p < n
    · simp [hpn]
    · simp [hpn]
  · have a3 : (3 : Nat).testBit i = false := small_bit (by decide) (by omega)
    rw [a3, Bool.and_false]
    split
    · rename_i hpn
      exact (small_bit (h p hpn) (by omega)).symm
    · simp
/-- f with another value at p -/
def pu (f : Nat → Nat) (p r : Nat) : Nat → Nat := fun j => if j = p then r else f j
theorem put_bit {m r p i : Nat} (hm : m < 2 ^ 32) (hr : r < 4) : ((m &&& (2 ^ 32 - (3 * 2 ^ (2 * p) + 1))) ||| (r * 2 ^ (2 * p))).testBit i = if i / 2 = p ∧ 3 * 2 ^ (2 * p) < 2 ^ 32 then r.testBit (i % 2) else (m &&& (2 ^ 32 - (3 * 2 ^ (2 * p) + 1)) ||| (r * 2 ^ (2 * p))).testBit i := by
  split
  · rename_i h
    obtain ⟨h, h3⟩ := h
    rw [Nat.testBit_or, Nat.testBit_and, Nat.testBit_two_pow_sub_succ h3, Nat.testBit_mul_two_pow, Nat.testBit_mul_two_pow]
    have a1 : i ≥ 2 * p := by omega
    have a2 : i - 2 * p = i % 2 := by omega
    rw [a2]
    have a3 : (3 : Nat).testBit (i % 2) = true := by
      have : i % 2 = 0 ∨ i % 2 = 1 := by omega
      rcases this with e | e <;> rw [e] <;> rfl
    rw [a3]
    simp [a1]
  · rfl
theorem put_bit2 {m r p i : Nat} (hm : m < 2 ^ 32) (hr : r < 4) (h3 : 3 * 2 ^ (2 * p) < 2 ^ 32) (h : ¬ i / 2 = p) : ((m &&& (2 ^ 32 - (3 * 2 ^ (2 * p) + 1))) ||| (r * 2 ^ (2 * p))).testBit i = m.testBit i := by
  rw [Nat.testBit_or, Nat.testBit_and, Nat.testBit_two_pow_sub_succ h3, Nat.testBit_mul_two_pow, Nat.testBit_mul_two_pow]
  by_cases hi : i ≥ 2 * p
  · have b1 : (3 : Nat).testBit (i - 2 * p) = false := small_bit (by decide) (by omega)
    have b2 : r.testBit (i - 2 * p) = false := small_bit hr (by omega)
    rw [b1, b2]
    by_cases h32 : i < 32
    · simp [h32]
    · have : m.testBit i = false := Nat.testBit_lt_two_pow (Nat.lt_of_lt_of_le hm (Nat.pow_le_pow_right (by decide) (by omega)))
      simp [this]
  · by_cases h32 : i < 32
    · simp [hi, h32]
    · have : m.testBit i = false := Nat.testBit_lt_two_pow (Nat.lt_of_lt_of_le hm (Nat.pow_le_pow_right (by decide) (by omega)))
      simp [this, hi]
theorem enc_put {pl : Nat → Nat} {n n2 p r : Nat} (hn : n2 ≤ 8) (hp : p < n2) (h : ∀ j, j < n → pl j < 4) (hr : r < 4) (h2 : n2 = n ∨ (n2 = n + 1 ∧ p = n)) : ((nI (enc pl n)) &&& (((3 : Int32) <<< ((2 * nI p) &&& 31)) ^^^ (-1))) ||| (nI r <<< ((2 * nI p) &&& 31)) = nI (enc (pu pl p r) n2) := by
  have hl := enc_lt h
  have hl2 : 4 ^ n ≤ 4 ^ 8 := Nat.pow_le_pow_right (by decide) (by omega)
  have hs : enc pl n < 2 ^ 32 := Nat.lt_of_lt_of_le hl (Nat.le_trans hl2 (by decide))
  have hp8 : p < 8 := by omega
  have h3 : 3 * 2 ^ (2 * p) < 2 ^ 32 := by
    have : 2 ^ (2 * p) ≤ 2 ^ 14 := Nat.pow_le_pow_right (by decide) (by omega)
    omega
  rw [i_mask hp8, i_and, i_shl hp8 _ hr, i_or]
  congr 1
  apply Nat.eq_of_testBit_eq
  intro i
  have hpu : ∀ j, j < n2 → pu pl p r j < 4 := by
    intro j hj
    unfold pu
    split
    · exact hr
    · exact h j (by omega)
  rw [enc_bit hpu]
  by_cases hi : i / 2 = p
  · rw [put_bit hs hr, if_pos ⟨hi, h3⟩]
    have : i / 2 < n2 := by omega
    simp [this, pu, hi]
    omega
  · rw [put_bit2 hs hr h3 hi, enc_bit h]
    have e : pu pl p r (i / 2) = pl (i / 2) := if_neg hi
    rw [e]
    congr 1
    rw [decide_eq_decide]
    omega
theorem enc_or {pl : Nat → Nat} {n : Nat} (hn : n < 8) (h : ∀ j, j < n → pl j < 4) (hr : pl n < 4) : nI (enc pl n) ||| (nI (pl n) <<< ((2 * nI n) &&& 31)) = nI (enc pl (n + 1)) := by
  rw [i_shl hn _ hr, i_or]
  congr 1
  have h1 : enc pl n < 2 ^ (2 * n) := by rw [← pow42]; exact enc_lt h
  show _ = enc pl n + pl n * 4 ^ n
  rw [Nat.or_comm, Nat.mul_comm, ← Nat.two_pow_add_eq_or_of_lt h1, pow42, Nat.mul_comm, Nat.add_comm]
