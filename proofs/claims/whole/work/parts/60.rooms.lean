/-! arrangements as numbers: rooms, two who change, how many are in a room -/
def rmN (a p : Nat) : Nat := a / 4 ^ p % 4
theorem rmN_lt (a p : Nat) : rmN a p < 4 := Nat.mod_lt _ (by decide)
theorem rmN_enc {f : Nat → Nat} : ∀ {n p : Nat}, p < n → (∀ j, j < n → f j < 4) → rmN (enc f n) p = f p
  | 0, p, hp, _ => absurd hp (Nat.not_lt_zero p)
  | n + 1, p, hp, h => by
    have hn := fun j hj => h j (Nat.lt_succ_of_lt hj)
    have hlt := enc_lt hn
    show (enc f n + f n * 4 ^ n) / 4 ^ p % 4 = f p
    rcases Nat.lt_or_ge p n with q | q
    · have ih := rmN_enc q hn
      have e : f n * 4 ^ n = 4 ^ p * (4 * (f n * 4 ^ (n - p - 1))) := by
        have e1 : 4 ^ n = 4 ^ p * (4 * 4 ^ (n - p - 1)) := by
          rw [← Nat.pow_succ', ← Nat.pow_add]
          congr 1
          omega
        rw [e1]
        simp [Nat.mul_comm, Nat.mul_left_comm]
      rw [e, Nat.add_mul_div_left _ _ (Nat.pow_pos (by decide)), Nat.add_mul_mod_self_left]
      exact ih
    · have e : p = n := by omega
      subst e
      rw [Nat.add_mul_div_right _ _ (Nat.pow_pos (by decide)), Nat.div_eq_of_lt hlt, Nat.zero_add]
      exact Nat.mod_eq_of_lt (h p (by omega))
theorem enc_rmN : ∀ (n a : Nat), enc (rmN a) n = a % 4 ^ n
  | 0, a => by
    show 0 = a % 1
    omega
  | n + 1, a => by
    show enc (rmN a) n + rmN a n * 4 ^ n = a % 4 ^ (n + 1)
    rw [enc_rmN n a, Nat.pow_succ, Nat.mod_mul]
    show a % 4 ^ n + (a / 4 ^ n % 4) * 4 ^ n = a % 4 ^ n + 4 ^ n * (a / 4 ^ n % 4)
    rw [Nat.mul_comm]
theorem enc_self {n a : Nat} (h : a < 4 ^ n) : enc (rmN a) n = a := by rw [enc_rmN, Nat.mod_eq_of_lt h]
def swf (f : Nat → Nat) (p q : Nat) : Nat → Nat := pu (pu f p (f q)) q (f p)
def swp (n a p q : Nat) : Nat := enc (swf (rmN a) p q) n
theorem swf_lt {f : Nat → Nat} {p q : Nat} (h : ∀ j, f j < 4) (j : Nat) : swf f p q j < 4 := by
  unfold swf pu
  split
  · exact h p
  · split
    · exact h q
    · exact h j
theorem swp_lt {n a p q : Nat} : swp n a p q < 4 ^ n := enc_lt (fun j _ => swf_lt (rmN_lt a) j)
theorem rm_swp {n a p q j : Nat} (hj : j < n) : rmN (swp n a p q) j = swf (rmN a) p q j := rmN_enc hj (fun j _ => swf_lt (rmN_lt a) j)
theorem swp_swp {n a p q : Nat} (ha : a < 4 ^ n) (hp : p < n) (hq : q < n) (hpq : p ≠ q) : swp n (swp n a p q) p q = a := by
  have e : swp n (swp n a p q) p q = enc (rmN a) n := by
    show enc (swf (rmN (swp n a p q)) p q) n = _
    refine enc_congr (fun j hj => ?_)
    have e1 : swf (rmN (swp n a p q)) p q j = if j = q then swf (rmN a) p q p else if j = p then swf (rmN a) p q q else swf (rmN a) p q j := by
      show (if j = q then rmN (swp n a p q) p else if j = p then rmN (swp n a p q) q else rmN (swp n a p q) j) = _
      rw [rm_swp hp, rm_swp hq, rm_swp hj]
    rw [e1]
    unfold swf pu
    by_cases h1 : j = q
    · simp [h1, hpq]
    · by_cases h2 : j = p
      · simp [h2, hpq]
      · simp [h1, h2]
  rw [e, enc_self ha]
theorem lt7 {n a : Nat} (hn : n ≤ 7) (ha : a < 4 ^ n) : a < 16384 := Nat.lt_of_lt_of_le ha (Nat.le_trans (Nat.pow_le_pow_right (by decide) hn) (by decide))
/-- how the ints say it -/
theorem i_room {n a p : Nat} (hn : n ≤ 7) (ha : a < 4 ^ n) (hp : p < 7) : (nI a >>> ((2 * nI p) &&& 31)) &&& 3 = nI (rmN a p) := by
  have hs : a < 2 ^ 31 := Nat.lt_trans (lt7 hn ha) (by decide)
  rw [i_shr (by omega) _ hs, pk_andN (Nat.lt_of_le_of_lt (Nat.div_le_self _ _) (Nat.lt_trans hs (by decide))) 2 (by decide)]
  unfold rmN
  rw [pow42]
theorem i_put1 {n p r : Nat} {f : Nat → Nat} (hn : n ≤ 7) (hp : p < n) (h : ∀ j, f j < 4) (hr : r < 4) : ((nI (enc f n)) &&& (((3 : Int32) <<< ((2 * nI p) &&& 31)) ^^^ (-1))) ||| (nI r <<< ((2 * nI p) &&& 31)) = nI (enc (pu f p r) n) := enc_put (by omega) hp (fun j _ => h j) hr (Or.inl rfl)
theorem i_swM {n a p q : Nat} (hn : n ≤ 7) (ha : a < 4 ^ n) (hp : p < n) (hq : q < n) : (((nI a &&& (((3 : Int32) <<< ((2 * nI p) &&& 31)) ^^^ (-1))) ||| (((nI a >>> ((2 * nI q) &&& 31)) &&& 3) <<< ((2 * nI p) &&& 31))) &&& (((3 : Int32) <<< ((2 * nI q) &&& 31)) ^^^ (-1))) ||| (((nI a >>> ((2 * nI p) &&& 31)) &&& 3) <<< ((2 * nI q) &&& 31)) = nI (swp n a p q) := by
  rw [i_room hn ha (p := p) (by omega), i_room hn ha (p := q) (by omega)]
  have e : nI a = nI (enc (rmN a) n) := by rw [enc_self ha]
  rw [e, i_put1 hn hp (rmN_lt a) (rmN_lt a q), i_put1 hn hq (fun j => ?_) (rmN_lt a p)]
  · rfl
  · unfold pu
    split
    · exact rmN_lt a q
    · exact rmN_lt a j
theorem rmN_bit {a p i : Nat} : (rmN a p).testBit i = (decide (i < 2) && a.testBit (2 * p + i)) := by
  unfold rmN
  rw [pow42, show (4 : Nat) = 2 ^ 2 from rfl, Nat.testBit_mod_two_pow, Nat.testBit_div_two_pow, Nat.add_comm]
theorem i_swC {n a p q o : Nat} (hn : n ≤ 7) (ha : a < 4 ^ n) (hp : p < n) (hq : q < n) (hpq : p ≠ q) (ho : o = rmN a p ^^^ rmN a q) : (nI a ^^^ (nI o <<< ((2 * nI p) &&& 31))) ^^^ (nI o <<< ((2 * nI q) &&& 31)) = nI (swp n a p q) := by
  have ho4 : o < 4 := by
    rw [ho]
    exact Nat.xor_lt_two_pow (n := 2) (rmN_lt a p) (rmN_lt a q)
  rw [i_shl (by omega) _ ho4, i_shl (by omega) _ ho4, i_xor, i_xor]
  congr 1
  apply Nat.eq_of_testBit_eq
  intro i
  show _ = (enc (swf (rmN a) p q) n).testBit i
  rw [enc_bit (fun j _ => swf_lt (rmN_lt a) j), Nat.testBit_xor, Nat.testBit_xor, Nat.testBit_mul_two_pow, Nat.testBit_mul_two_pow]
  have ea : a.testBit i = (decide (i / 2 < n) && (rmN a (i / 2)).testBit (i % 2)) := by
    conv => lhs; rw [← enc_self ha]
    exact enc_bit (fun j _ => rmN_lt a j) i
  rw [ea]
  unfold swf pu
  by_cases h1 : i / 2 = p
  · have a1 : 2 * p ≤ i := by omega
    have a2 : i - 2 * p = i % 2 := by omega
    have a4 : o.testBit (i - 2 * q) = false ∨ i < 2 * q := by
      by_cases z : i < 2 * q
      · exact Or.inr z
      · exact Or.inl (small_bit ho4 (by omega))
    have a5 : (decide (i ≥ 2 * q) && o.testBit (i - 2 * q)) = false := by
      rcases a4 with z | z
      · rw [z, Bool.and_false]
      · have : ¬ i ≥ 2 * q := by omega
        simp [this]
    rw [a5, a2, h1, ho, Nat.testBit_xor]
    simp [hp, hpq, a1]
  · by_cases h2 : i / 2 = q
    · have a1 : 2 * q ≤ i := by omega
      have a2 : i - 2 * q = i % 2 := by omega
      have a5 : (decide (i ≥ 2 * p) && o.testBit (i - 2 * p)) = false := by
        by_cases z : i < 2 * p
        · have : ¬ i ≥ 2 * p := by omega
          simp [this]
        · rw [small_bit ho4 (i := i - 2 * p) (by omega), Bool.and_false]
      rw [a5, a2, h2, ho, Nat.testBit_xor]
      simp [hq, a1]
      cases (rmN a q).testBit (i % 2) <;> cases (rmN a p).testBit (i % 2) <;> rfl
    · have b1 : (decide (i ≥ 2 * p) && o.testBit (i - 2 * p)) = false := by
        by_cases z : i < 2 * p
        · have : ¬ i ≥ 2 * p := by omega
          simp [this]
        · rw [small_bit ho4 (i := i - 2 * p) (by omega), Bool.and_false]
      have b2 : (decide (i ≥ 2 * q) && o.testBit (i - 2 * q)) = false := by
        by_cases z : i < 2 * q
        · have : ¬ i ≥ 2 * q := by omega
          simp [this]
        · rw [small_bit ho4 (i := i - 2 * q) (by omega), Bool.and_false]
      rw [b1, b2]
      simp [h1, h2]
/-- how many of the first n are in room x -/
def cnt (f : Nat → Nat) (x : Nat) : Nat → Nat
  | 0 => 0
  | n + 1 => cnt f x n + if f n = x then 1 else 0
theorem cnt_congr {f f2 : Nat → Nat} {x : Nat} : ∀ {n : Nat}, (∀ j, j < n → f j = f2 j) → cnt f x n = cnt f2 x n
  | 0, _ => rfl
  | n + 1, h => by
    show cnt f x n + _ = cnt f2 x n + _
    rw [cnt_congr (fun j hj => h j (Nat.lt_succ_of_lt hj)), h n (Nat.lt_succ_self n)]
theorem cnt_pu {f : Nat → Nat} {x p r : Nat} : ∀ {n : Nat}, p < n → cnt (pu f p r) x n + (if f p = x then 1 else 0) = cnt f x n + (if r = x then 1 else 0)
  | 0, h => absurd h (Nat.not_lt_zero p)
  | n + 1, h => by
    show cnt (pu f p r) x n + (if pu f p r n = x then 1 else 0) + _ = cnt f x n + (if f n = x then 1 else 0) + _
    by_cases e : p = n
    · subst e
      have h1 : cnt (pu f p r) x p = cnt f x p := cnt_congr (fun j hj => if_neg (by omega))
      have h2 : pu f p r p = r := if_pos rfl
      rw [h1, h2]
      omega
    · have ih := cnt_pu (f := f) (x := x) (p := p) (r := r) (n := n) (by omega)
      have h2 : pu f p r n = f n := if_neg (fun q => e q.symm)
      rw [h2]
      omega
theorem cnt_swf {f : Nat → Nat} {x p q n : Nat} (hp : p < n) (hq : q < n) (hpq : p ≠ q) : cnt (swf f p q) x n = cnt f x n := by
  have h1 := cnt_pu (f := f) (x := x) (p := p) (r := f q) hp
  have h2 := cnt_pu (f := pu f p (f q)) (x := x) (p := q) (r := f p) hq
  have h3 : pu f p (f q) q = f q := if_neg (fun z => hpq z.symm)
  rw [h3] at h2
  unfold swf
  omega
def hst (n a x : Nat) : Nat := cnt (rmN a) x n
theorem hst_swp {n a p q x : Nat} (hp : p < n) (hq : q < n) (hpq : p ≠ q) : hst n (swp n a p q) x = hst n a x := by
  unfold hst
  rw [cnt_congr (fun j hj => rm_swp hj), cnt_swf hp hq hpq]
/-- all arrangements with so many in each room -/
def allH : Nat → Nat → Nat → Nat → Nat → List Nat
  | 0, _, _, _, _ => [0]
  | n + 1, c0, c1, c2, c3 =>
    (if c0 = 0 then [] else allH n (c0 - 1) c1 c2 c3) ++ ((if c1 = 0 then [] else (allH n c0 (c1 - 1) c2 c3).map (· + 1 * 4 ^ n)) ++
    ((if c2 = 0 then [] else (allH n c0 c1 (c2 - 1) c3).map (· + 2 * 4 ^ n)) ++ (if c3 = 0 then [] else (allH n c0 c1 c2 (c3 - 1)).map (· + 3 * 4 ^ n))))
def numH : Nat → Nat → Nat → Nat → Nat → Nat
  | 0, _, _, _, _ => 1
  | n + 1, c0, c1, c2, c3 => (if c0 = 0 then 0 else numH n (c0 - 1) c1 c2 c3) + ((if c1 = 0 then 0 else numH n c0 (c1 - 1) c2 c3) + ((if c2 = 0 then 0 else numH n c0 c1 (c2 - 1) c3) + (if c3 = 0 then 0 else numH n c0 c1 c2 (c3 - 1))))
theorem allH_len : ∀ n c0 c1 c2 c3, (allH n c0 c1 c2 c3).length = numH n c0 c1 c2 c3
  | 0, _, _, _, _ => rfl
  | n + 1, c0, c1, c2, c3 => by
    have e : ∀ (b : Prop) [Decidable b] (l : List Nat), (if b then ([] : List Nat) else l).length = if b then 0 else l.length := by
      intro b _ l
      split <;> rfl
    show ((if c0 = 0 then [] else _) ++ _).length = (if c0 = 0 then 0 else _) + _
    rw [List.length_append, List.length_append, List.length_append, e, e, e, e, List.length_map, List.length_map, List.length_map, allH_len, allH_len, allH_len, allH_len]
theorem mem_allH : ∀ (n a c0 c1 c2 c3 : Nat), a < 4 ^ n → hst n a 0 = c0 → hst n a 1 = c1 → hst n a 2 = c2 → hst n a 3 = c3 → a ∈ allH n c0 c1 c2 c3
  | 0, a, _, _, _, _, h, _, _, _, _ => by
    have e : a = 0 := by simpa using h
    subst e
    exact List.mem_singleton.mpr rfl
  | n + 1, a, c0, c1, c2, c3, h, h0, h1, h2, h3 => by
    have hlo : a % 4 ^ n < 4 ^ n := Nat.mod_lt _ (Nat.pow_pos (by decide))
    have ed : ∀ x, hst n (a % 4 ^ n) x = hst n a x := by
      intro x
      unfold hst
      refine cnt_congr (fun j hj => ?_)
      have := rmN_enc (f := rmN a) hj (fun j _ => rmN_lt a j)
      rw [enc_rmN] at this
      exact this
    have es : ∀ x, hst (n + 1) a x = hst n a x + if rmN a n = x then 1 else 0 := fun x => rfl
    have ea : a = a % 4 ^ n + rmN a n * 4 ^ n := by
      have := enc_rmN (n + 1) a
      rw [Nat.mod_eq_of_lt h] at this
      have h9 : enc (rmN a) (n + 1) = enc (rmN a) n + rmN a n * 4 ^ n := rfl
      rw [h9, enc_rmN] at this
      exact this.symm
    rw [es] at h0 h1 h2 h3
    have r4 := rmN_lt a n
    have cases4 : rmN a n = 0 ∨ rmN a n = 1 ∨ rmN a n = 2 ∨ rmN a n = 3 := by omega
    unfold allH
    rw [List.mem_append, List.mem_append, List.mem_append]
    rcases cases4 with r | r | r | r
    · rw [r] at h0 h1 h2 h3 ea
      simp at h0 h1 h2 h3 ea
      left
      rw [if_neg (by omega), ea]
      exact mem_allH n _ _ _ _ _ hlo (by rw [ed]; omega) (by rw [ed]; omega) (by rw [ed]; omega) (by rw [ed]; omega)
    · rw [r] at h0 h1 h2 h3 ea
      simp at h0 h1 h2 h3
      right; left
      rw [if_neg (by omega), ea]
      exact List.mem_map_of_mem (f := (· + 1 * 4 ^ n)) (mem_allH n _ _ _ _ _ hlo (by rw [ed]; omega) (by rw [ed]; omega) (by rw [ed]; omega) (by rw [ed]; omega))
    · rw [r] at h0 h1 h2 h3 ea
      simp at h0 h1 h2 h3
      right; right; left
      rw [if_neg (by omega), ea]
      exact List.mem_map_of_mem (f := (· + 2 * 4 ^ n)) (mem_allH n _ _ _ _ _ hlo (by rw [ed]; omega) (by rw [ed]; omega) (by rw [ed]; omega) (by rw [ed]; omega))
    · rw [r] at h0 h1 h2 h3 ea
      simp at h0 h1 h2 h3
      right; right; right
      rw [if_neg (by omega), ea]
      exact List.mem_map_of_mem (f := (· + 3 * 4 ^ n)) (mem_allH n _ _ _ _ _ hlo (by rw [ed]; omega) (by rw [ed]; omega) (by rw [ed]; omega) (by rw [ed]; omega))
theorem cnt_sum {f : Nat → Nat} (h : ∀ j, f j < 4) : ∀ n, cnt f 0 n + cnt f 1 n + cnt f 2 n + cnt f 3 n = n
  | 0 => rfl
  | n + 1 => by
    have ih := cnt_sum h n
    have h4 := h n
    have c4 : f n = 0 ∨ f n = 1 ∨ f n = 2 ∨ f n = 3 := by omega
    show cnt f 0 n + (if f n = 0 then 1 else 0) + (cnt f 1 n + (if f n = 1 then 1 else 0)) + (cnt f 2 n + (if f n = 2 then 1 else 0)) + (cnt f 3 n + (if f n = 3 then 1 else 0)) = n + 1
    rcases c4 with r | r | r | r <;> rw [r] <;> simp <;> omega
theorem numH_tab : ∀ n : Fin 8, ∀ c1 c2 c3 : Fin 8, c1.val + c2.val + c3.val ≤ n.val → numH n.val (n.val - c1.val - c2.val - c3.val) c1.val c2.val c3.val ≤ 630 := by decide +kernel
/-- a row of unlike things that all lie in another row isn't longer -/
theorem nodup_le {α : Type} : ∀ {L M : List α}, L.Nodup → (∀ x ∈ L, x ∈ M) → L.length ≤ M.length
  | [], _, _, _ => Nat.zero_le _
  | x :: L, M, h, hs => by
    obtain ⟨s, t, e⟩ := List.append_of_mem (hs x List.mem_cons_self)
    have h2 := List.nodup_cons.mp h
    have ih := nodup_le (L := L) (M := s ++ t) h2.2 (fun y hy => by
      have := hs y (List.mem_cons_of_mem _ hy)
      rw [e] at this
      rcases List.mem_append.mp this with q | q
      · exact List.mem_append_left _ q
      · rcases List.mem_cons.mp q with q | q
        · subst q
          exact absurd hy h2.1
        · exact List.mem_append_right _ q)
    rw [e]
    simp at ih ⊢
    omega
theorem few_of_hst {n a0 : Nat} {L : List Nat} (hn : n ≤ 7) (hL : L.Nodup) (h : ∀ a ∈ L, a < 4 ^ n ∧ ∀ x, x < 4 → hst n a x = hst n a0 x) : L.length ≤ 630 := by
  have hs := cnt_sum (rmN_lt a0) n
  have h1 := nodup_le (M := allH n (hst n a0 0) (hst n a0 1) (hst n a0 2) (hst n a0 3)) hL (fun a ha => by
    obtain ⟨q1, q2⟩ := h a ha
    exact mem_allH n a _ _ _ _ q1 (q2 0 (by decide)) (q2 1 (by decide)) (q2 2 (by decide)) (q2 3 (by decide)))
  rw [allH_len] at h1
  have h2 := numH_tab ⟨n, by omega⟩ ⟨hst n a0 1, by unfold hst; omega⟩ ⟨hst n a0 2, by unfold hst; omega⟩ ⟨hst n a0 3, by unfold hst; omega⟩ (by show hst n a0 1 + hst n a0 2 + hst n a0 3 ≤ n; unfold hst; omega)
  have h3 : n - hst n a0 1 - hst n a0 2 - hst n a0 3 = hst n a0 0 := by unfold hst; omega
  simp only [h3] at h2
  omega
