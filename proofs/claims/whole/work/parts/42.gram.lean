/-! the grammar of a law, as one walk over the bytes -/
abbrev Md : Type := Nat ⊕ (Nat × List Tok) ⊕ Unit
abbrev PR : Type := (Nat × List Tok) ⊕ Nat
abbrev isJ (c : Int32) (lv : Nat) : Prop := if lv = 0 then c = 124 else if lv = 1 then c = 38 else if lv = 2 then (c = 60 ∨ c = 61 ∨ c = 62) else if lv = 3 then (c = 43 ∨ c = 45) else (c = 42 ∨ c = 47 ∨ c = 37)
abbrev isD (c : Int32) : Prop := ¬ c < 48 ∧ ¬ 57 < c
def nmI (c : Int32) : Int32 := if c = 97 then 0 else if c = 98 then 1 else if c = 100 then 2 else if c = 107 then 3 else if c = 105 then 4 else if c = 106 then 5 else -1
def gx (b : Nat → Int32) (n a : Nat) : Int32 := if a < n then b a else -1
def gnum (b : Nat → Int32) (n : Nat) : Nat → Int32 → Nat → PR
  | 0, v, a => if isD (gx b n a) then .inr a else .inl (a, [(1, v)])
  | f + 1, v, a => if isD (gx b n a) then gnum b n f (10 * v + gx b n a - 48) (a + 1) else .inl (a, [(1, v)])
def par (b : Nat → Int32) (n : Nat) : Nat → Md → Nat → Nat → Option PR
  | 0, _, _, _ => none
  | f + 1, .inl lv, op, a => if 5 ≤ lv then par b n f (.inr (.inr ())) op a else
      match par b n f (.inl (lv + 1)) op a with
      | none => none
      | some (.inr p) => some (.inr p)
      | some (.inl (a1, ts)) => par b n f (.inr (.inl (lv, ts))) op a1
  | f + 1, .inr (.inl (lv, ts)), op, a => if isJ (gx b n a) lv then
      match par b n f (.inl (lv + 1)) op (a + 1) with
      | none => none
      | some (.inr p) => some (.inr p)
      | some (.inl (a2, t2)) => if lv = 2 then some (.inl (a2, ts ++ t2 ++ [(gx b n a, 0)])) else par b n f (.inr (.inl (lv, ts ++ t2 ++ [(gx b n a, 0)]))) op a2
      else some (.inl (a, ts))
  | f + 1, .inr (.inr ()), op, a => if isD (gx b n a) then some (gnum b n 4 0 a) else if nmI (gx b n a) ≠ -1 then some (.inl (a + 1, [(2, nmI (gx b n a))])) else if 6 ≤ op then some (.inr a)
      else if gx b n a = 33 ∨ gx b n a = 45 then
        match par b n f (.inr (.inr ())) (op + 1) (a + 1) with
        | none => none
        | some (.inr p) => some (.inr p)
        | some (.inl (a1, ts)) => some (.inl (a1, ts ++ [(if gx b n a = 33 then 3 else 4, 0)]))
      else if gx b n a = 40 then
        match par b n f (.inl 0) (op + 1) (a + 1) with
        | none => none
        | some (.inr p) => some (.inr p)
        | some (.inl (a1, ts)) => if gx b n a1 = 41 then some (.inl (a1 + 1, ts)) else some (.inr a1)
      else some (.inr a)
section Gram
variable {b : Nat → Int32} {n : Nat}
theorem gx_lt {a : Nat} (h : gx b n a ≠ -1) : a < n := by
  unfold gx at h
  by_cases c : a < n
  · exact c
  · rw [if_neg c] at h
    exact absurd rfl h
theorem isD_ne {c : Int32} (h : isD c) : c ≠ -1 := fun e => absurd (show (-1 : Int32) < 48 by decide) (e ▸ h.1)
theorem isJ_cases {c : Int32} {lv : Nat} (h : isJ c lv) : c = 124 ∨ c = 38 ∨ c = 60 ∨ c = 61 ∨ c = 62 ∨ c = 43 ∨ c = 45 ∨ c = 42 ∨ c = 47 ∨ c = 37 := by
  unfold isJ at h
  split at h
  · exact Or.inl h
  · split at h
    · exact Or.inr (Or.inl h)
    · split at h
      · rcases h with h | h | h <;> simp [h]
      · split at h
        · rcases h with h | h <;> simp [h]
        · rcases h with h | h | h <;> simp [h]
theorem isJ_ne {c : Int32} {lv : Nat} (h : isJ c lv) : c ≠ -1 := by
  rcases isJ_cases h with e | e | e | e | e | e | e | e | e | e <;> rw [e] <;> decide
theorem nmI_cases {c : Int32} (h : nmI c ≠ -1) : (c = 97 ∧ nmI c = 0) ∨ (c = 98 ∧ nmI c = 1) ∨ (c = 100 ∧ nmI c = 2) ∨ (c = 107 ∧ nmI c = 3) ∨ (c = 105 ∧ nmI c = 4) ∨ (c = 106 ∧ nmI c = 5) := by
  unfold nmI at h ⊢
  by_cases c1 : c = 97
  · subst c1; decide
  by_cases c2 : c = 98
  · subst c2; decide
  by_cases c3 : c = 100
  · subst c3; decide
  by_cases c4 : c = 107
  · subst c4; decide
  by_cases c5 : c = 105
  · subst c5; decide
  by_cases c6 : c = 106
  · subst c6; decide
  rw [if_neg c1, if_neg c2, if_neg c3, if_neg c4, if_neg c5, if_neg c6] at h
  exact absurd rfl h
theorem nmI_ne {c : Int32} (h : nmI c ≠ -1) : c ≠ -1 := by
  rcases nmI_cases h with ⟨e, -⟩ | ⟨e, -⟩ | ⟨e, -⟩ | ⟨e, -⟩ | ⟨e, -⟩ | ⟨e, -⟩ <;> rw [e] <;> decide
/-- a list of tokens that leaves one more value -/
def One (ts : List Tok) : Prop := (∀ t ∈ ts, tk_ok t) ∧ ∀ k rest, tk_dep k (ts ++ rest) = tk_dep (k + 1) rest
theorem One.num {v : Int32} (h : 0 ≤ v) : One [(1, v)] := ⟨fun t ht => by rw [List.mem_singleton] at ht; subst ht; exact Or.inl ⟨rfl, h⟩, fun k rest => by
  show tk_dep k ((1, v) :: rest) = _
  rw [tk_dep, if_pos (Or.inl rfl)]⟩
theorem One.name {c : Int32} (h : nmI c ≠ -1) : One [(2, nmI c)] := ⟨fun t ht => by
  rw [List.mem_singleton] at ht
  subst ht
  refine Or.inr (Or.inl ⟨rfl, ?_⟩)
  rcases nmI_cases h with ⟨-, e⟩ | ⟨-, e⟩ | ⟨-, e⟩ | ⟨-, e⟩ | ⟨-, e⟩ | ⟨-, e⟩ <;> (show 0 ≤ nmI c ∧ nmI c ≤ 5; rw [e]; decide), fun k rest => by
  show tk_dep k ((2, nmI c) :: rest) = _
  rw [tk_dep, if_pos (Or.inr rfl)]⟩
theorem One.un {ts : List Tok} {m : Int32} (h : One ts) (hm : m = 3 ∨ m = 4) : One (ts ++ [(m, 0)]) := ⟨fun t ht => by
  rcases List.mem_append.mp ht with q | q
  · exact h.1 t q
  · rw [List.mem_singleton] at q
    subst q
    exact hm.elim (fun e => Or.inr (Or.inr (Or.inl e))) (fun e => Or.inr (Or.inr (Or.inr (Or.inl e)))), fun k rest => by
  rw [List.append_assoc, h.2]
  show tk_dep (k + 1) ((m, 0) :: rest) = _
  rw [tk_dep, if_neg (by rcases hm with e | e <;> rw [e] <;> decide), if_pos hm, if_pos (by omega)]⟩
theorem One.bin {ts t2 : List Tok} {c : Int32} {lv : Nat} (h : One ts) (h2 : One t2) (hc : isJ c lv) : One (ts ++ t2 ++ [(c, 0)]) := ⟨fun t ht => by
  rcases List.mem_append.mp ht with q | q
  · rcases List.mem_append.mp q with q | q
    · exact h.1 t q
    · exact h2.1 t q
  · rw [List.mem_singleton] at q
    subst q
    exact Or.inr (Or.inr (Or.inr (Or.inr (isJ_cases hc)))), fun k rest => by
  rw [List.append_assoc, List.append_assoc, h.2, h2.2]
  show tk_dep (k + 1 + 1) ((c, 0) :: rest) = _
  have e1 : ¬ ((c, (0 : Int32)).1 = 1 ∨ (c, (0 : Int32)).1 = 2) := by
    rcases isJ_cases hc with e | e | e | e | e | e | e | e | e | e <;> rw [e] <;> decide
  have e2 : ¬ ((c, (0 : Int32)).1 = 3 ∨ (c, (0 : Int32)).1 = 4) := by
    rcases isJ_cases hc with e | e | e | e | e | e | e | e | e | e <;> rw [e] <;> decide
  rw [tk_dep, if_neg e1, if_neg e2, if_pos (by omega)]
  rfl⟩
theorem One.wf {ts : List Tok} (h : One ts) : tk_wf ts := ⟨h.1, by
  have := h.2 0 []
  rw [List.append_nil] at this
  exact this⟩
/-- what a part of the walk leaves -/
def Good (n : Nat) (md : Md) (a : Nat) (r : PR) : Prop := match r with
  | .inr p => a ≤ p ∧ p ≤ n
  | .inl (a1, ts) => a1 ≤ n ∧ One ts ∧ match md with
    | .inr (.inl (_, t0)) => a ≤ a1 ∧ ts.length ≤ t0.length + (a1 - a)
    | _ => a < a1 ∧ ts.length ≤ a1 - a
theorem pow10 (f : Nat) : (10 : Int) ^ (f + 1) = 10 * 10 ^ f := by rw [Int.pow_succ, Int.mul_comm]
theorem num_val {v c : Int32} {f : Nat} (h : isD c) (hv : 0 ≤ v.toInt) (hb : v.toInt ≤ 999) : (10 * v + c - 48).toInt = 10 * v.toInt + (c.toInt - 48) ∧ 0 ≤ c.toInt - 48 ∧ c.toInt - 48 ≤ 9 := by
  have h1 : ¬ c.toInt < 48 := fun q => h.1 (Int32.lt_iff_toInt_lt.mpr q)
  have h2 : ¬ 57 < c.toInt := fun q => h.2 (Int32.lt_iff_toInt_lt.mpr q)
  refine ⟨?_, by omega, by omega⟩
  rw [Int32.toInt_sub, Int32.toInt_add, Int32.toInt_mul]
  show ((((10 : Int) * v.toInt).bmod (2 ^ 32) + c.toInt).bmod (2 ^ 32) - 48).bmod (2 ^ 32) = _
  rw [i32_bmod (z := 10 * v.toInt) (by omega) (by omega), i32_bmod (z := 10 * v.toInt + c.toInt) (by omega) (by omega), i32_bmod (by omega) (by omega)]
  omega
theorem gnum_good : ∀ (f : Nat) (v : Int32) (a a0 : Nat), f ≤ 4 → a ≤ n → a0 ≤ a → (a0 < a ∨ (f ≠ 0 ∧ isD (gx b n a))) → 0 ≤ v.toInt → (v.toInt + 1) * 10 ^ f ≤ 10000 → Good n (.inr (.inr ())) a0 (gnum b n f v a)
  | 0, v, a, a0, hf, ha, h0, hp, hv, hb => by
    rw [gnum]
    split
    · exact ⟨h0, ha⟩
    · have : a0 < a := by
        rcases hp with h | h
        · exact h
        · exact absurd rfl h.1
      refine ⟨ha, One.num (Int32.le_iff_toInt_le.mpr hv), this, ?_⟩
      show 1 ≤ a - a0
      omega
  | f + 1, v, a, a0, hf, ha, h0, hp, hv, hb => by
    rw [gnum]
    split
    · rename_i hd
      have hlt := gx_lt (isD_ne hd)
      have hb3 : v.toInt ≤ 999 := by
        have : (10 : Int) ^ (f + 1) ≥ 10 := by
          rw [pow10]
          have : (1 : Int) ≤ 10 ^ f := by
            have := Int.pow_pos (n := 10) (m := f) (by omega)
            omega
          omega
        have h3 : (v.toInt + 1) * 10 ≤ (v.toInt + 1) * 10 ^ (f + 1) := Int.mul_le_mul_of_nonneg_left this (by omega)
        omega
      obtain ⟨e, e1, e2⟩ := num_val (f := f) hd hv hb3
      refine gnum_good f _ (a + 1) a0 (by omega) hlt (by omega) (Or.inl (by omega)) (by omega) ?_
      rw [e]
      have h4 : (10 * v.toInt + ((gx b n a).toInt - 48) + 1) * 10 ^ f ≤ (10 * (v.toInt + 1)) * 10 ^ f := Int.mul_le_mul_of_nonneg_right (by omega) (by
        have := Int.pow_pos (n := 10) (m := f) (by omega)
        omega)
      rw [pow10] at hb
      have e5 : (10 * (v.toInt + 1)) * 10 ^ f = (v.toInt + 1) * (10 * 10 ^ f) := by
        rw [Int.mul_comm 10 (v.toInt + 1), Int.mul_assoc]
      omega
    · rename_i hd
      have : a0 < a := by
        rcases hp with h | h
        · exact h
        · exact absurd h.2 hd
      refine ⟨ha, One.num (Int32.le_iff_toInt_le.mpr hv), this, ?_⟩
      show 1 ≤ a - a0
      omega
theorem Good.le {md : Md} {a a1 : Nat} {ts : List Tok} (h : Good n md a (.inl (a1, ts))) : a ≤ a1 ∧ a1 ≤ n := by
  obtain ⟨h1, -, h3⟩ := h
  rcases md with lv | ⟨lv, t0⟩ | u
  · exact ⟨Nat.le_of_lt h3.1, h1⟩
  · exact ⟨h3.1, h1⟩
  · exact ⟨Nat.le_of_lt h3.1, h1⟩
def preT (md : Md) : Prop := match md with
  | .inr (.inl (_, t0)) => One t0
  | _ => True
theorem par_good : ∀ (f : Nat) (md : Md) (op a : Nat) (r : PR), a ≤ n → preT md → par b n f md op a = some r → Good n md a r
  | 0, _, _, _, _, _, _, h => by
    rw [par] at h
    cases h
  | f + 1, .inl lv, op, a, r, ha, _, h => by
    rw [par] at h
    by_cases c : 5 ≤ lv
    · rw [if_pos c] at h
      exact par_good f (.inr (.inr ())) op a r ha trivial h
    · rw [if_neg c] at h
      rcases e : par b n f (.inl (lv + 1)) op a with _ | ⟨a1, ts⟩ | p
      · rw [e] at h
        cases h
      · rw [e] at h
        obtain ⟨g1, g2, g3, g4⟩ := par_good f (.inl (lv + 1)) op a _ ha trivial e
        have g := par_good f (.inr (.inl (lv, ts))) op a1 r g1 g2 h
        rcases r with ⟨a2, t2⟩ | p
        · obtain ⟨q1, q2, q3, q4⟩ := g
          exact ⟨q1, q2, by omega, by omega⟩
        · exact ⟨by have := g.1; omega, g.2⟩
      · rw [e] at h
        cases h
        exact par_good f (.inl (lv + 1)) op a _ ha trivial e
  | f + 1, .inr (.inl (lv, ts)), op, a, r, ha, h0, h => by
    rw [par] at h
    by_cases c : isJ (gx b n a) lv
    · rw [if_pos c] at h
      have hlt : a < n := gx_lt (isJ_ne c)
      rcases e : par b n f (.inl (lv + 1)) op (a + 1) with _ | ⟨a2, t2⟩ | p
      · rw [e] at h
        cases h
      · rw [e] at h
        obtain ⟨g1, g2, g3, g4⟩ := par_good f (.inl (lv + 1)) op (a + 1) _ hlt trivial e
        have hO : One (ts ++ t2 ++ [(gx b n a, 0)]) := One.bin h0 g2 c
        have hL : (ts ++ t2 ++ [(gx b n a, 0)]).length = ts.length + t2.length + 1 := by rw [List.length_append, List.length_append]; rfl
        dsimp only at h
        by_cases c2 : lv = 2
        · rw [if_pos c2] at h
          cases h
          exact ⟨g1, hO, by omega, by rw [hL]; show _ ≤ ts.length + _; omega⟩
        · rw [if_neg c2] at h
          have g := par_good f (.inr (.inl (lv, ts ++ t2 ++ [(gx b n a, 0)]))) op a2 r g1 hO h
          rcases r with ⟨a3, t3⟩ | p
          · obtain ⟨q1, q2, q3, q4⟩ := g
            exact ⟨q1, q2, by omega, by rw [hL] at q4; show _ ≤ ts.length + _; omega⟩
          · exact ⟨by have := g.1; omega, g.2⟩
      · rw [e] at h
        cases h
        have g := par_good f (.inl (lv + 1)) op (a + 1) _ hlt trivial e
        exact ⟨by have := g.1; omega, g.2⟩
    · rw [if_neg c] at h
      cases h
      exact ⟨ha, h0, Nat.le_refl _, by show ts.length ≤ ts.length + _; omega⟩
  | f + 1, .inr (.inr ()), op, a, r, ha, _, h => by
    rw [par] at h
    by_cases c : isD (gx b n a)
    · rw [if_pos c] at h
      cases h
      exact gnum_good 4 0 a a (Nat.le_refl _) ha (Nat.le_refl _) (Or.inr ⟨by decide, c⟩) (by decide) (by decide)
    · rw [if_neg c] at h
      by_cases c1 : nmI (gx b n a) ≠ -1
      · rw [if_pos c1] at h
        cases h
        have hlt : a < n := gx_lt (nmI_ne c1)
        exact ⟨hlt, One.name c1, by omega, by show 1 ≤ _; omega⟩
      · rw [if_neg c1] at h
        by_cases c2 : 6 ≤ op
        · rw [if_pos c2] at h
          cases h
          exact ⟨Nat.le_refl _, ha⟩
        · rw [if_neg c2] at h
          by_cases c3 : gx b n a = 33 ∨ gx b n a = 45
          · rw [if_pos c3] at h
            have hlt : a < n := gx_lt (by rcases c3 with e | e <;> rw [e] <;> decide)
            rcases e : par b n f (.inr (.inr ())) (op + 1) (a + 1) with _ | ⟨a1, ts⟩ | p
            · rw [e] at h
              cases h
            · rw [e] at h
              cases h
              obtain ⟨g1, g2, g3, g4⟩ := par_good f (.inr (.inr ())) (op + 1) (a + 1) _ hlt trivial e
              refine ⟨g1, g2.un ?_, by omega, ?_⟩
              · by_cases q : gx b n a = 33
                · rw [if_pos q]
                  exact Or.inl rfl
                · rw [if_neg q]
                  exact Or.inr rfl
              · rw [List.length_append]
                show ts.length + 1 ≤ _
                omega
            · rw [e] at h
              cases h
              have g := par_good f (.inr (.inr ())) (op + 1) (a + 1) _ hlt trivial e
              exact ⟨by have := g.1; omega, g.2⟩
          · rw [if_neg c3] at h
            by_cases c4 : gx b n a = 40
            · rw [if_pos c4] at h
              have hlt : a < n := gx_lt (by rw [c4]; decide)
              rcases e : par b n f (.inl 0) (op + 1) (a + 1) with _ | ⟨a1, ts⟩ | p
              · rw [e] at h
                cases h
              · rw [e] at h
                obtain ⟨g1, g2, g3, g4⟩ := par_good f (.inl 0) (op + 1) (a + 1) _ hlt trivial e
                dsimp only at h
                by_cases c5 : gx b n a1 = 41
                · rw [if_pos c5] at h
                  cases h
                  have h2 : a1 < n := gx_lt (by rw [c5]; decide)
                  exact ⟨h2, g2, by omega, by omega⟩
                · rw [if_neg c5] at h
                  cases h
                  exact ⟨by omega, g1⟩
              · rw [e] at h
                cases h
                have g := par_good f (.inl 0) (op + 1) (a + 1) _ hlt trivial e
                exact ⟨by have := g.1; omega, g.2⟩
            · rw [if_neg c4] at h
              cases h
              exact ⟨Nat.le_refl _, ha⟩
def rank (md : Md) : Nat := match md with
  | .inl lv => 8 - lv
  | .inr (.inl _) => 1
  | .inr (.inr _) => 1
def preL (md : Md) : Prop := match md with
  | .inl lv => lv ≤ 5
  | .inr (.inl (lv, _)) => lv ≤ 4
  | .inr (.inr _) => True
theorem par_tot : ∀ (f : Nat) (md : Md) (op a : Nat), a ≤ n → preT md → preL md → 10 * (n - a) + rank md ≤ f → 1 ≤ f → ∃ r, par b n f md op a = some r
  | 0, _, _, _, _, _, _, _, h => absurd h (by omega)
  | f + 1, .inl lv, op, a, ha, _, hv, h, _ => by
    rw [par]
    have hr : rank (.inl lv) = 8 - lv := rfl
    have hv : lv ≤ 5 := hv
    by_cases c : 5 ≤ lv
    · rw [if_pos c]
      exact par_tot f (.inr (.inr ())) op a ha trivial trivial (by show 10 * (n - a) + 1 ≤ f; omega) (by omega)
    · rw [if_neg c]
      obtain ⟨r, e⟩ := par_tot f (.inl (lv + 1)) op a ha trivial (show lv + 1 ≤ 5 by omega) (by show 10 * (n - a) + (8 - (lv + 1)) ≤ f; omega) (by omega)
      rw [e]
      rcases r with ⟨a1, ts⟩ | p
      · obtain ⟨g1, g2, g3, g4⟩ := par_good f (.inl (lv + 1)) op a _ ha trivial e
        exact par_tot f (.inr (.inl (lv, ts))) op a1 g1 g2 (show lv ≤ 4 by omega) (by show 10 * (n - a1) + 1 ≤ f; omega) (by omega)
      · exact ⟨_, rfl⟩
  | f + 1, .inr (.inl (lv, ts)), op, a, ha, h0, hv, h, _ => by
    rw [par]
    have hr : rank (.inr (.inl (lv, ts))) = 1 := rfl
    have hv : lv ≤ 4 := hv
    by_cases c : isJ (gx b n a) lv
    · rw [if_pos c]
      have hlt : a < n := gx_lt (isJ_ne c)
      obtain ⟨r, e⟩ := par_tot f (.inl (lv + 1)) op (a + 1) hlt trivial (show lv + 1 ≤ 5 by omega) (by show 10 * (n - (a + 1)) + (8 - (lv + 1)) ≤ f; omega) (by omega)
      rw [e]
      rcases r with ⟨a2, t2⟩ | p
      · obtain ⟨g1, g2, g3, g4⟩ := par_good f (.inl (lv + 1)) op (a + 1) _ hlt trivial e
        dsimp only
        by_cases c2 : lv = 2
        · rw [if_pos c2]
          exact ⟨_, rfl⟩
        · rw [if_neg c2]
          exact par_tot f (.inr (.inl (lv, ts ++ t2 ++ [(gx b n a, 0)]))) op a2 g1 (One.bin h0 g2 c) hv (by show 10 * (n - a2) + 1 ≤ f; omega) (by omega)
      · exact ⟨_, rfl⟩
    · rw [if_neg c]
      exact ⟨_, rfl⟩
  | f + 1, .inr (.inr ()), op, a, ha, _, _, h, _ => by
    rw [par]
    have hr : rank (.inr (.inr ())) = 1 := rfl
    by_cases c : isD (gx b n a)
    · rw [if_pos c]
      exact ⟨_, rfl⟩
    · rw [if_neg c]
      by_cases c1 : nmI (gx b n a) ≠ -1
      · rw [if_pos c1]
        exact ⟨_, rfl⟩
      · rw [if_neg c1]
        by_cases c2 : 6 ≤ op
        · rw [if_pos c2]
          exact ⟨_, rfl⟩
        · rw [if_neg c2]
          by_cases c3 : gx b n a = 33 ∨ gx b n a = 45
          · rw [if_pos c3]
            have hlt : a < n := gx_lt (by rcases c3 with e | e <;> rw [e] <;> decide)
            obtain ⟨r, e⟩ := par_tot f (.inr (.inr ())) (op + 1) (a + 1) hlt trivial trivial (by show 10 * (n - (a + 1)) + 1 ≤ f; omega) (by omega)
            rw [e]
            rcases r with ⟨a1, ts⟩ | p
            · exact ⟨_, rfl⟩
            · exact ⟨_, rfl⟩
          · rw [if_neg c3]
            by_cases c4 : gx b n a = 40
            · rw [if_pos c4]
              have hlt : a < n := gx_lt (by rw [c4]; decide)
              obtain ⟨r, e⟩ := par_tot f (.inl 0) (op + 1) (a + 1) hlt trivial (show 0 ≤ 5 by omega) (by show 10 * (n - (a + 1)) + 8 ≤ f; omega) (by omega)
              rw [e]
              rcases r with ⟨a1, ts⟩ | p
              · dsimp only
                by_cases c5 : gx b n a1 = 41
                · rw [if_pos c5]
                  exact ⟨_, rfl⟩
                · rw [if_neg c5]
                  exact ⟨_, rfl⟩
              · exact ⟨_, rfl⟩
            · rw [if_neg c4]
              exact ⟨_, rfl⟩
end Gram
