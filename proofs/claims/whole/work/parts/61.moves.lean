/-! a world: doors, people, from and to, who may; the changes of an arrangement in their order -/
abbrev Wd : Type := Nat × Nat × (Nat → Nat) × (Nat → Nat) × (Nat → Nat → Nat → Bool)
abbrev Tr : Type := Nat × Nat × Nat
def canB (W : Wd) (a : Nat) (t : Tr) : Bool := W.2.2.2.2 t.1 t.2.1 t.2.2 && (decide (rmN a t.2.1 = W.2.2.1 t.1) && decide (rmN a t.2.2 = W.2.2.2.1 t.1))
def wd_ok (W : Wd) : Prop := (W.1 ≤ 5 ∧ W.2.1 ≤ 7) ∧ (∀ d, d < W.1 → W.2.2.1 d < 4 ∧ W.2.2.2.1 d < 4 ∧ W.2.2.1 d ≠ W.2.2.2.1 d)
def mvQ (W : Wd) (a d p : Nat) : Nat → Nat → List Tr
  | 0, _ => []
  | m + 1, q => (if canB W a (d, p, q) = true then [(d, p, q)] else []) ++ mvQ W a d p m (q + 1)
def mvP (W : Wd) (a d : Nat) : Nat → Nat → List Tr
  | 0, _ => []
  | m + 1, p => mvQ W a d p W.2.1 0 ++ mvP W a d m (p + 1)
def mvD (W : Wd) (a : Nat) : Nat → Nat → List Tr
  | 0, _ => []
  | m + 1, d => mvP W a d W.2.1 0 ++ mvD W a m (d + 1)
def mvs (W : Wd) (a : Nat) : List Tr := mvD W a W.1 0
def mcode (t : Tr) : Nat := 100 * t.1 + 10 * t.2.1 + t.2.2
theorem mem_if1 {α : Type} {b : Prop} [Decidable b] {x y : α} : x ∈ (if b then [y] else []) ↔ b ∧ x = y := by
  split
  · rename_i h
    simp [h]
  · rename_i h
    simp [h]
theorem mem_mvQ {W : Wd} {a d p : Nat} {t : Tr} : ∀ {m q : Nat}, t ∈ mvQ W a d p m q ↔ (t.1 = d ∧ t.2.1 = p ∧ q ≤ t.2.2 ∧ t.2.2 < q + m) ∧ canB W a t = true
  | 0, q => by
    refine ⟨fun h => (by cases h), fun h => ?_⟩
    omega
  | m + 1, q => by
    unfold mvQ
    rw [List.mem_append, mem_if1, mem_mvQ]
    obtain ⟨t1, t2, t3⟩ := t
    constructor
    · rintro (⟨h1, h2⟩ | ⟨⟨h1, h2, h3, h4⟩, h5⟩)
      · cases h2
        exact ⟨⟨rfl, rfl, Nat.le_refl _, Nat.lt_add_of_pos_right (Nat.succ_pos _)⟩, h1⟩
      · exact ⟨⟨h1, h2, by omega, by omega⟩, h5⟩
    · rintro ⟨⟨h1, h2, h3, h4⟩, h5⟩
      by_cases e : t3 = q
      · left
        have h1 : t1 = d := h1
        have h2 : t2 = p := h2
        subst e h1 h2
        exact ⟨h5, rfl⟩
      · right
        have h3 : q ≤ t3 := h3
        exact ⟨⟨h1, h2, by show q + 1 ≤ t3; omega, by show t3 < _; have : t3 < q + (m + 1) := h4; omega⟩, h5⟩
theorem mem_mvP {W : Wd} {a d : Nat} {t : Tr} : ∀ {m p : Nat}, t ∈ mvP W a d m p ↔ (t.1 = d ∧ p ≤ t.2.1 ∧ t.2.1 < p + m ∧ t.2.2 < W.2.1) ∧ canB W a t = true
  | 0, p => by
    refine ⟨fun h => (by cases h), fun h => ?_⟩
    omega
  | m + 1, p => by
    unfold mvP
    rw [List.mem_append, mem_mvQ, mem_mvP]
    constructor
    · rintro (⟨h1, h2⟩ | ⟨h1, h2⟩)
      · exact ⟨by omega, h2⟩
      · exact ⟨by omega, h2⟩
    · rintro ⟨h1, h2⟩
      by_cases e : t.2.1 = p
      · exact Or.inl ⟨by omega, h2⟩
      · exact Or.inr ⟨by omega, h2⟩
theorem mem_mvD {W : Wd} {a : Nat} {t : Tr} : ∀ {m d : Nat}, t ∈ mvD W a m d ↔ (d ≤ t.1 ∧ t.1 < d + m ∧ t.2.1 < W.2.1 ∧ t.2.2 < W.2.1) ∧ canB W a t = true
  | 0, d => by
    refine ⟨fun h => (by cases h), fun h => ?_⟩
    omega
  | m + 1, d => by
    unfold mvD
    rw [List.mem_append, mem_mvP, mem_mvD]
    constructor
    · rintro (⟨h1, h2⟩ | ⟨h1, h2⟩)
      · exact ⟨by omega, h2⟩
      · exact ⟨by omega, h2⟩
    · rintro ⟨h1, h2⟩
      by_cases e : t.1 = d
      · exact Or.inl ⟨by omega, h2⟩
      · exact Or.inr ⟨by omega, h2⟩
theorem mem_mvs {W : Wd} {a : Nat} {t : Tr} : t ∈ mvs W a ↔ (t.1 < W.1 ∧ t.2.1 < W.2.1 ∧ t.2.2 < W.2.1) ∧ canB W a t = true := by
  unfold mvs
  rw [mem_mvD]
  constructor
  · rintro ⟨h1, h2⟩
    exact ⟨by omega, h2⟩
  · rintro ⟨h1, h2⟩
    exact ⟨by omega, h2⟩
theorem canB_iff {W : Wd} {a : Nat} {t : Tr} : canB W a t = true ↔ W.2.2.2.2 t.1 t.2.1 t.2.2 = true ∧ rmN a t.2.1 = W.2.2.1 t.1 ∧ rmN a t.2.2 = W.2.2.2.1 t.1 := by
  unfold canB
  rw [Bool.and_eq_true, Bool.and_eq_true, decide_eq_true_iff, decide_eq_true_iff]
theorem canB_ne {W : Wd} {a : Nat} {t : Tr} (hW : wd_ok W) (h1 : t.1 < W.1) (h : canB W a t = true) : t.2.1 ≠ t.2.2 := by
  obtain ⟨-, h2, h3⟩ := canB_iff.mp h
  intro e
  rw [e] at h2
  exact (hW.2 t.1 h1).2.2 (h2.symm.trans h3)
theorem mvQ_sorted {W : Wd} {a d p : Nat} : ∀ {m q : Nat}, (mvQ W a d p m q).Pairwise (fun s t => mcode s < mcode t)
  | 0, _ => List.Pairwise.nil
  | m + 1, q => by
    unfold mvQ
    rw [List.pairwise_append]
    refine ⟨?_, mvQ_sorted, fun s hs t ht => ?_⟩
    · split
      · exact List.pairwise_singleton _ _
      · exact List.Pairwise.nil
    · obtain ⟨-, e⟩ := mem_if1.mp hs
      obtain ⟨⟨h1, h2, h3, -⟩, -⟩ := mem_mvQ.mp ht
      subst e
      unfold mcode
      show 100 * d + 10 * p + q < _
      omega
theorem mvP_sorted {W : Wd} {a d : Nat} (hn : W.2.1 ≤ 7) : ∀ {m p : Nat}, (mvP W a d m p).Pairwise (fun s t => mcode s < mcode t)
  | 0, _ => List.Pairwise.nil
  | m + 1, p => by
    unfold mvP
    rw [List.pairwise_append]
    refine ⟨mvQ_sorted, mvP_sorted hn, fun s hs t ht => ?_⟩
    obtain ⟨⟨h1, h2, h3, h4⟩, -⟩ := mem_mvQ.mp hs
    obtain ⟨⟨k1, k2, k3, k4⟩, -⟩ := mem_mvP.mp ht
    unfold mcode
    omega
theorem mvD_sorted {W : Wd} {a : Nat} (hn : W.2.1 ≤ 7) : ∀ {m d : Nat}, m + d ≤ W.1 → (mvD W a m d).Pairwise (fun s t => mcode s < mcode t)
  | 0, _, _ => List.Pairwise.nil
  | m + 1, d, hm => by
    unfold mvD
    rw [List.pairwise_append]
    refine ⟨mvP_sorted hn, mvD_sorted hn (by omega), fun s hs t ht => ?_⟩
    obtain ⟨⟨h1, h2, h3, h4⟩, -⟩ := mem_mvP.mp hs
    obtain ⟨⟨k1, k2, k3, k4⟩, -⟩ := mem_mvD.mp ht
    unfold mcode
    have : s.2.1 ≤ 6 := by omega
    omega
theorem mvs_sorted {W : Wd} {a : Nat} (hn : W.2.1 ≤ 7) : (mvs W a).Pairwise (fun s t => mcode s < mcode t) := mvD_sorted hn (by omega)
theorem mvs_nodup {W : Wd} {a : Nat} (hn : W.2.1 ≤ 7) : (mvs W a).Nodup := by
  refine List.Pairwise.imp ?_ (mvs_sorted (a := a) hn)
  intro s t h e
  rw [e] at h
  omega
/-- how many of q .. q + m - 1 are so -/
def cntS (P : Nat → Prop) [∀ j, Decidable (P j)] : Nat → Nat → Nat
  | 0, _ => 0
  | m + 1, q => (if P q then 1 else 0) + cntS P m (q + 1)
theorem cntS_two {P Q : Nat → Prop} [∀ j, Decidable (P j)] [∀ j, Decidable (Q j)] (h : ∀ j, P j → ¬ Q j) : ∀ m q, cntS P m q + cntS Q m q ≤ m
  | 0, _ => Nat.le_refl _
  | m + 1, q => by
    have ih := cntS_two h m (q + 1)
    unfold cntS
    by_cases h1 : P q
    · have h2 := h q h1
      rw [if_pos h1, if_neg h2]
      omega
    · rw [if_neg h1]
      split <;> omega
theorem mvQ_len {W : Wd} {a d p : Nat} : ∀ {m q : Nat}, (mvQ W a d p m q).length ≤ if rmN a p = W.2.2.1 d then cntS (fun j => rmN a j = W.2.2.2.1 d) m q else 0
  | 0, q => by
    unfold mvQ
    exact Nat.zero_le _
  | m + 1, q => by
    have ih := mvQ_len (W := W) (a := a) (d := d) (p := p) (m := m) (q := q + 1)
    unfold mvQ cntS
    rw [List.length_append]
    by_cases h : canB W a (d, p, q) = true
    · obtain ⟨-, h2, h3⟩ := canB_iff.mp h
      have h2 : rmN a p = W.2.2.1 d := h2
      have h3 : rmN a q = W.2.2.2.1 d := h3
      rw [if_pos h, if_pos h2, if_pos h3]
      rw [if_pos h2] at ih
      simp
      omega
    · rw [if_neg h]
      simp
      by_cases h2 : rmN a p = W.2.2.1 d
      · rw [if_pos h2] at ih ⊢
        omega
      · rw [if_neg h2] at ih ⊢
        omega
theorem mvP_len {W : Wd} {a d : Nat} : ∀ {m p : Nat}, (mvP W a d m p).length ≤ cntS (fun j => rmN a j = W.2.2.1 d) m p * cntS (fun j => rmN a j = W.2.2.2.1 d) W.2.1 0
  | 0, p => by
    unfold mvP
    exact Nat.zero_le _
  | m + 1, p => by
    have ih := mvP_len (W := W) (a := a) (d := d) (m := m) (p := p + 1)
    have iq := mvQ_len (W := W) (a := a) (d := d) (p := p) (m := W.2.1) (q := 0)
    unfold mvP
    rw [List.length_append, cntS, Nat.add_mul]
    split
    · rename_i h
      rw [if_pos h] at iq
      omega
    · rename_i h
      rw [if_neg h] at iq
      omega
theorem two12 : ∀ x y : Fin 8, x.val + y.val ≤ 7 → x.val * y.val ≤ 12 := by decide
theorem two12N {x y : Nat} (h : x + y ≤ 7) : x * y ≤ 12 := two12 ⟨x, by omega⟩ ⟨y, by omega⟩ h
theorem mvD_len {W : Wd} {a : Nat} (hW : wd_ok W) : ∀ {m d : Nat}, m + d ≤ W.1 → (mvD W a m d).length ≤ 12 * m
  | 0, _, _ => by
    unfold mvD
    exact Nat.zero_le _
  | m + 1, d, hm => by
    have ih := mvD_len (a := a) hW (m := m) (d := d + 1) (by omega)
    have ip := mvP_len (W := W) (a := a) (d := d) (m := W.2.1) (p := 0)
    have h2 := cntS_two (P := fun j => rmN a j = W.2.2.1 d) (Q := fun j => rmN a j = W.2.2.2.1 d) (fun j q1 q2 => (hW.2 d (by omega)).2.2 (q1.symm.trans q2)) W.2.1 0
    have hn := hW.1.2
    have h3 : cntS (fun j => rmN a j = W.2.2.1 d) W.2.1 0 * cntS (fun j => rmN a j = W.2.2.2.1 d) W.2.1 0 ≤ 12 := two12N (by omega)
    unfold mvD
    rw [List.length_append]
    omega
theorem mvs_len {W : Wd} {a : Nat} (hW : wd_ok W) : (mvs W a).length ≤ 60 := by
  have h1 := mvD_len (a := a) hW (m := W.1) (d := 0) (by omega)
  have h2 := hW.1.1
  unfold mvs
  omega
/-- a walk by doors, p, q, that meets the changes one by one -/
theorem trip_loop {S : Type} {W : Wd} {a : Nat} (Jd : Nat → S → Prop) (Jp : Nat → Nat → S → Prop) (Jq : Nat → Nat → Nat → S → Prop) (I : List Tr → S → Prop)
    (hd : ∀ d pre s, d < W.1 → I pre s → Jp d 0 s → Jd d s) (hp1 : ∀ d pre s, d < W.1 → I pre s → Jd (d + 1) s → Jp d W.2.1 s) (hp0 : ∀ d p pre s, d < W.1 → p < W.2.1 → I pre s → Jq d p 0 s → Jp d p s) (hq1 : ∀ d p pre s, d < W.1 → p < W.2.1 → I pre s → Jp d (p + 1) s → Jq d p W.2.1 s)
    (hq : ∀ d p q pre s, d < W.1 → p < W.2.1 → q < W.2.1 → I pre s →
      (canB W a (d, p, q) = true → (∃ suf, pre ++ (d, p, q) :: suf = mvs W a) → (∀ s1, I (pre ++ [(d, p, q)]) s1 → Jq d p (q + 1) s1) → Jq d p q s) ∧ (canB W a (d, p, q) = false → (∀ s1, I pre s1 → Jq d p (q + 1) s1) → Jq d p q s))
    (he : ∀ s, I (mvs W a) s → Jd W.1 s) : ∀ s, I [] s → Jd 0 s := by
  have HQ : ∀ m q d p pre s, q + m = W.2.1 → d < W.1 → p < W.2.1 → (∃ suf, pre ++ (mvQ W a d p m q ++ suf) = mvs W a) → (∀ s1, I (pre ++ mvQ W a d p m q) s1 → Jp d (p + 1) s1) → I pre s → Jq d p q s := by
    intro m
    induction m with
    | zero =>
      intro q d p pre s e h1 h2 h3 hk hI
      have e : q = W.2.1 := by omega
      subst e
      refine hq1 d p pre s h1 h2 hI (hk s ?_)
      unfold mvQ
      rw [List.append_nil]
      exact hI
    | succ m ih =>
      intro q d p pre s e h1 h2 h3 hk hI
      obtain ⟨suf, h3⟩ := h3
      have hqq := hq d p q pre s h1 h2 (by omega) hI
      unfold mvQ at h3 hk
      by_cases c : canB W a (d, p, q) = true
      · rw [if_pos c] at h3 hk
        refine hqq.1 c ⟨mvQ W a d p m (q + 1) ++ suf, by simpa using h3⟩ (fun s1 hI1 => ih (q + 1) d p _ s1 (by omega) h1 h2 ⟨suf, by simpa using h3⟩ (fun s2 hI2 => hk s2 (by simpa using hI2)) hI1)
      · rw [if_neg c] at h3 hk
        refine hqq.2 (by simpa using c) (fun s1 hI1 => ih (q + 1) d p _ s1 (by omega) h1 h2 ⟨suf, by simpa using h3⟩ (fun s2 hI2 => hk s2 (by simpa using hI2)) hI1)
  have HP : ∀ m p d pre s, p + m = W.2.1 → d < W.1 → (∃ suf, pre ++ (mvP W a d m p ++ suf) = mvs W a) → (∀ s1, I (pre ++ mvP W a d m p) s1 → Jd (d + 1) s1) → I pre s → Jp d p s := by
    intro m
    induction m with
    | zero =>
      intro p d pre s e h1 h3 hk hI
      have e : p = W.2.1 := by omega
      subst e
      refine hp1 d pre s h1 hI (hk s ?_)
      unfold mvP
      rw [List.append_nil]
      exact hI
    | succ m ih =>
      intro p d pre s e h1 h3 hk hI
      obtain ⟨suf, h3⟩ := h3
      unfold mvP at h3 hk
      refine hp0 d p pre s h1 (by omega) hI (HQ W.2.1 0 d p pre s (by omega) h1 (by omega) ⟨mvP W a d m (p + 1) ++ suf, by simpa using h3⟩ (fun s1 hI1 => ih (p + 1) d _ s1 (by omega) h1 ⟨suf, by simpa using h3⟩ (fun s2 hI2 => hk s2 (by simpa using hI2)) hI1) hI)
  have HD : ∀ m d pre s, d + m = W.1 → pre ++ mvD W a m d = mvs W a → I pre s → Jd d s := by
    intro m
    induction m with
    | zero =>
      intro d pre s e h3 hI
      have e : d = W.1 := by omega
      subst e
      unfold mvD at h3
      rw [List.append_nil] at h3
      subst h3
      exact he s hI
    | succ m ih =>
      intro d pre s e h3 hI
      unfold mvD at h3
      refine hd d pre s (by omega) hI (HP W.2.1 0 d pre s (by omega) (by omega) ⟨mvD W a m (d + 1), h3⟩ (fun s1 hI1 => ih (d + 1) _ s1 (by omega) (by simpa using h3) hI1) hI)
  exact fun s hI => HD W.1 0 [] s (by omega) rfl hI
