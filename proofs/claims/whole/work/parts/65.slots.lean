/-! the slots of the class's search: open addressing over 2048, at most 630 taken -/
def slot_h (c : Nat) : Nat := (nI c * (-1640531535)).toBitVec.toNat / 2 ^ 21
theorem slot_hlt {c : Nat} : slot_h c < 2048 := by
  have h : (nI c * (-1640531535)).toBitVec.toNat < 2 ^ 32 := (nI c * (-1640531535)).toBitVec.isLt
  unfold slot_h
  rw [Nat.div_lt_iff_lt_mul (by decide)]
  omega
theorem slot_he (c : Nat) : ((nI c * (-1640531535)).toUInt32 >>> ((21 : Int32).toUInt32 &&& Int32.toUInt32 31)).toInt32 = nI (slot_h c) := by
  have h1 := pk_ushr (nI c * (-1640531535)) 21 21 (by decide)
  have hl := slot_hlt (c := c)
  apply Int32.toBitVec_inj.mp
  apply BitVec.eq_of_toNat_eq
  rw [h1, pk_tn (by omega)]
  rfl
/-- the t-th slot that is looked at -/
def slot_q (c t : Nat) : Nat := (slot_h c + t) % 2048
theorem slot_lt {c t : Nat} : slot_q c t < 2048 := Nat.mod_lt _ (by decide)
theorem slot_0 {c : Nat} : slot_q c 0 = slot_h c := by
  have h := slot_hlt (c := c)
  unfold slot_q
  generalize slot_h c = x at h ⊢
  omega
theorem slot_s {c t : Nat} : (nI (slot_q c t) + 1) &&& 2047 = nI (slot_q c (t + 1)) := by
  have h := slot_lt (c := c) (t := t)
  rw [nI_1, pk_andN (by omega) 11 (by decide)]
  have e : (slot_q c t + 1) % 2 ^ 11 = slot_q c (t + 1) := by
    unfold slot_q
    omega
  rw [e]
theorem slot_inj {c u v : Nat} (hu : u < 2048) (hv : v < 2048) (h : slot_q c u = slot_q c v) : u = v := by
  unfold slot_q at h
  omega
theorem slot_nd {c : Nat} : ∀ {n : Nat}, n ≤ 2048 → ((List.range n).map (slot_q c)).Nodup
  | 0, _ => List.nodup_nil
  | n + 1, h => by
    rw [List.range_succ, List.map_append, List.nodup_append]
    refine ⟨slot_nd (by omega), List.nodup_cons.mpr ⟨List.not_mem_nil, List.nodup_nil⟩, fun x hx y hy q => ?_⟩
    have hy : y = slot_q c n := List.mem_singleton.mp hy
    obtain ⟨u, hu, eu⟩ := List.mem_map.mp hx
    have hu := List.mem_range.mp hu
    have := slot_inj (c := c) (u := u) (v := n) (by omega) (by omega) (by rw [eu, q, hy])
    omega
/-- each code of the row C has its slot, and no other is taken -/
def slot_ok (σ : am_S) (C : List Nat) : Prop := (∀ (i c : Nat), C[i]? = some c → ar σ 24 i = nI c) ∧ ∃ q : Nat → Nat,
  (∀ s, s < 2048 → ar σ 30 s = 0 ∨ ∃ i, i < C.length ∧ ar σ 30 s = nI (i + 1) ∧ s = q i) ∧
  ∀ (i c : Nat), C[i]? = some c → ∃ t, q i = slot_q c t ∧ ar σ 30 (q i) = nI (i + 1) ∧ ∀ u, u < t → ¬ ar σ 30 (slot_q c u) = 0
theorem slot_w {σ τ : am_S} {C : List Nat} (h : slot_ok σ C) (e24 : ∀ i, i < C.length → ar τ 24 i = ar σ 24 i) (e30 : ∀ s, ar τ 30 s = ar σ 30 s) : slot_ok τ C := by
  obtain ⟨h1, q, h2, h3⟩ := h
  have e : ar τ 30 = ar σ 30 := funext e30
  refine ⟨fun i c hi => ?_, q, ?_⟩
  · rw [e24 i (List.getElem?_eq_some_iff.mp hi).1]
    exact h1 i c hi
  · rw [e]
    exact ⟨h2, h3⟩
theorem slot_nil {σ : am_S} (h : ∀ s, s < 2048 → ar σ 30 s = 0) : slot_ok σ [] := ⟨fun i c hi => (by cases hi), fun _ => 0, fun s hs => Or.inl (h s hs), fun i c hi => (by cases hi)⟩
theorem slot_fin {σ : am_S} {C : List Nat} {c n : Nat} (h : slot_ok σ C) (hn : n ≤ 2048) (hz : ∀ u, u < n → ¬ ar σ 30 (slot_q c u) = 0) : n ≤ C.length := by
  obtain ⟨-, q, h2, -⟩ := h
  have := nodup_le (L := (List.range n).map (slot_q c)) (M := (List.range C.length).map q) (slot_nd hn) (fun x hx => by
    obtain ⟨u, hu, rfl⟩ := List.mem_map.mp hx
    rcases h2 _ (slot_lt (c := c) (t := u)) with w | ⟨i, hi, -, e⟩
    · exact absurd w (hz u (List.mem_range.mp hu))
    · rw [e]
      exact List.mem_map_of_mem (f := q) (List.mem_range.mpr hi))
  rw [List.length_map, List.length_range, List.length_map, List.length_range] at this
  exact this
theorem slot_add {σ τ : am_S} {C : List Nat} {c t : Nat} (h : slot_ok σ C) (hl : C.length < 630) (z : ar σ 30 (slot_q c t) = 0) (hz : ∀ u, u < t → ¬ ar σ 30 (slot_q c u) = 0) (ec : ar σ 24 C.length = nI c) (e24 : ∀ i, ar τ 24 i = ar σ 24 i) (e30 : ∀ s, ar τ 30 s = if s = slot_q c t then nI (C.length + 1) else ar σ 30 s) : slot_ok τ (C ++ [c]) := by
  obtain ⟨h1, q, h2, h3⟩ := h
  have ll : (C ++ [c]).length = C.length + 1 := by simp
  have nz : ∀ n, n < 1000 → ¬ nI (n + 1) = 0 := fun n hn y => absurd (nI_inj (a := n + 1) (b := 0) (by omega) (by omega) y) (by omega)
  have last : ∀ i x, (C ++ [c])[i]? = some x → ¬ i < C.length → i = C.length ∧ x = c := by
    intro i x hi w
    have w2 : i = C.length := by
      have := (List.getElem?_eq_some_iff.mp hi).1
      omega
    subst w2
    rw [List.getElem?_append_right (Nat.le_refl _), Nat.sub_self] at hi
    cases hi
    exact ⟨rfl, rfl⟩
  refine ⟨fun i x hi => ?_, fun i => if i = C.length then slot_q c t else q i, fun s hs => ?_, fun i x hi => ?_⟩
  · rw [e24]
    by_cases w : i < C.length
    · rw [List.getElem?_append_left w] at hi
      exact h1 i x hi
    · obtain ⟨rfl, rfl⟩ := last i x hi w
      exact ec
  · rw [e30]
    by_cases w : s = slot_q c t
    · rw [if_pos w]
      refine Or.inr ⟨C.length, by omega, rfl, ?_⟩
      show s = if C.length = C.length then slot_q c t else q C.length
      rw [if_pos rfl]
      exact w
    · rw [if_neg w]
      rcases h2 s hs with y | ⟨i, hi, e, es⟩
      · exact Or.inl y
      · refine Or.inr ⟨i, by omega, e, ?_⟩
        show s = if i = C.length then slot_q c t else q i
        rw [if_neg (by omega)]
        exact es
  · show ∃ t2, (if i = C.length then slot_q c t else q i) = slot_q x t2 ∧ ar τ 30 (if i = C.length then slot_q c t else q i) = nI (i + 1) ∧ ∀ u, u < t2 → ¬ ar τ 30 (slot_q x u) = 0
    by_cases w : i < C.length
    · rw [List.getElem?_append_left w] at hi
      obtain ⟨t2, e1, e2, e3⟩ := h3 i x hi
      have qn : ¬ q i = slot_q c t := by
        intro y
        rw [y, z] at e2
        exact nz i (by omega) e2.symm
      rw [if_neg (show ¬ i = C.length by omega)]
      refine ⟨t2, e1, ?_, fun u hu => ?_⟩
      · rw [e30, if_neg qn]
        exact e2
      · rw [e30]
        split
        · exact nz _ (by omega)
        · exact e3 u hu
    · obtain ⟨rfl, rfl⟩ := last i x hi w
      rw [if_pos rfl]
      refine ⟨t, rfl, ?_, fun u hu => ?_⟩
      · rw [e30, if_pos rfl]
      · rw [e30]
        split
        · exact nz _ (by omega)
        · exact hz u hu
section SlotC
variable {l : Launch} {g : am_G} {σ : am_S}
theorem c_slt10 {d c : Nat} {C : List Nat} {k : Int32 → am_S → Prop} (hS : slot_ok σ C) (hl : C.length ≤ 630) (hC : ∀ x ∈ C, x < 16384) (hc : c < 16384)
    (H1 : ∀ i s, s < 2048 → C[i]? = some c → ar σ 30 s = nI (i + 1) → k (nI s) σ)
    (H0 : ∀ t, c ∉ C → ar σ 30 (slot_q c t) = 0 → (∀ u, u < t → ¬ ar σ 30 (slot_q c u) = 0) → k (nI (slot_q c t)) σ) :
    ∀ (f t : Nat), f + t = 631 → (∀ u, u < t → ¬ ar σ 30 (slot_q c u) = 0 ∧ ∀ i, ar σ 30 (slot_q c u) = nI (i + 1) → ¬ C[i]? = some c) →
    JI l g M_X7_slotOf d 10 [(0, .ref 19), (1, .int (nI c)), (2, .int (nI (slot_q c t))), (3, .int (nI (t + 1)))] [] σ k
  | 0, t, e, h => by
    have := slot_fin (c := c) (n := t) hS (by omega) (fun u hu => (h u hu).1)
    omega
  | f + 1, t, e, h => by
    have tl := slot_fin (c := c) (n := t) hS (by omega) (fun u hu => (h u hu).1)
    have q1 := slot_lt (c := c) (t := t)
    have vq : vp_in (nI (slot_q c t)) 2048 := vp_in_nI q1 (by omega)
    refine b_X7_slotOf_10 ?_
    rw [nI_clamp (n := slot_q c t) (by omega)]
    refine ⟨fun z => absurd ((len (a := 2048) (by omega) (by omega)).mp z) (by omega), fun _ => ⟨vq, fun z => ?_, fun z => ?_⟩⟩
    · refine H0 t (fun hin => ?_) z (fun u hu => (h u hu).1)
      obtain ⟨i, hi, ei⟩ := List.getElem_of_mem hin
      have e2 : C[i]? = some c := by rw [List.getElem?_eq_getElem hi, ei]
      obtain ⟨-, q, -, h3⟩ := hS
      obtain ⟨t2, e3, e4, h5⟩ := h3 i c e2
      rw [e3] at e4
      rcases Nat.lt_or_ge t t2 with w | w
      · exact h5 t w z
      · rcases Nat.lt_or_ge t2 t with w2 | w2
        · exact (h t2 w2).2 i e4 e2
        · have w3 : t2 = t := by omega
          rw [w3, z] at e4
          exact absurd (nI_inj (a := 0) (b := i + 1) (by omega) (by omega) e4) (by omega)
    · obtain ⟨h1, q, h2, h3⟩ := id hS
      rcases h2 _ q1 with w | ⟨i, hi, e3, e4⟩
      · exact absurd w z
      have e5 := List.getElem?_eq_getElem hi
      have cl := hC _ (List.getElem_mem hi)
      have e6 := h1 i _ e5
      generalize C[i] = c2 at e5 e6 cl
      rw [e3, nI_pred, nI_clamp (n := i) (by omega), e6]
      refine ⟨vq, vp_in_nI (by omega) (by omega), fun y => ?_, fun y => ?_⟩
      · have y2 : c2 = c := nI_inj (by omega) (by omega) y
        rw [y2] at e5
        exact H1 i _ q1 e5 e3
      · rw [slot_s, nI_1]
        refine c_slt10 hS hl hC hc H1 H0 f (t + 1) (by omega) (fun u hu => ?_)
        rcases Nat.lt_or_ge u t with v | v
        · exact h u v
        · have v2 : u = t := by omega
          subst v2
          refine ⟨z, fun j ej hj => y ?_⟩
          have jl := (List.getElem?_eq_some_iff.mp hj).1
          rw [e3] at ej
          have ij := nI_inj (a := i + 1) (b := j + 1) (by omega) (by omega) ej
          have ij : i = j := by omega
          rw [ij, hj] at e5
          rw [Option.some.inj e5]
theorem c_slot {d c : Nat} {C : List Nat} {k : Int32 → am_S → Prop} (hS : slot_ok σ C) (hl : C.length ≤ 630) (hC : ∀ x ∈ C, x < 16384) (hc : c < 16384)
    (H1 : ∀ i s, s < 2048 → C[i]? = some c → ar σ 30 s = nI (i + 1) → k (nI s) σ)
    (H0 : ∀ t, c ∉ C → ar σ 30 (slot_q c t) = 0 → (∀ u, u < t → ¬ ar σ 30 (slot_q c u) = 0) → k (nI (slot_q c t)) σ) : CI l g M_X7_slotOf d [.ref 19, .int (nI c)] σ k := by
  refine b_X7_slotOf_0 (fun x2 e2 => ?_)
  rw [slot_he, ← slot_0] at e2
  rw [e2]
  exact c_slt10 hS hl hC hc H1 H0 631 0 rfl (fun u hu => absurd hu (Nat.not_lt_zero u))
theorem c_place {d c : Nat} {C : List Nat} {k : Int32 → am_S → Prop} (hd : 1 ≤ d) (hS : slot_ok σ C) (hl : C.length ≤ 630) (hC : ∀ x ∈ C, x < 16384) (hc : c < 16384)
    (H1 : ∀ i, C[i]? = some c → k (nI i) σ) (H0 : c ∉ C → k (-1) σ) : CI l g M_X7_placeOf d [.ref 19, .int (nI c)] σ k := by
  refine b_X7_placeOf_0 hd (c_slot hS hl hC hc (fun i s hs hi e => ?_) (fun t hn z hz => ?_))
  · rw [nI_clamp (n := s) (by omega), e, nI_pred]
    exact ⟨vp_in_nI hs (by omega), H1 i hi⟩
  · have q1 := slot_lt (c := c) (t := t)
    rw [nI_clamp (n := slot_q c t) (by omega), z]
    exact ⟨vp_in_nI q1 (by omega), H0 hn⟩
end SlotC
