/-! what can come from an arrangement, nearest first: one order for both; how far, and by which first change -/
abbrev En : Type := Nat × Nat × Nat
def nxt (n a : Nat) (t : Tr) : Nat := swp n a t.2.1 t.2.2
def bA (n : Nat) (e : En) (z : Bool) (L : List En) (t : Tr) : List En := if nxt n e.1 t ∈ L.map (·.1) then L else L ++ [(nxt n e.1 t, e.2.1 + 1, if z = true then mcode t else e.2.2)]
def bfs (W : Wd) : Nat → Nat → List En → List En
  | 0, _, L => L
  | f + 1, i, L => match L[i]? with
    | none => L
    | some e => bfs W f (i + 1) ((mvs W e.1).foldl (bA W.2.1 e (i == 0)) L)
def bf0 (W : Wd) (a0 : Nat) : List En := bfs W 700 0 [(a0, 0, 0)]
def Ext {α : Type} (L M : List α) : Prop := ∃ s, M = L ++ s
theorem Ext.rf {α : Type} {L : List α} : Ext L L := ⟨[], (List.append_nil L).symm⟩
theorem Ext.tr {α : Type} {L M N : List α} (h1 : Ext L M) (h2 : Ext M N) : Ext L N := by
  obtain ⟨s, rfl⟩ := h1
  obtain ⟨t, rfl⟩ := h2
  exact ⟨s ++ t, List.append_assoc _ _ _⟩
theorem Ext.at {α : Type} {L M : List α} {i : Nat} {e : α} (h : Ext L M) (hi : L[i]? = some e) : M[i]? = some e := by
  obtain ⟨s, rfl⟩ := h
  rw [List.getElem?_append_left (List.getElem?_eq_some_iff.mp hi).1, hi]
theorem Ext.mem {α : Type} {L M : List α} {e : α} (h : Ext L M) (hi : e ∈ L) : e ∈ M := by
  obtain ⟨s, rfl⟩ := h
  exact List.mem_append_left _ hi
theorem Ext.le {α : Type} {L M : List α} (h : Ext L M) : L.length ≤ M.length := by
  obtain ⟨s, rfl⟩ := h
  rw [List.length_append]
  omega
theorem bA_ext {n : Nat} {e : En} {z : Bool} {L : List En} {t : Tr} : Ext L (bA n e z L t) := by
  unfold bA
  split
  · exact Ext.rf
  · exact ⟨_, rfl⟩
theorem bF_ext {n : Nat} {e : En} {z : Bool} : ∀ {ts : List Tr} {L : List En}, Ext L (ts.foldl (bA n e z) L)
  | [], _ => Ext.rf
  | _ :: _, _ => bA_ext.tr bF_ext
theorem bfs_ext {W : Wd} : ∀ {f i : Nat} {L : List En}, Ext L (bfs W f i L)
  | 0, _, _ => Ext.rf
  | f + 1, i, L => by
    unfold bfs
    split
    · exact Ext.rf
    · exact bF_ext.tr bfs_ext
/-- all unlike, all with as many in each room -/
def BI (n a0 : Nat) (L : List En) : Prop := (L.map (·.1)).Nodup ∧ ∀ e ∈ L, e.1 < 4 ^ n ∧ ∀ x, hst n e.1 x = hst n a0 x
theorem BI.len {n a0 : Nat} {L : List En} (hn : n ≤ 7) (h : BI n a0 L) : L.length ≤ 630 := by
  have := few_of_hst (a0 := a0) hn h.1 (fun a ha => by
    obtain ⟨e, he, rfl⟩ := List.mem_map.mp ha
    exact ⟨(h.2 e he).1, fun x _ => (h.2 e he).2 x⟩)
  rwa [List.length_map] at this
theorem BI.one {n a0 : Nat} (h : a0 < 4 ^ n) : BI n a0 [(a0, 0, 0)] := ⟨List.nodup_cons.mpr ⟨List.not_mem_nil, List.nodup_nil⟩, fun e he => by
  rw [List.mem_singleton] at he
  subst he
  exact ⟨h, fun _ => rfl⟩⟩
theorem BI.add {n a0 : Nat} {L : List En} {e : En} {z : Bool} {t : Tr} (h : BI n a0 L) (he : ∀ x, hst n e.1 x = hst n a0 x) (h1 : t.2.1 < n) (h2 : t.2.2 < n) (h3 : t.2.1 ≠ t.2.2) : BI n a0 (bA n e z L t) := by
  unfold bA
  split
  · exact h
  · rename_i hno
    refine ⟨?_, fun y hy => ?_⟩
    · rw [List.map_append, List.nodup_append]
      refine ⟨h.1, List.nodup_cons.mpr ⟨List.not_mem_nil, List.nodup_nil⟩, fun x hx y hy => ?_⟩
      have hy : y = nxt n e.1 t := List.mem_singleton.mp hy
      intro q
      rw [q, hy] at hx
      exact hno hx
    · rcases List.mem_append.mp hy with q | q
      · exact h.2 y q
      · rw [List.mem_singleton] at q
        subst q
        exact ⟨swp_lt, fun x => by rw [← he x]; exact hst_swp h1 h2 h3⟩
theorem mvs_ne {W : Wd} {a : Nat} {t : Tr} (hW : wd_ok W) (ht : t ∈ mvs W a) : t.2.1 < W.2.1 ∧ t.2.2 < W.2.1 ∧ t.2.1 ≠ t.2.2 := by
  obtain ⟨⟨h1, h2, h3⟩, h4⟩ := mem_mvs.mp ht
  exact ⟨h2, h3, canB_ne hW h1 h4⟩
theorem BI.fold {W : Wd} {a0 a : Nat} {e : En} {z : Bool} (hW : wd_ok W) (he : ∀ x, hst W.2.1 e.1 x = hst W.2.1 a0 x) : ∀ {ts : List Tr} {L : List En}, (∀ t ∈ ts, t ∈ mvs W a) → BI W.2.1 a0 L → BI W.2.1 a0 (ts.foldl (bA W.2.1 e z) L)
  | [], _, _, h => h
  | t :: ts, L, ht, h => by
    obtain ⟨h1, h2, h3⟩ := mvs_ne hW (ht t List.mem_cons_self)
    exact BI.fold (ts := ts) (L := bA W.2.1 e z L t) hW he (fun t1 hm => ht t1 (List.mem_cons_of_mem _ hm)) (h.add he h1 h2 h3)
theorem bfs_BI {W : Wd} {a0 : Nat} (hW : wd_ok W) : ∀ {f i : Nat} {L : List En}, BI W.2.1 a0 L → BI W.2.1 a0 (bfs W f i L)
  | 0, _, _, h => h
  | f + 1, i, L, h => by
    unfold bfs
    split
    · exact h
    · rename_i e q
      exact bfs_BI hW (BI.fold hW (h.2 e (List.mem_of_getElem? q)).2 (fun _ q => q) h)
theorem bf0_BI {W : Wd} {a0 : Nat} (hW : wd_ok W) (ha : a0 < 4 ^ W.2.1) : BI W.2.1 a0 (bf0 W a0) := bfs_BI hW (BI.one ha)
/-- b comes from a by k changes -/
def wlk (W : Wd) : Nat → Nat → Nat → Prop
  | 0, a, b => a = b
  | k + 1, a, b => ∃ c t, wlk W k a c ∧ t ∈ mvs W c ∧ b = nxt W.2.1 c t
theorem wlk_cons {W : Wd} {a : Nat} {t0 : Tr} (h0 : t0 ∈ mvs W a) : ∀ {k b : Nat}, wlk W k (nxt W.2.1 a t0) b → wlk W (k + 1) a b
  | 0, b, h => ⟨a, t0, rfl, h0, Eq.symm h⟩
  | k + 1, b, ⟨c, t, h1, h2, h3⟩ => ⟨c, t, wlk_cons h0 h1, h2, h3⟩
theorem wlk_unc {W : Wd} {a : Nat} : ∀ {k b : Nat}, wlk W (k + 1) a b → ∃ t0, t0 ∈ mvs W a ∧ wlk W k (nxt W.2.1 a t0) b
  | 0, b, ⟨c, t, h1, h2, h3⟩ => by
    have h1 : a = c := h1
    subst h1
    exact ⟨t, h2, h3.symm⟩
  | k + 1, b, ⟨c, t, h1, h2, h3⟩ => by
    obtain ⟨t0, h4, h5⟩ := wlk_unc h1
    exact ⟨t0, h4, c, t, h5, h2, h3⟩
def key (e : En) : Nat := 1000 * e.2.1 + e.2.2
def nk (i : Nat) (e : En) (t : Tr) : Nat := if i = 0 then 1000 + mcode t else key e + 1000
def srcd (W : Wd) (a0 : Nat) (e : En) : Prop := e = (a0, 0, 0) ∨ ∃ t0 k, t0 ∈ mvs W a0 ∧ e.2.1 = k + 1 ∧ e.2.2 = mcode t0 ∧ wlk W k (nxt W.2.1 a0 t0) e.1
def KB (W : Wd) (a0 i : Nat) (L : List En) : Prop := (L[0]? = some (a0, 0, 0) ∧ L.Pairwise (fun x y => key x ≤ key y) ∧ (∀ e ∈ L, srcd W a0 e) ∧ ∀ (j : Nat) (e : En), 1 ≤ j → L[j]? = some e → 1000 ≤ key e) ∧
  (∀ (j : Nat) (e : En), j < i → L[j]? = some e → ∀ t ∈ mvs W e.1, ∃ y ∈ L, y.1 = nxt W.2.1 e.1 t ∧ key y ≤ nk j e t) ∧ (i = 0 → L = [(a0, 0, 0)]) ∧ ∀ x, L[i]? = some x → 1 ≤ i → ∀ e ∈ L, key e ≤ key x + 1000
theorem mcode_lt {W : Wd} {a : Nat} {t : Tr} (hW : wd_ok W) (ht : t ∈ mvs W a) : mcode t < 999 := by
  obtain ⟨⟨h1, h2, h3⟩, -⟩ := mem_mvs.mp ht
  have := hW.1
  unfold mcode
  omega
def FI (W : Wd) (a0 i : Nat) (x : En) (L : List En) (pre suf : List Tr) (M : List En) : Prop := Ext L M ∧ (M[0]? = some (a0, 0, 0) ∧ M.Pairwise (fun x y => key x ≤ key y) ∧ (∀ e ∈ M, srcd W a0 e) ∧ ∀ (j : Nat) (e : En), 1 ≤ j → M[j]? = some e → 1000 ≤ key e) ∧
  (∀ t ∈ pre, ∃ y ∈ M, y.1 = nxt W.2.1 x.1 t ∧ key y ≤ nk i x t) ∧ (∀ t ∈ suf, ∀ e ∈ M, key e ≤ nk i x t) ∧ ∀ e ∈ M, key e ≤ (if i = 0 then 1999 else key x + 1000)
theorem FI.step {W : Wd} {a0 i : Nat} {x : En} {L M : List En} {pre suf : List Tr} {t : Tr} (hW : wd_ok W) (hx : srcd W a0 x) (hx0 : i = 0 ↔ x = (a0, 0, 0)) (ht : t ∈ mvs W x.1) (hs : ∀ s ∈ suf, mcode t < mcode s) (h : FI W a0 i x L pre (t :: suf) M) : FI W a0 i x L (pre ++ [t]) suf (bA W.2.1 x (i == 0) M t) := by
  obtain ⟨h1, ⟨h2, h3, h4, h5⟩, h6, h7, h8⟩ := h
  have ml := mcode_lt hW ht
  unfold bA
  split
  · rename_i hin
    refine ⟨h1, ⟨h2, h3, h4, h5⟩, fun s hs2 => ?_, fun s hs2 => h7 s (List.mem_cons_of_mem _ hs2), h8⟩
    rcases List.mem_append.mp hs2 with q | q
    · exact h6 s q
    · rw [List.mem_singleton] at q
      subst q
      obtain ⟨y, hy, e⟩ := List.mem_map.mp hin
      exact ⟨y, hy, e, h7 _ List.mem_cons_self y hy⟩
  · rename_i hno
    have kn : key (nxt W.2.1 x.1 t, x.2.1 + 1, if (i == 0) = true then mcode t else x.2.2) = nk i x t := by
      unfold key nk
      by_cases e : i = 0
      · have := hx0.mp e
        subst this
        simp [e]
      · simp [e]
        unfold key
        omega
    have M0 : 0 < M.length := (List.getElem?_eq_some_iff.mp h2).1
    have kb : nk i x t ≤ (if i = 0 then 1999 else key x + 1000) := by
      unfold nk
      split
      · omega
      · omega
    refine ⟨h1.tr ⟨_, rfl⟩, ⟨?_, ?_, ?_, ?_⟩, fun s hs2 => ?_, fun s hs2 e he => ?_, fun e he => ?_⟩
    · rw [List.getElem?_append_left M0]
      exact h2
    · rw [List.pairwise_append]
      refine ⟨h3, List.pairwise_singleton _ _, fun y hy z hz => ?_⟩
      rw [List.mem_singleton] at hz
      subst hz
      rw [kn]
      exact h7 t List.mem_cons_self y hy
    · intro e he
      rcases List.mem_append.mp he with q | q
      · exact h4 e q
      · rw [List.mem_singleton] at q
        subst q
        right
        by_cases e0 : i = 0
        · have := hx0.mp e0
          subst this
          refine ⟨t, 0, ht, rfl, by simp [e0], rfl⟩
        · rcases hx with hx | ⟨t0, k, q1, q2, q3, q4⟩
          · exact absurd (hx0.mpr hx) e0
          · refine ⟨t0, k + 1, q1, by show x.2.1 + 1 = _; omega, by simp [e0]; exact q3, x.1, t, q4, ht, rfl⟩
    · intro j e hj he
      by_cases c : j < M.length
      · rw [List.getElem?_append_left c] at he
        exact h5 j e hj he
      · have := List.mem_of_getElem? he
        rcases List.mem_append.mp this with q | q
        · rw [List.getElem?_append_right (by omega)] at he
          have e2 := List.mem_of_getElem? he
          rw [List.mem_singleton] at e2
          subst e2
          rw [kn]
          unfold nk
          split <;> omega
        · rw [List.mem_singleton] at q
          subst q
          rw [kn]
          unfold nk
          split <;> omega
    · rcases List.mem_append.mp hs2 with q | q
      · obtain ⟨y, hy, e⟩ := h6 s q
        exact ⟨y, List.mem_append_left _ hy, e⟩
      · rw [List.mem_singleton] at q
        subst q
        exact ⟨_, List.mem_append_right _ (List.mem_singleton.mpr rfl), rfl, by rw [kn]; exact Nat.le_refl _⟩
    · rcases List.mem_append.mp he with q | q
      · exact h7 s (List.mem_cons_of_mem _ hs2) e q
      · rw [List.mem_singleton] at q
        subst q
        rw [kn]
        have := hs s hs2
        unfold nk
        split <;> omega
    · rcases List.mem_append.mp he with q | q
      · exact h8 e q
      · rw [List.mem_singleton] at q
        subst q
        rw [kn]
        exact kb
theorem FI.fold {W : Wd} {a0 i : Nat} {x : En} {L : List En} (hW : wd_ok W) (hx : srcd W a0 x) (hx0 : i = 0 ↔ x = (a0, 0, 0)) : ∀ {suf pre : List Tr} {M : List En}, pre ++ suf = mvs W x.1 → FI W a0 i x L pre suf M → FI W a0 i x L (pre ++ suf) [] (suf.foldl (bA W.2.1 x (i == 0)) M)
  | [], pre, M, _, h => by
    rw [List.append_nil]
    exact h
  | t :: suf, pre, M, e, h => by
    have hs := mvs_sorted (a := x.1) hW.1.2
    rw [← e] at hs
    have h1 := (List.pairwise_cons.mp (List.pairwise_append.mp hs).2.1).1
    have ht : t ∈ mvs W x.1 := by
      rw [← e]
      exact List.mem_append_right _ List.mem_cons_self
    have := FI.fold (L := L) hW hx hx0 (suf := suf) (pre := pre ++ [t]) (by simpa using e) (FI.step hW hx hx0 ht h1 h)
    simpa using this
theorem KB.step {W : Wd} {a0 i : Nat} {x : En} {L : List En} (hW : wd_ok W) (hx : L[i]? = some x) (h : KB W a0 i L) : KB W a0 (i + 1) ((mvs W x.1).foldl (bA W.2.1 x (i == 0)) L) := by
  obtain ⟨⟨h1, h2, h3, h4⟩, h5, h0, h6⟩ := h
  have hxm := List.mem_of_getElem? hx
  have hx0 : i = 0 ↔ x = (a0, 0, 0) := by
    constructor
    · intro e
      rw [e, h1] at hx
      exact (Option.some.inj hx).symm
    · intro e
      rcases Nat.eq_zero_or_pos i with q | q
      · exact q
      · have := h4 i x q hx
        rw [e] at this
        exact absurd this (by show ¬ 1000 ≤ 1000 * 0 + 0; omega)
  have start : FI W a0 i x L [] (mvs W x.1) L := by
    refine ⟨Ext.rf, ⟨h1, h2, h3, h4⟩, fun t ht => (by cases ht), ?_⟩
    rcases Nat.eq_zero_or_pos i with q | q
    · have k0 : ∀ e ∈ L, key e = 0 := by
        intro e he
        rw [h0 q, List.mem_singleton] at he
        subst he
        rfl
      refine ⟨fun t _ e he => ?_, fun e he => ?_⟩ <;> rw [k0 e he] <;> exact Nat.zero_le _
    · have := h6 x hx q
      refine ⟨fun t _ e he => ?_, fun e he => ?_⟩
      · unfold nk
        rw [if_neg (by omega)]
        exact this e he
      · rw [if_neg (by omega)]
        exact this e he
  have fin := FI.fold (L := L) hW (h3 x hxm) hx0 (suf := mvs W x.1) (pre := []) rfl start
  obtain ⟨g1, g2, g3, -, g5⟩ := fin
  have li : i < L.length := (List.getElem?_eq_some_iff.mp hx).1
  refine ⟨g2, fun j e hj he t ht => ?_, fun q => absurd q (by omega), fun y hy _ e he => ?_⟩
  · by_cases c : j < i
    · have hj2 : L[j]? = some L[j] := List.getElem?_eq_getElem (by omega)
      have e1 := g1.at hj2
      rw [e1] at he
      cases he
      obtain ⟨y, hy, q⟩ := h5 j _ c hj2 t ht
      exact ⟨y, g1.mem hy, q⟩
    · have e2 : j = i := by omega
      subst e2
      rw [g1.at hx] at he
      cases he
      exact g3 t (List.mem_append_right _ ht)
  · have k1 := g5 e he
    by_cases c : i = 0
    · rw [if_pos c] at k1
      have := g2.2.2.2 (i + 1) y (by omega) hy
      omega
    · rw [if_neg c] at k1
      have hx2 := g1.at hx
      obtain ⟨b1, e1⟩ := List.getElem?_eq_some_iff.mp hx2
      obtain ⟨b2, e2⟩ := List.getElem?_eq_some_iff.mp hy
      have := List.pairwise_iff_getElem.mp g2.2.1 i (i + 1) b1 b2 (by omega)
      rw [e1, e2] at this
      omega
theorem KB.one {W : Wd} {a0 : Nat} : KB W a0 0 [(a0, 0, 0)] := by
  refine ⟨⟨rfl, List.pairwise_singleton _ _, fun e he => Or.inl (List.mem_singleton.mp he), fun j e hj he => ?_⟩, fun j e hj => absurd hj (Nat.not_lt_zero j), fun _ => rfl, fun x _ h => absurd h (by decide)⟩
  rw [List.getElem?_eq_none (by simpa using hj)] at he
  cases he
/-- at the end nothing is left to go through -/
theorem bfs_KB {W : Wd} {a0 : Nat} (hW : wd_ok W) : ∀ {f i : Nat} {L : List En}, 631 ≤ f + i → i ≤ L.length → BI W.2.1 a0 L → KB W a0 i L → ∃ j, (bfs W f i L).length ≤ j ∧ KB W a0 j (bfs W f i L)
  | 0, i, L, hf, hi, hB, hK => by
    have := hB.len hW.1.2
    omega
  | f + 1, i, L, hf, hi, hB, hK => by
    unfold bfs
    split
    · rename_i q
      exact ⟨i, List.getElem?_eq_none_iff.mp q, hK⟩
    · rename_i e q
      have hB2 := BI.fold (e := e) (z := (i == 0)) hW (hB.2 e (List.mem_of_getElem? q)).2 (ts := mvs W e.1) (fun _ q => q) hB
      refine bfs_KB hW (by omega) ?_ hB2 (KB.step hW q hK)
      have h1 : i < L.length := (List.getElem?_eq_some_iff.mp q).1
      have h2 := (bF_ext (n := W.2.1) (e := e) (z := (i == 0)) (ts := mvs W e.1) (L := L)).le
      omega
section Bf0
variable {W : Wd} {a0 : Nat} (hW : wd_ok W) (ha : a0 < 4 ^ W.2.1)
theorem bf0_KB (hW : wd_ok W) (ha : a0 < 4 ^ W.2.1) : ∃ j, (bf0 W a0).length ≤ j ∧ KB W a0 j (bf0 W a0) := bfs_KB hW (by omega) (by simp) (BI.one ha) KB.one
theorem bf0_root (hW : wd_ok W) (ha : a0 < 4 ^ W.2.1) : (bf0 W a0)[0]? = some (a0, 0, 0) := by
  obtain ⟨j, -, h⟩ := bf0_KB hW ha
  exact h.1.1
theorem bf0_step (hW : wd_ok W) (ha : a0 < 4 ^ W.2.1) {e : En} {t : Tr} (he : e ∈ bf0 W a0) (ht : t ∈ mvs W e.1) : ∃ y ∈ bf0 W a0, y.1 = nxt W.2.1 e.1 t ∧ key y ≤ key e + 1000 + (if e = (a0, 0, 0) then mcode t else 0) := by
  obtain ⟨j, hj, h⟩ := bf0_KB hW ha
  obtain ⟨i, hi, ei⟩ := List.getElem_of_mem he
  have h2 : (bf0 W a0)[i]? = some e := by rw [List.getElem?_eq_getElem hi, ei]
  obtain ⟨y, h3, h4, h5⟩ := h.2.1 i e (by omega) h2 t ht
  refine ⟨y, h3, h4, ?_⟩
  unfold nk at h5
  by_cases c : i = 0
  · subst c
    have := h.1.1
    rw [h2] at this
    cases this
    rw [if_pos rfl] at h5 ⊢
    have : key (a0, 0, 0) = 0 := rfl
    omega
  · rw [if_neg c] at h5
    omega
theorem bf0_all (hW : wd_ok W) (ha : a0 < 4 ^ W.2.1) {t0 : Tr} (h0 : t0 ∈ mvs W a0) : ∀ {k b : Nat}, wlk W k (nxt W.2.1 a0 t0) b → ∃ e ∈ bf0 W a0, e.1 = b ∧ key e ≤ 1000 * (k + 1) + mcode t0
  | 0, b, h => by
    have h : nxt W.2.1 a0 t0 = b := h
    obtain ⟨y, h1, h2, h3⟩ := bf0_step hW ha (List.mem_of_getElem? (bf0_root hW ha)) (t := t0) h0
    refine ⟨y, h1, h2.trans h, ?_⟩
    rw [if_pos rfl] at h3
    have : key (a0, 0, 0) = 0 := rfl
    omega
  | k + 1, b, ⟨c, t, h1, h2, h3⟩ => by
    obtain ⟨e, h4, h5, h6⟩ := bf0_all hW ha h0 h1
    subst h5
    obtain ⟨y, h7, h8, h9⟩ := bf0_step hW ha h4 h2
    refine ⟨y, h7, h8.trans h3.symm, ?_⟩
    have ml := mcode_lt hW h2
    by_cases z : e = (a0, 0, 0)
    · rw [if_pos z] at h9
      have : key e = 0 := by rw [z]; rfl
      omega
    · rw [if_neg z] at h9
      omega
theorem bf0_dist (hW : wd_ok W) (ha : a0 < 4 ^ W.2.1) : ∀ {k b : Nat}, wlk W k a0 b → ∃ e ∈ bf0 W a0, e.1 = b ∧ e.2.1 ≤ k
  | 0, b, h => ⟨(a0, 0, 0), List.mem_of_getElem? (bf0_root hW ha), h, Nat.le_refl _⟩
  | k + 1, b, h => by
    obtain ⟨t0, h1, h2⟩ := wlk_unc h
    obtain ⟨e, h3, h4, h5⟩ := bf0_all hW ha h1 h2
    have := mcode_lt hW h1
    refine ⟨e, h3, h4, ?_⟩
    unfold key at h5
    omega
theorem bf0_src (hW : wd_ok W) (ha : a0 < 4 ^ W.2.1) {e : En} (he : e ∈ bf0 W a0) : srcd W a0 e := by
  obtain ⟨j, -, h⟩ := bf0_KB hW ha
  exact h.1.2.2.1 e he
theorem srcd_wlk {e : En} (h : srcd W a0 e) : wlk W e.2.1 a0 e.1 := by
  rcases h with h | ⟨t0, k, h1, h2, h3, h4⟩
  · subst h
    exact rfl
  · rw [h2]
    exact wlk_cons h1 h4
theorem bf0_srt (hW : wd_ok W) (ha : a0 < 4 ^ W.2.1) : (bf0 W a0).Pairwise (fun x y => key x ≤ key y) := by
  obtain ⟨j, -, h⟩ := bf0_KB hW ha
  exact h.1.2.1
end Bf0
/-- the first that is so, in a row -/
def fstG (G : Nat → Bool) (L : List En) (g : En) : Prop := ∃ u v, L = u ++ g :: v ∧ G g.1 = true ∧ ∀ e ∈ u, G e.1 = false
def noG (G : Nat → Bool) (L : List En) : Prop := ∀ e ∈ L, G e.1 = false
theorem fst_or (G : Nat → Bool) : ∀ L : List En, noG G L ∨ ∃ g, fstG G L g
  | [] => Or.inl (fun e h => (by cases h))
  | x :: L => by
    cases c : G x.1 with
    | true => exact Or.inr ⟨x, [], L, rfl, c, fun e h => (by cases h)⟩
    | false =>
      rcases fst_or G L with h | ⟨g, u, v, h1, h2, h3⟩
      · left
        intro e he
        rcases List.mem_cons.mp he with q | q
        · rw [q]; exact c
        · exact h e q
      · right
        refine ⟨g, x :: u, v, by rw [h1]; rfl, h2, fun e he => ?_⟩
        rcases List.mem_cons.mp he with q | q
        · rw [q]; exact c
        · exact h3 e q
/-- where the row is by keys, the first that is so has the least key -/
theorem fst_min {G : Nat → Bool} {L : List En} {g e : En} (hs : L.Pairwise (fun x y => key x ≤ key y)) (h : fstG G L g) (he : e ∈ L) (hG : G e.1 = true) : key g ≤ key e := by
  obtain ⟨u, v, h1, h2, h3⟩ := h
  rw [h1] at hs he
  rcases List.mem_append.mp he with q | q
  · rw [h3 e q] at hG
    cases hG
  · rcases List.mem_cons.mp q with q | q
    · rw [q]
      exact Nat.le_refl _
    · exact (List.pairwise_cons.mp (List.pairwise_append.mp hs).2.1).1 e q
/-- the first change of the class's walk is the one that the reference asks for -/
theorem first_law {W : Wd} {a0 : Nat} {G : Nat → Bool} {g : En} (hW : wd_ok W) (ha : a0 < 4 ^ W.2.1) (hg : fstG G (bf0 W a0) g) (h1 : 1 ≤ g.2.1) :
    ∃ t0, t0 ∈ mvs W a0 ∧ g.2.2 = mcode t0 ∧ (∃ g2, fstG G (bf0 W (nxt W.2.1 a0 t0)) g2 ∧ g2.2.1 = g.2.1 - 1) ∧ ∀ t, t ∈ mvs W a0 → mcode t < mcode t0 → ∀ g2, fstG G (bf0 W (nxt W.2.1 a0 t)) g2 → g2.2.1 ≠ g.2.1 - 1 := by
  have hgm : g ∈ bf0 W a0 := by
    obtain ⟨u, v, e, -⟩ := hg
    rw [e]
    exact List.mem_append_right _ List.mem_cons_self
  have hgG : G g.1 = true := by
    obtain ⟨u, v, -, e, -⟩ := hg
    exact e
  rcases bf0_src hW ha hgm with h | ⟨t0, k, q1, q2, q3, q4⟩
  · rw [h] at h1
    exact absurd (show 1 ≤ 0 from h1) (by decide)
  · refine ⟨t0, q1, q3, ?_, fun t ht hlt g2 hg2 he => ?_⟩
    · have hc : nxt W.2.1 a0 t0 < 4 ^ W.2.1 := swp_lt
      obtain ⟨e, e1, e2, e3⟩ := bf0_dist hW hc q4
      rcases fst_or G (bf0 W (nxt W.2.1 a0 t0)) with z | ⟨g2, z⟩
      · have := z e e1
        rw [e2, hgG] at this
        cases this
      · refine ⟨g2, z, ?_⟩
        have l1 := fst_min (bf0_srt hW hc) z e1 (by rw [e2]; exact hgG)
        have g2m : g2 ∈ bf0 W (nxt W.2.1 a0 t0) := by
          obtain ⟨u, v, e, -⟩ := z
          rw [e]
          exact List.mem_append_right _ List.mem_cons_self
        have g2G : G g2.1 = true := by
          obtain ⟨u, v, -, e, -⟩ := z
          exact e
        have w2 := srcd_wlk (bf0_src hW hc g2m)
        obtain ⟨y, y1, y2, y3⟩ := bf0_all hW ha q1 w2
        have l2 := fst_min (bf0_srt hW ha) hg y1 (by rw [y2]; exact g2G)
        have m0 := mcode_lt hW q1
        have lead : ∀ {c : Nat} (hc : c < 4 ^ W.2.1) (e : En), e ∈ bf0 W c → e.2.2 < 999 := by
          intro c hc e he
          rcases bf0_src hW hc he with z | ⟨t, k, z1, z2, z3, z4⟩
          · rw [z]
            exact (by decide : 0 < 999)
          · rw [z3]
            exact mcode_lt hW z1
        have a1 := lead hc e e1
        have a2 := lead hc g2 g2m
        have a3 := lead ha g hgm
        unfold key at l1 l2 y3
        omega
    · have hc : nxt W.2.1 a0 t < 4 ^ W.2.1 := swp_lt
      have g2m : g2 ∈ bf0 W (nxt W.2.1 a0 t) := by
        obtain ⟨u, v, e, -⟩ := hg2
        rw [e]
        exact List.mem_append_right _ List.mem_cons_self
      have g2G : G g2.1 = true := by
        obtain ⟨u, v, -, e, -⟩ := hg2
        exact e
      have w2 := srcd_wlk (bf0_src hW hc g2m)
      obtain ⟨y, y1, y2, y3⟩ := bf0_all hW ha ht w2
      have l2 := fst_min (bf0_srt hW ha) hg y1 (by rw [y2]; exact g2G)
      unfold key at l2 y3
      omega
