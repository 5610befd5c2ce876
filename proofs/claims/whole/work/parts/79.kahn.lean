/-! the longest evening: each is taken when all that lead to it were -/
def pos : List Nat → Nat → Nat
  | [], _ => 0
  | x :: r, c => if x = c then 0 else pos r c + 1
theorem pos_ok : ∀ {L : List Nat} {c : Nat}, c ∈ L → L[pos L c]? = some c
  | [], c, h => by cases h
  | x :: r, c, h => by
    unfold pos
    by_cases e : x = c
    · rw [if_pos e, e]
      rfl
    · rw [if_neg e]
      rcases List.mem_cons.mp h with w | w
      · exact absurd w.symm e
      · exact pos_ok w
theorem nodup_at {L : List Nat} (h : L.Nodup) {i j c : Nat} (hi : L[i]? = some c) (hj : L[j]? = some c) : i = j := by
  obtain ⟨b1, e1⟩ := List.getElem?_eq_some_iff.mp hi
  obtain ⟨b2, e2⟩ := List.getElem?_eq_some_iff.mp hj
  rcases Nat.lt_trichotomy i j with w | w | w
  · exact absurd (e1.trans e2.symm) (List.pairwise_iff_getElem.mp h i j b1 b2 w)
  · exact w
  · exact absurd (e2.trans e1.symm) (List.pairwise_iff_getElem.mp h j i b2 b1 w)
/-- the codes of a walk, and where the changes of each lead -/
def cds (W : Wd) (a0 : Nat) : List Nat := (bf0 W a0).map (·.1)
def cdN (C : List Nat) (i : Nat) : Nat := (C[i]?).getD 0
def scs (W : Wd) (C : List Nat) (h : Nat) : List Nat := (mvs W (cdN C h)).map (fun t => pos C (nxt W.2.1 (cdN C h) t))
def cN (W : Wd) (C : List Nat) (i h : Nat) : Nat := (scs W C h).count i
def dg (f : Nat → Nat) (L : List Nat) : Nat := (L.map f).sum
theorem dg_app {f : Nat → Nat} {L M : List Nat} : dg f (L ++ M) = dg f L + dg f M := by
  unfold dg
  rw [List.map_append, List.sum_append]
theorem dg_one {f : Nat → Nat} {x : Nat} : dg f [x] = f x := by
  unfold dg
  simp
theorem dg_sub {f : Nat → Nat} : ∀ {L M : List Nat}, L.Nodup → (∀ x ∈ L, x ∈ M) → dg f L ≤ dg f M
  | [], _, _, _ => by
    unfold dg
    simp
  | x :: L, M, h, hs => by
    obtain ⟨s, t, e⟩ := List.append_of_mem (hs x List.mem_cons_self)
    have h2 := List.nodup_cons.mp h
    have ih := dg_sub (f := f) (L := L) (M := s ++ t) h2.2 (fun y hy => by
      have := hs y (List.mem_cons_of_mem _ hy)
      rw [e] at this
      rcases List.mem_append.mp this with q | q
      · exact List.mem_append_left _ q
      · rcases List.mem_cons.mp q with q | q
        · subst q
          exact absurd hy h2.1
        · exact List.mem_append_right _ q)
    have e1 : dg f (x :: L) = f x + dg f L := by
      unfold dg
      simp
    have e2 : dg f M = dg f s + (f x + dg f t) := by
      rw [e]
      unfold dg
      simp
    rw [dg_app] at ih
    omega
section KP
variable {W : Wd} {a0 : Nat}
theorem cds_nodup (hW : wd_ok W) (ha : a0 < 4 ^ W.2.1) : (cds W a0).Nodup := (bf0_BI hW ha).1
theorem cds_len (hW : wd_ok W) (ha : a0 < 4 ^ W.2.1) : (cds W a0).length = (bf0 W a0).length ∧ (cds W a0).length ≤ 630 := by
  have : (cds W a0).length = (bf0 W a0).length := by
    unfold cds
    rw [List.length_map]
  exact ⟨this, by rw [this]; exact (bf0_BI hW ha).len hW.1.2⟩
theorem cdN_at {C : List Nat} {i : Nat} (hi : i < C.length) : C[i]? = some (cdN C i) := by
  unfold cdN
  rw [List.getElem?_eq_getElem hi]
  rfl
theorem cds_en {i : Nat} (hi : i < (cds W a0).length) : ∃ e, (bf0 W a0)[i]? = some e ∧ e.1 = cdN (cds W a0) i := by
  have h1 := cdN_at hi
  unfold cds at h1 hi
  rw [List.length_map] at hi
  have h2 := List.getElem?_eq_getElem hi
  refine ⟨_, h2, ?_⟩
  rw [List.getElem?_map, h2] at h1
  exact Option.some.inj h1
theorem cdN_lt (hW : wd_ok W) (ha : a0 < 4 ^ W.2.1) {i : Nat} (hi : i < (cds W a0).length) : cdN (cds W a0) i < 4 ^ W.2.1 := by
  obtain ⟨e, h1, h2⟩ := cds_en hi
  rw [← h2]
  exact ((bf0_BI hW ha).2 e (List.mem_of_getElem? h1)).1
theorem cds_cl (hW : wd_ok W) (ha : a0 < 4 ^ W.2.1) {h : Nat} {t : Tr} (hh : h < (cds W a0).length) (ht : t ∈ mvs W (cdN (cds W a0) h)) : (cds W a0)[pos (cds W a0) (nxt W.2.1 (cdN (cds W a0) h) t)]? = some (nxt W.2.1 (cdN (cds W a0) h) t) := by
  obtain ⟨e, h1, h2⟩ := cds_en hh
  rw [← h2] at ht ⊢
  obtain ⟨y, y1, y2, -⟩ := bf0_step hW ha (List.mem_of_getElem? h1) ht
  refine pos_ok ?_
  rw [← y2]
  exact List.mem_map_of_mem (f := (·.1)) y1
theorem pos_lt (hW : wd_ok W) (ha : a0 < 4 ^ W.2.1) {h : Nat} {t : Tr} (hh : h < (cds W a0).length) (ht : t ∈ mvs W (cdN (cds W a0) h)) : pos (cds W a0) (nxt W.2.1 (cdN (cds W a0) h) t) < (cds W a0).length := (List.getElem?_eq_some_iff.mp (cds_cl hW ha hh ht)).1
theorem cdN_pos (hW : wd_ok W) (ha : a0 < 4 ^ W.2.1) {h : Nat} {t : Tr} (hh : h < (cds W a0).length) (ht : t ∈ mvs W (cdN (cds W a0) h)) : cdN (cds W a0) (pos (cds W a0) (nxt W.2.1 (cdN (cds W a0) h) t)) = nxt W.2.1 (cdN (cds W a0) h) t := by
  have h1 := cds_cl hW ha hh ht
  rw [cdN_at (pos_lt hW ha hh ht)] at h1
  exact Option.some.inj h1
theorem cdN_inj (hW : wd_ok W) (ha : a0 < 4 ^ W.2.1) {i j : Nat} (hi : i < (cds W a0).length) (hj : j < (cds W a0).length) (h : cdN (cds W a0) i = cdN (cds W a0) j) : i = j := by
  have h1 := cdN_at hi
  rw [h] at h1
  exact nodup_at (cds_nodup hW ha) h1 (cdN_at hj)
theorem count_map {α : Type} {g : α → Nat} {i : Nat} : ∀ {T : List α}, (T.map g).count i = (T.filter (fun t => decide (g t = i))).length
  | [] => rfl
  | t :: T => by
    rw [List.map_cons, List.count_cons, count_map, List.filter_cons]
    by_cases h : g t = i
    · simp [h]
    · simp [h]
theorem filter2 {α : Type} {p q r : α → Bool} (h : ∀ x, p x = true → q x = true → False) (hp : ∀ x, p x = true → r x = true) (hq : ∀ x, q x = true → r x = true) : ∀ L : List α, (L.filter p).length + (L.filter q).length ≤ (L.filter r).length
  | [] => Nat.le_refl _
  | x :: L => by
    have ih := filter2 h hp hq L
    rw [List.filter_cons, List.filter_cons, List.filter_cons]
    by_cases c1 : p x = true
    · by_cases c2 : q x = true
      · exact (h x c1 c2).elim
      · rw [if_pos c1, if_neg c2, if_pos (hp x c1)]
        simp
        omega
    · rw [if_neg c1]
      by_cases c2 : q x = true
      · rw [if_pos c2, if_pos (hq x c2)]
        simp
        omega
      · rw [if_neg c2]
        split
        · simp
          omega
        · exact ih
/-- few lead to one -/
theorem in_few (hW : wd_ok W) (ha : a0 < 4 ^ W.2.1) {i : Nat} (hi : i < (cds W a0).length) : ∀ k, k ≤ (cds W a0).length → dg (cN W (cds W a0) i) (List.range k) ≤ 60 := by
  have h7 := hW.1.2
  have hb := cdN_lt hW ha hi
  generalize eb : cdN (cds W a0) i = b at hb
  have hR : wd_ok (W.1, W.2.1, W.2.2.2.1, W.2.2.1, fun _ _ _ => true) := ⟨hW.1, fun d hd => ⟨(hW.2 d hd).2.1, (hW.2 d hd).1, fun q => (hW.2 d hd).2.2 q.symm⟩⟩
  generalize eWr : ((W.1, W.2.1, W.2.2.2.1, W.2.2.1, fun _ _ _ => true) : Wd) = Wr at hR
  have key : ∀ k, k ≤ (cds W a0).length → dg (cN W (cds W a0) i) (List.range k) ≤ ((mvs Wr b).filter (fun t => decide (nxt W.2.1 b t ∈ (cds W a0).take k))).length := by
    intro k
    induction k with
    | zero =>
      intro _
      unfold dg
      simp
    | succ k ih =>
      intro hk
      have ih := ih (by omega)
      rw [List.range_succ, dg_app, dg_one]
      have hkl : k < (cds W a0).length := by omega
      have ha2 := cdN_lt hW ha hkl
      have step : cN W (cds W a0) i k ≤ ((mvs Wr b).filter (fun t => decide (nxt W.2.1 b t = cdN (cds W a0) k))).length := by
        unfold cN scs
        rw [count_map]
        refine nodup_le (List.Pairwise.filter _ (mvs_nodup h7)) (fun t ht => ?_)
        obtain ⟨t1, t2⟩ := List.mem_filter.mp ht
        have t2 : pos (cds W a0) (nxt W.2.1 (cdN (cds W a0) k) t) = i := of_decide_eq_true t2
        have e1 := cdN_pos hW ha hkl t1
        rw [t2, eb] at e1
        obtain ⟨n1, n2, n3⟩ := mvs_ne hW t1
        obtain ⟨⟨m1, m2, m3⟩, m4⟩ := mem_mvs.mp t1
        obtain ⟨-, m5, m6⟩ := canB_iff.mp m4
        refine List.mem_filter.mpr ⟨?_, decide_eq_true ?_⟩
        · rw [← eWr]
          refine mem_mvs.mpr ⟨⟨m1, m2, m3⟩, canB_iff.mpr ⟨rfl, ?_, ?_⟩⟩
          · show rmN b t.2.1 = W.2.2.2.1 t.1
            rw [e1]
            show rmN (swp W.2.1 _ t.2.1 t.2.2) t.2.1 = _
            rw [rm_swp n1]
            unfold swf pu
            rw [if_neg n3, if_pos rfl]
            exact m6
          · show rmN b t.2.2 = W.2.2.1 t.1
            rw [e1]
            show rmN (swp W.2.1 _ t.2.1 t.2.2) t.2.2 = _
            rw [rm_swp n2]
            unfold swf pu
            rw [if_pos rfl]
            exact m5
        · rw [e1]
          show swp W.2.1 (swp W.2.1 _ t.2.1 t.2.2) t.2.1 t.2.2 = _
          exact swp_swp ha2 n1 n2 n3
      have hat := cdN_at hkl
      have e2 : (cds W a0).take (k + 1) = (cds W a0).take k ++ [cdN (cds W a0) k] := by
        rw [List.take_succ, hat]
        rfl
      have nin : cdN (cds W a0) k ∉ (cds W a0).take k := by
        intro w
        obtain ⟨j, hj, ej⟩ := List.getElem_of_mem w
        have l := hj
        rw [List.length_take] at l
        have : (cds W a0)[j]? = some (cdN (cds W a0) k) := by
          rw [List.getElem_take] at ej
          rw [List.getElem?_eq_getElem (by omega), ej]
        have := nodup_at (cds_nodup hW ha) this hat
        omega
      have f2 := filter2 (p := fun t => decide (nxt W.2.1 b t ∈ (cds W a0).take k)) (q := fun t => decide (nxt W.2.1 b t = cdN (cds W a0) k)) (r := fun t => decide (nxt W.2.1 b t ∈ (cds W a0).take (k + 1))) (fun t h1 h2 => by
        have h1 := of_decide_eq_true h1
        rw [of_decide_eq_true h2] at h1
        exact nin h1) (fun t h1 => decide_eq_true (by rw [e2]; exact List.mem_append_left _ (of_decide_eq_true h1))) (fun t h1 => decide_eq_true (by rw [e2, of_decide_eq_true h1]; exact List.mem_append_right _ (List.mem_singleton.mpr rfl))) (mvs Wr b)
      omega
  intro k hk
  have h1 := key k hk
  have h2 := List.length_filter_le (fun t => decide (nxt W.2.1 b t ∈ (cds W a0).take k)) (mvs Wr b)
  have h3 := mvs_len (a := b) hR
  omega
end KP
def upN (f : Nat → Nat) (i v : Nat) : Nat → Nat := fun j => if j = i then v else f j
abbrev KS : Type := List Nat × (Nat → Nat) × (Nat → Nat)
/-- one edge -/
def k1E (h : Nat) (s : KS) (i : Nat) : KS := (if s.2.1 i - 1 = 0 then s.1 ++ [i] else s.1, upN s.2.1 i (s.2.1 i - 1), upN s.2.2 i (max (s.2.2 i) (s.2.2 h + 1)))
def kRun (W : Wd) (C : List Nat) : Nat → Nat → KS → Nat → Nat × Nat
  | 0, _, s, most => (s.1.length, most)
  | f + 1, p, s, most => match s.1[p]? with
    | none => (s.1.length, most)
    | some h => kRun W C f (p + 1) ((scs W C h).foldl (k1E h) s) (max most (s.2.2 h))
def kAns (m : Nat) (r : Nat × Nat) : Int32 := if r.1 < m then -2 else nI r.2
/-- what holds while the edges of the p-th are walked -/
def KI (W : Wd) (C : List Nat) (p : Nat) (pre : List Nat) (s : KS) : Prop := (s.1.Nodup ∧ (∀ x ∈ s.1, x < C.length) ∧ ∀ x ∈ s.1, s.2.1 x = 0) ∧ (∀ i, i < C.length → s.2.1 i + dg (cN W C i) (s.1.take p) + pre.count i = dg (cN W C i) (List.range C.length)) ∧ (∀ i, i < C.length → s.2.2 i ≤ p + (if pre = [] then 0 else 1)) ∧ ∀ h, s.1[p]? = some h → s.2.2 h ≤ p
theorem count1 {l : List Nat} {x i : Nat} : (l ++ [x]).count i = l.count i + if x = i then 1 else 0 := by
  rw [List.count_append, List.count_singleton]
  by_cases h : x = i
  · simp [h]
  · simp [h]
theorem KI.edge {W : Wd} {C : List Nat} {p h i : Nat} {pre suf : List Nat} {s : KS} (hp : s.1[p]? = some h) (hs : scs W C h = pre ++ i :: suf) (hi : i < C.length) (hK : KI W C p pre s) : 1 ≤ s.2.1 i ∧ i ∉ s.1 ∧ s.2.2 h ≤ p ∧ KI W C p (pre ++ [i]) (k1E h s i) ∧ (k1E h s i).1[p]? = some h ∧ s.1.length < C.length := by
  obtain ⟨⟨h1, h2, h3⟩, h4, h5, h6⟩ := id hK
  have hpl : p < s.1.length := (List.getElem?_eq_some_iff.mp hp).1
  have e2 : s.1.take (p + 1) = s.1.take p ++ [h] := by
    rw [List.take_succ, hp]
    rfl
  have sub := dg_sub (f := cN W C i) (L := s.1.take (p + 1)) (M := List.range C.length) (List.Nodup.sublist (List.take_sublist _ _) h1) (fun x hx => List.mem_range.mpr (h2 x (List.mem_of_mem_take hx)))
  rw [e2, dg_app, dg_one] at sub
  have c1 : pre.count i + 1 ≤ cN W C i h := by
    unfold cN
    rw [hs, List.count_append, List.count_cons]
    simp
  have w1 : 1 ≤ s.2.1 i := by
    have := h4 i hi
    omega
  have nin : i ∉ s.1 := fun w => by
    have := h3 i w
    omega
  have hh : h < C.length := h2 h (List.mem_of_getElem? hp)
  have ph1 : s.2.2 h ≤ p := h6 h hp
  have hne : ¬ h = i := fun q => nin (by rw [← q]; exact List.mem_of_getElem? hp)
  have lt : s.1.length < C.length := by
    have := nodup_le (L := s.1 ++ [i]) (M := List.range C.length) (by
      rw [List.nodup_append]
      exact ⟨h1, List.nodup_cons.mpr ⟨List.not_mem_nil, List.nodup_nil⟩, fun x hx y hy => by
        rw [List.mem_singleton] at hy
        intro q
        rw [q, hy] at hx
        exact nin hx⟩) (fun x hx => List.mem_range.mpr (by
      rcases List.mem_append.mp hx with w | w
      · exact h2 x w
      · rw [List.mem_singleton] at w
        rw [w]
        exact hi))
    rw [List.length_append, List.length_range] at this
    have e : [i].length = 1 := rfl
    omega
  have ext : Ext s.1 (k1E h s i).1 := by
    unfold k1E
    show Ext s.1 (if s.2.1 i - 1 = 0 then s.1 ++ [i] else s.1)
    split
    · exact ⟨[i], rfl⟩
    · exact Ext.rf
  have tk : (k1E h s i).1.take p = s.1.take p := by
    obtain ⟨u, hu⟩ := ext
    rw [hu, List.take_append_of_le_length (by omega)]
  refine ⟨w1, nin, ph1, ⟨⟨?_, fun x hx => ?_, fun x hx => ?_⟩, fun j hj => ?_, fun j hj => ?_, fun x hx => ?_⟩, ext.at hp, lt⟩
  · unfold k1E
    show (if s.2.1 i - 1 = 0 then s.1 ++ [i] else s.1).Nodup
    split
    · rw [List.nodup_append]
      exact ⟨h1, List.nodup_cons.mpr ⟨List.not_mem_nil, List.nodup_nil⟩, fun x hx y hy => by
        rw [List.mem_singleton] at hy
        intro q
        rw [q, hy] at hx
        exact nin hx⟩
    · exact h1
  · unfold k1E at hx
    have hx : x ∈ (if s.2.1 i - 1 = 0 then s.1 ++ [i] else s.1) := hx
    split at hx
    · rcases List.mem_append.mp hx with w | w
      · exact h2 x w
      · rw [List.mem_singleton] at w
        rw [w]
        exact hi
    · exact h2 x hx
  · unfold k1E at hx ⊢
    have hx : x ∈ (if s.2.1 i - 1 = 0 then s.1 ++ [i] else s.1) := hx
    show upN s.2.1 i (s.2.1 i - 1) x = 0
    unfold upN
    split at hx
    · rename_i z
      by_cases e : x = i
      · rw [if_pos e]
        exact z
      · rw [if_neg e]
        rcases List.mem_append.mp hx with w | w
        · exact h3 x w
        · exact absurd (List.mem_singleton.mp w) e
    · by_cases e : x = i
      · rw [e] at hx
        exact absurd hx nin
      · rw [if_neg e]
        exact h3 x hx
  · rw [tk, count1]
    have := h4 j hj
    show upN s.2.1 i (s.2.1 i - 1) j + _ + _ = _
    unfold upN
    by_cases e : j = i
    · rw [if_pos e, if_pos e.symm]
      rw [e] at this ⊢
      omega
    · rw [if_neg e, if_neg (fun q => e q.symm)]
      omega
  · rw [if_neg (by simp)]
    show upN s.2.2 i (max (s.2.2 i) (s.2.2 h + 1)) j ≤ p + 1
    unfold upN
    have hj2 := h5 j hj
    have hi2 := h5 i hi
    have b1 : (if pre = [] then 0 else 1) ≤ 1 := by split <;> omega
    split <;> omega
  · rw [ext.at hp] at hx
    cases hx
    show upN s.2.2 i (max (s.2.2 i) (s.2.2 h + 1)) h ≤ p
    unfold upN
    rw [if_neg hne]
    exact ph1
