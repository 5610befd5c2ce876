/-! the class reads a law -/
section TapeC
variable {l : Launch} {g : am_G} {b : Nat → Int32} {n : Nat} {σ0 : am_S}
def LC (σ0 σ : am_S) (a : Nat) (ds : List Int32) : Prop := Fr [515, 516, 517] [10] σ0 σ ∧ rg σ 516 = nI a ∧ rg σ 517 = -1 ∧ rg σ 515 = nI ds.length ∧ ∀ i v, ds[i]? = some v → ar σ 10 i = v
def BC (b : Nat → Int32) (n : Nat) (σ0 σ : am_S) (p : Nat) : Prop := Fr [515, 516, 517] [10] σ0 σ ∧ p ≤ n ∧ rg σ 516 = nI p ∧ (rg σ 517 = nI p ∨ (rg σ 517 = -1 ∧ p < n ∧ isD (b p))) ∧ ∃ D : Nat, D ≤ 121 ∧ rg σ 515 = nI D
/-- the tape as it lies -/
def TP (b : Nat → Int32) (n : Nat) (σ0 : am_S) : Prop := n ≤ 120 ∧ rg σ0 513 = nI n ∧ ∀ j, j < n → ar σ0 9 j = b j
theorem LC.step {σ : am_S} {a : Nat} {ds : List Int32} (h : LC σ0 σ a ds) : LC σ0 (sR σ 516 (rg σ 516 + 1)) (a + 1) ds := by
  obtain ⟨h1, h2, h3, h4, h5⟩ := h
  refine ⟨(h1.wR).mono (by simp) (by simp), ?_, h3, h4, h5⟩
  rw [rg_sR, if_pos rfl, h2, nI_1]
theorem c_next {σ : am_S} {a d : Nat} {ds : List Int32} {k : Int32 → am_S → Prop} (ht : TP b n σ0) (ha : a ≤ n) (h : LC σ0 σ a ds) (H : k (gx b n a) σ) : CI l g M_X10_next d [.ref 8] σ k := by
  obtain ⟨h1, h2, h3, h4, h5⟩ := h
  obtain ⟨t1, t2, t3⟩ := ht
  refine b_X10_next_0 ?_
  rw [h3, h1.R 513 rfl, t2, h2, h1.A 9 rfl, nI_clamp (by omega)]
  refine ⟨fun q => absurd q (by decide), fun _ => ⟨fun q => ?_, fun q => ?_⟩⟩
  · have := (len (by omega) (by omega)).mp q
    rw [gx, if_neg (by omega)] at H
    exact H
  · have : a < n := by
      rcases Nat.lt_or_ge a n with e | e
      · exact e
      · exact absurd ((len (by omega) (by omega)).mpr e) q
    rw [gx, if_pos this, ← t3 a this] at H
    exact ⟨vp_in_nI (by omega) (by omega), H⟩
theorem c_nextB {σ : am_S} {p d : Nat} {k : Int32 → am_S → Prop} (ht : TP b n σ0) (h : BC b n σ0 σ p) (H : ∀ r, (r = -1 ∨ isD r) → k r σ) : CI l g M_X10_next d [.ref 8] σ k := by
  obtain ⟨h1, h0, h2, h3, h4⟩ := h
  obtain ⟨t1, t2, t3⟩ := ht
  refine b_X10_next_0 ⟨fun _ => H _ (Or.inl rfl), fun q => ?_⟩
  rcases h3 with e | ⟨e, hp, hd⟩
  · exact absurd (by rw [e]; exact nneg (by omega)) q
  · rw [h1.R 513 rfl, t2, h2, h1.A 9 rfl, nI_clamp (by omega), t3 p hp]
    exact ⟨fun _ => H _ (Or.inl rfl), fun _ => ⟨vp_in_nI (by omega) (by omega), H _ (Or.inr hd)⟩⟩
theorem c_fail {σ : am_S} {a d : Nat} {ds : List Int32} {k : am_S → Prop} (ha : a ≤ n) (hl : ds.length ≤ 121) (h : LC σ0 σ a ds) (H : ∀ τ, BC b n σ0 τ a → k τ) : CV l g M_X10_fail d [.ref 8] σ k := by
  obtain ⟨h1, h2, h3, h4, h5⟩ := h
  refine b_X10_fail_0 ?_
  rw [h3]
  refine ⟨fun q => absurd q (by decide), fun _ => H _ ⟨(h1.wR).mono (by simp) (by simp), ha, h2, Or.inl ?_, ds.length, hl, h4⟩⟩
  rw [rg_sR, if_pos rfl, h2]
theorem c_failB {σ : am_S} {p d : Nat} {k : am_S → Prop} (h : BC b n σ0 σ p) (H : ∀ τ, BC b n σ0 τ p → rg τ 517 = nI p → k τ) : CV l g M_X10_fail d [.ref 8] σ k := by
  have hh := h
  obtain ⟨h1, h0, h2, h3, h4⟩ := h
  refine b_X10_fail_0 ⟨fun q => ?_, fun q => ?_⟩
  · rcases h3 with e | ⟨e, -, -⟩
    · exact H _ hh e
    · exact absurd (e ▸ q) (by decide)
  · have e : rg (sR σ 517 (rg σ 516)) 517 = nI p := by rw [rg_sR, if_pos rfl, h2]
    exact H _ ⟨(h1.wR).mono (by simp) (by simp), h0, h2, Or.inl e, h4⟩ e
theorem c_write1 {σ : am_S} {a d : Nat} {ds : List Int32} {v : Int32} {k : am_S → Prop} (hl : ds.length < 121) (h : LC σ0 σ a ds) (H : ∀ τ, LC σ0 τ a (ds ++ [v]) → k τ) : CV l g M_X10_write d [.ref 8, .int v] σ k := by
  obtain ⟨h1, h2, h3, h4, h5⟩ := h
  refine b_X10_write_0 ?_
  rw [h4]
  refine ⟨fun q => absurd ((len (a := 121) (by omega) (by omega)).mp q) (by omega), fun _ => ⟨vp_in_nI (by omega) (by omega), H _ ⟨(h1.wA.wR).mono (by simp) (by simp), h2, h3, ?_, fun i w hw => ?_⟩⟩⟩
  · rw [rg_sR, if_pos rfl, nI_1, List.length_append]
    rfl
  · rw [ar_sR, ar_sA, nI_clamp (by omega)]
    by_cases e : i = ds.length
    · rw [if_pos ⟨rfl, e⟩]
      subst e
      rw [List.getElem?_append_right (Nat.le_refl _), Nat.sub_self] at hw
      exact Option.some.inj hw
    · rw [if_neg (fun q => e q.2)]
      refine h5 i w ?_
      rcases Nat.lt_or_ge i ds.length with e2 | e2
      · rw [List.getElem?_append_left e2] at hw
        exact hw
      · rw [List.getElem?_append_right e2, List.getElem?_eq_none (by simp; omega)] at hw
        cases hw
theorem c_writeB {σ : am_S} {p d : Nat} {v : Int32} {k : am_S → Prop} (h : BC b n σ0 σ p) (H : ∀ τ, BC b n σ0 τ p → k τ) : CV l g M_X10_write d [.ref 8, .int v] σ k := by
  have hh := h
  obtain ⟨h1, h0, h2, h3, D, hD, h4⟩ := h
  refine b_X10_write_0 ⟨fun _ => H _ hh, fun q => ?_⟩
  rw [h4] at q ⊢
  have : D < 121 := by
    rcases Nat.lt_or_ge D 121 with e | e
    · exact e
    · exact absurd ((len (a := 121) (by omega) (by omega)).mpr e) q
  refine ⟨vp_in_nI (by omega) (by omega), H _ ⟨(h1.wA.wR).mono (by simp) (by simp), h0, h2, h3, D + 1, by omega, ?_⟩⟩
  rw [rg_sR, if_pos rfl, nI_1]
theorem c_joint {σ : am_S} {c : Int32} {lv d : Nat} {k : Int32 → am_S → Prop} (hlv : lv ≤ 4) (h1 : isJ c lv → k 1 σ) (h0 : ¬ isJ c lv → k 0 σ) : CI l g M_X10_isJoint d [.int c, .int (nI lv)] σ k := by
  refine b_X10_isJoint_0 ?_
  have e : lv = 0 ∨ lv = 1 ∨ lv = 2 ∨ lv = 3 ∨ lv = 4 := by omega
  rcases e with rfl | rfl | rfl | rfl | rfl
  · exact ⟨fun q => absurd q (by decide), fun _ => ⟨fun q => h0 q, fun q => h1 q⟩, fun q => absurd q (by decide), fun q => absurd q (by decide), fun q => absurd q (by decide)⟩
  · exact ⟨fun q => absurd q (by decide), fun q => absurd q (by decide), fun _ => ⟨fun q => h0 q, fun q => h1 q⟩, fun q => absurd q (by decide), fun q => absurd q (by decide)⟩
  · exact ⟨fun q => absurd q (by decide), fun q => absurd q (by decide), fun q => absurd q (by decide), fun _ => ⟨fun q => h1 (Or.inl q), fun q1 => ⟨fun q => h1 (Or.inr (Or.inl q)), fun q2 => ⟨fun q3 => h0 (fun w => w.elim q1 (fun w => w.elim q2 q3)), fun q => h1 (Or.inr (Or.inr q))⟩⟩⟩, fun q => absurd q (by decide)⟩
  · exact ⟨fun q => absurd q (by decide), fun q => absurd q (by decide), fun q => absurd q (by decide), fun q => absurd q (by decide), fun _ => ⟨fun q => h1 (Or.inl q), fun q1 => ⟨fun q2 => h0 (fun w => w.elim q1 q2), fun q => h1 (Or.inr q)⟩⟩⟩
  · exact ⟨fun _ => ⟨fun q => h1 (Or.inl q), fun q1 => ⟨fun q => h1 (Or.inr (Or.inl q)), fun q2 => ⟨fun q3 => h0 (fun w => w.elim q1 (fun w => w.elim q2 q3)), fun q => h1 (Or.inr (Or.inr q))⟩⟩⟩, fun q => absurd q (by decide), fun q => absurd q (by decide), fun q => absurd q (by decide), fun q => absurd q (by decide)⟩
theorem stuck_J {r : Int32} {lv : Nat} (h : r = -1 ∨ isD r) : ¬ isJ r lv := by
  intro q
  rcases h with h | h
  · exact isJ_ne q h
  · rcases isJ_cases q with e | e | e | e | e | e | e | e | e | e <;> rw [e] at h <;> exact absurd h (by decide)
theorem c_tailB {σ : am_S} {p d lv op : Nat} {k : am_S → Prop} (ht : TP b n σ0) (hlv : lv ≤ 4) (hd : 1 ≤ d) {x3 : Int32} (h : BC b n σ0 σ p) (H : k σ) : JV l g M_X10_level d 21 [(0, .ref 8), (1, .int (nI lv)), (2, .int (nI op)), (3, .int x3)] [] σ k := by
  refine b_X10_level_21 (by omega) ⟨fun _ => H, fun _ => c_nextB ht h (fun r hr => c_joint hlv (fun q => absurd q (stuck_J hr)) (fun _ => ⟨fun _ => H, fun q => absurd rfl q⟩))⟩
theorem c_num {ds : List Int32} {d : Nat} {k : am_S → Prop} (ht : TP b n σ0) (hd : 1 ≤ d) : ∀ (f : Nat) (v : Int32) (a : Nat) (σ : am_S), f ≤ 4 → a ≤ n → ds.length < 121 → LC σ0 σ a ds → (∀ a1 ts τ, gnum b n f v a = .inl (a1, ts) → LC σ0 τ a1 (ds ++ ts.map tk_sign) → k τ) → (∀ p τ, gnum b n f v a = .inr p → BC b n σ0 τ p → k τ) → JV l g M_X10_number d 4 [(0, .ref 8), (1, .int v), (2, .int (nI (4 - f)))] [] σ k
  | 0, v, a, σ, hf, ha, hl, h, H1, H2 => by
    refine b_X10_number_4 (by omega) ⟨fun _ => c_write1 hl h (fun τ hτ => ?_), fun q => absurd (by decide) q⟩
    rw [gnum] at H1 H2
    by_cases c : isD (gx b n a)
    · rw [if_pos c] at H2
      have hlt : a < n := gx_lt (isD_ne c)
      rw [gx, if_pos hlt] at c
      obtain ⟨q1, q2, q3, q4, q5⟩ := hτ
      refine H2 a τ rfl ⟨q1, ha, q2, Or.inr ⟨q3, hlt, c⟩, _, ?_, q4⟩
      rw [List.length_append]
      show ds.length + 1 ≤ 121
      omega
    · rw [if_neg c] at H1
      exact H1 a _ τ rfl hτ
  | f + 1, v, a, σ, hf, ha, hl, h, H1, H2 => by
    rw [gnum] at H1 H2
    have hx : ¬ (4 : Int32) ≤ nI (4 - (f + 1)) := fun q => absurd ((len (a := 4) (by omega) (by omega)).mp q) (by omega)
    refine b_X10_number_4 (by omega) ⟨fun q => absurd q hx, fun _ => c_next ht ha h ⟨fun c => ?_, fun c => ?_⟩⟩
    · rw [if_pos c] at H1 H2
      have hlt : a < n := gx_lt (isD_ne c)
      refine c_next ht ha h ?_
      rw [nI_1, show 4 - (f + 1) + 1 = 4 - f by omega]
      exact c_num ht hd f _ (a + 1) _ (by omega) hlt hl h.step H1 H2
    · rw [if_neg c] at H1
      exact c_write1 hl h (fun τ hτ => H1 a _ τ rfl hτ)
def KC (l : Launch) (g : am_G) (md : Md) (σ : am_S) (d op a : Nat) (k : am_S → Prop) : Prop := match md with
  | .inl lv => CV l g M_X10_level d [.ref 8, .int (nI lv), .int (nI op)] σ k
  | .inr (.inl (lv, _)) => ∀ j : Nat, j ≤ a → JV l g M_X10_level d 21 [(0, .ref 8), (1, .int (nI lv)), (2, .int (nI op)), (3, .int (nI j))] [] σ k
  | .inr (.inr _) => CV l g M_X10_operand d [.ref 8, .int (nI op)] σ k
def need (md : Md) (op : Nat) : Nat := match md with
  | .inl lv => 8 * (7 - op) + 16 - lv
  | .inr (.inl (lv, _)) => 8 * (7 - op) + 16 - lv
  | .inr (.inr _) => 8 * (7 - op) + 10
def preS (md : Md) : List Tok := match md with
  | .inr (.inl (_, t0)) => t0
  | _ => []
theorem sg_bin {c : Int32} {lv : Nat} (h : isJ c lv) : tk_sign (c, 0) = -c := by
  rcases isJ_cases h with e | e | e | e | e | e | e | e | e | e <;> rw [e] <;> rfl
theorem sg_name {c : Int32} (h : nmI c ≠ -1) : tk_sign (2, nmI c) = -c := by
  rcases nmI_cases h with ⟨e, e2⟩ | ⟨e, e2⟩ | ⟨e, e2⟩ | ⟨e, e2⟩ | ⟨e, e2⟩ | ⟨e, e2⟩ <;> rw [e2, e] <;> rfl
theorem map1 {ds : List Int32} {ts : List Tok} {t : Tok} : ds ++ (ts ++ [t]).map tk_sign = ds ++ ts.map tk_sign ++ [tk_sign t] := by
  rw [List.map_append, List.append_assoc]
  rfl
theorem len1 {ds : List Int32} {ts : List Tok} : (ds ++ ts.map tk_sign).length = ds.length + ts.length := by
  rw [List.length_append, List.length_map]
theorem nm_iff {c : Int32} : nmI c ≠ -1 ↔ ¬ (¬ c = 97 ∧ ¬ c = 98 ∧ ¬ c = 100 ∧ ¬ c = 107 ∧ ¬ c = 105 ∧ ¬ c = 106) := by
  constructor
  · intro h q
    rcases nmI_cases h with ⟨e, -⟩ | ⟨e, -⟩ | ⟨e, -⟩ | ⟨e, -⟩ | ⟨e, -⟩ | ⟨e, -⟩
    · exact q.1 e
    · exact q.2.1 e
    · exact q.2.2.1 e
    · exact q.2.2.2.1 e
    · exact q.2.2.2.2.1 e
    · exact q.2.2.2.2.2 e
  · intro h q
    refine h ⟨fun e => ?_, fun e => ?_, fun e => ?_, fun e => ?_, fun e => ?_, fun e => ?_⟩ <;> rw [e] at q <;> exact absurd q (by decide)
theorem c_par (ht : TP b n σ0) : ∀ (f : Nat) (md : Md) (op a : Nat) (r : PR) (d : Nat) (σ : am_S) (ds : List Int32) (k : am_S → Prop), a ≤ n → preT md → preL md → op ≤ 6 → need md op ≤ d → par b n f md op a = some r → ds.length + (preS md).length ≤ a → LC σ0 σ a (ds ++ (preS md).map tk_sign) → (∀ a1 ts τ, r = .inl (a1, ts) → LC σ0 τ a1 (ds ++ ts.map tk_sign) → k τ) → (∀ p τ, r = .inr p → BC b n σ0 τ p → k τ) → KC l g md σ d op a k
  | 0, _, _, _, _, _, _, _, _, _, _, _, _, _, h, _, _, _, _ => by
    rw [par] at h
    cases h
  | f + 1, .inl lv, op, a, r, d, σ, ds, k, ha, _, hv, ho, hd, h, hs, hL, H1, H2 => by
    have hn := ht.1
    have hv : lv ≤ 5 := hv
    have hd : 8 * (7 - op) + 16 - lv ≤ d := hd
    have hs : ds.length + 0 ≤ a := hs
    rw [par] at h
    show CV l g M_X10_level d [.ref 8, .int (nI lv), .int (nI op)] σ k
    refine b_X10_level_0 (by omega) ⟨fun c => ?_, fun c => ?_⟩
    · have c : lv < 5 := (ltn (b := 5) (by omega) (by omega)).mp c
      rw [if_neg (by omega)] at h
      rw [nI_1]
      rcases e : par b n f (.inl (lv + 1)) op a with _ | ⟨a1, ts⟩ | p
      · rw [e] at h
        cases h
      · rw [e] at h
        obtain ⟨g1, g2, g3, g4⟩ := par_good f (.inl (lv + 1)) op a _ ha trivial e
        refine c_par ht f (.inl (lv + 1)) op a _ (d - 1) σ ds _ ha trivial (show lv + 1 ≤ 5 by omega) ho (by show 8 * (7 - op) + 16 - (lv + 1) ≤ d - 1; omega) e hs hL (fun a2 t2 τ er hτ => ?_) (fun p τ er _ => by cases er)
        cases er
        exact c_par ht f (.inr (.inl (lv, ts))) op a1 r d τ ds k g1 g2 (show lv ≤ 4 by omega) ho hd h (by show ds.length + ts.length ≤ a1; omega) hτ H1 H2 0 (Nat.zero_le _)
      · rw [e] at h
        cases h
        refine c_par ht f (.inl (lv + 1)) op a _ (d - 1) σ ds _ ha trivial (show lv + 1 ≤ 5 by omega) ho (by show 8 * (7 - op) + 16 - (lv + 1) ≤ d - 1; omega) e hs hL (fun a2 t2 τ er hτ => by cases er) (fun p τ er hB => ?_)
        cases er
        exact c_tailB ht (by omega) (by omega) hB (H2 _ _ rfl hB)
    · have c : ¬ lv < 5 := fun q => c ((ltn (b := 5) (by omega) (by omega)).mpr q)
      rw [if_pos (by omega)] at h
      exact c_par ht f (.inr (.inr ())) op a r (d - 1) σ ds k ha trivial trivial ho (by show 8 * (7 - op) + 10 ≤ d - 1; omega) h hs hL H1 H2
  | f + 1, .inr (.inl (lv, ts)), op, a, r, d, σ, ds, k, ha, h0, hv, ho, hd, h, hs, hL, H1, H2 => by
    have hn := ht.1
    have hv : lv ≤ 4 := hv
    have hd : 8 * (7 - op) + 16 - lv ≤ d := hd
    have hs : ds.length + ts.length ≤ a := hs
    have hL : LC σ0 σ a (ds ++ ts.map tk_sign) := hL
    rw [par] at h
    show ∀ j : Nat, j ≤ a → JV l g M_X10_level d 21 [(0, .ref 8), (1, .int (nI lv)), (2, .int (nI op)), (3, .int (nI j))] [] σ k
    intro j hj
    refine b_X10_level_21 (by omega) ⟨fun q => ?_, fun _ => c_next ht ha hL (c_joint hv (fun c => ⟨fun q => absurd q (by decide), fun _ => c_next ht ha hL ?_⟩) (fun c => ⟨fun _ => ?_, fun q => absurd rfl q⟩))⟩
    · have q : 120 ≤ j := (len (a := 120) (by omega) (by omega)).mp q
      have c : ¬ isJ (gx b n a) lv := by
        intro w
        have := gx_lt (isJ_ne w)
        omega
      rw [if_neg c] at h
      cases h
      exact H1 _ _ _ rfl hL
    · rw [if_pos c] at h
      have hlt : a < n := gx_lt (isJ_ne c)
      rw [nI_1 lv, nI_1 j]
      rcases e : par b n f (.inl (lv + 1)) op (a + 1) with _ | ⟨a2, t2⟩ | p
      · rw [e] at h
        cases h
      · rw [e] at h
        dsimp only at h
        obtain ⟨g1, g2, g3, g4⟩ := par_good f (.inl (lv + 1)) op (a + 1) _ hlt trivial e
        refine c_par ht f (.inl (lv + 1)) op (a + 1) _ (d - 1) _ (ds ++ ts.map tk_sign) _ hlt trivial (show lv + 1 ≤ 5 by omega) ho (by show 8 * (7 - op) + 16 - (lv + 1) ≤ d - 1; omega) e (by rw [len1]; show _ + 0 ≤ _; omega) (by show LC σ0 _ _ (ds ++ ts.map tk_sign ++ []); rw [List.append_nil]; exact hL.step) (fun a3 t3 τ er hτ => ?_) (fun p τ er _ => by cases er)
        cases er
        have e2 : ds ++ ts.map tk_sign ++ t2.map tk_sign = ds ++ (ts ++ t2).map tk_sign := by rw [List.map_append, List.append_assoc]
        rw [e2] at hτ
        refine c_write1 (by rw [len1, List.length_append]; omega) hτ (fun υ hυ => ?_)
        rw [← sg_bin c, ← map1] at hυ
        refine ⟨fun c2 => ?_, fun c2 => ?_⟩
        · have c2 : ¬ lv = 2 := fun q => c2 (by rw [q]; rfl)
          rw [if_neg c2] at h
          exact c_par ht f (.inr (.inl (lv, ts ++ t2 ++ [(gx b n a, 0)]))) op a2 r d υ ds k g1 (One.bin h0 g2 c) hv ho hd h (by show ds.length + (ts ++ t2 ++ [(gx b n a, 0)]).length ≤ a2; rw [List.length_append, List.length_append]; show _ + (_ + _ + 1) ≤ _; omega) hυ H1 H2 (j + 1) (by omega)
        · have c2 : lv = 2 := nI_inj (b := 2) (by omega) (by omega) c2
          rw [if_pos c2] at h
          cases h
          exact H1 _ _ _ rfl hυ
      · rw [e] at h
        cases h
        refine c_par ht f (.inl (lv + 1)) op (a + 1) _ (d - 1) _ (ds ++ ts.map tk_sign) _ hlt trivial (show lv + 1 ≤ 5 by omega) ho (by show 8 * (7 - op) + 16 - (lv + 1) ≤ d - 1; omega) e (by rw [len1]; show _ + 0 ≤ _; omega) (by show LC σ0 _ _ (ds ++ ts.map tk_sign ++ []); rw [List.append_nil]; exact hL.step) (fun a3 t3 τ er hτ => by cases er) (fun p τ er hB => ?_)
        cases er
        exact c_writeB hB (fun υ hυ => ⟨fun _ => c_tailB ht hv (by omega) hυ (H2 _ _ rfl hυ), fun _ => H2 _ _ rfl hυ⟩)
    · rw [if_neg c] at h
      cases h
      exact H1 _ _ _ rfl hL
  | f + 1, .inr (.inr ()), op, a, r, d, σ, ds, k, ha, _, _, ho, hd, h, hs, hL, H1, H2 => by
    have hn := ht.1
    have hd : 8 * (7 - op) + 10 ≤ d := hd
    have hs : ds.length + 0 ≤ a := hs
    have hL : LC σ0 σ a ds := by
      have : LC σ0 σ a (ds ++ []) := hL
      rw [List.append_nil] at this
      exact this
    rw [par] at h
    show CV l g M_X10_operand d [.ref 8, .int (nI op)] σ k
    refine b_X10_operand_0 (by omega) (c_next ht ha hL ⟨fun c => ?_, fun c => ⟨fun c1 => ?_, fun c1 => ⟨fun c2 => ⟨fun c3 => ?_, fun c3 => ⟨fun c3' => ⟨fun c4 => ?_, fun c4 => ?_⟩, fun c3' => ?_⟩⟩, fun c2 => ?_⟩⟩⟩)
    · rw [if_pos c] at h
      cases h
      exact b_X10_number_0 (c_num ht (by omega) 4 0 a σ (Nat.le_refl _) ha (by omega) hL (fun a1 ts τ e hτ => H1 a1 ts τ e hτ) (fun p τ e hB => H2 p τ e hB))
    · rw [if_neg c, if_pos (nm_iff.mpr c1)] at h
      cases h
      refine c_write1 (by omega) hL.step (fun τ hτ => H1 _ _ τ rfl ?_)
      rw [← sg_name (nm_iff.mpr c1)] at hτ
      exact hτ
    · have c2 : op < 6 := (ltn (b := 6) (by omega) (by omega)).mp c2
      rw [if_neg c, if_neg (fun q => c1 (nm_iff.mp q)), if_neg (by omega), if_pos (Or.inl c3)] at h
      have hlt : a < n := gx_lt (by rw [c3]; decide)
      rw [nI_1]
      rcases e : par b n f (.inr (.inr ())) (op + 1) (a + 1) with _ | ⟨a1, ts⟩ | p
      · rw [e] at h
        cases h
      · rw [e] at h
        cases h
        obtain ⟨g1, g2, g3, g4⟩ := par_good f (.inr (.inr ())) (op + 1) (a + 1) _ hlt trivial e
        refine c_par ht f (.inr (.inr ())) (op + 1) (a + 1) _ (d - 1) _ ds _ hlt trivial trivial (by omega) (by show 8 * (7 - (op + 1)) + 10 ≤ d - 1; omega) e (by show _ + 0 ≤ _; omega) (by show LC σ0 _ _ (ds ++ []); rw [List.append_nil]; exact hL.step) (fun a3 t3 τ er hτ => ?_) (fun p τ er _ => by cases er)
        cases er
        refine ⟨fun q => absurd c3 q, fun _ => c_write1 (by rw [len1]; omega) hτ (fun υ hυ => H1 _ _ υ rfl ?_)⟩
        rw [map1, if_pos c3]
        exact hυ
      · rw [e] at h
        cases h
        refine c_par ht f (.inr (.inr ())) (op + 1) (a + 1) _ (d - 1) _ ds _ hlt trivial trivial (by omega) (by show 8 * (7 - (op + 1)) + 10 ≤ d - 1; omega) e (by show _ + 0 ≤ _; omega) (by show LC σ0 _ _ (ds ++ []); rw [List.append_nil]; exact hL.step) (fun a3 t3 τ er hτ => by cases er) (fun p τ er hB => ?_)
        cases er
        exact ⟨fun _ => c_writeB hB (fun υ hυ => H2 _ _ rfl hυ), fun _ => c_writeB hB (fun υ hυ => H2 _ _ rfl hυ)⟩
    · have c2 : op < 6 := (ltn (b := 6) (by omega) (by omega)).mp c2
      rw [if_neg c, if_neg (fun q => c1 (nm_iff.mp q)), if_neg (by omega), if_neg (fun q => q.elim c3 c3'), if_neg c4] at h
      cases h
      exact c_fail ha (by omega) hL (fun τ hτ => H2 _ _ rfl hτ)
    · have c2 : op < 6 := (ltn (b := 6) (by omega) (by omega)).mp c2
      rw [if_neg c, if_neg (fun q => c1 (nm_iff.mp q)), if_neg (by omega), if_neg (fun q => q.elim c3 c3'), if_pos c4] at h
      have hlt : a < n := gx_lt (by rw [c4]; decide)
      rw [nI_1]
      rcases e : par b n f (.inl 0) (op + 1) (a + 1) with _ | ⟨a1, ts⟩ | p
      · rw [e] at h
        cases h
      · rw [e] at h
        dsimp only at h
        obtain ⟨g1, g2, g3, g4⟩ := par_good f (.inl 0) (op + 1) (a + 1) _ hlt trivial e
        refine c_par ht f (.inl 0) (op + 1) (a + 1) _ (d - 1) _ ds _ hlt trivial (show 0 ≤ 5 by omega) (by omega) (by show 8 * (7 - (op + 1)) + 16 - 0 ≤ d - 1; omega) e (by show _ + 0 ≤ _; omega) (by show LC σ0 _ _ (ds ++ []); rw [List.append_nil]; exact hL.step) (fun a3 t3 τ er hτ => ?_) (fun p τ er _ => by cases er)
        cases er
        refine c_next ht g1 hτ ⟨fun c5 => ?_, fun c5 => ?_⟩
        · rw [if_neg c5] at h
          cases h
          exact c_fail g1 (by rw [len1]; omega) hτ (fun υ hυ => H2 _ _ rfl hυ)
        · rw [if_pos c5] at h
          cases h
          exact H1 _ _ _ rfl hτ.step
      · rw [e] at h
        cases h
        refine c_par ht f (.inl 0) (op + 1) (a + 1) _ (d - 1) _ ds _ hlt trivial (show 0 ≤ 5 by omega) (by omega) (by show 8 * (7 - (op + 1)) + 16 - 0 ≤ d - 1; omega) e (by show _ + 0 ≤ _; omega) (by show LC σ0 _ _ (ds ++ []); rw [List.append_nil]; exact hL.step) (fun a3 t3 τ er hτ => by cases er) (fun p τ er hB => ?_)
        cases er
        refine c_nextB ht hB (fun r hr => ⟨fun _ => c_failB hB (fun υ hυ _ => H2 _ _ rfl hυ), fun q => ?_⟩)
        rcases hr with w | w
        · exact absurd (w.symm.trans q) (by decide)
        · rw [q] at w
          exact absurd w (by decide)
    · have c2 : op < 6 := (ltn (b := 6) (by omega) (by omega)).mp c2
      rw [if_neg c, if_neg (fun q => c1 (nm_iff.mp q)), if_neg (by omega), if_pos (Or.inr c3')] at h
      have hlt : a < n := gx_lt (by rw [c3']; decide)
      rw [nI_1]
      rcases e : par b n f (.inr (.inr ())) (op + 1) (a + 1) with _ | ⟨a1, ts⟩ | p
      · rw [e] at h
        cases h
      · rw [e] at h
        cases h
        obtain ⟨g1, g2, g3, g4⟩ := par_good f (.inr (.inr ())) (op + 1) (a + 1) _ hlt trivial e
        refine c_par ht f (.inr (.inr ())) (op + 1) (a + 1) _ (d - 1) _ ds _ hlt trivial trivial (by omega) (by show 8 * (7 - (op + 1)) + 10 ≤ d - 1; omega) e (by show _ + 0 ≤ _; omega) (by show LC σ0 _ _ (ds ++ []); rw [List.append_nil]; exact hL.step) (fun a3 t3 τ er hτ => ?_) (fun p τ er _ => by cases er)
        cases er
        refine ⟨fun _ => c_write1 (by rw [len1]; omega) hτ (fun υ hυ => H1 _ _ υ rfl ?_), fun q => absurd q c3⟩
        rw [map1, if_neg c3]
        exact hυ
      · rw [e] at h
        cases h
        refine c_par ht f (.inr (.inr ())) (op + 1) (a + 1) _ (d - 1) _ ds _ hlt trivial trivial (by omega) (by show 8 * (7 - (op + 1)) + 10 ≤ d - 1; omega) e (by show _ + 0 ≤ _; omega) (by show LC σ0 _ _ (ds ++ []); rw [List.append_nil]; exact hL.step) (fun a3 t3 τ er hτ => by cases er) (fun p τ er hB => ?_)
        cases er
        exact ⟨fun _ => c_writeB hB (fun υ hυ => H2 _ _ rfl hυ), fun _ => c_writeB hB (fun υ hυ => H2 _ _ rfl hυ)⟩
    · have c2 : ¬ op < 6 := fun q => c2 ((ltn (b := 6) (by omega) (by omega)).mpr q)
      rw [if_neg c, if_neg (fun q => c1 (nm_iff.mp q)), if_pos (by omega)] at h
      cases h
      exact c_fail ha (by omega) hL (fun τ hτ => H2 _ _ rfl hτ)
end TapeC
