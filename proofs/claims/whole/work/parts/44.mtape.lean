/-! the reference reads a law: steps -/
theorem y_tab : ∀ m : Fin 256, (nI m.val).toInt8.toInt32 = nI m.val ∨ ((nI m.val).toInt8.toInt32 < 0 ∧ 127 < nI m.val) := by decide +kernel
section TapeM
variable {l : Launch} {g : am_G} {b : Nat → Int32} {n : Nat} {σ0 : am_S}
/-- the letters are bytes -/
def BY (b : Nat → Int32) (n : Nat) : Prop := ∀ j, j < n → 0 ≤ b j ∧ b j ≤ 255
abbrev yy (c : Int32) : Int32 := c.toInt8.toInt32
theorem yy_of {a : Nat} (hb : BY b n) : yy (gx b n a) = gx b n a ∨ (yy (gx b n a) < 0 ∧ 127 < gx b n a) := by
  unfold gx
  by_cases h : a < n
  · rw [if_pos h]
    obtain ⟨h0, h1⟩ := hb a h
    obtain ⟨m, hm, e⟩ := (cC (n := 256) (x := b a) 255 rfl (by omega)).mp ⟨by grind, by grind⟩
    rw [e]
    exact y_tab ⟨m, hm⟩
  · rw [if_neg h]
    exact Or.inl rfl
theorem yy_K {a : Nat} (hb : BY b n) {K : Int32} (h0 : 0 ≤ K) (h1 : K ≤ 127) : yy (gx b n a) = K ↔ gx b n a = K := by
  rcases yy_of (a := a) hb with e | ⟨e1, e2⟩
  · rw [e]
  · constructor
    · intro q
      rw [q] at e1
      grind
    · intro q
      rw [q] at e2
      grind
theorem yy_D {a : Nat} (hb : BY b n) : (¬ yy (gx b n a) < 48 ∧ ¬ 57 < yy (gx b n a)) ↔ isD (gx b n a) := by
  rcases yy_of (a := a) hb with e | ⟨e1, e2⟩
  · rw [e]
  · constructor
    · intro q
      exact absurd q.1 (by grind)
    · intro q
      exact absurd q.2 (by grind)
theorem yy_Dv {a : Nat} (hb : BY b n) (h : isD (gx b n a)) : yy (gx b n a) = gx b n a := by
  rcases yy_of (a := a) hb with e | ⟨e1, e2⟩
  · exact e
  · exact absurd h.2 (by grind)
theorem yy_J {a lv : Nat} (hb : BY b n) (h : isJ (gx b n a) lv) : yy (gx b n a) = gx b n a := by
  rcases yy_of (a := a) hb with e | ⟨e1, e2⟩
  · exact e
  · rcases isJ_cases h with e | e | e | e | e | e | e | e | e | e <;> rw [e] at e2 <;> exact absurd e2 (by decide)
def FM (σ0 σ : am_S) : Prop := Fr [3540, 3541, 3542, 3543] [66, 67] σ0 σ ∧ ∀ j, j < 130 → ar σ 66 j = ar σ0 66 j ∧ ar σ 67 j = ar σ0 67 j
def LM (σ0 σ : am_S) (a op : Nat) (ts : List Tok) : Prop := FM σ0 σ ∧ rg σ 3540 = nI a ∧ rg σ 3541 = -1 ∧ rg σ 3542 = nI op ∧ rg σ 3543 = nI ts.length ∧ ∀ i t, ts[i]? = some t → ar σ 66 (130 + i) = t.1 ∧ ar σ 67 (130 + i) = t.2
def BM (n : Nat) (σ0 σ : am_S) (p c : Nat) : Prop := FM σ0 σ ∧ p ≤ n ∧ rg σ 3540 = nI p ∧ rg σ 3541 = nI p ∧ ∃ L : Nat, L + c ≤ p + 1 ∧ rg σ 3543 = nI L
def TM (b : Nat → Int32) (n : Nat) (σ0 : am_S) : Prop := n ≤ 120 ∧ BY b n ∧ rg σ0 3539 = nI n ∧ ∀ j, j < n → ar σ0 65 j = yy (b j)
theorem FM.wR {σ : am_S} {r : Nat} {v : Int32} (h : FM σ0 σ) (hr : r ∈ ([3540, 3541, 3542, 3543] : List Nat)) : FM σ0 (sR σ r v) := ⟨(h.1.wR).mono (fun q hq => by
  rcases List.mem_cons.mp hq with e | e
  · rw [e]; exact hr
  · exact e) (by simp), h.2⟩
theorem LM.step {σ : am_S} {a op : Nat} {ts : List Tok} (h : LM σ0 σ a op ts) : LM σ0 (sR σ 3540 (rg σ 3540 + 1)) (a + 1) op ts := by
  obtain ⟨h1, h2, h3, h4, h5, h6⟩ := h
  refine ⟨h1.wR (by simp), ?_, h3, h4, h5, h6⟩
  rw [rg_sR, if_pos rfl, h2, nI_1]
theorem LM.opn {σ : am_S} {a op : Nat} {ts : List Tok} (h : LM σ0 σ a op ts) : LM σ0 (sR σ 3542 (rg σ 3542 + 1)) a (op + 1) ts := by
  obtain ⟨h1, h2, h3, h4, h5, h6⟩ := h
  refine ⟨h1.wR (by simp), h2, h3, ?_, h5, h6⟩
  rw [rg_sR, if_pos rfl, h4, nI_1]
theorem LM.shut {σ : am_S} {a op : Nat} {ts : List Tok} (h : LM σ0 σ a (op + 1) ts) : LM σ0 (sR σ 3542 (rg σ 3542 - 1)) a op ts := by
  obtain ⟨h1, h2, h3, h4, h5, h6⟩ := h
  refine ⟨h1.wR (by simp), h2, h3, ?_, h5, h6⟩
  rw [rg_sR, if_pos rfl, h4, ← nI_1, nI_11]
theorem BM.shut {σ : am_S} {p c : Nat} {v : Int32} (h : BM n σ0 σ p c) : BM n σ0 (sR σ 3542 v) p c := by
  obtain ⟨h1, h2, h3, h4, h5⟩ := h
  exact ⟨h1.wR (by simp), h2, h3, h4, h5⟩
theorem BM.le {σ : am_S} {p c c2 : Nat} (h : BM n σ0 σ p c) (hc : c2 ≤ c) : BM n σ0 σ p c2 := by
  obtain ⟨h1, h2, h3, h4, L, h5, h6⟩ := h
  exact ⟨h1, h2, h3, h4, L, by omega, h6⟩
theorem m_look {σ : am_S} {a op d : Nat} {ts : List Tok} {k : Int32 → am_S → Prop} (ht : TM b n σ0) (ha : a ≤ n) (h : LM σ0 σ a op ts) (H : k (yy (gx b n a)) σ) : CI l g M_X12_look d [.ref 55] σ k := by
  obtain ⟨h1, h2, h3, h4, h5⟩ := h
  obtain ⟨t1, tb, t2, t3⟩ := ht
  refine b_X12_look_0 ?_
  rw [h1.1.R 3539 rfl, t2, h2, h1.1.A 65 rfl, nI_clamp (by omega)]
  refine ⟨fun q => ?_, fun q => ?_⟩
  · have := (len (by omega) (by omega)).mp q
    rw [gx, if_neg (by omega)] at H
    exact H
  · have : a < n := by
      rcases Nat.lt_or_ge a n with e | e
      · exact e
      · exact absurd ((len (by omega) (by omega)).mpr e) q
    rw [gx, if_pos this, ← t3 a this] at H
    exact ⟨vp_in_nI (by omega) (by omega), H⟩
theorem m_lookB {σ : am_S} {p c d : Nat} {k : Int32 → am_S → Prop} (ht : TM b n σ0) (h : BM n σ0 σ p c) (H : ∀ r, k r σ) : CI l g M_X12_look d [.ref 55] σ k := by
  obtain ⟨h1, hp, h2, h3, h5⟩ := h
  obtain ⟨t1, tb, t2, t3⟩ := ht
  refine b_X12_look_0 ?_
  rw [h1.1.R 3539 rfl, t2, h2, nI_clamp (by omega)]
  refine ⟨fun q => H _, fun q => ⟨vp_in_nI ?_ (by omega), H _⟩⟩
  rcases Nat.lt_or_ge p n with e | e
  · omega
  · exact absurd ((len (by omega) (by omega)).mpr e) q
theorem m_faulty {σ : am_S} {a op c d : Nat} {ts : List Tok} {k : am_S → Prop} (ha : a ≤ n) (h : LM σ0 σ a op ts) (hc : ts.length + c ≤ a + 1) (H : ∀ τ, BM n σ0 τ a c → k τ) : CV l g M_X12_faulty d [.ref 55] σ k := by
  obtain ⟨h1, h2, h3, h4, h5, h6⟩ := h
  refine b_X12_faulty_0 ?_
  rw [h3]
  refine ⟨fun q => absurd q (by decide), fun _ => H _ ⟨h1.wR (by simp), ha, h2, ?_, ts.length, hc, h5⟩⟩
  rw [rg_sR, if_pos rfl, h2]
theorem FM.add {σ : am_S} {j : Nat} {u v w : Int32} (h : FM σ0 σ) (hj : 130 ≤ j) : FM σ0 (sR (sA (sA σ 66 j u) 67 j v) 3543 w) := by
  refine ⟨(h.1.wA.wA.wR).mono (by simp) (by simp), fun i hi => ?_⟩
  rw [ar_sR]
  refine ⟨?_, ?_⟩
  · rw [ar_sA, if_neg (fun q => absurd q.1 (by decide)), ar_sA, if_neg (fun q => by omega)]
    exact (h.2 i hi).1
  · rw [ar_sA, if_neg (fun q => by omega), ar_sA, if_neg (fun q => absurd q.1 (by decide))]
    exact (h.2 i hi).2
theorem m_add {σ : am_S} {a op d : Nat} {ts : List Tok} {x1 x2 t1 : Int32} {k : am_S → Prop} (hl : ts.length < 130) (e1 : yy x1 = t1) (h : LM σ0 σ a op ts) (H : ∀ τ, LM σ0 τ a op (ts ++ [(t1, x2)]) → k τ) : CV l g M_X12_addStep d [.ref 55, .int x1, .int x2] σ k := by
  obtain ⟨h1, h2, h3, h4, h5, h6⟩ := h
  refine b_X12_addStep_0 ?_
  rw [h5, nI_1, show (130 : Int32) = nI 130 from rfl, nI_add, nI_clamp (by omega), nar_b]
  have z : vp_in (nI (130 + ts.length)) 260 := vp_in_nI (by omega) (by omega)
  refine ⟨z, z, H _ ⟨h1.add (by omega), h2, h3, h4, ?_, fun i t hi => ?_⟩⟩
  · rw [rg_sR, if_pos rfl, List.length_append]
    rfl
  · rw [ar_sR]
    by_cases e : i = ts.length
    · subst e
      rw [List.getElem?_append_right (Nat.le_refl _), Nat.sub_self] at hi
      have hi := Option.some.inj hi
      subst hi
      refine ⟨?_, ?_⟩
      · rw [ar_sA, if_neg (fun q => absurd q.1 (by decide)), ar_sA, if_pos ⟨rfl, rfl⟩]
        exact e1
      · rw [ar_sA, if_pos ⟨rfl, rfl⟩]
    · have hi2 : ts[i]? = some t := by
        rcases Nat.lt_or_ge i ts.length with e2 | e2
        · rw [List.getElem?_append_left e2] at hi
          exact hi
        · rw [List.getElem?_append_right e2, List.getElem?_eq_none (by simp; omega)] at hi
          cases hi
      refine ⟨?_, ?_⟩
      · rw [ar_sA, if_neg (fun q => absurd q.1 (by decide)), ar_sA, if_neg (fun q => by omega)]
        exact (h6 i t hi2).1
      · rw [ar_sA, if_neg (fun q => by omega), ar_sA, if_neg (fun q => absurd q.1 (by decide))]
        exact (h6 i t hi2).2
theorem m_addB {σ : am_S} {p c d : Nat} {x1 x2 : Int32} {k : am_S → Prop} (hn : n ≤ 120) (h : BM n σ0 σ p (c + 1)) (H : ∀ τ, BM n σ0 τ p c → k τ) : CV l g M_X12_addStep d [.ref 55, .int x1, .int x2] σ k := by
  obtain ⟨h1, h2, h3, h4, L, h5, h6⟩ := h
  refine b_X12_addStep_0 ?_
  rw [h6, nI_1, show (130 : Int32) = nI 130 from rfl, nI_add, nI_clamp (by omega), nar_b]
  have z : vp_in (nI (130 + L)) 260 := vp_in_nI (by omega) (by omega)
  refine ⟨z, z, H _ ⟨h1.add (by omega), h2, h3, h4, L + 1, by omega, ?_⟩⟩
  rw [rg_sR, if_pos rfl]
theorem m_name {σ : am_S} {a d : Nat} {k : Int32 → am_S → Prop} (hb : BY b n) (H : k (nmI (gx b n a)) σ) : CI l g M_X12_nameOf d [.int (yy (gx b n a))] σ k := by
  refine b_X12_nameOf_0 ?_
  have yK := fun K h0 h1 => yy_K (a := a) hb (K := K) h0 h1
  have no : ∀ v : Int32, nmI (gx b n a) = v → k v σ := fun v e => e ▸ H
  refine ⟨fun q => no _ ?_, fun q => no _ ?_, fun q => no _ ?_, fun q => no _ ?_, fun q => no _ ?_, fun q => no _ ?_, fun q => no _ ?_, fun q => no _ ?_, fun q => no _ ?_, fun q => no _ ?_, fun q => no _ ?_, fun q => no _ ?_⟩
  · refine Classical.byContradiction (fun w => ?_)
    rcases nmI_cases w with ⟨e, -⟩ | ⟨e, -⟩ | ⟨e, -⟩ | ⟨e, -⟩ | ⟨e, -⟩ | ⟨e, -⟩ <;> rw [e] at q <;> exact absurd q (by decide)
  all_goals rw [yK _ (by decide) (by decide)] at q; rw [q]; decide
end TapeM
