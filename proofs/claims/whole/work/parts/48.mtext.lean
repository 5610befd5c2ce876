/-! a text of lines; the reference -/
theorem nar_s : ∀ m : Fin 200, vp_nar .short (nI m.val).toInt16.toInt32 = nI m.val := by decide +kernel
section TextM
variable {l : Launch} {g : am_G} {b : Nat → Int32} {n : Nat} {σ0 : am_S}
/-- what is kept of the law told before -/
def MO (σ0 σ : am_S) : Prop := Fr [3540, 3541, 3542, 3543] [66, 67, 68, 69, 70] σ0 σ ∧ (∀ j, j < 130 → ar σ 66 j = ar σ0 66 j ∧ ar σ 67 j = ar σ0 67 j) ∧ (∀ j, j < 61 → ar σ 69 j = ar σ0 69 j ∧ ar σ 70 j = ar σ0 70 j) ∧ ar σ 68 0 = ar σ0 68 0
def mT (ls : List Lin) : List Tok := ls.flatMap ln_M
def MLn (σ : am_S) (ls : List Lin) : Prop := ∀ i q, ls[i]? = some q → ar σ 69 (61 + i) = nI ((mT (ls.take i)).length + q.1.length) ∧ ar σ 70 (61 + i) = nI ((mT (ls.take i)).length + q.1.length + q.2.length)
def MS (σ0 σ : am_S) (a : Nat) (ls : List Lin) : Prop := MO σ0 σ ∧ (rg σ 3540 = nI a ∧ rg σ 3541 = -1 ∧ rg σ 3542 = nI 0 ∧ rg σ 3543 = nI (mT ls).length) ∧ (∀ i t, (mT ls)[i]? = some t → ar σ 66 (130 + i) = t.1 ∧ ar σ 67 (130 + i) = t.2) ∧ ar σ 68 1 = nI ls.length ∧ MLn σ ls
theorem MO.fm {σ τ : am_S} (h : MO σ0 σ) (h2 : FM σ τ) : MO σ0 τ := by
  obtain ⟨a1, a2, a3, a4⟩ := h
  obtain ⟨c1, c2⟩ := h2
  refine ⟨(a1.tr c1).mono (by simp) (by simp), fun j hj => ⟨((c2 j hj).1).trans (a2 j hj).1, ((c2 j hj).2).trans (a2 j hj).2⟩, fun j hj => ?_, ?_⟩
  · rw [c1.A 69 rfl, c1.A 70 rfl]
    exact a3 j hj
  · rw [c1.A 68 rfl]
    exact a4
theorem MO.end {σ : am_S} {i : Nat} {v : Int32} {c : Nat} (h : MO σ0 σ) (hc : c = 69 ∨ c = 70) : MO σ0 (sA σ c (61 + i) v) := by
  obtain ⟨a1, a2, a3, a4⟩ := h
  refine ⟨(a1.wA).mono (by simp) (by rcases hc with e | e <;> rw [e] <;> simp), fun j hj => ?_, fun j hj => ?_, ?_⟩
  · rw [ar_sA, if_neg (fun q => by rcases hc with e | e <;> omega), ar_sA, if_neg (fun q => by rcases hc with e | e <;> omega)]
    exact a2 j hj
  · rw [ar_sA, if_neg (fun q => by omega), ar_sA, if_neg (fun q => by omega)]
    exact a3 j hj
  · rw [ar_sA, if_neg (fun q => by rcases hc with e | e <;> omega)]
    exact a4
theorem MO.many {σ : am_S} {v : Int32} (h : MO σ0 σ) : MO σ0 (sA σ 68 1 v) := by
  obtain ⟨a1, a2, a3, a4⟩ := h
  refine ⟨(a1.wA).mono (by simp) (by simp), fun j hj => ?_, fun j hj => ?_, ?_⟩
  · rw [ar_sA, if_neg (fun q => absurd q.1 (by decide)), ar_sA, if_neg (fun q => absurd q.1 (by decide))]
    exact a2 j hj
  · rw [ar_sA, if_neg (fun q => absurd q.1 (by decide)), ar_sA, if_neg (fun q => absurd q.1 (by decide))]
    exact a3 j hj
  · rw [ar_sA, if_neg (fun q => absurd q.2 (by decide))]
    exact a4
theorem MS.tm {σ : am_S} (ht : TM b n σ0) (h : MO σ0 σ) : TM b n σ := ⟨ht.1, ht.2.1, (h.1.R 3539 rfl).trans ht.2.2.1, fun j hj => by rw [h.1.A 65 rfl]; exact ht.2.2.2 j hj⟩
theorem mT_app {ls : List Lin} {q : Lin} : mT (ls ++ [q]) = mT ls ++ (q.1 ++ q.2) := by
  unfold mT
  rw [List.flatMap_append]
  show _ ++ (ln_M q ++ []) = _
  rw [List.append_nil]
  rfl
theorem MLn.app {σ τ : am_S} {ls : List Lin} {q : Lin} (h : MLn σ ls) (h1 : ∀ j, j < ls.length → ar τ 69 (61 + j) = ar σ 69 (61 + j) ∧ ar τ 70 (61 + j) = ar σ 70 (61 + j)) (h2 : ar τ 69 (61 + ls.length) = nI ((mT ls).length + q.1.length)) (h3 : ar τ 70 (61 + ls.length) = nI ((mT ls).length + q.1.length + q.2.length)) : MLn τ (ls ++ [q]) := by
  intro i q2 hi
  rcases Nat.lt_or_ge i ls.length with e | e
  · rw [List.getElem?_append_left e] at hi
    rw [List.take_append_of_le_length (by omega), (h1 i e).1, (h1 i e).2]
    exact h i q2 hi
  · rw [List.getElem?_append_right e] at hi
    have e2 : i = ls.length := by
      rcases Nat.lt_or_ge ls.length i with w | w
      · rw [List.getElem?_eq_none (by simp; omega)] at hi
        cases hi
      · omega
    subst e2
    rw [Nat.sub_self] at hi
    have hi := Option.some.inj hi
    subst hi
    rw [List.take_append_of_le_length (Nat.le_refl _), List.take_length]
    exact ⟨h2, h3⟩
theorem m_fin {σ τ : am_S} {ls : List Lin} {q : Lin} {a1 : Nat} {v w : Int32} (hLn : MLn σ ls) (hO : MO σ0 τ) (hm : ls.length ≤ 60) (h68 : ar τ 68 1 = nI ls.length) (h69 : ar τ 69 (61 + ls.length) = nI ((mT ls).length + q.1.length)) (hj : ∀ j, j < ls.length → ar τ 69 (61 + j) = ar σ 69 (61 + j) ∧ ar τ 70 (61 + j) = ar σ 70 (61 + j))
    (hr : rg τ 3540 = nI a1 ∧ rg τ 3541 = -1 ∧ rg τ 3542 = nI 0 ∧ rg τ 3543 = nI (mT (ls ++ [q])).length) (hc : ∀ i t, (mT (ls ++ [q]))[i]? = some t → ar τ 66 (130 + i) = t.1 ∧ ar τ 67 (130 + i) = t.2) (hv : v = nI ((mT ls).length + q.1.length + q.2.length)) (hw : w = nI (ls.length + 1)) : MS σ0 (sA (sA τ 70 (61 + ls.length) v) 68 1 w) a1 (ls ++ [q]) := by
  subst hv
  subst hw
  refine ⟨(hO.end (Or.inr rfl)).many, hr, fun i t hi => ?_, ?_, hLn.app (fun j hjl => ?_) ?_ ?_⟩
  · obtain ⟨c1, c2⟩ := hc i t hi
    refine ⟨?_, ?_⟩
    · rw [ar_sA, if_neg (fun q => absurd q.1 (by decide)), ar_sA, if_neg (fun q => absurd q.1 (by decide))]
      exact c1
    · rw [ar_sA, if_neg (fun q => absurd q.1 (by decide)), ar_sA, if_neg (fun q => absurd q.1 (by decide))]
      exact c2
  · rw [ar_sA, if_pos ⟨rfl, rfl⟩, List.length_append]
    rfl
  · refine ⟨?_, ?_⟩
    · rw [ar_sA, if_neg (fun q => absurd q.1 (by decide)), ar_sA, if_neg (fun q => absurd q.1 (by decide))]
      exact (hj j hjl).1
    · rw [ar_sA, if_neg (fun q => absurd q.1 (by decide)), ar_sA, if_neg (fun q => by omega)]
      exact (hj j hjl).2
  · rw [ar_sA, if_neg (fun q => absurd q.1 (by decide)), ar_sA, if_neg (fun q => absurd q.1 (by decide))]
    exact h69
  · rw [ar_sA, if_neg (fun q => absurd q.1 (by decide)), ar_sA, if_pos ⟨rfl, rfl⟩]
theorem FM.rf {σ : am_S} : FM σ σ := ⟨Fr.rf.mono (by simp) (by simp), fun _ _ => ⟨rfl, rfl⟩⟩
theorem m_line {a d : Nat} {r : (Nat × Lin) ⊕ Nat} {σ : am_S} {ls : List Lin} {k : am_S → Prop} (ht : TM b n σ0) (ha : a ≤ n) (hd : 100 ≤ d) (h : gline b n a = some r) (hs : (mT ls).length ≤ a) (hm : 2 * ls.length ≤ a) (hS : MS σ0 σ a ls) (H1 : ∀ a1 q τ, r = .inl (a1, q) → MS σ0 τ a1 (ls ++ [q]) → k τ) (H2 : ∀ p τ, r = .inr p → p ≤ n → MO σ0 τ → rg τ 3541 = nI p → k τ) : CV l g M_X12_line d [.ref 55] σ k := by
  have hn := ht.1
  obtain ⟨hO, ⟨e40, e41, e42, e43⟩, hc, h68, hLn⟩ := hS
  have z : vp_in (nI (61 + ls.length)) 122 := vp_in_nI (by omega) (by omega)
  have cl : (nI (61 + ls.length)).toNatClampNeg = 61 + ls.length := nI_clamp (by omega)
  have ns : ∀ L, L < 200 → vp_nar .short (nI L).toInt16.toInt32 = nI L := fun L hL => nar_s ⟨L, hL⟩
  refine b_X12_line_0 (by omega) ?_
  rw [h68, show (61 : Int32) = nI 61 from rfl, nI_add, cl, e43, ns _ (by omega)]
  refine ⟨z, ?_⟩
  have hO1 : MO σ0 (sA σ 69 (61 + ls.length) (nI (mT ls).length)) := hO.end (Or.inl rfl)
  have b68 : ar (sA σ 69 (61 + ls.length) (nI (mT ls).length)) 68 1 = nI ls.length := by rw [ar_sA, if_neg (fun q => absurd q.1 (by decide)), h68]
  have b69 : ar (sA σ 69 (61 + ls.length) (nI (mT ls).length)) 69 (61 + ls.length) = nI (mT ls).length := by rw [ar_sA, if_pos ⟨rfl, rfl⟩]
  have bj : ∀ j, j < ls.length → ar (sA σ 69 (61 + ls.length) (nI (mT ls).length)) 69 (61 + j) = ar σ 69 (61 + j) ∧ ar (sA σ 69 (61 + ls.length) (nI (mT ls).length)) 70 (61 + j) = ar σ 70 (61 + j) := fun j hj => ⟨by rw [ar_sA, if_neg (fun q => by omega)], by rw [ar_sA, if_neg (fun q => absurd q.1 (by decide))]⟩
  have hL : LM (sA σ 69 (61 + ls.length) (nI (mT ls).length)) (sA σ 69 (61 + ls.length) (nI (mT ls).length)) a 0 (mT ls ++ preS (.inl 0)) := by
    show LM _ _ a 0 (mT ls ++ [])
    rw [List.append_nil]
    refine ⟨FM.rf, e40, e41, e42, e43, fun i t hi => ?_⟩
    rw [ar_sA, if_neg (fun q => absurd q.1 (by decide)), ar_sA, if_neg (fun q => absurd q.1 (by decide))]
    exact hc i t hi
  generalize sA σ 69 (61 + ls.length) (nI (mT ls).length) = σ1 at *
  have tm := MS.tm ht hO1
  have badK : ∀ p τ, r = .inr p → p ≤ n → MO σ0 τ → rg τ 3541 = nI p → ar τ 68 1 = nI ls.length → ∀ v w, k (sA (sA τ 70 (61 + ls.length) v) 68 1 w) := fun p τ er hp hO2 hf _ v w => H2 p _ er hp (hO2.end (Or.inr rfl)).many hf
  unfold gline at h
  rcases e : par b n FU (.inl 0) 0 a with _ | ⟨a1, t⟩ | p
  · rw [e] at h
    cases h
  · rw [e] at h
    dsimp only at h
    obtain ⟨g1, g2, g3, g4⟩ := par_good FU (.inl 0) 0 a _ ha trivial e
    refine m_par tm FU (.inl 0) 0 a _ (d - 1) σ1 (mT ls) 0 _ ha trivial (show 0 ≤ 5 by omega) (by omega) (by show 8 * (7 - 0) + 16 - 0 ≤ d - 1; omega) e hs hL (fun a2 t2 τ er hτ => ?_) (fun p τ er _ => by cases er)
    cases er
    have hO2 := hO1.fm hτ.1
    have t68 : ar τ 68 1 = nI ls.length := by rw [hτ.1.1.A 68 rfl, b68]
    have t69 : ar τ 69 (61 + ls.length) = nI (mT ls).length := by rw [hτ.1.1.A 69 rfl, b69]
    have tj : ∀ j, j < ls.length → ar τ 69 (61 + j) = ar σ 69 (61 + j) ∧ ar τ 70 (61 + j) = ar σ 70 (61 + j) := fun j hj => by rw [hτ.1.1.A 69 rfl, hτ.1.1.A 70 rfl]; exact bj j hj
    refine ⟨fun q => absurd q (by rw [hτ.2.2.1]; decide), fun _ => m_look tm g1 hτ ⟨fun c => ⟨z, ?_⟩, fun c => ⟨z, ?_⟩⟩⟩
    · rw [if_neg (fun w => c ((yy_K ht.2.1 (by decide) (by decide)).mpr w))] at h
      cases h
      rw [hτ.2.2.2.2.1, ns _ (by rw [List.length_append]; omega), t68, nI_1]
      refine H1 _ _ _ rfl (m_fin hLn hO2 (by omega) t68 t69 tj ⟨hτ.2.1, hτ.2.2.1, hτ.2.2.2.1, ?_⟩ ?_ ?_ rfl)
      · rw [mT_app]
        exact hτ.2.2.2.2.1
      · rw [mT_app]
        exact hτ.2.2.2.2.2
      · rw [List.length_append]
        rfl
    · have c := (yy_K ht.2.1 (by decide) (by decide)).mp c
      rw [if_pos c] at h
      have hlt : a1 < n := gx_lt (by rw [c]; decide)
      have hst := hτ.step
      rw [hτ.2.2.2.2.1, ns _ (by rw [List.length_append]; omega)]
      have hO3 : MO σ0 (sA (sR τ 3540 (rg τ 3540 + 1)) 69 (61 + ls.length) (nI (mT ls ++ t).length)) := (hO1.fm hst.1).end (Or.inl rfl)
      have s68 : ar (sA (sR τ 3540 (rg τ 3540 + 1)) 69 (61 + ls.length) (nI (mT ls ++ t).length)) 68 1 = nI ls.length := by rw [ar_sA, if_neg (fun q => absurd q.1 (by decide))]; exact t68
      have s69 : ar (sA (sR τ 3540 (rg τ 3540 + 1)) 69 (61 + ls.length) (nI (mT ls ++ t).length)) 69 (61 + ls.length) = nI ((mT ls).length + t.length) := by rw [ar_sA, if_pos ⟨rfl, rfl⟩, List.length_append]
      have sj : ∀ j, j < ls.length → ar (sA (sR τ 3540 (rg τ 3540 + 1)) 69 (61 + ls.length) (nI (mT ls ++ t).length)) 69 (61 + j) = ar σ 69 (61 + j) ∧ ar (sA (sR τ 3540 (rg τ 3540 + 1)) 69 (61 + ls.length) (nI (mT ls ++ t).length)) 70 (61 + j) = ar σ 70 (61 + j) := fun j hj => ⟨by rw [ar_sA, if_neg (fun q => by omega)]; exact (tj j hj).1, by rw [ar_sA, if_neg (fun q => absurd q.1 (by decide))]; exact (tj j hj).2⟩
      have hL2 : LM (sA (sR τ 3540 (rg τ 3540 + 1)) 69 (61 + ls.length) (nI (mT ls ++ t).length)) (sA (sR τ 3540 (rg τ 3540 + 1)) 69 (61 + ls.length) (nI (mT ls ++ t).length)) (a1 + 1) 0 (mT ls ++ t ++ preS (.inl 0)) := by
        show LM _ _ (a1 + 1) 0 (mT ls ++ t ++ [])
        rw [List.append_nil]
        refine ⟨FM.rf, hst.2.1, hst.2.2.1, hst.2.2.2.1, hst.2.2.2.2.1, fun i u hi => ?_⟩
        rw [ar_sA, if_neg (fun q => absurd q.1 (by decide)), ar_sA, if_neg (fun q => absurd q.1 (by decide))]
        exact hst.2.2.2.2.2 i u hi
      generalize sA (sR τ 3540 (rg τ 3540 + 1)) 69 (61 + ls.length) (nI (mT ls ++ t).length) = σ2 at *
      have tm2 := MS.tm ht hO3
      rcases e2 : par b n FU (.inl 0) 0 (a1 + 1) with _ | ⟨a2, t2⟩ | p
      · rw [e2] at h
        cases h
      · rw [e2] at h
        cases h
        obtain ⟨q1, q2, q3, q4⟩ := par_good FU (.inl 0) 0 (a1 + 1) _ hlt trivial e2
        refine m_par tm2 FU (.inl 0) 0 (a1 + 1) _ (d - 1) σ2 (mT ls ++ t) 0 _ hlt trivial (show 0 ≤ 5 by omega) (by omega) (by show 8 * (7 - 0) + 16 - 0 ≤ d - 1; omega) e2 (by rw [List.length_append]; show _ + 0 + 0 ≤ _; omega) hL2 (fun a3 t3 υ er hυ => ?_) (fun p τ er _ => by cases er)
        cases er
        refine ⟨z, ?_⟩
        have u68 : ar υ 68 1 = nI ls.length := by rw [hυ.1.1.A 68 rfl, s68]
        have lu : (mT ls ++ t ++ t2).length = (mT ls).length + t.length + t2.length := by rw [List.length_append, List.length_append]
        rw [hυ.2.2.2.2.1, ns _ (by rw [lu]; omega), u68, nI_1]
        refine H1 _ _ _ rfl (m_fin hLn (hO3.fm hυ.1) (by omega) u68 (by rw [hυ.1.1.A 69 rfl, s69]) (fun j hj => by rw [hυ.1.1.A 69 rfl, hυ.1.1.A 70 rfl]; exact sj j hj) ⟨hυ.2.1, hυ.2.2.1, hυ.2.2.2.1, ?_⟩ ?_ ?_ rfl)
        · rw [mT_app, ← List.append_assoc]
          exact hυ.2.2.2.2.1
        · rw [mT_app, ← List.append_assoc]
          exact hυ.2.2.2.2.2
        · rw [lu]
      · rw [e2] at h
        cases h
        refine m_par tm2 FU (.inl 0) 0 (a1 + 1) _ (d - 1) σ2 (mT ls ++ t) 0 _ hlt trivial (show 0 ≤ 5 by omega) (by omega) (by show 8 * (7 - 0) + 16 - 0 ≤ d - 1; omega) e2 (by rw [List.length_append]; show _ + 0 + 0 ≤ _; omega) hL2 (fun a3 t3 υ er hυ => by cases er) (fun p υ er hB => ?_)
        cases er
        exact ⟨z, badK p υ rfl hB.2.1 (hO3.fm hB.1) hB.2.2.2.1 (by rw [hB.1.1.A 68 rfl, s68]) _ _⟩
  · rw [e] at h
    cases h
    refine m_par tm FU (.inl 0) 0 a _ (d - 1) σ1 (mT ls) 0 _ ha trivial (show 0 ≤ 5 by omega) (by omega) (by show 8 * (7 - 0) + 16 - 0 ≤ d - 1; omega) e hs hL (fun a2 t2 τ er hτ => by cases er) (fun p τ er hB => ?_)
    cases er
    have hO2 := hO1.fm hB.1
    have t68 : ar τ 68 1 = nI ls.length := by rw [hB.1.1.A 68 rfl, b68]
    refine ⟨fun _ => ⟨z, badK p τ rfl hB.2.1 hO2 hB.2.2.2.1 t68 _ _⟩, fun q => absurd (by rw [hB.2.2.2.1]; exact nneg (by have := hB.2.1; omega)) q⟩
end TextM
