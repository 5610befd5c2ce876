/-! a text of lines; the reference -/
theorem nar_s : ∀ m : Fin 200, vp_nar .short (nI m.val).toInt16.toInt32 = nI m.val := by decide +kernel
section TextM
variable {l : Launch} {g : am_G} {b : Nat → Int32} {n : Nat} {σ0 : am_S}
/-- what is kept of the law told before -/
def MO (σ0 σ : am_S) : Prop := Fr [3540, 3541, 3542, 3543] [66, 67, 68, 69, 70] σ0 σ ∧ (∀ j, j < 130 → ar σ 66 j = ar σ0 66 j ∧ ar σ 67 j = ar σ0 67 j) ∧ (∀ j, j < 61 → ar σ 69 j = ar σ0 69 j ∧ ar σ 70 j = ar σ0 70 j) ∧ ar σ 68 0 = ar σ0 68 0
def mT (ls : List Lin) : List Tok := ls.flatMap ln_M
def MLn (σ : am_S) (ls : List Lin) : Prop := ∀ i q, ls[i]? = some q → ar σ 69 (61 + i) = nI ((mT (ls.take i)).length + q.1.length) ∧ ar σ 70 (61 + i) = nI ((mT (ls.take i)).length + q.1.length + q.2.length)
def MS (σ0 σ : am_S) (a : Nat) (ls : List Lin) : Prop := MO σ0 σ ∧ (rg σ 3540 = nI a ∧ rg σ 3541 = -1 ∧ rg σ 3542 = nI 0 ∧ rg σ 3543 = nI (mT ls).length) ∧ (∀ i t, (mT ls)[i]? = some t → ar σ 66 (130 + i) = t.1 ∧ ar σ 67 (130 + i) = t.2) ∧ ar σ 68 1 = nI ls.length ∧ MLn σ ls
theorem MO.fm {σ τ : am_S} (h : MO σ0 σ) (h2 : FM σ τ) : MO σ0 τ := by
  obtain ⟨a1, a2, a3, a4⟩ := h
  obtain ⟨c1, c2⟩ := h2
  refine ⟨(a1.tr c1).mono (by simp) (by simp), fun j hj => ⟨((c2 j hj).1).trans (a2 j hj).1, ((c2 j hj).2).trans (a2 j hj).2⟩, fun j hj => ?_, ?_⟩
  · rw [c1.A 69 rfl, c1.A 70 rfl]
    exact a3 j hj
  · rw [c1.A 68 rfl]
    exact a4
theorem MO.end {σ : am_S} {i : Nat} {v : Int32} {c : Nat} (h : MO σ0 σ) (hc : c = 69 ∨ c = 70) : MO σ0 (sA σ c (61 + i) v) := by
  obtain ⟨a1, a2, a3, a4⟩ := h
  refine ⟨(a1.wA).mono (by simp) (by rcases hc with e | e <;> rw [e] <;> simp), fun j hj => ?_, fun j hj => ?_, ?_⟩
  · rw [ar_sA, if_neg (fun q => by rcases hc with e | e <;> omega), ar_sA, if_neg (fun q => by rcases hc with e | e <;> omega)]
    exact a2 j hj
  · rw [ar_sA, if_neg (fun q => by omega), ar_sA, if_neg (fun q => by omega)]
    exact a3 j hj
  · rw [ar_sA, if_neg (fun q => by rcases hc with e | e <;> omega)]
    exact a4
theorem MO.many {σ : am_S} {v : Int32} (h : MO σ0 σ) : MO σ0 (sA σ 68 1 v) := by
  obtain ⟨a1, a2, a3, a4⟩ := h
  refine ⟨(a1.wA).mono (by simp) (by simp), fun j hj => ?_, fun j hj => ?_, ?_⟩
  · rw [ar_sA, if_neg (fun q => absurd q.1 (by decide)), ar_sA, if_neg (fun q => absurd q.1 (by decide))]
    exact a2 j hj
  · rw [ar_sA, if_neg (fun q => absurd q.1 (by decide)), ar_sA, if_neg (fun q => absurd q.1 (by decide))]
    exact a3 j hj
  · rw [ar_sA, if_neg (fun q => absurd q.2 (by decide))]
    exact a4
theorem MS.tm {σ : am_S} (ht : TM b n σ0) (h : MO σ0 σ) : TM b n σ := ⟨ht.1, ht.2.1, (h.1.R 3539 rfl).trans ht.2.2.1, fun j hj => by rw [h.1.A 65 rfl]; exact ht.2.2.2 j hj⟩
theorem mT_app {ls : List Lin} {q : Lin} : mT (ls ++ [q]) = mT ls ++ (q.1 ++ q.2) := by
  unfold mT
  rw [List.flatMap_append]
  show _ ++ (ln_M q ++ []) = _
  rw [List.append_nil]
  rfl
theorem MLn.app {σ τ : am_S} {ls : List Lin} {q : Lin} (h : MLn σ ls) (h1 : ∀ j, j < ls.length → ar τ 69 (61 + j) = ar σ 69 (61 + j) ∧ ar τ 70 (61 + j) = ar σ 70 (61 + j)) (h2 : ar τ 69 (61 + ls.length) = nI ((mT ls).length + q.1.length)) (h3 : ar τ 70 (61 + ls.length) = nI ((mT ls).length + q.1.length + q.2.length)) : MLn τ (ls ++ [q]) := by
  intro i q2 hi
  rcases Nat.lt_or_ge i ls.length with e | e
  · rw [List.getElem?_append_left e] at hi
    rw [List.take_append_of_le_length (by omega), (h1 i e).1, (h1 i e).2]
    exact h i q2 hi
  · rw [List.getElem?_append_right e] at hi
    have e2 : i = ls.length := by
      rcases Nat.lt_or_ge ls.length i with w | w
      · rw [List.getElem?_eq_none (by simp; omega)] at hi
        cases hi
      · omega
    subst e2
    rw [Nat.sub_self] at hi
    have hi := Option.some.inj hi
    subst hi
    rw [List.take_append_of_le_length (Nat.le_refl _), List.take_length]
    exact ⟨h2, h3⟩
theorem m_fin {σ τ : am_S} {ls : List Lin} {q : Lin} {a1 : Nat} {v w : Int32} (hLn : MLn σ ls) (hO : MO σ0 τ) (hm : ls.length ≤ 60) (h68 : ar τ 68 1 = nI ls.length) (h69 : ar τ 69 (61 + ls.length) = nI ((mT ls).length + q.1.length)) (hj : ∀ j, j < ls.length → ar τ 69 (61 + j) = ar σ 69 (61 + j) ∧ ar τ 70 (61 + j) = ar σ 70 (61 + j))
    (hr : rg τ 3540 = nI a1 ∧ rg τ 3541 = -1 ∧ rg τ 3542 = nI 0 ∧ rg τ 3543 = nI (mT (ls ++ [q])).length) (hc : ∀ i t, (mT (ls ++ [q]))[i]? = some t → ar τ 66 (130 + i) = t.1 ∧ ar τ 67 (130 + i) = t.2) (hv : v = nI ((mT ls).length + q.1.length + q.2.length)) (hw : w = nI (ls.length + 1)) : MS σ0 (sA (sA τ 70 (61 + ls.length) v) 68 1 w) a1 (ls ++ [q]) := by
  subst hv
  subst hw
  refine ⟨(hO.end (Or.inr rfl)).many, hr, fun i t hi => ?_, ?_, hLn.app (fun j hjl => ?_) ?_ ?_⟩
  · obtain ⟨c1, c2⟩ := hc i t hi
    refine ⟨?_, ?_⟩
    · rw [ar_sA, if_neg (fun q => absurd q.1 (by decide)), ar_sA, if_neg (fun q => absurd q.1 (by decide))]
      exact c1
    · rw [ar_sA, if_neg (fun q => absurd q.1 (by decide)), ar_sA, if_neg (fun q => absurd q.1 (by decide))]
      exact c2
  · rw [ar_sA, if_pos ⟨rfl, rfl⟩, List.length_append]
    rfl
  · refine ⟨?_, ?_⟩
    · rw [ar_sA, if_neg (fun q => absurd q.1 (by decide)), ar_sA, if_neg (fun q => absurd q.1 (by decide))]
      exact (hj j hjl).1
    · rw [ar_sA, if_neg (fun q => absurd q.1 (by decide)), ar_sA, if_neg (fun q => by omega)]
      exact (hj j hjl).2
  · rw [ar_sA, if_neg (fun q => absurd q.1 (by decide)), ar_sA, if_neg (fun q => absurd q.1 (by decide))]
    exact h69
  · rw [ar_sA, if_neg (fun q => absurd q.1 (by decide)), ar_sA, if_pos ⟨rfl, rfl⟩]
end TextM
