/-! a text of lines; the reference -/
theorem nar_s : ∀ m : Fin 200, vp_nar .short (nI m.val).toInt16.toInt32 = nI m.val := by decide +kernel
section TextM
variable {l : Launch} {g : am_G} {b : Nat → Int32} {n : Nat} {σ0 : am_S}
/-- what is kept of the law told before -/
def MO (σ0 σ : am_S) : Prop := Fr [3540, 3541, 3542, 3543] [66, 67, 68, 69, 70] σ0 σ ∧ (∀ j, j < 130 → ar σ 66 j = ar σ0 66 j ∧ ar σ 67 j = ar σ0 67 j) ∧ (∀ j, j < 61 → ar σ 69 j = ar σ0 69 j ∧ ar σ 70 j = ar σ0 70 j) ∧ ar σ 68 0 = ar σ0 68 0
def mT (ls : List Lin) : List Tok := ls.flatMap ln_M
def MLn (σ : am_S) (ls : List Lin) : Prop := ∀ i q, ls[i]? = some q → ar σ 69 (61 + i) = nI ((mT (ls.take i)).length + q.1.length) ∧ ar σ 70 (61 + i) = nI ((mT (ls.take i)).length + q.1.length + q.2.length)
def MS (σ0 σ : am_S) (a : Nat) (ls : List Lin) : Prop := MO σ0 σ ∧ (rg σ 3540 = nI a ∧ rg σ 3541 = -1 ∧ rg σ 3542 = nI 0 ∧ rg σ 3543 = nI (mT ls).length) ∧ (∀ i t, (mT ls)[i]? = some t → ar σ 66 (130 + i) = t.1 ∧ ar σ 67 (130 + i) = t.2) ∧ ar σ 68 1 = nI ls.length ∧ MLn σ ls
theorem MO.fm {σ τ : am_S} (h : MO σ0 σ) (h2 : FM σ τ) : MO σ0 τ := by
  obtain ⟨a1, a2, a3, a4⟩ := h
  obtain ⟨c1, c2⟩ := h2
  refine ⟨(a1.tr c1).mono (by simp) (by simp), fun j hj => ⟨((c2 j hj).1).trans (a2 j hj).1, ((c2 j hj).2).trans (a2 j hj).2⟩, fun j hj => ?_, ?_⟩
  · rw [c1.A 69 rfl, c1.A 70 rfl]
    exact a3 j hj
  · rw [c1.A 68 rfl]
    exact a4
theorem MO.end {σ : am_S} {i : Nat} {v : Int32} {c : Nat} (h : MO σ0 σ) (hc : c = 69 ∨ c = 70) : MO σ0 (sA σ c (61 + i) v) := by
  obtain ⟨a1, a2, a3, a4⟩ := h
  refine ⟨(a1.wA).mono (by simp) (by rcases hc with e | e <;> rw [e] <;> simp), fun j hj => ?_, fun j hj => ?_, ?_⟩
  · rw [ar_sA, if_neg (fun q => by rcases hc with e | e <;> omega), ar_sA, if_neg (fun q => by rcases hc with e | e <;> omega)]
    exact a2 j hj
  · rw [ar_sA, if_neg (fun q => by omega), ar_sA, if_neg (fun q => by omega)]
    exact a3 j hj
  · rw [ar_sA, if_neg (fun q => by rcases hc with e | e <;> omega)]
    exact a4
theorem MO.many {σ : am_S} {v : Int32} (h : MO σ0 σ) : MO σ0 (sA σ 68 1 v) := by
  obtain ⟨a1, a2, a3, a4⟩ := h
  refine ⟨(a1.wA).mono (by simp) (by simp), fun j hj => ?_, fun j hj => ?_, ?_⟩
  · rw [ar_sA, if_neg (fun q => absurd q.1 (by decide)), ar_sA, if_neg (fun q => absurd q.1 (by decide))]
    exact a2 j hj
  · rw [ar_sA, if_neg (fun q => absurd q.1 (by decide)), ar_sA, if_neg (fun q => absurd q.1 (by decide))]
    exact a3 j hj
  · rw [ar_sA, if_neg (fun q => absurd q.2 (by decide))]
    exact a4
end TextM
