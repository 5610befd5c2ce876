/-! law: both -/
section PLaw0
variable {b : Nat → Int32} {n : Nat}
theorem gtext_good (hn : n ≤ 120) : ∀ (f a : Nat) (ls : List Lin), a ≤ n → gtext b n f a = some (.inl ls) → ls ≠ [] ∧ (∀ q ∈ ls, wfL q) ∧ (mT ls).length ≤ n - a ∧ 2 * ls.length ≤ n - a + 1
  | 0, a, ls, _, h => by
    rw [gtext] at h
    cases h
  | f + 1, a, ls, ha, h => by
    rw [gtext] at h
    rcases e : gline b n a with _ | ⟨a1, q⟩ | p
    · rw [e] at h
      cases h
    · rw [e] at h
      have gg := gline_good ha e
      dsimp only at gg h
      obtain ⟨g1, g2, g3, g4, g5⟩ := gg
      by_cases c : gx b n a1 = 59
      · rw [if_pos c] at h
        have hlt : a1 < n := gx_lt (by rw [c]; decide)
        rcases e2 : gtext b n f (a1 + 1) with _ | l2 | p
        · rw [e2] at h
          cases h
        · rw [e2] at h
          cases h
          obtain ⟨k1, k2, k3, k4⟩ := gtext_good hn f (a1 + 1) l2 hlt e2
          refine ⟨by simp, fun z hz => ?_, ?_, ?_⟩
          · rcases List.mem_cons.mp hz with w | w
            · rw [w]; exact g3
            · exact k2 z w
          · have : mT (q :: l2) = ln_M q ++ mT l2 := rfl
            rw [this, List.length_append]
            omega
          · rw [List.length_cons]
            omega
        · rw [e2] at h
          cases h
      · rw [if_neg c] at h
        by_cases c2 : a1 < n
        · rw [if_pos c2] at h
          cases h
        · rw [if_neg c2] at h
          cases h
          have e1 : a1 = n := by omega
          subst e1
          refine ⟨by simp, fun z hz => ?_, ?_, ?_⟩
          · rw [List.mem_singleton] at hz
            rw [hz]; exact g3
          · have : mT [q] = ln_M q ++ [] := rfl
            rw [this, List.append_nil]
            exact g5
          · show 2 * 1 ≤ _
            omega
    · rw [e] at h
      cases h
end PLaw0
