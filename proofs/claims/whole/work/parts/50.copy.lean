/-! the law told is kept: the reference copies it -/
theorem nar_b0 : ∀ m : Fin 128, vp_nar .byte (nI m.val) = nI m.val := by decide +kernel
theorem nar_s0 : ∀ m : Fin 200, vp_nar .short (nI m.val) = nI m.val := by decide +kernel
theorem tk_byte {t : Tok} (h : tk_ok t) : vp_nar .byte t.1 = t.1 := by
  rcases h with ⟨h, -⟩ | ⟨h, -⟩ | h | h | h
  · rw [h]; exact nar_b0 ⟨1, by omega⟩
  · rw [h]; exact nar_b0 ⟨2, by omega⟩
  · rw [h]; exact nar_b0 ⟨3, by omega⟩
  · rw [h]; exact nar_b0 ⟨4, by omega⟩
  · rcases h with h | h | h | h | h | h | h | h | h | h
    · rw [h]; exact nar_b0 ⟨124, by omega⟩
    · rw [h]; exact nar_b0 ⟨38, by omega⟩
    · rw [h]; exact nar_b0 ⟨60, by omega⟩
    · rw [h]; exact nar_b0 ⟨61, by omega⟩
    · rw [h]; exact nar_b0 ⟨62, by omega⟩
    · rw [h]; exact nar_b0 ⟨43, by omega⟩
    · rw [h]; exact nar_b0 ⟨45, by omega⟩
    · rw [h]; exact nar_b0 ⟨42, by omega⟩
    · rw [h]; exact nar_b0 ⟨47, by omega⟩
    · rw [h]; exact nar_b0 ⟨37, by omega⟩
section Copy
variable {l : Launch} {g : am_G} {d : Nat} {σ0 : am_S}
theorem m_cp1 {T : List Tok} {k : Int32 → am_S → Prop} (hT : T.length ≤ 121) (hok : ∀ t ∈ T, tk_ok t) (H : ∀ τ, Fr [] [66, 67, 68] σ0 τ → (∀ i t, T[i]? = some t → ar τ 66 i = t.1 ∧ ar τ 67 i = t.2) → ar τ 68 0 = ar σ0 68 1 → ar τ 68 1 = ar σ0 68 1 → JI l g M_X12_readText d 177 [(0, .ref 55), (1, .int 0), (2, .int 0)] [] τ k) (h43 : rg σ0 3543 = nI T.length) (hc : ∀ i t, T[i]? = some t → ar σ0 66 (130 + i) = t.1 ∧ ar σ0 67 (130 + i) = t.2) : ∀ (q j : Nat) (σ : am_S), j + q = T.length → Fr [] [66, 67] σ0 σ → (∀ i, 130 ≤ i → ar σ 66 i = ar σ0 66 i ∧ ar σ 67 i = ar σ0 67 i) → (∀ i t, i < j → T[i]? = some t → ar σ 66 i = t.1 ∧ ar σ 67 i = t.2) → JI l g M_X12_readText d 105 [(0, .ref 55), (1, .int 0), (2, .int (nI j))] [] σ k
  | 0, j, σ, ej, fr, hh, hl => by
    refine b_X12_readText_105 ?_
    rw [fr.R 3543 rfl, h43]
    refine ⟨fun _ => ⟨vinN (m := 0) (by omega) (by omega), ?_⟩, fun q => absurd ((len (by omega) (by omega)).mpr (by omega)) q⟩
    refine H _ ((fr.wA).mono (by simp) (by simp)) (fun i t hi => ?_) ?_ ?_
    · rw [ar_sA, if_neg (fun q => absurd q.1 (by decide)), ar_sA, if_neg (fun q => absurd q.1 (by decide))]
      have : i < T.length := by
        rcases Nat.lt_or_ge i T.length with e | e
        · exact e
        · rw [List.getElem?_eq_none e] at hi
          cases hi
      exact hl i t (by omega) hi
    · rw [ar_sA, if_pos ⟨rfl, rfl⟩, fr.A 68 rfl]
    · rw [ar_sA, if_neg (fun q => absurd q.2 (by decide)), fr.A 68 rfl]
  | q + 1, j, σ, ej, fr, hh, hl => by
    refine b_X12_readText_105 ?_
    have hj : j < T.length := by omega
    have et : T[j]? = some T[j] := List.getElem?_eq_getElem hj
    have e0 : (130 : Int32) * 0 + nI j = nI j := by
      rw [show (130 : Int32) * 0 = 0 from rfl, Int32.zero_add]
    rw [fr.R 3543 rfl, h43, e0, show (130 : Int32) = nI 130 from rfl, nI_add, nI_clamp (by omega), nI_clamp (by omega), nI_1, (hh (130 + j) (by omega)).1, (hh (130 + j) (by omega)).2, (hc j _ et).1, (hc j _ et).2, tk_byte (hok _ (List.getElem_mem hj))]
    have z1 : vp_in (nI (130 + j)) 260 := vp_in_nI (by omega) (by omega)
    have z2 : vp_in (nI j) 260 := vp_in_nI (by omega) (by omega)
    refine ⟨fun w => absurd ((len (by omega) (by omega)).mp w) (by omega), fun _ => ⟨z1, z2, z1, z2, ?_⟩⟩
    refine m_cp1 hT hok H h43 hc q (j + 1) _ (by omega) ((fr.wA.wA).mono (by simp) (by simp)) (fun i hi => ?_) (fun i t hi ht => ?_)
    · refine ⟨?_, ?_⟩
      · rw [ar_sA, if_neg (fun q => absurd q.1 (by decide)), ar_sA, if_neg (fun q => by omega)]
        exact (hh i hi).1
      · rw [ar_sA, if_neg (fun q => by omega), ar_sA, if_neg (fun q => absurd q.1 (by decide))]
        exact (hh i hi).2
    · by_cases e : i = j
      · subst e
        rw [et] at ht
        have ht := Option.some.inj ht
        subst ht
        refine ⟨?_, ?_⟩
        · rw [ar_sA, if_neg (fun q => absurd q.1 (by decide)), ar_sA, if_pos ⟨rfl, rfl⟩]
        · rw [ar_sA, if_pos ⟨rfl, rfl⟩]
      · refine ⟨?_, ?_⟩
        · rw [ar_sA, if_neg (fun q => absurd q.1 (by decide)), ar_sA, if_neg (fun q => e q.2)]
          exact (hl i t (by omega) ht).1
        · rw [ar_sA, if_neg (fun q => e q.2), ar_sA, if_neg (fun q => absurd q.1 (by decide))]
          exact (hl i t (by omega) ht).2
theorem m_cp2 {m : Nat} {k : Int32 → am_S → Prop} (hm : m ≤ 60) (h68 : ar σ0 68 0 = nI m) (hc : ∀ i, i < m → ∃ u v : Nat, u < 200 ∧ v < 200 ∧ ar σ0 69 (61 + i) = nI u ∧ ar σ0 70 (61 + i) = nI v) (H : ∀ τ, Fr [] [69, 70] σ0 τ → (∀ i, i < m → ar τ 69 i = ar σ0 69 (61 + i) ∧ ar τ 70 i = ar σ0 70 (61 + i)) → k (-1) τ) : ∀ (q j : Nat) (σ : am_S), j + q = m → Fr [] [69, 70] σ0 σ → (∀ i, 61 ≤ i → ar σ 69 i = ar σ0 69 i ∧ ar σ 70 i = ar σ0 70 i) → (∀ i, i < j → ar σ 69 i = ar σ0 69 (61 + i) ∧ ar σ 70 i = ar σ0 70 (61 + i)) → JI l g M_X12_readText d 177 [(0, .ref 55), (1, .int 0), (2, .int (nI j))] [] σ k
  | 0, j, σ, ej, fr, hh, hl => by
    refine b_X12_readText_177 ⟨vinN (m := 0) (by omega) (by omega), ?_⟩
    have e68 : ar σ 68 (0 : Int32).toNatClampNeg = nI m := by rw [fr.A 68 rfl]; exact h68
    rw [e68]
    exact ⟨fun _ => H σ fr (fun i hi => hl i (by omega)), fun q => absurd ((len (by omega) (by omega)).mpr (by omega)) q⟩
  | q + 1, j, σ, ej, fr, hh, hl => by
    refine b_X12_readText_177 ⟨vinN (m := 0) (by omega) (by omega), ?_⟩
    have e68 : ar σ 68 (0 : Int32).toNatClampNeg = nI m := by rw [fr.A 68 rfl]; exact h68
    have e0 : (61 : Int32) * 0 + nI j = nI j := by
      rw [show (61 : Int32) * 0 = 0 from rfl, Int32.zero_add]
    obtain ⟨u, v, hu, hv, eu, ev⟩ := hc j (by omega)
    rw [e68, e0, show (61 : Int32) = nI 61 from rfl, nI_add, nI_clamp (by omega), nI_clamp (by omega), nI_1, (hh (61 + j) (by omega)).1, (hh (61 + j) (by omega)).2, eu, ev, nar_s0 ⟨u, hu⟩, nar_s0 ⟨v, hv⟩]
    have z1 : vp_in (nI (61 + j)) 122 := vp_in_nI (by omega) (by omega)
    have z2 : vp_in (nI j) 122 := vp_in_nI (by omega) (by omega)
    refine ⟨fun w => absurd ((len (by omega) (by omega)).mp w) (by omega), fun _ => ⟨z1, z2, z1, z2, ?_⟩⟩
    refine m_cp2 hm h68 hc H q (j + 1) _ (by omega) ((fr.wA.wA).mono (by simp) (by simp)) (fun i hi => ?_) (fun i hi => ?_)
    · refine ⟨?_, ?_⟩
      · rw [ar_sA, if_neg (fun q => absurd q.1 (by decide)), ar_sA, if_neg (fun q => by omega)]
        exact (hh i hi).1
      · rw [ar_sA, if_neg (fun q => by omega), ar_sA, if_neg (fun q => absurd q.1 (by decide))]
        exact (hh i hi).2
    · by_cases e : i = j
      · subst e
        refine ⟨?_, ?_⟩
        · rw [ar_sA, if_neg (fun q => absurd q.1 (by decide)), ar_sA, if_pos ⟨rfl, rfl⟩, eu]
        · rw [ar_sA, if_pos ⟨rfl, rfl⟩, ev]
      · refine ⟨?_, ?_⟩
        · rw [ar_sA, if_neg (fun q => absurd q.1 (by decide)), ar_sA, if_neg (fun q => e q.2)]
          exact (hl i (by omega)).1
        · rw [ar_sA, if_neg (fun q => e q.2), ar_sA, if_neg (fun q => absurd q.1 (by decide))]
          exact (hl i (by omega)).2
end Copy
