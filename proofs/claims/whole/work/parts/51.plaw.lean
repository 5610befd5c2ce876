/-! law -/
section BecC
variable {l : Launch} {g : am_G} {d : Nat} {σ0 : am_S}
theorem c_bec {D : Nat} {x2 : Int32} {k : am_S → Prop} (hD : D ≤ 121) (h705 : rg σ0 705 = nI D) (H : ∀ τ, Fr [] [12] σ0 τ → (∀ i, i < D → ar τ 12 i = ar σ0 10 i) → k τ) : ∀ (q j : Nat) (σ : am_S), j + q = D → Fr [] [12] σ0 σ → (∀ i, i < j → ar σ 12 i = ar σ0 10 i) → JV l g M_X4_becomes d 24 [(0, .ref 11), (1, .ref 10), (2, .int x2), (3, .int (nI j))] [] σ k
  | 0, j, σ, ej, fr, hl => by
    refine b_X4_becomes_24 ?_
    rw [fr.R 705 rfl, h705]
    exact ⟨fun _ => H σ fr (fun i hi => hl i (by omega)), fun q => absurd ((len (by omega) (by omega)).mpr (by omega)) q⟩
  | q + 1, j, σ, ej, fr, hl => by
    refine b_X4_becomes_24 ?_
    rw [fr.R 705 rfl, h705, nI_clamp (by omega), nI_1, fr.A 10 rfl]
    have z : vp_in (nI j) 121 := vp_in_nI (by omega) (by omega)
    refine ⟨fun w => absurd ((len (by omega) (by omega)).mp w) (by omega), fun _ => ⟨fun w => absurd ((len (a := 121) (by omega) (by omega)).mp w) (by omega), fun _ => ⟨z, z, ?_⟩⟩⟩
    refine c_bec hD h705 H q (j + 1) _ (by omega) ((fr.wA).mono (by simp) (by simp)) (fun i hi => ?_)
    rw [ar_sA]
    by_cases e : i = j
    · rw [if_pos ⟨rfl, e⟩, e]
    · rw [if_neg (fun q => e q.2)]
      exact hl i (by omega)
end BecC
