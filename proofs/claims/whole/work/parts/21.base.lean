/-! the pair of calls that answers a long; the start -/
def PL (l : Launch) (g : am_G) (d : Nat) (f h : am_M) (as : List Value) (σ : am_S) : Prop := ∀ K : Int64 → Int64 → am_S → Prop, (∀ r σ2, R σ2 → K r r σ2) → CL l g f d (.ref 0 :: as) σ (fun r1 σ1 => CL l g h d (.ref 55 :: as) σ1 (fun r2 σ2 => K r1 r2 σ2))
theorem lg_cmp_self (r : Int64) : lg_cmp r r = 0 := by
  unfold lg_cmp
  simp
theorem R_0 : R σ_0 := by
  refine ⟨0, 0, 0, fun _ => 0, 0, 0, 0, 0, 0, ?_, ?_, ?_, ?_, ?_, ?_, ?_, ?_⟩
  · refine ⟨by omega, ⟨rfl, rfl⟩, ⟨rfl, rfl⟩, ⟨rfl, rfl⟩, rfl, ⟨rfl, by decide⟩, fun j h => absurd h (by omega), fun j h => absurd h (by omega), fun j _ => rfl, rfl⟩
  · exact ⟨by omega, ⟨rfl, rfl⟩, fun j h => absurd h (by omega)⟩
  · exact ⟨rfl, rfl⟩
  · exact ⟨by omega, ⟨rfl, rfl⟩, ⟨rfl, rfl⟩, fun j h => absurd h (by omega)⟩
  · exact ⟨rfl, Or.inl rfl⟩
  · exact ⟨by omega, ⟨rfl, rfl⟩, ⟨rfl, rfl⟩, fun j h => absurd h (by omega), fun j h => absurd h (by omega)⟩
  · intro s hs
    refine Or.inl ?_
    match s, hs with
    | 0, _ => exact ⟨rfl, rfl, rfl, rfl⟩
    | 1, _ => exact ⟨rfl, rfl, rfl, rfl⟩
    | 2, _ => exact ⟨rfl, rfl, rfl, rfl⟩
    | 3, _ => exact ⟨rfl, rfl, rfl, rfl⟩
    | 4, _ => exact ⟨rfl, rfl, rfl, rfl⟩
    | 5, _ => exact ⟨rfl, rfl, rfl, rfl⟩
    | n + 6, h => omega
  · exact ⟨Or.inl ⟨rfl, rfl⟩, rfl⟩
