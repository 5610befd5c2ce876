/-! the pure statement -/
theorem law_main {l : Launch} {g : am_G} (hL : g.2.2.2.1 ≤ 3072) : JW l g 1000 18 [(0, .ref 1000), (1, .ref 0), (2, .ref 55), (3, .int 0)] [] σ_0 (fun r _ => r = 1) := by
  sorry
