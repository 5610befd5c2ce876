/-! a told evening -/
def tOf (v : Nat → Int32) (k : Nat) : Tr := ((v (3 * k)).toNatClampNeg, (v (3 * k + 1)).toNatClampNeg, (v (3 * k + 2)).toNatClampNeg)
def okT (v : Nat → Int32) (nd n k : Nat) : Prop := v (3 * k) = nI (tOf v k).1 ∧ v (3 * k + 1) = nI (tOf v k).2.1 ∧ v (3 * k + 2) = nI (tOf v k).2.2 ∧ (tOf v k).1 < nd ∧ (tOf v k).2.1 < n ∧ (tOf v k).2.2 < n
theorem okT_of {v : Nat → Int32} {nd n k D p q : Nat} (h5 : nd ≤ 5) (h7 : n ≤ 7) (e1 : v (3 * k) = nI D) (e2 : v (3 * k + 1) = nI p) (e3 : v (3 * k + 2) = nI q) (h1 : D < nd) (h2 : p < n) (h3 : q < n) : okT v nd n k ∧ tOf v k = (D, p, q) := by
  have e : tOf v k = (D, p, q) := by
    unfold tOf
    rw [e1, e2, e3, nI_clamp (by omega), nI_clamp (by omega), nI_clamp (by omega)]
  unfold okT
  rw [e]
  exact ⟨⟨e1, e2, e3, h1, h2, h3⟩, rfl⟩
/-- the outcome of a told evening: v the bytes, m how many -/
def jdg (W : Wd) (v : Nat → Int32) (m : Nat) : Nat → Nat → Nat → Int32
  | 0, _, _ => -2
  | f + 1, k, a => if m ≤ 3 * k then -2 else if m < 3 * k + 3 then nI k else if (v (3 * k) = nI (tOf v k).1 ∧ v (3 * k + 1) = nI (tOf v k).2.1 ∧ v (3 * k + 2) = nI (tOf v k).2.2 ∧ (tOf v k).1 < W.1 ∧ (tOf v k).2.1 < W.2.1 ∧ (tOf v k).2.2 < W.2.1) ∧ canB W a (tOf v k) = true then jdg W v m f (k + 1) (nxt W.2.1 a (tOf v k)) else nI k
section Judge
variable {l : Launch} {g : am_G} {σ : am_S} {nr nd n nt dn un nb nq s : Nat} {pl : Nat → Nat} {o : Option (List Lin)}
theorem c_at {d i m : Nat} {τ : am_S} {v : Nat → Int32} {k : Int64 → am_S → Prop} (hs : s < 6) (hm2 : m ≤ 60) (elen : rg τ (64 * (43 + 2 * s) + 2) = nI m) (hi : i < 200) (H : k (if i < m then lr τ (44 + 2 * s) i else 0) τ) : CL l g M_X8_at d [.ref (43 + 2 * s), .int (nI i)] τ k := by
  refine b_X8_at_0 hs ?_
  rw [elen, nI_clamp (n := i) (by omega)]
  refine ⟨fun z => absurd z (nI_pos (by omega)), fun _ => ⟨fun z => ?_, fun z => ?_⟩⟩
  · have : ¬ i < m := by
      have := (len (by omega) (by omega)).mp z
      omega
    rw [if_neg this] at H
    exact H
  · have : i < m := by
      rcases Nat.lt_or_ge i m with w | w
      · exact w
      · exact absurd ((len (by omega) (by omega)).mpr w) z
    rw [if_pos this] at H
    exact ⟨vp_in_nI (by omega) (by omega), H⟩
theorem c_jdg {d m : Nat} {x1 x3 : Int32} {v : Nat → Int32} {K1 : Int32 → am_S → Prop} (hd : 9 ≤ d) (hs : s < 6) (hRR : RR σ nr nd n pl nt dn un nb nq) (hL : R_law σ o) (hm2 : m ≤ 60) (elen : rg σ (64 * (43 + 2 * s) + 2) = nI m) (ev : ∀ j, j < m → (lr σ (44 + 2 * s) j).toInt32 = v j) : ∀ (f k a : Nat) (τ : am_S), f + k = 21 → a < 4 ^ n → LK σ nd n 0 (rg σ 67) 0 τ → (∀ υ, LK σ nd n 0 (rg σ 67) 0 υ → K1 (jdg (wld σ o nd n 0 (rg σ 67) 0) v m f k a) υ) →
    JI l g M_X11_judge d 55 [(0, .ref 0), (1, .int x1), (2, .ref (43 + 2 * s)), (3, .int x3), (4, .int (nI a)), (5, .int (nI (3 * k)))] [] τ K1
  | 0, k, a, τ, e, ha, h, H => by
    have el : rg τ (64 * (43 + 2 * s) + 2) = nI m := (h.1.1 _ (by simp; omega)).trans elen
    refine b_X11_judge_55 hs (by omega) ?_
    rw [el]
    exact ⟨fun _ => H τ h, fun z => absurd ((len (by omega) (by omega)).mpr (by omega)) z⟩
  | f + 1, k, a, τ, e, ha, h, H => by
    have hH := hRR.1
    obtain ⟨h4, h5, h7⟩ := hH.1
    have hW : wd_ok (wld σ o nd n 0 (rg σ 67) 0) := wld_ok hH.W
    have el : rg τ (64 * (43 + 2 * s) + 2) = nI m := (h.1.1 _ (by simp; omega)).trans elen
    have e44 : lr τ (44 + 2 * s) = lr σ (44 + 2 * s) := (h.1.2 _ (by simp; omega)).2
    refine b_X11_judge_55 hs (by omega) ?_
    rw [el, show (1 : Int32) = nI 1 from rfl, show (2 : Int32) = nI 2 from rfl, show (3 : Int32) = nI 3 from rfl, nI_add, nI_add, nI_add, pk_div (by omega) (by omega) (by omega), show 3 * k / 3 = k by omega]
    refine ⟨fun z => ?_, fun z => ?_⟩
    · have z2 : m ≤ 3 * k := (len (by omega) (by omega)).mp z
      have := H τ h
      unfold jdg at this
      rw [if_pos z2] at this
      exact this
    · have z2 : ¬ m ≤ 3 * k := fun w => z ((len (by omega) (by omega)).mpr w)
      have H2 : ∀ υ, LK σ nd n 0 (rg σ 67) 0 υ → K1 (if m < 3 * k + 3 then nI k else if okT v nd n k ∧ canB (wld σ o nd n 0 (rg σ 67) 0) a (tOf v k) = true then jdg (wld σ o nd n 0 (rg σ 67) 0) v m f (k + 1) (nxt n a (tOf v k)) else nI k) υ := by
        intro υ hυ
        have := H υ hυ
        unfold jdg at this
        rw [if_neg z2] at this
        sorry
      sorry
end Judge
