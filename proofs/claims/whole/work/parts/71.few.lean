/-! how few; with a goer -/
section Only
variable {l : Launch} {g : am_G} {σ0 : am_S} {W : Wd}
theorem msk_one {P : Nat → Bool} {n z : Nat} : msk P n &&& 2 ^ z = msk (fun j => P j && decide (j = z)) n := by
  apply Nat.eq_of_testBit_eq
  intro i
  rw [Nat.testBit_and, msk_bit, msk_bit, Nat.testBit_two_pow]
  by_cases h : i = z
  · simp [h]
  · have h2 : ¬ z = i := fun q => h q.symm
    simp [h, h2]
def OW (W : Wd) (z : Nat) (σ0 : am_S) (b : Nat) (σ : am_S) : Prop := Fr [] [18] σ0 σ ∧ (∀ D p, D < W.1 → p < W.2.1 → D * 7 + p < b → ar σ 18 (D * 7 + p) = nI (msk ((gW W (some z)).2.2.2.2 D p) W.2.1)) ∧ ∀ D p, D < W.1 → p < W.2.1 → b ≤ D * 7 + p → ar σ 18 (D * 7 + p) = nI (msk (W.2.2.2.2 D p) W.2.1)
theorem c_ow15 {d z D : Nat} {k : am_S → Prop} (hW : wd_ok W) (hC : WC W σ0) (hz : z < 7) (hD : D < W.1) (H : ∀ τ, OW W z σ0 ((D + 1) * 7) τ → JV l g M_X6_onlyWith d 2 [(0, .ref 14), (1, .int (nI z)), (2, .int (nI (D + 1)))] [] τ k) : ∀ (m p : Nat) (σ : am_S), p + m = W.2.1 → OW W z σ0 (D * 7 + p) σ →
    JV l g M_X6_onlyWith d 15 [(0, .ref 14), (1, .int (nI z)), (2, .int (nI D)), (3, .int (nI p))] [] σ k
  | 0, p, σ, e, h => by
    have h7 := hW.1.2
    refine b_X6_onlyWith_15 ?_
    rw [h.1.R 66 rfl, hC.1.2, nI_1 D]
    exact ⟨fun _ => H σ ⟨h.1, fun D2 p2 h1 h2 h3 => h.2.1 D2 p2 h1 h2 (by omega), fun D2 p2 h1 h2 h3 => h.2.2 D2 p2 h1 h2 (by omega)⟩, fun q => absurd ((len (by omega) (by omega)).mpr (by omega)) q⟩
  | m + 1, p, σ, e, h => by
    have h7 := hW.1.2
    have h5 := hW.1.1
    have ei : nI D * 7 + nI p = nI (D * 7 + p) := by rw [show (7 : Int32) = nI 7 from rfl, pk_mul, nI_add]
    have v : vp_in (nI (D * 7 + p)) 35 := vp_in_nI (by omega) (by omega)
    have e18 := h.2.2 D p hD (by omega) (Nat.le_refl _)
    refine b_X6_onlyWith_15 ?_
    rw [h.1.R 66 rfl, hC.1.2, ei, nI_clamp (n := D * 7 + p) (by omega), i_bit (by omega), e18, i_and, msk_one, nI_1 p]
    refine ⟨fun q => absurd ((len (by omega) (by omega)).mp q) (by omega), fun _ => ⟨fun c => ?_, fun c => ⟨v, v, ?_⟩⟩⟩
    · have c2 : p = z := nI_inj (by omega) (by omega) c
      refine c_ow15 hW hC hz hD H m (p + 1) σ (by omega) ⟨h.1, fun D2 p2 h1 h2 h3 => ?_, fun D2 p2 h1 h2 h3 => h.2.2 D2 p2 h1 h2 (by omega)⟩
      by_cases q : D2 * 7 + p2 = D * 7 + p
      · have q1 : D2 = D := by omega
        have q2 : p2 = p := by omega
        rw [q1, q2, e18]
        congr 1
        refine msk_congr (fun j _ => ?_)
        show _ = (W.2.2.2.2 D p j && grd (some z) p j)
        unfold grd
        simp [c2]
      · exact h.2.1 D2 p2 h1 h2 (by omega)
    · have c2 : ¬ p = z := fun q => c (by rw [q])
      refine c_ow15 hW hC hz hD H m (p + 1) _ (by omega) ⟨(h.1.wA).mono (by simp) (by simp), fun D2 p2 h1 h2 h3 => ?_, fun D2 p2 h1 h2 h3 => ?_⟩
      · by_cases q : D2 * 7 + p2 = D * 7 + p
        · have q1 : D2 = D := by omega
          have q2 : p2 = p := by omega
          rw [ar_sA, if_pos ⟨rfl, q⟩, q1, q2]
          congr 1
          refine msk_congr (fun j _ => ?_)
          show _ = (W.2.2.2.2 D p j && grd (some z) p j)
          unfold grd
          simp [c2]
        · rw [ar_sA, if_neg (fun w => q w.2)]
          exact h.2.1 D2 p2 h1 h2 (by omega)
      · rw [ar_sA, if_neg (by omega)]
        exact h.2.2 D2 p2 h1 h2 (by omega)
theorem c_ow2 {d z : Nat} {k : am_S → Prop} (hW : wd_ok W) (hC : WC W σ0) (hz : z < 7) (H : ∀ τ, Fr [] [18] σ0 τ → WC (gW W (some z)) τ → k τ) : ∀ (m D : Nat) (σ : am_S), D + m = W.1 → OW W z σ0 (D * 7) σ →
    JV l g M_X6_onlyWith d 2 [(0, .ref 14), (1, .int (nI z)), (2, .int (nI D))] [] σ k
  | 0, D, σ, e, h => by
    have h5 := hW.1.1
    have h7 := hW.1.2
    refine b_X6_onlyWith_2 ?_
    rw [h.1.R 65 rfl, hC.1.1]
    refine ⟨fun _ => H σ h.1 ⟨⟨(h.1.R 65 rfl).trans hC.1.1, (h.1.R 66 rfl).trans hC.1.2⟩, fun D2 h1 => ?_, fun D2 p2 h1 h2 => h.2.1 D2 p2 h1 h2 ?_⟩, fun q => absurd ((len (by omega) (by omega)).mpr (by omega)) q⟩
    · rw [h.1.A 15 rfl, h.1.A 16 rfl]
      exact hC.2.1 D2 h1
    · have h1 : D2 < W.1 := h1
      have h2 : p2 < W.2.1 := h2
      omega
  | m + 1, D, σ, e, h => by
    have h5 := hW.1.1
    refine b_X6_onlyWith_2 ?_
    rw [h.1.R 65 rfl, hC.1.1]
    exact ⟨fun q => absurd ((len (by omega) (by omega)).mp q) (by omega), fun _ => c_ow15 hW hC hz (by omega) (fun τ hτ => c_ow2 hW hC hz H m (D + 1) τ (by omega) hτ) W.2.1 0 σ (Nat.zero_add _) h⟩
theorem c_only {d z : Nat} {k : am_S → Prop} (hW : wd_ok W) (hC : WC W σ0) (hz : z < 7) (H : ∀ τ, Fr [] [18] σ0 τ → WC (gW W (some z)) τ → k τ) : CV l g M_X6_onlyWith d [.ref 14, .int (nI z)] σ0 k :=
  b_X6_onlyWith_0 (c_ow2 hW hC hz H W.1 0 σ0 (Nat.zero_add _) ⟨Fr.rf.mono (by simp) (by simp), fun _ _ _ _ h => absurd h (by omega), fun D p h1 h2 _ => hC.2.2 D p h1 h2⟩)
end Only
section PFew
variable {l : Launch} {g : am_G} {d : Nat} {σ : am_S}
theorem P_fewest (hd : 300 ≤ d) (hR : R σ) (x1 : Int32) (x2 : Int32) (x3 : Int32) : PP l g d M_X11_fewest M_X12_fewest [.int x1, .int x2, .int x3] σ := by
  intro K hk
  have old := hR
  obtain ⟨nr, nd, n, pl, nt, dn, un, nb, nq, hRR⟩ := hR
  have hH := hRR.1
  have hF := hRR.2.2.2.2.2.2.2.2
  obtain ⟨o, hL⟩ := R_tl_of hRR.2.2.2.2.2.2.2.1
  obtain ⟨H1, H2, H3⟩ := hH.1
  have hW : wd_ok (wld σ o nd n 0 (rg σ 67) 0) := wld_ok hH.W
  have ha := a_lt hH
  have bad : (¬ ((∃ s r, isG nr n x1 x2 s r) ∧ (x3 = -1 ∨ ∃ z, z < n ∧ x3 = nI z))) → CI l g M_X12_fewest d [.ref 55, .int x1, .int x2, .int x3] σ (fun r2 σ2 => K (-1) r2 σ2) := by
    intro hno
    refine b_X12_fewest_0 (by omega) ?_
    rw [hH.2.2.2.1.2, hH.2.1.2]
    refine ⟨fun c1 => ⟨fun c2 => absurd ⟨(gM H3 H1).mp c1, Or.inl c2⟩ hno, fun c2 => ⟨fun c3 => absurd ⟨(gM H3 H1).mp c1, Or.inr ((cB (by omega)).mp c3)⟩ hno, fun _ => hk _ _ old⟩⟩, fun _ => hk _ _ old⟩
  -- the rest, for one who goes
  have main : ∀ (gr : Option Nat) (s r : Nat) (τ : am_S), x3 = grI gr → (∀ z, gr = some z → z < n) → isG nr n x1 x2 s r → Fr SRg SAr σ τ → R_F τ → WC (gW (wld σ o nd n 0 (rg σ 67) 0) gr) τ → CI l g M_X11_fewestTo (d - 1) [.ref 0, .int x1, .int x2] τ (fun r1 σ1 => CI l g M_X12_fewest d [.ref 55, .int x1, .int x2, .int x3] σ1 (fun r2 σ2 => K r1 r2 σ2)) := by
    rintro gr s r τ e3 hgr hg fr hFτ hC
    obtain ⟨e1, e2, hs0, hsn, hrr⟩ := id hg
    have s31 : s < 2 ^ 31 := Nat.lt_of_lt_of_le hsn (Nat.pow_le_pow_right (by decide) (by omega))
    have hRR1 := R_srch hRR fr hFτ
    rw [e1, e2]
    refine c_fewTo (W := gW (wld σ o nd n 0 (rg σ 67) 0) gr) (by omega) hRR1.1 (gW_ok hW) rfl hC hFτ s31 (by omega) (fun υ fυ hFυ => ?_)
    have hRR2 := R_srch hRR1 (fυ.mono (by decide) (by decide)) hFυ
    have hH2 := hRR2.1
    have fr2 : Fr SRg SAr σ υ := (fr.tr fυ).mono (by decide) (by decide)
    have hL2 := R_tl.fr fr2 rfl rfl hL
    refine b_X12_fewest_0 (by omega) ?_
    rw [hH2.2.2.2.1.2, hH2.2.1.2]
    have go : CV l g M_X12_findNow (d - 1) [.ref 55] υ (fun σ2 => CV l g M_X12_goal (d - 1) [.ref 55, .int (nI s), .int (nI r)] σ2 (fun σ3 => CV l g M_X12_findAll (d - 1) [.ref 55, .int (rg σ3 3529), .int x3] σ3 (fun σ4 => ((0 ≤ rg σ4 3563 → K (dC (fstD (gl s r) (bf0 (gW (wld σ o nd n 0 (rg σ 67) 0) gr) (enc pl n)))) (rg σ4 3563) σ4) ∧ (¬ 0 ≤ rg σ4 3563 → K (dC (fstD (gl s r) (bf0 (gW (wld σ o nd n 0 (rg σ 67) 0) gr) (enc pl n)))) (-2) σ4))))) := by
      refine m_now (by omega) hH2.W hL2 (fun ω fω hM => ?_)
      rw [wld_fr fr2 rfl rfl, fr2.R 67 rfl] at hM
      have hRR3 := R_srch hRR2 (fω.mono (by decide) (by decide)) (hFυ.fr fω rfl rfl)
      refine m_goal hRR3.1.2.2.2.1.2 H3 hsn (by omega) (fun ψ fψ hG => ?_)
      have hRR4 := R_srch hRR3 (fψ.mono (by decide) (by decide)) (hRR3.2.2.2.2.2.2.2.2.fr fψ rfl rfl)
      rw [hRR4.1.2.2.2.2.2.2.2.2.2, e3]
      refine m_allD (W := wld σ o nd n 0 (rg σ 67) 0) (by omega) hW (hM.fr fψ rfl rfl) (fun z hz => by have := hgr z hz; omega) hG ha (fun ζ fζ e63 => ?_)
      have hRR5 := R_srch hRR4 (fζ.mono (by decide) (by decide)) (hRR4.2.2.2.2.2.2.2.2.fr fζ rfl rfl)
      rw [e63]
      have dl : ∀ dd, fstD (gl s r) (bf0 (gW (wld σ o nd n 0 (rg σ 67) 0) gr) (enc pl n)) = some dd → dd < 630 := fun dd hdd => fstD_lt (W := gW (wld σ o nd n 0 (rg σ 67) 0) gr) (gW_ok hW) ha hdd
      cases hv : fstD (gl s r) (bf0 (gW (wld σ o nd n 0 (rg σ 67) 0) gr) (enc pl n)) with
      | none => exact ⟨fun z => absurd z (by decide), fun _ => hk _ _ hRR5.R⟩
      | some dd =>
        have := dl dd hv
        exact ⟨fun _ => hk _ _ hRR5.R, fun z => absurd (nneg (by omega)) z⟩
    refine ⟨fun c1 => ⟨fun c2 => go, fun c2 => ⟨fun c3 => go, fun c3 => ?_⟩⟩, fun c1 => absurd ((gM H3 H1).mpr ⟨s, r, by rw [e1, e2] at hg; exact hg⟩) c1⟩
    match gr, e3, hgr with
    | none, e3, _ => exact absurd e3 c2
    | some z, e3, hgr => exact absurd ((cB (by omega)).mpr ⟨z, hgr z rfl, e3⟩) c3
  refine b_X11_fewest_0 (by omega) ?_
  rw [hH.2.2.2.1.1, hH.2.1.1]
  refine ⟨fun c1 => ⟨fun c2 => ?_, fun c2 => ⟨fun c3 => ?_, fun c3 => bad ?_⟩⟩, fun c1 => bad (fun q => c1 ((gC H3 H1).mpr q.1))⟩
  · obtain ⟨s, r, hg⟩ := (gC H3 H1).mp c1
    refine c_weigh (tn := 0) (by omega) hH.W hL (by omega) (fun τ hτ hC => ⟨fun _ => ?_, fun z => absurd (by rw [c2]; decide) z⟩)
    exact main none s r τ c2 (fun z hz => by cases hz) hg (hτ.1.mono (by decide) (by decide)) (hF.fr hτ.1 rfl rfl) (by rw [gW_none]; exact hC)
  · obtain ⟨s, r, hg⟩ := (gC H3 H1).mp c1
    obtain ⟨z, hz, e3⟩ := (cA (by omega)).mp c3
    refine c_weigh (tn := 0) (by omega) hH.W hL (by omega) (fun τ hτ hC => ⟨fun q => absurd q c3.1, fun _ => ?_⟩)
    have mm := main (some z) s r
    rw [e3] at mm ⊢
    refine c_only hW hC (by omega) (fun υ fυ hC2 => mm υ rfl (fun y hy => by cases hy; exact hz) hg ((hτ.1.tr fυ).mono (by decide) (by decide)) ((hF.fr hτ.1 rfl rfl).fr fυ rfl rfl) hC2)
  · rintro ⟨-, q | ⟨z, hz, e⟩⟩
    · exact c2 q
    · exact c3 ((cA (by omega)).mpr ⟨z, hz, e⟩)
end PFew
