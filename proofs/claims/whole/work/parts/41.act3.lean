/-! act: both -/
def wA (sk : Nat) (s : Int32) (a : Nat) (x : Int32) : WT := if a = 0 then wL sk s x else if a = 1 then wB sk s x else if a = 2 then wT sk s x else wE sk s x
theorem undB_tab : ∀ k : Fin 8, undB k.val 1 = decide (k.val = 1 ∨ k.val = 4) ∧ undB k.val 3 = decide (k.val = 3 ∨ k.val = 5) := by decide +kernel
def ownT (k a : Nat) : Int32 := am_own (4 * wk a k k + a)
theorem own_0_0 : am_own (4 * wk 0 0 0 + 0) = 1 := by decide +kernel
theorem run_eq (s x : Int32) : ∀ sk, sk < 8 → ∀ a, a < 4 → cRun sk s 12 sk a x = some (wA sk s a x)
  | 0, _, 0, _ => rfl
  | 0, _, 1, _ => rfl
  | 0, _, 2, _ => rfl
  | 0, _, 3, _ => rfl
  | 1, _, 0, _ => rfl
  | 1, _, 1, _ => rfl
  | 1, _, 2, _ => rfl
  | 1, _, 3, _ => rfl
  | 2, _, 0, _ => rfl
  | 2, _, 1, _ => rfl
  | 2, _, 2, _ => rfl
  | 2, _, 3, _ => rfl
  | 3, _, 0, _ => rfl
  | 3, _, 1, _ => rfl
  | 3, _, 2, _ => rfl
  | 3, _, 3, _ => rfl
  | 4, _, 0, _ => rfl
  | 4, _, 1, _ => rfl
  | 4, _, 2, _ => rfl
  | 4, _, 3, _ => rfl
  | 5, _, 0, _ => rfl
  | 5, _, 1, _ => rfl
  | 5, _, 2, _ => rfl
  | 5, _, 3, _ => rfl
  | 6, _, 0, _ => rfl
  | 6, _, 1, _ => rfl
  | 6, _, 2, _ => rfl
  | 6, _, 3, _ => rfl
  | 7, _, 0, _ => rfl
  | 7, _, 1, _ => rfl
  | 7, _, 2, _ => rfl
  | 7, _, 3, _ => rfl
  | n + 8, h, _, _ => absurd h (by omega)
  | _, _, n + 4, h => absurd h (by omega)
theorem len_eq (s x : Int32) : ∀ sk, sk < 8 → ∀ a, a < 4 → (wA sk s a x).2.length ≤ 100 := by
  intro sk h a h2
  have ea : sk = 0 ∨ sk = 1 ∨ sk = 2 ∨ sk = 3 ∨ sk = 4 ∨ sk = 5 ∨ sk = 6 ∨ sk = 7 := by omega
  have eb : a = 0 ∨ a = 1 ∨ a = 2 ∨ a = 3 := by omega
  rcases ea with rfl | rfl | rfl | rfl | rfl | rfl | rfl | rfl <;> rcases eb with rfl | rfl | rfl | rfl <;> exact Nat.le_of_ble_eq_true rfl
section Act3
variable {l : Launch} {g : am_G} {d : Nat} {σ : am_S}
theorem P_act (hd : 300 ≤ d) (hR : R σ) (x1 : Int32) (x2 : Int32) (x3 : Int32) : PP l g d M_X11_act M_X12_act [.int x1, .int x2, .int x3] σ := by
  intro K hk
  obtain ⟨nr, nd, n, pl, nt, dn, un, nb, nq, hH, hT, hD, hU, hI, hB, hS, hL⟩ := hR
  obtain ⟨⟨hnb, hnq⟩, ⟨e2497, e3569⟩, ⟨e2499, e3571⟩, hkd, htr⟩ := id hB
  have k2 : (¬ x2 < 0 ∧ ¬ 3 < x2) ↔ ∃ q, q < 4 ∧ x2 = nI q := cC (n := 4) 3 rfl (by omega)
  have fin : ∀ (τ : am_S) (ts : List Int32), Fr [2499, 2500, 3571] [41, 80] σ τ → ts.length ≤ 100 → rg τ 2499 = nI ts.length → rg τ 3571 = nI ts.length → (∀ j, j < ts.length → j < 24 → ar τ 80 j = ar τ 41 j) → R τ := by
    intro τ ts fr h1 h2 h3 h4
    refine ⟨nr, nd, n, pl, nt, dn, un, nb, ts.length, hH.fr fr rfl rfl, hT.fr fr rfl rfl, hD.fr fr rfl rfl, hU.fr fr rfl rfl, hI.fr fr rfl rfl, ?_, hS.fr fr rfl rfl, hL.fr fr rfl rfl⟩
    unfold R_B
    rw [fr.R 2497 rfl, fr.R 3569 rfl, h2, h3, fr.A 40 rfl, fr.A 79 rfl]
    exact ⟨⟨hnb, by omega⟩, ⟨e2497, e3569⟩, ⟨rfl, rfl⟩, hkd, h4⟩
  have bad : ¬ ((∃ p, p < nb ∧ x1 = nI p) ∧ ∃ q, q < 4 ∧ x2 = nI q) → CI l g M_X12_act d [.ref 55, .int x1, .int x2, .int x3] (sR σ 2499 0) (fun r2 σ2 => K 0 r2 σ2) := by
    intro no
    have fr0 : Fr [2499] [] σ (sR σ 2499 0) := Fr.rf.wR
    have R1 : R (sR (sR σ 2499 0) 3571 0) := fin _ [] ((Fr.rf.wR.wR).mono (by simp) (by simp)) (by simp) rfl rfl (fun j h => absurd h (by simp))
    refine b_X12_act_0 (by omega) ?_
    rw [fr0.R 3569 rfl, e3569]
    exact ⟨fun a => ⟨fun b => absurd ⟨(cB (by omega)).mp a, k2.mp b⟩ no, fun _ => hk _ _ R1⟩, fun _ => hk _ _ R1⟩
  refine b_X11_act_0 (by omega) (b_X0_perform_0 (by omega) ?_)
  rw [e2497]
  refine ⟨fun a => ⟨fun b => bad (fun q => (k2.mpr q.2).1 b), fun b => ⟨fun c => ?_, fun c => bad (fun q => ?_)⟩⟩, fun a => bad (fun q => a ((cA (by omega)).mpr q.1))⟩
  · obtain ⟨p, hp, ep⟩ := (cA (by omega)).mp a
    have h2 : ¬ x2 < 0 ∧ ¬ 3 < x2 := ⟨b, by grind⟩
    obtain ⟨a2, ha, ea⟩ := k2.mp h2
    subst ep
    obtain ⟨sk, hs, e40, e79⟩ := hkd p hp
    have frC : Fr [2499, 2500] [] σ (sR (sR σ 2499 0) 2500 (nI p)) := (Fr.rf.wR.wR).mono (by simp) (by simp)
    have c0 : rg (sR (sR σ 2499 0) 2500 (nI p)) 2499 = nI 0 := rfl
    have c1 : rg (sR (sR σ 2499 0) 2500 (nI p)) 2500 = nI p := rfl
    generalize sR (sR σ 2499 0) 2500 (nI p) = τ at *
    have hl := len_eq (nI p) x3 sk hs a2 ha
    rw [ea]
    refine c_own (w := wA sk (nI p) a2 x3) (e := 0) (q := 0) (by omega) hs (c_run (by omega) hs 12) ha (by omega) (by omega) ⟨by rw [frC.A 40 rfl]; exact e40, c1, c0⟩ (run_eq (nI p) x3 sk hs a2 ha) (by omega) ?_
    have f2 := ntF_fr (r := 2499) (a := 41) (ts := (wA sk (nI p) a2 x3).2) (σ := τ)
    have g2 := ntF_rg (r := 2499) (a := 41) (ts := (wA sk (nI p) a2 x3).2) c0
    have a41 := fun j hj => ntF_ar (r := 2499) (a := 41) (j := j) hj (ts := (wA sk (nI p) a2 x3).2) c0 (by omega)
    generalize ntF 2499 41 τ (wA sk (nI p) a2 x3).2 = υ at *
    have frU := frC.tr f2
    have f3 : Fr [3571] [] υ (sR υ 3571 0) := Fr.rf.wR
    have m0 : rg (sR υ 3571 0) 3571 = nI 0 := rfl
    refine b_X12_act_0 (by omega) ?_
    rw [frU.R 3569 rfl, e3569]
    generalize sR υ 3571 0 = υ2 at *
    have frV := frU.tr f3
    have e79' : ar υ2 79 p = nI sk := by rw [frV.A 79 rfl]; exact e79
    have done : K (wA sk (nI p) a2 x3).1 (wA sk (nI p) a2 x3).1 (ntF 3571 80 υ2 (wA sk (nI p) a2 x3).2) := by
      have f4 := ntF_fr (r := 3571) (a := 80) (ts := (wA sk (nI p) a2 x3).2) (σ := υ2)
      have g4 := ntF_rg (r := 3571) (a := 80) (ts := (wA sk (nI p) a2 x3).2) m0
      have a80 := fun j hj => ntF_ar (r := 3571) (a := 80) (j := j) hj (ts := (wA sk (nI p) a2 x3).2) m0 (by omega)
      generalize ntF 3571 80 υ2 (wA sk (nI p) a2 x3).2 = ω at *
      refine hk _ _ (fin ω (wA sk (nI p) a2 x3).2 ((frV.tr f4).mono (by simp) (by simp)) hl ?_ ?_ (fun j hj h24 => ?_))
      · rw [f4.R 2499 rfl, f3.R 2499 rfl, g2]
        congr 1
        omega
      · rw [g4]
        congr 1
        omega
      · rw [a80 j h24, if_pos (by omega), f4.A 41 rfl, f3.A 41 rfl, a41 j h24, if_pos (by omega)]
    refine ⟨fun _ => ⟨fun _ => ⟨fun n0 => ⟨fun n1 => ⟨fun n2 => ?_, fun e2 => ?_⟩, fun e1 => ?_⟩, fun e0 => ?_⟩, fun w => absurd (ea ▸ h2) w⟩, fun w => absurd ((cB (by omega)).mpr ⟨p, hp, rfl⟩) w⟩
    · have a0 : ¬ a2 = 0 := fun w => n0 (by rw [w]; rfl)
      have a1 : ¬ a2 = 1 := fun w => n1 (by rw [w]; rfl)
      have a2' : ¬ a2 = 2 := fun w => n2 (by rw [w]; rfl)
      rw [show wA sk (nI p) a2 x3 = wE sk (nI p) x3 from (if_neg a0).trans ((if_neg a1).trans (if_neg a2'))] at *
      exact m_E (by omega) hs _ _ 0 x3 _ (by omega) e79' m0 (by omega) done
    · have a0 : ¬ a2 = 0 := fun w => n0 (by rw [w]; rfl)
      have a1 : ¬ a2 = 1 := fun w => n1 (by rw [w]; rfl)
      have a2' : a2 = 2 := nI_inj (b := 2) (by omega) (by omega) e2
      rw [show wA sk (nI p) a2 x3 = wT sk (nI p) x3 from (if_neg a0).trans ((if_neg a1).trans (if_pos a2'))] at *
      exact m_T (by omega) hs _ _ 0 x3 _ (by omega) e79' m0 (by omega) done
    · have a0 : ¬ a2 = 0 := fun w => n0 (by rw [w]; rfl)
      have a1 : a2 = 1 := nI_inj (b := 1) (by omega) (by omega) e1
      rw [show wA sk (nI p) a2 x3 = wB sk (nI p) x3 from (if_neg a0).trans (if_pos a1)] at *
      exact m_B (by omega) hs _ _ 0 x3 _ (by omega) e79' m0 (by omega) done
    · have a0 : a2 = 0 := nI_inj (b := 0) (by omega) (by omega) e0
      rw [show wA sk (nI p) a2 x3 = wL sk (nI p) x3 from if_pos a0] at *
      exact m_L (by omega) hs _ _ 0 x3 _ (by omega) e79' m0 (by omega) done
  · have := (k2.mpr q.2).2
    grind
end Act3
