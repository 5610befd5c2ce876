/-! law: the pair -/
section PLaw
variable {l : Launch} {g : am_G} {d : Nat} {σ : am_S}
/-- the law told before stays, if its rows do -/
theorem RL0_keep {τ : am_S} (h : R_L0 σ) (e1 : rg τ 705 = rg σ 705) (e2 : rg τ 3551 = rg σ 3551) (e3 : ar τ 12 = ar σ 12) (e4 : ∀ j, j < 130 → ar τ 66 j = ar σ 66 j ∧ ar τ 67 j = ar σ 67 j) (e5 : ∀ j, j < 61 → ar τ 69 j = ar σ 69 j ∧ ar τ 70 j = ar σ 70 j) (e6 : ar τ 68 0 = ar σ 68 0) : R_L0 τ := by
  unfold R_L0 at h ⊢
  rw [e1, e2]
  rcases h with h | ⟨h1, ls, h2, h3, ⟨c1, c2, c3⟩, ⟨m1, m2, m3, m4, m5⟩⟩
  · exact Or.inl h
  · refine Or.inr ⟨h1, ls, h2, h3, ⟨c1, by rw [e1]; exact c2, fun j v hv => by rw [e3]; exact c3 j v hv⟩, m1, m2, by rw [e6]; exact m3, fun j t ht => ?_, fun i q hq => ?_⟩
    · have hj : j < (ls.flatMap ln_M).length := by
        rcases Nat.lt_or_ge j (ls.flatMap ln_M).length with w | w
        · exact w
        · rw [List.getElem?_eq_none w] at ht
          cases ht
      rw [(e4 j (by omega)).1, (e4 j (by omega)).2]
      exact m4 j t ht
    · have hi : i < ls.length := by
        rcases Nat.lt_or_ge i ls.length with w | w
        · exact w
        · rw [List.getElem?_eq_none w] at hq
          cases hq
      rw [(e5 i (by omega)).1, (e5 i (by omega)).2]
      exact m5 i q hq
theorem P_law (hd : 300 ≤ d) (hR : R σ) : PP l g d M_X11_law M_X12_law [] σ := by
  intro K hk
  obtain ⟨nr, nd, n, pl, nt, dn, un, nb, nq, hH, hT, hD, hU, hI, hB, hS, hL⟩ := hR
  obtain ⟨t1, ⟨t2, t3⟩, t4⟩ := id hT
  have hby : BY (fun j => ar σ 9 j) nt := fun j hj => (t4 j hj).1
  have htC : TP (fun j => ar σ 9 j) nt σ := ⟨t1, t2, fun j _ => rfl⟩
  obtain ⟨r, er⟩ := gtext_tot (b := fun j => ar σ 9 j) t1 (nt + 1) 0 (by omega) (by omega)
  have fin : ∀ τ : am_S, Fr [515, 516, 517, 513, 705, 3540, 3541, 3542, 3543, 3539, 3551] [10, 12, 66, 67, 68, 69, 70] σ τ → rg τ 513 = 0 → rg τ 3539 = 0 → R_L0 τ → R τ := by
    intro τ fr h1 h2 h3
    exact ⟨nr, nd, n, pl, 0, dn, un, nb, nq, hH.fr fr rfl rfl, ⟨by omega, ⟨h1, h2⟩, fun j hj => absurd hj (by omega)⟩, hD.fr fr rfl rfl, hU.fr fr rfl rfl, hI.fr fr rfl rfl, hB.fr fr rfl rfl, hS.fr fr rfl rfl, h3, hL.2.fr fr rfl rfl⟩
  have lc0 : LC σ (sR (sR (sR σ 516 0) 517 (-1)) 515 0) 0 [] := ⟨(Fr.rf.wR.wR.wR).mono (by simp) (by simp), rfl, rfl, rfl, fun i v hv => by cases hv⟩
  -- the reference's part, from a state in which its tape is the same
  have M : ∀ (υ : am_S) (K2 : Int32 → am_S → Prop), Fr [515, 516, 517, 513, 705] [10, 12] σ υ → (∀ ls ω, r = .inl ls → Fr [3540, 3541, 3542, 3543, 3539] [66, 67, 68, 69, 70] υ ω → rg ω 3539 = 0 → L_M ω ls → K2 1 (sR ω 3551 1)) → (∀ p ω, r = .inr p → MO υ ω → K2 (-100 - nI p) (sR ω 3539 0)) → CI l g M_X12_law d [.ref 55] υ K2 := by
    intro υ K2 fr H1 H2
    have htM : TM (fun j => ar σ 9 j) nt υ := ⟨t1, hby, (fr.R 3539 rfl).trans t3, fun j hj => by rw [fr.A 65 rfl]; exact (t4 j hj).2⟩
    have hO : MO υ (sA (sR (sR (sR (sR υ 3540 0) 3541 (-1)) 3542 0) 3543 0) 68 1 0) := by
      refine MO.many (MO.reg (MO.reg (MO.reg (MO.reg ⟨Fr.rf.mono (by simp) (by simp), fun _ _ => ⟨rfl, rfl⟩, fun _ _ => ⟨rfl, rfl⟩, rfl⟩ (by simp)) (by simp)) (by simp)) (by simp))
    have hS0 : MS υ (sA (sR (sR (sR (sR υ 3540 0) 3541 (-1)) 3542 0) 3543 0) 68 1 0) 0 [] := ⟨hO, ⟨rfl, rfl, rfl, rfl⟩, (fun i t hi => absurd hi (by simp [mT])), rfl, (fun i q hi => absurd hi (by simp))⟩
    refine b_X12_law_0 (by omega) (b_X12_readText_0 (by omega) ?_)
    refine m_text htM (by omega) (nt + 1) 0 r _ [] (by omega) er (Nat.le_refl _) (Nat.le_refl _) hS0 (fun ls τ e hτ => ?_) (fun p τ e hp hO2 => ⟨fun q => absurd q (nI_pos (by omega)), fun _ => H2 p τ e hO2⟩)
    subst e
    obtain ⟨k1, k2, k3, k4⟩ := gtext_good t1 (nt + 1) 0 ls (by omega) er
    rw [List.nil_append] at hτ
    obtain ⟨hO2, ⟨e40, e41, e42, e43⟩, hc, h68, hLn⟩ := hτ
    have hok : ∀ t ∈ mT ls, tk_ok t := by
      intro t ht
      obtain ⟨q, hq, hq2⟩ := List.mem_flatMap.mp ht
      rcases List.mem_append.mp hq2 with w | w
      · rcases (k2 q hq).1 with z | z
        · rw [z] at w
          cases w
        · exact z.1 t w
      · exact (k2 q hq).2.1 t w
    refine m_cp1 (σ0 := sR τ 3539 0) (T := mT ls) (by omega) hok (fun ω f1 c1 c2 c3 => ?_) e43 hc (mT ls).length 0 _ (by omega) (Fr.rf.mono (by simp) (by simp)) (fun _ _ => ⟨rfl, rfl⟩) (fun i t h _ => absurd h (by omega))
    have ends : ∀ i, i < ls.length → ∃ q, ls[i]? = some q := fun i hi => ⟨ls[i], List.getElem?_eq_getElem hi⟩
    have pre_le : ∀ i q, ls[i]? = some q → (mT (ls.take i)).length + q.1.length + q.2.length ≤ 121 := by
      intro i q hq
      have hi : i < ls.length := by
        rcases Nat.lt_or_ge i ls.length with w | w
        · exact w
        · rw [List.getElem?_eq_none w] at hq
          cases hq
      have e1 : ls[i] = q := by
        rw [List.getElem?_eq_getElem hi] at hq
        exact Option.some.inj hq
      have e2 : ls = ls.take i ++ (q :: ls.drop (i + 1)) := by
        rw [← e1, ← List.drop_eq_getElem_cons hi, List.take_append_drop]
      have e3 : mT ls = mT (ls.take i) ++ (ln_M q ++ mT (ls.drop (i + 1))) := by
        have : mT ls = mT (ls.take i ++ (q :: ls.drop (i + 1))) := congrArg mT e2
        rw [this]
        unfold mT
        rw [List.flatMap_append, List.flatMap_cons]
      have e4 := congrArg List.length e3
      rw [List.length_append, List.length_append] at e4
      have e5 : (ln_M q).length = q.1.length + q.2.length := by
        unfold ln_M
        rw [List.length_append]
      omega
    have h68' : ar ω 68 0 = nI ls.length := by
      rw [c2]
      exact h68
    refine m_cp2 (σ0 := ω) (m := ls.length) (by omega) h68' (fun i hi => ?_) (fun ω2 f2 l2 => ?_) ls.length 0 ω (by omega) (Fr.rf.mono (by simp) (by simp)) (fun _ _ => ⟨rfl, rfl⟩) (fun i h => absurd h (by omega))
    · obtain ⟨q, hq⟩ := ends i hi
      have := pre_le i q hq
      have m1 := hLn i q hq
      refine ⟨(mT (ls.take i)).length + q.1.length, (mT (ls.take i)).length + q.1.length + q.2.length, by omega, by omega, ?_, ?_⟩
      · rw [f1.A 69 rfl]
        exact m1.1
      · rw [f1.A 70 rfl]
        exact m1.2
    · have fT : Fr [3540, 3541, 3542, 3543, 3539] [66, 67, 68, 69, 70] υ ω2 := (((hO2.1.wR (r := 3539) (v := 0)).tr f1).tr f2).mono (by simp) (by simp)
      refine ⟨fun _ => H1 ls ω2 rfl fT ?_ ⟨by omega, by show (mT ls).length ≤ 121; omega, ?_, fun j t ht => ?_, fun i q hq => ?_⟩, fun q => absurd (by decide) q⟩
      · rw [f2.R 3539 rfl, f1.R 3539 rfl]
        rfl
      · rw [f2.A 68 rfl]
        exact h68'
      · rw [f2.A 66 rfl, f2.A 67 rfl]
        exact c1 j t ht
      · have hi : i < ls.length := by
          rcases Nat.lt_or_ge i ls.length with w | w
          · exact w
          · rw [List.getElem?_eq_none w] at hq
            cases hq
        rw [(l2 i hi).1, (l2 i hi).2, f1.A 69 rfl, f1.A 70 rfl]
        exact hLn i q hq
  refine b_X11_law_0 (by omega) (b_X10_read_0 (by omega) ?_)
  refine c_text htC (by omega) (nt + 1) 0 1 r _ [] (by omega) (Nat.le_refl _) er (Nat.le_refl _) lc0 (fun ls τ e hτ hlen => ⟨fun _ => ?_, fun q => absurd (by decide) q⟩) (fun p τ e hp hF => ⟨fun q => absurd q (nI_pos (by omega)), fun _ => ?_⟩)
  · rw [List.nil_append] at hτ hlen
    obtain ⟨f1, c1, c2, c3, c4⟩ := hτ
    refine b_X4_becomes_0 ?_
    rw [c3]
    refine ⟨fun _ => ?_, fun q => absurd ((len (b := 121) (by omega) (by omega)).mpr hlen) q⟩
    have fA : Fr [515, 516, 517, 513, 705] [10, 12] σ (sR (sR τ 513 0) 705 (nI (ls.flatMap ln_C).length)) := (f1.wR.wR).mono (by simp) (by simp)
    refine c_bec (σ0 := sR (sR τ 513 0) 705 (nI (ls.flatMap ln_C).length)) (D := (ls.flatMap ln_C).length) hlen rfl (fun υ f2 l2 => ?_) _ 0 _ (Nat.zero_add _) (Fr.rf.mono (by simp) (by simp)) (fun i h => absurd h (by omega))
    have fU : Fr [515, 516, 517, 513, 705] [10, 12] σ υ := (fA.tr f2).mono (by simp) (by simp)
    have u705 : rg υ 705 = nI (ls.flatMap ln_C).length := by rw [f2.R 705 rfl]; rfl
    have u513 : rg υ 513 = 0 := by rw [f2.R 513 rfl]; rfl
    refine M υ _ fU (fun ls2 ω e2 f3 z39 hLM => ?_) (fun p ω e2 _ => by rw [e] at e2; cases e2)
    rw [e] at e2
    cases e2
    subst e
    obtain ⟨k1, k2, k3, k4⟩ := gtext_good t1 (nt + 1) 0 ls (by omega) er
    refine hk _ _ (fin _ ((fU.tr f3.wR).mono (by simp) (by simp)) ?_ ?_ ?_)
    · rw [rg_sR, if_neg (by decide), f3.R 513 rfl]
      exact u513
    · rw [rg_sR, if_neg (by decide)]
      exact z39
    · refine Or.inr ⟨rfl, ls, k1, k2, ⟨hlen, ?_, fun j v hv => ?_⟩, hLM⟩
      · rw [rg_sR, if_neg (by decide), f3.R 705 rfl]
        exact u705
      · have hj : j < (ls.flatMap ln_C).length := by
          rcases Nat.lt_or_ge j (ls.flatMap ln_C).length with w | w
          · exact w
          · rw [List.getElem?_eq_none w] at hv
            cases hv
        rw [ar_sR, f3.A 12 rfl, l2 j hj]
        exact c4 j v hv
  · have fU : Fr [515, 516, 517, 513, 705] [10, 12] σ (sR τ 513 0) := (hF.wR).mono (by simp) (by simp)
    refine M _ _ fU (fun ls2 ω e2 _ _ _ => by rw [e] at e2; cases e2) (fun p2 ω e2 hO => ?_)
    rw [e] at e2
    cases e2
    have fT := fU.tr (hO.1.wR (r := 3539) (v := 0))
    refine hk _ _ (fin _ (fT.mono (by simp) (by simp)) ?_ ?_ (RL0_keep hL.1 ?_ ?_ ?_ ?_ ?_ ?_))
    · rw [rg_sR, if_neg (by decide), hO.1.R 513 rfl]
      rfl
    · rfl
    · rw [rg_sR, if_neg (by decide), hO.1.R 705 rfl, rg_sR, if_neg (by decide), hF.R 705 rfl]
    · rw [rg_sR, if_neg (by decide), hO.1.R 3551 rfl, rg_sR, if_neg (by decide), hF.R 3551 rfl]
    · rw [ar_sR, hO.1.A 12 rfl, ar_sR, hF.A 12 rfl]
    · intro j hj
      rw [ar_sR, (hO.2.1 j hj).1, (hO.2.1 j hj).2, ar_sR, hF.A 66 rfl, hF.A 67 rfl]
      exact ⟨rfl, rfl⟩
    · intro j hj
      rw [ar_sR, (hO.2.2.1 j hj).1, (hO.2.2.1 j hj).2, ar_sR, hF.A 69 rfl, hF.A 70 rfl]
      exact ⟨rfl, rfl⟩
    · rw [ar_sR, hO.2.2.2, ar_sR, hF.A 68 rfl]
end PLaw
