/-! changes; a change in deed -/
section ChgM
variable {l : Launch} {g : am_G} {σ0 : am_S} {W : Wd}
theorem m_chg {d a : Nat} {x1 : Int32} {k : Int32 → am_S → Prop} (hd : 2 ≤ d) (hW : wd_ok W) (hM : WM W σ0) (ha : a < 4 ^ W.2.1) (e29 : rg σ0 3529 = nI a)
    (H1 : ∀ i t, (mvs W a)[i]? = some t → x1 = nI i → k (nI (mcode t)) σ0) (H2 : 0 ≤ x1 → (∀ i, i < (mvs W a).length → ¬ x1 = nI i) → k (-1) σ0) (H3 : ¬ 0 ≤ x1 → k (nI (mvs W a).length) σ0) :
    JI l g M_X12_changes d 15 [(0, .ref 55), (1, .int x1), (2, .int (nI 0)), (3, .int (nI 0))] [] σ0 k := by
  have h5 := hW.1.1
  have h7 := hW.1.2
  have l60 := mvs_len (a := a) hW
  refine trip_loop (W := W) (a := a)
    (fun D (m : Nat) => JI l g M_X12_changes d 15 [(0, .ref 55), (1, .int x1), (2, .int (nI m)), (3, .int (nI D))] [] σ0 k)
    (fun D p m => JI l g M_X12_changes d 26 [(0, .ref 55), (1, .int x1), (2, .int (nI m)), (3, .int (nI D)), (4, .int (nI p))] [] σ0 k)
    (fun D p q m => JI l g M_X12_changes d 38 [(0, .ref 55), (1, .int x1), (2, .int (nI m)), (3, .int (nI D)), (4, .int (nI p)), (5, .int (nI q))] [] σ0 k)
    (fun pre m => m = pre.length ∧ ∀ i, i < pre.length → ¬ x1 = nI i) ?_ ?_ ?_ ?_ ?_ ?_ 0 ⟨rfl, fun i h => absurd h (Nat.not_lt_zero i)⟩
  · intro D pre s hD hI hj
    refine b_X12_changes_15 ?_
    rw [hM.1.1]
    exact ⟨fun z => absurd ((len (by omega) (by omega)).mp z) (by omega), fun _ => hj⟩
  · intro D pre s hD hI hj
    refine b_X12_changes_26 ?_
    rw [hM.1.2, nI_1]
    exact ⟨fun _ => hj, fun z => absurd ((len (by omega) (by omega)).mpr (Nat.le_refl W.2.1)) z⟩
  · intro D p pre s hD hp hI hj
    refine b_X12_changes_26 ?_
    rw [hM.1.2]
    exact ⟨fun z => absurd ((len (by omega) (by omega)).mp z) (by omega), fun _ => hj⟩
  · intro D p pre s hD hp hI hj
    refine b_X12_changes_38 (by omega) ?_
    rw [hM.1.2, nI_1 p]
    exact ⟨fun _ => hj, fun z => absurd ((len (by omega) (by omega)).mpr (Nat.le_refl W.2.1)) z⟩
  · intro D p q pre m hD hp hq hI
    obtain ⟨em, hno⟩ := hI
    subst em
    constructor
    · intro hc hs hn
      obtain ⟨suf, hs⟩ := hs
      have hat : (mvs W a)[pre.length]? = some (D, p, q) := by
        rw [← hs, List.getElem?_append_right (Nat.le_refl _), Nat.sub_self]
        rfl
      have hlt : pre.length < (mvs W a).length := (List.getElem?_eq_some_iff.mp hat).1
      refine b_X12_changes_38 (by omega) ?_
      rw [hM.1.2, e29, nI_1 q, nI_1 pre.length]
      refine ⟨fun z => absurd ((len (by omega) (by omega)).mp z) (by omega), fun _ => m_can (by omega) hW hM ha hD hp hq (fun _ => ⟨fun _ => ⟨fun ne => ?_, fun e => ?_⟩, fun z => absurd z (by decide)⟩) (fun z => by rw [hc] at z; cases z)⟩
      · refine hn _ ⟨by simp, fun i hi => ?_⟩
        rw [List.length_append] at hi
        have hi : i < pre.length + 1 := hi
        rcases Nat.lt_or_ge i pre.length with w | w
        · exact hno i w
        · have : i = pre.length := by omega
          rw [this]
          exact fun z => ne z.symm
      · have em : 100 * nI D + 10 * nI p + nI q = nI (mcode (D, p, q)) := by
          rw [show (100 : Int32) = nI 100 from rfl, show (10 : Int32) = nI 10 from rfl, pk_mul, pk_mul, nI_add, nI_add]
          rfl
        rw [em]
        exact H1 _ _ hat e.symm
    · intro hc hn
      refine b_X12_changes_38 (by omega) ?_
      rw [hM.1.2, e29, nI_1 q]
      exact ⟨fun z => absurd ((len (by omega) (by omega)).mp z) (by omega), fun _ => m_can (by omega) hW hM ha hD hp hq (fun z => by rw [hc] at z; cases z) (fun _ => ⟨fun z => absurd rfl z, fun _ => hn _ ⟨rfl, hno⟩⟩)⟩
  · intro m hI
    obtain ⟨em, hno⟩ := hI
    subst em
    refine b_X12_changes_15 ?_
    rw [hM.1.1]
    exact ⟨fun _ => ⟨fun z => H2 z hno, fun z => H3 z⟩, fun z => absurd ((len (by omega) (by omega)).mpr (Nat.le_refl W.1)) z⟩
end ChgM
section PChg
variable {l : Launch} {g : am_G} {d : Nat} {σ : am_S}
theorem P_changes (hd : 300 ≤ d) (hR : R σ) (x1 : Int32) : PP l g d M_X11_changes M_X12_changes [.int x1] σ := by
  intro K hk
  have old := hR
  obtain ⟨nr, nd, n, pl, nt, dn, un, nb, nq, hRR⟩ := hR
  have hH := hRR.1
  have hF := hRR.2.2.2.2.2.2.2.2
  obtain ⟨o, hL⟩ := R_tl_of hRR.2.2.2.2.2.2.2.1
  have H2 := hH.1.2.1
  have H3 := hH.1.2.2
  have hW : wd_ok (wld σ o nd n 0 (rg σ 67) 0) := wld_ok hH.W
  have ha := a_lt hH
  refine b_X11_changes_0 (by omega) ⟨fun c => ?_, fun c => b_X12_changes_0 (by omega) ⟨fun z => absurd z c, fun _ => hk _ _ old⟩⟩
  refine c_weigh (tn := 0) (by omega) hH.W hL (by omega) (fun τ hτ hC => ?_)
  refine c_arr (hH.fr hτ.1 rfl rfl) (c_list (W := wld σ o nd n 0 (rg σ 67) 0) (by omega) hW hC ha (fun υ hυ hT => ?_))
  have fr : Fr SRg SAr σ υ := (hτ.1.tr hυ).mono (by decide) (by decide)
  have hRR2 := R_srch hRR fr (hF.fr (hτ.1.tr hυ) rfl rfl)
  have hH2 := hRR2.1
  have hL2 := R_tl.fr fr rfl rfl hL
  have l60 := mvs_len (a := enc pl n) hW
  -- the reference, whatever the class answers
  have go : ∀ r : Int32, ((∀ i t, (mvs (wld σ o nd n 0 (rg σ 67) 0) (enc pl n))[i]? = some t → x1 = nI i → r = nI (mcode t)) ∧ (0 ≤ x1 → (∀ i, i < (mvs (wld σ o nd n 0 (rg σ 67) 0) (enc pl n)).length → ¬ x1 = nI i) → r = -1) ∧ (¬ 0 ≤ x1 → r = nI (mvs (wld σ o nd n 0 (rg σ 67) 0) (enc pl n)).length)) → CI l g M_X12_changes d [.ref 55, .int x1] υ (fun r2 σ2 => K r r2 σ2) := by
    intro r ⟨h1, h2, h3⟩
    refine b_X12_changes_0 (by omega) ⟨fun _ => m_now (by omega) hH2.W hL2 (fun ω fω hM => ?_), fun z => absurd c z⟩
    rw [wld_fr fr rfl rfl, fr.R 67 rfl] at hM
    have hRR3 := R_srch hRR2 (fω.mono (by decide) (by decide)) (hRR2.2.2.2.2.2.2.2.2.fr fω rfl rfl)
    have fin : ∀ r2, r = r2 → K r r2 ω := fun r2 e => by rw [← e]; exact hk _ _ hRR3.R
    exact m_chg (W := wld σ o nd n 0 (rg σ 67) 0) (by omega) hW hM ha hRR3.1.2.2.2.2.2.2.2.2.2 (fun i t a b => fin _ (h1 i t a b)) (fun a b => fin _ (h2 a b)) (fun a => fin _ (h3 a))
  rw [hT.1]
  refine ⟨fun c1 => ⟨fun c2 => go _ ⟨fun i t hi e => ?_, fun _ _ => rfl, fun z => ?_⟩, fun c2 => ?_⟩, fun c1 => go _ ⟨fun i t hi e => ?_, fun z _ => ?_, fun _ => rfl⟩⟩
  · have hl := (List.getElem?_eq_some_iff.mp hi).1
    rw [e] at c2
    exact absurd ((len (by omega) (by omega)).mp c2) (by omega)
  · refine absurd ?_ c1
    clear go
    grind
  · have c3 : ¬ x1 < 0 := by
      clear go
      grind
    obtain ⟨i, hi, e⟩ := (cA (by omega)).mp ⟨c3, c2⟩
    subst e
    have hat := List.getElem?_eq_getElem hi
    rw [nI_clamp (n := i) (by omega), (hT.2 i _ hat).1]
    refine ⟨vp_in_nI (by omega) (by omega), go _ ⟨fun j t hj e => ?_, fun _ no => absurd rfl (no i hi), fun z => absurd (nneg (by omega)) z⟩⟩
    have hl := (List.getElem?_eq_some_iff.mp hj).1
    have := nI_inj (by omega) (by omega) e
    subst this
    rw [hat] at hj
    cases hj
    rfl
  · have hl := (List.getElem?_eq_some_iff.mp hi).1
    rw [c1] at e
    exact absurd e.symm (neg1_ne (by omega))
  · rw [c1] at z
    exact absurd z (by decide)
theorem P_change (hd : 300 ≤ d) (hR : R σ) (x1 : Int32) (x2 : Int32) : PP l g d M_X11_change M_X12_change [.int x1, .int x2] σ := by
  intro K hk
  have old := hR
  obtain ⟨nr, nd, n, pl, nt, dn, un, nb, nq, hRR⟩ := hR
  have hH := hRR.1
  have hF := hRR.2.2.2.2.2.2.2.2
  obtain ⟨o, hL⟩ := R_tl_of hRR.2.2.2.2.2.2.2.1
  have H2 := hH.1.2.1
  have H3 := hH.1.2.2
  have ha := a_lt hH
  refine b_X11_change_0 (by omega) (c_may (by omega) hH hL (fun hno => ⟨fun z => absurd z (by decide), fun _ => ?_⟩) (fun D p q τ hD e1 tw fr hRF => ?_))
  · refine b_X12_change_0 (by omega) ?_
    rw [hH.2.2.1.2]
    refine ⟨fun c1 => m_two (by omega) hH.2.2.2.1.2 H3 (fun p q tw => absurd ⟨(cB (by omega)).mp c1, p, q, tw⟩ hno) (fun _ => ⟨fun z => absurd rfl z, fun _ => hk _ _ old⟩), fun _ => hk _ _ old⟩
  · have hRR2 := R_srch hRR fr (hRF.resolve_right (fun z => z hF))
    have hH2 := hRR2.1
    have hL2 := R_tl.fr fr rfl rfl hL
    have hW : wd_ok (wld σ o nd n 0 (rg σ 67) 0) := wld_ok hH.W
    obtain ⟨e2, e3, hp, hq, hpq⟩ := id tw
    have cD : (nI D).toNatClampNeg = D := nI_clamp (by omega)
    have cp : (nI p).toNatClampNeg = p := nI_clamp (by omega)
    have cq : (nI q).toNatClampNeg = q := nI_clamp (by omega)
    obtain ⟨dr, ⟨d1, -⟩, ⟨d2, -⟩, -⟩ := RH_door hH2.W hD
    have vD : vp_in (nI D) 5 := vp_in_nI (by omega) (by omega)
    -- the reference as far as its answer
    have ref : ∀ (υ : am_S) (K2 : Int32 → am_S → Prop), R_W υ nr nd n → R_tl υ o → rg υ 3529 = nI (enc pl n) → wld υ o nd n 0 (rg υ 67) 0 = wld σ o nd n 0 (rg σ 67) 0 → (∀ ω, Fr [] [71, 72, 73, 74, 75] υ ω → (canB (wld σ o nd n 0 (rg σ 67) 0) (enc pl n) (D, p, q) = false → K2 (-2) ω) ∧ (canB (wld σ o nd n 0 (rg σ 67) 0) (enc pl n) (D, p, q) = true → K2 (rg ω 3555 + 1) (sR (sR (sR ω 3529 (nI (swp n (enc pl n) p q))) 3556 ((100 * x1) + x2)) 3555 ((rg ω 3555) + 1)))) → CI l g M_X12_change d [.ref 55, .int x1, .int x2] υ K2 := by
      intro υ K2 hHυ hLυ e29υ hw hK
      refine b_X12_change_0 (by omega) ?_
      rw [hHυ.2.2.1.2]
      refine ⟨fun c1 => m_two (by omega) hHυ.2.2.2.1.2 H3 (fun p1 q1 tw1 => ⟨fun _ => ?_, fun z => absurd z (by decide)⟩) (fun hno => absurd ⟨p, q, tw⟩ hno), fun c => absurd ((cB (by omega)).mpr ⟨D, hD, e1⟩) c⟩
      refine m_now (by omega) hHυ hLυ (fun ω fω hM => ?_)
      rw [hw] at hM
      have e29 : rg ω 3529 = nI (enc pl n) := (fω.R 3529 rfl).trans e29υ
      have sw := i_swM H3 ha hp hq
      have hKω := hK ω fω
      rw [e1] at hKω
      rw [e29, e1, e3, e2]
      refine m_can (W := wld σ o nd n 0 (rg σ 67) 0) (by omega) hW hM ha hD hp hq (fun hc => ⟨fun _ => ?_, fun z => absurd z (by decide)⟩) (fun hc => ⟨fun z => absurd rfl z, fun _ => hKω.1 hc⟩)
      rw [e29, sw]
      exact hKω.2 hc
    by_cases hc : canB (wld σ o nd n 0 (rg σ 67) 0) (enc pl n) (D, p, q) = true
    · rw [if_pos hc]
      have ref1 := ref
      rw [e1] at ref1
      rw [e1, e3, e2, cD, cp, cq, d1, d2]
      refine ⟨fun _ => ⟨fun _ => ⟨vD, vp_in_nI (by omega) (by omega), vD, vp_in_nI (by omega) (by omega), ?_⟩, fun z => absurd z (by decide)⟩, fun z => absurd (by decide) z⟩
      obtain ⟨-, r1, r2⟩ := canB_iff.mp hc
      have h4 := plt hH
      have r1 : rmN (enc pl n) p = frT σ 0 D := r1
      have r2 : rmN (enc pl n) q = toT σ 0 D := r2
      rw [enc_rm_pl hp h4] at r1
      rw [enc_rm_pl hq h4] at r2
      have t0 : tbt 0 D = false := by
        unfold tbt
        simp
      have f0 : fr0 τ D = pl p := by
        rw [r1]
        unfold frT
        rw [if_neg (by rw [t0]; decide)]
        unfold fr0
        rw [fr.A 2 rfl]
      have f1 : to0 τ D = pl q := by
        rw [r2]
        unfold toT
        rw [if_neg (by rw [t0]; decide)]
        unfold to0
        rw [fr.A 3 rfl]
      rw [f0, f1]
      have frC : Fr [10, 11] [7] τ (sR (sR (sA (sA τ 7 p (nI (pl q))) 7 q (nI (pl p))) 11 ((100 * nI D) + x2)) 10 ((rg τ 10) + 1)) := (Fr.rf.wA.wA.wR.wR).mono (by simp) (by simp)
      have x7 : ∀ j, ar (sR (sR (sA (sA τ 7 p (nI (pl q))) 7 q (nI (pl p))) 11 ((100 * nI D) + x2)) 10 ((rg τ 10) + 1)) 7 j = if j = q then nI (pl p) else if j = p then nI (pl q) else ar τ 7 j := by
        intro j
        simp [ar_sA, ar_sR]
      have x10 : rg (sR (sR (sA (sA τ 7 p (nI (pl q))) 7 q (nI (pl p))) 11 ((100 * nI D) + x2)) 10 ((rg τ 10) + 1)) 10 = rg τ 10 + 1 := rfl
      have x11 : rg (sR (sR (sA (sA τ 7 p (nI (pl q))) 7 q (nI (pl p))) 11 ((100 * nI D) + x2)) 10 ((rg τ 10) + 1)) 11 = 100 * nI D + x2 := rfl
      generalize (sR (sR (sA (sA τ 7 p (nI (pl q))) 7 q (nI (pl p))) 11 ((100 * nI D) + x2)) 10 ((rg τ 10) + 1)) = υ at *
      refine ref1 υ _ (hH2.W.fr frC rfl rfl) (R_tl.fr frC rfl rfl hL2) ((frC.R 3529 rfl).trans hH2.2.2.2.2.2.2.2.2.2) (by rw [wld_fr frC rfl rfl, wld_fr fr rfl rfl, frC.R 67 rfl, fr.R 67 rfl]) (fun ω fω => ⟨fun z => (by rw [hc] at z; cases z), fun _ => ?_⟩)
      obtain ⟨hH', hT', hD', hU', hI', hB', hS', hL'⟩ := hRR2
      have e55 : rg ω 3555 = rg τ 10 := ((fω.R 3555 rfl).trans (frC.R 3555 rfl)).trans hD'.1
      rw [e55]
      refine hk _ _ ?_
      have fZ : Fr [3529, 3555, 3556] [] ω (sR (sR (sR ω 3529 (nI (swp n (enc pl n) p q))) 3556 ((100 * nI D) + x2)) 3555 (rg τ 10 + 1)) := (Fr.rf.wR.wR.wR).mono (by simp) (by simp)
      have z29 : rg (sR (sR (sR ω 3529 (nI (swp n (enc pl n) p q))) 3556 ((100 * nI D) + x2)) 3555 (rg τ 10 + 1)) 3529 = nI (swp n (enc pl n) p q) := rfl
      have z55 : rg (sR (sR (sR ω 3529 (nI (swp n (enc pl n) p q))) 3556 ((100 * nI D) + x2)) 3555 (rg τ 10 + 1)) 3555 = rg τ 10 + 1 := rfl
      have z56 : rg (sR (sR (sR ω 3529 (nI (swp n (enc pl n) p q))) 3556 ((100 * nI D) + x2)) 3555 (rg τ 10 + 1)) 3556 = 100 * nI D + x2 := rfl
      generalize (sR (sR (sR ω 3529 (nI (swp n (enc pl n) p q))) 3556 ((100 * nI D) + x2)) 3555 (rg τ 10 + 1)) = ζ at *
      have fA : Fr [10, 11, 3529, 3555, 3556] [7, 71, 72, 73, 74, 75] τ ζ := ((frC.tr fω).tr fZ).mono (by simp) (by simp)
      have f7 : ar ζ 7 = ar υ 7 := (fZ.A 7 rfl).trans (fω.A 7 rfl)
      have f10 : rg ζ 10 = rg υ 10 := (fZ.R 10 rfl).trans (fω.R 10 rfl)
      have f11 : rg ζ 11 = rg υ 11 := (fZ.R 11 rfl).trans (fω.R 11 rfl)
      refine ⟨nr, nd, n, swf pl p q, nt, dn, un, nb, nq, ?_, hT'.fr fA rfl rfl, ⟨by rw [z55, f10, x10], by rw [z56, f11, x11]⟩, hU'.fr fA rfl rfl, hI'.fr fA rfl rfl, hB'.fr fA rfl rfl, hS'.fr fA rfl rfl, hL'.fr fA rfl rfl⟩
      have hHW := hH'.W.fr fA rfl rfl
      obtain ⟨w1, w2, w3, w4, w5, w6, w7, w8, w9⟩ := hHW
      have hpe := hH'.2.2.2.2.2.2.2.1
      refine ⟨w1, w2, w3, w4, w5, w6, w7, fun j hj => ⟨?_, ?_, (w8 j hj).2.2⟩, w9, ?_⟩
      · unfold swf pu
        have p1 := (hpe p hp).1
        have p2 := (hpe q hq).1
        have p3 := (hpe j hj).1
        split
        · exact p1
        · split
          · exact p2
          · exact p3
      · rw [f7, x7, (hpe j hj).2.1]
        unfold swf pu
        by_cases z1 : j = q
        · rw [if_pos z1, if_pos z1]
        · rw [if_neg z1, if_neg z1]
          by_cases z2 : j = p
          · rw [if_pos z2, if_pos z2]
          · rw [if_neg z2, if_neg z2]
      · rw [z29]
        congr 1
        show enc (swf (rmN (enc pl n)) p q) n = _
        refine enc_congr (fun j hj => ?_)
        unfold swf pu
        rw [enc_rm_pl hp h4, enc_rm_pl hq h4]
        by_cases z1 : j = q
        · rw [if_pos z1, if_pos z1]
        · rw [if_neg z1, if_neg z1]
          by_cases z2 : j = p
          · rw [if_pos z2, if_pos z2]
          · rw [if_neg z2, if_neg z2, enc_rm_pl hj h4]
    · rw [if_neg hc]
      refine ⟨fun _ => ⟨fun z => absurd rfl z, fun _ => ?_⟩, fun z => absurd (by decide) z⟩
      refine ref τ _ hH2.W hL2 hH2.2.2.2.2.2.2.2.2.2 (by rw [wld_fr fr rfl rfl, fr.R 67 rfl]) (fun ω fω => ⟨fun _ => hk _ _ ?_, fun z => absurd z hc⟩)
      exact (R_srch hRR2 (fω.mono (by decide) (by decide)) (hRR2.2.2.2.2.2.2.2.2.fr fω rfl rfl)).R
end PChg
