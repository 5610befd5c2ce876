/-! the first change of the ways with the fewest -/
theorem fst_key {W : Wd} {a0 : Nat} {u : List En} {y : En} (hW : wd_ok W) (ha : a0 < 4 ^ W.2.1) (h : Ext (u ++ [y]) (bf0 W a0)) : (u.length = 0 ↔ y.2.1 = 0) ∧ y.2.2 < 999 := by
  have hy : (u ++ [y])[u.length]? = some y := by
    rw [List.getElem?_append_right (Nat.le_refl _), Nat.sub_self]
    rfl
  have hy2 := h.at hy
  obtain ⟨j, -, hK⟩ := bf0_KB hW ha
  have hs := hK.1.2.2.1 y (List.mem_of_getElem? hy2)
  have h4 := hK.1.2.2.2 u.length y
  constructor
  · constructor
    · intro z
      rw [z, hK.1.1] at hy2
      cases hy2
      rfl
    · intro z
      rcases Nat.eq_zero_or_pos u.length with w | w
      · exact w
      · have := h4 w hy2
        unfold key at this
        rcases hs with e | ⟨t0, k, q1, q2, q3, q4⟩
        · rw [e] at this
          exact absurd this (by show ¬ 1000 ≤ 1000 * 0 + 0; omega)
        · omega
  · rcases hs with e | ⟨t0, k, q1, q2, q3, q4⟩
    · rw [e]
      exact (by decide : 0 < 999)
    · rw [q3]
      exact mcode_lt hW q1
section FirstM
variable {l : Launch} {g : am_G} {σ0 : am_S} {W : Wd} {G : Nat → Bool} {a0 : Nat}
theorem m_first {d : Nat} {x1 x2 : Int32} {y : En} {k : Int32 → am_S → Prop} (hd : 5 ≤ d) (hW : wd_ok W) (hM : WM W σ0) (ha : a0 < 4 ^ W.2.1) (e29 : rg σ0 3529 = nI a0) (hG : ∀ c, c < 16384 → ((nI c &&& rg σ0 3561 = rg σ0 3562) ↔ G c = true)) (hy : fstG G (bf0 W a0) y) (h1 : 1 ≤ y.2.1)
    (H : ∀ τ, Fr [3560, 3563] [76, 77] σ0 τ → k (nI y.2.2) τ) :
    JI l g M_X12_first d 52 [(0, .ref 55), (1, .int x1), (2, .int x2), (3, .int (nI y.2.1)), (4, .int (nI 0))] [] σ0 k := by
  have h5 := hW.1.1
  have h7 := hW.1.2
  obtain ⟨t0, q1, q2, ⟨g2, q3, q4⟩, q5⟩ := first_law hW ha hy h1
  have yd := bf0_dlt hW ha (fst_mem hy)
  have srt := mvs_sorted (a := a0) h7
  refine trip_loop (W := W) (a := a0)
    (fun D σ => JI l g M_X12_first d 52 [(0, .ref 55), (1, .int x1), (2, .int x2), (3, .int (nI y.2.1)), (4, .int (nI D))] [] σ k)
    (fun D p σ => JI l g M_X12_first d 64 [(0, .ref 55), (1, .int x1), (2, .int x2), (3, .int (nI y.2.1)), (4, .int (nI D)), (5, .int (nI p))] [] σ k)
    (fun D p q σ => JI l g M_X12_first d 76 [(0, .ref 55), (1, .int x1), (2, .int x2), (3, .int (nI y.2.1)), (4, .int (nI D)), (5, .int (nI p)), (6, .int (nI q))] [] σ k)
    (fun pre σ => Fr [3560, 3563] [76, 77] σ0 σ ∧ t0 ∉ pre) ?_ ?_ ?_ ?_ ?_ ?_ σ0 ⟨Fr.rf.mono (by simp) (by simp), List.not_mem_nil⟩
  · intro D pre s hD hI hj
    refine b_X12_first_52 ?_
    rw [hI.1.R 3522 rfl, hM.1.1]
    exact ⟨fun z => absurd ((len (by omega) (by omega)).mp z) (by omega), fun _ => hj⟩
  · intro D pre s hD hI hj
    refine b_X12_first_64 ?_
    rw [hI.1.R 3526 rfl, hM.1.2, nI_1]
    exact ⟨fun _ => hj, fun z => absurd ((len (by omega) (by omega)).mpr (Nat.le_refl W.2.1)) z⟩
  · intro D p pre s hD hp hI hj
    refine b_X12_first_64 ?_
    rw [hI.1.R 3526 rfl, hM.1.2]
    exact ⟨fun z => absurd ((len (by omega) (by omega)).mp z) (by omega), fun _ => hj⟩
  · intro D p pre s hD hp hI hj
    refine b_X12_first_76 (by omega) ?_
    rw [hI.1.R 3526 rfl, hM.1.2, nI_1 p]
    exact ⟨fun _ => hj, fun z => absurd ((len (by omega) (by omega)).mpr (Nat.le_refl W.2.1)) z⟩
  · intro D p q pre s hD hp hq hI
    obtain ⟨fI, hno⟩ := hI
    have hMs := hM.fr fI rfl rfl
    constructor
    · intro hc hs hn
      obtain ⟨suf, hs⟩ := hs
      have htm : (D, p, q) ∈ mvs W a0 := by
        rw [← hs]
        exact List.mem_append_right _ List.mem_cons_self
      refine b_X12_first_76 (by omega) ?_
      rw [fI.R 3526 rfl, hM.1.2, fI.R 3529 rfl, e29, nI_1 q]
      refine ⟨fun z => absurd ((len (by omega) (by omega)).mp z) (by omega), fun _ => m_can (by omega) hW hMs ha hD hp hq (fun _ => ⟨fun _ => ?_, fun z => absurd z (by decide)⟩) (fun z => by rw [hc] at z; cases z)⟩
      have sw := i_swM h7 ha hp hq
      rw [fI.R 3529 rfl, e29, sw]
      have hc2 : nxt W.2.1 a0 (D, p, q) < 4 ^ W.2.1 := swp_lt
      refine m_allD (gr := none) (a0 := nxt W.2.1 a0 (D, p, q)) (by omega) hW hMs (fun z hz => by cases hz) (fun c hc => by rw [fI.R 3561 rfl, fI.R 3562 rfl]; exact hG c hc) hc2 (fun τ fτ e63 => ?_)
      rw [gW_none] at e63
      rw [e63]
      have e1 : nI y.2.1 - 1 = nI (y.2.1 - 1) := by
        have := nI_pred (y.2.1 - 1)
        rw [show y.2.1 - 1 + 1 = y.2.1 by omega] at this
        exact this
      rw [e1]
      have fT : Fr [3560, 3563] [76, 77] σ0 τ := (fI.tr fτ).mono (by simp) (by simp)
      have em : 100 * nI D + 10 * nI p + nI q = nI (mcode (D, p, q)) := by
        rw [show (100 : Int32) = nI 100 from rfl, show (10 : Int32) = nI 10 from rfl, pk_mul, pk_mul, nI_add, nI_add]
        rfl
      rw [em]
      by_cases e : (D, p, q) = t0
      · rw [← e] at q3
        rw [fstD_yes q3, q4]
        refine ⟨fun z => absurd rfl z, fun _ => ?_⟩
        rw [e, ← q2]
        exact H τ fT
      · have hlt : mcode (D, p, q) < mcode t0 := by
          rw [← hs] at q1 srt
          rcases List.mem_append.mp q1 with w | w
          · exact absurd w hno
          · rcases List.mem_cons.mp w with w | w
            · exact absurd w.symm e
            · exact (List.pairwise_cons.mp (List.pairwise_append.mp srt).2.1).1 t0 w
        have hne : ¬ dM (fstD G (bf0 W (nxt W.2.1 a0 (D, p, q)))) = nI (y.2.1 - 1) := by
          rcases fst_or G (bf0 W (nxt W.2.1 a0 (D, p, q))) with w | ⟨g3, w⟩
          · rw [fstD_no w]
            exact fun z => neg1_ne (by omega) z.symm
          · rw [fstD_yes w]
            have := q5 _ htm hlt g3 w
            have dl := bf0_dlt hW hc2 (fst_mem w)
            exact fun z => this (nI_inj (by omega) (by omega) z)
        refine ⟨fun _ => hn τ ⟨fT, fun z => ?_⟩, fun z => absurd z hne⟩
        rcases List.mem_append.mp z with w | w
        · exact hno w
        · exact e (List.mem_singleton.mp w).symm
    · intro hc hn
      refine b_X12_first_76 (by omega) ?_
      rw [fI.R 3526 rfl, hM.1.2, fI.R 3529 rfl, e29, nI_1 q]
      exact ⟨fun z => absurd ((len (by omega) (by omega)).mp z) (by omega), fun _ => m_can (by omega) hW hMs ha hD hp hq (fun z => by rw [hc] at z; cases z) (fun _ => ⟨fun z => absurd rfl z, fun _ => hn s ⟨fI, hno⟩⟩)⟩
  · intro s hI
    exact absurd q1 hI.2
end FirstM
section PFirst
variable {l : Launch} {g : am_G} {d : Nat} {σ : am_S}
theorem P_first (hd : 300 ≤ d) (hR : R σ) (x1 : Int32) (x2 : Int32) : PP l g d M_X11_first M_X12_first [.int x1, .int x2] σ := by
  intro K hk
  have old := hR
  obtain ⟨nr, nd, n, pl, nt, dn, un, nb, nq, hRR⟩ := hR
  have hH := hRR.1
  have hF := hRR.2.2.2.2.2.2.2.2
  obtain ⟨o, hL⟩ := R_tl_of hRR.2.2.2.2.2.2.2.1
  obtain ⟨H1, H2, H3⟩ := hH.1
  have hW : wd_ok (wld σ o nd n 0 (rg σ 67) 0) := wld_ok hH.W
  have ha := a_lt hH
  refine b_X11_first_0 (by omega) ?_
  rw [hH.2.2.2.1.1, hH.2.1.1]
  refine ⟨fun c1 => ?_, fun c1 => ?_⟩
  · obtain ⟨s, r, hg⟩ := (gC H3 H1).mp c1
    obtain ⟨e1, e2, hs0, hsn, hrr⟩ := id hg
    have s31 : s < 2 ^ 31 := Nat.lt_of_lt_of_le hsn (Nat.pow_le_pow_right (by decide) (by omega))
    have gm := (gM H3 H1).mpr ⟨s, r, hg⟩
    refine c_weigh (tn := 0) (by omega) hH.W hL (by omega) (fun τ hτ hC => ?_)
    have hRR1 := R_srch hRR (hτ.1.mono (by decide) (by decide)) (hF.fr hτ.1 rfl rfl)
    -- the reference as far as its own walk
    have ref : ∀ (υ : am_S) (K2 : Int32 → am_S → Prop), Fr SRg SAr σ υ → R_F υ → ((noG (gl s r) (bf0 (wld σ o nd n 0 (rg σ 67) 0) (enc pl n)) → ∀ ω, R ω → K2 (-2) ω) ∧ ∀ y, fstG (gl s r) (bf0 (wld σ o nd n 0 (rg σ 67) 0) (enc pl n)) y → (y.2.1 = 0 → ∀ ω, R ω → K2 (-5) ω) ∧ (1 ≤ y.2.1 → ∀ ω, R ω → K2 (nI y.2.2) ω)) → CI l g M_X12_first d [.ref 55, .int x1, .int x2] υ K2 := by
      intro υ K2 fr hFυ hK
      have hRR2 := R_srch hRR fr hFυ
      have hH2 := hRR2.1
      have hL2 := R_tl.fr fr rfl rfl hL
      refine b_X12_first_0 (by omega) ?_
      rw [hH2.2.2.2.1.2, hH2.2.1.2]
      refine ⟨fun _ => ?_, fun z => absurd gm z⟩
      rw [e1, e2]
      refine m_now (by omega) hH2.W hL2 (fun ω fω hM => ?_)
      rw [wld_fr fr rfl rfl, fr.R 67 rfl] at hM
      have hRR3 := R_srch hRR2 (fω.mono (by decide) (by decide)) (hFυ.fr fω rfl rfl)
      refine m_goal hRR3.1.2.2.2.1.2 H3 hsn (by omega) (fun ψ fψ hG => ?_)
      have hRR4 := R_srch hRR3 (fψ.mono (by decide) (by decide)) (hRR3.2.2.2.2.2.2.2.2.fr fψ rfl rfl)
      rw [hRR4.1.2.2.2.2.2.2.2.2.2]
      refine m_allD (gr := none) (W := wld σ o nd n 0 (rg σ 67) 0) (by omega) hW (hM.fr fψ rfl rfl) (fun z hz => by cases hz) hG ha (fun ζ fζ e63 => ?_)
      have hRR5 := R_srch hRR4 (fζ.mono (by decide) (by decide)) (hRR4.2.2.2.2.2.2.2.2.fr fζ rfl rfl)
      rw [gW_none] at e63
      rw [e63]
      rcases fst_or (gl s r) (bf0 (wld σ o nd n 0 (rg σ 67) 0) (enc pl n)) with q | ⟨y, q⟩
      · rw [fstD_no q]
        exact ⟨fun _ => ⟨fun z => absurd z (by decide), fun _ => hK.1 q ζ hRR5.R⟩, fun z => absurd z (by decide)⟩
      · have yl := bf0_dlt hW ha (fst_mem q)
        rw [fstD_yes q]
        refine ⟨fun z => ⟨fun _ => ?_, fun w => absurd (nneg (by omega)) w⟩, fun z => (hK.2 y q).1 (nI_inj (b := 0) (by omega) (by omega) z) ζ hRR5.R⟩
        have y1 : 1 ≤ y.2.1 := by
          rcases Nat.eq_zero_or_pos y.2.1 with w | w
          · rw [w] at z
            exact absurd rfl z
          · exact w
        refine m_first (W := wld σ o nd n 0 (rg σ 67) 0) (a0 := enc pl n) (G := gl s r) (by omega) hW ((hM.fr fψ rfl rfl).fr fζ rfl rfl) ha hRR5.1.2.2.2.2.2.2.2.2.2 (fun c hc => by rw [fζ.R 3561 rfl, fζ.R 3562 rfl]; exact hG c hc) q y1 (fun χ fχ => (hK.2 y q).2 y1 χ ?_)
        exact (R_srch hRR5 (fχ.mono (by decide) (by decide)) (hRR5.2.2.2.2.2.2.2.2.fr fχ rfl rfl)).R
    rw [e1, e2] at ref
    rw [e1, e2]
    refine c_arr hRR1.1 (c_pat s31 (c_pat s31 ?_))
    refine c_find (W := wld σ o nd n 0 (rg σ 67) 0) (G := gl s r) (by omega) hW hC hRR1.2.2.2.2.2.2.2.2 ha (gl_C (by omega)) (fun υ u y h1 h2 h3 h4 => ?_) (fun υ h1 h2 => ?_)
    · have hB := (bf0_BI hW ha).ext h1
      have hl := hB.len H3
      rw [List.length_append] at hl
      have hl : u.length + 1 ≤ 630 := hl
      obtain ⟨k1, k2⟩ := fst_key hW ha h1
      have hy := fst_of_ext h1 h2 h3
      have yu : ∀ y2, fstG (gl s r) (bf0 (wld σ o nd n 0 (rg σ 67) 0) (enc pl n)) y2 → y2.2.1 = y.2.1 := by
        intro y2 h
        have := fstD_yes h
        rw [fstD_yes hy] at this
        exact (Option.some.inj this).symm
      have fr : Fr SRg SAr σ υ := (hτ.1.tr h4.1).mono (by decide) (by decide)
      have hyu : (u ++ [y])[u.length]? = some y := by
        rw [List.getElem?_append_right (Nat.le_refl _), Nat.sub_self]
        rfl
      rw [nI_clamp (n := u.length) (by omega), (h4.2.2.1 _ y hyu).2.2]
      refine ⟨fun _ => ⟨fun z => ⟨vp_in_nI (by omega) (by omega), ?_⟩, fun z => ?_⟩, fun z => absurd (nneg (by omega)) z⟩
      · have u0 : ¬ u.length = 0 := fun w => by rw [w] at z; exact absurd rfl z
        refine ref υ _ fr (h4.2.RF H3 hB) ⟨fun q => ?_, fun y2 hy2 => ⟨fun q => ?_, fun q ω hω => ?_⟩⟩
        · have := fstD_yes hy
          rw [fstD_no q] at this
          cases this
        · rw [yu y2 hy2] at q
          exact absurd (k1.mpr q) u0
        · have : y2.2.2 = y.2.2 := by
            have e : y2 = y := by
              obtain ⟨a1, b1, c1, d1, f1⟩ := hy
              obtain ⟨a2, b2, c2, d2, f2⟩ := hy2
              rw [c1] at c2
              rcases Nat.lt_trichotomy a1.length a2.length with w | w | w
              · have m1 : (a1 ++ y :: b1)[a1.length]? = some y := by
                  rw [List.getElem?_append_right (Nat.le_refl _), Nat.sub_self]
                  rfl
                rw [c2, List.getElem?_append_left w] at m1
                have := f2 y (List.mem_of_getElem? m1)
                rw [d1] at this
                cases this
              · have m1 : (a1 ++ y :: b1)[a1.length]? = some y := by
                  rw [List.getElem?_append_right (Nat.le_refl _), Nat.sub_self]
                  rfl
                rw [c2, w, List.getElem?_append_right (Nat.le_refl _), Nat.sub_self] at m1
                exact Option.some.inj m1
              · have m1 : (a2 ++ y2 :: b2)[a2.length]? = some y2 := by
                  rw [List.getElem?_append_right (Nat.le_refl _), Nat.sub_self]
                  rfl
                rw [← c2, List.getElem?_append_left w] at m1
                have := f1 y2 (List.mem_of_getElem? m1)
                rw [d2] at this
                cases this
            rw [e]
          rw [this]
          exact hk _ _ hω
      · have u0 : u.length = 0 := nI_inj (b := 0) (by omega) (by omega) z
        refine ref υ _ fr (h4.2.RF H3 hB) ⟨fun q => ?_, fun y2 hy2 => ⟨fun q ω hω => hk _ _ hω, fun q => ?_⟩⟩
        · have := fstD_yes hy
          rw [fstD_no q] at this
          cases this
        · rw [yu y2 hy2, k1.mp u0] at q
          exact absurd q (by decide)
    · have fr : Fr SRg SAr σ υ := (hτ.1.tr h2.1).mono (by decide) (by decide)
      refine ⟨fun z => absurd z (by decide), fun _ => ref υ _ fr (h2.2.RF H3 (bf0_BI hW ha)) ⟨fun _ ω hω => hk _ _ hω, fun y hy => ?_⟩⟩
      have := fstD_yes hy
      rw [fstD_no h1] at this
      cases this
  · refine b_X12_first_0 (by omega) ?_
    rw [hH.2.2.2.1.2, hH.2.1.2]
    exact ⟨fun c2 => absurd ((gC H3 H1).mpr ((gM H3 H1).mp c2)) c1, fun _ => hk _ _ old⟩
end PFirst
