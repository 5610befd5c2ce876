/-! who can be where; seen; judged -/
theorem fstD_congr {G G2 : Nat → Bool} : ∀ {L : List En}, (∀ e ∈ L, G e.1 = G2 e.1) → fstD G L = fstD G2 L
  | [], _ => rfl
  | e :: r, h => by
    unfold fstD
    rw [h e List.mem_cons_self, fstD_congr (fun x hx => h x (List.mem_cons_of_mem _ hx))]
def cbI (p : Nat) : List En → Int32 → Int32
  | [], x => x
  | e :: r, x => cbI p r (x ||| ((1 : Int32) <<< (nI (rmN e.1 p) &&& 31)))
section CanBe
variable {l : Launch} {g : am_G} {σ0 : am_S} {W : Wd} {a0 : Nat}
theorem c_spread {d : Nat} {k : am_S → Prop} (hd : 4 ≤ d) (hW : wd_ok W) (hC : WC W σ0) (hF : R_F σ0) (ha : a0 < 4 ^ W.2.1) (H : ∀ τ, FS σ0 τ (bf0 W a0) → k τ) : CV l g M_X7_spreadOut d [.ref 19, .ref 14, .int (nI a0)] σ0 k := by
  refine b_X7_spreadOut_0 (by omega) (c_find (G := fun _ => false) (by omega) hW hC hF ha (fun c hc => ⟨fun q => ?_, fun q => by cases q⟩) (fun τ u y h1 h2 h3 h4 => by cases h3) (fun τ _ h => H τ h))
  rw [Int32.and_zero] at q
  exact absurd q (by decide)
theorem m_spread {d : Nat} {k : am_S → Prop} (hd : 4 ≤ d) (hW : wd_ok W) (hM : WM W σ0) (ha : a0 < 4 ^ W.2.1) (e29 : rg σ0 3529 = nI a0) (H : ∀ τ, Fr [3560, 3561, 3562, 3563] [76, 77] σ0 τ → MF (fun _ => false) τ (bf0 W a0) → k τ) : CV l g M_X12_noGoal (d - 1) [.ref 55] σ0 (fun σ3 => CV l g M_X12_findAll (d - 1) [.ref 55, .int (rg σ3 3529), .int (-1)] σ3 k) := by
  refine b_X12_noGoal_0 ?_
  have e29 : rg (sR (sR σ0 3561 0) 3562 (-1)) 3529 = nI a0 := e29
  rw [e29]
  refine m_findAll (gr := none) (G := fun _ => false) (by omega) hW (hM.fr (Fr.rf.wR.wR) rfl rfl) (fun z hz => by cases hz) (fun c hc => ⟨fun q => ?_, fun q => by cases q⟩) ha (fun τ hτ => ?_)
  · have q : nI c &&& 0 = -1 := q
    rw [Int32.and_zero] at q
    exact absurd q (by decide)
  · rw [gW_none] at hτ
    exact H τ (((Fr.rf.wR.wR).tr hτ.1).mono (by decide) (by decide)) hτ.2
theorem c_cb51 {d p : Nat} {B : List En} {σ : am_S} {k : Int32 → am_S → Prop} (hd : 1 ≤ d) (hp : p < 7) {n : Nat} (hn : n ≤ 7) (hS : CS σ B) (hB : BI n a0 B) : ∀ (suf pre : List En) (x : Int32), B = pre ++ suf → k (cbI p suf x) σ → JI l g M_X11_canBe d 51 [(0, .ref 0), (1, .int (nI p)), (2, .int x), (3, .int (nI pre.length))] [] σ k := by
  have hl := hB.len hn
  intro suf
  induction suf with
  | nil =>
    intro pre x e H
    rw [List.append_nil] at e
    refine b_X11_canBe_51 hd ?_
    rw [hS.1, e]
    rw [e] at hl
    exact ⟨fun _ => H, fun q => absurd ((len (by omega) (by omega)).mpr (Nat.le_refl _)) q⟩
  | cons e1 suf ih =>
    intro pre x e H
    have hat : B[pre.length]? = some e1 := by
      rw [e, List.getElem?_append_right (Nat.le_refl _), Nat.sub_self]
      rfl
    have hlt := (List.getElem?_eq_some_iff.mp hat).1
    have hc := (hB.2 e1 (List.mem_of_getElem? hat)).1
    refine b_X11_canBe_51 hd ?_
    rw [hS.1, nI_clamp (n := pre.length) (by omega), (hS.2.1 _ e1 hat).1, i_room hn hc hp, nI_1]
    refine ⟨fun q => absurd ((len (by omega) (by omega)).mp q) (by omega), fun _ => ⟨vp_in_nI (by omega) (by omega), fun y ey => ?_⟩⟩
    rw [ey]
    have := ih (pre ++ [e1]) _ (by rw [e]; simp) H
    rw [show (pre ++ [e1]).length = pre.length + 1 by simp] at this
    exact this
theorem m_cb31 {d p : Nat} {G : Nat → Bool} {B : List En} {σ : am_S} {k : Int32 → am_S → Prop} (hd : 1 ≤ d) (hp : p < 7) {n : Nat} (hn : n ≤ 7) (hS : MF G σ B) (hB : BI n a0 B) : ∀ (suf pre : List En) (x : Int32), B = pre ++ suf → k (cbI p suf x) σ → JI l g M_X12_canBe d 31 [(0, .ref 55), (1, .int (nI p)), (2, .int x), (3, .int (nI pre.length))] [] σ k := by
  have hl := hB.len hn
  intro suf
  induction suf with
  | nil =>
    intro pre x e H
    rw [List.append_nil] at e
    refine b_X12_canBe_31 hd ?_
    rw [hS.1, e]
    rw [e] at hl
    exact ⟨fun _ => H, fun q => absurd ((len (by omega) (by omega)).mpr (Nat.le_refl _)) q⟩
  | cons e1 suf ih =>
    intro pre x e H
    have hat : B[pre.length]? = some e1 := by
      rw [e, List.getElem?_append_right (Nat.le_refl _), Nat.sub_self]
      rfl
    have hlt := (List.getElem?_eq_some_iff.mp hat).1
    have hc := (hB.2 e1 (List.mem_of_getElem? hat)).1
    refine b_X12_canBe_31 hd ?_
    rw [hS.1, nI_clamp (n := pre.length) (by omega), (hS.2.1 _ e1 hat).1, i_room hn hc hp, nI_1]
    refine ⟨fun q => absurd ((len (by omega) (by omega)).mp q) (by omega), fun _ => ⟨vp_in_nI (by omega) (by omega), fun y ey => ?_⟩⟩
    rw [ey]
    have := ih (pre ++ [e1]) _ (by rw [e]; simp) H
    rw [show (pre ++ [e1]).length = pre.length + 1 by simp] at this
    exact this
theorem m_rowF {d s nb : Nat} {σ : am_S} {k : Int32 → am_S → Prop} (hs : s < 6) (hnb : nb ≤ 50) (h : R_S1 σ nb s) (h1 : ar σ 81 s = -1 → k (-11) σ) (h2 : ∀ b, b < nb → ar σ 81 s = nI b → k (-12) σ) (h3 : ∀ so n, so ≠ 0 → RowS σ s so n → k (-12) σ) (h4 : ∀ n, RowS σ s 0 n → k 0 σ) : CI l g M_X12_rowFault d [.ref 55, .int (nI s)] σ k := by
  have vs : vp_in (nI s) 6 := vp_in_nI hs (by omega)
  refine b_X12_rowFault_0 ?_
  rw [nI_clamp (n := s) (by omega)]
  rcases h with ⟨-, -, -, e⟩ | ⟨b, hb, -, -, -, e⟩ | ⟨so, n, q1, q2, q3, q4, q5, q6, q7, q8⟩
  · exact ⟨vs, fun z => absurd e z, fun _ => h1 e⟩
  · have n1 : ¬ nI b = -1 := neg1_ne (by omega)
    have n2 : ¬ nI b = -2 := fun z => by
      have := nneg (n := b) (by omega)
      rw [z] at this
      exact absurd this (by decide)
    refine ⟨vs, fun _ => ⟨vs, fun _ => h2 b hb e, fun z => absurd (e.symm.trans z) n2⟩, fun z => absurd (e.symm.trans z) n1⟩
  · have m2 := m2lt q1
    refine ⟨vs, fun _ => ⟨vs, fun z => ?_, fun z => ?_⟩, fun z => absurd (q6.symm.trans z) m2.2.1⟩
    · refine h3 so n (fun w => z ?_) ⟨q1, q2, q3, q4, q5, q6, q7, q8⟩
      rw [q6, w]
      rfl
    · have : so = 0 := by
        rw [q6] at z
        have e := m2.2.2.2
        rw [z] at e
        exact (nI_inj (a := 0) (by omega) (by omega) e).symm
      subst this
      exact h4 n ⟨q1, q2, q3, q4, q5, q6, q7, q8⟩
end CanBe
section PCan
variable {l : Launch} {g : am_G} {d : Nat} {σ : am_S}
theorem P_canBe (hd : 300 ≤ d) (hR : R σ) (x1 : Int32) : PP l g d M_X11_canBe M_X12_canBe [.int x1] σ := by
  intro K hk
  have old := hR
  obtain ⟨nr, nd, n, pl, nt, dn, un, nb, nq, hRR⟩ := hR
  have hH := hRR.1
  have hF := hRR.2.2.2.2.2.2.2.2
  obtain ⟨o, hL⟩ := R_tl_of hRR.2.2.2.2.2.2.2.1
  obtain ⟨H1, H2, H3⟩ := hH.1
  have hW : wd_ok (wld σ o nd n 0 (rg σ 67) 0) := wld_ok hH.W
  have ha := a_lt hH
  have hB := bf0_BI hW ha
  refine b_X11_canBe_0 (by omega) ?_
  rw [hH.2.2.2.1.1]
  refine ⟨fun c1 => ?_, fun c1 => ?_⟩
  · obtain ⟨p, hp, e1⟩ := (cA (by omega)).mp c1
    refine c_weigh (tn := 0) (by omega) hH.W hL (by omega) (fun τ hτ hC => ?_)
    have hRR1 := R_srch hRR (hτ.1.mono (by decide) (by decide)) (hF.fr hτ.1 rfl rfl)
    refine c_arr hRR1.1 (c_spread (W := wld σ o nd n 0 (rg σ 67) 0) (by omega) hW hC hRR1.2.2.2.2.2.2.2.2 ha (fun υ hυ => ?_))
    have fr : Fr SRg SAr σ υ := (hτ.1.tr hυ.1).mono (by decide) (by decide)
    have hFυ := hυ.2.RF H3 hB
    have hRR2 := R_srch hRR fr hFυ
    have hH2 := hRR2.1
    rw [e1]
    refine c_cb51 (by omega) (by omega) H3 hυ.2 hB _ [] 0 rfl ?_
    refine b_X12_canBe_0 (by omega) ?_
    rw [hH2.2.2.2.1.2]
    refine ⟨fun _ => ?_, fun z => absurd ((cB (by omega)).mpr ⟨p, hp, rfl⟩) z⟩
    refine m_now (by omega) hH2.W (R_tl.fr fr rfl rfl hL) (fun ω fω hM => ?_)
    rw [wld_fr fr rfl rfl, fr.R 67 rfl] at hM
    have hRR3 := R_srch hRR2 (fω.mono (by decide) (by decide)) (hFυ.fr fω rfl rfl)
    refine m_spread (W := wld σ o nd n 0 (rg σ 67) 0) (by omega) hW hM ha hRR3.1.2.2.2.2.2.2.2.2.2 (fun ζ fζ hMF => ?_)
    refine m_cb31 (by omega) (by omega) H3 hMF hB _ [] 0 rfl ?_
    exact hk _ _ (R_srch hRR3 (fζ.mono (by decide) (by decide)) (hRR3.2.2.2.2.2.2.2.2.fr fζ rfl rfl)).R
  · refine b_X12_canBe_0 (by omega) ?_
    rw [hH.2.2.2.1.2]
    exact ⟨fun c2 => absurd ((cA (by omega)).mpr ((cB (by omega)).mp c2)) c1, fun _ => hk _ _ old⟩
end PCan
