/-! a told row of rooms; a told evening -/
/-- a room is told at j -/
def okRm (v : Nat → Int32) (nr j : Nat) : Prop := ∃ r, r < nr ∧ v j = nI r
def rmV (v : Nat → Int32) (j : Nat) : Nat := (v j).toNatClampNeg
theorem rmV_eq {v : Nat → Int32} {nr j : Nat} (hr : nr ≤ 4) (h : okRm v nr j) : rmV v j < 4 ∧ v j = nI (rmV v j) := by
  obtain ⟨r, h1, h2⟩ := h
  have : rmV v j = r := by
    unfold rmV
    rw [h2, nI_clamp (by omega)]
  rw [this]
  exact ⟨by omega, h2⟩
section Seen
variable {l : Launch} {g : am_G} {σ : am_S} {nr nd n nt dn un nb nq s : Nat} {pl : Nat → Nat} {o : Option (List Lin)}
theorem c_seen50 {d m : Nat} {x1 x3 : Int32} {v : Nat → Int32} {k : Int32 → am_S → Prop} (hd : 9 ≤ d) (hs : s < 6) (hRR : RR σ nr nd n pl nt dn un nb nq) (hL : R_tl σ o) (hm : n ≤ m) (hm2 : m ≤ 60) (elen : rg σ (64 * (43 + 2 * s) + 2) = nI m) (ev : ∀ j, j < m → (lr σ (44 + 2 * s) j).toInt32 = v j)
    (H1 : (∀ j, j < n → okRm v nr j) → ∀ υ, Fr SRg SAr σ υ → R_F υ → k (dC (fstD (fun c => decide (c = enc (rmV v) n)) (bf0 (wld σ o nd n 0 (rg σ 67) 0) (enc pl n)))) υ) (H0 : (∃ j, j < n ∧ ¬ okRm v nr j) → k (-2) σ) :
    ∀ (q p : Nat), p + q = n → (∀ j, j < p → okRm v nr j) → JI l g M_X11_seen d 50 [(0, .ref 0), (1, .int x1), (2, .ref (43 + 2 * s)), (3, .int x3), (4, .int (nI (enc (rmV v) p))), (5, .int (nI p))] [] σ k
  | 0, p, e, ho => by
    have hH := hRR.1
    obtain ⟨h4, h5, h7⟩ := hH.1
    have e : p = n := by omega
    subst e
    have hW : wd_ok (wld σ o nd p 0 (rg σ 67) 0) := wld_ok hH.W
    refine b_X11_seen_50 hs (by omega) ?_
    rw [hH.2.2.2.1.1]
    refine ⟨fun _ => c_weigh (tn := 0) (by omega) hH.W hL (by omega) (fun τ hτ hC => ?_), fun z => absurd ((len (by omega) (by omega)).mpr (Nat.le_refl _)) z⟩
    have hRR1 := R_srch hRR (hτ.1.mono (by decide) (by decide)) (hRR.2.2.2.2.2.2.2.2.fr hτ.1 rfl rfl)
    have he : enc (rmV v) p < 4 ^ p := enc_lt (fun j hj => (rmV_eq h4 (ho j hj)).1)
    have he2 := lt7 h7 he
    refine c_arr hRR1.1 (c_fewD (W := wld σ o nd p 0 (rg σ 67) 0) (G := fun c => decide (c = enc (rmV v) p)) (by omega) hW hC hRR1.2.2.2.2.2.2.2.2 (a_lt hH) (fun c hc => ?_) (fun υ fυ hFυ => H1 ho υ ((hτ.1.tr fυ).mono (by decide) (by decide)) hFυ))
    rw [Int32.and_neg_one, decide_eq_true_iff]
    exact ⟨fun z => nI_inj (by omega) (by omega) z, fun z => by rw [z]⟩
  | q + 1, p, e, ho => by
    have hH := hRR.1
    obtain ⟨h4, h5, h7⟩ := hH.1
    refine b_X11_seen_50 hs (by omega) ?_
    rw [hH.2.2.2.1.1]
    refine ⟨fun z => absurd ((len (by omega) (by omega)).mp z) (by omega), fun _ => b_X8_at_0 hs ?_⟩
    rw [elen, nI_clamp (n := p) (by omega), hH.2.1.1]
    refine ⟨fun z => absurd z (nI_pos (by omega)), fun _ => ⟨fun z => absurd ((len (by omega) (by omega)).mp z) (by omega), fun _ => ⟨vp_in_nI (by omega) (by omega), ?_⟩⟩⟩
    rw [ev p (by omega)]
    refine ⟨fun c => ?_, fun c => H0 ⟨p, by omega, fun z => c ((cA (by omega)).mpr z)⟩⟩
    have hok : okRm v nr p := (cA (by omega)).mp c
    have hr := rmV_eq h4 hok
    rw [hr.2, enc_or (by omega) (fun j hj => (rmV_eq h4 (ho j hj)).1) hr.1, nI_1]
    refine c_seen50 hd hs hRR hL hm hm2 elen ev H1 H0 q (p + 1) (by omega) (fun j hj => ?_)
    by_cases z : j = p
    · rw [z]
      exact hok
    · exact ho j (by omega)
theorem m_seen60 {d m : Nat} {v : Nat → Int32} {k : Int32 → am_S → Prop} (hd : 9 ≤ d) (hs : s < 6) (hRR : RR σ nr nd n pl nt dn un nb nq) (hL : R_tl σ o) (hm : n ≤ m) (hm2 : m ≤ 60) (ev : ∀ j, j < m → (lr σ 83 (60 * s + j)).toInt32 = v j)
    (H1 : (∀ j, j < n → okRm v nr j) → ∀ υ, Fr SRg SAr σ υ → R_F υ → k (dC (fstD (fun c => decide (c = enc (rmV v) n)) (bf0 (wld σ o nd n 0 (rg σ 67) 0) (enc pl n)))) υ) (H0 : (∃ j, j < n ∧ ¬ okRm v nr j) → ∀ υ, Fr SRg SAr σ υ → R_F υ → k (-2) υ) :
    ∀ (q p : Nat) (τ : am_S), p + q = n → (∀ j, j < p → okRm v nr j) → Fr [3561, 3562] [] σ τ → rg τ 3561 = nI (4 ^ n - 1) → rg τ 3562 = nI (enc (rmV v) p) → JI l g M_X12_seen d 60 [(0, .ref 55), (1, .int (nI s)), (2, .int (nI p))] [] τ k
  | 0, p, τ, e, ho, fr, e61, e62 => by
    have hH := hRR.1
    obtain ⟨h4, h5, h7⟩ := hH.1
    have e : p = n := by omega
    subst e
    have hW : wd_ok (wld σ o nd p 0 (rg σ 67) 0) := wld_ok hH.W
    have hRR1 := R_srch hRR (fr.mono (by decide) (by decide)) (hRR.2.2.2.2.2.2.2.2.fr fr rfl rfl)
    have he : enc (rmV v) p < 4 ^ p := enc_lt (fun j hj => (rmV_eq h4 (ho j hj)).1)
    have he2 := lt7 h7 he
    have p4 : 4 ^ p ≤ 16384 := Nat.le_trans (Nat.pow_le_pow_right (by decide) h7) (by decide)
    have p0 : 0 < 4 ^ p := Nat.pow_pos (by decide)
    refine b_X12_seen_60 (by omega) ?_
    rw [hRR1.1.2.2.2.1.2]
    refine ⟨fun _ => m_now (by omega) hRR1.1.W (R_tl.fr fr rfl rfl hL) (fun ω fω hM => ?_), fun z => absurd ((len (by omega) (by omega)).mpr (Nat.le_refl _)) z⟩
    rw [wld_fr fr rfl rfl, fr.R 67 rfl] at hM
    have hRR2 := R_srch hRR1 (fω.mono (by decide) (by decide)) (hRR1.2.2.2.2.2.2.2.2.fr fω rfl rfl)
    rw [hRR2.1.2.2.2.2.2.2.2.2.2]
    refine m_allD (gr := none) (G := fun c => decide (c % 4 ^ p = enc (rmV v) p)) (W := wld σ o nd p 0 (rg σ 67) 0) (by omega) hW hM (fun z hz => by cases hz) (fun c hc => ?_) (a_lt hH) (fun ζ fζ e63 => ?_)
    · rw [fω.R 3561 rfl, fω.R 3562 rfl, e61, e62, i_and, show 4 ^ p - 1 = 2 ^ (2 * p) - 1 by rw [pow42], Nat.and_two_pow_sub_one_eq_mod, ← pow42, decide_eq_true_iff]
      have := Nat.mod_lt c p0
      exact ⟨fun z => nI_inj (by omega) (by omega) z, fun z => by rw [z]⟩
    · rw [gW_none] at e63
      have hB := bf0_BI hW (a_lt hH)
      rw [fstD_congr (G2 := fun c => decide (c = enc (rmV v) p)) (fun e he => by
        have := (hB.2 e he).1
        have this : e.1 < 4 ^ p := this
        show decide (e.1 % 4 ^ p = _) = _
        rw [Nat.mod_eq_of_lt this])] at e63
      have fZ : Fr SRg SAr σ ζ := ((fr.tr fω).tr fζ).mono (by decide) (by decide)
      have := H1 ho ζ fZ (hRR2.2.2.2.2.2.2.2.2.fr fζ rfl rfl)
      rw [e63]
      revert this
      have lt : ∀ dd, fstD (fun c => decide (c = enc (rmV v) p)) (bf0 (wld σ o nd p 0 (rg σ 67) 0) (enc pl p)) = some dd → dd < 630 := fun dd h => fstD_lt (W := wld σ o nd p 0 (rg σ 67) 0) hW (a_lt hH) h
      revert lt
      generalize fstD (fun c => decide (c = enc (rmV v) p)) (bf0 (wld σ o nd p 0 (rg σ 67) 0) (enc pl p)) = f
      intro lt this
      cases f with
      | none => exact ⟨fun z => absurd (show 0 ≤ dM none from z) (by decide), fun _ => this⟩
      | some f =>
        have := lt f rfl
        exact ⟨fun _ => by assumption, fun z => absurd (nneg (n := f) (by omega)) z⟩
  | q + 1, p, τ, e, ho, fr, e61, e62 => by
    have hH := hRR.1
    obtain ⟨h4, h5, h7⟩ := hH.1
    have hRR1 := R_srch hRR (fr.mono (by decide) (by decide)) (hRR.2.2.2.2.2.2.2.2.fr fr rfl rfl)
    obtain ⟨x1, x2⟩ := idx60 (i := p) (n := m) hs (by omega) hm2
    refine b_X12_seen_60 (by omega) ?_
    rw [hRR1.1.2.2.2.1.2, x2, fr.L 83 rfl, ev p (by omega), hRR1.1.2.1.2]
    refine ⟨fun z => absurd ((len (by omega) (by omega)).mp z) (by omega), fun _ => ⟨x1, fun c => ?_, fun c => H0 ⟨p, by omega, fun z => c ((cB (by omega)).mpr z)⟩ τ (fr.mono (by decide) (by decide)) hRR1.2.2.2.2.2.2.2.2⟩⟩
    have hok : okRm v nr p := (cB (by omega)).mp c
    have hr := rmV_eq h4 hok
    rw [e62, hr.2, enc_or (by omega) (fun j hj => (rmV_eq h4 (ho j hj)).1) hr.1, nI_1]
    refine m_seen60 hd hs hRR hL hm hm2 ev H1 H0 q (p + 1) _ (by omega) (fun j hj => ?_) ((fr.wR).mono (by simp) (by simp)) e61 rfl
    by_cases z : j = p
    · rw [z]
      exact hok
    · exact ho j (by omega)
end Seen
section PSeen
variable {l : Launch} {g : am_G} {d : Nat} {σ : am_S}
theorem P_seen (hd : 300 ≤ d) (hR : R σ) (x1 : Int32) : PP l g d M_X11_seen M_X12_seen [.int x1] σ := by
  intro K hk
  have old := hR
  obtain ⟨nr, nd, n, pl, nt, dn, un, nb, nq, hRR⟩ := hR
  have hH := hRR.1
  have hF := hRR.2.2.2.2.2.2.2.2
  have hS := hRR.2.2.2.2.2.2.1
  have hnb := hRR.2.2.2.2.2.1.1.1
  obtain ⟨o, hL⟩ := R_tl_of hRR.2.2.2.2.2.2.2.1
  obtain ⟨H1, H2, H3⟩ := hH.1
  have k1 : (¬ x1 < 0 ∧ ¬ 5 < x1) ↔ ∃ q, q < 6 ∧ x1 = nI q := cC (n := 6) 5 rfl (by omega)
  have k1' : (¬ x1 < 0 ∧ ¬ 6 ≤ x1) ↔ ∃ q, q < 6 ∧ x1 = nI q := cD (n := 6) 6 rfl (by omega)
  -- the reference where it is refused
  have no : ∀ (s : Nat) (v : Int32) (K2 : Int32 → am_S → Prop), s < 6 → x1 = nI s → v < 0 → (∀ k : Int32 → am_S → Prop, k v σ → CI l g M_X12_rowFault (d - 1) [.ref 55, .int (nI s)] σ k) → K2 v σ → CI l g M_X12_seen d [.ref 55, .int x1] σ K2 := by
    intro s v K2 hs e hv hk2 h
    refine b_X12_seen_0 (by omega) ⟨fun _ => ?_, fun z => absurd (k1.mpr ⟨s, hs, e⟩) z⟩
    rw [e]
    exact hk2 _ ⟨fun z => (Int32.lt_irrefl (Int32.lt_of_lt_of_le hv z)).elim, fun _ => hk2 _ h⟩
  refine b_X11_seen_0 (by omega) ⟨fun c => ?_, fun c => ?_⟩
  · obtain ⟨s, hs, e1⟩ := k1'.mp c
    have hcl : (nI s).toNatClampNeg = s := nI_clamp (by omega)
    rw [e1, hcl]
    refine ⟨vp_in_nI hs (by omega), c_bytes (by omega) hs hnb (hS s hs) (fun e81 => ?_) (fun b hb e81 => ?_) (fun so m hso hrow => ?_) (fun m hrow => ?_)⟩
    · refine ⟨fun z => absurd z (by decide), fun _ => ?_⟩
      rw [← e1]
      refine no s (-11) _ hs e1 (by decide) (fun k hk2 => m_rowF hs hnb (hS s hs) (fun _ => hk2) (fun b hb e => ?_) (fun so m _ hr => ?_) (fun m hr => ?_)) (hk _ _ old)
      · exact absurd (e.symm.trans e81) (neg1_ne (by omega))
      · exact absurd (hr.2.2.2.2.2.1.symm.trans e81) (m2lt hr.1).2.1
      · exact absurd (hr.2.2.2.2.2.1.symm.trans e81) (m2lt hr.1).2.1
    · refine ⟨fun z => absurd z (by decide), fun _ => ?_⟩
      rw [← e1]
      refine no s (-12) _ hs e1 (by decide) (fun k hk2 => m_rowF hs hnb (hS s hs) (fun e => ?_) (fun _ _ _ => hk2) (fun _ _ _ _ => hk2) (fun m hr => ?_)) (hk _ _ old)
      · exact absurd (e81.symm.trans e) (neg1_ne (by omega))
      · have := (m2lt hr.1).2.2.1
        rw [← hr.2.2.2.2.2.1, e81] at this
        exact absurd (nneg (by omega)) this
    · refine ⟨fun z => absurd z (by decide), fun _ => ?_⟩
      rw [← e1]
      refine no s (-12) _ hs e1 (by decide) (fun k hk2 => m_rowF hs hnb (hS s hs) (fun e => ?_) (fun _ _ _ => hk2) (fun _ _ _ _ => hk2) (fun m2 hr => ?_)) (hk _ _ old)
      · exact absurd (hrow.2.2.2.2.2.1.symm.trans e) (m2lt hrow.1).2.1
      · have h1 := hrow.2.2.2.1
        rw [hr.2.2.2.1] at h1
        exact absurd (nI_inj (a := 0) (by omega) (by have := hrow.1; omega) h1).symm hso
    · obtain ⟨q1, q2, q3, q4, q5, q6, q7, q8⟩ := id hrow
      have rf0 : ∀ {k : Int32 → am_S → Prop}, k 0 σ → CI l g M_X12_rowFault (d - 1) [.ref 55, .int (nI s)] σ k := by
        intro k hk2
        refine m_rowF hs hnb (hS s hs) (fun e => ?_) (fun b hb e => ?_) (fun so m2 hso hr => ?_) (fun _ _ => hk2)
        · exact absurd (q6.symm.trans e) (m2lt q1).2.1
        · have := (m2lt q1).2.2.1
          rw [← q6, e] at this
          exact absurd (nneg (by omega)) this
        · have h1 := hr.2.2.2.1
          rw [q4] at h1
          exact absurd (nI_inj (a := 0) (by omega) (by have := hr.1; omega) h1).symm hso
      refine ⟨fun _ => ?_, fun z => absurd rfl z⟩
      rw [hH.2.2.2.1.1, q5]
      -- the reference, begun
      have ref : ∀ (υ : am_S) (K2 : Int32 → am_S → Prop), Fr SRg SAr σ υ → R_F υ → (¬ n ≤ m → ∀ ω, R ω → K2 (-2) ω) → (n ≤ m → ((∀ j, j < n → okRm (fun j => (lr σ (44 + 2 * s) j).toInt32) nr j) → ∀ ω, R ω → K2 (dC (fstD (fun c => decide (c = enc (rmV (fun j => (lr σ (44 + 2 * s) j).toInt32)) n)) (bf0 (wld σ o nd n 0 (rg σ 67) 0) (enc pl n)))) ω) ∧ ((∃ j, j < n ∧ ¬ okRm (fun j => (lr σ (44 + 2 * s) j).toInt32) nr j) → ∀ ω, R ω → K2 (-2) ω)) → CI l g M_X12_seen d [.ref 55, .int (nI s)] υ K2 := by
        intro υ K2 fr hFυ hno hyes
        have hRR2 := R_srch hRR fr hFυ
        have hrow2 : RowS υ s 0 m := by
          have hr : ∀ f, f < 3 → 64 * (43 + 2 * s) + f ∉ SRg := by
            intro f hf z
            unfold SRg at z
            simp at z
            omega
          refine ⟨q1, q2, (fr.1 _ (hr 0 (by omega))).trans q3, (fr.1 _ (hr 1 (by omega))).trans q4, (fr.1 _ (hr 2 (by omega))).trans q5, ?_, ?_, ?_⟩
          · rw [fr.A 81 rfl]
            exact q6
          · rw [fr.A 82 rfl]
            exact q7
          · intro j hj
            have e44 : lr υ (44 + 2 * s) = lr σ (44 + 2 * s) := (fr.2 _ (by unfold SAr; simp; omega)).2
            rw [fr.L 83 rfl, e44]
            exact q8 j hj
        have hnb2 := hRR2.2.2.2.2.2.1.1.1
        refine b_X12_seen_0 (by omega) ⟨fun _ => ?_, fun z => absurd (k1.mpr ⟨s, hs, e1⟩) (by rw [e1]; exact z)⟩
        refine m_rowF hs hnb2 (hRR2.2.2.2.2.2.2.1 s hs) (fun e => ?_) (fun b hb e => ?_) (fun so m2 hso hr => ?_) (fun m2 hr2 => ⟨fun _ => ?_, fun z => absurd (by decide) z⟩)
        · exact absurd (hrow2.2.2.2.2.2.1.symm.trans e) (m2lt q1).2.1
        · have := (m2lt q1).2.2.1
          rw [← hrow2.2.2.2.2.2.1, e] at this
          exact absurd (nneg (by omega)) this
        · have h1 := hr.2.2.2.1
          rw [hrow2.2.2.2.1] at h1
          exact absurd (nI_inj (a := 0) (by omega) (by have := hr.1; omega) h1).symm hso
        · rw [hcl, hRR2.1.2.2.2.1.2, hrow2.2.2.2.2.2.2.1]
          refine ⟨vp_in_nI hs (by omega), fun c2 => ?_, fun c2 => hno (fun z => c2 ((len (by omega) (by omega)).mpr z)) υ hRR2.R⟩
          have hnm : n ≤ m := (len (by omega) (by omega)).mp c2
          have p4 : 4 ^ n ≤ 16384 := Nat.le_trans (Nat.pow_le_pow_right (by decide) H3) (by decide)
          have p0 : 0 < 4 ^ n := Nat.pow_pos (by decide)
          have e4 : ((1 : Int32) <<< ((2 * nI n) &&& 31)) - 1 = nI (4 ^ n - 1) := by
            have := i_shl (p := n) (by omega) 1 (by omega)
            rw [show (1 : Int32) = nI 1 from rfl, this, Nat.one_mul, ← pow42]
            have h := nI_pred (4 ^ n - 1)
            rw [show 4 ^ n - 1 + 1 = 4 ^ n by omega] at h
            exact h
          rw [e4]
          have hy := hyes hnm
          have hRR3 := R_srch hRR2 ((Fr.rf (σ := υ)).mono (by simp) (by simp)) hFυ
          refine m_seen60 (σ := υ) (o := o) (by omega) hs hRR2 (R_tl.fr fr rfl rfl hL) hnm q2 (v := fun j => (lr σ (44 + 2 * s) j).toInt32) (fun j hj => ?_) (fun ho ω fω hFω => ?_) (fun ho ω fω hFω => hy.2 ho ω (R_srch hRR2 fω hFω).R) n 0 _ (Nat.zero_add _) (fun j hj => absurd hj (Nat.not_lt_zero j)) ((Fr.rf.wR.wR).mono (by simp) (by simp)) rfl rfl
          · rw [hrow2.2.2.2.2.2.2.2 j hj]
            have e44 : lr υ (44 + 2 * s) = lr σ (44 + 2 * s) := (fr.2 _ (by unfold SAr; simp; omega)).2
            rw [e44]
          · have := hy.1 ho ω (R_srch hRR2 fω hFω).R
            rw [wld_fr fr rfl rfl, fr.R 67 rfl]
            exact this
      refine ⟨fun c2 => ?_, fun c2 => ?_⟩
      · have hnm : n ≤ m := (len (by omega) (by omega)).mp c2
        refine c_seen50 (by omega) hs hRR hL hnm q2 q5 (v := fun j => (lr σ (44 + 2 * s) j).toInt32) (fun j hj => rfl) (fun ho υ fυ hFυ => ?_) (fun ho => ?_) n 0 (Nat.zero_add _) (fun j hj => absurd hj (Nat.not_lt_zero j))
        · refine ref υ _ fυ hFυ (fun z => absurd hnm z) (fun _ => ⟨fun _ ω hω => hk _ _ hω, fun hno => ?_⟩)
          obtain ⟨j, hj, h⟩ := hno
          exact absurd (ho j hj) h
        · refine ref σ _ (Fr.rf.mono (by simp) (by simp)) hF (fun z => absurd hnm z) (fun _ => ⟨fun hyes => ?_, fun _ ω hω => hk _ _ hω⟩)
          obtain ⟨j, hj, h⟩ := ho
          exact absurd (hyes j hj) h
      · exact ref σ _ (Fr.rf.mono (by simp) (by simp)) hF (fun _ ω hω => hk _ _ hω) (fun z => absurd ((len (by omega) (by omega)).mpr z) c2)
  · refine b_X12_seen_0 (by omega) ⟨fun z => absurd (k1'.mpr (k1.mp z)) c, fun _ => hk _ _ old⟩
end PSeen
