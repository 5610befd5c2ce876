/-! a told evening -/
def tOf (v : Nat → Int32) (k : Nat) : Tr := ((v (3 * k)).toNatClampNeg, (v (3 * k + 1)).toNatClampNeg, (v (3 * k + 2)).toNatClampNeg)
abbrev okT (v : Nat → Int32) (nd n k : Nat) : Prop := v (3 * k) = nI (tOf v k).1 ∧ v (3 * k + 1) = nI (tOf v k).2.1 ∧ v (3 * k + 2) = nI (tOf v k).2.2 ∧ (tOf v k).1 < nd ∧ (tOf v k).2.1 < n ∧ (tOf v k).2.2 < n
theorem okT_of {v : Nat → Int32} {nd n k D p q : Nat} (h5 : nd ≤ 5) (h7 : n ≤ 7) (e1 : v (3 * k) = nI D) (e2 : v (3 * k + 1) = nI p) (e3 : v (3 * k + 2) = nI q) (h1 : D < nd) (h2 : p < n) (h3 : q < n) : okT v nd n k ∧ tOf v k = (D, p, q) := by
  have e : tOf v k = (D, p, q) := by
    unfold tOf
    rw [e1, e2, e3, nI_clamp (by omega), nI_clamp (by omega), nI_clamp (by omega)]
  have h : okT v nd n k ↔ (v (3 * k) = nI D ∧ v (3 * k + 1) = nI p ∧ v (3 * k + 2) = nI q ∧ D < nd ∧ p < n ∧ q < n) := by
    unfold okT
    rw [e]
  exact ⟨h.mpr ⟨e1, e2, e3, h1, h2, h3⟩, e⟩
/-- the outcome of a told evening: v the bytes, m how many -/
def jdg (W : Wd) (v : Nat → Int32) (m : Nat) : Nat → Nat → Nat → Int32
  | 0, _, _ => -2
  | f + 1, k, a => if m ≤ 3 * k then -2 else if m < 3 * k + 3 then nI k else if okT v W.1 W.2.1 k ∧ canB W a (tOf v k) = true then jdg W v m f (k + 1) (nxt W.2.1 a (tOf v k)) else nI k
theorem jdg1 {W : Wd} {v : Nat → Int32} {m f k a : Nat} (h : m ≤ 3 * k) : jdg W v m (f + 1) k a = -2 := by
  unfold jdg
  rw [if_pos h]
theorem jdg2 {W : Wd} {v : Nat → Int32} {m f k a : Nat} (h : ¬ m ≤ 3 * k) (h2 : m < 3 * k + 3) : jdg W v m (f + 1) k a = nI k := by
  unfold jdg
  rw [if_neg h, if_pos h2]
theorem jdg3 {W : Wd} {v : Nat → Int32} {m f k a : Nat} (h : ¬ m ≤ 3 * k) (h2 : ¬ m < 3 * k + 3) (h3 : okT v W.1 W.2.1 k) (h4 : canB W a (tOf v k) = true) : jdg W v m (f + 1) k a = jdg W v m f (k + 1) (nxt W.2.1 a (tOf v k)) := by
  have e : jdg W v m (f + 1) k a = if m ≤ 3 * k then -2 else if m < 3 * k + 3 then nI k else if okT v W.1 W.2.1 k ∧ canB W a (tOf v k) = true then jdg W v m f (k + 1) (nxt W.2.1 a (tOf v k)) else nI k := rfl
  rw [e, if_neg h, if_neg h2, if_pos ⟨h3, h4⟩]
theorem jdg4 {W : Wd} {v : Nat → Int32} {m f k a : Nat} (h : ¬ m ≤ 3 * k) (h2 : ¬ m < 3 * k + 3) (h3 : ¬ (okT v W.1 W.2.1 k ∧ canB W a (tOf v k) = true)) : jdg W v m (f + 1) k a = nI k := by
  have e : jdg W v m (f + 1) k a = if m ≤ 3 * k then -2 else if m < 3 * k + 3 then nI k else if okT v W.1 W.2.1 k ∧ canB W a (tOf v k) = true then jdg W v m f (k + 1) (nxt W.2.1 a (tOf v k)) else nI k := rfl
  rw [e, if_neg h, if_neg h2, if_neg h3]
section Judge
variable {l : Launch} {g : am_G} {σ : am_S} {nr nd n nt dn un nb nq s : Nat} {pl : Nat → Nat} {o : Option (List Lin)}
theorem c_at {d i m : Nat} {τ : am_S} {v : Nat → Int32} {k : Int64 → am_S → Prop} (hs : s < 6) (hm2 : m ≤ 60) (elen : rg τ (64 * (43 + 2 * s) + 2) = nI m) (hi : i < 200) (H : k (if i < m then lr τ (44 + 2 * s) i else 0) τ) : CL l g M_X8_at d [.ref (43 + 2 * s), .int (nI i)] τ k := by
  refine b_X8_at_0 hs ?_
  rw [elen, nI_clamp (n := i) (by omega)]
  refine ⟨fun z => absurd z (nI_pos (by omega)), fun _ => ⟨fun z => ?_, fun z => ?_⟩⟩
  · have : ¬ i < m := by
      have := (len (by omega) (by omega)).mp z
      omega
    rw [if_neg this] at H
    exact H
  · have : i < m := by
      rcases Nat.lt_or_ge i m with w | w
      · exact w
      · exact absurd ((len (by omega) (by omega)).mpr w) z
    rw [if_pos this] at H
    exact ⟨vp_in_nI (by omega) (by omega), H⟩
theorem c_jdg {d m : Nat} {x1 x3 : Int32} {v : Nat → Int32} {K1 : Int32 → am_S → Prop} (hd : 9 ≤ d) (hs : s < 6) (hRR : RR σ nr nd n pl nt dn un nb nq) (hL : R_tl σ o) (hm2 : m ≤ 60) (elen : rg σ (64 * (43 + 2 * s) + 2) = nI m) (ev : ∀ j, j < m → (lr σ (44 + 2 * s) j).toInt32 = v j) : ∀ (f k a : Nat) (τ : am_S), f + k = 21 → a < 4 ^ n → LK σ nd n 0 (rg σ 67) 0 τ → (∀ υ, LK σ nd n 0 (rg σ 67) 0 υ → K1 (jdg (wld σ o nd n 0 (rg σ 67) 0) v m f k a) υ) →
    JI l g M_X11_judge d 55 [(0, .ref 0), (1, .int x1), (2, .ref (43 + 2 * s)), (3, .int x3), (4, .int (nI a)), (5, .int (nI (3 * k)))] [] τ K1
  | 0, k, a, τ, e, ha, h, H => by
    have el : rg τ (64 * (43 + 2 * s) + 2) = nI m := (h.1.1 _ (by simp; omega)).trans elen
    refine b_X11_judge_55 hs (by omega) ?_
    rw [el]
    exact ⟨fun _ => H τ h, fun z => absurd ((len (by omega) (by omega)).mpr (by omega)) z⟩
  | f + 1, k, a, τ, e, ha, h, H => by
    have hH := hRR.1
    obtain ⟨h4, h5, h7⟩ := hH.1
    have hW : wd_ok (wld σ o nd n 0 (rg σ 67) 0) := wld_ok hH.W
    have el : rg τ (64 * (43 + 2 * s) + 2) = nI m := (h.1.1 _ (by simp; omega)).trans elen
    have e44 : lr τ (44 + 2 * s) = lr σ (44 + 2 * s) := (h.1.2 _ (by simp; omega)).2
    refine b_X11_judge_55 hs (by omega) ?_
    have f1 : nI (3 * k) + 1 = nI (3 * k + 1) := nI_1 _
    have f2 : nI (3 * k) + 2 = nI (3 * k + 2) := nI_add _ 2
    have f3 : nI (3 * k) + 3 = nI (3 * k + 3) := nI_add _ 3
    have f4 : nI (3 * k) / 3 = nI k := by
      have := pk_div (a := 3 * k) (d := 3) (by omega) (by omega) (by omega)
      rw [show 3 * k / 3 = k by omega] at this
      exact this
    rw [el, f1, f2, f3, f4]
    refine ⟨fun z => ?_, fun z => ?_⟩
    · have z2 : m ≤ 3 * k := (len (by omega) (by omega)).mp z
      have := H τ h
      rw [jdg1 z2] at this
      exact this
    · have z2 : ¬ m ≤ 3 * k := fun w => z ((len (by omega) (by omega)).mpr w)
      refine c_at (v := v) hs hm2 el (by omega) (c_at (v := v) hs hm2 el (by omega) (c_at (v := v) hs hm2 el (by omega) ⟨fun y => ?_, fun y => ?_⟩))
      · rw [el] at y
        have y2 : m < 3 * k + 3 := (ltn (a := m) (b := 3 * k + 3) (by omega) (by omega)).mp y
        have := H τ h
        rw [jdg2 z2 y2] at this
        exact this
      · rw [el] at y
        have y2 : ¬ m < 3 * k + 3 := fun w => y ((ltn (a := m) (b := 3 * k + 3) (by omega) (by omega)).mpr w)
        rw [if_pos (by omega), if_pos (by omega), if_pos (by omega), e44, ev _ (by omega), ev _ (by omega), ev _ (by omega)]
        refine c_mayBe (by omega) hH.W hL h ha (fun D p q υ e1 e2 e3 h1 h2 h3 hc f1 hυ => ⟨fun _ => ?_, fun w => absurd w (by decide)⟩) (fun υ hno f1 hυ => ⟨fun w => absurd rfl w, fun _ => ?_⟩)
        · obtain ⟨ok, et⟩ := okT_of h5 h7 e1 e2 e3 h1 h2 h3
          have H3 : ∀ υ, LK σ nd n 0 (rg σ 67) 0 υ → K1 (jdg (wld σ o nd n 0 (rg σ 67) 0) v m f (k + 1) (swp n a p q)) υ := by
            intro υ hυ
            have := H υ hυ
            rw [jdg3 z2 y2 ok (by rw [et]; exact hc), et] at this
            exact this
          rw [e1, e2, e3]
          obtain ⟨-, r1, r2⟩ := canB_iff.mp hc
          have r1 : rmN a p = frT σ 0 D := r1
          have r2 : rmN a q = toT σ 0 D := r2
          have hpq : p ≠ q := fun w => (hW.2 D h1).2.2 (by
            show frT σ 0 D = toT σ 0 D
            rw [← r1, ← r2, w])
          have vD : vp_in (nI D) 5 := vp_in_nI (by omega) (by omega)
          refine b_X6_changed_0 ?_
          rw [nI_clamp (n := D) (by omega), (hυ.2.2 D h1).1, (hυ.2.2 D h1).2, i_xor, i_swC h7 ha h2 h3 hpq (by rw [r1, r2])]
          refine ⟨vD, vD, ?_⟩
          have := c_jdg (x1 := x1) (x3 := x3) hd hs hRR hL hm2 elen ev f (k + 1) (swp n a p q) υ (by omega) swp_lt hυ H3
          rw [show 3 * (k + 1) = 3 * k + 3 by omega] at this
          exact this
        · have := H υ hυ
          rw [jdg4 z2 y2 (fun w => hno ⟨_, _, _, w.1.1, w.1.2.1, w.1.2.2.1, w.1.2.2.2.1, w.1.2.2.2.2.1, w.1.2.2.2.2.2, w.2⟩)] at this
          exact this
theorem m_jdg {d m : Nat} {v : Nat → Int32} {K1 : Int32 → am_S → Prop} (hd : 9 ≤ d) (hs : s < 6) (hH : R_H σ nr nd n pl) (hM : WM (wld σ o nd n 0 (rg σ 67) 0) σ) (hm2 : m ≤ 60) (elen : ar σ 82 s = nI m) (ev : ∀ j, j < m → (lr σ 83 (60 * s + j)).toInt32 = v j) : ∀ (f k a : Nat), f + k = 21 → a < 4 ^ n → K1 (jdg (wld σ o nd n 0 (rg σ 67) 0) v m f k a) σ →
    JI l g M_X12_judge d 34 [(0, .ref 55), (1, .int (nI s)), (2, .int (nI a)), (3, .int (nI k))] [] σ K1
  | 0, k, a, e, ha, H => by
    refine b_X12_judge_34 (by omega) ?_
    have f0 : 3 * nI k = nI (3 * k) := pk_mul 3 k
    rw [nI_clamp (n := s) (by omega), elen, f0]
    exact ⟨vp_in_nI hs (by omega), fun _ => H, fun z => absurd ((len (by omega) (by omega)).mpr (by omega)) z⟩
  | f + 1, k, a, e, ha, H => by
    obtain ⟨h4, h5, h7⟩ := hH.1
    have hW : wd_ok (wld σ o nd n 0 (rg σ 67) 0) := wld_ok hH.W
    have vs : vp_in (nI s) 6 := vp_in_nI hs (by omega)
    have f0 : 3 * nI k = nI (3 * k) := pk_mul 3 k
    have e0 : 60 * nI s + nI (3 * k) = nI (60 * s + 3 * k) := by rw [show (60 : Int32) = nI 60 from rfl, pk_mul, nI_add]
    have g1 : nI (60 * s + 3 * k) + 1 = nI (60 * s + 3 * k + 1) := nI_1 _
    have g2 : nI (60 * s + 3 * k) + 2 = nI (60 * s + 3 * k + 2) := nI_add _ 2
    have f2 : nI (3 * k) + 2 = nI (3 * k + 2) := nI_add _ 2
    refine b_X12_judge_34 (by omega) ?_
    rw [nI_clamp (n := s) (by omega), elen, f0, e0, g1, g2, f2, nI_1 k]
    refine ⟨vs, fun z => ?_, fun z => ⟨vs, fun y => ?_, fun y => ?_⟩⟩
    · have z2 : m ≤ 3 * k := (len (by omega) (by omega)).mp z
      rw [jdg1 z2] at H
      exact H
    · have z2 : ¬ m ≤ 3 * k := fun w => z ((len (by omega) (by omega)).mpr w)
      have y2 : 3 * k + 2 < m := (ltn (a := 3 * k + 2) (b := m) (by omega) (by omega)).mp y
      have x0 : (nI (60 * s + 3 * k)).toNatClampNeg = 60 * s + 3 * k := nI_clamp (by omega)
      have x1 : (nI (60 * s + 3 * k + 1)).toNatClampNeg = 60 * s + (3 * k + 1) := nI_clamp (by omega)
      have x2 : (nI (60 * s + 3 * k + 2)).toNatClampNeg = 60 * s + (3 * k + 2) := nI_clamp (by omega)
      rw [x0, x1, x2, ev _ (by omega), ev _ (by omega), ev _ (by omega), hH.2.2.1.2, hH.2.2.2.1.2]
      have no : (¬ ((∃ D, D < nd ∧ v (3 * k) = nI D) ∧ (∃ D, D < n ∧ v (3 * k + 1) = nI D) ∧ ∃ D, D < n ∧ v (3 * k + 2) = nI D)) → K1 (nI k) σ := by
        intro w
        rw [jdg4 z2 (by omega) (fun q => w ⟨⟨_, q.1.2.2.2.1, q.1.1⟩, ⟨_, q.1.2.2.2.2.1, q.1.2.1⟩, ⟨_, q.1.2.2.2.2.2, q.1.2.2.1⟩⟩)] at H
        exact H
      refine ⟨vp_in_nI (by omega) (by omega), vp_in_nI (by omega) (by omega), vp_in_nI (by omega) (by omega), fun c1 => ⟨fun c2 => ⟨fun c3 => ?_, fun c3 => no (fun w => c3 ((cB (by omega)).mpr w.2.2))⟩, fun c2 => no (fun w => c2 ((cB (by omega)).mpr w.2.1))⟩, fun c1 => no (fun w => c1 ((cB (by omega)).mpr w.1))⟩
      obtain ⟨D, h1, e1⟩ := (cB (by omega)).mp c1
      obtain ⟨p, h2, e2⟩ := (cB (by omega)).mp c2
      obtain ⟨q, h3, e3⟩ := (cB (by omega)).mp c3
      obtain ⟨ok, et⟩ := okT_of h5 h7 e1 e2 e3 h1 h2 h3
      rw [e1, e2, e3]
      refine m_can (W := wld σ o nd n 0 (rg σ 67) 0) (by omega) hW hM ha h1 h2 h3 (fun hc => ⟨fun _ y ey => ?_, fun w => absurd w (by decide)⟩) (fun hc => ⟨fun w => absurd rfl w, fun _ => ?_⟩)
      · rw [jdg3 z2 (by omega) ok (by rw [et]; exact hc), et] at H
        rw [ey, i_swM h7 ha h2 h3]
        exact m_jdg hd hs hH hM hm2 elen ev f (k + 1) (swp n a p q) (by omega) swp_lt H
      · rw [jdg4 z2 (by omega) (fun w => by rw [et, hc] at w; cases w.2)] at H
        exact H
    · have z2 : ¬ m ≤ 3 * k := fun w => z ((len (by omega) (by omega)).mpr w)
      have y2 : ¬ 3 * k + 2 < m := fun w => y ((ltn (a := 3 * k + 2) (b := m) (by omega) (by omega)).mpr w)
      rw [jdg2 z2 (by omega)] at H
      exact H
end Judge
section PJudge
variable {l : Launch} {g : am_G} {d : Nat} {σ : am_S}
theorem P_judge (hd : 300 ≤ d) (hR : R σ) (x1 : Int32) : PP l g d M_X11_judge M_X12_judge [.int x1] σ := by
  intro K hk
  have old := hR
  obtain ⟨nr, nd, n, pl, nt, dn, un, nb, nq, hRR⟩ := hR
  have hH := hRR.1
  have hF := hRR.2.2.2.2.2.2.2.2
  have hS := hRR.2.2.2.2.2.2.1
  have hnb := hRR.2.2.2.2.2.1.1.1
  obtain ⟨o, hL⟩ := R_tl_of hRR.2.2.2.2.2.2.2.1
  obtain ⟨H1, H2, H3⟩ := hH.1
  have k1 : (¬ x1 < 0 ∧ ¬ 5 < x1) ↔ ∃ q, q < 6 ∧ x1 = nI q := cC (n := 6) 5 rfl (by omega)
  have k1' : (¬ x1 < 0 ∧ ¬ 6 ≤ x1) ↔ ∃ q, q < 6 ∧ x1 = nI q := cD (n := 6) 6 rfl (by omega)
  have no : ∀ (s : Nat) (v : Int32) (K2 : Int32 → am_S → Prop), s < 6 → x1 = nI s → v < 0 → (∀ k : Int32 → am_S → Prop, k v σ → CI l g M_X12_rowFault (d - 1) [.ref 55, .int (nI s)] σ k) → K2 v σ → CI l g M_X12_judge d [.ref 55, .int x1] σ K2 := by
    intro s v K2 hs e hv hk2 h
    refine b_X12_judge_0 (by omega) ⟨fun _ => ?_, fun z => absurd (k1.mpr ⟨s, hs, e⟩) z⟩
    rw [e]
    exact hk2 _ ⟨fun z => (Int32.lt_irrefl (Int32.lt_of_lt_of_le hv z)).elim, fun _ => hk2 _ h⟩
  refine b_X11_judge_0 (by omega) ⟨fun c => ?_, fun c => ?_⟩
  · obtain ⟨s, hs, e1⟩ := k1'.mp c
    have hcl : (nI s).toNatClampNeg = s := nI_clamp (by omega)
    rw [e1, hcl]
    refine ⟨vp_in_nI hs (by omega), c_bytes (by omega) hs hnb (hS s hs) (fun e81 => ?_) (fun b hb e81 => ?_) (fun so m hso hrow => ?_) (fun m hrow => ?_)⟩
    · refine ⟨fun z => absurd z (by decide), fun _ => ?_⟩
      rw [← e1]
      refine no s (-11) _ hs e1 (by decide) (fun k hk2 => m_rowF hs hnb (hS s hs) (fun _ => hk2) (fun b hb e => ?_) (fun so m _ hr => ?_) (fun m hr => ?_)) (hk _ _ old)
      · exact absurd (e.symm.trans e81) (neg1_ne (by omega))
      · exact absurd (hr.2.2.2.2.2.1.symm.trans e81) (m2lt hr.1).2.1
      · exact absurd (hr.2.2.2.2.2.1.symm.trans e81) (m2lt hr.1).2.1
    · refine ⟨fun z => absurd z (by decide), fun _ => ?_⟩
      rw [← e1]
      refine no s (-12) _ hs e1 (by decide) (fun k hk2 => m_rowF hs hnb (hS s hs) (fun e => ?_) (fun _ _ _ => hk2) (fun _ _ _ _ => hk2) (fun m hr => ?_)) (hk _ _ old)
      · exact absurd (e81.symm.trans e) (neg1_ne (by omega))
      · have := (m2lt hr.1).2.2.1
        rw [← hr.2.2.2.2.2.1, e81] at this
        exact absurd (nneg (by omega)) this
    · refine ⟨fun z => absurd z (by decide), fun _ => ?_⟩
      rw [← e1]
      refine no s (-12) _ hs e1 (by decide) (fun k hk2 => m_rowF hs hnb (hS s hs) (fun e => ?_) (fun _ _ _ => hk2) (fun _ _ _ _ => hk2) (fun m2 hr => ?_)) (hk _ _ old)
      · exact absurd (hrow.2.2.2.2.2.1.symm.trans e) (m2lt hrow.1).2.1
      · have h1 := hrow.2.2.2.1
        rw [hr.2.2.2.1] at h1
        exact absurd (nI_inj (a := 0) (by omega) (by have := hrow.1; omega) h1).symm hso
    · obtain ⟨q1, q2, q3, q4, q5, q6, q7, q8⟩ := id hrow
      refine ⟨fun _ => c_look (tn := 0) (by omega) hH.W (by omega) (fun τ hτ => ?_), fun z => absurd rfl z⟩
      refine c_arr (hH.fr hτ.1 rfl rfl) ?_
      refine c_jdg (v := fun j => (lr σ (44 + 2 * s) j).toInt32) (by omega) hs hRR hL q2 q5 (fun j hj => rfl) 21 0 (enc pl n) τ rfl (a_lt hH) hτ (fun υ hυ => ?_)
      have fr : Fr SRg SAr σ υ := hυ.1.mono (by decide) (by decide)
      have hRR2 := R_srch hRR fr (hF.fr hυ.1 rfl rfl)
      have hnb2 := hRR2.2.2.2.2.2.1.1.1
      have e81 : ar υ 81 s = ar σ 81 s := by rw [fr.A 81 rfl]
      refine b_X12_judge_0 (by omega) ⟨fun _ => ?_, fun z => absurd (k1.mpr ⟨s, hs, e1⟩) (by rw [e1]; exact z)⟩
      refine m_rowF hs hnb2 (hRR2.2.2.2.2.2.2.1 s hs) (fun e => ?_) (fun b hb e => ?_) (fun so m2 hso hr => ?_) (fun m2 hr2 => ⟨fun _ => ?_, fun z => absurd (by decide) z⟩)
      · rw [e81] at e
        exact absurd (q6.symm.trans e) (m2lt q1).2.1
      · rw [e81] at e
        have := (m2lt q1).2.2.1
        rw [← q6, e] at this
        exact absurd (nneg (by omega)) this
      · have h1 := hr.2.2.2.2.2.1
        rw [e81, q6] at h1
        have a1 := (m2lt q1).2.2.2
        rw [h1, (m2lt hr.1).2.2.2] at a1
        exact absurd (nI_inj (b := 0) (by have := hr.1; omega) (by omega) a1) hso
      · refine m_now (by omega) hRR2.1.W (R_tl.fr fr rfl rfl hL) (fun ω fω hM => ?_)
        have hRR3 := R_srch hRR2 (fω.mono (by decide) (by decide)) (hRR2.2.2.2.2.2.2.2.2.fr fω rfl rfl)
        rw [hRR3.1.2.2.2.2.2.2.2.2.2]
        have e67 : rg ω 67 = rg υ 67 := fω.R 67 rfl
        rw [← e67, ← wld_fr (τ := ω) fω rfl rfl] at hM
        refine m_jdg (v := fun j => (lr σ (44 + 2 * s) j).toInt32) (by omega) hs hRR3.1 hM q2 (by rw [fω.A 82 rfl, fr.A 82 rfl]; exact q7) (fun j hj => by rw [fω.L 83 rfl, fr.L 83 rfl, q8 j hj]) 21 0 (enc pl n) rfl (a_lt hH) ?_
        rw [wld_fr fω rfl rfl, wld_fr fr rfl rfl, e67, fr.R 67 rfl]
        exact hk _ _ hRR3.R
  · refine b_X12_judge_0 (by omega) ⟨fun z => absurd (k1'.mpr (k1.mp z)) c, fun _ => hk _ _ old⟩
end PJudge
