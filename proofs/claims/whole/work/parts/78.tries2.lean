/-! evenings by lots: the reference, the pair -/
section TryM
variable {l : Launch} {g : am_G} {W : Wd} {a : Nat}
theorem m_rest {d : Nat} {σ : am_S} {k : Int32 → am_S → Prop} (hd : 2 ≤ d) (hW : wd_ok W) (hM : WM W σ) (ha : a < 4 ^ W.2.1) (H : k (if mvs W a = [] then 1 else 0) σ) : CI l g M_X12_isRest d [.ref 55, .int (nI a)] σ k := by
  have h5 := hW.1.1
  have h7 := hW.1.2
  refine b_X12_isRest_0 ?_
  refine trip_loop (W := W) (a := a)
    (fun D (_ : Unit) => JI l g M_X12_isRest d 2 [(0, .ref 55), (1, .int (nI a)), (2, .int (nI D))] [] σ k)
    (fun D p _ => JI l g M_X12_isRest d 12 [(0, .ref 55), (1, .int (nI a)), (2, .int (nI D)), (3, .int (nI p))] [] σ k)
    (fun D p q _ => JI l g M_X12_isRest d 23 [(0, .ref 55), (1, .int (nI a)), (2, .int (nI D)), (3, .int (nI p)), (4, .int (nI q))] [] σ k)
    (fun pre _ => pre = []) ?_ ?_ ?_ ?_ ?_ ?_ () rfl
  · intro D pre s hD hI hj
    refine b_X12_isRest_2 ?_
    rw [hM.1.1]
    exact ⟨fun z => absurd ((len (by omega) (by omega)).mp z) (by omega), fun _ => hj⟩
  · intro D pre s hD hI hj
    refine b_X12_isRest_12 ?_
    rw [hM.1.2, nI_1]
    exact ⟨fun _ => hj, fun z => absurd ((len (by omega) (by omega)).mpr (Nat.le_refl W.2.1)) z⟩
  · intro D p pre s hD hp hI hj
    refine b_X12_isRest_12 ?_
    rw [hM.1.2]
    exact ⟨fun z => absurd ((len (by omega) (by omega)).mp z) (by omega), fun _ => hj⟩
  · intro D p pre s hD hp hI hj
    refine b_X12_isRest_23 (by omega) ?_
    rw [hM.1.2, nI_1 p]
    exact ⟨fun _ => hj, fun z => absurd ((len (by omega) (by omega)).mpr (Nat.le_refl W.2.1)) z⟩
  · intro D p q pre s hD hp hq hI
    constructor
    · intro hc hs hn
      obtain ⟨suf, hs⟩ := hs
      have ne : ¬ mvs W a = [] := fun z => by
        rw [z] at hs
        simp at hs
      rw [if_neg ne] at H
      refine b_X12_isRest_23 (by omega) ?_
      rw [hM.1.2]
      exact ⟨fun z => absurd ((len (by omega) (by omega)).mp z) (by omega), fun _ => m_can (by omega) hW hM ha hD hp hq (fun _ => ⟨fun z => absurd z (by decide), fun _ => H⟩) (fun z => by rw [hc] at z; cases z)⟩
    · intro hc hn
      refine b_X12_isRest_23 (by omega) ?_
      rw [hM.1.2, nI_1 q]
      exact ⟨fun z => absurd ((len (by omega) (by omega)).mp z) (by omega), fun _ => m_can (by omega) hW hM ha hD hp hq (fun z => by rw [hc] at z; cases z) (fun _ => ⟨fun _ => hn () hI, fun z => absurd rfl z⟩)⟩
  · intro s hI
    rw [if_pos hI] at H
    refine b_X12_isRest_2 ?_
    rw [hM.1.1]
    exact ⟨fun _ => H, fun z => absurd ((len (by omega) (by omega)).mpr (Nat.le_refl W.1)) z⟩
theorem m_draw {d m : Nat} {σ : am_S} {z : Int32} {k : Int32 → am_S → Prop} (ez : rg σ 3564 = z) (h0 : 0 < m) (hm : m < 2 ^ 31) (H : ∀ τ, Fr [3564] [] σ τ → rg τ 3564 = lcg z → k (nI (dr z m)) τ) : CI l g M_X12_draw d [.ref 55, .int (nI m)] σ k := by
  refine b_X12_draw_0 ?_
  rw [ez, dr_eq z h0 hm]
  exact ⟨nI_ne0 h0 hm, H _ ((Fr.rf.wR).mono (by simp) (by simp)) (by rw [rg_sR, if_pos rfl]; rfl)⟩
theorem m_cnt5 {d n r : Nat} {σ : am_S} {k : Int32 → am_S → Prop} (hd : 1 ≤ d) (hn : n ≤ 7) (ha : a < 4 ^ n) (hr : r < 4) : ∀ (m p c : Nat), p + m = n → c + m ≤ 20 → k (nI (c + cntS (fun j => rmB a r j = true) m p)) σ → JI l g M_X12_countIn d 5 [(0, .int (nI a)), (1, .int (nI r)), (2, .int (nI n)), (3, .int (nI c)), (4, .int (nI p))] [] σ k
  | 0, p, c, e, _, H => by
    refine b_X12_countIn_5 hd ?_
    exact ⟨fun _ => H, fun q => absurd ((len (by omega) (by omega)).mpr (by omega)) q⟩
  | m + 1, p, c, e, h20, H => by
    have e1 : cntS (fun j => rmB a r j = true) (m + 1) p = (if rmB a r p = true then 1 else 0) + cntS (fun j => rmB a r j = true) m (p + 1) := rfl
    rw [e1] at H
    have rp := rmN_lt a p
    refine b_X12_countIn_5 hd ?_
    rw [i_room hn ha (p := p) (by omega), nI_1 p, nI_1 c]
    refine ⟨fun q => absurd ((len (by omega) (by omega)).mp q) (by omega), fun _ => ⟨fun z => ?_, fun z => ?_⟩⟩
    · have hno : ¬ rmB a r p = true := fun w => z (by rw [of_decide_eq_true w])
      rw [if_neg hno, Nat.zero_add] at H
      exact m_cnt5 hd hn ha hr m (p + 1) c (by omega) (by omega) H
    · have hyes : rmB a r p = true := decide_eq_true (nI_inj (a := rmN a p) (b := r) (by omega) (by omega) z)
      rw [if_pos hyes, ← Nat.add_assoc] at H
      exact m_cnt5 hd hn ha hr m (p + 1) (c + 1) (by omega) (by omega) H
theorem m_cnt {d n r : Nat} {σ : am_S} {k : Int32 → am_S → Prop} (hd : 1 ≤ d) (hn : n ≤ 7) (ha : a < 4 ^ n) (hr : r < 4) (H : k (nI (cntS (fun j => rmB a r j = true) n 0)) σ) : CI l g M_X12_countIn d [.int (nI a), .int (nI r), .int (nI n)] σ k :=
  b_X12_countIn_0 (m_cnt5 hd hn ha hr n 0 0 (Nat.zero_add _) (by omega) (by rw [Nat.zero_add]; exact H))
theorem m_one5 {d n r : Nat} {x2 : Int32} {σ : am_S} {k : Int32 → am_S → Prop} (hd : 1 ≤ d) (hn : n ≤ 7) (ha : a < 4 ^ n) (hr : r < 4) : ∀ (f p left : Nat), p + f = n → left < cntS (fun j => rmB a r j = true) f p → left ≤ 7 → k (nI (kth (rmB a r) f p left)) σ → JI l g M_X12_oneIn d 5 [(0, .int (nI a)), (1, .int (nI r)), (2, .int x2), (3, .int (nI p)), (4, .int (nI left))] [] σ k
  | 0, p, left, e, h, _, H => absurd h (Nat.not_lt_zero left)
  | f + 1, p, left, e, h, hl, H => by
    have e1 : cntS (fun j => rmB a r j = true) (f + 1) p = (if rmB a r p = true then 1 else 0) + cntS (fun j => rmB a r j = true) f (p + 1) := rfl
    rw [e1] at h
    have rp := rmN_lt a p
    have hb : (nI (rmN a p) = nI r) ↔ rmB a r p = true := ⟨fun z => decide_eq_true (nI_inj (a := rmN a p) (b := r) (by omega) (by omega) z), fun z => by rw [of_decide_eq_true z]⟩
    refine b_X12_oneIn_5 hd ?_
    rw [i_room hn ha (p := p) (by omega), nI_1 p, hb]
    unfold kth at H
    by_cases c : rmB a r p = true
    · rw [if_pos c] at h H
      refine ⟨fun z => ⟨fun w => absurd c w, fun _ => ?_⟩, fun z => ⟨fun _ => ?_, fun w => absurd c w⟩⟩
      · have l0 : 0 < left := (ltn (a := 0) (by omega) (by omega)).mp z
        rw [if_neg (by omega)] at H
        have e2 : nI left + (-1) = nI (left - 1) := by
          have := pk_m1 (left - 1)
          rw [show left - 1 + 1 = left by omega] at this
          exact this
        rw [e2]
        exact m_one5 hd hn ha hr f (p + 1) (left - 1) (by omega) (by omega) (by omega) H
      · have l0 : left = 0 := by
          rcases Nat.eq_zero_or_pos left with w | w
          · exact w
          · exact absurd ((ltn (a := 0) (by omega) (by omega)).mpr w) z
        rw [if_pos l0] at H
        exact H
    · rw [if_neg c] at h H
      have nx := m_one5 (x2 := x2) hd hn ha hr f (p + 1) left (by omega) (by omega) hl H
      exact ⟨fun z => ⟨fun _ => nx, fun w => absurd w c⟩, fun z => ⟨fun w => absurd w c, fun _ => ⟨fun _ => nx, fun w => absurd w c⟩⟩⟩
theorem m_oneIn {d n r left : Nat} {σ : am_S} {k : Int32 → am_S → Prop} (hd : 1 ≤ d) (hn : n ≤ 7) (ha : a < 4 ^ n) (hr : r < 4) (h : left < cntS (fun j => rmB a r j = true) n 0) (H : k (nI (kth (rmB a r) n 0 left)) σ) : CI l g M_X12_oneIn d [.int (nI a), .int (nI r), .int (nI left)] σ k := by
  have := cnt_le7 (P := rmB a r) hn
  exact b_X12_oneIn_0 (m_one5 hd hn ha hr n 0 left (Nat.zero_add _) h (by omega) H)
def evAns (x3 x4 : Int32) (T : Nat × Nat × Int32) : Int32 := if x3 < 0 then (if x4 = 0 then nI T.2.1 else T.2.2) else ((nI T.1 >>> ((2 * x3) &&& 31)) &&& 3)
/-- what two changed, and what didn't, without the seeds -/
theorem tryP_1 {z : Int32} {D x y p q : Nat} (eD : dr z W.1 = D) (ex : cntS (fun j => rmB a (W.2.2.1 D) j = true) W.2.1 0 = x) (ey : cntS (fun j => rmB a (W.2.2.2.1 D) j = true) W.2.1 0 = y) (h : x = 0 ∨ y = 0) : tryP W z a = (lcg z, a, false) := by
  unfold tryP
  rw [eD, ex, ey, if_pos h]
theorem tryP_2 {z : Int32} {D x y p q : Nat} (eD : dr z W.1 = D) (ex : cntS (fun j => rmB a (W.2.2.1 D) j = true) W.2.1 0 = x) (ey : cntS (fun j => rmB a (W.2.2.2.1 D) j = true) W.2.1 0 = y) (h : ¬ (x = 0 ∨ y = 0)) (ep : kth (rmB a (W.2.2.1 D)) W.2.1 0 (dr (lcg z) x) = p) (eq : kth (rmB a (W.2.2.2.1 D)) W.2.1 0 (dr (lcg (lcg z)) y) = q) (hc : canB W a (D, p, q) = true) : tryP W z a = (lcg (lcg (lcg z)), nxt W.2.1 a (D, p, q), true) := by
  unfold tryP
  rw [eD, ex, ey, if_neg h, ep, eq, if_pos hc]
theorem tryP_3 {z : Int32} {D x y p q : Nat} (eD : dr z W.1 = D) (ex : cntS (fun j => rmB a (W.2.2.1 D) j = true) W.2.1 0 = x) (ey : cntS (fun j => rmB a (W.2.2.2.1 D) j = true) W.2.1 0 = y) (h : ¬ (x = 0 ∨ y = 0)) (ep : kth (rmB a (W.2.2.1 D)) W.2.1 0 (dr (lcg z) x) = p) (eq : kth (rmB a (W.2.2.2.1 D)) W.2.1 0 (dr (lcg (lcg z)) y) = q) (hc : ¬ canB W a (D, p, q) = true) : tryP W z a = (lcg (lcg (lcg z)), a, false) := by
  unfold tryP
  rw [eD, ex, ey, if_neg h, ep, eq, if_neg hc]
theorem m_try {d N i many : Nat} {x1 x3 x4 rest z : Int32} {σ : am_S} {k1 : Int32 → am_S → Prop} (hd : 5 ≤ d) (hW : wd_ok W) (hM : WM W σ) (h0 : 0 < W.1) (hi : i ≤ N) (hN : N ≤ 99) (ha : a < 4 ^ W.2.1) (ez : rg σ 3564 = z)
    (HN : ∀ τ z2, tryP W z a = (z2, a, false) → Fr [3564] [] σ τ → rg τ 3564 = z2 → JI l g M_X12_tries d 91 [(0, .ref 55), (1, .int x1), (2, .int (nI N)), (3, .int x3), (4, .int x4), (5, .int (nI a)), (6, .int (nI many)), (7, .int rest), (8, .int (nI (i + 1)))] [] τ k1)
    (HY : ∀ τ z2 b, tryP W z a = (z2, b, true) → Fr [3564] [] σ τ → rg τ 3564 = z2 → ((0 ≤ rest → JI l g M_X12_tries d 91 [(0, .ref 55), (1, .int x1), (2, .int (nI N)), (3, .int x3), (4, .int x4), (5, .int (nI b)), (6, .int (nI (many + 1))), (7, .int rest), (8, .int (nI (i + 1)))] [] τ k1) ∧ (¬ 0 ≤ rest → CI l g M_X12_isRest (d - 1) [.ref 55, .int (nI b)] τ (fun r10 σ10 => ((r10 = 0 → JI l g M_X12_tries d 91 [(0, .ref 55), (1, .int x1), (2, .int (nI N)), (3, .int x3), (4, .int x4), (5, .int (nI b)), (6, .int (nI (many + 1))), (7, .int rest), (8, .int (nI (i + 1)))] [] σ10 k1) ∧ (¬ r10 = 0 → JI l g M_X12_tries d 91 [(0, .ref 55), (1, .int x1), (2, .int (nI N)), (3, .int x3), (4, .int x4), (5, .int (nI b)), (6, .int (nI (many + 1))), (7, .int (nI i)), (8, .int (nI (i + 1)))] [] σ10 k1)))))) :
    JI l g M_X12_tries d 91 [(0, .ref 55), (1, .int x1), (2, .int (nI N)), (3, .int x3), (4, .int x4), (5, .int (nI a)), (6, .int (nI many)), (7, .int rest), (8, .int (nI i))] [] σ k1 := by
  have h5 := hW.1.1
  have h7 := hW.1.2
  have hD := dr_lt z h0
  refine b_X12_tries_91 (by omega) ?_
  rw [hM.1.1, nI_1 i, nI_1 many]
  refine ⟨fun q => absurd ((ltn (by omega) (by omega)).mp q) (by omega), fun _ => m_draw ez h0 (by omega) (fun σ1 f1 z1 => ?_)⟩
  generalize eD : dr z W.1 = D at hD ⊢
  obtain ⟨r4, t4, -⟩ := hW.2 D hD
  have hM1 := hM.fr f1 rfl rfl
  have vD : vp_in (nI D) 5 := vp_in_nI (by omega) (by omega)
  have cD0 : (nI D).toNatClampNeg = D := nI_clamp (by omega)
  rw [cD0, (hM1.2.1 D hD).1, hM1.1.2]
  refine ⟨vD, m_cnt (by omega) h7 ha r4 ⟨vD, ?_⟩⟩
  rw [(hM1.2.1 D hD).2, hM1.1.2]
  refine m_cnt (by omega) h7 ha t4 ?_
  have k1 := cnt_le7 (P := rmB a (W.2.2.1 D)) h7
  have k2 := cnt_le7 (P := rmB a (W.2.2.2.1 D)) h7
  generalize ex : cntS (fun j => rmB a (W.2.2.1 D) j = true) W.2.1 0 = x at k1 ⊢
  generalize ey : cntS (fun j => rmB a (W.2.2.2.1 D) j = true) W.2.1 0 = y at k2 ⊢
  refine ⟨fun c => ?_, fun c => ⟨fun c2 => ⟨vD, ?_⟩, fun c2 => ?_⟩⟩
  · have x0 : x = 0 := nI_inj (b := 0) (by omega) (by omega) c
    exact HN σ1 _ (tryP_1 (p := 0) (q := 0) eD ex ey (Or.inl x0)) f1 z1
  · have x0 : ¬ x = 0 := fun w => c (by rw [w]; rfl)
    have y0 : ¬ y = 0 := fun w => c2 (by rw [w]; rfl)
    have xy : ¬ (x = 0 ∨ y = 0) := by rintro (w | w) <;> contradiction
    have dx := dr_lt (lcg z) (m := x) (by omega)
    have dy := dr_lt (lcg (lcg z)) (m := y) (by omega)
    rw [(hM1.2.1 D hD).1]
    refine m_draw z1 (by omega) (by omega) (fun σ2 f2 z2 => ?_)
    refine m_oneIn (by omega) h7 ha r4 (by rw [ex]; exact dx) ⟨vD, ?_⟩
    have hM2 := hM1.fr f2 rfl rfl
    rw [(hM2.2.1 D hD).2]
    refine m_draw z2 (by omega) (by omega) (fun σ3 f3 z3 => ?_)
    refine m_oneIn (by omega) h7 ha t4 (by rw [ey]; exact dy) ?_
    have hM3 := hM2.fr f3 rfl rfl
    have kp := kth_ok (P := rmB a (W.2.2.1 D)) W.2.1 0 (dr (lcg z) x) (by rw [ex]; exact dx)
    have kq := kth_ok (P := rmB a (W.2.2.2.1 D)) W.2.1 0 (dr (lcg (lcg z)) y) (by rw [ey]; exact dy)
    generalize ep : kth (rmB a (W.2.2.1 D)) W.2.1 0 (dr (lcg z) x) = p at kp ⊢
    generalize eq : kth (rmB a (W.2.2.2.1 D)) W.2.1 0 (dr (lcg (lcg z)) y) = q at kq ⊢
    have hp : p < W.2.1 := by omega
    have hq : q < W.2.1 := by omega
    have fB : Fr [3564] [] σ σ3 := ((f1.tr f2).tr f3).mono (by simp) (by simp)
    refine m_can (by omega) hW hM3 ha hD hp hq (fun hc => ⟨fun _ b eb => ?_, fun w => absurd w (by decide)⟩) (fun hc => ⟨fun w => absurd rfl w, fun _ => ?_⟩)
    · rw [i_swM h7 ha hp hq] at eb
      rw [eb]
      exact HY σ3 _ _ (tryP_2 eD ex ey xy ep eq hc) fB z3
    · exact HN σ3 _ (tryP_3 eD ex ey xy ep eq (by rw [hc]; exact Bool.false_ne_true)) fB z3
  · have y0 : y = 0 := nI_inj (b := 0) (by omega) (by omega) c2
    exact HN σ1 _ (tryP_1 (p := 0) (q := 0) eD ex ey (Or.inr y0)) f1 z1
theorem evn_no {k i many : Nat} {z z2 rest : Int32} (h : tryP W z a = (z2, a, false)) : evn W (k + 1) i z a many rest = evn W k (i + 1) z2 a many rest := by
  rw [evn, h, if_neg (show ¬ ((z2, a, false) : Int32 × Nat × Bool).2.2 = true from Bool.false_ne_true)]
theorem evn_yes {k i many b : Nat} {z z2 rest : Int32} (h : tryP W z a = (z2, b, true)) : evn W (k + 1) i z a many rest = evn W k (i + 1) z2 b (many + 1) (if rest = -2 ∧ mvs W b = [] then nI i else rest) := by
  rw [evn, h, if_pos (show ((z2, b, true) : Int32 × Nat × Bool).2.2 = true from rfl)]
theorem m_ev {d N : Nat} {x1 x3 x4 : Int32} {σ0 : am_S} {k1 : Int32 → am_S → Prop} (hd : 5 ≤ d) (hW : wd_ok W) (hM : WM W σ0) (h0 : 0 < W.1) (hN : N ≤ 99) : ∀ (k i : Nat) (z : Int32) (a many : Nat) (rest : Int32) (σ : am_S), k + i = N + 1 → a < 4 ^ W.2.1 → (rest = -2 ∨ 0 ≤ rest) → Fr [3564] [] σ0 σ → rg σ 3564 = z →
    (∀ τ, Fr [3564] [] σ0 τ → k1 (evAns x3 x4 (evn W k i z a many rest)) τ) →
    JI l g M_X12_tries d 91 [(0, .ref 55), (1, .int x1), (2, .int (nI N)), (3, .int x3), (4, .int x4), (5, .int (nI a)), (6, .int (nI many)), (7, .int rest), (8, .int (nI i))] [] σ k1 := by
  intro k
  induction k with
  | zero =>
    intro i z a many rest σ e ha hr fr ez H
    have := H σ fr
    unfold evAns evn at this
    refine b_X12_tries_91 (by omega) ⟨fun _ => ⟨fun c => ⟨fun c2 => ?_, fun c2 => ?_⟩, fun c => ?_⟩, fun q => absurd ((ltn (by omega) (by omega)).mpr (by omega)) q⟩
    · rw [if_pos c, if_neg c2] at this
      exact this
    · rw [if_pos c, if_pos c2] at this
      exact this
    · rw [if_neg c] at this
      exact this
  | succ k ih =>
    intro i z a many rest σ e ha hr fr ez H
    have hlt := tryP_lt (z := z) ha
    refine m_try hd hW (hM.fr fr rfl rfl) h0 (by omega) hN ha ez (fun τ z2 eT fτ zτ => ?_) (fun τ z2 b eT fτ zτ => ?_)
    · rw [evn_no eT] at H
      exact ih (i + 1) z2 a many rest τ (by omega) ha hr ((fr.tr fτ).mono (by simp) (by simp)) zτ H
    · rw [eT] at hlt
      have hlt : b < 4 ^ W.2.1 := hlt
      have fT : Fr [3564] [] σ0 τ := (fr.tr fτ).mono (by simp) (by simp)
      rw [evn_yes eT] at H
      refine ⟨fun w => ?_, fun w => m_rest (by omega) hW (hM.fr fT rfl rfl) hlt ?_⟩
      · have ne : ¬ rest = -2 := fun v => by
          rw [v] at w
          exact absurd w (by decide)
        rw [if_neg (fun v => ne v.1)] at H
        exact ih (i + 1) z2 b (many + 1) rest τ (by omega) hlt hr fT zτ H
      · have e2 : rest = -2 := hr.resolve_right w
        by_cases em : mvs W b = []
        · rw [if_pos em]
          rw [if_pos ⟨e2, em⟩] at H
          refine ⟨fun v => absurd v (by decide), fun _ => ?_⟩
          exact ih (i + 1) z2 b (many + 1) (nI i) τ (by omega) hlt (Or.inr (nneg (by omega))) fT zτ H
        · rw [if_neg em]
          rw [if_neg (fun v => em v.2)] at H
          refine ⟨fun _ => ?_, fun v => absurd rfl v⟩
          exact ih (i + 1) z2 b (many + 1) rest τ (by omega) hlt hr fT zτ H
end TryM
section PTries
variable {l : Launch} {g : am_G} {d : Nat} {σ : am_S}
theorem P_tries (hd : 300 ≤ d) (hR : R σ) (x1 : Int32) (x2 : Int32) (x3 : Int32) (x4 : Int32) : PP l g d M_X11_tries M_X12_tries [.int x1, .int x2, .int x3, .int x4] σ := by
  intro K hk
  have old := hR
  obtain ⟨nr, nd, n, pl, nt, dn, un, nb, nq, hRR⟩ := hR
  have hH := hRR.1
  have hF := hRR.2.2.2.2.2.2.2.2
  obtain ⟨o, hL⟩ := R_tl_of hRR.2.2.2.2.2.2.2.1
  obtain ⟨H1, H2, H3⟩ := hH.1
  have hW : wd_ok (wld σ o nd n 0 (rg σ 67) 0) := wld_ok hH.W
  have ha := a_lt hH
  have c99 : (¬ x2 < 1 ∧ ¬ 99 < x2) → ∃ N, N ≤ 99 ∧ x2 = nI N := by
    intro h
    obtain ⟨q, hq, e⟩ := (cC (n := 100) (x := x2) 99 rfl (by omega)).mp ⟨by grind, h.2⟩
    exact ⟨q, by omega, e⟩
  have i1 : (¬ x3 < 0 ∧ ¬ nI n ≤ x3) ↔ (¬ x3 < 0 ∧ ¬ nI n - 1 < x3) := (cA (by omega)).trans (cB (by omega)).symm
  have w0 : (¬ x4 < 0 ∧ ¬ 0 < x4) ↔ x4 = 0 := by grind
  have w1 : (¬ x4 < 0 ∧ ¬ 1 < x4) ↔ (x4 = 0 ∨ x4 = 1) := by grind
  -- what is told as it may be
  have bad : (¬ ((¬ x2 < 1 ∧ ¬ 99 < x2) ∧ ((x3 = -1 ∧ (x4 = 0 ∨ x4 = 1)) ∨ ((¬ x3 < 0 ∧ ¬ nI n ≤ x3) ∧ x4 = 0)))) → CI l g M_X12_tries d [.ref 55, .int x1, .int x2, .int x3, .int x4] σ (fun r2 σ2 => K (-1) r2 σ2) := by
    intro hno
    refine b_X12_tries_0 (by omega) ?_
    rw [hH.2.2.2.1.2]
    refine ⟨fun c2 => ⟨fun c3 => ⟨fun z => absurd z (by rw [c3]; decide), fun _ => ⟨fun c4 => absurd ⟨c2, Or.inl ⟨c3, w1.mp c4⟩⟩ hno, fun _ => hk _ _ old⟩⟩, fun c3 => ⟨fun c5 => ⟨fun _ => ⟨fun c4 => absurd ⟨c2, Or.inr ⟨i1.mpr c5, w0.mp c4⟩⟩ hno, fun _ => hk _ _ old⟩, fun z => absurd (Int32.not_lt.mp c5.1) z⟩, fun _ => hk _ _ old⟩⟩, fun _ => hk _ _ old⟩
  have ref : ((¬ x2 < 1 ∧ ¬ 99 < x2) ∧ ((x3 = -1 ∧ (x4 = 0 ∨ x4 = 1)) ∨ ((¬ x3 < 0 ∧ ¬ nI n ≤ x3) ∧ x4 = 0))) → ∀ N, N ≤ 99 → x2 = nI N → ∀ (υ : am_S) (K2 : Int32 → am_S → Prop), Fr SRg SAr σ υ → R_F υ → (nd = 0 → ∀ ω, R ω → K2 (-5) ω) → (0 < nd → ∀ ω, R ω → K2 (evAns x3 x4 (evn (wld σ o nd n 0 (rg σ 67) 0) N 1 x1 (enc pl n) 0 (if mvs (wld σ o nd n 0 (rg σ 67) 0) (enc pl n) = [] then 0 else -2))) ω) → CI l g M_X12_tries d [.ref 55, .int x1, .int x2, .int x3, .int x4] υ K2 := by
    rintro hok N hN eN υ K2 fr hFυ k0 k1
    have hRR1 := R_srch hRR fr hFυ
    have go : ((¬ rg υ 3522 = 0 → CV l g M_X12_findNow (d - 1) [.ref 55] υ (fun σ3 => CI l g M_X12_isRest (d - 1) [.ref 55, .int (rg σ3 3529)] (sR σ3 3564 x1) (fun r4 σ4 => ((r4 = 0 → JI l g M_X12_tries d 91 [(0, .ref 55), (1, .int x1), (2, .int x2), (3, .int x3), (4, .int x4), (5, .int (rg σ3 3529)), (6, .int 0), (7, .int (-2)), (8, .int 1)] [] σ4 K2) ∧ (¬ r4 = 0 → JI l g M_X12_tries d 91 [(0, .ref 55), (1, .int x1), (2, .int x2), (3, .int x3), (4, .int x4), (5, .int (rg σ3 3529)), (6, .int 0), (7, .int 0), (8, .int 1)] [] σ4 K2))))) ∧ (rg υ 3522 = 0 → K2 (-5) υ)) := by
      rw [hRR1.1.2.2.1.2]
      refine ⟨fun c => ?_, fun c => k0 (nI_inj (b := 0) (by omega) (by omega) c) υ hRR1.R⟩
      have n0 : 0 < nd := by
        rcases Nat.eq_zero_or_pos nd with w | w
        · rw [w] at c
          exact absurd rfl c
        · exact w
      refine m_now (by omega) hRR1.1.W (R_tl.fr fr rfl rfl hL) (fun ω fω hM => ?_)
      rw [wld_fr fr rfl rfl, fr.R 67 rfl] at hM
      have hRR2 := R_srch hRR1 (fω.mono (by decide) (by decide)) (hFυ.fr fω rfl rfl)
      rw [hRR2.1.2.2.2.2.2.2.2.2.2, eN]
      have f1 : Fr [3564] [] ω (sR ω 3564 x1) := (Fr.rf.wR).mono (by simp) (by simp)
      have z1 : rg (sR ω 3564 x1) 3564 = x1 := by rw [rg_sR, if_pos rfl]
      generalize (sR ω 3564 x1) = ψ at f1 z1
      have hM2 := hM.fr f1 rfl rfl
      have k1 := k1 n0
      refine m_rest (W := wld σ o nd n 0 (rg σ 67) 0) (by omega) hW hM2 ha ?_
      have fin : ∀ τ, Fr [3564] [] ω τ → R τ := fun τ fτ => (R_srch hRR2 (fτ.mono (by decide) (by decide)) (hRR2.2.2.2.2.2.2.2.2.fr fτ rfl rfl)).R
      by_cases em : mvs (wld σ o nd n 0 (rg σ 67) 0) (enc pl n) = []
      · rw [if_pos em] at k1 ⊢
        exact ⟨fun v => absurd v (by decide), fun _ => m_ev (σ0 := ω) (by omega) hW hM n0 hN N 1 x1 (enc pl n) 0 0 ψ rfl ha (Or.inr (by decide)) f1 z1 (fun τ fτ => k1 τ (fin τ fτ))⟩
      · rw [if_neg em] at k1 ⊢
        exact ⟨fun _ => m_ev (σ0 := ω) (by omega) hW hM n0 hN N 1 x1 (enc pl n) 0 (-2) ψ rfl ha (Or.inl rfl) f1 z1 (fun τ fτ => k1 τ (fin τ fτ)), fun v => absurd rfl v⟩
    refine b_X12_tries_0 (by omega) ?_
    rw [hRR1.1.2.2.2.1.2]
    refine ⟨fun _ => ⟨fun c3 => ⟨fun z => absurd z (by rw [c3]; decide), fun _ => ⟨fun _ => go, fun c4 => ?_⟩⟩, fun c3 => ⟨fun c5 => ⟨fun _ => ⟨fun _ => go, fun c4 => ?_⟩, fun z => absurd (Int32.not_lt.mp c5.1) z⟩, fun c5 => ?_⟩⟩, fun c2 => absurd hok.1 c2⟩
    · rcases hok.2 with ⟨-, w⟩ | ⟨w, -⟩
      · exact absurd (w1.mpr w) c4
      · rw [c3] at w
        exact absurd (by decide) w.1
    · rcases hok.2 with ⟨w, -⟩ | ⟨-, w⟩
      · exact absurd w c3
      · exact absurd (w0.mpr w) c4
    · rcases hok.2 with ⟨w, -⟩ | ⟨w, -⟩
      · exact absurd w c3
      · exact absurd (i1.mp w) c5
  -- the class, where it is told as it may be
  have cls : ∀ (N : Nat), N ≤ 99 → x2 = nI N → 0 < nd → ∀ K3 : am_S → Prop, (∀ τ, Fr SRg SAr σ τ → R_F τ → rg τ 1985 = nI (evn (wld σ o nd n 0 (rg σ 67) 0) N 1 x1 (enc pl n) 0 (if mvs (wld σ o nd n 0 (rg σ 67) 0) (enc pl n) = [] then 0 else -2)).1 → rg τ 1986 = nI (evn (wld σ o nd n 0 (rg σ 67) 0) N 1 x1 (enc pl n) 0 (if mvs (wld σ o nd n 0 (rg σ 67) 0) (enc pl n) = [] then 0 else -2)).2.1 → rg τ 1987 = (evn (wld σ o nd n 0 (rg σ 67) 0) N 1 x1 (enc pl n) 0 (if mvs (wld σ o nd n 0 (rg σ 67) 0) (enc pl n) = [] then 0 else -2)).2.2 → K3 τ) → CV l g M_X6_weigh (d - 1) [.ref 14, .int 0, .int (rg σ 67), .int 0] σ (fun σ2 => CI l g M_X2_arrangement (d - 1) [.ref 1] σ2 (fun r3 σ3 => CV l g M_X1_pass (d - 1) [.ref 31, .ref 14, .ref 20, .int x1, .int x2, .int r3] σ3 K3)) := by
    intro N hN eN n0 K3 h3
    refine c_weigh (tn := 0) (by omega) hH.W hL (by omega) (fun τ hτ hC => ?_)
    have hRR1 := R_srch hRR (hτ.1.mono (by decide) (by decide)) (hF.fr hτ.1 rfl rfl)
    rw [eN]
    refine c_arr hRR1.1 (c_pass (W := wld σ o nd n 0 (rg σ 67) 0) (by omega) hW hC n0 hN ha (fun υ fυ g5 g6 g7 => h3 υ ((hτ.1.tr fυ).mono (by decide) (by decide)) (hRR1.2.2.2.2.2.2.2.2.fr fυ rfl rfl) g5 g6 g7))
  have zero : ((¬ x2 < 1 ∧ ¬ 99 < x2) ∧ ((x3 = -1 ∧ (x4 = 0 ∨ x4 = 1)) ∨ ((¬ x3 < 0 ∧ ¬ nI n ≤ x3) ∧ x4 = 0))) → rg σ 65 = 0 → CI l g M_X12_tries d [.ref 55, .int x1, .int x2, .int x3, .int x4] σ (fun r2 σ2 => K (-5) r2 σ2) := by
    intro hok hz
    obtain ⟨N, hN, eN⟩ := c99 hok.1
    rw [hH.2.2.1.1] at hz
    have n0 : nd = 0 := nI_inj (b := 0) (by omega) (by omega) hz
    exact ref hok N hN eN σ _ (Fr.rf.mono (by simp) (by simp)) hF (fun _ ω hω => hk _ _ hω) (fun w => absurd w (by omega))
  have cnt : (¬ x2 < 1 ∧ ¬ 99 < x2) → x3 = -1 → (x4 = 0 ∨ x4 = 1) → ¬ rg σ 65 = 0 → CV l g M_X6_weigh (d - 1) [.ref 14, .int 0, .int (rg σ 67), .int 0] σ (fun σ2 => CI l g M_X2_arrangement (d - 1) [.ref 1] σ2 (fun r3 σ3 => CV l g M_X1_pass (d - 1) [.ref 31, .ref 14, .ref 20, .int x1, .int x2, .int r3] σ3 (fun σ4 => ((¬ x4 = 0 → CI l g M_X12_tries d [.ref 55, .int x1, .int x2, .int x3, .int x4] σ4 (fun r2 σ2 => K (rg σ4 1987) r2 σ2)) ∧ (x4 = 0 → CI l g M_X12_tries d [.ref 55, .int x1, .int x2, .int x3, .int x4] σ4 (fun r2 σ2 => K (rg σ4 1986) r2 σ2)))))) := by
    intro h2 h3 h4 hz
    obtain ⟨N, hN, eN⟩ := c99 h2
    have n0 : 0 < nd := by
      rcases Nat.eq_zero_or_pos nd with w | w
      · rw [hH.2.2.1.1, w] at hz
        exact absurd rfl hz
      · exact w
    have neg : x3 < 0 := by rw [h3]; decide
    refine cls N hN eN n0 _ (fun τ fτ hFτ g5 g6 g7 => ⟨fun c4 => ?_, fun c4 => ?_⟩)
    · refine ref ⟨h2, Or.inl ⟨h3, h4⟩⟩ N hN eN τ _ fτ hFτ (fun w => absurd w (by omega)) (fun _ ω hω => ?_)
      unfold evAns
      rw [if_pos neg, if_neg c4, g7]
      exact hk _ _ hω
    · refine ref ⟨h2, Or.inl ⟨h3, h4⟩⟩ N hN eN τ _ fτ hFτ (fun w => absurd w (by omega)) (fun _ ω hω => ?_)
      unfold evAns
      rw [if_pos neg, if_pos c4, g6]
      exact hk _ _ hω
  refine b_X11_tries_0 (by omega) ?_
  rw [hH.2.2.2.1.1]
  have m1 : ∀ {C : Prop}, (¬ x3 < 0 ∧ ¬ nI n ≤ x3) → x3 = -1 → C := by
    intro C h e
    rw [e] at h
    exact absurd (by decide) h.1
  refine ⟨fun cp => ⟨fun c4 => ⟨fun c3 => ?_, fun c3 => m1 cp c3⟩, fun c4 => ⟨fun c3 => ?_, fun c3 => m1 cp c3⟩⟩, fun cp => ⟨fun c3 => ?_, fun c3 => ⟨fun c4 => ?_, fun c4 => ⟨fun c5 => ?_, fun c5 => ?_⟩⟩⟩⟩
  · have b := bad (fun q => by
      rcases q.2 with ⟨w, -⟩ | ⟨-, w⟩
      · exact c3 w
      · exact c4 w)
    exact ⟨fun _ => b, fun _ => ⟨fun _ => b, fun _ => b⟩⟩
  · refine ⟨fun z => bad (fun q => q.1.1 z), fun z1 => ⟨fun z => bad (fun q => q.1.2 z), fun z2 => ⟨fun hz => ?_, fun hz => zero ⟨⟨z1, z2⟩, Or.inr ⟨cp, c4⟩⟩ hz⟩⟩⟩
    obtain ⟨N, hN, eN⟩ := c99 ⟨z1, z2⟩
    have n0 : 0 < nd := by
      rcases Nat.eq_zero_or_pos nd with w | w
      · rw [hH.2.2.1.1, w] at hz
        exact absurd rfl hz
      · exact w
    refine cls N hN eN n0 _ (fun τ fτ hFτ g5 g6 g7 => ?_)
    refine ref ⟨⟨z1, z2⟩, Or.inr ⟨cp, c4⟩⟩ N hN eN τ _ fτ hFτ (fun w => absurd w (by omega)) (fun _ ω hω => ?_)
    unfold evAns
    rw [if_neg cp.1, g5]
    exact hk _ _ hω
  · have b := bad (fun q => by
      rcases q.2 with ⟨w, -⟩ | ⟨w, -⟩
      · exact c3 w
      · exact cp w)
    exact ⟨fun _ => b, fun _ => ⟨fun _ => b, fun _ => b⟩⟩
  · exact ⟨fun z => bad (fun q => q.1.1 z), fun z1 => ⟨fun z => bad (fun q => q.1.2 z), fun z2 => ⟨fun hz => cnt ⟨z1, z2⟩ c3 (Or.inl c4) hz, fun hz => zero ⟨⟨z1, z2⟩, Or.inl ⟨c3, Or.inl c4⟩⟩ hz⟩⟩⟩
  · have b := bad (fun q => by
      rcases q.2 with ⟨-, w | w⟩ | ⟨-, w⟩
      · exact c4 w
      · exact c5 w
      · exact c4 w)
    exact ⟨fun _ => b, fun _ => ⟨fun _ => b, fun _ => b⟩⟩
  · exact ⟨fun z => bad (fun q => q.1.1 z), fun z1 => ⟨fun z => bad (fun q => q.1.2 z), fun z2 => ⟨fun hz => cnt ⟨z1, z2⟩ c3 (Or.inr c5) hz, fun hz => zero ⟨⟨z1, z2⟩, Or.inl ⟨c3, Or.inr c5⟩⟩ hz⟩⟩⟩
end PTries
