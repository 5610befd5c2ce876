/-! people and doors come; image and back; of -/
/-- m people have come on the class's side, and on the reference's -/
def AddC (σ : am_S) (n m : Nat) (f : Nat → Int32) (r : Nat → Nat) (τ : am_S) : Prop := Fr [66] [5, 7] σ τ ∧ rg τ 66 = nI (n + m) ∧ (∀ j, ar τ 5 j = if n ≤ j ∧ j < n + m then f (j - n) else ar σ 5 j) ∧ ∀ j, ar τ 7 j = if n ≤ j ∧ j < n + m then nI (r (j - n)) else ar σ 7 j
def pm (pl : Nat → Nat) (n m : Nat) (r : Nat → Nat) : Nat → Nat := fun j => if n ≤ j ∧ j < n + m then r (j - n) else pl j
def AddM (σ : am_S) (pl : Nat → Nat) (n m : Nat) (f : Nat → Int32) (r : Nat → Nat) (τ : am_S) : Prop := Fr [3526, 3529] [59, 60] σ τ ∧ rg τ 3526 = nI (n + m) ∧ (∀ j, ar τ 59 j = if n ≤ j ∧ j < n + m then f (j - n) else ar σ 59 j) ∧ (∀ j, ar τ 60 j = if n ≤ j ∧ j < n + m then 0 else ar σ 60 j) ∧ rg τ 3529 = nI (enc (pm pl n m r) (n + m))
theorem AddC.zero {σ : am_S} {n : Nat} {f : Nat → Int32} {r : Nat → Nat} (e : rg σ 66 = nI n) : AddC σ n 0 f r σ := by
  refine ⟨Fr.rf.mono (by simp) (by simp), e, fun j => ?_, fun j => ?_⟩
  · rw [if_neg (by omega)]
  · rw [if_neg (by omega)]
theorem AddM.zero {σ : am_S} {pl : Nat → Nat} {n : Nat} {f : Nat → Int32} {r : Nat → Nat} (e : rg σ 3526 = nI n) (e2 : rg σ 3529 = nI (enc pl n)) : AddM σ pl n 0 f r σ := by
  refine ⟨Fr.rf.mono (by simp) (by simp), e, fun j => ?_, fun j => ?_, ?_⟩
  · rw [if_neg (by omega)]
  · rw [if_neg (by omega)]
  · rw [e2]
    congr 1
    exact enc_congr (fun j hj => by unfold pm; rw [if_neg (by omega)])
theorem AddC.succ {σ τ : am_S} {n m : Nat} {f : Nat → Int32} {r : Nat → Nat} (h : AddC σ n m f r τ) : AddC σ n (m + 1) f r (sR (sA (sA τ 5 (n + m) (f m)) 7 (n + m) (nI (r m))) 66 (nI (n + m + 1))) := by
  obtain ⟨h1, h2, h3, h4⟩ := h
  refine ⟨(h1.wA.wA.wR).mono (by simp) (by simp), rfl, fun j => ?_, fun j => ?_⟩
  · rw [ar_sR, ar_sA, if_neg (by omega), ar_sA, h3]
    by_cases e : j = n + m
    · rw [if_pos ⟨rfl, e⟩, if_pos (by omega), e, Nat.add_sub_cancel_left]
    · rw [if_neg (fun q => e q.2)]
      by_cases e2 : n ≤ j ∧ j < n + m
      · rw [if_pos e2, if_pos (by omega)]
      · rw [if_neg e2, if_neg (by omega)]
  · rw [ar_sR, ar_sA, ar_sA]
    by_cases e : j = n + m
    · rw [if_pos ⟨rfl, e⟩, if_pos (by omega), e, Nat.add_sub_cancel_left]
    · rw [if_neg (fun q => e q.2), if_neg (fun q => absurd q.1 (by decide)), h4]
      by_cases e2 : n ≤ j ∧ j < n + m
      · rw [if_pos e2, if_pos (by omega)]
      · rw [if_neg e2, if_neg (by omega)]
theorem pm_lt {pl : Nat → Nat} {n m : Nat} {r : Nat → Nat} (h : ∀ j, j < n → pl j < 4) (hr : ∀ j, j < m → r j < 4) : ∀ j, j < n + m → pm pl n m r j < 4 := by
  intro j hj
  unfold pm
  split
  · exact hr _ (by omega)
  · exact h j (by omega)
theorem AddM.succ {σ τ : am_S} {pl : Nat → Nat} {n m : Nat} {f : Nat → Int32} {r : Nat → Nat} (h : AddM σ pl n m f r τ) (hn : n + m < 7) (hl : ∀ j, j < n → pl j < 4) (hr : ∀ j, j < m + 1 → r j < 4) : AddM σ pl n (m + 1) f r (sR (sR (sA (sA τ 59 (n + m) (f m)) 60 (n + m) 0) 3529 ((rg τ 3529 &&& (((3 : Int32) <<< ((2 * nI (n + m)) &&& 31)) ^^^ (-1))) ||| (nI (r m) <<< ((2 * nI (n + m)) &&& 31)))) 3526 (nI (n + m + 1))) := by
  obtain ⟨h1, h2, h3, h4, h5⟩ := h
  refine ⟨(h1.wA.wA.wR.wR).mono (by simp) (by simp), rfl, fun j => ?_, fun j => ?_, ?_⟩
  · rw [ar_sR, ar_sR, ar_sA, if_neg (by omega), ar_sA, h3]
    by_cases e : j = n + m
    · rw [if_pos ⟨rfl, e⟩, if_pos (by omega), e, Nat.add_sub_cancel_left]
    · rw [if_neg (fun q => e q.2)]
      by_cases e2 : n ≤ j ∧ j < n + m
      · rw [if_pos e2, if_pos (by omega)]
      · rw [if_neg e2, if_neg (by omega)]
  · rw [ar_sR, ar_sR, ar_sA, ar_sA]
    by_cases e : j = n + m
    · rw [if_pos ⟨rfl, e⟩, if_pos (by omega)]
    · rw [if_neg (fun q => e q.2), if_neg (fun q => absurd q.1 (by decide)), h4]
      by_cases e2 : n ≤ j ∧ j < n + m
      · rw [if_pos e2, if_pos (by omega)]
      · rw [if_neg e2, if_neg (by omega)]
  · show (rg τ 3529 &&& _) ||| _ = _
    rw [h5, enc_put (n2 := n + (m + 1)) (by omega) (by omega) (pm_lt hl (fun j hj => hr j (by omega))) (hr m (by omega)) (Or.inr ⟨by omega, rfl⟩)]
    congr 1
    refine enc_congr (fun j hj => ?_)
    unfold pu pm
    by_cases e : j = n + m
    · rw [if_pos e, if_pos (by omega), e, Nat.add_sub_cancel_left]
    · rw [if_neg e]
      by_cases e2 : n ≤ j ∧ j < n + m
      · rw [if_pos e2, if_pos (by omega)]
      · rw [if_neg e2, if_neg (by omega)]
theorem R_add {σ τ υ : am_S} {nr nd n nt dn un nb nq m : Nat} {pl r : Nat → Nat} {f : Nat → Int32} (h : RR σ nr nd n pl nt dn un nb nq) (hC : AddC σ n m f r τ) (hM : AddM τ pl n m f r υ) (hf : ∀ j, j < m → 0 ≤ f j ∧ r j < nr) (hn : n + m ≤ 7) : R υ := by
  obtain ⟨hH, hT, hD, hU, hI, hB, hS, hL⟩ := h
  obtain ⟨⟨H1, H2, H3⟩, ⟨e64, e3521⟩, ⟨e65, e3522⟩, ⟨e66, e3526⟩, e3530, ⟨e3531, q68⟩, hdo, hpe, hgr, e3529⟩ := hH
  obtain ⟨c1, c2, c3, c4⟩ := hC
  obtain ⟨m1, m2, m3, m4, m5⟩ := hM
  have fr := c1.tr m1
  refine ⟨nr, nd, n + m, pm pl n m r, nt, dn, un, nb, nq, ?_, hT.fr fr rfl rfl, hD.fr fr rfl rfl, (hU.mono (by omega) (Nat.le_refl _)).fr fr rfl rfl, (hI.mono (Nat.le_refl _) (by omega)).fr fr rfl rfl, hB.fr fr rfl rfl, hS.fr fr rfl rfl, hL.fr fr rfl rfl⟩
  unfold R_H
  rw [fr.R 64 rfl, fr.R 3521 rfl, fr.R 65 rfl, fr.R 3522 rfl, m1.R 66 rfl, c2, m2, fr.R 3530 rfl, fr.R 67 rfl, fr.R 3531 rfl, fr.R 68 rfl, m5, fr.A 2 rfl, fr.A 3 rfl, fr.A 4 rfl, m1.A 5 rfl, fr.A 6 rfl, m1.A 7 rfl, fr.A 56 rfl, fr.A 57 rfl, fr.A 58 rfl]
  refine ⟨⟨H1, H2, hn⟩, ⟨e64, e3521⟩, ⟨e65, e3522⟩, ⟨rfl, rfl⟩, e3530, ⟨e3531, q68⟩, hdo, fun j hj => ?_, fun j hj => hgr j (by omega), rfl⟩
  rw [c3, c4, m3, m4, c1.A 59 rfl, c1.A 60 rfl]
  unfold pm
  by_cases e : n ≤ j ∧ j < n + m
  · have := hf (j - n) (by omega)
    rw [if_pos e, if_pos e, if_pos e, if_pos e, if_pos e, hgr j e.1]
    exact ⟨this.2, rfl, ⟨rfl, this.1⟩, rfl, by decide⟩
  · rw [if_neg e, if_neg e, if_neg e, if_neg e, if_neg e]
    exact hpe j (by omega)
section House
variable {l : Launch} {g : am_G} {d : Nat} {σ : am_S}
theorem c_canCome {nr : Nat} {x1 x2 : Int32} {k : Int32 → am_S → Prop} (hd : 10 ≤ d) (e64 : rg σ 64 = nI nr) (hnr : nr ≤ 4) (h1 : okV 0 x1 → (∃ r, r < nr ∧ x2 = nI r) → k 1 σ) (h0 : ¬ (okV 0 x1 ∧ ∃ r, r < nr ∧ x2 = nI r) → k 0 σ) : CI l g M_X2_canCome d [.ref 1, .int x1, .int x2] σ k := by
  refine b_X2_canCome_0 (by omega) (c_canBecome (w := 0) (by omega) (fun v => ⟨fun q => absurd q (by decide), fun _ => ?_⟩) (fun v => ⟨fun _ => h0 (fun q => v q.1), fun q => absurd rfl q⟩))
  rw [e64]
  exact ⟨fun q => h1 v ((cA (by omega)).mp q), fun q => h0 (fun z => q ((cA (by omega)).mpr z.2))⟩
theorem okV0_iff {x : Int32} : (¬ x < 1 ∧ ¬ 99 < x) ↔ okV 0 x := by
  constructor
  · exact fun h => Or.inl ⟨rfl, h⟩
  · rintro (⟨-, p⟩ | ⟨p, -⟩ | ⟨p, -⟩ | ⟨p, -⟩) <;> first | exact p | exact absurd p (by decide)
theorem P_person (hd : 300 ≤ d) (hR : R σ) (x1 : Int32) (x2 : Int32) : PP l g d M_X11_person M_X12_person [.int x1, .int x2] σ := by
  intro K hk
  have old := hR
  obtain ⟨nr, nd, n, pl, nt, dn, un, nb, nq, hRR⟩ := hR
  obtain ⟨⟨H1, H2, H3⟩, ⟨e64, e3521⟩, h65, ⟨e66, e3526⟩, e3530, h68, hdo, hpe, hgr, e3529⟩ := hRR.1
  have hl : ∀ j, j < n → pl j < 4 := fun j hj => by have := (hpe j hj).1; omega
  refine b_X11_person_0 (by omega) (c_canCome (by omega) e64 H1 (fun v ⟨r, hr, e⟩ => ⟨fun _ => ?_, fun q => absurd q (by decide)⟩) (fun v => ⟨fun q => absurd rfl q, fun _ => ?_⟩))
  · subst e
    refine b_X2_addPerson_0 ?_
    rw [e66]
    have cl : (nI n).toNatClampNeg = n := nI_clamp (by omega)
    refine ⟨fun c => ?_, fun c => ?_⟩
    · have hn : n < 7 := (ltn (b := 7) (by omega) (by omega)).mp c
      have z : vp_in (nI n) 7 := vp_in_nI (by omega) (by omega)
      rw [nI_11, cl, nI_1]
      refine ⟨z, z, ?_⟩
      have hC : AddC σ n 1 (fun _ => x1) (fun _ => r) (sR (sA (sA σ 5 n x1) 7 n (nI r)) 66 (nI (n + 1))) := AddC.succ (AddC.zero e66) (f := fun _ => x1) (r := fun _ => r)
      generalize (sR (sA (sA σ 5 n x1) 7 n (nI r)) 66 (nI (n + 1))) = τ at *
      have frC := hC.1
      refine b_X12_person_0 (by omega) ?_
      rw [frC.R 3521 rfl, frC.R 3526 rfl, e3521, e3526]
      refine ⟨fun _ => ⟨fun _ => ⟨fun _ => ?_, fun q => absurd (nI_inj (b := 7) (by omega) (by omega) q) (by omega)⟩, fun q => absurd ((cB (by omega)).mpr ⟨r, hr, rfl⟩) q⟩, fun q => absurd (okV0_iff.mpr v) q⟩
      refine b_X12_addPerson_0 (by omega) ?_
      rw [frC.R 3526 rfl, e3526, nI_11, cl, nI_1]
      refine ⟨z, z, ?_⟩
      refine hk _ _ (R_add hRR hC (AddM.succ (AddM.zero (f := fun _ => x1) (r := fun _ => r) ((frC.R 3526 rfl).trans e3526) ((frC.R 3529 rfl).trans e3529)) (by omega) hl (fun _ _ => by omega)) (fun j _ => ⟨okV_0 v, hr⟩) (by omega))
    · have hn : ¬ n < 7 := fun q => c ((ltn (b := 7) (by omega) (by omega)).mpr q)
      refine b_X12_person_0 (by omega) ?_
      rw [e3521, e3526]
      refine ⟨fun _ => ⟨fun _ => ⟨fun q => absurd (show nI n = 7 by rw [show n = 7 by omega]; rfl) q, fun _ => hk _ _ old⟩, fun q => absurd ((cB (by omega)).mpr ⟨r, hr, rfl⟩) q⟩, fun q => absurd (okV0_iff.mpr v) q⟩
  · refine b_X12_person_0 (by omega) ?_
    rw [e3521, e3526]
    refine ⟨fun a => ⟨fun b => absurd ⟨okV0_iff.mp a, (cB (by omega)).mp b⟩ v, fun _ => hk _ _ old⟩, fun _ => hk _ _ old⟩
theorem div10_neg {x : Int32} (h : x < 0) : x / 10 < 0 ∨ x - x / 10 * 10 < 0 := by
  have h1 : x.toInt < 0 := by simpa using Int32.lt_iff_toInt_lt.mp h
  have h0 := Int32.le_toInt x
  have e : (x / 10).toInt = x.toInt.tdiv 10 := by
    rw [Int32.toInt_div]
    show (x.toInt.tdiv 10).bmod _ = _
    have h3 : -x.toInt / 10 = -(x.toInt.tdiv 10) := by
      rw [← Int.neg_tdiv, Int.tdiv_eq_ediv_of_nonneg (by omega)]
    apply i32_bmod <;> omega
  by_cases hc : x / 10 < 0
  · exact Or.inl hc
  · right
    have h2 : ¬ (x / 10).toInt < 0 := fun q => hc (Int32.lt_iff_toInt_lt.mpr (by simpa using q))
    have h3 : x / 10 = 0 := by
      apply Int32.toInt_inj.mp
      rw [e] at h2 ⊢
      have h3 : -x.toInt / 10 = -(x.toInt.tdiv 10) := by
        rw [← Int.neg_tdiv, Int.tdiv_eq_ediv_of_nonneg (by omega)]
      show x.toInt.tdiv 10 = 0
      omega
    rw [h3]
    simpa using h
theorem P_door (hd : 300 ≤ d) (hR : R σ) (x1 : Int32) (x2 : Int32) : PP l g d M_X11_door M_X12_door [.int x1, .int x2] σ := by
  intro K hk
  have old := hR
  obtain ⟨nr, nd, n, pl, nt, dn, un, nb, nq, hH, hT, hD, hU, hI, hB, hS, hL⟩ := hR
  obtain ⟨⟨H1, H2, H3⟩, ⟨e64, e3521⟩, ⟨e65, e3522⟩, ⟨e66, e3526⟩, e3530, h68, hdo, hpe, hgr, e3529⟩ := hH
  have kd : (¬ x2 < 0 ∧ ¬ 2 < x2) ↔ ∃ q, q < 3 ∧ x2 = nI q := cC (n := 3) 2 rfl (by omega)
  have neg1 : x1 < 0 → ¬ ((∃ j, j < nr ∧ x1 / 10 = nI j) ∧ ∃ j, j < nr ∧ x1 - x1 / 10 * 10 = nI j) := by
    rintro h ⟨⟨a, ha, e1⟩, ⟨b, hb, e2⟩⟩
    rcases div10_neg h with q | q
    · rw [e1] at q
      exact nI_pos (by omega) q
    · rw [e2] at q
      exact nI_pos (by omega) q
  have bad : ¬ (((∃ j, j < nr ∧ x1 / 10 = nI j) ∧ ∃ j, j < nr ∧ x1 - x1 / 10 * 10 = nI j) ∧ ¬ x1 / 10 = x1 - x1 / 10 * 10 ∧ ∃ q, q < 3 ∧ x2 = nI q) → CI l g M_X12_door d [.ref 55, .int x1, .int x2] σ (fun r2 σ2 => K (-1) r2 σ2) := by
    intro no
    refine b_X12_door_0 (by omega) ?_
    rw [e3521, e3522]
    refine ⟨fun _ => hk _ _ old, fun _ => ⟨fun a => ⟨fun b => ⟨fun _ => hk _ _ old, fun c => ⟨fun e => absurd ⟨⟨(cB (by omega)).mp a, (cB (by omega)).mp b⟩, c, kd.mp e⟩ no, fun _ => hk _ _ old⟩⟩, fun _ => hk _ _ old⟩, fun _ => hk _ _ old⟩⟩
  refine b_X11_door_0 (by omega) ?_
  rw [e64]
  refine ⟨fun a => ⟨fun b => ⟨fun c => ?_, fun c => ⟨fun e => ?_, fun e => ⟨fun f => ?_, fun f => ?_⟩⟩⟩, fun b => ?_⟩, fun a => ?_⟩
  · exact bad (fun q => q.2.1 c)
  · refine bad (fun q => ?_)
    exact (kd.mpr q.2.2).1 e
  · obtain ⟨i, hi, ei⟩ := (cA (by omega)).mp a
    obtain ⟨j, hj, ej⟩ := (cA (by omega)).mp b
    have hx2 : ¬ x2 < 0 ∧ ¬ 2 < x2 := ⟨e, by grind⟩
    obtain ⟨q, hq, eq⟩ := kd.mp hx2
    have hx1 : ¬ x1 < 0 := fun h => neg1 h ⟨⟨i, hi, ei⟩, ⟨j, hj, ej⟩⟩
    have hij : i ≠ j := fun h => c (by rw [ej, ei, h])
    rw [ej, ei, eq]
    have cl : (nI nd).toNatClampNeg = nd := nI_clamp (by omega)
    refine b_X2_addDoor_0 ?_
    rw [e65]
    rcases Nat.lt_or_ge nd 5 with hnd | hnd
    · have z : vp_in (nI nd) 5 := vp_in_nI (by omega) (by omega)
      rw [nI_11, cl, nI_1]
      refine ⟨fun _ => ⟨z, z, z, ?_⟩, fun q => absurd ((ltn (b := 5) (by omega) (by omega)).mpr hnd) q⟩
      refine b_X12_door_0 (by omega) ?_
      have frC : Fr [65] [2, 3, 4] σ (sR (sA (sA (sA σ 2 nd (nI i)) 3 nd (nI j)) 4 nd (nI q)) 65 (nI (nd + 1))) := (Fr.rf.wA.wA.wA.wR).mono (by simp) (by simp)
      have b1 : rg (sR (sA (sA (sA σ 2 nd (nI i)) 3 nd (nI j)) 4 nd (nI q)) 65 (nI (nd + 1))) 65 = nI (nd + 1) := rfl
      have b2 : ∀ t, ar (sR (sA (sA (sA σ 2 nd (nI i)) 3 nd (nI j)) 4 nd (nI q)) 65 (nI (nd + 1))) 2 t = if t = nd then nI i else ar σ 2 t := by
        intro t; simp [ar_sR, ar_sA]
      have b3 : ∀ t, ar (sR (sA (sA (sA σ 2 nd (nI i)) 3 nd (nI j)) 4 nd (nI q)) 65 (nI (nd + 1))) 3 t = if t = nd then nI j else ar σ 3 t := by
        intro t; simp [ar_sR, ar_sA]
      have b4 : ∀ t, ar (sR (sA (sA (sA σ 2 nd (nI i)) 3 nd (nI j)) 4 nd (nI q)) 65 (nI (nd + 1))) 4 t = if t = nd then nI q else ar σ 4 t := by
        intro t; simp [ar_sR, ar_sA]
      generalize (sR (sA (sA (sA σ 2 nd (nI i)) 3 nd (nI j)) 4 nd (nI q)) 65 (nI (nd + 1))) = τ at *
      rw [frC.R 3521 rfl, frC.R 3522 rfl, e3521, e3522, nI_11, cl, nI_1, ej, ei]
      have ha : ¬ nI i < 0 ∧ ¬ nI nr - 1 < nI i := (cB (by omega)).mpr ⟨i, hi, rfl⟩
      have hb : ¬ nI j < 0 ∧ ¬ nI nr - 1 < nI j := (cB (by omega)).mpr ⟨j, hj, rfl⟩
      refine ⟨fun q => absurd q hx1, fun _ => ⟨fun _ => ⟨fun _ => ⟨fun q => absurd (nI_inj (by omega) (by omega) q) hij, fun _ => ⟨fun _ => ⟨fun _ => ⟨z, z, z, ?_⟩, fun q => absurd (nI_inj (b := 5) (by omega) (by omega) q) (by omega)⟩, fun z => absurd (eq ▸ hx2) z⟩⟩, fun z => absurd hb z⟩, fun z => absurd ha z⟩⟩
      refine hk _ _ ?_
      have frM : Fr [3522] [56, 57, 58] τ (sR (sA (sA (sA τ 56 nd (nI i)) 57 nd (nI j)) 58 nd (nI q)) 3522 (nI (nd + 1))) := (Fr.rf.wA.wA.wA.wR).mono (by simp) (by simp)
      have m1 : rg (sR (sA (sA (sA τ 56 nd (nI i)) 57 nd (nI j)) 58 nd (nI q)) 3522 (nI (nd + 1))) 3522 = nI (nd + 1) := rfl
      have m2 : ∀ t, ar (sR (sA (sA (sA τ 56 nd (nI i)) 57 nd (nI j)) 58 nd (nI q)) 3522 (nI (nd + 1))) 56 t = if t = nd then nI i else ar τ 56 t := by
        intro t; simp [ar_sR, ar_sA]
      have m3 : ∀ t, ar (sR (sA (sA (sA τ 56 nd (nI i)) 57 nd (nI j)) 58 nd (nI q)) 3522 (nI (nd + 1))) 57 t = if t = nd then nI j else ar τ 57 t := by
        intro t; simp [ar_sR, ar_sA]
      have m4 : ∀ t, ar (sR (sA (sA (sA τ 56 nd (nI i)) 57 nd (nI j)) 58 nd (nI q)) 3522 (nI (nd + 1))) 58 t = if t = nd then nI q else ar τ 58 t := by
        intro t; simp [ar_sR, ar_sA]
      generalize (sR (sA (sA (sA τ 56 nd (nI i)) 57 nd (nI j)) 58 nd (nI q)) 3522 (nI (nd + 1))) = υ at *
      have fr := frC.tr frM
      refine ⟨nr, nd + 1, n, pl, nt, dn, un, nb, nq, ?_, hT.fr fr rfl rfl, hD.fr fr rfl rfl, (hU.mono (Nat.le_refl _) (by omega)).fr fr rfl rfl, hI.fr fr rfl rfl, hB.fr fr rfl rfl, hS.fr fr rfl rfl, hL.fr fr rfl rfl⟩
      unfold R_H
      rw [fr.R 64 rfl, fr.R 3521 rfl, frM.R 65 rfl, b1, m1, fr.R 66 rfl, fr.R 3526 rfl, fr.R 3530 rfl, fr.R 67 rfl, fr.R 3531 rfl, fr.R 68 rfl, fr.R 3529 rfl, frM.A 2 rfl, frM.A 3 rfl, frM.A 4 rfl, fr.A 5 rfl, fr.A 6 rfl, fr.A 7 rfl, fr.A 59 rfl, fr.A 60 rfl]
      refine ⟨⟨H1, by omega, H3⟩, ⟨e64, e3521⟩, ⟨rfl, rfl⟩, ⟨e66, e3526⟩, e3530, h68, fun t ht => ?_, hpe, hgr, e3529⟩
      rw [b2, b3, b4, m2, m3, m4, frC.A 56 rfl, frC.A 57 rfl, frC.A 58 rfl]
      by_cases et : t = nd
      · rw [if_pos et, if_pos et, if_pos et, if_pos et, if_pos et, if_pos et]
        exact ⟨i, j, q, ⟨hi, hj, hij, hq⟩, ⟨rfl, rfl⟩, ⟨rfl, rfl⟩, rfl, rfl⟩
      · rw [if_neg et, if_neg et, if_neg et, if_neg et, if_neg et, if_neg et]
        exact hdo t (by omega)
    · have h5 : nd = 5 := by omega
      subst h5
      refine ⟨fun q => absurd q (by decide), fun _ => ?_⟩
      refine b_X12_door_0 (by omega) ?_
      rw [e3521, e3522, ej, ei]
      have ha : ¬ nI i < 0 ∧ ¬ nI nr - 1 < nI i := (cB (by omega)).mpr ⟨i, hi, rfl⟩
      have hb : ¬ nI j < 0 ∧ ¬ nI nr - 1 < nI j := (cB (by omega)).mpr ⟨j, hj, rfl⟩
      exact ⟨fun q => absurd q hx1, fun _ => ⟨fun _ => ⟨fun _ => ⟨fun q => absurd (nI_inj (by omega) (by omega) q) hij, fun _ => ⟨fun _ => ⟨fun q => absurd rfl q, fun _ => hk _ _ old⟩, fun z => absurd (eq ▸ hx2) z⟩⟩, fun z => absurd hb z⟩, fun z => absurd ha z⟩⟩
  · refine bad (fun q => f ?_)
    have := (kd.mpr q.2.2).2
    grind
  · exact bad (fun q => b ((cA (by omega)).mpr q.1.2))
  · exact bad (fun q => a ((cA (by omega)).mpr q.1.1))
end House
