/-! undo and redo -/
theorem setC_ar {σ υ : am_S} {w j : Nat} {v : Int32} (b58 : ar υ 4 = ar σ 4) (b59 : ar υ 5 = ar σ 5) (b60 : ar υ 6 = ar σ 6) : ∀ a ∈ ([4, 5, 6] : List Nat), ar (setC υ w j v) a = ar (setC σ w j v) a := by
  intro a ha
  have h : ar υ a = ar σ a := by
    simp only [List.mem_cons, List.not_mem_nil, or_false] at ha
    rcases ha with rfl | rfl | rfl
    · exact b58
    · exact b59
    · exact b60
  funext i
  have hi := congrFun h i
  unfold setC
  split
  · rw [ar_sA, ar_sA, hi]
  · split
    · rw [ar_sA, ar_sA, hi]
    · split
      · rw [ar_sA, ar_sA, hi]
      · exact hi
theorem setC_rg {σ υ : am_S} {w j : Nat} {v : Int32} (b : rg υ 68 = rg σ 68) : rg (setC υ w j v) 68 = rg (setC σ w j v) 68 := by
  unfold setC
  split
  · exact b
  · split
    · exact b
    · split
      · exact b
      · rfl
theorem setM_rg {σ υ : am_S} {w j : Nat} {v : Int32} (b : rg υ 3531 = rg σ 3531) : rg (setM υ w j v) 3531 = rg (setM σ w j v) 3531 := by
  unfold setM
  split
  · exact b
  · split
    · exact b
    · split
      · exact b
      · rfl
/-- an entry of the two logs -/
theorem RU_at {σ : am_S} {n nd dn un i : Nat} (h : R_U σ n nd dn un) (hi : i < dn + un) : ∃ w j, okW n nd w j ∧ (ar σ 36 i = nI w ∧ ar σ 61 i = nI w) ∧ (ar σ 35 i = nI j ∧ ar σ 62 i = nI j) ∧ (ar σ 63 i = ar σ 37 i ∧ ar σ 64 i = ar σ 38 i) ∧ (0 ≤ ar σ 37 i ∧ 0 ≤ ar σ 38 i) ∧ (w = 2 → (∃ q, q < 3 ∧ ar σ 37 i = nI q) ∧ ∃ q, q < 3 ∧ ar σ 38 i = nI q) := by
  obtain ⟨⟨e1, e2, e3, e4⟩, q2, q3⟩ := h.2.2.2 i hi
  rcases q3 with ⟨z, p, hp, e⟩ | ⟨z, p, hp, e⟩ | ⟨z, ⟨p, hp, e⟩, w⟩ | ⟨z, e⟩
  · exact ⟨0, p, Or.inl ⟨rfl, hp⟩, ⟨z, e2.trans z⟩, ⟨e, e1.trans e⟩, ⟨e3, e4⟩, q2, fun q => absurd q (by decide)⟩
  · exact ⟨1, p, Or.inr (Or.inl ⟨rfl, hp⟩), ⟨z, e2.trans z⟩, ⟨e, e1.trans e⟩, ⟨e3, e4⟩, q2, fun q => absurd q (by decide)⟩
  · exact ⟨2, p, Or.inr (Or.inr (Or.inl ⟨rfl, hp⟩)), ⟨z, e2.trans z⟩, ⟨e, e1.trans e⟩, ⟨e3, e4⟩, q2, fun _ => w⟩
  · exact ⟨3, 0, Or.inr (Or.inr (Or.inr ⟨rfl, rfl⟩)), ⟨z, e2.trans z⟩, ⟨e, e1.trans e⟩, ⟨e3, e4⟩, q2, fun q => absurd q (by decide)⟩
/-- R behind a change of a number and of the logs' two counts -/
theorem R_set {σ σa σc : am_S} {nr nd n nt dn un nb nq dn2 un2 w j : Nat} {pl : Nat → Nat} {v : Int32} (h : RR σ nr nd n pl nt dn un nb nq) (ok : okW n nd w j) (hv : 0 ≤ v) (hk : w = 2 → ∃ q, q < 3 ∧ v = nI q)
    (frA : Fr [2180, 2181] [] σ σa) (frC : Fr [3532, 3533] [] (setC σa w j v) σc) {σe : am_S} (frE : Fr [2180, 2181, 3532, 3533] [] (setM σc w j v) σe) (hs : dn2 + un2 = dn + un) (e1 : rg σe 2180 = nI dn2) (e2 : rg σe 3532 = nI dn2) (e3 : rg σe 2181 = nI un2) (e4 : rg σe 3533 = nI un2) : R σe := by
  obtain ⟨hH, hT, hD, hU, hI, hB, hS, hL⟩ := h
  have fr1 : Fr [68] [4, 5, 6] σa (setC σa w j v) := setC_fr
  have fr2 : Fr [3531] [58, 59, 60] σc (setM σc w j v) := setM_fr
  have fra := (((frA.tr fr1).tr frC).tr fr2).tr frE
  have frm := (frA.tr fr1).tr frC
  have frc := (frC.tr fr2).tr frE
  refine ⟨nr, nd, n, pl, nt, dn2, un2, nb, nq, ?_, hT.fr fra rfl rfl, hD.fr fra rfl rfl, ?_, hI.fr fra rfl rfl, hB.fr fra rfl rfl, hS.fr fra rfl rfl, hL.fr fra rfl rfl⟩
  · refine RH_set hH ok hv hk ?_ ?_ ?_ ?_ ?_ ?_
    · intro r hr
      simp only [List.mem_cons, List.not_mem_nil, or_false] at hr
      rcases hr with rfl | rfl | rfl | rfl | rfl | rfl | rfl | rfl | rfl <;> exact fra.R _ rfl
    · intro r hr
      simp only [List.mem_cons, List.not_mem_nil, or_false] at hr
      rcases hr with rfl | rfl | rfl | rfl | rfl <;> exact fra.A _ rfl
    · exact (frc.R 68 rfl).trans (setC_rg (frA.R 68 rfl))
    · intro a ha
      refine Eq.trans ?_ (setC_ar (frA.A 4 rfl) (frA.A 5 rfl) (frA.A 6 rfl) a ha)
      simp only [List.mem_cons, List.not_mem_nil, or_false] at ha
      rcases ha with rfl | rfl | rfl <;> exact frc.A _ rfl
    · exact (frE.R 3531 rfl).trans (setM_rg (frm.R 3531 rfl))
    · intro a ha
      refine Eq.trans ?_ (setM_ar (frm.A 58 rfl) (frm.A 59 rfl) (frm.A 60 rfl) a ha)
      simp only [List.mem_cons, List.not_mem_nil, or_false] at ha
      rcases ha with rfl | rfl | rfl <;> exact frE.A _ rfl
  · obtain ⟨a1, a2, a3, a4⟩ := hU
    refine ⟨by omega, ⟨e1, e2⟩, ⟨e3, e4⟩, ?_⟩
    rw [hs, fra.A 35 rfl, fra.A 36 rfl, fra.A 37 rfl, fra.A 38 rfl, fra.A 61 rfl, fra.A 62 rfl, fra.A 63 rfl, fra.A 64 rfl]
    exact a4
theorem ar_1 {a b : Nat} (h : 0 < a) : a - 1 + (b + 1) = a + b := by omega
theorem ar_2 {a b : Nat} (h : 0 < b) : a + 1 + (b - 1) = a + b := by omega
section Undo
variable {l : Launch} {g : am_G} {d : Nat} {σ : am_S}
theorem P_undo (hd : 300 ≤ d) (hR : R σ) : PP l g d M_X11_undo M_X12_undo [] σ := by
  intro K hk
  have old := hR
  obtain ⟨nr, nd, n, pl, nt, dn, un, nb, nq, hRR⟩ := hR
  obtain ⟨hH, hT, hD, hU, hI, hB, hS, hL⟩ := id hRR
  obtain ⟨⟨H1, H2, H3⟩, h64, ⟨e65, e22⟩, ⟨e66, e26⟩, -⟩ := id hH
  obtain ⟨u1, ⟨u2, u3⟩, ⟨u4, u5⟩, -⟩ := id hU
  refine b_X11_undo_0 (by omega) ?_
  rw [u2]
  rcases Nat.eq_zero_or_pos dn with rfl | hpos
  · refine ⟨fun q => absurd rfl q, fun _ => b_X12_undo_0 (by omega) ?_⟩
    rw [u3]
    exact ⟨fun q => absurd rfl q, fun _ => hk _ _ old⟩
  · obtain ⟨w, j, ok, ⟨v1, v2⟩, ⟨v3, v4⟩, ⟨v5, v6⟩, ⟨v7, v8⟩, v9⟩ := RU_at hU (i := dn - 1) (by omega)
    have p1 : nI dn - 1 = nI (dn - 1) := by
      rw [show dn = (dn - 1) + 1 by omega, nI_pred]
      rfl
    have z : vp_in (nI (dn - 1)) 40 := vp_in_nI (by omega) (by omega)
    have cl : (nI (dn - 1)).toNatClampNeg = dn - 1 := nI_clamp (by omega)
    have ne : ¬ nI dn = 0 := nI_ne0 hpos (by omega)
    refine ⟨fun _ => ?_, fun q => absurd q ne⟩
    refine b_X5_takeBack_0 (by omega) ?_
    rw [u2, p1, cl, v1, v3, u4, nI_1]
    refine ⟨fun q => absurd q (nI_nle hpos (by omega)), fun _ => ⟨z, z, z, ?_⟩⟩
    refine c_setNumber (by omega) e66 e65 H3 H2 ok ?_
    generalize hv : ar σ 37 (dn - 1) = v at *
    have frA : Fr [2180, 2181] [] σ (sR (sR σ 2180 (nI (dn - 1))) 2181 (nI (un + 1))) := (Fr.rf.wR.wR).mono (by simp) (by simp)
    have a1 : rg (sR (sR σ 2180 (nI (dn - 1))) 2181 (nI (un + 1))) 2180 = nI (dn - 1) := rfl
    have a2 : rg (sR (sR σ 2180 (nI (dn - 1))) 2181 (nI (un + 1))) 2181 = nI (un + 1) := rfl
    generalize (sR (sR σ 2180 (nI (dn - 1))) 2181 (nI (un + 1))) = σa at *
    have fr1 : Fr [68] [4, 5, 6] σa (setC σa w j v) := setC_fr
    have frm := frA.tr fr1
    rw [fr1.R 2180 rfl, a1]
    refine b_X12_undo_0 (by omega) ?_
    rw [frm.R 3532 rfl, u3, p1, cl, frm.A 61 rfl, frm.A 62 rfl, frm.A 63 rfl, v2, v4, v5, frm.R 3533 rfl, u5, nI_1]
    refine ⟨fun _ => ⟨z, z, z, ?_⟩, fun q => absurd q ne⟩
    refine c_lays H3 H2 ok ?_
    have frC : Fr [3532, 3533] [] (setC σa w j v) (sR (sR (setC σa w j v) 3532 (nI (dn - 1))) 3533 (nI (un + 1))) := (Fr.rf.wR.wR).mono (by simp) (by simp)
    have c1 : rg (sR (sR (setC σa w j v) 3532 (nI (dn - 1))) 3533 (nI (un + 1))) 3532 = nI (dn - 1) := rfl
    have c2 : rg (sR (sR (setC σa w j v) 3532 (nI (dn - 1))) 3533 (nI (un + 1))) 3533 = nI (un + 1) := rfl
    generalize (sR (sR (setC σa w j v) 3532 (nI (dn - 1))) 3533 (nI (un + 1))) = σc at *
    have fr2 : Fr [3531] [58, 59, 60] σc (setM σc w j v) := setM_fr
    rw [fr2.R 3532 rfl, c1]
    refine hk _ _ (R_set hRR ok v7 (fun e => (v9 e).1) frA frC (Fr.rf.mono (by simp) (by simp)) (dn2 := dn - 1) (un2 := un + 1) (ar_1 hpos) ?_ ?_ ?_ ?_)
    · exact (fr2.R 2180 rfl).trans ((frC.R 2180 rfl).trans ((fr1.R 2180 rfl).trans a1))
    · exact (fr2.R 3532 rfl).trans c1
    · exact (fr2.R 2181 rfl).trans ((frC.R 2181 rfl).trans ((fr1.R 2181 rfl).trans a2))
    · exact (fr2.R 3533 rfl).trans c2
theorem P_redo (hd : 300 ≤ d) (hR : R σ) : PP l g d M_X11_redo M_X12_redo [] σ := by
  intro K hk
  have old := hR
  obtain ⟨nr, nd, n, pl, nt, dn, un, nb, nq, hRR⟩ := hR
  obtain ⟨hH, hT, hD, hU, hI, hB, hS, hL⟩ := id hRR
  obtain ⟨⟨H1, H2, H3⟩, h64, ⟨e65, e22⟩, ⟨e66, e26⟩, -⟩ := id hH
  obtain ⟨u1, ⟨u2, u3⟩, ⟨u4, u5⟩, -⟩ := id hU
  refine b_X11_redo_0 (by omega) ?_
  rw [u4]
  rcases Nat.eq_zero_or_pos un with rfl | hpos
  · refine ⟨fun q => absurd rfl q, fun _ => b_X12_redo_0 (by omega) ?_⟩
    rw [u5]
    exact ⟨fun q => absurd rfl q, fun _ => hk _ _ old⟩
  · obtain ⟨w, j, ok, ⟨v1, v2⟩, ⟨v3, v4⟩, ⟨v5, v6⟩, ⟨v7, v8⟩, v9⟩ := RU_at hU (i := dn) (by omega)
    have p1 : nI un - 1 = nI (un - 1) := by
      rw [show un = (un - 1) + 1 by omega, nI_pred]
      rfl
    have z : vp_in (nI dn) 40 := vp_in_nI (by omega) (by omega)
    have cl : (nI dn).toNatClampNeg = dn := nI_clamp (by omega)
    have ne : ¬ nI un = 0 := nI_ne0 hpos (by omega)
    refine ⟨fun _ => ?_, fun q => absurd q ne⟩
    refine b_X5_doAgain_0 (by omega) ?_
    rw [u4, u2, cl, v1, v3]
    refine ⟨fun q => absurd q (nI_nle hpos (by omega)), fun _ => ⟨fun q => absurd ((len (a := 40) (by omega) (by omega)).mp q) (by omega), fun _ => ⟨z, z, z, ?_⟩⟩⟩
    refine c_setNumber (by omega) e66 e65 H3 H2 ok ?_
    generalize hv : ar σ 38 dn = v at *
    have fr1 : Fr [68] [4, 5, 6] σ (setC σ w j v) := setC_fr
    rw [fr1.R 2180 rfl, fr1.R 2181 rfl, u2, u4, p1, nI_1]
    have a2 : rg (sR (sR (setC σ w j v) 2180 (nI (dn + 1))) 2181 (nI (un - 1))) 2181 = nI (un - 1) := rfl
    rw [a2]
    have frB : Fr [2180, 2181] [] (setC σ w j v) (sR (sR (setC σ w j v) 2180 (nI (dn + 1))) 2181 (nI (un - 1))) := (Fr.rf.wR.wR).mono (by simp) (by simp)
    have frm := fr1.tr frB
    have eC : sR (sR (setC σ w j v) 2180 (nI (dn + 1))) 2181 (nI (un - 1)) = setC (sR (sR σ 2180 (nI (dn + 1))) 2181 (nI (un - 1))) w j v := by
      rcases ok with ⟨rfl, -⟩ | ⟨rfl, -⟩ | ⟨rfl, -⟩ | ⟨rfl, -⟩
      · rfl
      · rfl
      · rfl
      · show ((fun i => if i = 2181 then nI (un - 1) else if i = 2180 then nI (dn + 1) else if i = 68 then v else rg σ i), σ.2) = ((fun i => if i = 68 then v else if i = 2181 then nI (un - 1) else if i = 2180 then nI (dn + 1) else rg σ i), σ.2)
        congr 1
        funext i
        by_cases h1 : i = 68
        · subst h1
          rfl
        · rw [if_neg h1, if_neg h1]
    generalize hσb : sR (sR (setC σ w j v) 2180 (nI (dn + 1))) 2181 (nI (un - 1)) = σb at *
    refine b_X12_redo_0 (by omega) ?_
    rw [frm.R 3533 rfl, frm.R 3532 rfl, u5, u3, cl, frm.A 61 rfl, frm.A 62 rfl, frm.A 64 rfl, v2, v4, v6]
    refine ⟨fun _ => ⟨z, z, z, ?_⟩, fun q => absurd q ne⟩
    refine c_lays H3 H2 ok ?_
    have fr2 : Fr [3531] [58, 59, 60] σb (setM σb w j v) := setM_fr
    rw [fr2.R 3533 rfl, fr2.R 3532 rfl, frm.R 3533 rfl, frm.R 3532 rfl, u5, u3, p1, nI_1]
    have frE : Fr [2180, 2181, 3532, 3533] [] (setM σb w j v) (sR (sR (setM σb w j v) 3532 (nI (dn + 1))) 3533 (nI (un - 1))) := (Fr.rf.wR.wR).mono (by simp) (by simp)
    have frA : Fr [2180, 2181] [] σ (sR (sR σ 2180 (nI (dn + 1))) 2181 (nI (un - 1))) := (Fr.rf.wR.wR).mono (by simp) (by simp)
    refine hk _ _ (R_set hRR ok v8 (fun e => (v9 e).2) (σc := σb) frA (by rw [← eC]; exact Fr.rf.mono (by simp) (by simp)) frE (dn2 := dn + 1) (un2 := un - 1) (ar_2 hpos) ?_ rfl ?_ rfl)
    · have : rg σb 2180 = nI (dn + 1) := by rw [← hσb]; rfl
      exact (fr2.R 2180 rfl).trans this
    · have : rg σb 2181 = nI (un - 1) := by rw [← hσb]; rfl
      exact (fr2.R 2181 rfl).trans this
end Undo
