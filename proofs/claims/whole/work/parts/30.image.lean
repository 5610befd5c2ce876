/-! image and back; feed; of -/
section ImageJ
variable {l : Launch} {g : am_G} {d : Nat} {σ : am_S}
theorem c_take {n : Nat} {k : Int32 → am_S → Prop} (e66 : rg σ 66 = nI n) (hn : n ≤ 7) (H : ∀ τ, Fr [2049, 2050, 2051] [33] σ τ → (∀ j, j < n → ar τ 33 j = ar σ 7 j) → rg τ 2049 = nI n → rg τ 2050 = rg σ 67 → rg τ 2051 = 1 → k (nI n) τ) : CI l g M_X3_take d [.ref 32, .ref 1] σ k := by
  have loop : ∀ m i τ, i + m = n → Fr [] [33] σ τ → (∀ j, j < i → ar τ 33 j = ar σ 7 j) → JI l g M_X3_take d 2 [(0, .ref 32), (1, .ref 1), (2, .int (nI i))] [] τ k := by
    intro m
    induction m with
    | zero =>
      intro i τ h1 fr q
      have hi : i = n := by omega
      subst hi
      refine b_X3_take_2 ?_
      rw [fr.R 66 rfl, fr.R 67 rfl, e66]
      refine ⟨fun _ => ?_, fun q => absurd ((len (by omega) (by omega)).mpr (Nat.le_refl _)) q⟩
      exact H _ ((fr.wR.wR.wR).mono (by simp) (by simp)) q rfl rfl rfl
    | succ m ih =>
      intro i τ h1 fr q
      have z : vp_in (nI i) 7 := vp_in_nI (by omega) (by omega)
      have cl : (nI i).toNatClampNeg = i := nI_clamp (by omega)
      refine b_X3_take_2 ?_
      rw [fr.R 66 rfl, e66, cl, nI_1]
      refine ⟨fun q => absurd ((len (by omega) (by omega)).mp q) (by omega), fun _ => ⟨z, z, ?_⟩⟩
      refine ih (i + 1) _ (by omega) ((fr.wA).mono (by simp) (by simp)) (fun j hj => ?_)
      rw [ar_sA, fr.A 7 rfl]
      by_cases e : j = i
      · rw [if_pos ⟨rfl, e⟩, e]
      · rw [if_neg (fun z => e z.2)]
        exact q j (by omega)
  exact b_X3_take_0 (loop n 0 σ (by omega) (Fr.rf.mono (by simp) (by simp)) (fun j hj => absurd hj (by omega)))
theorem P_image (hd : 300 ≤ d) (hR : R σ) : PP l g d M_X11_image M_X12_image [] σ := by
  intro K hk
  obtain ⟨nr, nd, n, pl, nt, dn, un, nb, nq, hH, hT, hD, hU, hI, hB, hS, hL⟩ := hR
  obtain ⟨⟨H1, H2, H3⟩, ⟨e64, e3521⟩, ⟨e65, e3522⟩, ⟨e66, e3526⟩, e3530, h68, hdo, hpe, hgr, e3529⟩ := id hH
  refine b_X11_image_0 (by omega) (c_take e66 H3 (fun τ fr q1 q2 q3 q4 => ?_))
  refine b_X12_image_0 ?_
  rw [fr.R 3526 rfl, fr.R 3529 rfl, fr.R 3530 rfl, e3526, e3529, e3530]
  refine hk _ _ ?_
  have fr2 : Fr [3565, 3566, 3567, 3568] [] τ (sR (sR (sR (sR τ 3565 1) 3566 (nI n)) 3567 (nI (enc pl n))) 3568 (rg σ 67)) := (Fr.rf.wR.wR.wR.wR).mono (by simp) (by simp)
  have fra := fr.tr fr2
  refine ⟨nr, nd, n, pl, nt, dn, un, nb, nq, hH.fr fra rfl rfl, hT.fr fra rfl rfl, hD.fr fra rfl rfl, hU.fr fra rfl rfl, ?_, hB.fr fra rfl rfl, hS.fr fra rfl rfl, hL.fr fra rfl rfl⟩
  refine ⟨?_, Or.inr ⟨?_, n, pl, Nat.le_refl _, ⟨?_, rfl⟩, fun j hj => ⟨(hpe j hj).1, ?_⟩, rfl, ?_⟩⟩
  · rw [fr2.R 2051 rfl, q4]
    rfl
  · rw [fr2.R 2051 rfl, q4]
  · rw [fr2.R 2049 rfl, q2]
  · rw [fr2.A 33 rfl, q1 j hj]
    exact (hpe j hj).2.1
  · rw [fr2.R 2050 rfl, q3]
    rfl
theorem P_back (hd : 300 ≤ d) (hR : R σ) : PP l g d M_X11_back M_X12_back [] σ := by
  intro K hk
  have old := hR
  obtain ⟨nr, nd, n, pl, nt, dn, un, nb, nq, hH, hT, hD, hU, hI, hB, hS, hL⟩ := hR
  obtain ⟨⟨H1, H2, H3⟩, ⟨e64, e3521⟩, ⟨e65, e3522⟩, ⟨e66, e3526⟩, e3530, h68, hdo, hpe, hgr, e3529⟩ := id hH
  obtain ⟨i1, i2⟩ := id hI
  refine b_X11_back_0 (by omega) (b_X3_layBack_0 ?_)
  rcases i2 with i2 | ⟨i2, kn, pk, hkn, ⟨i3, i4⟩, i5, i6, i7⟩
  · rw [i2]
    refine ⟨fun q => absurd rfl q, fun _ => b_X12_back_0 ?_⟩
    rw [i1, i2]
    exact ⟨fun q => absurd rfl q, fun _ => hk _ _ old⟩
  · rw [i2]
    refine ⟨fun _ => ?_, fun q => absurd q (by decide)⟩
    have pk4 : ∀ j, j < kn → pk j < 4 := fun j hj => by have := (i5 j hj).1; omega
    have pl4 : ∀ j, j < n → pl j < 4 := fun j hj => by have := (hpe j hj).1; omega
    -- the reference, behind the class
    have back2 : ∀ τ, Fr [67] [7] σ τ → (∀ j, ar τ 7 j = if j < kn then nI (pk j) else ar σ 7 j) → rg τ 67 = rg σ 2050 → CI l g M_X12_back d [.ref 55] τ (fun r2 σ2 => K (nI kn) r2 σ2) := by
      intro τ fr q1 q2
      have mx : ∀ i, (fun j => if j < i then pk j else pl j) = (fun j => if j < i then pk j else pl j) := fun _ => rfl
      have loop : ∀ m i υ, i + m = kn → Fr [3529] [] τ υ → rg υ 3529 = nI (enc (fun j => if j < i then pk j else pl j) n) → JI l g M_X12_back d 12 [(0, .ref 55), (1, .int (nI i))] [] υ (fun r2 σ2 => K (nI kn) r2 σ2) := by
        intro m
        induction m with
        | zero =>
          intro i υ h1 fr2 q
          have hi : i = kn := by omega
          subst hi
          have fra := fr.tr fr2
          refine b_X12_back_12 (by omega) ?_
          rw [fra.R 3566 rfl, fra.R 3568 rfl, i4, i7]
          refine ⟨fun _ => hk _ _ ?_, fun q => absurd ((len (by omega) (by omega)).mpr (Nat.le_refl _)) q⟩
          have fr3 : Fr [3530] [] υ (sR υ 3530 (rg σ 2050)) := Fr.rf.wR
          have frb := fra.tr fr3
          refine ⟨nr, nd, n, (fun j => if j < i then pk j else pl j), nt, dn, un, nb, nq, ?_, hT.fr frb rfl rfl, hD.fr frb rfl rfl, hU.fr frb rfl rfl, hI.fr frb rfl rfl, hB.fr frb rfl rfl, hS.fr frb rfl rfl, hL.fr frb rfl rfl⟩
          unfold R_H
          rw [frb.R 64 rfl, frb.R 3521 rfl, frb.R 65 rfl, frb.R 3522 rfl, frb.R 66 rfl, frb.R 3526 rfl, (fr2.tr fr3).R 67 rfl, q2, frb.R 3531 rfl, frb.R 68 rfl, fr3.R 3529 rfl, q, frb.A 2 rfl, frb.A 3 rfl, frb.A 4 rfl, frb.A 5 rfl, frb.A 6 rfl, (fr2.tr fr3).A 7 rfl, frb.A 56 rfl, frb.A 57 rfl, frb.A 58 rfl, frb.A 59 rfl, frb.A 60 rfl]
          refine ⟨⟨H1, H2, H3⟩, ⟨e64, e3521⟩, ⟨e65, e3522⟩, ⟨e66, e3526⟩, rfl, h68, hdo, fun j hj => ?_, hgr, rfl⟩
          obtain ⟨p1, p2, p3⟩ := hpe j hj
          rw [q1]
          dsimp only
          by_cases e : j < i
          · rw [if_pos e, if_pos e]
            exact ⟨(i5 j e).1, rfl, p3⟩
          · rw [if_neg e, if_neg e]
            exact ⟨p1, p2, p3⟩
        | succ m ih =>
          intro i υ h1 fr2 q
          have fra := fr.tr fr2
          refine b_X12_back_12 (by omega) ?_
          have hm4 : ∀ j, j < n → (if j < i then pk j else pl j) < 4 := by
            intro j hj
            split
            · exact pk4 j (by omega)
            · exact pl4 j hj
          have er : (nI (enc pk kn) >>> ((2 * nI i) &&& 31)) &&& 3 = nI (pk i) := by
            rw [room_enc (by omega) (by omega) pk4, if_pos (by omega)]
          rw [fra.R 3566 rfl, i4, fra.R 3567 rfl, i6, er, q, enc_put (n2 := n) (by omega) (by omega) hm4 (pk4 i (by omega)) (Or.inl rfl), nI_1]
          refine ⟨fun q => absurd ((len (by omega) (by omega)).mp q) (by omega), fun _ => ih (i + 1) _ (by omega) ((fr2.wR).mono (by simp) (by simp)) ?_⟩
          show nI _ = nI _
          congr 1
          refine enc_congr (fun j hj => ?_)
          unfold pu
          by_cases e : j = i
          · rw [if_pos e, if_pos (by omega), e]
          · rw [if_neg e]
            dsimp only
            by_cases e2 : j < i
            · rw [if_pos e2, if_pos (by omega)]
            · rw [if_neg e2, if_neg (by omega)]
      refine b_X12_back_0 ?_
      rw [fr.R 3565 rfl, i1, i2]
      refine ⟨fun _ => loop kn 0 τ (by omega) (Fr.rf.mono (by simp) (by simp)) ?_, fun q => absurd q (by decide)⟩
      rw [fr.R 3529 rfl, e3529]
      congr 1
    have loop : ∀ m i τ, i + m = kn → Fr [] [7] σ τ → (∀ j, ar τ 7 j = if j < i then nI (pk j) else ar σ 7 j) → JI l g M_X3_layBack (d - 1) 12 [(0, .ref 32), (1, .ref 1), (2, .int (nI i))] [] τ (fun r1 σ1 => CI l g M_X12_back d [.ref 55] σ1 (fun r2 σ2 => K r1 r2 σ2)) := by
      intro m
      induction m with
      | zero =>
        intro i τ h1 fr q
        have hi : i = kn := by omega
        subst hi
        refine b_X3_layBack_12 ?_
        rw [fr.R 2049 rfl, fr.R 2050 rfl, i3]
        refine ⟨fun _ => ?_, fun q => absurd ((len (by omega) (by omega)).mpr (Nat.le_refl _)) q⟩
        exact back2 _ fr.wR q rfl
      | succ m ih =>
        intro i τ h1 fr q
        have z : vp_in (nI i) 7 := vp_in_nI (by omega) (by omega)
        have cl : (nI i).toNatClampNeg = i := nI_clamp (by omega)
        refine b_X3_layBack_12 ?_
        rw [fr.R 2049 rfl, i3, cl, nI_1]
        refine ⟨fun q => absurd ((len (by omega) (by omega)).mp q) (by omega), fun _ => ⟨z, z, ?_⟩⟩
        refine ih (i + 1) _ (by omega) ((fr.wA).mono (by simp) (by simp)) (fun j => ?_)
        rw [ar_sA, fr.A 33 rfl, (i5 i (by omega)).2]
        by_cases e : j = i
        · rw [if_pos ⟨rfl, e⟩, e, if_pos (by omega)]
        · rw [if_neg (fun z => e z.2), q]
          by_cases e2 : j < i
          · rw [if_pos e2, if_pos (by omega)]
          · rw [if_neg e2, if_neg (by omega)]
    exact loop kn 0 σ (by omega) (Fr.rf.mono (by simp) (by simp)) (fun j => by rw [if_neg (by omega)])
theorem nar_b (x : Int32) : vp_nar .byte x.toInt8.toInt32 = x.toInt8.toInt32 := pk_vb x
theorem P_feed (hd : 300 ≤ d) (hR : R σ) (x1 : Int32) : PP l g d M_X11_feed M_X12_feed [.int x1] σ := by
  intro K hk
  have old := hR
  obtain ⟨nr, nd, n, pl, nt, dn, un, nb, nq, hH, hT, hD, hU, hI, hB, hS, hL⟩ := hR
  obtain ⟨t1, ⟨t2, t3⟩, t4⟩ := id hT
  have cl : (nI nt).toNatClampNeg = nt := nI_clamp (by omega)
  refine b_X11_feed_0 (by omega) ⟨fun a => ?_, fun a => ⟨fun b => ?_, fun b => ?_⟩⟩
  · exact b_X12_feed_0 (by omega) ⟨fun q => absurd a q.1, fun _ => hk _ _ old⟩
  · have hx : ¬ x1 < 0 ∧ ¬ 255 < x1 := ⟨a, by grind⟩
    refine b_X10_take_0 ?_
    rw [t2]
    rcases Nat.lt_or_ge nt 120 with h | h
    · have z : vp_in (nI nt) 120 := vp_in_nI (by omega) (by omega)
      rw [cl, nI_1]
      refine ⟨fun _ => ⟨z, fun q => absurd q (by decide), fun _ => ?_⟩, fun q => absurd ((ltn (b := 120) (by omega) (by omega)).mpr h) q⟩
      have frC : Fr [513] [9] σ (sR (sA σ 9 nt x1) 513 (nI (nt + 1))) := (Fr.rf.wA.wR).mono (by simp) (by simp)
      have b1 : rg (sR (sA σ 9 nt x1) 513 (nI (nt + 1))) 513 = nI (nt + 1) := rfl
      have b2 : ∀ j, ar (sR (sA σ 9 nt x1) 513 (nI (nt + 1))) 9 j = if j = nt then x1 else ar σ 9 j := by
        intro j; simp [ar_sR, ar_sA]
      generalize (sR (sA σ 9 nt x1) 513 (nI (nt + 1))) = τ at *
      rw [b1]
      refine b_X12_feed_0 (by omega) ?_
      rw [frC.R 3539 rfl, t3, cl, nI_1, nar_b]
      refine ⟨fun _ => ⟨fun _ => ⟨z, hk _ _ ?_⟩, fun q => absurd (nI_inj (b := 120) (by omega) (by omega) q) (by omega)⟩, fun q => absurd hx q⟩
      have frM : Fr [3539] [65] τ (sR (sA τ 65 nt x1.toInt8.toInt32) 3539 (nI (nt + 1))) := (Fr.rf.wA.wR).mono (by simp) (by simp)
      have m2 : ∀ j, ar (sR (sA τ 65 nt x1.toInt8.toInt32) 3539 (nI (nt + 1))) 65 j = if j = nt then x1.toInt8.toInt32 else ar τ 65 j := by
        intro j; simp [ar_sR, ar_sA]
      have fr := frC.tr frM
      refine ⟨nr, nd, n, pl, nt + 1, dn, un, nb, nq, hH.fr fr rfl rfl, ?_, hD.fr fr rfl rfl, hU.fr fr rfl rfl, hI.fr fr rfl rfl, hB.fr fr rfl rfl, hS.fr fr rfl rfl, hL.fr fr rfl rfl⟩
      refine ⟨by omega, ⟨(frM.R 513 rfl).trans b1, rfl⟩, fun j hj => ?_⟩
      rw [m2, frM.A 9 rfl, b2, frC.A 65 rfl]
      by_cases e : j = nt
      · rw [if_pos e, if_pos e]
        exact ⟨⟨by grind, by grind⟩, rfl⟩
      · rw [if_neg e, if_neg e]
        exact t4 j (by omega)
    · have h120 : nt = 120 := by omega
      subst h120
      refine ⟨fun q => absurd q (by decide), fun _ => ⟨fun _ => b_X12_feed_0 (by omega) ?_, fun q => absurd rfl q⟩⟩
      rw [t3]
      exact ⟨fun _ => ⟨fun q => absurd rfl q, fun _ => hk _ _ old⟩, fun q => absurd hx q⟩
  · refine b_X12_feed_0 (by omega) ⟨fun q => absurd q.2 ?_, fun _ => hk _ _ old⟩
    intro z
    grind
end ImageJ
