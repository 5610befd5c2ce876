/-! mend, undo, redo: the pairs -/
def okV (w : Nat) (v : Int32) : Prop := (w = 0 ∧ ¬ v < 1 ∧ ¬ 99 < v) ∨ (w = 1 ∧ ¬ v < 0 ∧ ¬ 9 < v) ∨ (w = 2 ∧ ¬ v < 0 ∧ ¬ 2 < v) ∨ (w = 3 ∧ ¬ v < 0 ∧ ¬ 20 < v)
theorem okW_lt {n nd w j : Nat} (h : okW n nd w j) (hn : n ≤ 7) (hnd : nd ≤ 5) : w < 4 ∧ j < 7 := by
  unfold okW at h
  omega
theorem setM_ar {σ υ : am_S} {w j : Nat} {v : Int32} (b58 : ar υ 58 = ar σ 58) (b59 : ar υ 59 = ar σ 59) (b60 : ar υ 60 = ar σ 60) : ∀ a ∈ ([58, 59, 60] : List Nat), ar (setM υ w j v) a = ar (setM σ w j v) a := by
  intro a ha
  have h : ar υ a = ar σ a := by
    simp only [List.mem_cons, List.not_mem_nil, or_false] at ha
    rcases ha with rfl | rfl | rfl
    · exact b58
    · exact b59
    · exact b60
  funext i
  have hi := congrFun h i
  unfold setM
  split
  · rw [ar_sA, ar_sA, hi]
  · split
    · rw [ar_sA, ar_sA, hi]
    · split
      · rw [ar_sA, ar_sA, hi]
      · exact hi
section Mend2
variable {l : Launch} {g : am_G} {d : Nat} {σ : am_S}
theorem sw_rng {x v : Int32} {hi : Int} (e : x = v) (h : 0 ≤ v.toInt ∧ v.toInt ≤ hi) : ¬ (x.toInt < 0 ∨ hi < x.toInt) := by
  rw [e]
  omega
theorem c_number_ok {n nd w j : Nat} {k : Int32 → am_S → Prop} (hd : 10 ≤ d) (e66 : rg σ 66 = nI n) (e65 : rg σ 65 = nI nd) (hn : n ≤ 7) (hnd : nd ≤ 5) (ok : okW n nd w j) (H : k (getC σ w j) σ) : CI l g M_X2_number d [.ref 1, .int (nI j), .int (nI w)] σ k := by
  have cl : ∀ {m : Nat}, m < 2 ^ 31 → (nI m).toNatClampNeg = m := fun h => nI_clamp h
  refine b_X2_number_0 (by omega) ?_
  rw [e66, e65]
  rcases ok with ⟨rfl, hj⟩ | ⟨rfl, hj⟩ | ⟨rfl, hj⟩ | ⟨rfl, rfl⟩
  · refine ⟨fun q => absurd q (by decide), fun _ => ⟨fun _ => ⟨vp_in_nI (by omega) (by omega), by rw [cl (by omega)]; exact H⟩, fun q => absurd ((cA (by omega)).mpr ⟨j, hj, rfl⟩) q⟩, fun q => absurd q (by decide), fun q => absurd q (by decide), fun q => absurd q (by decide)⟩
  · refine ⟨fun q => absurd q (by decide), fun q => absurd q (by decide), fun _ => ⟨fun _ => ⟨vp_in_nI (by omega) (by omega), by rw [cl (by omega)]; exact H⟩, fun q => absurd ((cA (by omega)).mpr ⟨j, hj, rfl⟩) q⟩, fun q => absurd q (by decide), fun q => absurd q (by decide)⟩
  · refine ⟨fun q => absurd q (by decide), fun q => absurd q (by decide), fun q => absurd q (by decide), fun _ => ⟨fun _ => ⟨vp_in_nI (by omega) (by omega), by rw [cl (by omega)]; exact H⟩, fun q => absurd ((cA (by omega)).mpr ⟨j, hj, rfl⟩) q⟩, fun q => absurd q (by decide)⟩
  · exact ⟨fun q => absurd q (by decide), fun q => absurd q (by decide), fun q => absurd q (by decide), fun q => absurd q (by decide), fun _ => ⟨fun q => absurd rfl q, fun _ => H⟩⟩
theorem c_number_no {n nd : Nat} {x1 x2 : Int32} {k : Int32 → am_S → Prop} (hd : 10 ≤ d) (e66 : rg σ 66 = nI n) (e65 : rg σ 65 = nI nd) (hn : n ≤ 7) (hnd : nd ≤ 5) (no : ¬ ∃ w j, okW n nd w j ∧ x1 = nI j ∧ x2 = nI w) (H : k (-1) σ) : CI l g M_X2_number d [.ref 1, .int x1, .int x2] σ k := by
  refine b_X2_number_0 (by omega) ?_
  rw [e66, e65]
  refine ⟨fun _ => H, fun a => ⟨fun q => ?_, fun _ => H⟩, fun a => ⟨fun q => ?_, fun _ => H⟩, fun a => ⟨fun q => ?_, fun _ => H⟩, fun a => ⟨fun _ => H, fun q => ?_⟩⟩
  · obtain ⟨j, hj, e⟩ := (cA (by omega)).mp q
    exact absurd ⟨0, j, Or.inl ⟨rfl, hj⟩, e, a⟩ no
  · obtain ⟨j, hj, e⟩ := (cA (by omega)).mp q
    exact absurd ⟨1, j, Or.inr (Or.inl ⟨rfl, hj⟩), e, a⟩ no
  · obtain ⟨j, hj, e⟩ := (cA (by omega)).mp q
    exact absurd ⟨2, j, Or.inr (Or.inr (Or.inl ⟨rfl, hj⟩)), e, a⟩ no
  · exact absurd ⟨3, 0, Or.inr (Or.inr (Or.inr ⟨rfl, rfl⟩)), q, a⟩ no
theorem c_canBecome {w : Nat} {v : Int32} {k : Int32 → am_S → Prop} (hw : w < 4) (h1 : okV w v → k 1 σ) (h0 : ¬ okV w v → k 0 σ) : CI l g M_X2_canBecome d [.int (nI w), .int v] σ k := by
  match w, hw with
  | 0, _ =>
    refine b_X2_canBecome_0 ⟨fun q => absurd q (by decide), fun _ => ⟨fun a => h0 ?_, fun a => ⟨fun b => h0 ?_, fun b => h1 (Or.inl ⟨rfl, a, b⟩)⟩⟩, fun q => absurd q (by decide), fun q => absurd q (by decide), fun q => absurd q (by decide)⟩
    · rintro (⟨-, p, q⟩ | ⟨p, -⟩ | ⟨p, -⟩ | ⟨p, -⟩) <;> first | exact p a | exact absurd p (by decide)
    · rintro (⟨-, p, q⟩ | ⟨p, -⟩ | ⟨p, -⟩ | ⟨p, -⟩) <;> first | exact q b | exact absurd p (by decide)
  | 1, _ =>
    refine b_X2_canBecome_0 ⟨fun q => absurd q (by decide), fun q => absurd q (by decide), fun _ => ⟨fun a => h0 ?_, fun a => ⟨fun b => h0 ?_, fun b => h1 (Or.inr (Or.inl ⟨rfl, a, b⟩))⟩⟩, fun q => absurd q (by decide), fun q => absurd q (by decide)⟩
    · rintro (⟨p, -⟩ | ⟨-, p, q⟩ | ⟨p, -⟩ | ⟨p, -⟩) <;> first | exact p a | exact absurd p (by decide)
    · rintro (⟨p, -⟩ | ⟨-, p, q⟩ | ⟨p, -⟩ | ⟨p, -⟩) <;> first | exact q b | exact absurd p (by decide)
  | 2, _ =>
    refine b_X2_canBecome_0 ⟨fun q => absurd q (by decide), fun q => absurd q (by decide), fun q => absurd q (by decide), fun _ => ⟨fun a => h0 ?_, fun a => ⟨fun b => h0 ?_, fun b => h1 (Or.inr (Or.inr (Or.inl ⟨rfl, a, by grind⟩)))⟩⟩, fun q => absurd q (by decide)⟩
    · rintro (⟨p, -⟩ | ⟨p, -⟩ | ⟨-, p, q⟩ | ⟨p, -⟩) <;> first | exact p a | exact absurd p (by decide)
    · rintro (⟨p, -⟩ | ⟨p, -⟩ | ⟨-, p, q⟩ | ⟨p, -⟩) <;> first | exact absurd p (by decide) | grind
  | 3, _ =>
    refine b_X2_canBecome_0 ⟨fun q => absurd q (by decide), fun q => absurd q (by decide), fun q => absurd q (by decide), fun q => absurd q (by decide), fun _ => ⟨fun a => h0 ?_, fun a => ⟨fun b => h0 ?_, fun b => h1 (Or.inr (Or.inr (Or.inr ⟨rfl, a, b⟩)))⟩⟩⟩
    · rintro (⟨p, -⟩ | ⟨p, -⟩ | ⟨p, -⟩ | ⟨-, p, q⟩) <;> first | exact p a | exact absurd p (by decide)
    · rintro (⟨p, -⟩ | ⟨p, -⟩ | ⟨p, -⟩ | ⟨-, p, q⟩) <;> first | exact q b | exact absurd p (by decide)
  | w + 4, h => omega
/-- the reference's mend, where there is such a number -/
theorem c_mendM {n nd w j : Nat} {x3 : Int32} {k : Int32 → am_S → Prop} (hd : 10 ≤ d) (e26 : rg σ 3526 = nI n) (e22 : rg σ 3522 = nI nd) (hn : n ≤ 7) (hnd : nd ≤ 5) (ok : okW n nd w j) (h1 : okV w x3 → CI l g M_X12_become (d - 1) [.ref 55, .int (nI w), .int (nI j), .int x3] σ k) (h0 : ¬ okV w x3 → k (-1) σ) : CI l g M_X12_mend d [.ref 55, .int (nI j), .int (nI w), .int x3] σ k := by
  refine b_X12_mend_0 (by omega) ?_
  rw [e26, e22]
  rcases ok with ⟨rfl, hj⟩ | ⟨rfl, hj⟩ | ⟨rfl, hj⟩ | ⟨rfl, rfl⟩
  · refine ⟨fun q => absurd q (by decide), fun _ => ⟨fun _ => ⟨fun v => h1 (Or.inl ⟨rfl, v⟩), fun v => h0 ?_⟩, fun q => absurd ((cB (by omega)).mpr ⟨j, hj, rfl⟩) q⟩, fun q => absurd q (by decide), fun q => absurd q (by decide), fun q => absurd q (by decide)⟩
    rintro (⟨-, p⟩ | ⟨p, -⟩ | ⟨p, -⟩ | ⟨p, -⟩) <;> first | exact v p | exact absurd p (by decide)
  · refine ⟨fun q => absurd q (by decide), fun q => absurd q (by decide), fun _ => ⟨fun _ => ⟨fun v => h1 (Or.inr (Or.inl ⟨rfl, v⟩)), fun v => h0 ?_⟩, fun q => absurd ((cB (by omega)).mpr ⟨j, hj, rfl⟩) q⟩, fun q => absurd q (by decide), fun q => absurd q (by decide)⟩
    rintro (⟨p, -⟩ | ⟨-, p⟩ | ⟨p, -⟩ | ⟨p, -⟩) <;> first | exact v p | exact absurd p (by decide)
  · refine ⟨fun q => absurd q (by decide), fun q => absurd q (by decide), fun q => absurd q (by decide), fun _ => ⟨fun _ => ⟨fun v => h1 (Or.inr (Or.inr (Or.inl ⟨rfl, v⟩))), fun v => h0 ?_⟩, fun q => absurd ((cB (by omega)).mpr ⟨j, hj, rfl⟩) q⟩, fun q => absurd q (by decide)⟩
    rintro (⟨p, -⟩ | ⟨p, -⟩ | ⟨-, p⟩ | ⟨p, -⟩) <;> first | exact v p | exact absurd p (by decide)
  · refine ⟨fun q => absurd q (by decide), fun q => absurd q (by decide), fun q => absurd q (by decide), fun q => absurd q (by decide), fun _ => ⟨fun q => absurd rfl q, fun _ => ⟨fun v => h1 (Or.inr (Or.inr (Or.inr ⟨rfl, v⟩))), fun v => h0 ?_⟩⟩⟩
    rintro (⟨p, -⟩ | ⟨p, -⟩ | ⟨p, -⟩ | ⟨-, p⟩) <;> first | exact v p | exact absurd p (by decide)
theorem c_mendM_no {n nd : Nat} {x1 x2 x3 : Int32} {k : Int32 → am_S → Prop} (hd : 10 ≤ d) (e26 : rg σ 3526 = nI n) (e22 : rg σ 3522 = nI nd) (hn : n ≤ 7) (hnd : nd ≤ 5) (no : ¬ ∃ w j, okW n nd w j ∧ x1 = nI j ∧ x2 = nI w) (H : k (-1) σ) : CI l g M_X12_mend d [.ref 55, .int x1, .int x2, .int x3] σ k := by
  refine b_X12_mend_0 (by omega) ?_
  rw [e26, e22]
  refine ⟨fun _ => H, fun a => ⟨fun q => ?_, fun _ => H⟩, fun a => ⟨fun q => ?_, fun _ => H⟩, fun a => ⟨fun q => ?_, fun _ => H⟩, fun a => ⟨fun _ => H, fun q => ?_⟩⟩
  · obtain ⟨j, hj, e⟩ := (cB (by omega)).mp q
    exact absurd ⟨0, j, Or.inl ⟨rfl, hj⟩, e, a⟩ no
  · obtain ⟨j, hj, e⟩ := (cB (by omega)).mp q
    exact absurd ⟨1, j, Or.inr (Or.inl ⟨rfl, hj⟩), e, a⟩ no
  · obtain ⟨j, hj, e⟩ := (cB (by omega)).mp q
    exact absurd ⟨2, j, Or.inr (Or.inr (Or.inl ⟨rfl, hj⟩)), e, a⟩ no
  · exact absurd ⟨3, 0, Or.inr (Or.inr (Or.inr ⟨rfl, rfl⟩)), q, a⟩ no
theorem okV_2 {v : Int32} (h : okV 2 v) : ∃ q, q < 3 ∧ v = nI q := by
  rcases h with ⟨p, -⟩ | ⟨p, -⟩ | ⟨-, p⟩ | ⟨p, -⟩
  · exact absurd p (by decide)
  · exact absurd p (by decide)
  · exact (cC (n := 3) 2 rfl (by omega)).mp p
  · exact absurd p (by decide)
theorem okV_0 {w : Nat} {v : Int32} (h : okV w v) : 0 ≤ v := by
  rcases h with ⟨-, p⟩ | ⟨-, p⟩ | ⟨-, p⟩ | ⟨-, p⟩ <;> grind
theorem P_mend (hd : 300 ≤ d) (hR : R σ) (x1 : Int32) (x2 : Int32) (x3 : Int32) : PP l g d M_X11_mend M_X12_mend [.int x1, .int x2, .int x3] σ := by
  intro K hk
  have old := hR
  obtain ⟨nr, nd, n, pl, nt, dn, un, nb, nq, hH, hT, hD, hU, hI, hB, hS, hL⟩ := hR
  obtain ⟨⟨H1, H2, H3⟩, h64, ⟨e65, e22⟩, ⟨e66, e26⟩, -⟩ := id hH
  refine b_X11_mend_0 (by omega) ?_
  by_cases ok : ∃ w j, okW n nd w j ∧ x1 = nI j ∧ x2 = nI w
  · obtain ⟨w, j, ok, rfl, rfl⟩ := ok
    obtain ⟨g1, g2, g3⟩ := RH_get hH ok
    have hw := okW_lt ok H3 H2
    refine c_number_ok (by omega) e66 e65 H3 H2 ok ⟨fun q => ?_, fun _ => ?_⟩
    · exfalso
      generalize getC σ w j = a at *
      grind
    refine c_canBecome hw.1 (fun v => ⟨fun _ => ⟨fun e => ?_, fun e => ?_⟩, fun q => absurd q (by decide)⟩) (fun v => ⟨fun q => absurd rfl q, fun _ => ?_⟩)
    · refine c_mendM (by omega) e26 e22 H3 H2 ok (fun _ => ?_) (fun q => absurd v q)
      refine b_X12_become_0 (by omega) (c_valueAt H3 H2 ok ⟨fun q => absurd (g1.trans e.symm) q, fun _ => ?_⟩)
      rw [g1]
      exact hk _ _ old
    · refine c_setNumber (by omega) e66 e65 H3 H2 ok ?_
      have frC : Fr [68] [4, 5, 6] σ (setC σ w j x3) := setC_fr
      refine c_write (dn := dn) (by omega) (by have := hU.1; omega) ((frC.R 2180 rfl).trans hU.2.1.1) (fun τ fr W1 q1 q2 => ?_)
      have frτ := frC.tr fr
      have hg : getM τ w j = getM σ w j := by
        unfold getM
        rw [frτ.A 59 rfl, frτ.A 60 rfl, frτ.A 58 rfl, frτ.R 3531 rfl]
      refine c_mendM (by omega) ((frτ.R 3526 rfl).trans e26) ((frτ.R 3522 rfl).trans e22) H3 H2 ok (fun _ => ?_) (fun q => absurd v q)
      refine c_become (dn := dn) (by omega) H3 H2 ok (by have := hU.1; omega) ((frτ.R 3532 rfl).trans hU.2.1.2) ?_ (fun υ fr2 W2 q3 q4 => ?_)
      · rw [hg, g1]
        exact fun q => e q.symm
      · rw [hg, g1]
        refine hk _ _ ?_
        have fr3 : Fr [3531] [58, 59, 60] υ (setM υ w j x3) := setM_fr
        have fra := (frτ.tr fr2).tr fr3
        refine ⟨nr, nd, n, pl, nt, dn - dn / 40 + 1, 0, nb, nq, ?_, hT.fr fra rfl rfl, hD.fr fra rfl rfl, ?_, hI.fr fra rfl rfl, hB.fr fra rfl rfl, hS.fr fra rfl rfl, hL.fr fra rfl rfl⟩
        · refine RH_set hH ok (okV_0 v) (fun e => by subst e; exact okV_2 v) ?_ ?_ ?_ ?_ ?_ ?_
          · intro r hr
            simp only [List.mem_cons, List.not_mem_nil, or_false] at hr
            rcases hr with rfl | rfl | rfl | rfl | rfl | rfl | rfl | rfl | rfl <;> exact fra.R _ rfl
          · intro r hr
            simp only [List.mem_cons, List.not_mem_nil, or_false] at hr
            rcases hr with rfl | rfl | rfl | rfl | rfl <;> exact fra.A _ rfl
          · exact ((fr.tr fr2).tr fr3).R 68 rfl
          · intro a ha
            simp only [List.mem_cons, List.not_mem_nil, or_false] at ha
            rcases ha with rfl | rfl | rfl <;> exact ((fr.tr fr2).tr fr3).A _ rfl
          · have b3 : rg υ 3531 = rg σ 3531 := (frτ.tr fr2).R 3531 rfl
            unfold setM
            split
            · exact b3
            · split
              · exact b3
              · split
                · exact b3
                · rfl
          · have b58 : ar υ 58 = ar σ 58 := (frτ.tr fr2).A 58 rfl
            have b59 : ar υ 59 = ar σ 59 := (frτ.tr fr2).A 59 rfl
            have b60 : ar υ 60 = ar σ 60 := (frτ.tr fr2).A 60 rfl
            exact setM_ar b58 b59 b60
        · refine RU_write (τ := τ) hU ok g2 (okV_0 v) (fun e => by subst e; exact ⟨g3 rfl, okV_2 v⟩) ?_ ?_ ?_ ?_ ?_ ?_ ?_
          · obtain ⟨w1, w2⟩ := W1
            refine ⟨fun a ha i hi => (w1 a ha i hi).trans ?_, w2⟩
            simp only [List.mem_cons, List.not_mem_nil, or_false] at ha
            rcases ha with rfl | rfl | rfl | rfl <;> rw [frC.A _ rfl]
          · obtain ⟨w1, w2⟩ := W2
            rw [hg, g1] at w2
            have z := fr3
            refine ⟨fun a ha i hi => ?_, ?_⟩
            · have := w1 a ha i hi
              simp only [List.mem_cons, List.not_mem_nil, or_false] at ha
              rcases ha with rfl | rfl | rfl | rfl <;> rw [fr3.A _ rfl, this, frτ.A _ rfl]
            · rw [fr3.A 61 rfl, fr3.A 62 rfl, fr3.A 63 rfl, fr3.A 64 rfl]
              exact w2
          · intro a ha
            simp only [List.mem_cons, List.not_mem_nil, or_false] at ha
            rcases ha with rfl | rfl | rfl | rfl <;> exact (fr2.tr fr3).A _ rfl
          · exact ((fr2.tr fr3).R 2180 rfl).trans q1
          · exact ((fr2.tr fr3).R 2181 rfl).trans q2
          · exact (fr3.R 3532 rfl).trans q3
          · exact (fr3.R 3533 rfl).trans q4
    · exact c_mendM (by omega) e26 e22 H3 H2 ok (fun q => absurd q v) (fun _ => hk _ _ old)
  · refine c_number_no (by omega) e66 e65 H3 H2 ok ⟨fun _ => ?_, fun q => absurd (by decide) q⟩
    exact c_mendM_no (by omega) e26 e22 H3 H2 ok (hk _ _ old)
end Mend2
