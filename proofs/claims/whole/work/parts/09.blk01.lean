/-! what each stretch of the program does (laid by program) -/
set_option maxRecDepth 20000 in
theorem C_X0_hasBody {l : Launch} {g : am_G} {d : Nat} {σ : am_S} {k : Int32 → am_S → Prop}  {x1 : Int32} (hd : 0 ≤ d) (H : ((¬ x1 < 0 ∧ ¬ rg σ 2497 ≤ x1) → k 1 σ) ∧ (¬ (¬ x1 < 0 ∧ ¬ rg σ 2497 ≤ x1) → k 0 σ)) : CI l g M_X0_hasBody d [.ref 39, .int x1] σ k := by
  show J l g (M_X0_hasBody, d, 0, 0) 0 [(0, .ref 39), (1, .int x1)] [] (hp σ) 0 0 (kI k)
  refine j_iload_n (pc := 0) dX0_hasBody_0 rfl ?_
  refine j_if_lt (pc := 1) (t := 16) dX0_hasBody_1 (by decide) (fun c1 => ?_) (fun c1 => ?_)
  · skip
    refine j_iconst (pc := 16) (v := 0) dX0_hasBody_16 (by decide) ?_
    exact s_iretz (pc := 17) dX0_hasBody_17 rfl rfl (H.2 (fun q => (q.1) c1))
  · skip
    refine j_iload_n (pc := 4) dX0_hasBody_4 rfl ?_
    refine j_aload_n (pc := 5) dX0_hasBody_5 rfl ?_
    refine s_geti (pc := 6) 2497 (rg σ 2497) dX0_hasBody_6 fl_X0_15 shp_39 rfl rfl rfl ?_
    refine j_icmp_ge (pc := 9) (t := 16) dX0_hasBody_9 (by decide) (fun c9 => ?_) (fun c9 => ?_)
    · skip
      refine j_iconst (pc := 16) (v := 0) dX0_hasBody_16 (by decide) ?_
      exact s_iretz (pc := 17) dX0_hasBody_17 rfl rfl (H.2 (fun q => (q.2) c9))
    · skip
      refine j_iconst (pc := 12) (v := 1) dX0_hasBody_12 (by decide) ?_
      refine j_goto (pc := 13) (t := 17) dX0_hasBody_13 (by decide) ?_
      exact s_iretz (pc := 17) dX0_hasBody_17 rfl rfl (H.1 ⟨c1, c9⟩)
set_option maxRecDepth 20000 in
theorem b_X0_addBody_0 {l : Launch} {g : am_G} {d : Nat} {σ : am_S} {k : Int32 → am_S → Prop}  {x1 : Int32} (H : ((rg σ 2497 < 50 → (vp_in (rg σ 2497) 50 ∧ k (((rg σ 2497) + 1) - 1) (sR (sA σ 40 ((rg σ 2497).toNatClampNeg) x1) 2497 ((rg σ 2497) + 1)))) ∧ (¬ rg σ 2497 < 50 → k (-3) σ))) : CI l g M_X0_addBody d [.ref 39, .int x1] σ k := by
  show J l g (M_X0_addBody, d, 0, 0) 0 [(0, .ref 39), (1, .int x1)] [] (hp σ) 0 0 (kI k)
  refine j_aload_n (pc := 0) dX0_addBody_0 rfl ?_
  refine s_geti (pc := 1) 2497 (rg σ 2497) dX0_addBody_1 fl_X0_15 shp_39 rfl rfl rfl ?_
  refine j_bipush (pc := 4) (v := 50) dX0_addBody_4 (by decide) ?_
  refine j_icmp_lt (pc := 6) (t := 12) dX0_addBody_6 (by decide) (fun c6 => ?_) (fun c6 => ?_)
  · replace H := H.1 c6
    refine j_aload_n (pc := 12) dX0_addBody_12 rfl ?_
    refine s_getr (pc := 13) dX0_addBody_13 fl_X0_11 shp_39 rfl ?_
    refine j_aload_n (pc := 16) dX0_addBody_16 rfl ?_
    refine s_geti (pc := 17) 2497 (rg σ 2497) dX0_addBody_17 fl_X0_15 shp_39 rfl rfl rfl ?_
    refine j_iload_n (pc := 20) dX0_addBody_20 rfl ?_
    have b21 := H.1
    replace H := H.2
    refine s_iast (pc := 21) dX0_addBody_21 shp_40 b21 ?_
    refine j_aload_n (pc := 22) dX0_addBody_22 rfl ?_
    refine j_dup (pc := 23) dX0_addBody_23 rfl ?_
    refine s_geti (pc := 24) 2497 (rg σ 2497) dX0_addBody_24 fl_X0_15 shp_39 rfl rfl rfl ?_
    refine j_iconst (pc := 27) (v := 1) dX0_addBody_27 (by decide) ?_
    refine j_iadd (pc := 28) dX0_addBody_28 ?_
    refine s_put (pc := 29) 2497 dX0_addBody_29 fl_X0_15 shp_39 rfl rfl fp_0_1 rfl rfl ?_
    refine j_aload_n (pc := 32) dX0_addBody_32 rfl ?_
    refine s_geti (pc := 33) 2497 ((rg σ 2497) + 1) dX0_addBody_33 fl_X0_15 shp_39 rfl rfl rfl ?_
    refine j_iconst (pc := 36) (v := 1) dX0_addBody_36 (by decide) ?_
    refine j_isub (pc := 37) dX0_addBody_37 ?_
    exact s_ireti (pc := 38) dX0_addBody_38 rfl H
  · replace H := H.2 c6
    refine j_bipush (pc := 9) (v := -3) dX0_addBody_9 (by decide) ?_
    exact s_ireti (pc := 11) dX0_addBody_11 rfl H
set_option maxRecDepth 20000 in
theorem b_X0_kindOf_0 {l : Launch} {g : am_G} {d : Nat} {σ : am_S} {k : Int32 → am_S → Prop}  {x1 : Int32} (hd : 1 ≤ d) (H : (((¬ x1 < 0 ∧ ¬ rg σ 2497 ≤ x1) → (vp_in x1 50 ∧ k (ar σ 40 x1.toNatClampNeg) σ)) ∧ (¬ (¬ x1 < 0 ∧ ¬ rg σ 2497 ≤ x1) → k (-1) σ))) : CI l g M_X0_kindOf d [.ref 39, .int x1] σ k := by
  show J l g (M_X0_kindOf, d, 0, 0) 0 [(0, .ref 39), (1, .int x1)] [] (hp σ) 0 0 (kI k)
  refine j_aload_n (pc := 0) dX0_kindOf_0 rfl ?_
  refine j_iload_n (pc := 1) dX0_kindOf_1 rfl ?_
  refine s_callV_i (pc := 2) (M1 := M_X0_hasBody) (n := 1) (as := [.int x1]) (a := 39) (st := []) dX0_kindOf_2 G_X0_hasBody wm_X0_28 (by decide +kernel) rfl (Nat.le_of_ble_eq_true rfl) shp_39 rfl (by show 1 ≤ d; omega) (Nat.le_of_ble_eq_true rfl) (Nat.zero_le _) (Nat.zero_le _) ?_
  refine C_X0_hasBody (d := d - 1) (by omega) ⟨fun c2 => ?_, fun c2 => ?_⟩
  · replace H := H.1 c2
    refine j_if_eq (pc := 5) (t := 17) dX0_kindOf_5 (by decide) (fun q => absurd q (by decide)) (fun _ => ?_)
    refine j_aload_n (pc := 8) dX0_kindOf_8 rfl ?_
    refine s_getr (pc := 9) dX0_kindOf_9 fl_X0_11 shp_39 rfl ?_
    refine j_iload_n (pc := 12) dX0_kindOf_12 rfl ?_
    have b13 := H.1
    replace H := H.2
    refine s_iald (pc := 13) (ar σ 40 x1.toNatClampNeg) dX0_kindOf_13 shp_40 b13 rfl ?_
    refine j_goto (pc := 14) (t := 18) dX0_kindOf_14 (by decide) ?_
    exact s_ireti (pc := 18) dX0_kindOf_18 rfl H
  · replace H := H.2 c2
    refine j_if_eq (pc := 5) (t := 17) dX0_kindOf_5 (by decide) (fun _ => ?_) (fun q => absurd q (by decide))
    refine j_iconst (pc := 17) (v := -1) dX0_kindOf_17 (by decide) ?_
    exact s_ireti (pc := 18) dX0_kindOf_18 rfl H
set_option maxRecDepth 20000 in
theorem b_X0_isUnder_0 {l : Launch} {g : am_G} {d : Nat} {σ : am_S} {k : Int32 → am_S → Prop}  {x0 x1 : Int32} (H : JI l g M_X0_isUnder d 2 [(0, .int x0), (1, .int x1), (2, .int x0)] [] σ k) : CI l g M_X0_isUnder d [.int x0, .int x1] σ k := by
  show J l g (M_X0_isUnder, d, 0, 0) 0 [(0, .int x0), (1, .int x1)] [] (hp σ) 0 0 (kI k)
  refine j_iload_n (pc := 0) dX0_isUnder_0 rfl ?_
  refine j_istore_n (pc := 1) (lv1 := [(2, .int x0), (0, .int x0), (1, .int x1)]) dX0_isUnder_1 (Nat.le_of_ble_eq_true rfl) rfl ?_
  refine j_sub [1, 2, 0] rfl ?_
  exact H
set_option maxRecDepth 20000 in
theorem b_X0_isUnder_2 {l : Launch} {g : am_G} {d : Nat} {σ : am_S} {k : Int32 → am_S → Prop}  {x0 x1 x2 : Int32} (H : ((x2 ≤ x1 → ((¬ x2 = x1 → k 0 σ) ∧ (x2 = x1 → k 1 σ))) ∧ (¬ x2 ≤ x1 → ((8 ≤ x2 → ((¬ x2 = x1 → k 0 σ) ∧ (x2 = x1 → k 1 σ))) ∧ (¬ 8 ≤ x2 → (vp_in x2 8 ∧ JI l g M_X0_isUnder d 2 [(0, .int x0), (1, .int x1), (2, .int (am_above x2.toNatClampNeg))] [] σ k)))))) : JI l g M_X0_isUnder d 2 [(0, .int x0), (1, .int x1), (2, .int x2)] [] σ k := by
  show J l g (M_X0_isUnder, d, 0, 0) 2 [(0, .int x0), (1, .int x1), (2, .int x2)] [] (hp σ) 0 0 (kI k)
  refine j_iload_n (pc := 2) dX0_isUnder_2 rfl ?_
  refine j_iload_n (pc := 3) dX0_isUnder_3 rfl ?_
  refine j_icmp_le (pc := 4) (t := 22) dX0_isUnder_4 (by decide) (fun c4 => ?_) (fun c4 => ?_)
  · replace H := H.1 c4
    refine j_iload_n (pc := 22) dX0_isUnder_22 rfl ?_
    refine j_iload_n (pc := 23) dX0_isUnder_23 rfl ?_
    refine j_icmp_ne (pc := 24) (t := 31) dX0_isUnder_24 (by decide) (fun c24 => ?_) (fun c24 => ?_)
    · replace H := H.1 c24
      refine j_iconst (pc := 31) (v := 0) dX0_isUnder_31 (by decide) ?_
      exact s_iretz (pc := 32) dX0_isUnder_32 rfl rfl H
    · replace H := H.2 c24
      refine j_iconst (pc := 27) (v := 1) dX0_isUnder_27 (by decide) ?_
      refine j_goto (pc := 28) (t := 32) dX0_isUnder_28 (by decide) ?_
      exact s_iretz (pc := 32) dX0_isUnder_32 rfl rfl H
  · replace H := H.2 c4
    refine j_iload_n (pc := 7) dX0_isUnder_7 rfl ?_
    refine j_bipush (pc := 8) (v := 8) dX0_isUnder_8 (by decide) ?_
    refine j_icmp_ge (pc := 10) (t := 22) dX0_isUnder_10 (by decide) (fun c10 => ?_) (fun c10 => ?_)
    · replace H := H.1 c10
      refine j_iload_n (pc := 22) dX0_isUnder_22 rfl ?_
      refine j_iload_n (pc := 23) dX0_isUnder_23 rfl ?_
      refine j_icmp_ne (pc := 24) (t := 31) dX0_isUnder_24 (by decide) (fun c24 => ?_) (fun c24 => ?_)
      · replace H := H.1 c24
        refine j_iconst (pc := 31) (v := 0) dX0_isUnder_31 (by decide) ?_
        exact s_iretz (pc := 32) dX0_isUnder_32 rfl rfl H
      · replace H := H.2 c24
        refine j_iconst (pc := 27) (v := 1) dX0_isUnder_27 (by decide) ?_
        refine j_goto (pc := 28) (t := 32) dX0_isUnder_28 (by decide) ?_
        exact s_iretz (pc := 32) dX0_isUnder_32 rfl rfl H
    · replace H := H.2 c10
      refine j_gets_above (pc := 13) dX0_isUnder_13 ws_X0_32 ?_
      refine j_iload_n (pc := 16) dX0_isUnder_16 rfl ?_
      have b17 := H.1
      replace H := H.2
      refine j_above (pc := 17) dX0_isUnder_17 b17 ?_
      refine j_istore_n (pc := 18) (lv1 := [(2, .int (am_above x2.toNatClampNeg)), (0, .int x0), (1, .int x1)]) dX0_isUnder_18 (Nat.le_of_ble_eq_true rfl) rfl ?_
      refine j_goto (pc := 19) (t := 2) dX0_isUnder_19 (by decide) ?_
      refine j_sub [1, 2, 0] rfl ?_
      exact H
set_option maxRecDepth 20000 in
theorem b_X0_traced_0 {l : Launch} {g : am_G} {d : Nat} {σ : am_S} {k : Int32 → am_S → Prop}   (hd : 1 ≤ d) (H : k (if 24 < (rg σ 2499) then 24 else (rg σ 2499)) σ) : CI l g M_X0_traced d [.ref 39] σ k := by
  show J l g (M_X0_traced, d, 0, 0) 0 [(0, .ref 39)] [] (hp σ) 0 0 (kI k)
  refine j_aload_n (pc := 0) dX0_traced_0 rfl ?_
  refine s_geti (pc := 1) 2499 (rg σ 2499) dX0_traced_1 fl_X0_22 shp_39 rfl rfl rfl ?_
  refine j_bipush (pc := 4) (v := 24) dX0_traced_4 (by decide) ?_
  refine j_min (pc := 6) dX0_traced_6 wm_X0_35 (by omega) (Nat.le_of_ble_eq_true rfl) ?_
  exact s_ireti (pc := 9) dX0_traced_9 rfl H
set_option maxRecDepth 20000 in
theorem b_X0_note_0 {l : Launch} {g : am_G} {d : Nat} {σ : am_S} {k : am_S → Prop}  {x1 : Int32} (H : ((24 ≤ rg σ 2499 → k (sR σ 2499 ((rg σ 2499) + 1))) ∧ (¬ 24 ≤ rg σ 2499 → (vp_in (rg σ 2499) 24 ∧ k (sR (sA σ 41 ((rg σ 2499).toNatClampNeg) x1) 2499 ((rg σ 2499) + 1)))))) : CV l g M_X0_note d [.ref 39, .int x1] σ k := by
  show J l g (M_X0_note, d, 0, 0) 0 [(0, .ref 39), (1, .int x1)] [] (hp σ) 0 0 (kV k)
  refine j_aload_n (pc := 0) dX0_note_0 rfl ?_
  refine s_geti (pc := 1) 2499 (rg σ 2499) dX0_note_1 fl_X0_22 shp_39 rfl rfl rfl ?_
  refine j_bipush (pc := 4) (v := 24) dX0_note_4 (by decide) ?_
  refine j_icmp_ge (pc := 6) (t := 19) dX0_note_6 (by decide) (fun c6 => ?_) (fun c6 => ?_)
  · replace H := H.1 c6
    refine j_aload_n (pc := 19) dX0_note_19 rfl ?_
    refine j_dup (pc := 20) dX0_note_20 rfl ?_
    refine s_geti (pc := 21) 2499 (rg σ 2499) dX0_note_21 fl_X0_22 shp_39 rfl rfl rfl ?_
    refine j_iconst (pc := 24) (v := 1) dX0_note_24 (by decide) ?_
    refine j_iadd (pc := 25) dX0_note_25 ?_
    refine s_put (pc := 26) 2499 dX0_note_26 fl_X0_22 shp_39 rfl rfl fp_0_3 rfl rfl ?_
    exact s_vret (pc := 29) dX0_note_29 rfl H
  · replace H := H.2 c6
    refine j_aload_n (pc := 9) dX0_note_9 rfl ?_
    refine s_getr (pc := 10) dX0_note_10 fl_X0_19 shp_39 rfl ?_
    refine j_aload_n (pc := 13) dX0_note_13 rfl ?_
    refine s_geti (pc := 14) 2499 (rg σ 2499) dX0_note_14 fl_X0_22 shp_39 rfl rfl rfl ?_
    refine j_iload_n (pc := 17) dX0_note_17 rfl ?_
    have b18 := H.1
    replace H := H.2
    refine s_iast (pc := 18) dX0_note_18 shp_41 b18 ?_
    refine j_aload_n (pc := 19) dX0_note_19 rfl ?_
    refine j_dup (pc := 20) dX0_note_20 rfl ?_
    refine s_geti (pc := 21) 2499 (rg σ 2499) dX0_note_21 fl_X0_22 shp_39 rfl rfl rfl ?_
    refine j_iconst (pc := 24) (v := 1) dX0_note_24 (by decide) ?_
    refine j_iadd (pc := 25) dX0_note_25 ?_
    refine s_put (pc := 26) 2499 dX0_note_26 fl_X0_22 shp_39 rfl rfl fp_0_3 rfl rfl ?_
    exact s_vret (pc := 29) dX0_note_29 rfl H
set_option maxRecDepth 20000 in
theorem b_X0_runUpper_0 {l : Launch} {g : am_G} {d : Nat} {σ : am_S} {k : Int32 → am_S → Prop}  {x1 x2 x3 : Int32} (hd : 1 ≤ d) (H : (((¬ x1 = 1 ∧ ¬ x1 = 2 ∧ ¬ x1 = 10 ∧ ¬ x1 = 11 ∧ ¬ x1 = 20) → (vp_in (2 : Int32) 8 ∧ CI l g M_X0_run (d - 1) [.ref 39, .int (am_above 2), .int 1, .int x2, .int x3] σ (fun r1 σ1 => k (-r1) σ1))) ∧ (x1 = 1 → k (x2 + (rg σ 2500)) σ) ∧ (x1 = 2 → CI l g M_X0_own (d - 1) [.ref 39, .int 1, .int x2, .int x3] σ (fun r2 σ2 => CI l g M_X0_own (d - 1) [.ref 39, .int 2, .int 1, .int x3] σ2 (fun r3 σ3 => k (r2 - r3) σ3))) ∧ (x1 = 10 → CI l g M_X0_own (d - 1) [.ref 39, .int 0, .int x2, .int x3] σ (fun r4 σ4 => k (r4 * 2) σ4)) ∧ (x1 = 11 → k (x2 ^^^ (rg σ 2500)) σ) ∧ (x1 = 20 → (vp_in (1 : Int32) 8 ∧ CI l g M_X0_run (d - 1) [.ref 39, .int (am_above 1), .int 0, .int x2, .int x3] σ (fun r5 σ5 => k (r5 + 3) σ5))))) : CI l g M_X0_runUpper d [.ref 39, .int x1, .int x2, .int x3] σ k := by
  show J l g (M_X0_runUpper, d, 0, 0) 0 [(0, .ref 39), (1, .int x1), (2, .int x2), (3, .int x3)] [] (hp σ) 0 0 (kI k)
  refine j_iload_n (pc := 0) dX0_runUpper_0 rfl ?_
  by_cases c1d : ¬ x1 = 1 ∧ ¬ x1 = 2 ∧ ¬ x1 = 10 ∧ ¬ x1 = 11 ∧ ¬ x1 = 20
  · replace H := H.1 c1d
    refine j_lookup (pc := 1) (t := 107) (off := 106) dX0_runUpper_1 (by decide) (by show Op.lookupswitch.offset [(1, 51), (2, 58), (10, 74), (11, 84), (20, 91)] _ _ = _; rw [lv_osw (k := 1) (c1d.1) (by decide), lv_osw (k := 2) (c1d.2.1) (by decide), lv_osw (k := 10) (c1d.2.2.1) (by decide), lv_osw (k := 11) (c1d.2.2.2.1) (by decide), lv_osw (k := 20) (c1d.2.2.2.2) (by decide)]; rfl) (by decide) ?_
    refine j_aload_n (pc := 107) dX0_runUpper_107 rfl ?_
    refine j_gets_above (pc := 108) dX0_runUpper_108 ws_X0_32 ?_
    refine j_iconst (pc := 111) (v := 2) dX0_runUpper_111 (by decide) ?_
    have b112 := H.1
    replace H := H.2
    refine j_above (pc := 112) dX0_runUpper_112 b112 ?_
    refine j_iconst (pc := 113) (v := 1) dX0_runUpper_113 (by decide) ?_
    refine j_iload_n (pc := 114) dX0_runUpper_114 rfl ?_
    refine j_iload_n (pc := 115) dX0_runUpper_115 rfl ?_
    refine s_callV_i (pc := 116) (M1 := M_X0_run) (n := 4) (as := [.int (am_above 2), .int 1, .int x2, .int x3]) (a := 39) (st := []) dX0_runUpper_116 G_X0_run wm_X0_45 (by decide +kernel) rfl (Nat.le_of_ble_eq_true rfl) shp_39 rfl (by show 1 ≤ d; omega) (Nat.le_of_ble_eq_true rfl) (Nat.zero_le _) (Nat.zero_le _) ?_
    refine CI.mono H (fun r1 σ1 H => ?_)
    refine j_ineg (pc := 119) dX0_runUpper_119 ?_
    exact s_ireti (pc := 120) dX0_runUpper_120 rfl H
  · replace H := H.2
    by_cases c1_0 : x1 = 1
    · replace H := H.1 c1_0
      refine j_lookup (pc := 1) (t := 52) (off := 51) dX0_runUpper_1 (by decide) (by rw [c1_0]; decide) (by decide) ?_
      refine j_iload_n (pc := 52) dX0_runUpper_52 rfl ?_
      refine j_aload_n (pc := 53) dX0_runUpper_53 rfl ?_
      refine s_geti (pc := 54) 2500 (rg σ 2500) dX0_runUpper_54 fl_X0_25 shp_39 rfl rfl rfl ?_
      refine j_iadd (pc := 57) dX0_runUpper_57 ?_
      exact s_ireti (pc := 58) dX0_runUpper_58 rfl H
    by_cases c1_1 : x1 = 2
    · replace H := H.2.1 c1_1
      refine j_lookup (pc := 1) (t := 59) (off := 58) dX0_runUpper_1 (by decide) (by rw [c1_1]; decide) (by decide) ?_
      refine j_aload_n (pc := 59) dX0_runUpper_59 rfl ?_
      refine j_iconst (pc := 60) (v := 1) dX0_runUpper_60 (by decide) ?_
      refine j_iload_n (pc := 61) dX0_runUpper_61 rfl ?_
      refine j_iload_n (pc := 62) dX0_runUpper_62 rfl ?_
      refine s_callV_i (pc := 63) (M1 := M_X0_own) (n := 3) (as := [.int 1, .int x2, .int x3]) (a := 39) (st := []) dX0_runUpper_63 G_X0_own wm_X0_41 (by decide +kernel) rfl (Nat.le_of_ble_eq_true rfl) shp_39 rfl (by show 1 ≤ d; omega) (Nat.le_of_ble_eq_true rfl) (Nat.zero_le _) (Nat.zero_le _) ?_
      refine CI.mono H (fun r2 σ2 H => ?_)
      refine j_aload_n (pc := 66) dX0_runUpper_66 rfl ?_
      refine j_iconst (pc := 67) (v := 2) dX0_runUpper_67 (by decide) ?_
      refine j_iconst (pc := 68) (v := 1) dX0_runUpper_68 (by decide) ?_
      refine j_iload_n (pc := 69) dX0_runUpper_69 rfl ?_
      refine s_callV_i (pc := 70) (M1 := M_X0_own) (n := 3) (as := [.int 2, .int 1, .int x3]) (a := 39) (st := [.int r2]) dX0_runUpper_70 G_X0_own wm_X0_41 (by decide +kernel) rfl (Nat.le_of_ble_eq_true rfl) shp_39 rfl (by show 1 ≤ d; omega) (Nat.le_of_ble_eq_true rfl) (Nat.zero_le _) (Nat.zero_le _) ?_
      refine CI.mono H (fun r3 σ3 H => ?_)
      refine j_isub (pc := 73) dX0_runUpper_73 ?_
      exact s_ireti (pc := 74) dX0_runUpper_74 rfl H
    by_cases c1_2 : x1 = 10
    · replace H := H.2.2.1 c1_2
      refine j_lookup (pc := 1) (t := 75) (off := 74) dX0_runUpper_1 (by decide) (by rw [c1_2]; decide) (by decide) ?_
      refine j_aload_n (pc := 75) dX0_runUpper_75 rfl ?_
      refine j_iconst (pc := 76) (v := 0) dX0_runUpper_76 (by decide) ?_
      refine j_iload_n (pc := 77) dX0_runUpper_77 rfl ?_
      refine j_iload_n (pc := 78) dX0_runUpper_78 rfl ?_
      refine s_callV_i (pc := 79) (M1 := M_X0_own) (n := 3) (as := [.int 0, .int x2, .int x3]) (a := 39) (st := []) dX0_runUpper_79 G_X0_own wm_X0_41 (by decide +kernel) rfl (Nat.le_of_ble_eq_true rfl) shp_39 rfl (by show 1 ≤ d; omega) (Nat.le_of_ble_eq_true rfl) (Nat.zero_le _) (Nat.zero_le _) ?_
      refine CI.mono H (fun r4 σ4 H => ?_)
      refine j_iconst (pc := 82) (v := 2) dX0_runUpper_82 (by decide) ?_
      refine j_imul (pc := 83) dX0_runUpper_83 ?_
      exact s_ireti (pc := 84) dX0_runUpper_84 rfl H
    by_cases c1_3 : x1 = 11
    · replace H := H.2.2.2.1 c1_3
      refine j_lookup (pc := 1) (t := 85) (off := 84) dX0_runUpper_1 (by decide) (by rw [c1_3]; decide) (by decide) ?_
      refine j_iload_n (pc := 85) dX0_runUpper_85 rfl ?_
      refine j_aload_n (pc := 86) dX0_runUpper_86 rfl ?_
      refine s_geti (pc := 87) 2500 (rg σ 2500) dX0_runUpper_87 fl_X0_25 shp_39 rfl rfl rfl ?_
      refine j_ixor (pc := 90) dX0_runUpper_90 ?_
      exact s_ireti (pc := 91) dX0_runUpper_91 rfl H
    by_cases c1_4 : x1 = 20
    · replace H := H.2.2.2.2 c1_4
      refine j_lookup (pc := 1) (t := 92) (off := 91) dX0_runUpper_1 (by decide) (by rw [c1_4]; decide) (by decide) ?_
      refine j_aload_n (pc := 92) dX0_runUpper_92 rfl ?_
      refine j_gets_above (pc := 93) dX0_runUpper_93 ws_X0_32 ?_
      refine j_iconst (pc := 96) (v := 1) dX0_runUpper_96 (by decide) ?_
      have b97 := H.1
      replace H := H.2
      refine j_above (pc := 97) dX0_runUpper_97 b97 ?_
      refine j_iconst (pc := 98) (v := 0) dX0_runUpper_98 (by decide) ?_
      refine j_iload_n (pc := 99) dX0_runUpper_99 rfl ?_
      refine j_iload_n (pc := 100) dX0_runUpper_100 rfl ?_
      refine s_callV_i (pc := 101) (M1 := M_X0_run) (n := 4) (as := [.int (am_above 1), .int 0, .int x2, .int x3]) (a := 39) (st := []) dX0_runUpper_101 G_X0_run wm_X0_45 (by decide +kernel) rfl (Nat.le_of_ble_eq_true rfl) shp_39 rfl (by show 1 ≤ d; omega) (Nat.le_of_ble_eq_true rfl) (Nat.zero_le _) (Nat.zero_le _) ?_
      refine CI.mono H (fun r5 σ5 H => ?_)
      refine j_iconst (pc := 104) (v := 3) dX0_runUpper_104 (by decide) ?_
      refine j_iadd (pc := 105) dX0_runUpper_105 ?_
      exact s_ireti (pc := 106) dX0_runUpper_106 rfl H
    exact absurd ⟨c1_0, c1_1, c1_2, c1_3, c1_4⟩ c1d
set_option maxRecDepth 20000 in
theorem b_X0_runLower_0 {l : Launch} {g : am_G} {d : Nat} {σ : am_S} {k : Int32 → am_S → Prop}  {x1 x2 x3 : Int32} (hd : 1 ≤ d) (H : (((¬ x1 = 40 ∧ ¬ x1 = 41 ∧ ¬ x1 = 50 ∧ ¬ x1 = 60 ∧ ¬ x1 = 61 ∧ ¬ x1 = 70 ∧ ¬ x1 = 80) → (vp_in (7 : Int32) 8 ∧ CI l g M_X0_run (d - 1) [.ref 39, .int (am_above 7), .int 0, .int x2, .int x3] σ (fun r1 σ1 => k (r1 - 1) σ1))) ∧ (x1 = 40 → (vp_in (3 : Int32) 8 ∧ CI l g M_X0_run (d - 1) [.ref 39, .int (am_above 3), .int 2, .int x2, .int x3] σ (fun r2 σ2 => k (r2 * 3) σ2))) ∧ (x1 = 41 → (vp_in (3 : Int32) 8 ∧ CI l g M_X0_run (d - 1) [.ref 39, .int (am_above 3), .int 1, .int (x2 + 1), .int x3] σ (fun r3 σ3 => k r3 σ3))) ∧ (x1 = 50 → (vp_in (4 : Int32) 8 ∧ CI l g M_X0_run (d - 1) [.ref 39, .int (am_above 4), .int 3, .int x2, .int x3] σ (fun r4 σ4 => k (r4 ^^^ 5) σ4))) ∧ (x1 = 60 → (vp_in (5 : Int32) 8 ∧ CI l g M_X0_run (d - 1) [.ref 39, .int (am_above 5), .int 2, .int x2, .int x3] σ (fun r5 σ5 => CI l g M_X0_own (d - 1) [.ref 39, .int 0, .int 2, .int x3] σ5 (fun r6 σ6 => k (r5 - r6) σ6)))) ∧ (x1 = 61 → (vp_in (5 : Int32) 8 ∧ CI l g M_X0_run (d - 1) [.ref 39, .int (am_above 5), .int 3, .int x2, .int x3] σ (fun r7 σ7 => k (r7 + 1) σ7))) ∧ (x1 = 70 → (vp_in (6 : Int32) 8 ∧ CI l g M_X0_run (d - 1) [.ref 39, .int (am_above 6), .int 0, .int x2, .int x3] σ (fun r8 σ8 => k (r8 * 2) σ8))) ∧ (x1 = 80 → (vp_in (7 : Int32) 8 ∧ CI l g M_X0_run (d - 1) [.ref 39, .int (am_above 7), .int 1, .int x2, .int x3] σ (fun r9 σ9 => CI l g M_X0_own (d - 1) [.ref 39, .int 2, .int 2, .int x3] σ9 (fun r10 σ10 => k (r9 + r10) σ10)))))) : CI l g M_X0_runLower d [.ref 39, .int x1, .int x2, .int x3] σ k := by
  show J l g (M_X0_runLower, d, 0, 0) 0 [(0, .ref 39), (1, .int x1), (2, .int x2), (3, .int x3)] [] (hp σ) 0 0 (kI k)
  refine j_iload_n (pc := 0) dX0_runLower_0 rfl ?_
  by_cases c1d : ¬ x1 = 40 ∧ ¬ x1 = 41 ∧ ¬ x1 = 50 ∧ ¬ x1 = 60 ∧ ¬ x1 = 61 ∧ ¬ x1 = 70 ∧ ¬ x1 = 80
  · replace H := H.1 c1d
    refine j_lookup (pc := 1) (t := 187) (off := 186) dX0_runLower_1 (by decide) (by show Op.lookupswitch.offset [(40, 67), (41, 82), (50, 97), (60, 112), (61, 133), (70, 148), (80, 164)] _ _ = _; rw [lv_osw (k := 40) (c1d.1) (by decide), lv_osw (k := 41) (c1d.2.1) (by decide), lv_osw (k := 50) (c1d.2.2.1) (by decide), lv_osw (k := 60) (c1d.2.2.2.1) (by decide), lv_osw (k := 61) (c1d.2.2.2.2.1) (by decide), lv_osw (k := 70) (c1d.2.2.2.2.2.1) (by decide), lv_osw (k := 80) (c1d.2.2.2.2.2.2) (by decide)]; rfl) (by decide) ?_
    refine j_aload_n (pc := 187) dX0_runLower_187 rfl ?_
    refine j_gets_above (pc := 188) dX0_runLower_188 ws_X0_32 ?_
    refine j_bipush (pc := 191) (v := 7) dX0_runLower_191 (by decide) ?_
    have b193 := H.1
    replace H := H.2
    refine j_above (pc := 193) dX0_runLower_193 b193 ?_
    refine j_iconst (pc := 194) (v := 0) dX0_runLower_194 (by decide) ?_
    refine j_iload_n (pc := 195) dX0_runLower_195 rfl ?_
    refine j_iload_n (pc := 196) dX0_runLower_196 rfl ?_
    refine s_callV_i (pc := 197) (M1 := M_X0_run) (n := 4) (as := [.int (am_above 7), .int 0, .int x2, .int x3]) (a := 39) (st := []) dX0_runLower_197 G_X0_run wm_X0_45 (by decide +kernel) rfl (Nat.le_of_ble_eq_true rfl) shp_39 rfl (by show 1 ≤ d; omega) (Nat.le_of_ble_eq_true rfl) (Nat.zero_le _) (Nat.zero_le _) ?_
    refine CI.mono H (fun r1 σ1 H => ?_)
    refine j_iconst (pc := 200) (v := 1) dX0_runLower_200 (by decide) ?_
    refine j_isub (pc := 201) dX0_runLower_201 ?_
    exact s_ireti (pc := 202) dX0_runLower_202 rfl H
  · replace H := H.2
    by_cases c1_0 : x1 = 40
    · replace H := H.1 c1_0
      refine j_lookup (pc := 1) (t := 68) (off := 67) dX0_runLower_1 (by decide) (by rw [c1_0]; decide) (by decide) ?_
      refine j_aload_n (pc := 68) dX0_runLower_68 rfl ?_
      refine j_gets_above (pc := 69) dX0_runLower_69 ws_X0_32 ?_
      refine j_iconst (pc := 72) (v := 3) dX0_runLower_72 (by decide) ?_
      have b73 := H.1
      replace H := H.2
      refine j_above (pc := 73) dX0_runLower_73 b73 ?_
      refine j_iconst (pc := 74) (v := 2) dX0_runLower_74 (by decide) ?_
      refine j_iload_n (pc := 75) dX0_runLower_75 rfl ?_
      refine j_iload_n (pc := 76) dX0_runLower_76 rfl ?_
      refine s_callV_i (pc := 77) (M1 := M_X0_run) (n := 4) (as := [.int (am_above 3), .int 2, .int x2, .int x3]) (a := 39) (st := []) dX0_runLower_77 G_X0_run wm_X0_45 (by decide +kernel) rfl (Nat.le_of_ble_eq_true rfl) shp_39 rfl (by show 1 ≤ d; omega) (Nat.le_of_ble_eq_true rfl) (Nat.zero_le _) (Nat.zero_le _) ?_
      refine CI.mono H (fun r2 σ2 H => ?_)
      refine j_iconst (pc := 80) (v := 3) dX0_runLower_80 (by decide) ?_
      refine j_imul (pc := 81) dX0_runLower_81 ?_
      exact s_ireti (pc := 82) dX0_runLower_82 rfl H
    by_cases c1_1 : x1 = 41
    · replace H := H.2.1 c1_1
      refine j_lookup (pc := 1) (t := 83) (off := 82) dX0_runLower_1 (by decide) (by rw [c1_1]; decide) (by decide) ?_
      refine j_aload_n (pc := 83) dX0_runLower_83 rfl ?_
      refine j_gets_above (pc := 84) dX0_runLower_84 ws_X0_32 ?_
      refine j_iconst (pc := 87) (v := 3) dX0_runLower_87 (by decide) ?_
      have b88 := H.1
      replace H := H.2
      refine j_above (pc := 88) dX0_runLower_88 b88 ?_
      refine j_iconst (pc := 89) (v := 1) dX0_runLower_89 (by decide) ?_
      refine j_iload_n (pc := 90) dX0_runLower_90 rfl ?_
      refine j_iconst (pc := 91) (v := 1) dX0_runLower_91 (by decide) ?_
      refine j_iadd (pc := 92) dX0_runLower_92 ?_
      refine j_iload_n (pc := 93) dX0_runLower_93 rfl ?_
      refine s_callV_i (pc := 94) (M1 := M_X0_run) (n := 4) (as := [.int (am_above 3), .int 1, .int (x2 + 1), .int x3]) (a := 39) (st := []) dX0_runLower_94 G_X0_run wm_X0_45 (by decide +kernel) rfl (Nat.le_of_ble_eq_true rfl) shp_39 rfl (by show 1 ≤ d; omega) (Nat.le_of_ble_eq_true rfl) (Nat.zero_le _) (Nat.zero_le _) ?_
      refine CI.mono H (fun r3 σ3 H => ?_)
      exact s_ireti (pc := 97) dX0_runLower_97 rfl H
    by_cases c1_2 : x1 = 50
    · replace H := H.2.2.1 c1_2
      refine j_lookup (pc := 1) (t := 98) (off := 97) dX0_runLower_1 (by decide) (by rw [c1_2]; decide) (by decide) ?_
      refine j_aload_n (pc := 98) dX0_runLower_98 rfl ?_
      refine j_gets_above (pc := 99) dX0_runLower_99 ws_X0_32 ?_
      refine j_iconst (pc := 102) (v := 4) dX0_runLower_102 (by decide) ?_
      have b103 := H.1
      replace H := H.2
      refine j_above (pc := 103) dX0_runLower_103 b103 ?_
      refine j_iconst (pc := 104) (v := 3) dX0_runLower_104 (by decide) ?_
      refine j_iload_n (pc := 105) dX0_runLower_105 rfl ?_
      refine j_iload_n (pc := 106) dX0_runLower_106 rfl ?_
      refine s_callV_i (pc := 107) (M1 := M_X0_run) (n := 4) (as := [.int (am_above 4), .int 3, .int x2, .int x3]) (a := 39) (st := []) dX0_runLower_107 G_X0_run wm_X0_45 (by decide +kernel) rfl (Nat.le_of_ble_eq_true rfl) shp_39 rfl (by show 1 ≤ d; omega) (Nat.le_of_ble_eq_true rfl) (Nat.zero_le _) (Nat.zero_le _) ?_
      refine CI.mono H (fun r4 σ4 H => ?_)
      refine j_iconst (pc := 110) (v := 5) dX0_runLower_110 (by decide) ?_
      refine j_ixor (pc := 111) dX0_runLower_111 ?_
      exact s_ireti (pc := 112) dX0_runLower_112 rfl H
    by_cases c1_3 : x1 = 60
    · replace H := H.2.2.2.1 c1_3
      refine j_lookup (pc := 1) (t := 113) (off := 112) dX0_runLower_1 (by decide) (by rw [c1_3]; decide) (by decide) ?_
      refine j_aload_n (pc := 113) dX0_runLower_113 rfl ?_
      refine j_gets_above (pc := 114) dX0_runLower_114 ws_X0_32 ?_
      refine j_iconst (pc := 117) (v := 5) dX0_runLower_117 (by decide) ?_
      have b118 := H.1
      replace H := H.2
      refine j_above (pc := 118) dX0_runLower_118 b118 ?_
      refine j_iconst (pc := 119) (v := 2) dX0_runLower_119 (by decide) ?_
      refine j_iload_n (pc := 120) dX0_runLower_120 rfl ?_
      refine j_iload_n (pc := 121) dX0_runLower_121 rfl ?_
      refine s_callV_i (pc := 122) (M1 := M_X0_run) (n := 4) (as := [.int (am_above 5), .int 2, .int x2, .int x3]) (a := 39) (st := []) dX0_runLower_122 G_X0_run wm_X0_45 (by decide +kernel) rfl (Nat.le_of_ble_eq_true rfl) shp_39 rfl (by show 1 ≤ d; omega) (Nat.le_of_ble_eq_true rfl) (Nat.zero_le _) (Nat.zero_le _) ?_
      refine CI.mono H (fun r5 σ5 H => ?_)
      refine j_aload_n (pc := 125) dX0_runLower_125 rfl ?_
      refine j_iconst (pc := 126) (v := 0) dX0_runLower_126 (by decide) ?_
      refine j_iconst (pc := 127) (v := 2) dX0_runLower_127 (by decide) ?_
      refine j_iload_n (pc := 128) dX0_runLower_128 rfl ?_
      refine s_callV_i (pc := 129) (M1 := M_X0_own) (n := 3) (as := [.int 0, .int 2, .int x3]) (a := 39) (st := [.int r5]) dX0_runLower_129 G_X0_own wm_X0_41 (by decide +kernel) rfl (Nat.le_of_ble_eq_true rfl) shp_39 rfl (by show 1 ≤ d; omega) (Nat.le_of_ble_eq_true rfl) (Nat.zero_le _) (Nat.zero_le _) ?_
      refine CI.mono H (fun r6 σ6 H => ?_)
      refine j_isub (pc := 132) dX0_runLower_132 ?_
      exact s_ireti (pc := 133) dX0_runLower_133 rfl H
    by_cases c1_4 : x1 = 61
    · replace H := H.2.2.2.2.1 c1_4
      refine j_lookup (pc := 1) (t := 134) (off := 133) dX0_runLower_1 (by decide) (by rw [c1_4]; decide) (by decide) ?_
      refine j_aload_n (pc := 134) dX0_runLower_134 rfl ?_
      refine j_gets_above (pc := 135) dX0_runLower_135 ws_X0_32 ?_
      refine j_iconst (pc := 138) (v := 5) dX0_runLower_138 (by decide) ?_
      have b139 := H.1
      replace H := H.2
      refine j_above (pc := 139) dX0_runLower_139 b139 ?_
      refine j_iconst (pc := 140) (v := 3) dX0_runLower_140 (by decide) ?_
      refine j_iload_n (pc := 141) dX0_runLower_141 rfl ?_
      refine j_iload_n (pc := 142) dX0_runLower_142 rfl ?_
      refine s_callV_i (pc := 143) (M1 := M_X0_run) (n := 4) (as := [.int (am_above 5), .int 3, .int x2, .int x3]) (a := 39) (st := []) dX0_runLower_143 G_X0_run wm_X0_45 (by decide +kernel) rfl (Nat.le_of_ble_eq_true rfl) shp_39 rfl (by show 1 ≤ d; omega) (Nat.le_of_ble_eq_true rfl) (Nat.zero_le _) (Nat.zero_le _) ?_
      refine CI.mono H (fun r7 σ7 H => ?_)
      refine j_iconst (pc := 146) (v := 1) dX0_runLower_146 (by decide) ?_
      refine j_iadd (pc := 147) dX0_runLower_147 ?_
      exact s_ireti (pc := 148) dX0_runLower_148 rfl H
    by_cases c1_5 : x1 = 70
    · replace H := H.2.2.2.2.2.1 c1_5
      refine j_lookup (pc := 1) (t := 149) (off := 148) dX0_runLower_1 (by decide) (by rw [c1_5]; decide) (by decide) ?_
      refine j_aload_n (pc := 149) dX0_runLower_149 rfl ?_
      refine j_gets_above (pc := 150) dX0_runLower_150 ws_X0_32 ?_
      refine j_bipush (pc := 153) (v := 6) dX0_runLower_153 (by decide) ?_
      have b155 := H.1
      replace H := H.2
      refine j_above (pc := 155) dX0_runLower_155 b155 ?_
      refine j_iconst (pc := 156) (v := 0) dX0_runLower_156 (by decide) ?_
      refine j_iload_n (pc := 157) dX0_runLower_157 rfl ?_
      refine j_iload_n (pc := 158) dX0_runLower_158 rfl ?_
      refine s_callV_i (pc := 159) (M1 := M_X0_run) (n := 4) (as := [.int (am_above 6), .int 0, .int x2, .int x3]) (a := 39) (st := []) dX0_runLower_159 G_X0_run wm_X0_45 (by decide +kernel) rfl (Nat.le_of_ble_eq_true rfl) shp_39 rfl (by show 1 ≤ d; omega) (Nat.le_of_ble_eq_true rfl) (Nat.zero_le _) (Nat.zero_le _) ?_
      refine CI.mono H (fun r8 σ8 H => ?_)
      refine j_iconst (pc := 162) (v := 2) dX0_runLower_162 (by decide) ?_
      refine j_imul (pc := 163) dX0_runLower_163 ?_
      exact s_ireti (pc := 164) dX0_runLower_164 rfl H
    by_cases c1_6 : x1 = 80
    · replace H := H.2.2.2.2.2.2 c1_6
      refine j_lookup (pc := 1) (t := 165) (off := 164) dX0_runLower_1 (by decide) (by rw [c1_6]; decide) (by decide) ?_
      refine j_aload_n (pc := 165) dX0_runLower_165 rfl ?_
      refine j_gets_above (pc := 166) dX0_runLower_166 ws_X0_32 ?_
      refine j_bipush (pc := 169) (v := 7) dX0_runLower_169 (by decide) ?_
      have b171 := H.1
      replace H := H.2
      refine j_above (pc := 171) dX0_runLower_171 b171 ?_
      refine j_iconst (pc := 172) (v := 1) dX0_runLower_172 (by decide) ?_
      refine j_iload_n (pc := 173) dX0_runLower_173 rfl ?_
      refine j_iload_n (pc := 174) dX0_runLower_174 rfl ?_
      refine s_callV_i (pc := 175) (M1 := M_X0_run) (n := 4) (as := [.int (am_above 7), .int 1, .int x2, .int x3]) (a := 39) (st := []) dX0_runLower_175 G_X0_run wm_X0_45 (by decide +kernel) rfl (Nat.le_of_ble_eq_true rfl) shp_39 rfl (by show 1 ≤ d; omega) (Nat.le_of_ble_eq_true rfl) (Nat.zero_le _) (Nat.zero_le _) ?_
      refine CI.mono H (fun r9 σ9 H => ?_)
      refine j_aload_n (pc := 178) dX0_runLower_178 rfl ?_
      refine j_iconst (pc := 179) (v := 2) dX0_runLower_179 (by decide) ?_
      refine j_iconst (pc := 180) (v := 2) dX0_runLower_180 (by decide) ?_
      refine j_iload_n (pc := 181) dX0_runLower_181 rfl ?_
      refine s_callV_i (pc := 182) (M1 := M_X0_own) (n := 3) (as := [.int 2, .int 2, .int x3]) (a := 39) (st := [.int r9]) dX0_runLower_182 G_X0_own wm_X0_41 (by decide +kernel) rfl (Nat.le_of_ble_eq_true rfl) shp_39 rfl (by show 1 ≤ d; omega) (Nat.le_of_ble_eq_true rfl) (Nat.zero_le _) (Nat.zero_le _) ?_
      refine CI.mono H (fun r10 σ10 H => ?_)
      refine j_iadd (pc := 185) dX0_runLower_185 ?_
      exact s_ireti (pc := 186) dX0_runLower_186 rfl H
    exact absurd ⟨c1_0, c1_1, c1_2, c1_3, c1_4, c1_5, c1_6⟩ c1d
set_option maxRecDepth 20000 in
theorem b_X0_run_0 {l : Launch} {g : am_G} {d : Nat} {σ : am_S} {k : Int32 → am_S → Prop}  {x1 x2 x3 x4 : Int32} (H : JI l g M_X0_run d 3 [(0, .ref 39), (1, .int x1), (2, .int x2), (3, .int x3), (4, .int x4), (5, .int x1)] [] σ k) : CI l g M_X0_run d [.ref 39, .int x1, .int x2, .int x3, .int x4] σ k := by
  show J l g (M_X0_run, d, 0, 0) 0 [(0, .ref 39), (1, .int x1), (2, .int x2), (3, .int x3), (4, .int x4)] [] (hp σ) 0 0 (kI k)
  refine j_iload_n (pc := 0) dX0_run_0 rfl ?_
  refine j_istore (pc := 1) (lv1 := [(5, .int x1), (0, .ref 39), (1, .int x1), (2, .int x2), (3, .int x3), (4, .int x4)]) dX0_run_1 (Nat.le_of_ble_eq_true rfl) rfl ?_
  refine j_sub [1, 2, 3, 4, 5, 0] rfl ?_
  exact H
set_option maxRecDepth 20000 in
theorem b_X0_run_3 {l : Launch} {g : am_G} {d : Nat} {σ : am_S} {k : Int32 → am_S → Prop}  {x1 x2 x3 x4 x5 : Int32} (hd : 1 ≤ d) (H : ((x5 ≤ 0 → ((x5 < 0 → k 0 σ) ∧ (¬ x5 < 0 → ((x4 < 40 → (vp_in ((4 * x5) + x2) 32 ∧ CV l g M_X0_note (d - 1) [.ref 39, .int (am_own (((4 * x5) + x2).toNatClampNeg))] σ (fun σ1 => ((40 ≤ am_own (((4 * x5) + x2).toNatClampNeg) → CI l g M_X0_runLower (d - 1) [.ref 39, .int (am_own (((4 * x5) + x2).toNatClampNeg)), .int x3, .int (x4 + 1)] σ1 (fun r2 σ2 => k r2 σ2)) ∧ (¬ 40 ≤ am_own (((4 * x5) + x2).toNatClampNeg) → CI l g M_X0_runUpper (d - 1) [.ref 39, .int (am_own (((4 * x5) + x2).toNatClampNeg)), .int x3, .int (x4 + 1)] σ1 (fun r3 σ3 => k r3 σ3)))))) ∧ (¬ x4 < 40 → k 0 σ))))) ∧ (¬ x5 ≤ 0 → (vp_in ((4 * x5) + x2) 32 ∧ ((¬ am_own (((4 * x5) + x2).toNatClampNeg) = 0 → ((x5 < 0 → k 0 σ) ∧ (¬ x5 < 0 → ((x4 < 40 → (vp_in ((4 * x5) + x2) 32 ∧ CV l g M_X0_note (d - 1) [.ref 39, .int (am_own (((4 * x5) + x2).toNatClampNeg))] σ (fun σ4 => ((40 ≤ am_own (((4 * x5) + x2).toNatClampNeg) → CI l g M_X0_runLower (d - 1) [.ref 39, .int (am_own (((4 * x5) + x2).toNatClampNeg)), .int x3, .int (x4 + 1)] σ4 (fun r5 σ5 => k r5 σ5)) ∧ (¬ 40 ≤ am_own (((4 * x5) + x2).toNatClampNeg) → CI l g M_X0_runUpper (d - 1) [.ref 39, .int (am_own (((4 * x5) + x2).toNatClampNeg)), .int x3, .int (x4 + 1)] σ4 (fun r6 σ6 => k r6 σ6)))))) ∧ (¬ x4 < 40 → k 0 σ))))) ∧ (am_own (((4 * x5) + x2).toNatClampNeg) = 0 → (vp_in x5 8 ∧ JI l g M_X0_run d 3 [(0, .ref 39), (1, .int x1), (2, .int x2), (3, .int x3), (4, .int x4), (5, .int (am_above x5.toNatClampNeg))] [] σ k))))))) : JI l g M_X0_run d 3 [(0, .ref 39), (1, .int x1), (2, .int x2), (3, .int x3), (4, .int x4), (5, .int x5)] [] σ k := by
  show J l g (M_X0_run, d, 0, 0) 3 [(0, .ref 39), (1, .int x1), (2, .int x2), (3, .int x3), (4, .int x4), (5, .int x5)] [] (hp σ) 0 0 (kI k)
  refine j_iload (pc := 3) dX0_run_3 rfl ?_
  refine j_if_le (pc := 5) (t := 32) dX0_run_5 (by decide) (fun c5 => ?_) (fun c5 => ?_)
  · replace H := H.1 c5
    refine j_iload (pc := 32) dX0_run_32 rfl ?_
    refine j_if_lt (pc := 34) (t := 44) dX0_run_34 (by decide) (fun c34 => ?_) (fun c34 => ?_)
    · replace H := H.1 c34
      refine j_iconst (pc := 44) (v := 0) dX0_run_44 (by decide) ?_
      exact s_ireti (pc := 45) dX0_run_45 rfl H
    · replace H := H.2 c34
      refine j_iload (pc := 37) dX0_run_37 rfl ?_
      refine j_bipush (pc := 39) (v := 40) dX0_run_39 (by decide) ?_
      refine j_icmp_lt (pc := 41) (t := 46) dX0_run_41 (by decide) (fun c41 => ?_) (fun c41 => ?_)
      · replace H := H.1 c41
        refine j_gets_own (pc := 46) dX0_run_46 ws_X0_49 ?_
        refine j_iconst (pc := 49) (v := 4) dX0_run_49 (by decide) ?_
        refine j_iload (pc := 50) dX0_run_50 rfl ?_
        refine j_imul (pc := 52) dX0_run_52 ?_
        refine j_iload_n (pc := 53) dX0_run_53 rfl ?_
        refine j_iadd (pc := 54) dX0_run_54 ?_
        have b55 := H.1
        replace H := H.2
        refine j_own (pc := 55) dX0_run_55 b55 ?_
        refine j_istore (pc := 56) (lv1 := [(6, .int (am_own (((4 * x5) + x2).toNatClampNeg))), (0, .ref 39), (1, .int x1), (2, .int x2), (3, .int x3), (4, .int x4), (5, .int x5)]) dX0_run_56 (Nat.le_of_ble_eq_true rfl) rfl ?_
        refine j_aload_n (pc := 58) dX0_run_58 rfl ?_
        refine j_iload (pc := 59) dX0_run_59 rfl ?_
        refine s_callV_v (pc := 61) (M1 := M_X0_note) (n := 1) (as := [.int (am_own (((4 * x5) + x2).toNatClampNeg))]) (a := 39) (st := []) dX0_run_61 G_X0_note wm_X0_52 (by decide +kernel) rfl (Nat.le_of_ble_eq_true rfl) shp_39 rfl (by show 1 ≤ d; omega) (Nat.le_of_ble_eq_true rfl) (Nat.zero_le _) (Nat.zero_le _) ?_
        refine CV.mono H (fun σ1 H => ?_)
        refine j_iload (pc := 64) dX0_run_64 rfl ?_
        refine j_bipush (pc := 66) (v := 40) dX0_run_66 (by decide) ?_
        refine j_icmp_ge (pc := 68) (t := 85) dX0_run_68 (by decide) (fun c68 => ?_) (fun c68 => ?_)
        · replace H := H.1 c68
          refine j_aload_n (pc := 85) dX0_run_85 rfl ?_
          refine j_iload (pc := 86) dX0_run_86 rfl ?_
          refine j_iload_n (pc := 88) dX0_run_88 rfl ?_
          refine j_iload (pc := 89) dX0_run_89 rfl ?_
          refine j_iconst (pc := 91) (v := 1) dX0_run_91 (by decide) ?_
          refine j_iadd (pc := 92) dX0_run_92 ?_
          refine s_callV_i (pc := 93) (M1 := M_X0_runLower) (n := 3) (as := [.int (am_own (((4 * x5) + x2).toNatClampNeg)), .int x3, .int (x4 + 1)]) (a := 39) (st := []) dX0_run_93 G_X0_runLower wm_X0_59 (by decide +kernel) rfl (Nat.le_of_ble_eq_true rfl) shp_39 rfl (by show 1 ≤ d; omega) (Nat.le_of_ble_eq_true rfl) (Nat.zero_le _) (Nat.zero_le _) ?_
          refine CI.mono H (fun r2 σ2 H => ?_)
          exact s_ireti (pc := 96) dX0_run_96 rfl H
        · replace H := H.2 c68
          refine j_aload_n (pc := 71) dX0_run_71 rfl ?_
          refine j_iload (pc := 72) dX0_run_72 rfl ?_
          refine j_iload_n (pc := 74) dX0_run_74 rfl ?_
          refine j_iload (pc := 75) dX0_run_75 rfl ?_
          refine j_iconst (pc := 77) (v := 1) dX0_run_77 (by decide) ?_
          refine j_iadd (pc := 78) dX0_run_78 ?_
          refine s_callV_i (pc := 79) (M1 := M_X0_runUpper) (n := 3) (as := [.int (am_own (((4 * x5) + x2).toNatClampNeg)), .int x3, .int (x4 + 1)]) (a := 39) (st := []) dX0_run_79 G_X0_runUpper wm_X0_56 (by decide +kernel) rfl (Nat.le_of_ble_eq_true rfl) shp_39 rfl (by show 1 ≤ d; omega) (Nat.le_of_ble_eq_true rfl) (Nat.zero_le _) (Nat.zero_le _) ?_
          refine CI.mono H (fun r3 σ3 H => ?_)
          refine j_goto (pc := 82) (t := 96) dX0_run_82 (by decide) ?_
          exact s_ireti (pc := 96) dX0_run_96 rfl H
      · replace H := H.2 c41
        refine j_iconst (pc := 44) (v := 0) dX0_run_44 (by decide) ?_
        exact s_ireti (pc := 45) dX0_run_45 rfl H
  · replace H := H.2 c5
    refine j_gets_own (pc := 8) dX0_run_8 ws_X0_49 ?_
    refine j_iconst (pc := 11) (v := 4) dX0_run_11 (by decide) ?_
    refine j_iload (pc := 12) dX0_run_12 rfl ?_
    refine j_imul (pc := 14) dX0_run_14 ?_
    refine j_iload_n (pc := 15) dX0_run_15 rfl ?_
    refine j_iadd (pc := 16) dX0_run_16 ?_
    have b17 := H.1
    replace H := H.2
    refine j_own (pc := 17) dX0_run_17 b17 ?_
    refine j_if_ne (pc := 18) (t := 32) dX0_run_18 (by decide) (fun c18 => ?_) (fun c18 => ?_)
    · replace H := H.1 c18
      refine j_iload (pc := 32) dX0_run_32 rfl ?_
      refine j_if_lt (pc := 34) (t := 44) dX0_run_34 (by decide) (fun c34 => ?_) (fun c34 => ?_)
      · replace H := H.1 c34
        refine j_iconst (pc := 44) (v := 0) dX0_run_44 (by decide) ?_
        exact s_ireti (pc := 45) dX0_run_45 rfl H
      · replace H := H.2 c34
        refine j_iload (pc := 37) dX0_run_37 rfl ?_
        refine j_bipush (pc := 39) (v := 40) dX0_run_39 (by decide) ?_
        refine j_icmp_lt (pc := 41) (t := 46) dX0_run_41 (by decide) (fun c41 => ?_) (fun c41 => ?_)
        · replace H := H.1 c41
          refine j_gets_own (pc := 46) dX0_run_46 ws_X0_49 ?_
          refine j_iconst (pc := 49) (v := 4) dX0_run_49 (by decide) ?_
          refine j_iload (pc := 50) dX0_run_50 rfl ?_
          refine j_imul (pc := 52) dX0_run_52 ?_
          refine j_iload_n (pc := 53) dX0_run_53 rfl ?_
          refine j_iadd (pc := 54) dX0_run_54 ?_
          have b55 := H.1
          replace H := H.2
          refine j_own (pc := 55) dX0_run_55 b55 ?_
          refine j_istore (pc := 56) (lv1 := [(6, .int (am_own (((4 * x5) + x2).toNatClampNeg))), (0, .ref 39), (1, .int x1), (2, .int x2), (3, .int x3), (4, .int x4), (5, .int x5)]) dX0_run_56 (Nat.le_of_ble_eq_true rfl) rfl ?_
          refine j_aload_n (pc := 58) dX0_run_58 rfl ?_
          refine j_iload (pc := 59) dX0_run_59 rfl ?_
          refine s_callV_v (pc := 61) (M1 := M_X0_note) (n := 1) (as := [.int (am_own (((4 * x5) + x2).toNatClampNeg))]) (a := 39) (st := []) dX0_run_61 G_X0_note wm_X0_52 (by decide +kernel) rfl (Nat.le_of_ble_eq_true rfl) shp_39 rfl (by show 1 ≤ d; omega) (Nat.le_of_ble_eq_true rfl) (Nat.zero_le _) (Nat.zero_le _) ?_
          refine CV.mono H (fun σ4 H => ?_)
          refine j_iload (pc := 64) dX0_run_64 rfl ?_
          refine j_bipush (pc := 66) (v := 40) dX0_run_66 (by decide) ?_
          refine j_icmp_ge (pc := 68) (t := 85) dX0_run_68 (by decide) (fun c68 => ?_) (fun c68 => ?_)
          · replace H := H.1 c68
            refine j_aload_n (pc := 85) dX0_run_85 rfl ?_
            refine j_iload (pc := 86) dX0_run_86 rfl ?_
            refine j_iload_n (pc := 88) dX0_run_88 rfl ?_
            refine j_iload (pc := 89) dX0_run_89 rfl ?_
            refine j_iconst (pc := 91) (v := 1) dX0_run_91 (by decide) ?_
            refine j_iadd (pc := 92) dX0_run_92 ?_
            refine s_callV_i (pc := 93) (M1 := M_X0_runLower) (n := 3) (as := [.int (am_own (((4 * x5) + x2).toNatClampNeg)), .int x3, .int (x4 + 1)]) (a := 39) (st := []) dX0_run_93 G_X0_runLower wm_X0_59 (by decide +kernel) rfl (Nat.le_of_ble_eq_true rfl) shp_39 rfl (by show 1 ≤ d; omega) (Nat.le_of_ble_eq_true rfl) (Nat.zero_le _) (Nat.zero_le _) ?_
            refine CI.mono H (fun r5 σ5 H => ?_)
            exact s_ireti (pc := 96) dX0_run_96 rfl H
          · replace H := H.2 c68
            refine j_aload_n (pc := 71) dX0_run_71 rfl ?_
            refine j_iload (pc := 72) dX0_run_72 rfl ?_
            refine j_iload_n (pc := 74) dX0_run_74 rfl ?_
            refine j_iload (pc := 75) dX0_run_75 rfl ?_
            refine j_iconst (pc := 77) (v := 1) dX0_run_77 (by decide) ?_
            refine j_iadd (pc := 78) dX0_run_78 ?_
            refine s_callV_i (pc := 79) (M1 := M_X0_runUpper) (n := 3) (as := [.int (am_own (((4 * x5) + x2).toNatClampNeg)), .int x3, .int (x4 + 1)]) (a := 39) (st := []) dX0_run_79 G_X0_runUpper wm_X0_56 (by decide +kernel) rfl (Nat.le_of_ble_eq_true rfl) shp_39 rfl (by show 1 ≤ d; omega) (Nat.le_of_ble_eq_true rfl) (Nat.zero_le _) (Nat.zero_le _) ?_
            refine CI.mono H (fun r6 σ6 H => ?_)
            refine j_goto (pc := 82) (t := 96) dX0_run_82 (by decide) ?_
            exact s_ireti (pc := 96) dX0_run_96 rfl H
        · replace H := H.2 c41
          refine j_iconst (pc := 44) (v := 0) dX0_run_44 (by decide) ?_
          exact s_ireti (pc := 45) dX0_run_45 rfl H
    · replace H := H.2 c18
      refine j_gets_above (pc := 21) dX0_run_21 ws_X0_32 ?_
      refine j_iload (pc := 24) dX0_run_24 rfl ?_
      have b26 := H.1
      replace H := H.2
      refine j_above (pc := 26) dX0_run_26 b26 ?_
      refine j_istore (pc := 27) (lv1 := [(5, .int (am_above x5.toNatClampNeg)), (0, .ref 39), (1, .int x1), (2, .int x2), (3, .int x3), (4, .int x4)]) dX0_run_27 (Nat.le_of_ble_eq_true rfl) rfl ?_
      refine j_goto (pc := 29) (t := 3) dX0_run_29 (by decide) ?_
      refine j_sub [1, 2, 3, 4, 5, 0] rfl ?_
      exact H
set_option maxRecDepth 20000 in
theorem b_X0_own_0 {l : Launch} {g : am_G} {d : Nat} {σ : am_S} {k : Int32 → am_S → Prop}  {x1 x2 x3 : Int32} (hd : 1 ≤ d) (H : (vp_in (rg σ 2500) 50 ∧ CI l g M_X0_run (d - 1) [.ref 39, .int (ar σ 40 ((rg σ 2500).toNatClampNeg)), .int x1, .int x2, .int x3] σ (fun r1 σ1 => k r1 σ1))) : CI l g M_X0_own d [.ref 39, .int x1, .int x2, .int x3] σ k := by
  show J l g (M_X0_own, d, 0, 0) 0 [(0, .ref 39), (1, .int x1), (2, .int x2), (3, .int x3)] [] (hp σ) 0 0 (kI k)
  refine j_aload_n (pc := 0) dX0_own_0 rfl ?_
  refine j_aload_n (pc := 1) dX0_own_1 rfl ?_
  refine s_getr (pc := 2) dX0_own_2 fl_X0_11 shp_39 rfl ?_
  refine j_aload_n (pc := 5) dX0_own_5 rfl ?_
  refine s_geti (pc := 6) 2500 (rg σ 2500) dX0_own_6 fl_X0_25 shp_39 rfl rfl rfl ?_
  have b9 := H.1
  replace H := H.2
  refine s_iald (pc := 9) (ar σ 40 ((rg σ 2500).toNatClampNeg)) dX0_own_9 shp_40 b9 rfl ?_
  refine j_iload_n (pc := 10) dX0_own_10 rfl ?_
  refine j_iload_n (pc := 11) dX0_own_11 rfl ?_
  refine j_iload_n (pc := 12) dX0_own_12 rfl ?_
  refine s_callV_i (pc := 13) (M1 := M_X0_run) (n := 4) (as := [.int (ar σ 40 ((rg σ 2500).toNatClampNeg)), .int x1, .int x2, .int x3]) (a := 39) (st := []) dX0_own_13 G_X0_run wm_X0_45 (by decide +kernel) rfl (Nat.le_of_ble_eq_true rfl) shp_39 rfl (by show 1 ≤ d; omega) (Nat.le_of_ble_eq_true rfl) (Nat.zero_le _) (Nat.zero_le _) ?_
  refine CI.mono H (fun r1 σ1 H => ?_)
  exact s_ireti (pc := 16) dX0_own_16 rfl H
set_option maxRecDepth 20000 in
theorem b_X0_perform_0 {l : Launch} {g : am_G} {d : Nat} {σ : am_S} {k : Int32 → am_S → Prop}  {x1 x2 x3 : Int32} (hd : 1 ≤ d) (H : (((¬ x1 < 0 ∧ ¬ rg σ 2497 ≤ x1) → ((x2 < 0 → k 0 (sR σ 2499 0)) ∧ (¬ x2 < 0 → ((x2 ≤ 3 → CI l g M_X0_own (d - 1) [.ref 39, .int x2, .int x3, .int 0] (sR (sR σ 2499 0) 2500 x1) (fun r2 σ2 => k r2 σ2)) ∧ (¬ x2 ≤ 3 → k 0 (sR σ 2499 0)))))) ∧ (¬ (¬ x1 < 0 ∧ ¬ rg σ 2497 ≤ x1) → k 0 (sR σ 2499 0)))) : CI l g M_X0_perform d [.ref 39, .int x1, .int x2, .int x3] σ k := by
  show J l g (M_X0_perform, d, 0, 0) 0 [(0, .ref 39), (1, .int x1), (2, .int x2), (3, .int x3)] [] (hp σ) 0 0 (kI k)
  refine j_aload_n (pc := 0) dX0_perform_0 rfl ?_
  refine j_iconst (pc := 1) (v := 0) dX0_perform_1 (by decide) ?_
  refine s_put (pc := 2) 2499 dX0_perform_2 fl_X0_22 shp_39 rfl rfl fp_0_3 rfl rfl ?_
  refine j_aload_n (pc := 5) dX0_perform_5 rfl ?_
  refine j_iload_n (pc := 6) dX0_perform_6 rfl ?_
  refine s_callV_i (pc := 7) (M1 := M_X0_hasBody) (n := 1) (as := [.int x1]) (a := 39) (st := []) dX0_perform_7 G_X0_hasBody wm_X0_28 (by decide +kernel) rfl (Nat.le_of_ble_eq_true rfl) shp_39 rfl (by show 1 ≤ d; omega) (Nat.le_of_ble_eq_true rfl) (Nat.zero_le _) (Nat.zero_le _) ?_
  refine C_X0_hasBody (d := d - 1) (by omega) ⟨fun c7 => ?_, fun c7 => ?_⟩
  · replace H := H.1 c7
    refine j_if_eq (pc := 10) (t := 22) dX0_perform_10 (by decide) (fun q => absurd q (by decide)) (fun _ => ?_)
    refine j_iload_n (pc := 13) dX0_perform_13 rfl ?_
    refine j_if_lt (pc := 14) (t := 22) dX0_perform_14 (by decide) (fun c14 => ?_) (fun c14 => ?_)
    · replace H := H.1 c14
      refine j_iconst (pc := 22) (v := 0) dX0_perform_22 (by decide) ?_
      exact s_ireti (pc := 23) dX0_perform_23 rfl H
    · replace H := H.2 c14
      refine j_iload_n (pc := 17) dX0_perform_17 rfl ?_
      refine j_iconst (pc := 18) (v := 3) dX0_perform_18 (by decide) ?_
      refine j_icmp_le (pc := 19) (t := 24) dX0_perform_19 (by decide) (fun c19 => ?_) (fun c19 => ?_)
      · replace H := H.1 c19
        refine j_aload_n (pc := 24) dX0_perform_24 rfl ?_
        refine j_iload_n (pc := 25) dX0_perform_25 rfl ?_
        refine s_put (pc := 26) 2500 dX0_perform_26 fl_X0_25 shp_39 rfl rfl fp_0_4 rfl rfl ?_
        refine j_aload_n (pc := 29) dX0_perform_29 rfl ?_
        refine j_iload_n (pc := 30) dX0_perform_30 rfl ?_
        refine j_iload_n (pc := 31) dX0_perform_31 rfl ?_
        refine j_iconst (pc := 32) (v := 0) dX0_perform_32 (by decide) ?_
        refine s_callV_i (pc := 33) (M1 := M_X0_own) (n := 3) (as := [.int x2, .int x3, .int 0]) (a := 39) (st := []) dX0_perform_33 G_X0_own wm_X0_41 (by decide +kernel) rfl (Nat.le_of_ble_eq_true rfl) shp_39 rfl (by show 1 ≤ d; omega) (Nat.le_of_ble_eq_true rfl) (Nat.zero_le _) (Nat.zero_le _) ?_
        refine CI.mono H (fun r2 σ2 H => ?_)
        exact s_ireti (pc := 36) dX0_perform_36 rfl H
      · replace H := H.2 c19
        refine j_iconst (pc := 22) (v := 0) dX0_perform_22 (by decide) ?_
        exact s_ireti (pc := 23) dX0_perform_23 rfl H
  · replace H := H.2 c7
    refine j_if_eq (pc := 10) (t := 22) dX0_perform_10 (by decide) (fun _ => ?_) (fun q => absurd q (by decide))
    refine j_iconst (pc := 22) (v := 0) dX0_perform_22 (by decide) ?_
    exact s_ireti (pc := 23) dX0_perform_23 rfl H
set_option maxRecDepth 20000 in
theorem C_X11_roomIn {l : Launch} {g : am_G} {d : Nat} {σ : am_S} {k : Int32 → am_S → Prop}  {x0 x1 : Int32} (hd : 0 ≤ d) (H : k ((x0 >>> ((2 * x1) &&& 31)) &&& 3) σ) : CI l g M_X11_roomIn d [.int x0, .int x1] σ k := by
  show J l g (M_X11_roomIn, d, 0, 0) 0 [(0, .int x0), (1, .int x1)] [] (hp σ) 0 0 (kI k)
  refine j_iload_n (pc := 0) dX11_roomIn_0 rfl ?_
  refine j_iconst (pc := 1) (v := 2) dX11_roomIn_1 (by decide) ?_
  refine j_iload_n (pc := 2) dX11_roomIn_2 rfl ?_
  refine j_imul (pc := 3) dX11_roomIn_3 ?_
  refine j_ishr (pc := 4) dX11_roomIn_4 ?_
  refine j_iconst (pc := 5) (v := 3) dX11_roomIn_5 (by decide) ?_
  refine j_iand (pc := 6) dX11_roomIn_6 ?_
  exact s_ireti (pc := 7) dX11_roomIn_7 rfl H
set_option maxRecDepth 20000 in
theorem b_X9_seat_0 {l : Launch} {g : am_G} {d : Nat} {σ : am_S} {k : am_S → Prop}  {x1 x2 : Int32} (H : JV l g M_X9_seat d 2 [(0, .ref 20), (1, .int x1), (2, .int x2), (3, .int 0)] [] σ k) : CV l g M_X9_seat d [.ref 20, .int x1, .int x2] σ k := by
  show J l g (M_X9_seat, d, 0, 0) 0 [(0, .ref 20), (1, .int x1), (2, .int x2)] [] (hp σ) 0 0 (kV k)
  refine j_iconst (pc := 0) (v := 0) dX9_seat_0 (by decide) ?_
  refine j_istore_n (pc := 1) (lv1 := [(3, .int 0), (0, .ref 20), (1, .int x1), (2, .int x2)]) dX9_seat_1 (Nat.le_of_ble_eq_true rfl) rfl ?_
  refine j_sub [1, 2, 3, 0] rfl ?_
  exact H
set_option maxRecDepth 20000 in
theorem b_X9_seat_2 {l : Launch} {g : am_G} {d : Nat} {σ : am_S} {k : am_S → Prop}  {x1 x2 x3 : Int32} (H : ((4 ≤ x3 → JV l g M_X9_seat d 22 [(0, .ref 20), (1, .int x1), (2, .int x2), (3, .int 0)] [] σ k) ∧ (¬ 4 ≤ x3 → (vp_in x3 4 ∧ JV l g M_X9_seat d 2 [(0, .ref 20), (1, .int x1), (2, .int x2), (3, .int (x3 + 1))] [] (sA σ 23 x3.toNatClampNeg 0) k)))) : JV l g M_X9_seat d 2 [(0, .ref 20), (1, .int x1), (2, .int x2), (3, .int x3)] [] σ k := by
  show J l g (M_X9_seat, d, 0, 0) 2 [(0, .ref 20), (1, .int x1), (2, .int x2), (3, .int x3)] [] (hp σ) 0 0 (kV k)
  refine j_iload_n (pc := 2) dX9_seat_2 rfl ?_
  refine j_iconst (pc := 3) (v := 4) dX9_seat_3 (by decide) ?_
  refine j_icmp_ge (pc := 4) (t := 20) dX9_seat_4 (by decide) (fun c4 => ?_) (fun c4 => ?_)
  · replace H := H.1 c4
    refine j_iconst (pc := 20) (v := 0) dX9_seat_20 (by decide) ?_
    refine j_istore_n (pc := 21) (lv1 := [(3, .int 0), (0, .ref 20), (1, .int x1), (2, .int x2)]) dX9_seat_21 (Nat.le_of_ble_eq_true rfl) rfl ?_
    refine j_sub [1, 2, 3, 0] rfl ?_
    exact H
  · replace H := H.2 c4
    refine j_aload_n (pc := 7) dX9_seat_7 rfl ?_
    refine s_getr (pc := 8) dX9_seat_8 fl_X9_18 shp_20 rfl ?_
    refine j_iload_n (pc := 11) dX9_seat_11 rfl ?_
    refine j_iconst (pc := 12) (v := 0) dX9_seat_12 (by decide) ?_
    have b13 := H.1
    replace H := H.2
    refine s_iast (pc := 13) dX9_seat_13 shp_23 b13 ?_
    refine j_iinc (pc := 14) (k := 3) (v := x3 + 1) (lv1 := [(3, .int (x3 + 1)), (0, .ref 20), (1, .int x1), (2, .int x2)]) dX9_seat_14 rfl rfl (Nat.le_of_ble_eq_true rfl) rfl ?_
    refine j_goto (pc := 17) (t := 2) dX9_seat_17 (by decide) ?_
    refine j_sub [1, 2, 3, 0] rfl ?_
    exact H
set_option maxRecDepth 20000 in
theorem b_X9_seat_22 {l : Launch} {g : am_G} {d : Nat} {σ : am_S} {k : am_S → Prop}  {x1 x2 x3 : Int32} (hd : 1 ≤ d) (H : ((x1 ≤ x3 → k σ) ∧ (¬ x1 ≤ x3 → (vp_in ((x2 >>> ((2 * x3) &&& 31)) &&& 3) 4 ∧ (vp_in ((x2 >>> ((2 * x3) &&& 31)) &&& 3) 4 ∧ JV l g M_X9_seat d 22 [(0, .ref 20), (1, .int x1), (2, .int x2), (3, .int (x3 + 1))] [] (sA σ 23 (((x2 >>> ((2 * x3) &&& 31)) &&& 3).toNatClampNeg) ((ar σ 23 (((x2 >>> ((2 * x3) &&& 31)) &&& 3).toNatClampNeg)) ||| ((1 : Int32) <<< (x3 &&& 31)))) k))))) : JV l g M_X9_seat d 22 [(0, .ref 20), (1, .int x1), (2, .int x2), (3, .int x3)] [] σ k := by
  show J l g (M_X9_seat, d, 0, 0) 22 [(0, .ref 20), (1, .int x1), (2, .int x2), (3, .int x3)] [] (hp σ) 0 0 (kV k)
  refine j_iload_n (pc := 22) dX9_seat_22 rfl ?_
  refine j_iload_n (pc := 23) dX9_seat_23 rfl ?_
  refine j_icmp_ge (pc := 24) (t := 49) dX9_seat_24 (by decide) (fun c24 => ?_) (fun c24 => ?_)
  · replace H := H.1 c24
    exact s_vret (pc := 49) dX9_seat_49 rfl H
  · replace H := H.2 c24
    refine j_aload_n (pc := 27) dX9_seat_27 rfl ?_
    refine s_getr (pc := 28) dX9_seat_28 fl_X9_18 shp_20 rfl ?_
    refine j_iload_n (pc := 31) dX9_seat_31 rfl ?_
    refine j_iload_n (pc := 32) dX9_seat_32 rfl ?_
    refine s_callSN_i (pc := 33) (M1 := M_X11_roomIn) (n := 2) (as := [.int x2, .int x3]) (st := [.ref 23]) "SmallerOut" dX9_seat_33 G_X11_roomIn wn_X9_47 nn_X9_47 (by decide +kernel) rfl (Nat.le_of_ble_eq_true rfl) (by show 1 ≤ d; omega) (Nat.le_of_ble_eq_true rfl) ?_
    refine C_X11_roomIn (d := d - 1) (by omega) ?_
    refine j_dup2 (pc := 36) dX9_seat_36 rfl rfl ?_
    have b37 := H.1
    replace H := H.2
    refine s_iald (pc := 37) (ar σ 23 (((x2 >>> ((2 * x3) &&& 31)) &&& 3).toNatClampNeg)) dX9_seat_37 shp_23 b37 rfl ?_
    refine j_iconst (pc := 38) (v := 1) dX9_seat_38 (by decide) ?_
    refine j_iload_n (pc := 39) dX9_seat_39 rfl ?_
    refine j_ishl (pc := 40) dX9_seat_40 ?_
    refine j_ior (pc := 41) dX9_seat_41 ?_
    have b42 := H.1
    replace H := H.2
    refine s_iast (pc := 42) dX9_seat_42 shp_23 b42 ?_
    refine j_iinc (pc := 43) (k := 3) (v := x3 + 1) (lv1 := [(3, .int (x3 + 1)), (0, .ref 20), (1, .int x1), (2, .int x2)]) dX9_seat_43 rfl rfl (Nat.le_of_ble_eq_true rfl) rfl ?_
    refine j_goto (pc := 46) (t := 22) dX9_seat_46 (by decide) ?_
    refine j_sub [1, 2, 3, 0] rfl ?_
    exact H
set_option maxRecDepth 20000 in
theorem b_X6_changed_0 {l : Launch} {g : am_G} {d : Nat} {σ : am_S} {k : Int32 → am_S → Prop}  {x1 x2 x3 x4 : Int32} (H : (vp_in x2 5 ∧ (vp_in x2 5 ∧ k ((x1 ^^^ (((ar σ 15 x2.toNatClampNeg) ^^^ (ar σ 16 x2.toNatClampNeg)) <<< ((2 * x3) &&& 31))) ^^^ (((ar σ 15 x2.toNatClampNeg) ^^^ (ar σ 16 x2.toNatClampNeg)) <<< ((2 * x4) &&& 31))) σ))) : CI l g M_X6_changed d [.ref 14, .int x1, .int x2, .int x3, .int x4] σ k := by
  show J l g (M_X6_changed, d, 0, 0) 0 [(0, .ref 14), (1, .int x1), (2, .int x2), (3, .int x3), (4, .int x4)] [] (hp σ) 0 0 (kI k)
  refine j_aload_n (pc := 0) dX6_changed_0 rfl ?_
  refine s_getr (pc := 1) dX6_changed_1 fl_X6_9 shp_14 rfl ?_
  refine j_iload_n (pc := 4) dX6_changed_4 rfl ?_
  have b5 := H.1
  replace H := H.2
  refine s_iald (pc := 5) (ar σ 15 x2.toNatClampNeg) dX6_changed_5 shp_15 b5 rfl ?_
  refine j_aload_n (pc := 6) dX6_changed_6 rfl ?_
  refine s_getr (pc := 7) dX6_changed_7 fl_X6_15 shp_14 rfl ?_
  refine j_iload_n (pc := 10) dX6_changed_10 rfl ?_
  have b11 := H.1
  replace H := H.2
  refine s_iald (pc := 11) (ar σ 16 x2.toNatClampNeg) dX6_changed_11 shp_16 b11 rfl ?_
  refine j_ixor (pc := 12) dX6_changed_12 ?_
  refine j_istore (pc := 13) (lv1 := [(5, .int ((ar σ 15 x2.toNatClampNeg) ^^^ (ar σ 16 x2.toNatClampNeg))), (0, .ref 14), (1, .int x1), (2, .int x2), (3, .int x3), (4, .int x4)]) dX6_changed_13 (Nat.le_of_ble_eq_true rfl) rfl ?_
  refine j_iload_n (pc := 15) dX6_changed_15 rfl ?_
  refine j_iload (pc := 16) dX6_changed_16 rfl ?_
  refine j_iconst (pc := 18) (v := 2) dX6_changed_18 (by decide) ?_
  refine j_iload_n (pc := 19) dX6_changed_19 rfl ?_
  refine j_imul (pc := 20) dX6_changed_20 ?_
  refine j_ishl (pc := 21) dX6_changed_21 ?_
  refine j_ixor (pc := 22) dX6_changed_22 ?_
  refine j_iload (pc := 23) dX6_changed_23 rfl ?_
  refine j_iconst (pc := 25) (v := 2) dX6_changed_25 (by decide) ?_
  refine j_iload (pc := 26) dX6_changed_26 rfl ?_
  refine j_imul (pc := 28) dX6_changed_28 ?_
  refine j_ishl (pc := 29) dX6_changed_29 ?_
  refine j_ixor (pc := 30) dX6_changed_30 ?_
  exact s_ireti (pc := 31) dX6_changed_31 rfl H
set_option maxRecDepth 20000 in
theorem b_X9_listAt_0 {l : Launch} {g : am_G} {d : Nat} {σ : am_S} {k : am_S → Prop}  {x2 x3 : Int32} (H : (vp_in x3 5 ∧ (vp_in (ar σ 15 x3.toNatClampNeg) 4 ∧ (vp_in x3 5 ∧ (vp_in (ar σ 16 x3.toNatClampNeg) 4 ∧ ((ar σ 23 ((ar σ 15 x3.toNatClampNeg).toNatClampNeg) = 0 → k σ) ∧ (¬ ar σ 23 ((ar σ 15 x3.toNatClampNeg).toNatClampNeg) = 0 → ((¬ ar σ 23 ((ar σ 16 x3.toNatClampNeg).toNatClampNeg) = 0 → JV l g M_X9_listAt d 40 [(0, .ref 20), (1, .ref 14), (2, .int x2), (3, .int x3), (4, .int (ar σ 23 ((ar σ 15 x3.toNatClampNeg).toNatClampNeg))), (5, .int (ar σ 23 ((ar σ 16 x3.toNatClampNeg).toNatClampNeg))), (6, .int 0)] [] σ k) ∧ (ar σ 23 ((ar σ 16 x3.toNatClampNeg).toNatClampNeg) = 0 → k σ))))))))) : CV l g M_X9_listAt d [.ref 20, .ref 14, .int x2, .int x3] σ k := by
  show J l g (M_X9_listAt, d, 0, 0) 0 [(0, .ref 20), (1, .ref 14), (2, .int x2), (3, .int x3)] [] (hp σ) 0 0 (kV k)
  refine j_aload_n (pc := 0) dX9_listAt_0 rfl ?_
  refine s_getr (pc := 1) dX9_listAt_1 fl_X9_18 shp_20 rfl ?_
  refine j_aload_n (pc := 4) dX9_listAt_4 rfl ?_
  refine s_getr (pc := 5) dX9_listAt_5 fl_X9_51 shp_14 rfl ?_
  refine j_iload_n (pc := 8) dX9_listAt_8 rfl ?_
  have b9 := H.1
  replace H := H.2
  refine s_iald (pc := 9) (ar σ 15 x3.toNatClampNeg) dX9_listAt_9 shp_15 b9 rfl ?_
  have b10 := H.1
  replace H := H.2
  refine s_iald (pc := 10) (ar σ 23 ((ar σ 15 x3.toNatClampNeg).toNatClampNeg)) dX9_listAt_10 shp_23 b10 rfl ?_
  refine j_istore (pc := 11) (lv1 := [(4, .int (ar σ 23 ((ar σ 15 x3.toNatClampNeg).toNatClampNeg))), (0, .ref 20), (1, .ref 14), (2, .int x2), (3, .int x3)]) dX9_listAt_11 (Nat.le_of_ble_eq_true rfl) rfl ?_
  refine j_aload_n (pc := 13) dX9_listAt_13 rfl ?_
  refine s_getr (pc := 14) dX9_listAt_14 fl_X9_18 shp_20 rfl ?_
  refine j_aload_n (pc := 17) dX9_listAt_17 rfl ?_
  refine s_getr (pc := 18) dX9_listAt_18 fl_X9_54 shp_14 rfl ?_
  refine j_iload_n (pc := 21) dX9_listAt_21 rfl ?_
  have b22 := H.1
  replace H := H.2
  refine s_iald (pc := 22) (ar σ 16 x3.toNatClampNeg) dX9_listAt_22 shp_16 b22 rfl ?_
  have b23 := H.1
  replace H := H.2
  refine s_iald (pc := 23) (ar σ 23 ((ar σ 16 x3.toNatClampNeg).toNatClampNeg)) dX9_listAt_23 shp_23 b23 rfl ?_
  refine j_istore (pc := 24) (lv1 := [(5, .int (ar σ 23 ((ar σ 16 x3.toNatClampNeg).toNatClampNeg))), (4, .int (ar σ 23 ((ar σ 15 x3.toNatClampNeg).toNatClampNeg))), (0, .ref 20), (1, .ref 14), (2, .int x2), (3, .int x3)]) dX9_listAt_24 (Nat.le_of_ble_eq_true rfl) rfl ?_
  refine j_iload (pc := 26) dX9_listAt_26 rfl ?_
  refine j_if_eq (pc := 28) (t := 36) dX9_listAt_28 (by decide) (fun c28 => ?_) (fun c28 => ?_)
  · replace H := H.1 c28
    exact s_vret (pc := 36) dX9_listAt_36 rfl H
  · replace H := H.2 c28
    refine j_iload (pc := 31) dX9_listAt_31 rfl ?_
    refine j_if_ne (pc := 33) (t := 37) dX9_listAt_33 (by decide) (fun c33 => ?_) (fun c33 => ?_)
    · replace H := H.1 c33
      refine j_iconst (pc := 37) (v := 0) dX9_listAt_37 (by decide) ?_
      refine j_istore (pc := 38) (lv1 := [(6, .int 0), (5, .int (ar σ 23 ((ar σ 16 x3.toNatClampNeg).toNatClampNeg))), (4, .int (ar σ 23 ((ar σ 15 x3.toNatClampNeg).toNatClampNeg))), (0, .ref 20), (1, .ref 14), (2, .int x2), (3, .int x3)]) dX9_listAt_38 (Nat.le_of_ble_eq_true rfl) rfl ?_
      refine j_sub [3, 4, 5, 6, 2, 1, 0] rfl ?_
      exact H
    · replace H := H.2 c33
      exact s_vret (pc := 36) dX9_listAt_36 rfl H
set_option maxRecDepth 20000 in
theorem b_X9_listAt_40 {l : Launch} {g : am_G} {d : Nat} {σ : am_S} {k : am_S → Prop}  {x2 x3 x4 x5 x6 : Int32} (H : ((rg σ 66 ≤ x6 → k σ) ∧ (¬ rg σ 66 ≤ x6 → ((¬ (x4 >>> (x6 &&& 31)) &&& 1 = 0 → (vp_in ((x3 * 7) + x6) 35 ∧ JV l g M_X9_listAt d 86 [(0, .ref 20), (1, .ref 14), (2, .int x2), (3, .int x3), (4, .int x4), (5, .int x5), (6, .int x6), (7, .int ((ar σ 18 (((x3 * 7) + x6).toNatClampNeg)) &&& x5)), (8, .int 0)] [] σ k)) ∧ ((x4 >>> (x6 &&& 31)) &&& 1 = 0 → JV l g M_X9_listAt d 86 [(0, .ref 20), (1, .ref 14), (2, .int x2), (3, .int x3), (4, .int x4), (5, .int x5), (6, .int x6), (7, .int 0), (8, .int 0)] [] σ k))))) : JV l g M_X9_listAt d 40 [(0, .ref 20), (1, .ref 14), (2, .int x2), (3, .int x3), (4, .int x4), (5, .int x5), (6, .int x6)] [] σ k := by
  show J l g (M_X9_listAt, d, 0, 0) 40 [(0, .ref 20), (1, .ref 14), (2, .int x2), (3, .int x3), (4, .int x4), (5, .int x5), (6, .int x6)] [] (hp σ) 0 0 (kV k)
  refine j_iload (pc := 40) dX9_listAt_40 rfl ?_
  refine j_aload_n (pc := 42) dX9_listAt_42 rfl ?_
  refine s_getr (pc := 43) dX9_listAt_43 fl_X9_25 shp_14 rfl ?_
  refine s_geti (pc := 46) 66 (rg σ 66) dX9_listAt_46 fl_X9_31 shp_1 rfl rfl rfl ?_
  refine j_icmp_ge (pc := 49) (t := 180) dX9_listAt_49 (by decide) (fun c49 => ?_) (fun c49 => ?_)
  · replace H := H.1 c49
    exact s_vret (pc := 180) dX9_listAt_180 rfl H
  · replace H := H.2 c49
    refine j_iload (pc := 52) dX9_listAt_52 rfl ?_
    refine j_iload (pc := 54) dX9_listAt_54 rfl ?_
    refine j_ishr (pc := 56) dX9_listAt_56 ?_
    refine j_iconst (pc := 57) (v := 1) dX9_listAt_57 (by decide) ?_
    refine j_iand (pc := 58) dX9_listAt_58 ?_
    refine j_if_ne (pc := 59) (t := 66) dX9_listAt_59 (by decide) (fun c59 => ?_) (fun c59 => ?_)
    · replace H := H.1 c59
      refine j_aload_n (pc := 66) dX9_listAt_66 rfl ?_
      refine s_getr (pc := 67) dX9_listAt_67 fl_X9_57 shp_14 rfl ?_
      refine j_iload_n (pc := 70) dX9_listAt_70 rfl ?_
      refine j_bipush (pc := 71) (v := 7) dX9_listAt_71 (by decide) ?_
      refine j_imul (pc := 73) dX9_listAt_73 ?_
      refine j_iload (pc := 74) dX9_listAt_74 rfl ?_
      refine j_iadd (pc := 76) dX9_listAt_76 ?_
      have b77 := H.1
      replace H := H.2
      refine s_iald (pc := 77) (ar σ 18 (((x3 * 7) + x6).toNatClampNeg)) dX9_listAt_77 shp_18 b77 rfl ?_
      refine j_iload (pc := 78) dX9_listAt_78 rfl ?_
      refine j_iand (pc := 80) dX9_listAt_80 ?_
      refine j_istore (pc := 81) (lv1 := [(7, .int ((ar σ 18 (((x3 * 7) + x6).toNatClampNeg)) &&& x5)), (0, .ref 20), (1, .ref 14), (2, .int x2), (3, .int x3), (4, .int x4), (5, .int x5), (6, .int x6)]) dX9_listAt_81 (Nat.le_of_ble_eq_true rfl) rfl ?_
      refine j_iconst (pc := 83) (v := 0) dX9_listAt_83 (by decide) ?_
      refine j_istore (pc := 84) (lv1 := [(8, .int 0), (7, .int ((ar σ 18 (((x3 * 7) + x6).toNatClampNeg)) &&& x5)), (0, .ref 20), (1, .ref 14), (2, .int x2), (3, .int x3), (4, .int x4), (5, .int x5), (6, .int x6)]) dX9_listAt_84 (Nat.le_of_ble_eq_true rfl) rfl ?_
      refine j_sub [2, 3, 4, 5, 6, 7, 8, 1, 0] rfl ?_
      exact H
    · replace H := H.2 c59
      refine j_iconst (pc := 62) (v := 0) dX9_listAt_62 (by decide) ?_
      refine j_goto (pc := 63) (t := 81) dX9_listAt_63 (by decide) ?_
      refine j_istore (pc := 81) (lv1 := [(7, .int 0), (0, .ref 20), (1, .ref 14), (2, .int x2), (3, .int x3), (4, .int x4), (5, .int x5), (6, .int x6)]) dX9_listAt_81 (Nat.le_of_ble_eq_true rfl) rfl ?_
      refine j_iconst (pc := 83) (v := 0) dX9_listAt_83 (by decide) ?_
      refine j_istore (pc := 84) (lv1 := [(8, .int 0), (7, .int 0), (0, .ref 20), (1, .ref 14), (2, .int x2), (3, .int x3), (4, .int x4), (5, .int x5), (6, .int x6)]) dX9_listAt_84 (Nat.le_of_ble_eq_true rfl) rfl ?_
      refine j_sub [2, 3, 4, 5, 6, 7, 8, 1, 0] rfl ?_
      exact H
set_option maxRecDepth 20000 in
theorem b_X9_listAt_86 {l : Launch} {g : am_G} {d : Nat} {σ : am_S} {k : am_S → Prop}  {x2 x3 x4 x5 x6 x7 x8 : Int32} (hd : 1 ≤ d) (H : ((rg σ 66 ≤ x8 → JV l g M_X9_listAt d 40 [(0, .ref 20), (1, .ref 14), (2, .int x2), (3, .int x3), (4, .int x4), (5, .int x5), (6, .int (x6 + 1))] [] σ k) ∧ (¬ rg σ 66 ≤ x8 → (((x7 >>> (x8 &&& 31)) &&& 1 = 0 → JV l g M_X9_listAt d 86 [(0, .ref 20), (1, .ref 14), (2, .int x2), (3, .int x3), (4, .int x4), (5, .int x5), (6, .int x6), (7, .int x7), (8, .int (x8 + 1))] [] σ k) ∧ (¬ (x7 >>> (x8 &&& 31)) &&& 1 = 0 → ((60 ≤ rg σ 1283 → JV l g M_X9_listAt d 86 [(0, .ref 20), (1, .ref 14), (2, .int x2), (3, .int x3), (4, .int x4), (5, .int x5), (6, .int x6), (7, .int x7), (8, .int (x8 + 1))] [] σ k) ∧ (¬ 60 ≤ rg σ 1283 → (vp_in (rg σ 1283) 60 ∧ CI l g M_X6_changed (d - 1) [.ref 14, .int x2, .int x3, .int x6, .int x8] (sA σ 21 ((rg σ 1283).toNatClampNeg) (((100 * x3) + (10 * x6)) + x8)) (fun r1 σ1 => (vp_in (rg σ 1283) 60 ∧ JV l g M_X9_listAt d 86 [(0, .ref 20), (1, .ref 14), (2, .int x2), (3, .int x3), (4, .int x4), (5, .int x5), (6, .int x6), (7, .int x7), (8, .int (x8 + 1))] [] (sR (sA σ1 22 ((rg σ 1283).toNatClampNeg) r1) 1283 ((rg σ1 1283) + 1)) k)))))))))) : JV l g M_X9_listAt d 86 [(0, .ref 20), (1, .ref 14), (2, .int x2), (3, .int x3), (4, .int x4), (5, .int x5), (6, .int x6), (7, .int x7), (8, .int x8)] [] σ k := by
  show J l g (M_X9_listAt, d, 0, 0) 86 [(0, .ref 20), (1, .ref 14), (2, .int x2), (3, .int x3), (4, .int x4), (5, .int x5), (6, .int x6), (7, .int x7), (8, .int x8)] [] (hp σ) 0 0 (kV k)
  refine j_iload (pc := 86) dX9_listAt_86 rfl ?_
  refine j_aload_n (pc := 88) dX9_listAt_88 rfl ?_
  refine s_getr (pc := 89) dX9_listAt_89 fl_X9_25 shp_14 rfl ?_
  refine s_geti (pc := 92) 66 (rg σ 66) dX9_listAt_92 fl_X9_31 shp_1 rfl rfl rfl ?_
  refine j_icmp_ge (pc := 95) (t := 174) dX9_listAt_95 (by decide) (fun c95 => ?_) (fun c95 => ?_)
  · replace H := H.1 c95
    refine j_iinc (pc := 174) (k := 6) (v := x6 + 1) (lv1 := [(6, .int (x6 + 1)), (0, .ref 20), (1, .ref 14), (2, .int x2), (3, .int x3), (4, .int x4), (5, .int x5), (7, .int x7), (8, .int x8)]) dX9_listAt_174 rfl rfl (Nat.le_of_ble_eq_true rfl) rfl ?_
    refine j_goto (pc := 177) (t := 40) dX9_listAt_177 (by decide) ?_
    refine j_sub [1, 2, 3, 4, 5, 6, 0] rfl ?_
    exact H
  · replace H := H.2 c95
    refine j_iload (pc := 98) dX9_listAt_98 rfl ?_
    refine j_iload (pc := 100) dX9_listAt_100 rfl ?_
    refine j_ishr (pc := 102) dX9_listAt_102 ?_
    refine j_iconst (pc := 103) (v := 1) dX9_listAt_103 (by decide) ?_
    refine j_iand (pc := 104) dX9_listAt_104 ?_
    refine j_if_eq (pc := 105) (t := 168) dX9_listAt_105 (by decide) (fun c105 => ?_) (fun c105 => ?_)
    · replace H := H.1 c105
      refine j_iinc (pc := 168) (k := 8) (v := x8 + 1) (lv1 := [(8, .int (x8 + 1)), (0, .ref 20), (1, .ref 14), (2, .int x2), (3, .int x3), (4, .int x4), (5, .int x5), (6, .int x6), (7, .int x7)]) dX9_listAt_168 rfl rfl (Nat.le_of_ble_eq_true rfl) rfl ?_
      refine j_goto (pc := 171) (t := 86) dX9_listAt_171 (by decide) ?_
      refine j_sub [1, 2, 3, 4, 5, 6, 7, 8, 0] rfl ?_
      exact H
    · replace H := H.2 c105
      refine j_aload_n (pc := 108) dX9_listAt_108 rfl ?_
      refine s_geti (pc := 109) 1283 (rg σ 1283) dX9_listAt_109 fl_X9_21 shp_20 rfl rfl rfl ?_
      refine j_bipush (pc := 112) (v := 60) dX9_listAt_112 (by decide) ?_
      refine j_icmp_ge (pc := 114) (t := 168) dX9_listAt_114 (by decide) (fun c114 => ?_) (fun c114 => ?_)
      · replace H := H.1 c114
        refine j_iinc (pc := 168) (k := 8) (v := x8 + 1) (lv1 := [(8, .int (x8 + 1)), (0, .ref 20), (1, .ref 14), (2, .int x2), (3, .int x3), (4, .int x4), (5, .int x5), (6, .int x6), (7, .int x7)]) dX9_listAt_168 rfl rfl (Nat.le_of_ble_eq_true rfl) rfl ?_
        refine j_goto (pc := 171) (t := 86) dX9_listAt_171 (by decide) ?_
        refine j_sub [1, 2, 3, 4, 5, 6, 7, 8, 0] rfl ?_
        exact H
      · replace H := H.2 c114
        refine j_aload_n (pc := 117) dX9_listAt_117 rfl ?_
        refine s_getr (pc := 118) dX9_listAt_118 fl_X9_11 shp_20 rfl ?_
        refine j_aload_n (pc := 121) dX9_listAt_121 rfl ?_
        refine s_geti (pc := 122) 1283 (rg σ 1283) dX9_listAt_122 fl_X9_21 shp_20 rfl rfl rfl ?_
        refine j_bipush (pc := 125) (v := 100) dX9_listAt_125 (by decide) ?_
        refine j_iload_n (pc := 127) dX9_listAt_127 rfl ?_
        refine j_imul (pc := 128) dX9_listAt_128 ?_
        refine j_bipush (pc := 129) (v := 10) dX9_listAt_129 (by decide) ?_
        refine j_iload (pc := 131) dX9_listAt_131 rfl ?_
        refine j_imul (pc := 133) dX9_listAt_133 ?_
        refine j_iadd (pc := 134) dX9_listAt_134 ?_
        refine j_iload (pc := 135) dX9_listAt_135 rfl ?_
        refine j_iadd (pc := 137) dX9_listAt_137 ?_
        have b138 := H.1
        replace H := H.2
        refine s_iast (pc := 138) dX9_listAt_138 shp_21 b138 ?_
        refine j_aload_n (pc := 139) dX9_listAt_139 rfl ?_
        refine s_getr (pc := 140) dX9_listAt_140 fl_X9_15 shp_20 rfl ?_
        refine j_aload_n (pc := 143) dX9_listAt_143 rfl ?_
        refine s_geti (pc := 144) 1283 (rg σ 1283) dX9_listAt_144 fl_X9_21 shp_20 rfl rfl rfl ?_
        refine j_aload_n (pc := 147) dX9_listAt_147 rfl ?_
        refine j_iload_n (pc := 148) dX9_listAt_148 rfl ?_
        refine j_iload_n (pc := 149) dX9_listAt_149 rfl ?_
        refine j_iload (pc := 150) dX9_listAt_150 rfl ?_
        refine j_iload (pc := 152) dX9_listAt_152 rfl ?_
        refine s_callV_i (pc := 154) (M1 := M_X6_changed) (n := 4) (as := [.int x2, .int x3, .int x6, .int x8]) (a := 14) (st := [.int (rg σ 1283), .ref 22]) dX9_listAt_154 G_X6_changed wm_X9_60 (by decide +kernel) rfl (Nat.le_of_ble_eq_true rfl) shp_14 rfl (by show 1 ≤ d; omega) (Nat.le_of_ble_eq_true rfl) (Nat.zero_le _) (Nat.zero_le _) ?_
        refine CI.mono H (fun r1 σ1 H => ?_)
        have b157 := H.1
        replace H := H.2
        refine s_iast (pc := 157) dX9_listAt_157 shp_22 b157 ?_
        refine j_aload_n (pc := 158) dX9_listAt_158 rfl ?_
        refine j_dup (pc := 159) dX9_listAt_159 rfl ?_
        refine s_geti (pc := 160) 1283 (rg σ1 1283) dX9_listAt_160 fl_X9_21 shp_20 rfl rfl rfl ?_
        refine j_iconst (pc := 163) (v := 1) dX9_listAt_163 (by decide) ?_
        refine j_iadd (pc := 164) dX9_listAt_164 ?_
        refine s_put (pc := 165) 1283 dX9_listAt_165 fl_X9_21 shp_20 rfl rfl fp_9_3 rfl rfl ?_
        refine j_iinc (pc := 168) (k := 8) (v := x8 + 1) (lv1 := [(8, .int (x8 + 1)), (0, .ref 20), (1, .ref 14), (2, .int x2), (3, .int x3), (4, .int x4), (5, .int x5), (6, .int x6), (7, .int x7)]) dX9_listAt_168 rfl rfl (Nat.le_of_ble_eq_true rfl) rfl ?_
        refine j_goto (pc := 171) (t := 86) dX9_listAt_171 (by decide) ?_
        refine j_sub [1, 2, 3, 4, 5, 6, 7, 8, 0] rfl ?_
        exact H
set_option maxRecDepth 20000 in
theorem b_X9_list_0 {l : Launch} {g : am_G} {d : Nat} {σ : am_S} {k : am_S → Prop}  {x2 : Int32} (hd : 1 ≤ d) (H : CV l g M_X9_seat (d - 1) [.ref 20, .int (rg σ 66), .int x2] (sR σ 1283 0) (fun σ1 => JV l g M_X9_list d 19 [(0, .ref 20), (1, .ref 14), (2, .int x2), (3, .int 0)] [] σ1 k)) : CV l g M_X9_list d [.ref 20, .ref 14, .int x2] σ k := by
  show J l g (M_X9_list, d, 0, 0) 0 [(0, .ref 20), (1, .ref 14), (2, .int x2)] [] (hp σ) 0 0 (kV k)
  refine j_aload_n (pc := 0) dX9_list_0 rfl ?_
  refine j_iconst (pc := 1) (v := 0) dX9_list_1 (by decide) ?_
  refine s_put (pc := 2) 1283 dX9_list_2 fl_X9_21 shp_20 rfl rfl fp_9_3 rfl rfl ?_
  refine j_aload_n (pc := 5) dX9_list_5 rfl ?_
  refine j_aload_n (pc := 6) dX9_list_6 rfl ?_
  refine s_getr (pc := 7) dX9_list_7 fl_X9_25 shp_14 rfl ?_
  refine s_geti (pc := 10) 66 (rg σ 66) dX9_list_10 fl_X9_31 shp_1 rfl rfl rfl ?_
  refine j_iload_n (pc := 13) dX9_list_13 rfl ?_
  refine s_callV_v (pc := 14) (M1 := M_X9_seat) (n := 2) (as := [.int (rg σ 66), .int x2]) (a := 20) (st := []) dX9_list_14 G_X9_seat wm_X9_36 (by decide +kernel) rfl (Nat.le_of_ble_eq_true rfl) shp_20 rfl (by show 1 ≤ d; omega) (Nat.le_of_ble_eq_true rfl) (Nat.zero_le _) (Nat.zero_le _) ?_
  refine CV.mono H (fun σ1 H => ?_)
  refine j_iconst (pc := 17) (v := 0) dX9_list_17 (by decide) ?_
  refine j_istore_n (pc := 18) (lv1 := [(3, .int 0), (0, .ref 20), (1, .ref 14), (2, .int x2)]) dX9_list_18 (Nat.le_of_ble_eq_true rfl) rfl ?_
  refine j_sub [1, 2, 3, 0] rfl ?_
  exact H
set_option maxRecDepth 20000 in
theorem b_X9_list_19 {l : Launch} {g : am_G} {d : Nat} {σ : am_S} {k : am_S → Prop}  {x2 x3 : Int32} (hd : 1 ≤ d) (H : ((rg σ 65 ≤ x3 → k σ) ∧ (¬ rg σ 65 ≤ x3 → CV l g M_X9_listAt (d - 1) [.ref 20, .ref 14, .int x2, .int x3] σ (fun σ1 => JV l g M_X9_list d 19 [(0, .ref 20), (1, .ref 14), (2, .int x2), (3, .int (x3 + 1))] [] σ1 k)))) : JV l g M_X9_list d 19 [(0, .ref 20), (1, .ref 14), (2, .int x2), (3, .int x3)] [] σ k := by
  show J l g (M_X9_list, d, 0, 0) 19 [(0, .ref 20), (1, .ref 14), (2, .int x2), (3, .int x3)] [] (hp σ) 0 0 (kV k)
  refine j_iload_n (pc := 19) dX9_list_19 rfl ?_
  refine j_aload_n (pc := 20) dX9_list_20 rfl ?_
  refine s_getr (pc := 21) dX9_list_21 fl_X9_25 shp_14 rfl ?_
  refine s_geti (pc := 24) 65 (rg σ 65) dX9_list_24 fl_X9_40 shp_1 rfl rfl rfl ?_
  refine j_icmp_ge (pc := 27) (t := 43) dX9_list_27 (by decide) (fun c27 => ?_) (fun c27 => ?_)
  · replace H := H.1 c27
    exact s_vret (pc := 43) dX9_list_43 rfl H
  · replace H := H.2 c27
    refine j_aload_n (pc := 30) dX9_list_30 rfl ?_
    refine j_aload_n (pc := 31) dX9_list_31 rfl ?_
    refine j_iload_n (pc := 32) dX9_list_32 rfl ?_
    refine j_iload_n (pc := 33) dX9_list_33 rfl ?_
    refine s_callV_v (pc := 34) (M1 := M_X9_listAt) (n := 3) (as := [.ref 14, .int x2, .int x3]) (a := 20) (st := []) dX9_list_34 G_X9_listAt wm_X9_43 (by decide +kernel) rfl (Nat.le_of_ble_eq_true rfl) shp_20 rfl (by show 1 ≤ d; omega) (Nat.le_of_ble_eq_true rfl) (Nat.zero_le _) (Nat.zero_le _) ?_
    refine CV.mono H (fun σ1 H => ?_)
    refine j_iinc (pc := 37) (k := 3) (v := x3 + 1) (lv1 := [(3, .int (x3 + 1)), (0, .ref 20), (1, .ref 14), (2, .int x2)]) dX9_list_37 rfl rfl (Nat.le_of_ble_eq_true rfl) rfl ?_
    refine j_goto (pc := 40) (t := 19) dX9_list_40 (by decide) ?_
    refine j_sub [1, 2, 3, 0] rfl ?_
    exact H
set_option maxRecDepth 20000 in
theorem b_X1_draw_0 {l : Launch} {g : am_G} {d : Nat} {σ : am_S} {k : Int32 → am_S → Prop}  {x1 : Int32} (H : ((0 < x1 → ((¬ x1 = 0) ∧ k ((((((rg σ 1984) * 1103515245) + 12345).toUInt32 >>> ((8 : Int32).toUInt32 &&& Int32.toUInt32 31)).toInt32) - (((((rg σ 1984) * 1103515245) + 12345).toUInt32 >>> ((8 : Int32).toUInt32 &&& Int32.toUInt32 31)).toInt32) / x1 * x1) (sR σ 1984 (((rg σ 1984) * 1103515245) + 12345)))) ∧ (¬ 0 < x1 → k 0 (sR σ 1984 (((rg σ 1984) * 1103515245) + 12345))))) : CI l g M_X1_draw d [.ref 31, .int x1] σ k := by
  show J l g (M_X1_draw, d, 0, 0) 0 [(0, .ref 31), (1, .int x1)] [] (hp σ) 0 0 (kI k)
  refine j_aload_n (pc := 0) dX1_draw_0 rfl ?_
  refine j_aload_n (pc := 1) dX1_draw_1 rfl ?_
  refine s_geti (pc := 2) 1984 (rg σ 1984) dX1_draw_2 fl_X1_9 shp_31 rfl rfl rfl ?_
  refine j_ldc (pc := 5) dX1_draw_5 wk_X1_84 ?_
  refine j_imul (pc := 7) dX1_draw_7 ?_
  refine j_sipush (pc := 8) (v := 12345) dX1_draw_8 (by decide) ?_
  refine j_iadd (pc := 11) dX1_draw_11 ?_
  refine s_put (pc := 12) 1984 dX1_draw_12 fl_X1_9 shp_31 rfl rfl fp_1_0 rfl rfl ?_
  refine j_iload_n (pc := 15) dX1_draw_15 rfl ?_
  refine j_if_gt (pc := 16) (t := 23) dX1_draw_16 (by decide) (fun c16 => ?_) (fun c16 => ?_)
  · replace H := H.1 c16
    refine j_aload_n (pc := 23) dX1_draw_23 rfl ?_
    refine s_geti (pc := 24) 1984 (((rg σ 1984) * 1103515245) + 12345) dX1_draw_24 fl_X1_9 shp_31 rfl rfl rfl ?_
    refine j_bipush (pc := 27) (v := 8) dX1_draw_27 (by decide) ?_
    refine j_iushr (pc := 29) dX1_draw_29 ?_
    refine j_iload_n (pc := 30) dX1_draw_30 rfl ?_
    have c31 := H.1
    replace H := H.2
    refine j_irem (pc := 31) dX1_draw_31 c31 ?_
    exact s_ireti (pc := 32) dX1_draw_32 rfl H
  · replace H := H.2 c16
    refine j_iconst (pc := 19) (v := 0) dX1_draw_19 (by decide) ?_
    refine j_goto (pc := 20) (t := 32) dX1_draw_20 (by decide) ?_
    exact s_ireti (pc := 32) dX1_draw_32 rfl H
set_option maxRecDepth 20000 in
theorem C_J6_bitCount_0f7a4 {l : Launch} {g : am_G} {d : Nat} {σ : am_S} {k : Int32 → am_S → Prop}  {x0 : Int32} (hd : 0 ≤ d) (H : k ((((((((x0 - (((x0.toUInt32 >>> ((1 : Int32).toUInt32 &&& Int32.toUInt32 31)).toInt32) &&& 1431655765)) &&& 858993459) + ((((x0 - (((x0.toUInt32 >>> ((1 : Int32).toUInt32 &&& Int32.toUInt32 31)).toInt32) &&& 1431655765)).toUInt32 >>> ((2 : Int32).toUInt32 &&& Int32.toUInt32 31)).toInt32) &&& 858993459)) + (((((x0 - (((x0.toUInt32 >>> ((1 : Int32).toUInt32 &&& Int32.toUInt32 31)).toInt32) &&& 1431655765)) &&& 858993459) + ((((x0 - (((x0.toUInt32 >>> ((1 : Int32).toUInt32 &&& Int32.toUInt32 31)).toInt32) &&& 1431655765)).toUInt32 >>> ((2 : Int32).toUInt32 &&& Int32.toUInt32 31)).toInt32) &&& 858993459)).toUInt32 >>> ((4 : Int32).toUInt32 &&& Int32.toUInt32 31)).toInt32)) &&& 252645135) + (((((((x0 - (((x0.toUInt32 >>> ((1 : Int32).toUInt32 &&& Int32.toUInt32 31)).toInt32) &&& 1431655765)) &&& 858993459) + ((((x0 - (((x0.toUInt32 >>> ((1 : Int32).toUInt32 &&& Int32.toUInt32 31)).toInt32) &&& 1431655765)).toUInt32 >>> ((2 : Int32).toUInt32 &&& Int32.toUInt32 31)).toInt32) &&& 858993459)) + (((((x0 - (((x0.toUInt32 >>> ((1 : Int32).toUInt32 &&& Int32.toUInt32 31)).toInt32) &&& 1431655765)) &&& 858993459) + ((((x0 - (((x0.toUInt32 >>> ((1 : Int32).toUInt32 &&& Int32.toUInt32 31)).toInt32) &&& 1431655765)).toUInt32 >>> ((2 : Int32).toUInt32 &&& Int32.toUInt32 31)).toInt32) &&& 858993459)).toUInt32 >>> ((4 : Int32).toUInt32 &&& Int32.toUInt32 31)).toInt32)) &&& 252645135).toUInt32 >>> ((8 : Int32).toUInt32 &&& Int32.toUInt32 31)).toInt32)) + ((((((((x0 - (((x0.toUInt32 >>> ((1 : Int32).toUInt32 &&& Int32.toUInt32 31)).toInt32) &&& 1431655765)) &&& 858993459) + ((((x0 - (((x0.toUInt32 >>> ((1 : Int32).toUInt32 &&& Int32.toUInt32 31)).toInt32) &&& 1431655765)).toUInt32 >>> ((2 : Int32).toUInt32 &&& Int32.toUInt32 31)).toInt32) &&& 858993459)) + (((((x0 - (((x0.toUInt32 >>> ((1 : Int32).toUInt32 &&& Int32.toUInt32 31)).toInt32) &&& 1431655765)) &&& 858993459) + ((((x0 - (((x0.toUInt32 >>> ((1 : Int32).toUInt32 &&& Int32.toUInt32 31)).toInt32) &&& 1431655765)).toUInt32 >>> ((2 : Int32).toUInt32 &&& Int32.toUInt32 31)).toInt32) &&& 858993459)).toUInt32 >>> ((4 : Int32).toUInt32 &&& Int32.toUInt32 31)).toInt32)) &&& 252645135) + (((((((x0 - (((x0.toUInt32 >>> ((1 : Int32).toUInt32 &&& Int32.toUInt32 31)).toInt32) &&& 1431655765)) &&& 858993459) + ((((x0 - (((x0.toUInt32 >>> ((1 : Int32).toUInt32 &&& Int32.toUInt32 31)).toInt32) &&& 1431655765)).toUInt32 >>> ((2 : Int32).toUInt32 &&& Int32.toUInt32 31)).toInt32) &&& 858993459)) + (((((x0 - (((x0.toUInt32 >>> ((1 : Int32).toUInt32 &&& Int32.toUInt32 31)).toInt32) &&& 1431655765)) &&& 858993459) + ((((x0 - (((x0.toUInt32 >>> ((1 : Int32).toUInt32 &&& Int32.toUInt32 31)).toInt32) &&& 1431655765)).toUInt32 >>> ((2 : Int32).toUInt32 &&& Int32.toUInt32 31)).toInt32) &&& 858993459)).toUInt32 >>> ((4 : Int32).toUInt32 &&& Int32.toUInt32 31)).toInt32)) &&& 252645135).toUInt32 >>> ((8 : Int32).toUInt32 &&& Int32.toUInt32 31)).toInt32)).toUInt32 >>> ((16 : Int32).toUInt32 &&& Int32.toUInt32 31)).toInt32)) &&& 63) σ) : CI l g M_J6_bitCount_0f7a4 d [.int x0] σ k := by
  show J l g (M_J6_bitCount_0f7a4, d, 0, 0) 0 [(0, .int x0)] [] (hp σ) 0 0 (kI k)
  refine j_iload_n (pc := 0) dJ6_bitCount_0f7a4_0 rfl ?_
  refine j_iload_n (pc := 1) dJ6_bitCount_0f7a4_1 rfl ?_
  refine j_iconst (pc := 2) (v := 1) dJ6_bitCount_0f7a4_2 (by decide) ?_
  refine j_iushr (pc := 3) dJ6_bitCount_0f7a4_3 ?_
  refine j_ldcw (pc := 4) dJ6_bitCount_0f7a4_4 wk_J6_265 ?_
  refine j_iand (pc := 7) dJ6_bitCount_0f7a4_7 ?_
  refine j_isub (pc := 8) dJ6_bitCount_0f7a4_8 ?_
  refine j_istore_n (pc := 9) (lv1 := [(0, .int (x0 - (((x0.toUInt32 >>> ((1 : Int32).toUInt32 &&& Int32.toUInt32 31)).toInt32) &&& 1431655765)))]) dJ6_bitCount_0f7a4_9 (Nat.le_of_ble_eq_true rfl) rfl ?_
  refine j_iload_n (pc := 10) dJ6_bitCount_0f7a4_10 rfl ?_
  refine j_ldcw (pc := 11) dJ6_bitCount_0f7a4_11 wk_J6_266 ?_
  refine j_iand (pc := 14) dJ6_bitCount_0f7a4_14 ?_
  refine j_iload_n (pc := 15) dJ6_bitCount_0f7a4_15 rfl ?_
  refine j_iconst (pc := 16) (v := 2) dJ6_bitCount_0f7a4_16 (by decide) ?_
  refine j_iushr (pc := 17) dJ6_bitCount_0f7a4_17 ?_
  refine j_ldcw (pc := 18) dJ6_bitCount_0f7a4_18 wk_J6_266 ?_
  refine j_iand (pc := 21) dJ6_bitCount_0f7a4_21 ?_
  refine j_iadd (pc := 22) dJ6_bitCount_0f7a4_22 ?_
  refine j_istore_n (pc := 23) (lv1 := [(0, .int (((x0 - (((x0.toUInt32 >>> ((1 : Int32).toUInt32 &&& Int32.toUInt32 31)).toInt32) &&& 1431655765)) &&& 858993459) + ((((x0 - (((x0.toUInt32 >>> ((1 : Int32).toUInt32 &&& Int32.toUInt32 31)).toInt32) &&& 1431655765)).toUInt32 >>> ((2 : Int32).toUInt32 &&& Int32.toUInt32 31)).toInt32) &&& 858993459)))]) dJ6_bitCount_0f7a4_23 (Nat.le_of_ble_eq_true rfl) rfl ?_
  refine j_iload_n (pc := 24) dJ6_bitCount_0f7a4_24 rfl ?_
  refine j_iload_n (pc := 25) dJ6_bitCount_0f7a4_25 rfl ?_
  refine j_iconst (pc := 26) (v := 4) dJ6_bitCount_0f7a4_26 (by decide) ?_
  refine j_iushr (pc := 27) dJ6_bitCount_0f7a4_27 ?_
  refine j_iadd (pc := 28) dJ6_bitCount_0f7a4_28 ?_
  refine j_ldcw (pc := 29) dJ6_bitCount_0f7a4_29 wk_J6_267 ?_
  refine j_iand (pc := 32) dJ6_bitCount_0f7a4_32 ?_
  refine j_istore_n (pc := 33) (lv1 := [(0, .int (((((x0 - (((x0.toUInt32 >>> ((1 : Int32).toUInt32 &&& Int32.toUInt32 31)).toInt32) &&& 1431655765)) &&& 858993459) + ((((x0 - (((x0.toUInt32 >>> ((1 : Int32).toUInt32 &&& Int32.toUInt32 31)).toInt32) &&& 1431655765)).toUInt32 >>> ((2 : Int32).toUInt32 &&& Int32.toUInt32 31)).toInt32) &&& 858993459)) + (((((x0 - (((x0.toUInt32 >>> ((1 : Int32).toUInt32 &&& Int32.toUInt32 31)).toInt32) &&& 1431655765)) &&& 858993459) + ((((x0 - (((x0.toUInt32 >>> ((1 : Int32).toUInt32 &&& Int32.toUInt32 31)).toInt32) &&& 1431655765)).toUInt32 >>> ((2 : Int32).toUInt32 &&& Int32.toUInt32 31)).toInt32) &&& 858993459)).toUInt32 >>> ((4 : Int32).toUInt32 &&& Int32.toUInt32 31)).toInt32)) &&& 252645135))]) dJ6_bitCount_0f7a4_33 (Nat.le_of_ble_eq_true rfl) rfl ?_
  refine j_iload_n (pc := 34) dJ6_bitCount_0f7a4_34 rfl ?_
  refine j_iload_n (pc := 35) dJ6_bitCount_0f7a4_35 rfl ?_
  refine j_bipush (pc := 36) (v := 8) dJ6_bitCount_0f7a4_36 (by decide) ?_
  refine j_iushr (pc := 38) dJ6_bitCount_0f7a4_38 ?_
  refine j_iadd (pc := 39) dJ6_bitCount_0f7a4_39 ?_
  refine j_istore_n (pc := 40) (lv1 := [(0, .int ((((((x0 - (((x0.toUInt32 >>> ((1 : Int32).toUInt32 &&& Int32.toUInt32 31)).toInt32) &&& 1431655765)) &&& 858993459) + ((((x0 - (((x0.toUInt32 >>> ((1 : Int32).toUInt32 &&& Int32.toUInt32 31)).toInt32) &&& 1431655765)).toUInt32 >>> ((2 : Int32).toUInt32 &&& Int32.toUInt32 31)).toInt32) &&& 858993459)) + (((((x0 - (((x0.toUInt32 >>> ((1 : Int32).toUInt32 &&& Int32.toUInt32 31)).toInt32) &&& 1431655765)) &&& 858993459) + ((((x0 - (((x0.toUInt32 >>> ((1 : Int32).toUInt32 &&& Int32.toUInt32 31)).toInt32) &&& 1431655765)).toUInt32 >>> ((2 : Int32).toUInt32 &&& Int32.toUInt32 31)).toInt32) &&& 858993459)).toUInt32 >>> ((4 : Int32).toUInt32 &&& Int32.toUInt32 31)).toInt32)) &&& 252645135) + (((((((x0 - (((x0.toUInt32 >>> ((1 : Int32).toUInt32 &&& Int32.toUInt32 31)).toInt32) &&& 1431655765)) &&& 858993459) + ((((x0 - (((x0.toUInt32 >>> ((1 : Int32).toUInt32 &&& Int32.toUInt32 31)).toInt32) &&& 1431655765)).toUInt32 >>> ((2 : Int32).toUInt32 &&& Int32.toUInt32 31)).toInt32) &&& 858993459)) + (((((x0 - (((x0.toUInt32 >>> ((1 : Int32).toUInt32 &&& Int32.toUInt32 31)).toInt32) &&& 1431655765)) &&& 858993459) + ((((x0 - (((x0.toUInt32 >>> ((1 : Int32).toUInt32 &&& Int32.toUInt32 31)).toInt32) &&& 1431655765)).toUInt32 >>> ((2 : Int32).toUInt32 &&& Int32.toUInt32 31)).toInt32) &&& 858993459)).toUInt32 >>> ((4 : Int32).toUInt32 &&& Int32.toUInt32 31)).toInt32)) &&& 252645135).toUInt32 >>> ((8 : Int32).toUInt32 &&& Int32.toUInt32 31)).toInt32)))]) dJ6_bitCount_0f7a4_40 (Nat.le_of_ble_eq_true rfl) rfl ?_
  refine j_iload_n (pc := 41) dJ6_bitCount_0f7a4_41 rfl ?_
  refine j_iload_n (pc := 42) dJ6_bitCount_0f7a4_42 rfl ?_
  refine j_bipush (pc := 43) (v := 16) dJ6_bitCount_0f7a4_43 (by decide) ?_
  refine j_iushr (pc := 45) dJ6_bitCount_0f7a4_45 ?_
  refine j_iadd (pc := 46) dJ6_bitCount_0f7a4_46 ?_
  refine j_istore_n (pc := 47) (lv1 := [(0, .int (((((((x0 - (((x0.toUInt32 >>> ((1 : Int32).toUInt32 &&& Int32.toUInt32 31)).toInt32) &&& 1431655765)) &&& 858993459) + ((((x0 - (((x0.toUInt32 >>> ((1 : Int32).toUInt32 &&& Int32.toUInt32 31)).toInt32) &&& 1431655765)).toUInt32 >>> ((2 : Int32).toUInt32 &&& Int32.toUInt32 31)).toInt32) &&& 858993459)) + (((((x0 - (((x0.toUInt32 >>> ((1 : Int32).toUInt32 &&& Int32.toUInt32 31)).toInt32) &&& 1431655765)) &&& 858993459) + ((((x0 - (((x0.toUInt32 >>> ((1 : Int32).toUInt32 &&& Int32.toUInt32 31)).toInt32) &&& 1431655765)).toUInt32 >>> ((2 : Int32).toUInt32 &&& Int32.toUInt32 31)).toInt32) &&& 858993459)).toUInt32 >>> ((4 : Int32).toUInt32 &&& Int32.toUInt32 31)).toInt32)) &&& 252645135) + (((((((x0 - (((x0.toUInt32 >>> ((1 : Int32).toUInt32 &&& Int32.toUInt32 31)).toInt32) &&& 1431655765)) &&& 858993459) + ((((x0 - (((x0.toUInt32 >>> ((1 : Int32).toUInt32 &&& Int32.toUInt32 31)).toInt32) &&& 1431655765)).toUInt32 >>> ((2 : Int32).toUInt32 &&& Int32.toUInt32 31)).toInt32) &&& 858993459)) + (((((x0 - (((x0.toUInt32 >>> ((1 : Int32).toUInt32 &&& Int32.toUInt32 31)).toInt32) &&& 1431655765)) &&& 858993459) + ((((x0 - (((x0.toUInt32 >>> ((1 : Int32).toUInt32 &&& Int32.toUInt32 31)).toInt32) &&& 1431655765)).toUInt32 >>> ((2 : Int32).toUInt32 &&& Int32.toUInt32 31)).toInt32) &&& 858993459)).toUInt32 >>> ((4 : Int32).toUInt32 &&& Int32.toUInt32 31)).toInt32)) &&& 252645135).toUInt32 >>> ((8 : Int32).toUInt32 &&& Int32.toUInt32 31)).toInt32)) + ((((((((x0 - (((x0.toUInt32 >>> ((1 : Int32).toUInt32 &&& Int32.toUInt32 31)).toInt32) &&& 1431655765)) &&& 858993459) + ((((x0 - (((x0.toUInt32 >>> ((1 : Int32).toUInt32 &&& Int32.toUInt32 31)).toInt32) &&& 1431655765)).toUInt32 >>> ((2 : Int32).toUInt32 &&& Int32.toUInt32 31)).toInt32) &&& 858993459)) + (((((x0 - (((x0.toUInt32 >>> ((1 : Int32).toUInt32 &&& Int32.toUInt32 31)).toInt32) &&& 1431655765)) &&& 858993459) + ((((x0 - (((x0.toUInt32 >>> ((1 : Int32).toUInt32 &&& Int32.toUInt32 31)).toInt32) &&& 1431655765)).toUInt32 >>> ((2 : Int32).toUInt32 &&& Int32.toUInt32 31)).toInt32) &&& 858993459)).toUInt32 >>> ((4 : Int32).toUInt32 &&& Int32.toUInt32 31)).toInt32)) &&& 252645135) + (((((((x0 - (((x0.toUInt32 >>> ((1 : Int32).toUInt32 &&& Int32.toUInt32 31)).toInt32) &&& 1431655765)) &&& 858993459) + ((((x0 - (((x0.toUInt32 >>> ((1 : Int32).toUInt32 &&& Int32.toUInt32 31)).toInt32) &&& 1431655765)).toUInt32 >>> ((2 : Int32).toUInt32 &&& Int32.toUInt32 31)).toInt32) &&& 858993459)) + (((((x0 - (((x0.toUInt32 >>> ((1 : Int32).toUInt32 &&& Int32.toUInt32 31)).toInt32) &&& 1431655765)) &&& 858993459) + ((((x0 - (((x0.toUInt32 >>> ((1 : Int32).toUInt32 &&& Int32.toUInt32 31)).toInt32) &&& 1431655765)).toUInt32 >>> ((2 : Int32).toUInt32 &&& Int32.toUInt32 31)).toInt32) &&& 858993459)).toUInt32 >>> ((4 : Int32).toUInt32 &&& Int32.toUInt32 31)).toInt32)) &&& 252645135).toUInt32 >>> ((8 : Int32).toUInt32 &&& Int32.toUInt32 31)).toInt32)).toUInt32 >>> ((16 : Int32).toUInt32 &&& Int32.toUInt32 31)).toInt32)))]) dJ6_bitCount_0f7a4_47 (Nat.le_of_ble_eq_true rfl) rfl ?_
  refine j_iload_n (pc := 48) dJ6_bitCount_0f7a4_48 rfl ?_
  refine j_bipush (pc := 49) (v := 63) dJ6_bitCount_0f7a4_49 (by decide) ?_
  refine j_iand (pc := 51) dJ6_bitCount_0f7a4_51 ?_
  exact s_ireti (pc := 52) dJ6_bitCount_0f7a4_52 rfl H
set_option maxRecDepth 20000 in
theorem b_X1_oneOf_0 {l : Launch} {g : am_G} {d : Nat} {σ : am_S} {k : Int32 → am_S → Prop}  {x0 x1 : Int32} (H : JI l g M_X1_oneOf d 4 [(0, .int x0), (1, .int x1), (2, .int x1), (3, .int 0)] [] σ k) : CI l g M_X1_oneOf d [.int x0, .int x1] σ k := by
  show J l g (M_X1_oneOf, d, 0, 0) 0 [(0, .int x0), (1, .int x1)] [] (hp σ) 0 0 (kI k)
  refine j_iload_n (pc := 0) dX1_oneOf_0 rfl ?_
  refine j_istore_n (pc := 1) (lv1 := [(2, .int x1), (0, .int x0), (1, .int x1)]) dX1_oneOf_1 (Nat.le_of_ble_eq_true rfl) rfl ?_
  refine j_iconst (pc := 2) (v := 0) dX1_oneOf_2 (by decide) ?_
  refine j_istore_n (pc := 3) (lv1 := [(3, .int 0), (2, .int x1), (0, .int x0), (1, .int x1)]) dX1_oneOf_3 (Nat.le_of_ble_eq_true rfl) rfl ?_
  refine j_sub [2, 3, 1, 0] rfl ?_
  exact H
set_option maxRecDepth 20000 in
theorem b_X1_oneOf_4 {l : Launch} {g : am_G} {d : Nat} {σ : am_S} {k : Int32 → am_S → Prop}  {x0 x1 x2 x3 : Int32} (H : ((7 ≤ x3 → k (-1) σ) ∧ (¬ 7 ≤ x3 → (((x0 >>> (x3 &&& 31)) &&& 1 = 0 → JI l g M_X1_oneOf d 4 [(0, .int x0), (1, .int x1), (2, .int x2), (3, .int (x3 + 1))] [] σ k) ∧ (¬ (x0 >>> (x3 &&& 31)) &&& 1 = 0 → ((¬ x2 = 0 → JI l g M_X1_oneOf d 4 [(0, .int x0), (1, .int x1), (2, .int (x2 + (-1))), (3, .int (x3 + 1))] [] σ k) ∧ (x2 = 0 → k x3 σ))))))) : JI l g M_X1_oneOf d 4 [(0, .int x0), (1, .int x1), (2, .int x2), (3, .int x3)] [] σ k := by
  show J l g (M_X1_oneOf, d, 0, 0) 4 [(0, .int x0), (1, .int x1), (2, .int x2), (3, .int x3)] [] (hp σ) 0 0 (kI k)
  refine j_iload_n (pc := 4) dX1_oneOf_4 rfl ?_
  refine j_bipush (pc := 5) (v := 7) dX1_oneOf_5 (by decide) ?_
  refine j_icmp_ge (pc := 7) (t := 33) dX1_oneOf_7 (by decide) (fun c7 => ?_) (fun c7 => ?_)
  · replace H := H.1 c7
    refine j_iconst (pc := 33) (v := -1) dX1_oneOf_33 (by decide) ?_
    exact s_ireti (pc := 34) dX1_oneOf_34 rfl H
  · replace H := H.2 c7
    refine j_iload_n (pc := 10) dX1_oneOf_10 rfl ?_
    refine j_iload_n (pc := 11) dX1_oneOf_11 rfl ?_
    refine j_ishr (pc := 12) dX1_oneOf_12 ?_
    refine j_iconst (pc := 13) (v := 1) dX1_oneOf_13 (by decide) ?_
    refine j_iand (pc := 14) dX1_oneOf_14 ?_
    refine j_if_eq (pc := 15) (t := 27) dX1_oneOf_15 (by decide) (fun c15 => ?_) (fun c15 => ?_)
    · replace H := H.1 c15
      refine j_iinc (pc := 27) (k := 3) (v := x3 + 1) (lv1 := [(3, .int (x3 + 1)), (0, .int x0), (1, .int x1), (2, .int x2)]) dX1_oneOf_27 rfl rfl (Nat.le_of_ble_eq_true rfl) rfl ?_
      refine j_goto (pc := 30) (t := 4) dX1_oneOf_30 (by decide) ?_
      refine j_sub [1, 2, 3, 0] rfl ?_
      exact H
    · replace H := H.2 c15
      refine j_iload_n (pc := 18) dX1_oneOf_18 rfl ?_
      refine j_if_ne (pc := 19) (t := 24) dX1_oneOf_19 (by decide) (fun c19 => ?_) (fun c19 => ?_)
      · replace H := H.1 c19
        refine j_iinc (pc := 24) (k := 2) (v := x2 + (-1)) (lv1 := [(2, .int (x2 + (-1))), (0, .int x0), (1, .int x1), (3, .int x3)]) dX1_oneOf_24 rfl rfl (Nat.le_of_ble_eq_true rfl) rfl ?_
        refine j_iinc (pc := 27) (k := 3) (v := x3 + 1) (lv1 := [(3, .int (x3 + 1)), (2, .int (x2 + (-1))), (0, .int x0), (1, .int x1)]) dX1_oneOf_27 rfl rfl (Nat.le_of_ble_eq_true rfl) rfl ?_
        refine j_goto (pc := 30) (t := 4) dX1_oneOf_30 (by decide) ?_
        refine j_sub [2, 3, 1, 0] rfl ?_
        exact H
      · replace H := H.2 c19
        refine j_iload_n (pc := 22) dX1_oneOf_22 rfl ?_
        exact s_ireti (pc := 23) dX1_oneOf_23 rfl H
set_option maxRecDepth 20000 in
theorem b_X1_tryOne_0 {l : Launch} {g : am_G} {d : Nat} {σ : am_S} {k : Int32 → am_S → Prop}   (hd : 1 ≤ d) (H : CI l g M_X1_draw (d - 1) [.ref 31, .int (rg σ 65)] σ (fun r1 σ1 => CV l g M_X9_seat (d - 1) [.ref 20, .int (rg σ1 66), .int (rg σ1 1985)] σ1 (fun σ2 => (vp_in r1 5 ∧ (vp_in (ar σ2 15 r1.toNatClampNeg) 4 ∧ (vp_in r1 5 ∧ (vp_in (ar σ2 16 r1.toNatClampNeg) 4 ∧ ((ar σ2 23 ((ar σ2 15 r1.toNatClampNeg).toNatClampNeg) = 0 → k 0 σ2) ∧ (¬ ar σ2 23 ((ar σ2 15 r1.toNatClampNeg).toNatClampNeg) = 0 → ((¬ ar σ2 23 ((ar σ2 16 r1.toNatClampNeg).toNatClampNeg) = 0 → CI l g M_X1_draw (d - 1) [.ref 31, .int (((((((((ar σ2 23 ((ar σ2 15 r1.toNatClampNeg).toNatClampNeg)) - ((((ar σ2 23 ((ar σ2 15 r1.toNatClampNeg).toNatClampNeg)).toUInt32 >>> ((1 : Int32).toUInt32 &&& Int32.toUInt32 31)).toInt32) &&& 1431655765)) &&& 858993459) + (((((ar σ2 23 ((ar σ2 15 r1.toNatClampNeg).toNatClampNeg)) - ((((ar σ2 23 ((ar σ2 15 r1.toNatClampNeg).toNatClampNeg)).toUInt32 >>> ((1 : Int32).toUInt32 &&& Int32.toUInt32 31)).toInt32) &&& 1431655765)).toUInt32 >>> ((2 : Int32).toUInt32 &&& Int32.toUInt32 31)).toInt32) &&& 858993459)) + ((((((ar σ2 23 ((ar σ2 15 r1.toNatClampNeg).toNatClampNeg)) - ((((ar σ2 23 ((ar σ2 15 r1.toNatClampNeg).toNatClampNeg)).toUInt32 >>> ((1 : Int32).toUInt32 &&& Int32.toUInt32 31)).toInt32) &&& 1431655765)) &&& 858993459) + (((((ar σ2 23 ((ar σ2 15 r1.toNatClampNeg).toNatClampNeg)) - ((((ar σ2 23 ((ar σ2 15 r1.toNatClampNeg).toNatClampNeg)).toUInt32 >>> ((1 : Int32).toUInt32 &&& Int32.toUInt32 31)).toInt32) &&& 1431655765)).toUInt32 >>> ((2 : Int32).toUInt32 &&& Int32.toUInt32 31)).toInt32) &&& 858993459)).toUInt32 >>> ((4 : Int32).toUInt32 &&& Int32.toUInt32 31)).toInt32)) &&& 252645135) + ((((((((ar σ2 23 ((ar σ2 15 r1.toNatClampNeg).toNatClampNeg)) - ((((ar σ2 23 ((ar σ2 15 r1.toNatClampNeg).toNatClampNeg)).toUInt32 >>> ((1 : Int32).toUInt32 &&& Int32.toUInt32 31)).toInt32) &&& 1431655765)) &&& 858993459) + (((((ar σ2 23 ((ar σ2 15 r1.toNatClampNeg).toNatClampNeg)) - ((((ar σ2 23 ((ar σ2 15 r1.toNatClampNeg).toNatClampNeg)).toUInt32 >>> ((1 : Int32).toUInt32 &&& Int32.toUInt32 31)).toInt32) &&& 1431655765)).toUInt32 >>> ((2 : Int32).toUInt32 &&& Int32.toUInt32 31)).toInt32) &&& 858993459)) + ((((((ar σ2 23 ((ar σ2 15 r1.toNatClampNeg).toNatClampNeg)) - ((((ar σ2 23 ((ar σ2 15 r1.toNatClampNeg).toNatClampNeg)).toUInt32 >>> ((1 : Int32).toUInt32 &&& Int32.toUInt32 31)).toInt32) &&& 1431655765)) &&& 858993459) + (((((ar σ2 23 ((ar σ2 15 r1.toNatClampNeg).toNatClampNeg)) - ((((ar σ2 23 ((ar σ2 15 r1.toNatClampNeg).toNatClampNeg)).toUInt32 >>> ((1 : Int32).toUInt32 &&& Int32.toUInt32 31)).toInt32) &&& 1431655765)).toUInt32 >>> ((2 : Int32).toUInt32 &&& Int32.toUInt32 31)).toInt32) &&& 858993459)).toUInt32 >>> ((4 : Int32).toUInt32 &&& Int32.toUInt32 31)).toInt32)) &&& 252645135).toUInt32 >>> ((8 : Int32).toUInt32 &&& Int32.toUInt32 31)).toInt32)) + (((((((((ar σ2 23 ((ar σ2 15 r1.toNatClampNeg).toNatClampNeg)) - ((((ar σ2 23 ((ar σ2 15 r1.toNatClampNeg).toNatClampNeg)).toUInt32 >>> ((1 : Int32).toUInt32 &&& Int32.toUInt32 31)).toInt32) &&& 1431655765)) &&& 858993459) + (((((ar σ2 23 ((ar σ2 15 r1.toNatClampNeg).toNatClampNeg)) - ((((ar σ2 23 ((ar σ2 15 r1.toNatClampNeg).toNatClampNeg)).toUInt32 >>> ((1 : Int32).toUInt32 &&& Int32.toUInt32 31)).toInt32) &&& 1431655765)).toUInt32 >>> ((2 : Int32).toUInt32 &&& Int32.toUInt32 31)).toInt32) &&& 858993459)) + ((((((ar σ2 23 ((ar σ2 15 r1.toNatClampNeg).toNatClampNeg)) - ((((ar σ2 23 ((ar σ2 15 r1.toNatClampNeg).toNatClampNeg)).toUInt32 >>> ((1 : Int32).toUInt32 &&& Int32.toUInt32 31)).toInt32) &&& 1431655765)) &&& 858993459) + (((((ar σ2 23 ((ar σ2 15 r1.toNatClampNeg).toNatClampNeg)) - ((((ar σ2 23 ((ar σ2 15 r1.toNatClampNeg).toNatClampNeg)).toUInt32 >>> ((1 : Int32).toUInt32 &&& Int32.toUInt32 31)).toInt32) &&& 1431655765)).toUInt32 >>> ((2 : Int32).toUInt32 &&& Int32.toUInt32 31)).toInt32) &&& 858993459)).toUInt32 >>> ((4 : Int32).toUInt32 &&& Int32.toUInt32 31)).toInt32)) &&& 252645135) + ((((((((ar σ2 23 ((ar σ2 15 r1.toNatClampNeg).toNatClampNeg)) - ((((ar σ2 23 ((ar σ2 15 r1.toNatClampNeg).toNatClampNeg)).toUInt32 >>> ((1 : Int32).toUInt32 &&& Int32.toUInt32 31)).toInt32) &&& 1431655765)) &&& 858993459) + (((((ar σ2 23 ((ar σ2 15 r1.toNatClampNeg).toNatClampNeg)) - ((((ar σ2 23 ((ar σ2 15 r1.toNatClampNeg).toNatClampNeg)).toUInt32 >>> ((1 : Int32).toUInt32 &&& Int32.toUInt32 31)).toInt32) &&& 1431655765)).toUInt32 >>> ((2 : Int32).toUInt32 &&& Int32.toUInt32 31)).toInt32) &&& 858993459)) + ((((((ar σ2 23 ((ar σ2 15 r1.toNatClampNeg).toNatClampNeg)) - ((((ar σ2 23 ((ar σ2 15 r1.toNatClampNeg).toNatClampNeg)).toUInt32 >>> ((1 : Int32).toUInt32 &&& Int32.toUInt32 31)).toInt32) &&& 1431655765)) &&& 858993459) + (((((ar σ2 23 ((ar σ2 15 r1.toNatClampNeg).toNatClampNeg)) - ((((ar σ2 23 ((ar σ2 15 r1.toNatClampNeg).toNatClampNeg)).toUInt32 >>> ((1 : Int32).toUInt32 &&& Int32.toUInt32 31)).toInt32) &&& 1431655765)).toUInt32 >>> ((2 : Int32).toUInt32 &&& Int32.toUInt32 31)).toInt32) &&& 858993459)).toUInt32 >>> ((4 : Int32).toUInt32 &&& Int32.toUInt32 31)).toInt32)) &&& 252645135).toUInt32 >>> ((8 : Int32).toUInt32 &&& Int32.toUInt32 31)).toInt32)).toUInt32 >>> ((16 : Int32).toUInt32 &&& Int32.toUInt32 31)).toInt32)) &&& 63)] σ2 (fun r3 σ3 => CI l g M_X1_oneOf (d - 1) [.int (ar σ2 23 ((ar σ2 15 r1.toNatClampNeg).toNatClampNeg)), .int r3] σ3 (fun r4 σ4 => CI l g M_X1_draw (d - 1) [.ref 31, .int (((((((((ar σ2 23 ((ar σ2 16 r1.toNatClampNeg).toNatClampNeg)) - ((((ar σ2 23 ((ar σ2 16 r1.toNatClampNeg).toNatClampNeg)).toUInt32 >>> ((1 : Int32).toUInt32 &&& Int32.toUInt32 31)).toInt32) &&& 1431655765)) &&& 858993459) + (((((ar σ2 23 ((ar σ2 16 r1.toNatClampNeg).toNatClampNeg)) - ((((ar σ2 23 ((ar σ2 16 r1.toNatClampNeg).toNatClampNeg)).toUInt32 >>> ((1 : Int32).toUInt32 &&& Int32.toUInt32 31)).toInt32) &&& 1431655765)).toUInt32 >>> ((2 : Int32).toUInt32 &&& Int32.toUInt32 31)).toInt32) &&& 858993459)) + ((((((ar σ2 23 ((ar σ2 16 r1.toNatClampNeg).toNatClampNeg)) - ((((ar σ2 23 ((ar σ2 16 r1.toNatClampNeg).toNatClampNeg)).toUInt32 >>> ((1 : Int32).toUInt32 &&& Int32.toUInt32 31)).toInt32) &&& 1431655765)) &&& 858993459) + (((((ar σ2 23 ((ar σ2 16 r1.toNatClampNeg).toNatClampNeg)) - ((((ar σ2 23 ((ar σ2 16 r1.toNatClampNeg).toNatClampNeg)).toUInt32 >>> ((1 : Int32).toUInt32 &&& Int32.toUInt32 31)).toInt32) &&& 1431655765)).toUInt32 >>> ((2 : Int32).toUInt32 &&& Int32.toUInt32 31)).toInt32) &&& 858993459)).toUInt32 >>> ((4 : Int32).toUInt32 &&& Int32.toUInt32 31)).toInt32)) &&& 252645135) + ((((((((ar σ2 23 ((ar σ2 16 r1.toNatClampNeg).toNatClampNeg)) - ((((ar σ2 23 ((ar σ2 16 r1.toNatClampNeg).toNatClampNeg)).toUInt32 >>> ((1 : Int32).toUInt32 &&& Int32.toUInt32 31)).toInt32) &&& 1431655765)) &&& 858993459) + (((((ar σ2 23 ((ar σ2 16 r1.toNatClampNeg).toNatClampNeg)) - ((((ar σ2 23 ((ar σ2 16 r1.toNatClampNeg).toNatClampNeg)).toUInt32 >>> ((1 : Int32).toUInt32 &&& Int32.toUInt32 31)).toInt32) &&& 1431655765)).toUInt32 >>> ((2 : Int32).toUInt32 &&& Int32.toUInt32 31)).toInt32) &&& 858993459)) + ((((((ar σ2 23 ((ar σ2 16 r1.toNatClampNeg).toNatClampNeg)) - ((((ar σ2 23 ((ar σ2 16 r1.toNatClampNeg).toNatClampNeg)).toUInt32 >>> ((1 : Int32).toUInt32 &&& Int32.toUInt32 31)).toInt32) &&& 1431655765)) &&& 858993459) + (((((ar σ2 23 ((ar σ2 16 r1.toNatClampNeg).toNatClampNeg)) - ((((ar σ2 23 ((ar σ2 16 r1.toNatClampNeg).toNatClampNeg)).toUInt32 >>> ((1 : Int32).toUInt32 &&& Int32.toUInt32 31)).toInt32) &&& 1431655765)).toUInt32 >>> ((2 : Int32).toUInt32 &&& Int32.toUInt32 31)).toInt32) &&& 858993459)).toUInt32 >>> ((4 : Int32).toUInt32 &&& Int32.toUInt32 31)).toInt32)) &&& 252645135).toUInt32 >>> ((8 : Int32).toUInt32 &&& Int32.toUInt32 31)).toInt32)) + (((((((((ar σ2 23 ((ar σ2 16 r1.toNatClampNeg).toNatClampNeg)) - ((((ar σ2 23 ((ar σ2 16 r1.toNatClampNeg).toNatClampNeg)).toUInt32 >>> ((1 : Int32).toUInt32 &&& Int32.toUInt32 31)).toInt32) &&& 1431655765)) &&& 858993459) + (((((ar σ2 23 ((ar σ2 16 r1.toNatClampNeg).toNatClampNeg)) - ((((ar σ2 23 ((ar σ2 16 r1.toNatClampNeg).toNatClampNeg)).toUInt32 >>> ((1 : Int32).toUInt32 &&& Int32.toUInt32 31)).toInt32) &&& 1431655765)).toUInt32 >>> ((2 : Int32).toUInt32 &&& Int32.toUInt32 31)).toInt32) &&& 858993459)) + ((((((ar σ2 23 ((ar σ2 16 r1.toNatClampNeg).toNatClampNeg)) - ((((ar σ2 23 ((ar σ2 16 r1.toNatClampNeg).toNatClampNeg)).toUInt32 >>> ((1 : Int32).toUInt32 &&& Int32.toUInt32 31)).toInt32) &&& 1431655765)) &&& 858993459) + (((((ar σ2 23 ((ar σ2 16 r1.toNatClampNeg).toNatClampNeg)) - ((((ar σ2 23 ((ar σ2 16 r1.toNatClampNeg).toNatClampNeg)).toUInt32 >>> ((1 : Int32).toUInt32 &&& Int32.toUInt32 31)).toInt32) &&& 1431655765)).toUInt32 >>> ((2 : Int32).toUInt32 &&& Int32.toUInt32 31)).toInt32) &&& 858993459)).toUInt32 >>> ((4 : Int32).toUInt32 &&& Int32.toUInt32 31)).toInt32)) &&& 252645135) + ((((((((ar σ2 23 ((ar σ2 16 r1.toNatClampNeg).toNatClampNeg)) - ((((ar σ2 23 ((ar σ2 16 r1.toNatClampNeg).toNatClampNeg)).toUInt32 >>> ((1 : Int32).toUInt32 &&& Int32.toUInt32 31)).toInt32) &&& 1431655765)) &&& 858993459) + (((((ar σ2 23 ((ar σ2 16 r1.toNatClampNeg).toNatClampNeg)) - ((((ar σ2 23 ((ar σ2 16 r1.toNatClampNeg).toNatClampNeg)).toUInt32 >>> ((1 : Int32).toUInt32 &&& Int32.toUInt32 31)).toInt32) &&& 1431655765)).toUInt32 >>> ((2 : Int32).toUInt32 &&& Int32.toUInt32 31)).toInt32) &&& 858993459)) + ((((((ar σ2 23 ((ar σ2 16 r1.toNatClampNeg).toNatClampNeg)) - ((((ar σ2 23 ((ar σ2 16 r1.toNatClampNeg).toNatClampNeg)).toUInt32 >>> ((1 : Int32).toUInt32 &&& Int32.toUInt32 31)).toInt32) &&& 1431655765)) &&& 858993459) + (((((ar σ2 23 ((ar σ2 16 r1.toNatClampNeg).toNatClampNeg)) - ((((ar σ2 23 ((ar σ2 16 r1.toNatClampNeg).toNatClampNeg)).toUInt32 >>> ((1 : Int32).toUInt32 &&& Int32.toUInt32 31)).toInt32) &&& 1431655765)).toUInt32 >>> ((2 : Int32).toUInt32 &&& Int32.toUInt32 31)).toInt32) &&& 858993459)).toUInt32 >>> ((4 : Int32).toUInt32 &&& Int32.toUInt32 31)).toInt32)) &&& 252645135).toUInt32 >>> ((8 : Int32).toUInt32 &&& Int32.toUInt32 31)).toInt32)).toUInt32 >>> ((16 : Int32).toUInt32 &&& Int32.toUInt32 31)).toInt32)) &&& 63)] σ4 (fun r5 σ5 => CI l g M_X1_oneOf (d - 1) [.int (ar σ2 23 ((ar σ2 16 r1.toNatClampNeg).toNatClampNeg)), .int r5] σ5 (fun r6 σ6 => ((r4 < 0 → k 0 σ6) ∧ (¬ r4 < 0 → ((r6 < 0 → k 0 σ6) ∧ (¬ r6 < 0 → (vp_in ((r1 * 7) + r4) 35 ∧ ((¬ ((ar σ6 18 (((r1 * 7) + r4).toNatClampNeg)) >>> (r6 &&& 31)) &&& 1 = 0 → CI l g M_X6_changed (d - 1) [.ref 14, .int (rg σ6 1985), .int r1, .int r4, .int r6] σ6 (fun r7 σ7 => k 1 (sR (sR σ7 1985 r7) 1986 ((rg σ7 1986) + 1)))) ∧ (((ar σ6 18 (((r1 * 7) + r4).toNatClampNeg)) >>> (r6 &&& 31)) &&& 1 = 0 → k 0 σ6)))))))))))) ∧ (ar σ2 23 ((ar σ2 16 r1.toNatClampNeg).toNatClampNeg) = 0 → k 0 σ2))))))))))) : CI l g M_X1_tryOne d [.ref 31, .ref 14, .ref 20] σ k := by
  show J l g (M_X1_tryOne, d, 0, 0) 0 [(0, .ref 31), (1, .ref 14), (2, .ref 20)] [] (hp σ) 0 0 (kI k)
  refine j_aload_n (pc := 0) dX1_tryOne_0 rfl ?_
  refine j_aload_n (pc := 1) dX1_tryOne_1 rfl ?_
  refine s_getr (pc := 2) dX1_tryOne_2 fl_X1_37 shp_14 rfl ?_
  refine s_geti (pc := 5) 65 (rg σ 65) dX1_tryOne_5 fl_X1_43 shp_1 rfl rfl rfl ?_
  refine s_callV_i (pc := 8) (M1 := M_X1_draw) (n := 1) (as := [.int (rg σ 65)]) (a := 31) (st := []) dX1_tryOne_8 G_X1_draw wm_X1_48 (by decide +kernel) rfl (Nat.le_of_ble_eq_true rfl) shp_31 rfl (by show 1 ≤ d; omega) (Nat.le_of_ble_eq_true rfl) (Nat.zero_le _) (Nat.zero_le _) ?_
  refine CI.mono H (fun r1 σ1 H => ?_)
  refine j_istore_n (pc := 11) (lv1 := [(3, .int r1), (0, .ref 31), (1, .ref 14), (2, .ref 20)]) dX1_tryOne_11 (Nat.le_of_ble_eq_true rfl) rfl ?_
  refine j_aload_n (pc := 12) dX1_tryOne_12 rfl ?_
  refine j_aload_n (pc := 13) dX1_tryOne_13 rfl ?_
  refine s_getr (pc := 14) dX1_tryOne_14 fl_X1_37 shp_14 rfl ?_
  refine s_geti (pc := 17) 66 (rg σ1 66) dX1_tryOne_17 fl_X1_52 shp_1 rfl rfl rfl ?_
  refine j_aload_n (pc := 20) dX1_tryOne_20 rfl ?_
  refine s_geti (pc := 21) 1985 (rg σ1 1985) dX1_tryOne_21 fl_X1_15 shp_31 rfl rfl rfl ?_
  refine s_callV_v (pc := 24) (M1 := M_X9_seat) (n := 2) (as := [.int (rg σ1 66), .int (rg σ1 1985)]) (a := 20) (st := []) dX1_tryOne_24 G_X9_seat wm_X1_55 (by decide +kernel) rfl (Nat.le_of_ble_eq_true rfl) shp_20 rfl (by show 1 ≤ d; omega) (Nat.le_of_ble_eq_true rfl) (Nat.zero_le _) (Nat.zero_le _) ?_
  refine CV.mono H (fun σ2 H => ?_)
  refine j_aload_n (pc := 27) dX1_tryOne_27 rfl ?_
  refine s_getr (pc := 28) dX1_tryOne_28 fl_X1_59 shp_20 rfl ?_
  refine j_aload_n (pc := 31) dX1_tryOne_31 rfl ?_
  refine s_getr (pc := 32) dX1_tryOne_32 fl_X1_63 shp_14 rfl ?_
  refine j_iload_n (pc := 35) dX1_tryOne_35 rfl ?_
  have b36 := H.1
  replace H := H.2
  refine s_iald (pc := 36) (ar σ2 15 r1.toNatClampNeg) dX1_tryOne_36 shp_15 b36 rfl ?_
  have b37 := H.1
  replace H := H.2
  refine s_iald (pc := 37) (ar σ2 23 ((ar σ2 15 r1.toNatClampNeg).toNatClampNeg)) dX1_tryOne_37 shp_23 b37 rfl ?_
  refine j_istore (pc := 38) (lv1 := [(4, .int (ar σ2 23 ((ar σ2 15 r1.toNatClampNeg).toNatClampNeg))), (3, .int r1), (0, .ref 31), (1, .ref 14), (2, .ref 20)]) dX1_tryOne_38 (Nat.le_of_ble_eq_true rfl) rfl ?_
  refine j_aload_n (pc := 40) dX1_tryOne_40 rfl ?_
  refine s_getr (pc := 41) dX1_tryOne_41 fl_X1_59 shp_20 rfl ?_
  refine j_aload_n (pc := 44) dX1_tryOne_44 rfl ?_
  refine s_getr (pc := 45) dX1_tryOne_45 fl_X1_66 shp_14 rfl ?_
  refine j_iload_n (pc := 48) dX1_tryOne_48 rfl ?_
  have b49 := H.1
  replace H := H.2
  refine s_iald (pc := 49) (ar σ2 16 r1.toNatClampNeg) dX1_tryOne_49 shp_16 b49 rfl ?_
  have b50 := H.1
  replace H := H.2
  refine s_iald (pc := 50) (ar σ2 23 ((ar σ2 16 r1.toNatClampNeg).toNatClampNeg)) dX1_tryOne_50 shp_23 b50 rfl ?_
  refine j_istore (pc := 51) (lv1 := [(5, .int (ar σ2 23 ((ar σ2 16 r1.toNatClampNeg).toNatClampNeg))), (4, .int (ar σ2 23 ((ar σ2 15 r1.toNatClampNeg).toNatClampNeg))), (3, .int r1), (0, .ref 31), (1, .ref 14), (2, .ref 20)]) dX1_tryOne_51 (Nat.le_of_ble_eq_true rfl) rfl ?_
  refine j_iload (pc := 53) dX1_tryOne_53 rfl ?_
  refine j_if_eq (pc := 55) (t := 63) dX1_tryOne_55 (by decide) (fun c55 => ?_) (fun c55 => ?_)
  · replace H := H.1 c55
    refine j_iconst (pc := 63) (v := 0) dX1_tryOne_63 (by decide) ?_
    exact s_iretz (pc := 64) dX1_tryOne_64 rfl rfl H
  · replace H := H.2 c55
    refine j_iload (pc := 58) dX1_tryOne_58 rfl ?_
    refine j_if_ne (pc := 60) (t := 65) dX1_tryOne_60 (by decide) (fun c60 => ?_) (fun c60 => ?_)
    · replace H := H.1 c60
      refine j_iload (pc := 65) dX1_tryOne_65 rfl ?_
      refine j_aload_n (pc := 67) dX1_tryOne_67 rfl ?_
      refine j_iload (pc := 68) dX1_tryOne_68 rfl ?_
      refine s_callS_i (pc := 70) (M1 := M_J6_bitCount_0f7a4) (n := 1) (as := [.int (ar σ2 23 ((ar σ2 15 r1.toNatClampNeg).toNatClampNeg))]) (st := [.ref 31, .int (ar σ2 23 ((ar σ2 15 r1.toNatClampNeg).toNatClampNeg))]) dX1_tryOne_70 G_J6_bitCount_0f7a4 wm_X1_69 (by decide +kernel) rfl (Nat.le_of_ble_eq_true rfl) (by show 1 ≤ d; omega) (Nat.le_of_ble_eq_true rfl) ?_
      refine C_J6_bitCount_0f7a4 (d := d - 1) (by omega) ?_
      refine s_callV_i (pc := 73) (M1 := M_X1_draw) (n := 1) (as := [.int (((((((((ar σ2 23 ((ar σ2 15 r1.toNatClampNeg).toNatClampNeg)) - ((((ar σ2 23 ((ar σ2 15 r1.toNatClampNeg).toNatClampNeg)).toUInt32 >>> ((1 : Int32).toUInt32 &&& Int32.toUInt32 31)).toInt32) &&& 1431655765)) &&& 858993459) + (((((ar σ2 23 ((ar σ2 15 r1.toNatClampNeg).toNatClampNeg)) - ((((ar σ2 23 ((ar σ2 15 r1.toNatClampNeg).toNatClampNeg)).toUInt32 >>> ((1 : Int32).toUInt32 &&& Int32.toUInt32 31)).toInt32) &&& 1431655765)).toUInt32 >>> ((2 : Int32).toUInt32 &&& Int32.toUInt32 31)).toInt32) &&& 858993459)) + ((((((ar σ2 23 ((ar σ2 15 r1.toNatClampNeg).toNatClampNeg)) - ((((ar σ2 23 ((ar σ2 15 r1.toNatClampNeg).toNatClampNeg)).toUInt32 >>> ((1 : Int32).toUInt32 &&& Int32.toUInt32 31)).toInt32) &&& 1431655765)) &&& 858993459) + (((((ar σ2 23 ((ar σ2 15 r1.toNatClampNeg).toNatClampNeg)) - ((((ar σ2 23 ((ar σ2 15 r1.toNatClampNeg).toNatClampNeg)).toUInt32 >>> ((1 : Int32).toUInt32 &&& Int32.toUInt32 31)).toInt32) &&& 1431655765)).toUInt32 >>> ((2 : Int32).toUInt32 &&& Int32.toUInt32 31)).toInt32) &&& 858993459)).toUInt32 >>> ((4 : Int32).toUInt32 &&& Int32.toUInt32 31)).toInt32)) &&& 252645135) + ((((((((ar σ2 23 ((ar σ2 15 r1.toNatClampNeg).toNatClampNeg)) - ((((ar σ2 23 ((ar σ2 15 r1.toNatClampNeg).toNatClampNeg)).toUInt32 >>> ((1 : Int32).toUInt32 &&& Int32.toUInt32 31)).toInt32) &&& 1431655765)) &&& 858993459) + (((((ar σ2 23 ((ar σ2 15 r1.toNatClampNeg).toNatClampNeg)) - ((((ar σ2 23 ((ar σ2 15 r1.toNatClampNeg).toNatClampNeg)).toUInt32 >>> ((1 : Int32).toUInt32 &&& Int32.toUInt32 31)).toInt32) &&& 1431655765)).toUInt32 >>> ((2 : Int32).toUInt32 &&& Int32.toUInt32 31)).toInt32) &&& 858993459)) + ((((((ar σ2 23 ((ar σ2 15 r1.toNatClampNeg).toNatClampNeg)) - ((((ar σ2 23 ((ar σ2 15 r1.toNatClampNeg).toNatClampNeg)).toUInt32 >>> ((1 : Int32).toUInt32 &&& Int32.toUInt32 31)).toInt32) &&& 1431655765)) &&& 858993459) + (((((ar σ2 23 ((ar σ2 15 r1.toNatClampNeg).toNatClampNeg)) - ((((ar σ2 23 ((ar σ2 15 r1.toNatClampNeg).toNatClampNeg)).toUInt32 >>> ((1 : Int32).toUInt32 &&& Int32.toUInt32 31)).toInt32) &&& 1431655765)).toUInt32 >>> ((2 : Int32).toUInt32 &&& Int32.toUInt32 31)).toInt32) &&& 858993459)).toUInt32 >>> ((4 : Int32).toUInt32 &&& Int32.toUInt32 31)).toInt32)) &&& 252645135).toUInt32 >>> ((8 : Int32).toUInt32 &&& Int32.toUInt32 31)).toInt32)) + (((((((((ar σ2 23 ((ar σ2 15 r1.toNatClampNeg).toNatClampNeg)) - ((((ar σ2 23 ((ar σ2 15 r1.toNatClampNeg).toNatClampNeg)).toUInt32 >>> ((1 : Int32).toUInt32 &&& Int32.toUInt32 31)).toInt32) &&& 1431655765)) &&& 858993459) + (((((ar σ2 23 ((ar σ2 15 r1.toNatClampNeg).toNatClampNeg)) - ((((ar σ2 23 ((ar σ2 15 r1.toNatClampNeg).toNatClampNeg)).toUInt32 >>> ((1 : Int32).toUInt32 &&& Int32.toUInt32 31)).toInt32) &&& 1431655765)).toUInt32 >>> ((2 : Int32).toUInt32 &&& Int32.toUInt32 31)).toInt32) &&& 858993459)) + ((((((ar σ2 23 ((ar σ2 15 r1.toNatClampNeg).toNatClampNeg)) - ((((ar σ2 23 ((ar σ2 15 r1.toNatClampNeg).toNatClampNeg)).toUInt32 >>> ((1 : Int32).toUInt32 &&& Int32.toUInt32 31)).toInt32) &&& 1431655765)) &&& 858993459) + (((((ar σ2 23 ((ar σ2 15 r1.toNatClampNeg).toNatClampNeg)) - ((((ar σ2 23 ((ar σ2 15 r1.toNatClampNeg).toNatClampNeg)).toUInt32 >>> ((1 : Int32).toUInt32 &&& Int32.toUInt32 31)).toInt32) &&& 1431655765)).toUInt32 >>> ((2 : Int32).toUInt32 &&& Int32.toUInt32 31)).toInt32) &&& 858993459)).toUInt32 >>> ((4 : Int32).toUInt32 &&& Int32.toUInt32 31)).toInt32)) &&& 252645135) + ((((((((ar σ2 23 ((ar σ2 15 r1.toNatClampNeg).toNatClampNeg)) - ((((ar σ2 23 ((ar σ2 15 r1.toNatClampNeg).toNatClampNeg)).toUInt32 >>> ((1 : Int32).toUInt32 &&& Int32.toUInt32 31)).toInt32) &&& 1431655765)) &&& 858993459) + (((((ar σ2 23 ((ar σ2 15 r1.toNatClampNeg).toNatClampNeg)) - ((((ar σ2 23 ((ar σ2 15 r1.toNatClampNeg).toNatClampNeg)).toUInt32 >>> ((1 : Int32).toUInt32 &&& Int32.toUInt32 31)).toInt32) &&& 1431655765)).toUInt32 >>> ((2 : Int32).toUInt32 &&& Int32.toUInt32 31)).toInt32) &&& 858993459)) + ((((((ar σ2 23 ((ar σ2 15 r1.toNatClampNeg).toNatClampNeg)) - ((((ar σ2 23 ((ar σ2 15 r1.toNatClampNeg).toNatClampNeg)).toUInt32 >>> ((1 : Int32).toUInt32 &&& Int32.toUInt32 31)).toInt32) &&& 1431655765)) &&& 858993459) + (((((ar σ2 23 ((ar σ2 15 r1.toNatClampNeg).toNatClampNeg)) - ((((ar σ2 23 ((ar σ2 15 r1.toNatClampNeg).toNatClampNeg)).toUInt32 >>> ((1 : Int32).toUInt32 &&& Int32.toUInt32 31)).toInt32) &&& 1431655765)).toUInt32 >>> ((2 : Int32).toUInt32 &&& Int32.toUInt32 31)).toInt32) &&& 858993459)).toUInt32 >>> ((4 : Int32).toUInt32 &&& Int32.toUInt32 31)).toInt32)) &&& 252645135).toUInt32 >>> ((8 : Int32).toUInt32 &&& Int32.toUInt32 31)).toInt32)).toUInt32 >>> ((16 : Int32).toUInt32 &&& Int32.toUInt32 31)).toInt32)) &&& 63)]) (a := 31) (st := [.int (ar σ2 23 ((ar σ2 15 r1.toNatClampNeg).toNatClampNeg))]) dX1_tryOne_73 G_X1_draw wm_X1_48 (by decide +kernel) rfl (Nat.le_of_ble_eq_true rfl) shp_31 rfl (by show 1 ≤ d; omega) (Nat.le_of_ble_eq_true rfl) (Nat.zero_le _) (Nat.zero_le _) ?_
      refine CI.mono H (fun r3 σ3 H => ?_)
      refine s_callS_i (pc := 76) (M1 := M_X1_oneOf) (n := 2) (as := [.int (ar σ2 23 ((ar σ2 15 r1.toNatClampNeg).toNatClampNeg)), .int r3]) (st := []) dX1_tryOne_76 G_X1_oneOf wm_X1_74 (by decide +kernel) rfl (Nat.le_of_ble_eq_true rfl) (by show 1 ≤ d; omega) (Nat.le_of_ble_eq_true rfl) ?_
      refine CI.mono H (fun r4 σ4 H => ?_)
      refine j_istore (pc := 79) (lv1 := [(6, .int r4), (5, .int (ar σ2 23 ((ar σ2 16 r1.toNatClampNeg).toNatClampNeg))), (4, .int (ar σ2 23 ((ar σ2 15 r1.toNatClampNeg).toNatClampNeg))), (3, .int r1), (0, .ref 31), (1, .ref 14), (2, .ref 20)]) dX1_tryOne_79 (Nat.le_of_ble_eq_true rfl) rfl ?_
      refine j_iload (pc := 81) dX1_tryOne_81 rfl ?_
      refine j_aload_n (pc := 83) dX1_tryOne_83 rfl ?_
      refine j_iload (pc := 84) dX1_tryOne_84 rfl ?_
      refine s_callS_i (pc := 86) (M1 := M_J6_bitCount_0f7a4) (n := 1) (as := [.int (ar σ2 23 ((ar σ2 16 r1.toNatClampNeg).toNatClampNeg))]) (st := [.ref 31, .int (ar σ2 23 ((ar σ2 16 r1.toNatClampNeg).toNatClampNeg))]) dX1_tryOne_86 G_J6_bitCount_0f7a4 wm_X1_69 (by decide +kernel) rfl (Nat.le_of_ble_eq_true rfl) (by show 1 ≤ d; omega) (Nat.le_of_ble_eq_true rfl) ?_
      refine C_J6_bitCount_0f7a4 (d := d - 1) (by omega) ?_
      refine s_callV_i (pc := 89) (M1 := M_X1_draw) (n := 1) (as := [.int (((((((((ar σ2 23 ((ar σ2 16 r1.toNatClampNeg).toNatClampNeg)) - ((((ar σ2 23 ((ar σ2 16 r1.toNatClampNeg).toNatClampNeg)).toUInt32 >>> ((1 : Int32).toUInt32 &&& Int32.toUInt32 31)).toInt32) &&& 1431655765)) &&& 858993459) + (((((ar σ2 23 ((ar σ2 16 r1.toNatClampNeg).toNatClampNeg)) - ((((ar σ2 23 ((ar σ2 16 r1.toNatClampNeg).toNatClampNeg)).toUInt32 >>> ((1 : Int32).toUInt32 &&& Int32.toUInt32 31)).toInt32) &&& 1431655765)).toUInt32 >>> ((2 : Int32).toUInt32 &&& Int32.toUInt32 31)).toInt32) &&& 858993459)) + ((((((ar σ2 23 ((ar σ2 16 r1.toNatClampNeg).toNatClampNeg)) - ((((ar σ2 23 ((ar σ2 16 r1.toNatClampNeg).toNatClampNeg)).toUInt32 >>> ((1 : Int32).toUInt32 &&& Int32.toUInt32 31)).toInt32) &&& 1431655765)) &&& 858993459) + (((((ar σ2 23 ((ar σ2 16 r1.toNatClampNeg).toNatClampNeg)) - ((((ar σ2 23 ((ar σ2 16 r1.toNatClampNeg).toNatClampNeg)).toUInt32 >>> ((1 : Int32).toUInt32 &&& Int32.toUInt32 31)).toInt32) &&& 1431655765)).toUInt32 >>> ((2 : Int32).toUInt32 &&& Int32.toUInt32 31)).toInt32) &&& 858993459)).toUInt32 >>> ((4 : Int32).toUInt32 &&& Int32.toUInt32 31)).toInt32)) &&& 252645135) + ((((((((ar σ2 23 ((ar σ2 16 r1.toNatClampNeg).toNatClampNeg)) - ((((ar σ2 23 ((ar σ2 16 r1.toNatClampNeg).toNatClampNeg)).toUInt32 >>> ((1 : Int32).toUInt32 &&& Int32.toUInt32 31)).toInt32) &&& 1431655765)) &&& 858993459) + (((((ar σ2 23 ((ar σ2 16 r1.toNatClampNeg).toNatClampNeg)) - ((((ar σ2 23 ((ar σ2 16 r1.toNatClampNeg).toNatClampNeg)).toUInt32 >>> ((1 : Int32).toUInt32 &&& Int32.toUInt32 31)).toInt32) &&& 1431655765)).toUInt32 >>> ((2 : Int32).toUInt32 &&& Int32.toUInt32 31)).toInt32) &&& 858993459)) + ((((((ar σ2 23 ((ar σ2 16 r1.toNatClampNeg).toNatClampNeg)) - ((((ar σ2 23 ((ar σ2 16 r1.toNatClampNeg).toNatClampNeg)).toUInt32 >>> ((1 : Int32).toUInt32 &&& Int32.toUInt32 31)).toInt32) &&& 1431655765)) &&& 858993459) + (((((ar σ2 23 ((ar σ2 16 r1.toNatClampNeg).toNatClampNeg)) - ((((ar σ2 23 ((ar σ2 16 r1.toNatClampNeg).toNatClampNeg)).toUInt32 >>> ((1 : Int32).toUInt32 &&& Int32.toUInt32 31)).toInt32) &&& 1431655765)).toUInt32 >>> ((2 : Int32).toUInt32 &&& Int32.toUInt32 31)).toInt32) &&& 858993459)).toUInt32 >>> ((4 : Int32).toUInt32 &&& Int32.toUInt32 31)).toInt32)) &&& 252645135).toUInt32 >>> ((8 : Int32).toUInt32 &&& Int32.toUInt32 31)).toInt32)) + (((((((((ar σ2 23 ((ar σ2 16 r1.toNatClampNeg).toNatClampNeg)) - ((((ar σ2 23 ((ar σ2 16 r1.toNatClampNeg).toNatClampNeg)).toUInt32 >>> ((1 : Int32).toUInt32 &&& Int32.toUInt32 31)).toInt32) &&& 1431655765)) &&& 858993459) + (((((ar σ2 23 ((ar σ2 16 r1.toNatClampNeg).toNatClampNeg)) - ((((ar σ2 23 ((ar σ2 16 r1.toNatClampNeg).toNatClampNeg)).toUInt32 >>> ((1 : Int32).toUInt32 &&& Int32.toUInt32 31)).toInt32) &&& 1431655765)).toUInt32 >>> ((2 : Int32).toUInt32 &&& Int32.toUInt32 31)).toInt32) &&& 858993459)) + ((((((ar σ2 23 ((ar σ2 16 r1.toNatClampNeg).toNatClampNeg)) - ((((ar σ2 23 ((ar σ2 16 r1.toNatClampNeg).toNatClampNeg)).toUInt32 >>> ((1 : Int32).toUInt32 &&& Int32.toUInt32 31)).toInt32) &&& 1431655765)) &&& 858993459) + (((((ar σ2 23 ((ar σ2 16 r1.toNatClampNeg).toNatClampNeg)) - ((((ar σ2 23 ((ar σ2 16 r1.toNatClampNeg).toNatClampNeg)).toUInt32 >>> ((1 : Int32).toUInt32 &&& Int32.toUInt32 31)).toInt32) &&& 1431655765)).toUInt32 >>> ((2 : Int32).toUInt32 &&& Int32.toUInt32 31)).toInt32) &&& 858993459)).toUInt32 >>> ((4 : Int32).toUInt32 &&& Int32.toUInt32 31)).toInt32)) &&& 252645135) + ((((((((ar σ2 23 ((ar σ2 16 r1.toNatClampNeg).toNatClampNeg)) - ((((ar σ2 23 ((ar σ2 16 r1.toNatClampNeg).toNatClampNeg)).toUInt32 >>> ((1 : Int32).toUInt32 &&& Int32.toUInt32 31)).toInt32) &&& 1431655765)) &&& 858993459) + (((((ar σ2 23 ((ar σ2 16 r1.toNatClampNeg).toNatClampNeg)) - ((((ar σ2 23 ((ar σ2 16 r1.toNatClampNeg).toNatClampNeg)).toUInt32 >>> ((1 : Int32).toUInt32 &&& Int32.toUInt32 31)).toInt32) &&& 1431655765)).toUInt32 >>> ((2 : Int32).toUInt32 &&& Int32.toUInt32 31)).toInt32) &&& 858993459)) + ((((((ar σ2 23 ((ar σ2 16 r1.toNatClampNeg).toNatClampNeg)) - ((((ar σ2 23 ((ar σ2 16 r1.toNatClampNeg).toNatClampNeg)).toUInt32 >>> ((1 : Int32).toUInt32 &&& Int32.toUInt32 31)).toInt32) &&& 1431655765)) &&& 858993459) + (((((ar σ2 23 ((ar σ2 16 r1.toNatClampNeg).toNatClampNeg)) - ((((ar σ2 23 ((ar σ2 16 r1.toNatClampNeg).toNatClampNeg)).toUInt32 >>> ((1 : Int32).toUInt32 &&& Int32.toUInt32 31)).toInt32) &&& 1431655765)).toUInt32 >>> ((2 : Int32).toUInt32 &&& Int32.toUInt32 31)).toInt32) &&& 858993459)).toUInt32 >>> ((4 : Int32).toUInt32 &&& Int32.toUInt32 31)).toInt32)) &&& 252645135).toUInt32 >>> ((8 : Int32).toUInt32 &&& Int32.toUInt32 31)).toInt32)).toUInt32 >>> ((16 : Int32).toUInt32 &&& Int32.toUInt32 31)).toInt32)) &&& 63)]) (a := 31) (st := [.int (ar σ2 23 ((ar σ2 16 r1.toNatClampNeg).toNatClampNeg))]) dX1_tryOne_89 G_X1_draw wm_X1_48 (by decide +kernel) rfl (Nat.le_of_ble_eq_true rfl) shp_31 rfl (by show 1 ≤ d; omega) (Nat.le_of_ble_eq_true rfl) (Nat.zero_le _) (Nat.zero_le _) ?_
      refine CI.mono H (fun r5 σ5 H => ?_)
      refine s_callS_i (pc := 92) (M1 := M_X1_oneOf) (n := 2) (as := [.int (ar σ2 23 ((ar σ2 16 r1.toNatClampNeg).toNatClampNeg)), .int r5]) (st := []) dX1_tryOne_92 G_X1_oneOf wm_X1_74 (by decide +kernel) rfl (Nat.le_of_ble_eq_true rfl) (by show 1 ≤ d; omega) (Nat.le_of_ble_eq_true rfl) ?_
      refine CI.mono H (fun r6 σ6 H => ?_)
      refine j_istore (pc := 95) (lv1 := [(7, .int r6), (6, .int r4), (5, .int (ar σ2 23 ((ar σ2 16 r1.toNatClampNeg).toNatClampNeg))), (4, .int (ar σ2 23 ((ar σ2 15 r1.toNatClampNeg).toNatClampNeg))), (3, .int r1), (0, .ref 31), (1, .ref 14), (2, .ref 20)]) dX1_tryOne_95 (Nat.le_of_ble_eq_true rfl) rfl ?_
      refine j_iload (pc := 97) dX1_tryOne_97 rfl ?_
      refine j_if_lt (pc := 99) (t := 127) dX1_tryOne_99 (by decide) (fun c99 => ?_) (fun c99 => ?_)
      · replace H := H.1 c99
        refine j_iconst (pc := 127) (v := 0) dX1_tryOne_127 (by decide) ?_
        exact s_iretz (pc := 128) dX1_tryOne_128 rfl rfl H
      · replace H := H.2 c99
        refine j_iload (pc := 102) dX1_tryOne_102 rfl ?_
        refine j_if_lt (pc := 104) (t := 127) dX1_tryOne_104 (by decide) (fun c104 => ?_) (fun c104 => ?_)
        · replace H := H.1 c104
          refine j_iconst (pc := 127) (v := 0) dX1_tryOne_127 (by decide) ?_
          exact s_iretz (pc := 128) dX1_tryOne_128 rfl rfl H
        · replace H := H.2 c104
          refine j_aload_n (pc := 107) dX1_tryOne_107 rfl ?_
          refine s_getr (pc := 108) dX1_tryOne_108 fl_X1_78 shp_14 rfl ?_
          refine j_iload_n (pc := 111) dX1_tryOne_111 rfl ?_
          refine j_bipush (pc := 112) (v := 7) dX1_tryOne_112 (by decide) ?_
          refine j_imul (pc := 114) dX1_tryOne_114 ?_
          refine j_iload (pc := 115) dX1_tryOne_115 rfl ?_
          refine j_iadd (pc := 117) dX1_tryOne_117 ?_
          have b118 := H.1
          replace H := H.2
          refine s_iald (pc := 118) (ar σ6 18 (((r1 * 7) + r4).toNatClampNeg)) dX1_tryOne_118 shp_18 b118 rfl ?_
          refine j_iload (pc := 119) dX1_tryOne_119 rfl ?_
          refine j_ishr (pc := 121) dX1_tryOne_121 ?_
          refine j_iconst (pc := 122) (v := 1) dX1_tryOne_122 (by decide) ?_
          refine j_iand (pc := 123) dX1_tryOne_123 ?_
          refine j_if_ne (pc := 124) (t := 129) dX1_tryOne_124 (by decide) (fun c124 => ?_) (fun c124 => ?_)
          · replace H := H.1 c124
            refine j_aload_n (pc := 129) dX1_tryOne_129 rfl ?_
            refine j_aload_n (pc := 130) dX1_tryOne_130 rfl ?_
            refine j_aload_n (pc := 131) dX1_tryOne_131 rfl ?_
            refine s_geti (pc := 132) 1985 (rg σ6 1985) dX1_tryOne_132 fl_X1_15 shp_31 rfl rfl rfl ?_
            refine j_iload_n (pc := 135) dX1_tryOne_135 rfl ?_
            refine j_iload (pc := 136) dX1_tryOne_136 rfl ?_
            refine j_iload (pc := 138) dX1_tryOne_138 rfl ?_
            refine s_callV_i (pc := 140) (M1 := M_X6_changed) (n := 4) (as := [.int (rg σ6 1985), .int r1, .int r4, .int r6]) (a := 14) (st := [.ref 31]) dX1_tryOne_140 G_X6_changed wm_X1_81 (by decide +kernel) rfl (Nat.le_of_ble_eq_true rfl) shp_14 rfl (by show 1 ≤ d; omega) (Nat.le_of_ble_eq_true rfl) (Nat.zero_le _) (Nat.zero_le _) ?_
            refine CI.mono H (fun r7 σ7 H => ?_)
            refine s_put (pc := 143) 1985 dX1_tryOne_143 fl_X1_15 shp_31 rfl rfl fp_1_1 rfl rfl ?_
            refine j_aload_n (pc := 146) dX1_tryOne_146 rfl ?_
            refine j_dup (pc := 147) dX1_tryOne_147 rfl ?_
            refine s_geti (pc := 148) 1986 (rg σ7 1986) dX1_tryOne_148 fl_X1_18 shp_31 rfl rfl rfl ?_
            refine j_iconst (pc := 151) (v := 1) dX1_tryOne_151 (by decide) ?_
            refine j_iadd (pc := 152) dX1_tryOne_152 ?_
            refine s_put (pc := 153) 1986 dX1_tryOne_153 fl_X1_18 shp_31 rfl rfl fp_1_2 rfl rfl ?_
            refine j_iconst (pc := 156) (v := 1) dX1_tryOne_156 (by decide) ?_
            exact s_iretz (pc := 157) dX1_tryOne_157 rfl rfl H
          · replace H := H.2 c124
            refine j_iconst (pc := 127) (v := 0) dX1_tryOne_127 (by decide) ?_
            exact s_iretz (pc := 128) dX1_tryOne_128 rfl rfl H
    · replace H := H.2 c60
      refine j_iconst (pc := 63) (v := 0) dX1_tryOne_63 (by decide) ?_
      exact s_iretz (pc := 64) dX1_tryOne_64 rfl rfl H
set_option maxRecDepth 20000 in
theorem b_X1_pass_0 {l : Launch} {g : am_G} {d : Nat} {σ : am_S} {k : am_S → Prop}  {x3 x4 x5 : Int32} (hd : 1 ≤ d) (H : CV l g M_X9_list (d - 1) [.ref 20, .ref 14, .int x5] (sR (sR (sR σ 1984 x3) 1985 x5) 1986 0) (fun σ1 => ((¬ rg σ1 1283 = 0 → JV l g M_X1_pass d 45 [(0, .ref 31), (1, .ref 14), (2, .ref 20), (3, .int x3), (4, .int x4), (5, .int x5), (6, .int 1)] [] (sR σ1 1987 (-2)) k) ∧ (rg σ1 1283 = 0 → JV l g M_X1_pass d 45 [(0, .ref 31), (1, .ref 14), (2, .ref 20), (3, .int x3), (4, .int x4), (5, .int x5), (6, .int 1)] [] (sR σ1 1987 0) k)))) : CV l g M_X1_pass d [.ref 31, .ref 14, .ref 20, .int x3, .int x4, .int x5] σ k := by
  show J l g (M_X1_pass, d, 0, 0) 0 [(0, .ref 31), (1, .ref 14), (2, .ref 20), (3, .int x3), (4, .int x4), (5, .int x5)] [] (hp σ) 0 0 (kV k)
  refine j_aload_n (pc := 0) dX1_pass_0 rfl ?_
  refine j_iload_n (pc := 1) dX1_pass_1 rfl ?_
  refine s_put (pc := 2) 1984 dX1_pass_2 fl_X1_9 shp_31 rfl rfl fp_1_0 rfl rfl ?_
  refine j_aload_n (pc := 5) dX1_pass_5 rfl ?_
  refine j_iload (pc := 6) dX1_pass_6 rfl ?_
  refine s_put (pc := 8) 1985 dX1_pass_8 fl_X1_15 shp_31 rfl rfl fp_1_1 rfl rfl ?_
  refine j_aload_n (pc := 11) dX1_pass_11 rfl ?_
  refine j_iconst (pc := 12) (v := 0) dX1_pass_12 (by decide) ?_
  refine s_put (pc := 13) 1986 dX1_pass_13 fl_X1_18 shp_31 rfl rfl fp_1_2 rfl rfl ?_
  refine j_aload_n (pc := 16) dX1_pass_16 rfl ?_
  refine j_aload_n (pc := 17) dX1_pass_17 rfl ?_
  refine j_aload_n (pc := 18) dX1_pass_18 rfl ?_
  refine s_geti (pc := 19) 1985 x5 dX1_pass_19 fl_X1_15 shp_31 rfl rfl rfl ?_
  refine s_callV_v (pc := 22) (M1 := M_X9_list) (n := 2) (as := [.ref 14, .int x5]) (a := 20) (st := []) dX1_pass_22 G_X9_list wm_X1_24 (by decide +kernel) rfl (Nat.le_of_ble_eq_true rfl) shp_20 rfl (by show 1 ≤ d; omega) (Nat.le_of_ble_eq_true rfl) (Nat.zero_le _) (Nat.zero_le _) ?_
  refine CV.mono H (fun σ1 H => ?_)
  refine j_aload_n (pc := 25) dX1_pass_25 rfl ?_
  refine j_aload_n (pc := 26) dX1_pass_26 rfl ?_
  refine s_geti (pc := 27) 1283 (rg σ1 1283) dX1_pass_27 fl_X1_30 shp_20 rfl rfl rfl ?_
  refine j_if_ne (pc := 30) (t := 37) dX1_pass_30 (by decide) (fun c30 => ?_) (fun c30 => ?_)
  · replace H := H.1 c30
    refine j_bipush (pc := 37) (v := -2) dX1_pass_37 (by decide) ?_
    refine s_put (pc := 39) 1987 dX1_pass_39 fl_X1_21 shp_31 rfl rfl fp_1_3 rfl rfl ?_
    refine j_iconst (pc := 42) (v := 1) dX1_pass_42 (by decide) ?_
    refine j_istore (pc := 43) (lv1 := [(6, .int 1), (0, .ref 31), (1, .ref 14), (2, .ref 20), (3, .int x3), (4, .int x4), (5, .int x5)]) dX1_pass_43 (Nat.le_of_ble_eq_true rfl) rfl ?_
    refine j_sub [1, 2, 3, 4, 5, 6, 0] rfl ?_
    exact H
  · replace H := H.2 c30
    refine j_iconst (pc := 33) (v := 0) dX1_pass_33 (by decide) ?_
    refine j_goto (pc := 34) (t := 39) dX1_pass_34 (by decide) ?_
    refine s_put (pc := 39) 1987 dX1_pass_39 fl_X1_21 shp_31 rfl rfl fp_1_3 rfl rfl ?_
    refine j_iconst (pc := 42) (v := 1) dX1_pass_42 (by decide) ?_
    refine j_istore (pc := 43) (lv1 := [(6, .int 1), (0, .ref 31), (1, .ref 14), (2, .ref 20), (3, .int x3), (4, .int x4), (5, .int x5)]) dX1_pass_43 (Nat.le_of_ble_eq_true rfl) rfl ?_
    refine j_sub [1, 2, 3, 4, 5, 6, 0] rfl ?_
    exact H
set_option maxRecDepth 20000 in
theorem b_X1_pass_45 {l : Launch} {g : am_G} {d : Nat} {σ : am_S} {k : am_S → Prop}  {x3 x4 x5 x6 : Int32} (hd : 1 ≤ d) (H : ((x4 < x6 → k σ) ∧ (¬ x4 < x6 → CI l g M_X1_tryOne (d - 1) [.ref 31, .ref 14, .ref 20] σ (fun r1 σ1 => ((r1 = 0 → JV l g M_X1_pass d 45 [(0, .ref 31), (1, .ref 14), (2, .ref 20), (3, .int x3), (4, .int x4), (5, .int x5), (6, .int (x6 + 1))] [] σ1 k) ∧ (¬ r1 = 0 → ((¬ rg σ1 1987 = (-2) → JV l g M_X1_pass d 45 [(0, .ref 31), (1, .ref 14), (2, .ref 20), (3, .int x3), (4, .int x4), (5, .int x5), (6, .int (x6 + 1))] [] σ1 k) ∧ (rg σ1 1987 = (-2) → CV l g M_X9_list (d - 1) [.ref 20, .ref 14, .int (rg σ1 1985)] σ1 (fun σ2 => ((¬ rg σ2 1283 = 0 → JV l g M_X1_pass d 45 [(0, .ref 31), (1, .ref 14), (2, .ref 20), (3, .int x3), (4, .int x4), (5, .int x5), (6, .int (x6 + 1))] [] (sR σ2 1987 (-2)) k) ∧ (rg σ2 1283 = 0 → JV l g M_X1_pass d 45 [(0, .ref 31), (1, .ref 14), (2, .ref 20), (3, .int x3), (4, .int x4), (5, .int x5), (6, .int (x6 + 1))] [] (sR σ2 1987 x6) k))))))))))) : JV l g M_X1_pass d 45 [(0, .ref 31), (1, .ref 14), (2, .ref 20), (3, .int x3), (4, .int x4), (5, .int x5), (6, .int x6)] [] σ k := by
  show J l g (M_X1_pass, d, 0, 0) 45 [(0, .ref 31), (1, .ref 14), (2, .ref 20), (3, .int x3), (4, .int x4), (5, .int x5), (6, .int x6)] [] (hp σ) 0 0 (kV k)
  refine j_iload (pc := 45) dX1_pass_45 rfl ?_
  refine j_iload (pc := 47) dX1_pass_47 rfl ?_
  refine j_icmp_gt (pc := 49) (t := 103) dX1_pass_49 (by decide) (fun c49 => ?_) (fun c49 => ?_)
  · replace H := H.1 c49
    exact s_vret (pc := 103) dX1_pass_103 rfl H
  · replace H := H.2 c49
    refine j_aload_n (pc := 52) dX1_pass_52 rfl ?_
    refine j_aload_n (pc := 53) dX1_pass_53 rfl ?_
    refine j_aload_n (pc := 54) dX1_pass_54 rfl ?_
    refine s_callV_i (pc := 55) (M1 := M_X1_tryOne) (n := 2) (as := [.ref 14, .ref 20]) (a := 31) (st := []) dX1_pass_55 G_X1_tryOne wm_X1_33 (by decide +kernel) rfl (Nat.le_of_ble_eq_true rfl) shp_31 rfl (by show 1 ≤ d; omega) (Nat.le_of_ble_eq_true rfl) (Nat.zero_le _) (Nat.zero_le _) ?_
    refine CI.mono H (fun r1 σ1 H => ?_)
    refine j_if_eq (pc := 58) (t := 97) dX1_pass_58 (by decide) (fun c58 => ?_) (fun c58 => ?_)
    · replace H := H.1 c58
      refine j_iinc (pc := 97) (k := 6) (v := x6 + 1) (lv1 := [(6, .int (x6 + 1)), (0, .ref 31), (1, .ref 14), (2, .ref 20), (3, .int x3), (4, .int x4), (5, .int x5)]) dX1_pass_97 rfl rfl (Nat.le_of_ble_eq_true rfl) rfl ?_
      refine j_goto (pc := 100) (t := 45) dX1_pass_100 (by decide) ?_
      refine j_sub [1, 2, 3, 4, 5, 6, 0] rfl ?_
      exact H
    · replace H := H.2 c58
      refine j_aload_n (pc := 61) dX1_pass_61 rfl ?_
      refine s_geti (pc := 62) 1987 (rg σ1 1987) dX1_pass_62 fl_X1_21 shp_31 rfl rfl rfl ?_
      refine j_bipush (pc := 65) (v := -2) dX1_pass_65 (by decide) ?_
      refine j_icmp_ne (pc := 67) (t := 97) dX1_pass_67 (by decide) (fun c67 => ?_) (fun c67 => ?_)
      · replace H := H.1 c67
        refine j_iinc (pc := 97) (k := 6) (v := x6 + 1) (lv1 := [(6, .int (x6 + 1)), (0, .ref 31), (1, .ref 14), (2, .ref 20), (3, .int x3), (4, .int x4), (5, .int x5)]) dX1_pass_97 rfl rfl (Nat.le_of_ble_eq_true rfl) rfl ?_
        refine j_goto (pc := 100) (t := 45) dX1_pass_100 (by decide) ?_
        refine j_sub [1, 2, 3, 4, 5, 6, 0] rfl ?_
        exact H
      · replace H := H.2 c67
        refine j_aload_n (pc := 70) dX1_pass_70 rfl ?_
        refine j_aload_n (pc := 71) dX1_pass_71 rfl ?_
        refine j_aload_n (pc := 72) dX1_pass_72 rfl ?_
        refine s_geti (pc := 73) 1985 (rg σ1 1985) dX1_pass_73 fl_X1_15 shp_31 rfl rfl rfl ?_
        refine s_callV_v (pc := 76) (M1 := M_X9_list) (n := 2) (as := [.ref 14, .int (rg σ1 1985)]) (a := 20) (st := []) dX1_pass_76 G_X9_list wm_X1_24 (by decide +kernel) rfl (Nat.le_of_ble_eq_true rfl) shp_20 rfl (by show 1 ≤ d; omega) (Nat.le_of_ble_eq_true rfl) (Nat.zero_le _) (Nat.zero_le _) ?_
        refine CV.mono H (fun σ2 H => ?_)
        refine j_aload_n (pc := 79) dX1_pass_79 rfl ?_
        refine j_aload_n (pc := 80) dX1_pass_80 rfl ?_
        refine s_geti (pc := 81) 1283 (rg σ2 1283) dX1_pass_81 fl_X1_30 shp_20 rfl rfl rfl ?_
        refine j_if_ne (pc := 84) (t := 92) dX1_pass_84 (by decide) (fun c84 => ?_) (fun c84 => ?_)
        · replace H := H.1 c84
          refine j_bipush (pc := 92) (v := -2) dX1_pass_92 (by decide) ?_
          refine s_put (pc := 94) 1987 dX1_pass_94 fl_X1_21 shp_31 rfl rfl fp_1_3 rfl rfl ?_
          refine j_iinc (pc := 97) (k := 6) (v := x6 + 1) (lv1 := [(6, .int (x6 + 1)), (0, .ref 31), (1, .ref 14), (2, .ref 20), (3, .int x3), (4, .int x4), (5, .int x5)]) dX1_pass_97 rfl rfl (Nat.le_of_ble_eq_true rfl) rfl ?_
          refine j_goto (pc := 100) (t := 45) dX1_pass_100 (by decide) ?_
          refine j_sub [1, 2, 3, 4, 5, 6, 0] rfl ?_
          exact H
        · replace H := H.2 c84
          refine j_iload (pc := 87) dX1_pass_87 rfl ?_
          refine j_goto (pc := 89) (t := 94) dX1_pass_89 (by decide) ?_
          refine s_put (pc := 94) 1987 dX1_pass_94 fl_X1_21 shp_31 rfl rfl fp_1_3 rfl rfl ?_
          refine j_iinc (pc := 97) (k := 6) (v := x6 + 1) (lv1 := [(6, .int (x6 + 1)), (0, .ref 31), (1, .ref 14), (2, .ref 20), (3, .int x3), (4, .int x4), (5, .int x5)]) dX1_pass_97 rfl rfl (Nat.le_of_ble_eq_true rfl) rfl ?_
          refine j_goto (pc := 100) (t := 45) dX1_pass_100 (by decide) ?_
          refine j_sub [1, 2, 3, 4, 5, 6, 0] rfl ?_
          exact H
set_option maxRecDepth 20000 in
theorem C_X2_hasRoom {l : Launch} {g : am_G} {d : Nat} {σ : am_S} {k : Int32 → am_S → Prop}  {x1 : Int32} (hd : 0 ≤ d) (H : ((¬ x1 < 0 ∧ ¬ rg σ 64 ≤ x1) → k 1 σ) ∧ (¬ (¬ x1 < 0 ∧ ¬ rg σ 64 ≤ x1) → k 0 σ)) : CI l g M_X2_hasRoom d [.ref 1, .int x1] σ k := by
  show J l g (M_X2_hasRoom, d, 0, 0) 0 [(0, .ref 1), (1, .int x1)] [] (hp σ) 0 0 (kI k)
  refine j_iload_n (pc := 0) dX2_hasRoom_0 rfl ?_
  refine j_if_lt (pc := 1) (t := 16) dX2_hasRoom_1 (by decide) (fun c1 => ?_) (fun c1 => ?_)
  · skip
    refine j_iconst (pc := 16) (v := 0) dX2_hasRoom_16 (by decide) ?_
    exact s_iretz (pc := 17) dX2_hasRoom_17 rfl rfl (H.2 (fun q => (q.1) c1))
  · skip
    refine j_iload_n (pc := 4) dX2_hasRoom_4 rfl ?_
    refine j_aload_n (pc := 5) dX2_hasRoom_5 rfl ?_
    refine s_geti (pc := 6) 64 (rg σ 64) dX2_hasRoom_6 fl_X2_9 shp_1 rfl rfl rfl ?_
    refine j_icmp_ge (pc := 9) (t := 16) dX2_hasRoom_9 (by decide) (fun c9 => ?_) (fun c9 => ?_)
    · skip
      refine j_iconst (pc := 16) (v := 0) dX2_hasRoom_16 (by decide) ?_
      exact s_iretz (pc := 17) dX2_hasRoom_17 rfl rfl (H.2 (fun q => (q.2) c9))
    · skip
      refine j_iconst (pc := 12) (v := 1) dX2_hasRoom_12 (by decide) ?_
      refine j_goto (pc := 13) (t := 17) dX2_hasRoom_13 (by decide) ?_
      exact s_iretz (pc := 17) dX2_hasRoom_17 rfl rfl (H.1 ⟨c1, c9⟩)
set_option maxRecDepth 20000 in
theorem C_X2_hasDoor {l : Launch} {g : am_G} {d : Nat} {σ : am_S} {k : Int32 → am_S → Prop}  {x1 : Int32} (hd : 0 ≤ d) (H : ((¬ x1 < 0 ∧ ¬ rg σ 65 ≤ x1) → k 1 σ) ∧ (¬ (¬ x1 < 0 ∧ ¬ rg σ 65 ≤ x1) → k 0 σ)) : CI l g M_X2_hasDoor d [.ref 1, .int x1] σ k := by
  show J l g (M_X2_hasDoor, d, 0, 0) 0 [(0, .ref 1), (1, .int x1)] [] (hp σ) 0 0 (kI k)
  refine j_iload_n (pc := 0) dX2_hasDoor_0 rfl ?_
  refine j_if_lt (pc := 1) (t := 16) dX2_hasDoor_1 (by decide) (fun c1 => ?_) (fun c1 => ?_)
  · skip
    refine j_iconst (pc := 16) (v := 0) dX2_hasDoor_16 (by decide) ?_
    exact s_iretz (pc := 17) dX2_hasDoor_17 rfl rfl (H.2 (fun q => (q.1) c1))
  · skip
    refine j_iload_n (pc := 4) dX2_hasDoor_4 rfl ?_
    refine j_aload_n (pc := 5) dX2_hasDoor_5 rfl ?_
    refine s_geti (pc := 6) 65 (rg σ 65) dX2_hasDoor_6 fl_X2_15 shp_1 rfl rfl rfl ?_
    refine j_icmp_ge (pc := 9) (t := 16) dX2_hasDoor_9 (by decide) (fun c9 => ?_) (fun c9 => ?_)
    · skip
      refine j_iconst (pc := 16) (v := 0) dX2_hasDoor_16 (by decide) ?_
      exact s_iretz (pc := 17) dX2_hasDoor_17 rfl rfl (H.2 (fun q => (q.2) c9))
    · skip
      refine j_iconst (pc := 12) (v := 1) dX2_hasDoor_12 (by decide) ?_
      refine j_goto (pc := 13) (t := 17) dX2_hasDoor_13 (by decide) ?_
      exact s_iretz (pc := 17) dX2_hasDoor_17 rfl rfl (H.1 ⟨c1, c9⟩)
set_option maxRecDepth 20000 in
theorem C_X2_hasPerson {l : Launch} {g : am_G} {d : Nat} {σ : am_S} {k : Int32 → am_S → Prop}  {x1 : Int32} (hd : 0 ≤ d) (H : ((¬ x1 < 0 ∧ ¬ rg σ 66 ≤ x1) → k 1 σ) ∧ (¬ (¬ x1 < 0 ∧ ¬ rg σ 66 ≤ x1) → k 0 σ)) : CI l g M_X2_hasPerson d [.ref 1, .int x1] σ k := by
  show J l g (M_X2_hasPerson, d, 0, 0) 0 [(0, .ref 1), (1, .int x1)] [] (hp σ) 0 0 (kI k)
  refine j_iload_n (pc := 0) dX2_hasPerson_0 rfl ?_
  refine j_if_lt (pc := 1) (t := 16) dX2_hasPerson_1 (by decide) (fun c1 => ?_) (fun c1 => ?_)
  · skip
    refine j_iconst (pc := 16) (v := 0) dX2_hasPerson_16 (by decide) ?_
    exact s_iretz (pc := 17) dX2_hasPerson_17 rfl rfl (H.2 (fun q => (q.1) c1))
  · skip
    refine j_iload_n (pc := 4) dX2_hasPerson_4 rfl ?_
    refine j_aload_n (pc := 5) dX2_hasPerson_5 rfl ?_
    refine s_geti (pc := 6) 66 (rg σ 66) dX2_hasPerson_6 fl_X2_18 shp_1 rfl rfl rfl ?_
    refine j_icmp_ge (pc := 9) (t := 16) dX2_hasPerson_9 (by decide) (fun c9 => ?_) (fun c9 => ?_)
    · skip
      refine j_iconst (pc := 16) (v := 0) dX2_hasPerson_16 (by decide) ?_
      exact s_iretz (pc := 17) dX2_hasPerson_17 rfl rfl (H.2 (fun q => (q.2) c9))
    · skip
      refine j_iconst (pc := 12) (v := 1) dX2_hasPerson_12 (by decide) ?_
      refine j_goto (pc := 13) (t := 17) dX2_hasPerson_13 (by decide) ?_
      exact s_iretz (pc := 17) dX2_hasPerson_17 rfl rfl (H.1 ⟨c1, c9⟩)
set_option maxRecDepth 20000 in
theorem b_X2_canBecome_0 {l : Launch} {g : am_G} {d : Nat} {σ : am_S} {k : Int32 → am_S → Prop}  {x0 x1 : Int32} (H : (((x0.toInt < 0 ∨ 3 < x0.toInt) → k 0 σ) ∧ (x0 = 0 → ((x1 < 1 → k 0 σ) ∧ (¬ x1 < 1 → ((99 < x1 → k 0 σ) ∧ (¬ 99 < x1 → k 1 σ))))) ∧ (x0 = 1 → ((x1 < 0 → k 0 σ) ∧ (¬ x1 < 0 → ((9 < x1 → k 0 σ) ∧ (¬ 9 < x1 → k 1 σ))))) ∧ (x0 = 2 → ((x1 < 0 → k 0 σ) ∧ (¬ x1 < 0 → ((3 ≤ x1 → k 0 σ) ∧ (¬ 3 ≤ x1 → k 1 σ))))) ∧ (x0 = 3 → ((x1 < 0 → k 0 σ) ∧ (¬ x1 < 0 → ((20 < x1 → k 0 σ) ∧ (¬ 20 < x1 → k 1 σ))))))) : CI l g M_X2_canBecome d [.int x0, .int x1] σ k := by
  show J l g (M_X2_canBecome, d, 0, 0) 0 [(0, .int x0), (1, .int x1)] [] (hp σ) 0 0 (kI k)
  refine j_iload_n (pc := 0) dX2_canBecome_0 rfl ?_
  rcases sw_cases x0 0 3 with c1 | c1
  · replace H := H.1 c1
    refine j_tableOut (pc := 1) (t := 96) dX2_canBecome_1 c1 (by decide) ?_
    refine j_iconst (pc := 96) (v := 0) dX2_canBecome_96 (by decide) ?_
    exact s_iretz (pc := 97) dX2_canBecome_97 rfl rfl H
  · replace H := H.2
    by_cases c1_0 : x0 = 0
    · replace H := H.1 c1_0
      refine j_tableIn (pc := 1) (t := 32) (off := 31) dX2_canBecome_1 (by rw [c1_0]; decide) (by rw [c1_0]; decide) (by rw [c1_0]; rfl) (by decide) ?_
      refine j_iload_n (pc := 32) dX2_canBecome_32 rfl ?_
      refine j_iconst (pc := 33) (v := 1) dX2_canBecome_33 (by decide) ?_
      refine j_icmp_lt (pc := 34) (t := 47) dX2_canBecome_34 (by decide) (fun c34 => ?_) (fun c34 => ?_)
      · replace H := H.1 c34
        refine j_iconst (pc := 47) (v := 0) dX2_canBecome_47 (by decide) ?_
        exact s_iretz (pc := 48) dX2_canBecome_48 rfl rfl H
      · replace H := H.2 c34
        refine j_iload_n (pc := 37) dX2_canBecome_37 rfl ?_
        refine j_bipush (pc := 38) (v := 99) dX2_canBecome_38 (by decide) ?_
        refine j_icmp_gt (pc := 40) (t := 47) dX2_canBecome_40 (by decide) (fun c40 => ?_) (fun c40 => ?_)
        · replace H := H.1 c40
          refine j_iconst (pc := 47) (v := 0) dX2_canBecome_47 (by decide) ?_
          exact s_iretz (pc := 48) dX2_canBecome_48 rfl rfl H
        · replace H := H.2 c40
          refine j_iconst (pc := 43) (v := 1) dX2_canBecome_43 (by decide) ?_
          refine j_goto (pc := 44) (t := 48) dX2_canBecome_44 (by decide) ?_
          exact s_iretz (pc := 48) dX2_canBecome_48 rfl rfl H
    by_cases c1_1 : x0 = 1
    · replace H := H.2.1 c1_1
      refine j_tableIn (pc := 1) (t := 49) (off := 48) dX2_canBecome_1 (by rw [c1_1]; decide) (by rw [c1_1]; decide) (by rw [c1_1]; rfl) (by decide) ?_
      refine j_iload_n (pc := 49) dX2_canBecome_49 rfl ?_
      refine j_if_lt (pc := 50) (t := 63) dX2_canBecome_50 (by decide) (fun c50 => ?_) (fun c50 => ?_)
      · replace H := H.1 c50
        refine j_iconst (pc := 63) (v := 0) dX2_canBecome_63 (by decide) ?_
        exact s_iretz (pc := 64) dX2_canBecome_64 rfl rfl H
      · replace H := H.2 c50
        refine j_iload_n (pc := 53) dX2_canBecome_53 rfl ?_
        refine j_bipush (pc := 54) (v := 9) dX2_canBecome_54 (by decide) ?_
        refine j_icmp_gt (pc := 56) (t := 63) dX2_canBecome_56 (by decide) (fun c56 => ?_) (fun c56 => ?_)
        · replace H := H.1 c56
          refine j_iconst (pc := 63) (v := 0) dX2_canBecome_63 (by decide) ?_
          exact s_iretz (pc := 64) dX2_canBecome_64 rfl rfl H
        · replace H := H.2 c56
          refine j_iconst (pc := 59) (v := 1) dX2_canBecome_59 (by decide) ?_
          refine j_goto (pc := 60) (t := 64) dX2_canBecome_60 (by decide) ?_
          exact s_iretz (pc := 64) dX2_canBecome_64 rfl rfl H
    by_cases c1_2 : x0 = 2
    · replace H := H.2.2.1 c1_2
      refine j_tableIn (pc := 1) (t := 65) (off := 64) dX2_canBecome_1 (by rw [c1_2]; decide) (by rw [c1_2]; decide) (by rw [c1_2]; rfl) (by decide) ?_
      refine j_iload_n (pc := 65) dX2_canBecome_65 rfl ?_
      refine j_if_lt (pc := 66) (t := 78) dX2_canBecome_66 (by decide) (fun c66 => ?_) (fun c66 => ?_)
      · replace H := H.1 c66
        refine j_iconst (pc := 78) (v := 0) dX2_canBecome_78 (by decide) ?_
        exact s_iretz (pc := 79) dX2_canBecome_79 rfl rfl H
      · replace H := H.2 c66
        refine j_iload_n (pc := 69) dX2_canBecome_69 rfl ?_
        refine j_iconst (pc := 70) (v := 3) dX2_canBecome_70 (by decide) ?_
        refine j_icmp_ge (pc := 71) (t := 78) dX2_canBecome_71 (by decide) (fun c71 => ?_) (fun c71 => ?_)
        · replace H := H.1 c71
          refine j_iconst (pc := 78) (v := 0) dX2_canBecome_78 (by decide) ?_
          exact s_iretz (pc := 79) dX2_canBecome_79 rfl rfl H
        · replace H := H.2 c71
          refine j_iconst (pc := 74) (v := 1) dX2_canBecome_74 (by decide) ?_
          refine j_goto (pc := 75) (t := 79) dX2_canBecome_75 (by decide) ?_
          exact s_iretz (pc := 79) dX2_canBecome_79 rfl rfl H
    by_cases c1_3 : x0 = 3
    · replace H := H.2.2.2 c1_3
      refine j_tableIn (pc := 1) (t := 80) (off := 79) dX2_canBecome_1 (by rw [c1_3]; decide) (by rw [c1_3]; decide) (by rw [c1_3]; rfl) (by decide) ?_
      refine j_iload_n (pc := 80) dX2_canBecome_80 rfl ?_
      refine j_if_lt (pc := 81) (t := 94) dX2_canBecome_81 (by decide) (fun c81 => ?_) (fun c81 => ?_)
      · replace H := H.1 c81
        refine j_iconst (pc := 94) (v := 0) dX2_canBecome_94 (by decide) ?_
        exact s_iretz (pc := 95) dX2_canBecome_95 rfl rfl H
      · replace H := H.2 c81
        refine j_iload_n (pc := 84) dX2_canBecome_84 rfl ?_
        refine j_bipush (pc := 85) (v := 20) dX2_canBecome_85 (by decide) ?_
        refine j_icmp_gt (pc := 87) (t := 94) dX2_canBecome_87 (by decide) (fun c87 => ?_) (fun c87 => ?_)
        · replace H := H.1 c87
          refine j_iconst (pc := 94) (v := 0) dX2_canBecome_94 (by decide) ?_
          exact s_iretz (pc := 95) dX2_canBecome_95 rfl rfl H
        · replace H := H.2 c87
          refine j_iconst (pc := 90) (v := 1) dX2_canBecome_90 (by decide) ?_
          refine j_goto (pc := 91) (t := 95) dX2_canBecome_91 (by decide) ?_
          exact s_iretz (pc := 95) dX2_canBecome_95 rfl rfl H
    exact (sw_end_0_3 c1 c1_0 c1_1 c1_2 c1_3).elim
set_option maxRecDepth 20000 in
theorem b_X2_canCome_0 {l : Launch} {g : am_G} {d : Nat} {σ : am_S} {k : Int32 → am_S → Prop}  {x1 x2 : Int32} (hd : 1 ≤ d) (H : CI l g M_X2_canBecome (d - 1) [.int 0, .int x1] σ (fun r1 σ1 => ((r1 = 0 → k 0 σ1) ∧ (¬ r1 = 0 → (((¬ x2 < 0 ∧ ¬ rg σ1 64 ≤ x2) → k 1 σ1) ∧ (¬ (¬ x2 < 0 ∧ ¬ rg σ1 64 ≤ x2) → k 0 σ1)))))) : CI l g M_X2_canCome d [.ref 1, .int x1, .int x2] σ k := by
  show J l g (M_X2_canCome, d, 0, 0) 0 [(0, .ref 1), (1, .int x1), (2, .int x2)] [] (hp σ) 0 0 (kI k)
  refine j_iconst (pc := 0) (v := 0) dX2_canCome_0 (by decide) ?_
  refine j_iload_n (pc := 1) dX2_canCome_1 rfl ?_
  refine s_callS_i (pc := 2) (M1 := M_X2_canBecome) (n := 2) (as := [.int 0, .int x1]) (st := []) dX2_canCome_2 G_X2_canBecome wm_X2_46 (by decide +kernel) rfl (Nat.le_of_ble_eq_true rfl) (by show 1 ≤ d; omega) (Nat.le_of_ble_eq_true rfl) ?_
  refine CI.mono H (fun r1 σ1 H => ?_)
  refine j_if_eq (pc := 5) (t := 20) dX2_canCome_5 (by decide) (fun c5 => ?_) (fun c5 => ?_)
  · replace H := H.1 c5
    refine j_iconst (pc := 20) (v := 0) dX2_canCome_20 (by decide) ?_
    exact s_iretz (pc := 21) dX2_canCome_21 rfl rfl H
  · replace H := H.2 c5
    refine j_aload_n (pc := 8) dX2_canCome_8 rfl ?_
    refine j_iload_n (pc := 9) dX2_canCome_9 rfl ?_
    refine s_callV_i (pc := 10) (M1 := M_X2_hasRoom) (n := 1) (as := [.int x2]) (a := 1) (st := []) dX2_canCome_10 G_X2_hasRoom wm_X2_50 (by decide +kernel) rfl (Nat.le_of_ble_eq_true rfl) shp_1 rfl (by show 1 ≤ d; omega) (Nat.le_of_ble_eq_true rfl) (Nat.zero_le _) (Nat.zero_le _) ?_
    refine C_X2_hasRoom (d := d - 1) (by omega) ⟨fun c10 => ?_, fun c10 => ?_⟩
    · replace H := H.1 c10
      refine j_if_eq (pc := 13) (t := 20) dX2_canCome_13 (by decide) (fun q => absurd q (by decide)) (fun _ => ?_)
      refine j_iconst (pc := 16) (v := 1) dX2_canCome_16 (by decide) ?_
      refine j_goto (pc := 17) (t := 21) dX2_canCome_17 (by decide) ?_
      exact s_iretz (pc := 21) dX2_canCome_21 rfl rfl H
    · replace H := H.2 c10
      refine j_if_eq (pc := 13) (t := 20) dX2_canCome_13 (by decide) (fun _ => ?_) (fun q => absurd q (by decide))
      refine j_iconst (pc := 20) (v := 0) dX2_canCome_20 (by decide) ?_
      exact s_iretz (pc := 21) dX2_canCome_21 rfl rfl H
set_option maxRecDepth 20000 in
theorem b_X2_addDoor_0 {l : Launch} {g : am_G} {d : Nat} {σ : am_S} {k : Int32 → am_S → Prop}  {x1 x2 x3 : Int32} (H : ((rg σ 65 < 5 → (vp_in (rg σ 65) 5 ∧ (vp_in (rg σ 65) 5 ∧ (vp_in (rg σ 65) 5 ∧ k (((rg σ 65) + 1) - 1) (sR (sA (sA (sA σ 2 ((rg σ 65).toNatClampNeg) x1) 3 ((rg σ 65).toNatClampNeg) x2) 4 ((rg σ 65).toNatClampNeg) x3) 65 ((rg σ 65) + 1)))))) ∧ (¬ rg σ 65 < 5 → k (-3) σ))) : CI l g M_X2_addDoor d [.ref 1, .int x1, .int x2, .int x3] σ k := by
  show J l g (M_X2_addDoor, d, 0, 0) 0 [(0, .ref 1), (1, .int x1), (2, .int x2), (3, .int x3)] [] (hp σ) 0 0 (kI k)
  refine j_aload_n (pc := 0) dX2_addDoor_0 rfl ?_
  refine s_geti (pc := 1) 65 (rg σ 65) dX2_addDoor_1 fl_X2_15 shp_1 rfl rfl rfl ?_
  refine j_iconst (pc := 4) (v := 5) dX2_addDoor_4 (by decide) ?_
  refine j_icmp_lt (pc := 5) (t := 11) dX2_addDoor_5 (by decide) (fun c5 => ?_) (fun c5 => ?_)
  · replace H := H.1 c5
    refine j_aload_n (pc := 11) dX2_addDoor_11 rfl ?_
    refine s_getr (pc := 12) dX2_addDoor_12 fl_X2_27 shp_1 rfl ?_
    refine j_aload_n (pc := 15) dX2_addDoor_15 rfl ?_
    refine s_geti (pc := 16) 65 (rg σ 65) dX2_addDoor_16 fl_X2_15 shp_1 rfl rfl rfl ?_
    refine j_iload_n (pc := 19) dX2_addDoor_19 rfl ?_
    have b20 := H.1
    replace H := H.2
    refine s_iast (pc := 20) dX2_addDoor_20 shp_2 b20 ?_
    refine j_aload_n (pc := 21) dX2_addDoor_21 rfl ?_
    refine s_getr (pc := 22) dX2_addDoor_22 fl_X2_31 shp_1 rfl ?_
    refine j_aload_n (pc := 25) dX2_addDoor_25 rfl ?_
    refine s_geti (pc := 26) 65 (rg σ 65) dX2_addDoor_26 fl_X2_15 shp_1 rfl rfl rfl ?_
    refine j_iload_n (pc := 29) dX2_addDoor_29 rfl ?_
    have b30 := H.1
    replace H := H.2
    refine s_iast (pc := 30) dX2_addDoor_30 shp_3 b30 ?_
    refine j_aload_n (pc := 31) dX2_addDoor_31 rfl ?_
    refine s_getr (pc := 32) dX2_addDoor_32 fl_X2_34 shp_1 rfl ?_
    refine j_aload_n (pc := 35) dX2_addDoor_35 rfl ?_
    refine s_geti (pc := 36) 65 (rg σ 65) dX2_addDoor_36 fl_X2_15 shp_1 rfl rfl rfl ?_
    refine j_iload_n (pc := 39) dX2_addDoor_39 rfl ?_
    have b40 := H.1
    replace H := H.2
    refine s_iast (pc := 40) dX2_addDoor_40 shp_4 b40 ?_
    refine j_aload_n (pc := 41) dX2_addDoor_41 rfl ?_
    refine j_dup (pc := 42) dX2_addDoor_42 rfl ?_
    refine s_geti (pc := 43) 65 (rg σ 65) dX2_addDoor_43 fl_X2_15 shp_1 rfl rfl rfl ?_
    refine j_iconst (pc := 46) (v := 1) dX2_addDoor_46 (by decide) ?_
    refine j_iadd (pc := 47) dX2_addDoor_47 ?_
    refine s_put (pc := 48) 65 dX2_addDoor_48 fl_X2_15 shp_1 rfl rfl fp_2_1 rfl rfl ?_
    refine j_aload_n (pc := 51) dX2_addDoor_51 rfl ?_
    refine s_geti (pc := 52) 65 ((rg σ 65) + 1) dX2_addDoor_52 fl_X2_15 shp_1 rfl rfl rfl ?_
    refine j_iconst (pc := 55) (v := 1) dX2_addDoor_55 (by decide) ?_
    refine j_isub (pc := 56) dX2_addDoor_56 ?_
    exact s_ireti (pc := 57) dX2_addDoor_57 rfl H
  · replace H := H.2 c5
    refine j_bipush (pc := 8) (v := -3) dX2_addDoor_8 (by decide) ?_
    exact s_ireti (pc := 10) dX2_addDoor_10 rfl H
set_option maxRecDepth 20000 in
theorem b_X2_addPerson_0 {l : Launch} {g : am_G} {d : Nat} {σ : am_S} {k : Int32 → am_S → Prop}  {x1 x2 : Int32} (H : ((rg σ 66 < 7 → (vp_in (rg σ 66) 7 ∧ (vp_in (rg σ 66) 7 ∧ k (((rg σ 66) + 1) - 1) (sR (sA (sA σ 5 ((rg σ 66).toNatClampNeg) x1) 7 ((rg σ 66).toNatClampNeg) x2) 66 ((rg σ 66) + 1))))) ∧ (¬ rg σ 66 < 7 → k (-3) σ))) : CI l g M_X2_addPerson d [.ref 1, .int x1, .int x2] σ k := by
  show J l g (M_X2_addPerson, d, 0, 0) 0 [(0, .ref 1), (1, .int x1), (2, .int x2)] [] (hp σ) 0 0 (kI k)
  refine j_aload_n (pc := 0) dX2_addPerson_0 rfl ?_
  refine s_geti (pc := 1) 66 (rg σ 66) dX2_addPerson_1 fl_X2_18 shp_1 rfl rfl rfl ?_
  refine j_bipush (pc := 4) (v := 7) dX2_addPerson_4 (by decide) ?_
  refine j_icmp_lt (pc := 6) (t := 12) dX2_addPerson_6 (by decide) (fun c6 => ?_) (fun c6 => ?_)
  · replace H := H.1 c6
    refine j_aload_n (pc := 12) dX2_addPerson_12 rfl ?_
    refine s_getr (pc := 13) dX2_addPerson_13 fl_X2_37 shp_1 rfl ?_
    refine j_aload_n (pc := 16) dX2_addPerson_16 rfl ?_
    refine s_geti (pc := 17) 66 (rg σ 66) dX2_addPerson_17 fl_X2_18 shp_1 rfl rfl rfl ?_
    refine j_iload_n (pc := 20) dX2_addPerson_20 rfl ?_
    have b21 := H.1
    replace H := H.2
    refine s_iast (pc := 21) dX2_addPerson_21 shp_5 b21 ?_
    refine j_aload_n (pc := 22) dX2_addPerson_22 rfl ?_
    refine s_getr (pc := 23) dX2_addPerson_23 fl_X2_43 shp_1 rfl ?_
    refine j_aload_n (pc := 26) dX2_addPerson_26 rfl ?_
    refine s_geti (pc := 27) 66 (rg σ 66) dX2_addPerson_27 fl_X2_18 shp_1 rfl rfl rfl ?_
    refine j_iload_n (pc := 30) dX2_addPerson_30 rfl ?_
    have b31 := H.1
    replace H := H.2
    refine s_iast (pc := 31) dX2_addPerson_31 shp_7 b31 ?_
    refine j_aload_n (pc := 32) dX2_addPerson_32 rfl ?_
    refine j_dup (pc := 33) dX2_addPerson_33 rfl ?_
    refine s_geti (pc := 34) 66 (rg σ 66) dX2_addPerson_34 fl_X2_18 shp_1 rfl rfl rfl ?_
    refine j_iconst (pc := 37) (v := 1) dX2_addPerson_37 (by decide) ?_
    refine j_iadd (pc := 38) dX2_addPerson_38 ?_
    refine s_put (pc := 39) 66 dX2_addPerson_39 fl_X2_18 shp_1 rfl rfl fp_2_2 rfl rfl ?_
    refine j_aload_n (pc := 42) dX2_addPerson_42 rfl ?_
    refine s_geti (pc := 43) 66 ((rg σ 66) + 1) dX2_addPerson_43 fl_X2_18 shp_1 rfl rfl rfl ?_
    refine j_iconst (pc := 46) (v := 1) dX2_addPerson_46 (by decide) ?_
    refine j_isub (pc := 47) dX2_addPerson_47 ?_
    exact s_ireti (pc := 48) dX2_addPerson_48 rfl H
  · replace H := H.2 c6
    refine j_bipush (pc := 9) (v := -3) dX2_addPerson_9 (by decide) ?_
    exact s_ireti (pc := 11) dX2_addPerson_11 rfl H
set_option maxRecDepth 20000 in
theorem b_X2_height_0 {l : Launch} {g : am_G} {d : Nat} {σ : am_S} {k : Int32 → am_S → Prop}  {x1 x2 x3 : Int32} (H : (vp_in x1 7 ∧ (vp_in x1 7 ∧ ((¬ x1 = x2 → k ((ar σ 5 x1.toNatClampNeg) + (x3 * (ar σ 6 x1.toNatClampNeg))) σ) ∧ (x1 = x2 → k (((ar σ 5 x1.toNatClampNeg) + (x3 * (ar σ 6 x1.toNatClampNeg))) + (rg σ 68)) σ))))) : CI l g M_X2_height d [.ref 1, .int x1, .int x2, .int x3] σ k := by
  show J l g (M_X2_height, d, 0, 0) 0 [(0, .ref 1), (1, .int x1), (2, .int x2), (3, .int x3)] [] (hp σ) 0 0 (kI k)
  refine j_aload_n (pc := 0) dX2_height_0 rfl ?_
  refine s_getr (pc := 1) dX2_height_1 fl_X2_37 shp_1 rfl ?_
  refine j_iload_n (pc := 4) dX2_height_4 rfl ?_
  have b5 := H.1
  replace H := H.2
  refine s_iald (pc := 5) (ar σ 5 x1.toNatClampNeg) dX2_height_5 shp_5 b5 rfl ?_
  refine j_iload_n (pc := 6) dX2_height_6 rfl ?_
  refine j_aload_n (pc := 7) dX2_height_7 rfl ?_
  refine s_getr (pc := 8) dX2_height_8 fl_X2_40 shp_1 rfl ?_
  refine j_iload_n (pc := 11) dX2_height_11 rfl ?_
  have b12 := H.1
  replace H := H.2
  refine s_iald (pc := 12) (ar σ 6 x1.toNatClampNeg) dX2_height_12 shp_6 b12 rfl ?_
  refine j_imul (pc := 13) dX2_height_13 ?_
  refine j_iadd (pc := 14) dX2_height_14 ?_
  refine j_istore (pc := 15) (lv1 := [(4, .int ((ar σ 5 x1.toNatClampNeg) + (x3 * (ar σ 6 x1.toNatClampNeg)))), (0, .ref 1), (1, .int x1), (2, .int x2), (3, .int x3)]) dX2_height_15 (Nat.le_of_ble_eq_true rfl) rfl ?_
  refine j_iload_n (pc := 17) dX2_height_17 rfl ?_
  refine j_iload_n (pc := 18) dX2_height_18 rfl ?_
  refine j_icmp_ne (pc := 19) (t := 32) dX2_height_19 (by decide) (fun c19 => ?_) (fun c19 => ?_)
  · replace H := H.1 c19
    refine j_iload (pc := 32) dX2_height_32 rfl ?_
    exact s_ireti (pc := 34) dX2_height_34 rfl H
  · replace H := H.2 c19
    refine j_iload (pc := 22) dX2_height_22 rfl ?_
    refine j_aload_n (pc := 24) dX2_height_24 rfl ?_
    refine s_geti (pc := 25) 68 (rg σ 68) dX2_height_25 fl_X2_24 shp_1 rfl rfl rfl ?_
    refine j_iadd (pc := 28) dX2_height_28 ?_
    refine j_goto (pc := 29) (t := 34) dX2_height_29 (by decide) ?_
    exact s_ireti (pc := 34) dX2_height_34 rfl H
set_option maxRecDepth 20000 in
theorem b_X2_whoIn_0 {l : Launch} {g : am_G} {d : Nat} {σ : am_S} {k : Int32 → am_S → Prop}  {x1 : Int32} (H : JI l g M_X2_whoIn d 4 [(0, .ref 1), (1, .int x1), (2, .int 0), (3, .int 0)] [] σ k) : CI l g M_X2_whoIn d [.ref 1, .int x1] σ k := by
  show J l g (M_X2_whoIn, d, 0, 0) 0 [(0, .ref 1), (1, .int x1)] [] (hp σ) 0 0 (kI k)
  refine j_iconst (pc := 0) (v := 0) dX2_whoIn_0 (by decide) ?_
  refine j_istore_n (pc := 1) (lv1 := [(2, .int 0), (0, .ref 1), (1, .int x1)]) dX2_whoIn_1 (Nat.le_of_ble_eq_true rfl) rfl ?_
  refine j_iconst (pc := 2) (v := 0) dX2_whoIn_2 (by decide) ?_
  refine j_istore_n (pc := 3) (lv1 := [(3, .int 0), (2, .int 0), (0, .ref 1), (1, .int x1)]) dX2_whoIn_3 (Nat.le_of_ble_eq_true rfl) rfl ?_
  refine j_sub [2, 3, 1, 0] rfl ?_
  exact H
set_option maxRecDepth 20000 in
theorem b_X2_whoIn_4 {l : Launch} {g : am_G} {d : Nat} {σ : am_S} {k : Int32 → am_S → Prop}  {x1 x2 x3 : Int32} (H : ((rg σ 66 ≤ x3 → k x2 σ) ∧ (¬ rg σ 66 ≤ x3 → (vp_in x3 7 ∧ ((¬ ar σ 7 x3.toNatClampNeg = x1 → JI l g M_X2_whoIn d 4 [(0, .ref 1), (1, .int x1), (2, .int x2), (3, .int (x3 + 1))] [] σ k) ∧ (ar σ 7 x3.toNatClampNeg = x1 → JI l g M_X2_whoIn d 4 [(0, .ref 1), (1, .int x1), (2, .int (x2 ||| ((1 : Int32) <<< (x3 &&& 31)))), (3, .int (x3 + 1))] [] σ k)))))) : JI l g M_X2_whoIn d 4 [(0, .ref 1), (1, .int x1), (2, .int x2), (3, .int x3)] [] σ k := by
  show J l g (M_X2_whoIn, d, 0, 0) 4 [(0, .ref 1), (1, .int x1), (2, .int x2), (3, .int x3)] [] (hp σ) 0 0 (kI k)
  refine j_iload_n (pc := 4) dX2_whoIn_4 rfl ?_
  refine j_aload_n (pc := 5) dX2_whoIn_5 rfl ?_
  refine s_geti (pc := 6) 66 (rg σ 66) dX2_whoIn_6 fl_X2_18 shp_1 rfl rfl rfl ?_
  refine j_icmp_ge (pc := 9) (t := 34) dX2_whoIn_9 (by decide) (fun c9 => ?_) (fun c9 => ?_)
  · replace H := H.1 c9
    refine j_iload_n (pc := 34) dX2_whoIn_34 rfl ?_
    exact s_ireti (pc := 35) dX2_whoIn_35 rfl H
  · replace H := H.2 c9
    refine j_aload_n (pc := 12) dX2_whoIn_12 rfl ?_
    refine s_getr (pc := 13) dX2_whoIn_13 fl_X2_43 shp_1 rfl ?_
    refine j_iload_n (pc := 16) dX2_whoIn_16 rfl ?_
    have b17 := H.1
    replace H := H.2
    refine s_iald (pc := 17) (ar σ 7 x3.toNatClampNeg) dX2_whoIn_17 shp_7 b17 rfl ?_
    refine j_iload_n (pc := 18) dX2_whoIn_18 rfl ?_
    refine j_icmp_ne (pc := 19) (t := 28) dX2_whoIn_19 (by decide) (fun c19 => ?_) (fun c19 => ?_)
    · replace H := H.1 c19
      refine j_iinc (pc := 28) (k := 3) (v := x3 + 1) (lv1 := [(3, .int (x3 + 1)), (0, .ref 1), (1, .int x1), (2, .int x2)]) dX2_whoIn_28 rfl rfl (Nat.le_of_ble_eq_true rfl) rfl ?_
      refine j_goto (pc := 31) (t := 4) dX2_whoIn_31 (by decide) ?_
      refine j_sub [1, 2, 3, 0] rfl ?_
      exact H
    · replace H := H.2 c19
      refine j_iload_n (pc := 22) dX2_whoIn_22 rfl ?_
      refine j_iconst (pc := 23) (v := 1) dX2_whoIn_23 (by decide) ?_
      refine j_iload_n (pc := 24) dX2_whoIn_24 rfl ?_
      refine j_ishl (pc := 25) dX2_whoIn_25 ?_
      refine j_ior (pc := 26) dX2_whoIn_26 ?_
      refine j_istore_n (pc := 27) (lv1 := [(2, .int (x2 ||| ((1 : Int32) <<< (x3 &&& 31)))), (0, .ref 1), (1, .int x1), (3, .int x3)]) dX2_whoIn_27 (Nat.le_of_ble_eq_true rfl) rfl ?_
      refine j_iinc (pc := 28) (k := 3) (v := x3 + 1) (lv1 := [(3, .int (x3 + 1)), (2, .int (x2 ||| ((1 : Int32) <<< (x3 &&& 31)))), (0, .ref 1), (1, .int x1)]) dX2_whoIn_28 rfl rfl (Nat.le_of_ble_eq_true rfl) rfl ?_
      refine j_goto (pc := 31) (t := 4) dX2_whoIn_31 (by decide) ?_
      refine j_sub [2, 3, 1, 0] rfl ?_
      exact H
set_option maxRecDepth 20000 in
theorem b_X2_arrangement_0 {l : Launch} {g : am_G} {d : Nat} {σ : am_S} {k : Int32 → am_S → Prop}   (H : JI l g M_X2_arrangement d 4 [(0, .ref 1), (1, .int 0), (2, .int 0)] [] σ k) : CI l g M_X2_arrangement d [.ref 1] σ k := by
  show J l g (M_X2_arrangement, d, 0, 0) 0 [(0, .ref 1)] [] (hp σ) 0 0 (kI k)
  refine j_iconst (pc := 0) (v := 0) dX2_arrangement_0 (by decide) ?_
  refine j_istore_n (pc := 1) (lv1 := [(1, .int 0), (0, .ref 1)]) dX2_arrangement_1 (Nat.le_of_ble_eq_true rfl) rfl ?_
  refine j_iconst (pc := 2) (v := 0) dX2_arrangement_2 (by decide) ?_
  refine j_istore_n (pc := 3) (lv1 := [(2, .int 0), (1, .int 0), (0, .ref 1)]) dX2_arrangement_3 (Nat.le_of_ble_eq_true rfl) rfl ?_
  refine j_sub [2, 1, 0] rfl ?_
  exact H
set_option maxRecDepth 20000 in
theorem b_X2_arrangement_4 {l : Launch} {g : am_G} {d : Nat} {σ : am_S} {k : Int32 → am_S → Prop}  {x1 x2 : Int32} (H : ((rg σ 66 ≤ x2 → k x1 σ) ∧ (¬ rg σ 66 ≤ x2 → (vp_in x2 7 ∧ JI l g M_X2_arrangement d 4 [(0, .ref 1), (1, .int (x1 ||| ((ar σ 7 x2.toNatClampNeg) <<< ((2 * x2) &&& 31)))), (2, .int (x2 + 1))] [] σ k)))) : JI l g M_X2_arrangement d 4 [(0, .ref 1), (1, .int x1), (2, .int x2)] [] σ k := by
  show J l g (M_X2_arrangement, d, 0, 0) 4 [(0, .ref 1), (1, .int x1), (2, .int x2)] [] (hp σ) 0 0 (kI k)
  refine j_iload_n (pc := 4) dX2_arrangement_4 rfl ?_
  refine j_aload_n (pc := 5) dX2_arrangement_5 rfl ?_
  refine s_geti (pc := 6) 66 (rg σ 66) dX2_arrangement_6 fl_X2_18 shp_1 rfl rfl rfl ?_
  refine j_icmp_ge (pc := 9) (t := 31) dX2_arrangement_9 (by decide) (fun c9 => ?_) (fun c9 => ?_)
  · replace H := H.1 c9
    refine j_iload_n (pc := 31) dX2_arrangement_31 rfl ?_
    exact s_ireti (pc := 32) dX2_arrangement_32 rfl H
  · replace H := H.2 c9
    refine j_iload_n (pc := 12) dX2_arrangement_12 rfl ?_
    refine j_aload_n (pc := 13) dX2_arrangement_13 rfl ?_
    refine s_getr (pc := 14) dX2_arrangement_14 fl_X2_43 shp_1 rfl ?_
    refine j_iload_n (pc := 17) dX2_arrangement_17 rfl ?_
    have b18 := H.1
    replace H := H.2
    refine s_iald (pc := 18) (ar σ 7 x2.toNatClampNeg) dX2_arrangement_18 shp_7 b18 rfl ?_
    refine j_iconst (pc := 19) (v := 2) dX2_arrangement_19 (by decide) ?_
    refine j_iload_n (pc := 20) dX2_arrangement_20 rfl ?_
    refine j_imul (pc := 21) dX2_arrangement_21 ?_
    refine j_ishl (pc := 22) dX2_arrangement_22 ?_
    refine j_ior (pc := 23) dX2_arrangement_23 ?_
    refine j_istore_n (pc := 24) (lv1 := [(1, .int (x1 ||| ((ar σ 7 x2.toNatClampNeg) <<< ((2 * x2) &&& 31)))), (0, .ref 1), (2, .int x2)]) dX2_arrangement_24 (Nat.le_of_ble_eq_true rfl) rfl ?_
    refine j_iinc (pc := 25) (k := 2) (v := x2 + 1) (lv1 := [(2, .int (x2 + 1)), (1, .int (x1 ||| ((ar σ 7 x2.toNatClampNeg) <<< ((2 * x2) &&& 31)))), (0, .ref 1)]) dX2_arrangement_25 rfl rfl (Nat.le_of_ble_eq_true rfl) rfl ?_
    refine j_goto (pc := 28) (t := 4) dX2_arrangement_28 (by decide) ?_
    refine j_sub [2, 1, 0] rfl ?_
    exact H
set_option maxRecDepth 20000 in
theorem b_X2_number_0 {l : Launch} {g : am_G} {d : Nat} {σ : am_S} {k : Int32 → am_S → Prop}  {x1 x2 : Int32} (hd : 1 ≤ d) (H : (((x2.toInt < 0 ∨ 3 < x2.toInt) → k (-1) σ) ∧ (x2 = 0 → (((¬ x1 < 0 ∧ ¬ rg σ 66 ≤ x1) → (vp_in x1 7 ∧ k (ar σ 5 x1.toNatClampNeg) σ)) ∧ (¬ (¬ x1 < 0 ∧ ¬ rg σ 66 ≤ x1) → k (-1) σ))) ∧ (x2 = 1 → (((¬ x1 < 0 ∧ ¬ rg σ 66 ≤ x1) → (vp_in x1 7 ∧ k (ar σ 6 x1.toNatClampNeg) σ)) ∧ (¬ (¬ x1 < 0 ∧ ¬ rg σ 66 ≤ x1) → k (-1) σ))) ∧ (x2 = 2 → (((¬ x1 < 0 ∧ ¬ rg σ 65 ≤ x1) → (vp_in x1 5 ∧ k (ar σ 4 x1.toNatClampNeg) σ)) ∧ (¬ (¬ x1 < 0 ∧ ¬ rg σ 65 ≤ x1) → k (-1) σ))) ∧ (x2 = 3 → ((¬ x1 = 0 → k (-1) σ) ∧ (x1 = 0 → k (rg σ 68) σ))))) : CI l g M_X2_number d [.ref 1, .int x1, .int x2] σ k := by
  show J l g (M_X2_number, d, 0, 0) 0 [(0, .ref 1), (1, .int x1), (2, .int x2)] [] (hp σ) 0 0 (kI k)
  refine j_iload_n (pc := 0) dX2_number_0 rfl ?_
  rcases sw_cases x2 0 3 with c1 | c1
  · replace H := H.1 c1
    refine j_tableOut (pc := 1) (t := 102) dX2_number_1 c1 (by decide) ?_
    refine j_iconst (pc := 102) (v := -1) dX2_number_102 (by decide) ?_
    exact s_ireti (pc := 103) dX2_number_103 rfl H
  · replace H := H.2
    by_cases c1_0 : x2 = 0
    · replace H := H.1 c1_0
      refine j_tableIn (pc := 1) (t := 32) (off := 31) dX2_number_1 (by rw [c1_0]; decide) (by rw [c1_0]; decide) (by rw [c1_0]; rfl) (by decide) ?_
      refine j_aload_n (pc := 32) dX2_number_32 rfl ?_
      refine j_iload_n (pc := 33) dX2_number_33 rfl ?_
      refine s_callV_i (pc := 34) (M1 := M_X2_hasPerson) (n := 1) (as := [.int x1]) (a := 1) (st := []) dX2_number_34 G_X2_hasPerson wm_X2_54 (by decide +kernel) rfl (Nat.le_of_ble_eq_true rfl) shp_1 rfl (by show 1 ≤ d; omega) (Nat.le_of_ble_eq_true rfl) (Nat.zero_le _) (Nat.zero_le _) ?_
      refine C_X2_hasPerson (d := d - 1) (by omega) ⟨fun c34 => ?_, fun c34 => ?_⟩
      · replace H := H.1 c34
        refine j_if_eq (pc := 37) (t := 49) dX2_number_37 (by decide) (fun q => absurd q (by decide)) (fun _ => ?_)
        refine j_aload_n (pc := 40) dX2_number_40 rfl ?_
        refine s_getr (pc := 41) dX2_number_41 fl_X2_37 shp_1 rfl ?_
        refine j_iload_n (pc := 44) dX2_number_44 rfl ?_
        have b45 := H.1
        replace H := H.2
        refine s_iald (pc := 45) (ar σ 5 x1.toNatClampNeg) dX2_number_45 shp_5 b45 rfl ?_
        refine j_goto (pc := 46) (t := 50) dX2_number_46 (by decide) ?_
        exact s_ireti (pc := 50) dX2_number_50 rfl H
      · replace H := H.2 c34
        refine j_if_eq (pc := 37) (t := 49) dX2_number_37 (by decide) (fun _ => ?_) (fun q => absurd q (by decide))
        refine j_iconst (pc := 49) (v := -1) dX2_number_49 (by decide) ?_
        exact s_ireti (pc := 50) dX2_number_50 rfl H
    by_cases c1_1 : x2 = 1
    · replace H := H.2.1 c1_1
      refine j_tableIn (pc := 1) (t := 51) (off := 50) dX2_number_1 (by rw [c1_1]; decide) (by rw [c1_1]; decide) (by rw [c1_1]; rfl) (by decide) ?_
      refine j_aload_n (pc := 51) dX2_number_51 rfl ?_
      refine j_iload_n (pc := 52) dX2_number_52 rfl ?_
      refine s_callV_i (pc := 53) (M1 := M_X2_hasPerson) (n := 1) (as := [.int x1]) (a := 1) (st := []) dX2_number_53 G_X2_hasPerson wm_X2_54 (by decide +kernel) rfl (Nat.le_of_ble_eq_true rfl) shp_1 rfl (by show 1 ≤ d; omega) (Nat.le_of_ble_eq_true rfl) (Nat.zero_le _) (Nat.zero_le _) ?_
      refine C_X2_hasPerson (d := d - 1) (by omega) ⟨fun c53 => ?_, fun c53 => ?_⟩
      · replace H := H.1 c53
        refine j_if_eq (pc := 56) (t := 68) dX2_number_56 (by decide) (fun q => absurd q (by decide)) (fun _ => ?_)
        refine j_aload_n (pc := 59) dX2_number_59 rfl ?_
        refine s_getr (pc := 60) dX2_number_60 fl_X2_40 shp_1 rfl ?_
        refine j_iload_n (pc := 63) dX2_number_63 rfl ?_
        have b64 := H.1
        replace H := H.2
        refine s_iald (pc := 64) (ar σ 6 x1.toNatClampNeg) dX2_number_64 shp_6 b64 rfl ?_
        refine j_goto (pc := 65) (t := 69) dX2_number_65 (by decide) ?_
        exact s_ireti (pc := 69) dX2_number_69 rfl H
      · replace H := H.2 c53
        refine j_if_eq (pc := 56) (t := 68) dX2_number_56 (by decide) (fun _ => ?_) (fun q => absurd q (by decide))
        refine j_iconst (pc := 68) (v := -1) dX2_number_68 (by decide) ?_
        exact s_ireti (pc := 69) dX2_number_69 rfl H
    by_cases c1_2 : x2 = 2
    · replace H := H.2.2.1 c1_2
      refine j_tableIn (pc := 1) (t := 70) (off := 69) dX2_number_1 (by rw [c1_2]; decide) (by rw [c1_2]; decide) (by rw [c1_2]; rfl) (by decide) ?_
      refine j_aload_n (pc := 70) dX2_number_70 rfl ?_
      refine j_iload_n (pc := 71) dX2_number_71 rfl ?_
      refine s_callV_i (pc := 72) (M1 := M_X2_hasDoor) (n := 1) (as := [.int x1]) (a := 1) (st := []) dX2_number_72 G_X2_hasDoor wm_X2_57 (by decide +kernel) rfl (Nat.le_of_ble_eq_true rfl) shp_1 rfl (by show 1 ≤ d; omega) (Nat.le_of_ble_eq_true rfl) (Nat.zero_le _) (Nat.zero_le _) ?_
      refine C_X2_hasDoor (d := d - 1) (by omega) ⟨fun c72 => ?_, fun c72 => ?_⟩
      · replace H := H.1 c72
        refine j_if_eq (pc := 75) (t := 87) dX2_number_75 (by decide) (fun q => absurd q (by decide)) (fun _ => ?_)
        refine j_aload_n (pc := 78) dX2_number_78 rfl ?_
        refine s_getr (pc := 79) dX2_number_79 fl_X2_34 shp_1 rfl ?_
        refine j_iload_n (pc := 82) dX2_number_82 rfl ?_
        have b83 := H.1
        replace H := H.2
        refine s_iald (pc := 83) (ar σ 4 x1.toNatClampNeg) dX2_number_83 shp_4 b83 rfl ?_
        refine j_goto (pc := 84) (t := 88) dX2_number_84 (by decide) ?_
        exact s_ireti (pc := 88) dX2_number_88 rfl H
      · replace H := H.2 c72
        refine j_if_eq (pc := 75) (t := 87) dX2_number_75 (by decide) (fun _ => ?_) (fun q => absurd q (by decide))
        refine j_iconst (pc := 87) (v := -1) dX2_number_87 (by decide) ?_
        exact s_ireti (pc := 88) dX2_number_88 rfl H
    by_cases c1_3 : x2 = 3
    · replace H := H.2.2.2 c1_3
      refine j_tableIn (pc := 1) (t := 89) (off := 88) dX2_number_1 (by rw [c1_3]; decide) (by rw [c1_3]; decide) (by rw [c1_3]; rfl) (by decide) ?_
      refine j_iload_n (pc := 89) dX2_number_89 rfl ?_
      refine j_if_ne (pc := 90) (t := 100) dX2_number_90 (by decide) (fun c90 => ?_) (fun c90 => ?_)
      · replace H := H.1 c90
        refine j_iconst (pc := 100) (v := -1) dX2_number_100 (by decide) ?_
        exact s_ireti (pc := 101) dX2_number_101 rfl H
      · replace H := H.2 c90
        refine j_aload_n (pc := 93) dX2_number_93 rfl ?_
        refine s_geti (pc := 94) 68 (rg σ 68) dX2_number_94 fl_X2_24 shp_1 rfl rfl rfl ?_
        refine j_goto (pc := 97) (t := 101) dX2_number_97 (by decide) ?_
        exact s_ireti (pc := 101) dX2_number_101 rfl H
    exact (sw_end_0_3 c1 c1_0 c1_1 c1_2 c1_3).elim
set_option maxRecDepth 20000 in
theorem b_X2_setNumber_0 {l : Launch} {g : am_G} {d : Nat} {σ : am_S} {k : am_S → Prop}  {x1 x2 x3 : Int32} (hd : 1 ≤ d) (H : ((¬ x2 = 0 → ((¬ x2 = 1 → ((¬ x2 = 2 → ((¬ x2 = 3 → k σ) ∧ (x2 = 3 → k (sR σ 68 x3)))) ∧ (x2 = 2 → (((¬ x1 < 0 ∧ ¬ rg σ 65 ≤ x1) → (vp_in x1 5 ∧ k (sA σ 4 x1.toNatClampNeg x3))) ∧ (¬ (¬ x1 < 0 ∧ ¬ rg σ 65 ≤ x1) → ((¬ x2 = 3 → k σ) ∧ (x2 = 3 → k (sR σ 68 x3)))))))) ∧ (x2 = 1 → (((¬ x1 < 0 ∧ ¬ rg σ 66 ≤ x1) → (vp_in x1 7 ∧ k (sA σ 6 x1.toNatClampNeg x3))) ∧ (¬ (¬ x1 < 0 ∧ ¬ rg σ 66 ≤ x1) → ((¬ x2 = 2 → ((¬ x2 = 3 → k σ) ∧ (x2 = 3 → k (sR σ 68 x3)))) ∧ (x2 = 2 → (((¬ x1 < 0 ∧ ¬ rg σ 65 ≤ x1) → (vp_in x1 5 ∧ k (sA σ 4 x1.toNatClampNeg x3))) ∧ (¬ (¬ x1 < 0 ∧ ¬ rg σ 65 ≤ x1) → ((¬ x2 = 3 → k σ) ∧ (x2 = 3 → k (sR σ 68 x3)))))))))))) ∧ (x2 = 0 → (((¬ x1 < 0 ∧ ¬ rg σ 66 ≤ x1) → (vp_in x1 7 ∧ k (sA σ 5 x1.toNatClampNeg x3))) ∧ (¬ (¬ x1 < 0 ∧ ¬ rg σ 66 ≤ x1) → ((¬ x2 = 1 → ((¬ x2 = 2 → ((¬ x2 = 3 → k σ) ∧ (x2 = 3 → k (sR σ 68 x3)))) ∧ (x2 = 2 → (((¬ x1 < 0 ∧ ¬ rg σ 65 ≤ x1) → (vp_in x1 5 ∧ k (sA σ 4 x1.toNatClampNeg x3))) ∧ (¬ (¬ x1 < 0 ∧ ¬ rg σ 65 ≤ x1) → ((¬ x2 = 3 → k σ) ∧ (x2 = 3 → k (sR σ 68 x3)))))))) ∧ (x2 = 1 → (((¬ x1 < 0 ∧ ¬ rg σ 66 ≤ x1) → (vp_in x1 7 ∧ k (sA σ 6 x1.toNatClampNeg x3))) ∧ (¬ (¬ x1 < 0 ∧ ¬ rg σ 66 ≤ x1) → ((¬ x2 = 2 → ((¬ x2 = 3 → k σ) ∧ (x2 = 3 → k (sR σ 68 x3)))) ∧ (x2 = 2 → (((¬ x1 < 0 ∧ ¬ rg σ 65 ≤ x1) → (vp_in x1 5 ∧ k (sA σ 4 x1.toNatClampNeg x3))) ∧ (¬ (¬ x1 < 0 ∧ ¬ rg σ 65 ≤ x1) → ((¬ x2 = 3 → k σ) ∧ (x2 = 3 → k (sR σ 68 x3)))))))))))))))) : CV l g M_X2_setNumber d [.ref 1, .int x1, .int x2, .int x3] σ k := by
  show J l g (M_X2_setNumber, d, 0, 0) 0 [(0, .ref 1), (1, .int x1), (2, .int x2), (3, .int x3)] [] (hp σ) 0 0 (kV k)
  refine j_iload_n (pc := 0) dX2_setNumber_0 rfl ?_
  refine j_if_ne (pc := 1) (t := 22) dX2_setNumber_1 (by decide) (fun c1 => ?_) (fun c1 => ?_)
  · replace H := H.1 c1
    refine j_iload_n (pc := 22) dX2_setNumber_22 rfl ?_
    refine j_iconst (pc := 23) (v := 1) dX2_setNumber_23 (by decide) ?_
    refine j_icmp_ne (pc := 24) (t := 45) dX2_setNumber_24 (by decide) (fun c24 => ?_) (fun c24 => ?_)
    · replace H := H.1 c24
      refine j_iload_n (pc := 45) dX2_setNumber_45 rfl ?_
      refine j_iconst (pc := 46) (v := 2) dX2_setNumber_46 (by decide) ?_
      refine j_icmp_ne (pc := 47) (t := 68) dX2_setNumber_47 (by decide) (fun c47 => ?_) (fun c47 => ?_)
      · replace H := H.1 c47
        refine j_iload_n (pc := 68) dX2_setNumber_68 rfl ?_
        refine j_iconst (pc := 69) (v := 3) dX2_setNumber_69 (by decide) ?_
        refine j_icmp_ne (pc := 70) (t := 78) dX2_setNumber_70 (by decide) (fun c70 => ?_) (fun c70 => ?_)
        · replace H := H.1 c70
          exact s_vret (pc := 78) dX2_setNumber_78 rfl H
        · replace H := H.2 c70
          refine j_aload_n (pc := 73) dX2_setNumber_73 rfl ?_
          refine j_iload_n (pc := 74) dX2_setNumber_74 rfl ?_
          refine s_put (pc := 75) 68 dX2_setNumber_75 fl_X2_24 shp_1 rfl rfl fp_2_4 rfl rfl ?_
          exact s_vret (pc := 78) dX2_setNumber_78 rfl H
      · replace H := H.2 c47
        refine j_aload_n (pc := 50) dX2_setNumber_50 rfl ?_
        refine j_iload_n (pc := 51) dX2_setNumber_51 rfl ?_
        refine s_callV_i (pc := 52) (M1 := M_X2_hasDoor) (n := 1) (as := [.int x1]) (a := 1) (st := []) dX2_setNumber_52 G_X2_hasDoor wm_X2_57 (by decide +kernel) rfl (Nat.le_of_ble_eq_true rfl) shp_1 rfl (by show 1 ≤ d; omega) (Nat.le_of_ble_eq_true rfl) (Nat.zero_le _) (Nat.zero_le _) ?_
        refine C_X2_hasDoor (d := d - 1) (by omega) ⟨fun c52 => ?_, fun c52 => ?_⟩
        · replace H := H.1 c52
          refine j_if_eq (pc := 55) (t := 68) dX2_setNumber_55 (by decide) (fun q => absurd q (by decide)) (fun _ => ?_)
          refine j_aload_n (pc := 58) dX2_setNumber_58 rfl ?_
          refine s_getr (pc := 59) dX2_setNumber_59 fl_X2_34 shp_1 rfl ?_
          refine j_iload_n (pc := 62) dX2_setNumber_62 rfl ?_
          refine j_iload_n (pc := 63) dX2_setNumber_63 rfl ?_
          have b64 := H.1
          replace H := H.2
          refine s_iast (pc := 64) dX2_setNumber_64 shp_4 b64 ?_
          refine j_goto (pc := 65) (t := 78) dX2_setNumber_65 (by decide) ?_
          exact s_vret (pc := 78) dX2_setNumber_78 rfl H
        · replace H := H.2 c52
          refine j_if_eq (pc := 55) (t := 68) dX2_setNumber_55 (by decide) (fun _ => ?_) (fun q => absurd q (by decide))
          refine j_iload_n (pc := 68) dX2_setNumber_68 rfl ?_
          refine j_iconst (pc := 69) (v := 3) dX2_setNumber_69 (by decide) ?_
          refine j_icmp_ne (pc := 70) (t := 78) dX2_setNumber_70 (by decide) (fun c70 => ?_) (fun c70 => ?_)
          · replace H := H.1 c70
            exact s_vret (pc := 78) dX2_setNumber_78 rfl H
          · replace H := H.2 c70
            refine j_aload_n (pc := 73) dX2_setNumber_73 rfl ?_
            refine j_iload_n (pc := 74) dX2_setNumber_74 rfl ?_
            refine s_put (pc := 75) 68 dX2_setNumber_75 fl_X2_24 shp_1 rfl rfl fp_2_4 rfl rfl ?_
            exact s_vret (pc := 78) dX2_setNumber_78 rfl H
    · replace H := H.2 c24
      refine j_aload_n (pc := 27) dX2_setNumber_27 rfl ?_
      refine j_iload_n (pc := 28) dX2_setNumber_28 rfl ?_
      refine s_callV_i (pc := 29) (M1 := M_X2_hasPerson) (n := 1) (as := [.int x1]) (a := 1) (st := []) dX2_setNumber_29 G_X2_hasPerson wm_X2_54 (by decide +kernel) rfl (Nat.le_of_ble_eq_true rfl) shp_1 rfl (by show 1 ≤ d; omega) (Nat.le_of_ble_eq_true rfl) (Nat.zero_le _) (Nat.zero_le _) ?_
      refine C_X2_hasPerson (d := d - 1) (by omega) ⟨fun c29 => ?_, fun c29 => ?_⟩
      · replace H := H.1 c29
        refine j_if_eq (pc := 32) (t := 45) dX2_setNumber_32 (by decide) (fun q => absurd q (by decide)) (fun _ => ?_)
        refine j_aload_n (pc := 35) dX2_setNumber_35 rfl ?_
        refine s_getr (pc := 36) dX2_setNumber_36 fl_X2_40 shp_1 rfl ?_
        refine j_iload_n (pc := 39) dX2_setNumber_39 rfl ?_
        refine j_iload_n (pc := 40) dX2_setNumber_40 rfl ?_
        have b41 := H.1
        replace H := H.2
        refine s_iast (pc := 41) dX2_setNumber_41 shp_6 b41 ?_
        refine j_goto (pc := 42) (t := 78) dX2_setNumber_42 (by decide) ?_
        exact s_vret (pc := 78) dX2_setNumber_78 rfl H
      · replace H := H.2 c29
        refine j_if_eq (pc := 32) (t := 45) dX2_setNumber_32 (by decide) (fun _ => ?_) (fun q => absurd q (by decide))
        refine j_iload_n (pc := 45) dX2_setNumber_45 rfl ?_
        refine j_iconst (pc := 46) (v := 2) dX2_setNumber_46 (by decide) ?_
        refine j_icmp_ne (pc := 47) (t := 68) dX2_setNumber_47 (by decide) (fun c47 => ?_) (fun c47 => ?_)
        · replace H := H.1 c47
          refine j_iload_n (pc := 68) dX2_setNumber_68 rfl ?_
          refine j_iconst (pc := 69) (v := 3) dX2_setNumber_69 (by decide) ?_
          refine j_icmp_ne (pc := 70) (t := 78) dX2_setNumber_70 (by decide) (fun c70 => ?_) (fun c70 => ?_)
          · replace H := H.1 c70
            exact s_vret (pc := 78) dX2_setNumber_78 rfl H
          · replace H := H.2 c70
            refine j_aload_n (pc := 73) dX2_setNumber_73 rfl ?_
            refine j_iload_n (pc := 74) dX2_setNumber_74 rfl ?_
            refine s_put (pc := 75) 68 dX2_setNumber_75 fl_X2_24 shp_1 rfl rfl fp_2_4 rfl rfl ?_
            exact s_vret (pc := 78) dX2_setNumber_78 rfl H
        · replace H := H.2 c47
          refine j_aload_n (pc := 50) dX2_setNumber_50 rfl ?_
          refine j_iload_n (pc := 51) dX2_setNumber_51 rfl ?_
          refine s_callV_i (pc := 52) (M1 := M_X2_hasDoor) (n := 1) (as := [.int x1]) (a := 1) (st := []) dX2_setNumber_52 G_X2_hasDoor wm_X2_57 (by decide +kernel) rfl (Nat.le_of_ble_eq_true rfl) shp_1 rfl (by show 1 ≤ d; omega) (Nat.le_of_ble_eq_true rfl) (Nat.zero_le _) (Nat.zero_le _) ?_
          refine C_X2_hasDoor (d := d - 1) (by omega) ⟨fun c52 => ?_, fun c52 => ?_⟩
          · replace H := H.1 c52
            refine j_if_eq (pc := 55) (t := 68) dX2_setNumber_55 (by decide) (fun q => absurd q (by decide)) (fun _ => ?_)
            refine j_aload_n (pc := 58) dX2_setNumber_58 rfl ?_
            refine s_getr (pc := 59) dX2_setNumber_59 fl_X2_34 shp_1 rfl ?_
            refine j_iload_n (pc := 62) dX2_setNumber_62 rfl ?_
            refine j_iload_n (pc := 63) dX2_setNumber_63 rfl ?_
            have b64 := H.1
            replace H := H.2
            refine s_iast (pc := 64) dX2_setNumber_64 shp_4 b64 ?_
            refine j_goto (pc := 65) (t := 78) dX2_setNumber_65 (by decide) ?_
            exact s_vret (pc := 78) dX2_setNumber_78 rfl H
          · replace H := H.2 c52
            refine j_if_eq (pc := 55) (t := 68) dX2_setNumber_55 (by decide) (fun _ => ?_) (fun q => absurd q (by decide))
            refine j_iload_n (pc := 68) dX2_setNumber_68 rfl ?_
            refine j_iconst (pc := 69) (v := 3) dX2_setNumber_69 (by decide) ?_
            refine j_icmp_ne (pc := 70) (t := 78) dX2_setNumber_70 (by decide) (fun c70 => ?_) (fun c70 => ?_)
            · replace H := H.1 c70
              exact s_vret (pc := 78) dX2_setNumber_78 rfl H
            · replace H := H.2 c70
              refine j_aload_n (pc := 73) dX2_setNumber_73 rfl ?_
              refine j_iload_n (pc := 74) dX2_setNumber_74 rfl ?_
              refine s_put (pc := 75) 68 dX2_setNumber_75 fl_X2_24 shp_1 rfl rfl fp_2_4 rfl rfl ?_
              exact s_vret (pc := 78) dX2_setNumber_78 rfl H
  · replace H := H.2 c1
    refine j_aload_n (pc := 4) dX2_setNumber_4 rfl ?_
    refine j_iload_n (pc := 5) dX2_setNumber_5 rfl ?_
    refine s_callV_i (pc := 6) (M1 := M_X2_hasPerson) (n := 1) (as := [.int x1]) (a := 1) (st := []) dX2_setNumber_6 G_X2_hasPerson wm_X2_54 (by decide +kernel) rfl (Nat.le_of_ble_eq_true rfl) shp_1 rfl (by show 1 ≤ d; omega) (Nat.le_of_ble_eq_true rfl) (Nat.zero_le _) (Nat.zero_le _) ?_
    refine C_X2_hasPerson (d := d - 1) (by omega) ⟨fun c6 => ?_, fun c6 => ?_⟩
    · replace H := H.1 c6
      refine j_if_eq (pc := 9) (t := 22) dX2_setNumber_9 (by decide) (fun q => absurd q (by decide)) (fun _ => ?_)
      refine j_aload_n (pc := 12) dX2_setNumber_12 rfl ?_
      refine s_getr (pc := 13) dX2_setNumber_13 fl_X2_37 shp_1 rfl ?_
      refine j_iload_n (pc := 16) dX2_setNumber_16 rfl ?_
      refine j_iload_n (pc := 17) dX2_setNumber_17 rfl ?_
      have b18 := H.1
      replace H := H.2
      refine s_iast (pc := 18) dX2_setNumber_18 shp_5 b18 ?_
      refine j_goto (pc := 19) (t := 78) dX2_setNumber_19 (by decide) ?_
      exact s_vret (pc := 78) dX2_setNumber_78 rfl H
    · replace H := H.2 c6
      refine j_if_eq (pc := 9) (t := 22) dX2_setNumber_9 (by decide) (fun _ => ?_) (fun q => absurd q (by decide))
      refine j_iload_n (pc := 22) dX2_setNumber_22 rfl ?_
      refine j_iconst (pc := 23) (v := 1) dX2_setNumber_23 (by decide) ?_
      refine j_icmp_ne (pc := 24) (t := 45) dX2_setNumber_24 (by decide) (fun c24 => ?_) (fun c24 => ?_)
      · replace H := H.1 c24
        refine j_iload_n (pc := 45) dX2_setNumber_45 rfl ?_
        refine j_iconst (pc := 46) (v := 2) dX2_setNumber_46 (by decide) ?_
        refine j_icmp_ne (pc := 47) (t := 68) dX2_setNumber_47 (by decide) (fun c47 => ?_) (fun c47 => ?_)
        · replace H := H.1 c47
          refine j_iload_n (pc := 68) dX2_setNumber_68 rfl ?_
          refine j_iconst (pc := 69) (v := 3) dX2_setNumber_69 (by decide) ?_
          refine j_icmp_ne (pc := 70) (t := 78) dX2_setNumber_70 (by decide) (fun c70 => ?_) (fun c70 => ?_)
          · replace H := H.1 c70
            exact s_vret (pc := 78) dX2_setNumber_78 rfl H
          · replace H := H.2 c70
            refine j_aload_n (pc := 73) dX2_setNumber_73 rfl ?_
            refine j_iload_n (pc := 74) dX2_setNumber_74 rfl ?_
            refine s_put (pc := 75) 68 dX2_setNumber_75 fl_X2_24 shp_1 rfl rfl fp_2_4 rfl rfl ?_
            exact s_vret (pc := 78) dX2_setNumber_78 rfl H
        · replace H := H.2 c47
          refine j_aload_n (pc := 50) dX2_setNumber_50 rfl ?_
          refine j_iload_n (pc := 51) dX2_setNumber_51 rfl ?_
          refine s_callV_i (pc := 52) (M1 := M_X2_hasDoor) (n := 1) (as := [.int x1]) (a := 1) (st := []) dX2_setNumber_52 G_X2_hasDoor wm_X2_57 (by decide +kernel) rfl (Nat.le_of_ble_eq_true rfl) shp_1 rfl (by show 1 ≤ d; omega) (Nat.le_of_ble_eq_true rfl) (Nat.zero_le _) (Nat.zero_le _) ?_
          refine C_X2_hasDoor (d := d - 1) (by omega) ⟨fun c52 => ?_, fun c52 => ?_⟩
          · replace H := H.1 c52
            refine j_if_eq (pc := 55) (t := 68) dX2_setNumber_55 (by decide) (fun q => absurd q (by decide)) (fun _ => ?_)
            refine j_aload_n (pc := 58) dX2_setNumber_58 rfl ?_
            refine s_getr (pc := 59) dX2_setNumber_59 fl_X2_34 shp_1 rfl ?_
            refine j_iload_n (pc := 62) dX2_setNumber_62 rfl ?_
            refine j_iload_n (pc := 63) dX2_setNumber_63 rfl ?_
            have b64 := H.1
            replace H := H.2
            refine s_iast (pc := 64) dX2_setNumber_64 shp_4 b64 ?_
            refine j_goto (pc := 65) (t := 78) dX2_setNumber_65 (by decide) ?_
            exact s_vret (pc := 78) dX2_setNumber_78 rfl H
          · replace H := H.2 c52
            refine j_if_eq (pc := 55) (t := 68) dX2_setNumber_55 (by decide) (fun _ => ?_) (fun q => absurd q (by decide))
            refine j_iload_n (pc := 68) dX2_setNumber_68 rfl ?_
            refine j_iconst (pc := 69) (v := 3) dX2_setNumber_69 (by decide) ?_
            refine j_icmp_ne (pc := 70) (t := 78) dX2_setNumber_70 (by decide) (fun c70 => ?_) (fun c70 => ?_)
            · replace H := H.1 c70
              exact s_vret (pc := 78) dX2_setNumber_78 rfl H
            · replace H := H.2 c70
              refine j_aload_n (pc := 73) dX2_setNumber_73 rfl ?_
              refine j_iload_n (pc := 74) dX2_setNumber_74 rfl ?_
              refine s_put (pc := 75) 68 dX2_setNumber_75 fl_X2_24 shp_1 rfl rfl fp_2_4 rfl rfl ?_
              exact s_vret (pc := 78) dX2_setNumber_78 rfl H
      · replace H := H.2 c24
        refine j_aload_n (pc := 27) dX2_setNumber_27 rfl ?_
        refine j_iload_n (pc := 28) dX2_setNumber_28 rfl ?_
        refine s_callV_i (pc := 29) (M1 := M_X2_hasPerson) (n := 1) (as := [.int x1]) (a := 1) (st := []) dX2_setNumber_29 G_X2_hasPerson wm_X2_54 (by decide +kernel) rfl (Nat.le_of_ble_eq_true rfl) shp_1 rfl (by show 1 ≤ d; omega) (Nat.le_of_ble_eq_true rfl) (Nat.zero_le _) (Nat.zero_le _) ?_
        refine C_X2_hasPerson (d := d - 1) (by omega) ⟨fun c29 => ?_, fun c29 => ?_⟩
        · replace H := H.1 c29
          refine j_if_eq (pc := 32) (t := 45) dX2_setNumber_32 (by decide) (fun q => absurd q (by decide)) (fun _ => ?_)
          refine j_aload_n (pc := 35) dX2_setNumber_35 rfl ?_
          refine s_getr (pc := 36) dX2_setNumber_36 fl_X2_40 shp_1 rfl ?_
          refine j_iload_n (pc := 39) dX2_setNumber_39 rfl ?_
          refine j_iload_n (pc := 40) dX2_setNumber_40 rfl ?_
          have b41 := H.1
          replace H := H.2
          refine s_iast (pc := 41) dX2_setNumber_41 shp_6 b41 ?_
          refine j_goto (pc := 42) (t := 78) dX2_setNumber_42 (by decide) ?_
          exact s_vret (pc := 78) dX2_setNumber_78 rfl H
        · replace H := H.2 c29
          refine j_if_eq (pc := 32) (t := 45) dX2_setNumber_32 (by decide) (fun _ => ?_) (fun q => absurd q (by decide))
          refine j_iload_n (pc := 45) dX2_setNumber_45 rfl ?_
          refine j_iconst (pc := 46) (v := 2) dX2_setNumber_46 (by decide) ?_
          refine j_icmp_ne (pc := 47) (t := 68) dX2_setNumber_47 (by decide) (fun c47 => ?_) (fun c47 => ?_)
          · replace H := H.1 c47
            refine j_iload_n (pc := 68) dX2_setNumber_68 rfl ?_
            refine j_iconst (pc := 69) (v := 3) dX2_setNumber_69 (by decide) ?_
            refine j_icmp_ne (pc := 70) (t := 78) dX2_setNumber_70 (by decide) (fun c70 => ?_) (fun c70 => ?_)
            · replace H := H.1 c70
              exact s_vret (pc := 78) dX2_setNumber_78 rfl H
            · replace H := H.2 c70
              refine j_aload_n (pc := 73) dX2_setNumber_73 rfl ?_
              refine j_iload_n (pc := 74) dX2_setNumber_74 rfl ?_
              refine s_put (pc := 75) 68 dX2_setNumber_75 fl_X2_24 shp_1 rfl rfl fp_2_4 rfl rfl ?_
              exact s_vret (pc := 78) dX2_setNumber_78 rfl H
          · replace H := H.2 c47
            refine j_aload_n (pc := 50) dX2_setNumber_50 rfl ?_
            refine j_iload_n (pc := 51) dX2_setNumber_51 rfl ?_
            refine s_callV_i (pc := 52) (M1 := M_X2_hasDoor) (n := 1) (as := [.int x1]) (a := 1) (st := []) dX2_setNumber_52 G_X2_hasDoor wm_X2_57 (by decide +kernel) rfl (Nat.le_of_ble_eq_true rfl) shp_1 rfl (by show 1 ≤ d; omega) (Nat.le_of_ble_eq_true rfl) (Nat.zero_le _) (Nat.zero_le _) ?_
            refine C_X2_hasDoor (d := d - 1) (by omega) ⟨fun c52 => ?_, fun c52 => ?_⟩
            · replace H := H.1 c52
              refine j_if_eq (pc := 55) (t := 68) dX2_setNumber_55 (by decide) (fun q => absurd q (by decide)) (fun _ => ?_)
              refine j_aload_n (pc := 58) dX2_setNumber_58 rfl ?_
              refine s_getr (pc := 59) dX2_setNumber_59 fl_X2_34 shp_1 rfl ?_
              refine j_iload_n (pc := 62) dX2_setNumber_62 rfl ?_
              refine j_iload_n (pc := 63) dX2_setNumber_63 rfl ?_
              have b64 := H.1
              replace H := H.2
              refine s_iast (pc := 64) dX2_setNumber_64 shp_4 b64 ?_
              refine j_goto (pc := 65) (t := 78) dX2_setNumber_65 (by decide) ?_
              exact s_vret (pc := 78) dX2_setNumber_78 rfl H
            · replace H := H.2 c52
              refine j_if_eq (pc := 55) (t := 68) dX2_setNumber_55 (by decide) (fun _ => ?_) (fun q => absurd q (by decide))
              refine j_iload_n (pc := 68) dX2_setNumber_68 rfl ?_
              refine j_iconst (pc := 69) (v := 3) dX2_setNumber_69 (by decide) ?_
              refine j_icmp_ne (pc := 70) (t := 78) dX2_setNumber_70 (by decide) (fun c70 => ?_) (fun c70 => ?_)
              · replace H := H.1 c70
                exact s_vret (pc := 78) dX2_setNumber_78 rfl H
              · replace H := H.2 c70
                refine j_aload_n (pc := 73) dX2_setNumber_73 rfl ?_
                refine j_iload_n (pc := 74) dX2_setNumber_74 rfl ?_
                refine s_put (pc := 75) 68 dX2_setNumber_75 fl_X2_24 shp_1 rfl rfl fp_2_4 rfl rfl ?_
                exact s_vret (pc := 78) dX2_setNumber_78 rfl H
set_option maxRecDepth 20000 in
theorem b_X3_take_0 {l : Launch} {g : am_G} {d : Nat} {σ : am_S} {k : Int32 → am_S → Prop}   (H : JI l g M_X3_take d 2 [(0, .ref 32), (1, .ref 1), (2, .int 0)] [] σ k) : CI l g M_X3_take d [.ref 32, .ref 1] σ k := by
  show J l g (M_X3_take, d, 0, 0) 0 [(0, .ref 32), (1, .ref 1)] [] (hp σ) 0 0 (kI k)
  refine j_iconst (pc := 0) (v := 0) dX3_take_0 (by decide) ?_
  refine j_istore_n (pc := 1) (lv1 := [(2, .int 0), (0, .ref 32), (1, .ref 1)]) dX3_take_1 (Nat.le_of_ble_eq_true rfl) rfl ?_
  refine j_sub [1, 2, 0] rfl ?_
  exact H
set_option maxRecDepth 20000 in
theorem b_X3_take_2 {l : Launch} {g : am_G} {d : Nat} {σ : am_S} {k : Int32 → am_S → Prop}  {x2 : Int32} (H : ((rg σ 66 ≤ x2 → k (rg σ 66) (sR (sR (sR σ 2049 (rg σ 66)) 2050 (rg σ 67)) 2051 1)) ∧ (¬ rg σ 66 ≤ x2 → (vp_in x2 7 ∧ (vp_in x2 7 ∧ JI l g M_X3_take d 2 [(0, .ref 32), (1, .ref 1), (2, .int (x2 + 1))] [] (sA σ 33 x2.toNatClampNeg (ar σ 7 x2.toNatClampNeg)) k))))) : JI l g M_X3_take d 2 [(0, .ref 32), (1, .ref 1), (2, .int x2)] [] σ k := by
  show J l g (M_X3_take, d, 0, 0) 2 [(0, .ref 32), (1, .ref 1), (2, .int x2)] [] (hp σ) 0 0 (kI k)
  refine j_iload_n (pc := 2) dX3_take_2 rfl ?_
  refine j_aload_n (pc := 3) dX3_take_3 rfl ?_
  refine s_geti (pc := 4) 66 (rg σ 66) dX3_take_4 fl_X3_26 shp_1 rfl rfl rfl ?_
  refine j_icmp_ge (pc := 7) (t := 28) dX3_take_7 (by decide) (fun c7 => ?_) (fun c7 => ?_)
  · replace H := H.1 c7
    refine j_aload_n (pc := 28) dX3_take_28 rfl ?_
    refine j_aload_n (pc := 29) dX3_take_29 rfl ?_
    refine s_geti (pc := 30) 66 (rg σ 66) dX3_take_30 fl_X3_26 shp_1 rfl rfl rfl ?_
    refine s_put (pc := 33) 2049 dX3_take_33 fl_X3_15 shp_32 rfl rfl fp_3_1 rfl rfl ?_
    refine j_aload_n (pc := 36) dX3_take_36 rfl ?_
    refine j_aload_n (pc := 37) dX3_take_37 rfl ?_
    refine s_geti (pc := 38) 67 (rg σ 67) dX3_take_38 fl_X3_32 shp_1 rfl rfl rfl ?_
    refine s_put (pc := 41) 2050 dX3_take_41 fl_X3_19 shp_32 rfl rfl fp_3_2 rfl rfl ?_
    refine j_aload_n (pc := 44) dX3_take_44 rfl ?_
    refine j_iconst (pc := 45) (v := 1) dX3_take_45 (by decide) ?_
    refine s_put (pc := 46) 2051 dX3_take_46 fl_X3_22 shp_32 rfl rfl fp_3_3 rfl (by decide) ?_
    refine j_aload_n (pc := 49) dX3_take_49 rfl ?_
    refine s_geti (pc := 50) 2049 (rg σ 66) dX3_take_50 fl_X3_15 shp_32 rfl rfl rfl ?_
    exact s_ireti (pc := 53) dX3_take_53 rfl H
  · replace H := H.2 c7
    refine j_aload_n (pc := 10) dX3_take_10 rfl ?_
    refine s_getr (pc := 11) dX3_take_11 fl_X3_9 shp_32 rfl ?_
    refine j_iload_n (pc := 14) dX3_take_14 rfl ?_
    refine j_aload_n (pc := 15) dX3_take_15 rfl ?_
    refine s_getr (pc := 16) dX3_take_16 fl_X3_31 shp_1 rfl ?_
    refine j_iload_n (pc := 19) dX3_take_19 rfl ?_
    have b20 := H.1
    replace H := H.2
    refine s_iald (pc := 20) (ar σ 7 x2.toNatClampNeg) dX3_take_20 shp_7 b20 rfl ?_
    have b21 := H.1
    replace H := H.2
    refine s_iast (pc := 21) dX3_take_21 shp_33 b21 ?_
    refine j_iinc (pc := 22) (k := 2) (v := x2 + 1) (lv1 := [(2, .int (x2 + 1)), (0, .ref 32), (1, .ref 1)]) dX3_take_22 rfl rfl (Nat.le_of_ble_eq_true rfl) rfl ?_
    refine j_goto (pc := 25) (t := 2) dX3_take_25 (by decide) ?_
    refine j_sub [1, 2, 0] rfl ?_
    exact H
set_option maxRecDepth 20000 in
theorem b_X3_layBack_0 {l : Launch} {g : am_G} {d : Nat} {σ : am_S} {k : Int32 → am_S → Prop}   (H : ((¬ rg σ 2051 = 0 → JI l g M_X3_layBack d 12 [(0, .ref 32), (1, .ref 1), (2, .int 0)] [] σ k) ∧ (rg σ 2051 = 0 → k (-5) σ))) : CI l g M_X3_layBack d [.ref 32, .ref 1] σ k := by
  show J l g (M_X3_layBack, d, 0, 0) 0 [(0, .ref 32), (1, .ref 1)] [] (hp σ) 0 0 (kI k)
  refine j_aload_n (pc := 0) dX3_layBack_0 rfl ?_
  refine s_geti (pc := 1) 2051 (rg σ 2051) dX3_layBack_1 fl_X3_22 shp_32 rfl rfl rfl ?_
  refine j_if_ne (pc := 4) (t := 10) dX3_layBack_4 (by decide) (fun c4 => ?_) (fun c4 => ?_)
  · replace H := H.1 c4
    refine j_iconst (pc := 10) (v := 0) dX3_layBack_10 (by decide) ?_
    refine j_istore_n (pc := 11) (lv1 := [(2, .int 0), (0, .ref 32), (1, .ref 1)]) dX3_layBack_11 (Nat.le_of_ble_eq_true rfl) rfl ?_
    refine j_sub [1, 2, 0] rfl ?_
    exact H
  · replace H := H.2 c4
    refine j_bipush (pc := 7) (v := -5) dX3_layBack_7 (by decide) ?_
    exact s_ireti (pc := 9) dX3_layBack_9 rfl H
set_option maxRecDepth 20000 in
theorem b_X3_layBack_12 {l : Launch} {g : am_G} {d : Nat} {σ : am_S} {k : Int32 → am_S → Prop}  {x2 : Int32} (H : ((rg σ 2049 ≤ x2 → k (rg σ 2049) (sR σ 67 (rg σ 2050))) ∧ (¬ rg σ 2049 ≤ x2 → (vp_in x2 7 ∧ (vp_in x2 7 ∧ JI l g M_X3_layBack d 12 [(0, .ref 32), (1, .ref 1), (2, .int (x2 + 1))] [] (sA σ 7 x2.toNatClampNeg (ar σ 33 x2.toNatClampNeg)) k))))) : JI l g M_X3_layBack d 12 [(0, .ref 32), (1, .ref 1), (2, .int x2)] [] σ k := by
  show J l g (M_X3_layBack, d, 0, 0) 12 [(0, .ref 32), (1, .ref 1), (2, .int x2)] [] (hp σ) 0 0 (kI k)
  refine j_iload_n (pc := 12) dX3_layBack_12 rfl ?_
  refine j_aload_n (pc := 13) dX3_layBack_13 rfl ?_
  refine s_geti (pc := 14) 2049 (rg σ 2049) dX3_layBack_14 fl_X3_15 shp_32 rfl rfl rfl ?_
  refine j_icmp_ge (pc := 17) (t := 38) dX3_layBack_17 (by decide) (fun c17 => ?_) (fun c17 => ?_)
  · replace H := H.1 c17
    refine j_aload_n (pc := 38) dX3_layBack_38 rfl ?_
    refine j_aload_n (pc := 39) dX3_layBack_39 rfl ?_
    refine s_geti (pc := 40) 2050 (rg σ 2050) dX3_layBack_40 fl_X3_19 shp_32 rfl rfl rfl ?_
    refine s_put (pc := 43) 67 dX3_layBack_43 fl_X3_32 shp_1 rfl rfl fp_2_3 rfl rfl ?_
    refine j_aload_n (pc := 46) dX3_layBack_46 rfl ?_
    refine s_geti (pc := 47) 2049 (rg σ 2049) dX3_layBack_47 fl_X3_15 shp_32 rfl rfl rfl ?_
    exact s_ireti (pc := 50) dX3_layBack_50 rfl H
  · replace H := H.2 c17
    refine j_aload_n (pc := 20) dX3_layBack_20 rfl ?_
    refine s_getr (pc := 21) dX3_layBack_21 fl_X3_31 shp_1 rfl ?_
    refine j_iload_n (pc := 24) dX3_layBack_24 rfl ?_
    refine j_aload_n (pc := 25) dX3_layBack_25 rfl ?_
    refine s_getr (pc := 26) dX3_layBack_26 fl_X3_9 shp_32 rfl ?_
    refine j_iload_n (pc := 29) dX3_layBack_29 rfl ?_
    have b30 := H.1
    replace H := H.2
    refine s_iald (pc := 30) (ar σ 33 x2.toNatClampNeg) dX3_layBack_30 shp_33 b30 rfl ?_
    have b31 := H.1
    replace H := H.2
    refine s_iast (pc := 31) dX3_layBack_31 shp_7 b31 ?_
    refine j_iinc (pc := 32) (k := 2) (v := x2 + 1) (lv1 := [(2, .int (x2 + 1)), (0, .ref 32), (1, .ref 1)]) dX3_layBack_32 rfl rfl (Nat.le_of_ble_eq_true rfl) rfl ?_
    refine j_goto (pc := 35) (t := 12) dX3_layBack_35 (by decide) ?_
    refine j_sub [1, 2, 0] rfl ?_
    exact H
