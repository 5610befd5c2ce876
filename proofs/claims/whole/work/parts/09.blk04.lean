/-! what each stretch of the program does (laid by program) -/
set_option maxRecDepth 20000 in
theorem b_X11_pattern_0 {l : Launch} {g : am_G} {d : Nat} {σ : am_S} {k : Int32 → am_S → Prop}  {x0 : Int32} (H : JI l g M_X11_pattern d 4 [(0, .int x0), (1, .int 0), (2, .int 0)] [] σ k) : CI l g M_X11_pattern d [.int x0] σ k := by
  show J l g (M_X11_pattern, d, 0, 0) 0 [(0, .int x0)] [] (hp σ) 0 0 (kI k)
  refine j_iconst (pc := 0) (v := 0) dX11_pattern_0 (by decide) ?_
  refine j_istore_n (pc := 1) (lv1 := [(1, .int 0), (0, .int x0)]) dX11_pattern_1 (Nat.le_of_ble_eq_true rfl) rfl ?_
  refine j_iconst (pc := 2) (v := 0) dX11_pattern_2 (by decide) ?_
  refine j_istore_n (pc := 3) (lv1 := [(2, .int 0), (1, .int 0), (0, .int x0)]) dX11_pattern_3 (Nat.le_of_ble_eq_true rfl) rfl ?_
  refine j_sub [2, 1, 0] rfl ?_
  exact H
set_option maxRecDepth 20000 in
theorem b_X11_pattern_4 {l : Launch} {g : am_G} {d : Nat} {σ : am_S} {k : Int32 → am_S → Prop}  {x0 x1 x2 : Int32} (H : ((7 ≤ x2 → k x1 σ) ∧ (¬ 7 ≤ x2 → JI l g M_X11_pattern d 4 [(0, .int x0), (1, .int (x1 ||| (((x0 >>> (x2 &&& 31)) &&& 1) <<< ((2 * x2) &&& 31)))), (2, .int (x2 + 1))] [] σ k))) : JI l g M_X11_pattern d 4 [(0, .int x0), (1, .int x1), (2, .int x2)] [] σ k := by
  show J l g (M_X11_pattern, d, 0, 0) 4 [(0, .int x0), (1, .int x1), (2, .int x2)] [] (hp σ) 0 0 (kI k)
  refine j_iload_n (pc := 4) dX11_pattern_4 rfl ?_
  refine j_bipush (pc := 5) (v := 7) dX11_pattern_5 (by decide) ?_
  refine j_icmp_ge (pc := 7) (t := 28) dX11_pattern_7 (by decide) (fun c7 => ?_) (fun c7 => ?_)
  · replace H := H.1 c7
    refine j_iload_n (pc := 28) dX11_pattern_28 rfl ?_
    exact s_ireti (pc := 29) dX11_pattern_29 rfl H
  · replace H := H.2 c7
    refine j_iload_n (pc := 10) dX11_pattern_10 rfl ?_
    refine j_iload_n (pc := 11) dX11_pattern_11 rfl ?_
    refine j_iload_n (pc := 12) dX11_pattern_12 rfl ?_
    refine j_ishr (pc := 13) dX11_pattern_13 ?_
    refine j_iconst (pc := 14) (v := 1) dX11_pattern_14 (by decide) ?_
    refine j_iand (pc := 15) dX11_pattern_15 ?_
    refine j_iconst (pc := 16) (v := 2) dX11_pattern_16 (by decide) ?_
    refine j_iload_n (pc := 17) dX11_pattern_17 rfl ?_
    refine j_imul (pc := 18) dX11_pattern_18 ?_
    refine j_ishl (pc := 19) dX11_pattern_19 ?_
    refine j_ior (pc := 20) dX11_pattern_20 ?_
    refine j_istore_n (pc := 21) (lv1 := [(1, .int (x1 ||| (((x0 >>> (x2 &&& 31)) &&& 1) <<< ((2 * x2) &&& 31)))), (0, .int x0), (2, .int x2)]) dX11_pattern_21 (Nat.le_of_ble_eq_true rfl) rfl ?_
    refine j_iinc (pc := 22) (k := 2) (v := x2 + 1) (lv1 := [(2, .int (x2 + 1)), (1, .int (x1 ||| (((x0 >>> (x2 &&& 31)) &&& 1) <<< ((2 * x2) &&& 31)))), (0, .int x0)]) dX11_pattern_22 rfl rfl (Nat.le_of_ble_eq_true rfl) rfl ?_
    refine j_goto (pc := 25) (t := 4) dX11_pattern_25 (by decide) ?_
    refine j_sub [2, 1, 0] rfl ?_
    exact H
set_option maxRecDepth 20000 in
theorem b_X11_fewestTo_0 {l : Launch} {g : am_G} {d : Nat} {σ : am_S} {k : Int32 → am_S → Prop}  {x1 x2 : Int32} (hd : 1 ≤ d) (H : CI l g M_X2_arrangement (d - 1) [.ref 1] σ (fun r1 σ1 => CI l g M_X11_pattern (d - 1) [.int x1] σ1 (fun r2 σ2 => CI l g M_X11_pattern (d - 1) [.int x1] σ2 (fun r3 σ3 => CI l g M_X7_fewestTill (d - 1) [.ref 19, .ref 14, .int r1, .int (3 * r2), .int (x2 * r3)] σ3 (fun r4 σ4 => k r4 σ4))))) : CI l g M_X11_fewestTo d [.ref 0, .int x1, .int x2] σ k := by
  show J l g (M_X11_fewestTo, d, 0, 0) 0 [(0, .ref 0), (1, .int x1), (2, .int x2)] [] (hp σ) 0 0 (kI k)
  refine j_aload_n (pc := 0) dX11_fewestTo_0 rfl ?_
  refine s_getr (pc := 1) dX11_fewestTo_1 fl_X11_42 shp_0 rfl ?_
  refine j_aload_n (pc := 4) dX11_fewestTo_4 rfl ?_
  refine s_getr (pc := 5) dX11_fewestTo_5 fl_X11_35 shp_0 rfl ?_
  refine j_aload_n (pc := 8) dX11_fewestTo_8 rfl ?_
  refine s_getr (pc := 9) dX11_fewestTo_9 fl_X11_10 shp_0 rfl ?_
  refine s_callV_i (pc := 12) (M1 := M_X2_arrangement) (n := 0) (as := []) (a := 1) (st := [.ref 14, .ref 19]) dX11_fewestTo_12 G_X2_arrangement wm_X11_198 (by decide +kernel) rfl (Nat.le_of_ble_eq_true rfl) shp_1 rfl (by show 1 ≤ d; omega) (Nat.le_of_ble_eq_true rfl) (Nat.zero_le _) (Nat.zero_le _) ?_
  refine CI.mono H (fun r1 σ1 H => ?_)
  refine j_iconst (pc := 15) (v := 3) dX11_fewestTo_15 (by decide) ?_
  refine j_iload_n (pc := 16) dX11_fewestTo_16 rfl ?_
  refine s_callS_i (pc := 17) (M1 := M_X11_pattern) (n := 1) (as := [.int x1]) (st := [.int 3, .int r1, .ref 14, .ref 19]) dX11_fewestTo_17 G_X11_pattern wm_X11_256 (by decide +kernel) rfl (Nat.le_of_ble_eq_true rfl) (by show 1 ≤ d; omega) (Nat.le_of_ble_eq_true rfl) ?_
  refine CI.mono H (fun r2 σ2 H => ?_)
  refine j_imul (pc := 20) dX11_fewestTo_20 ?_
  refine j_iload_n (pc := 21) dX11_fewestTo_21 rfl ?_
  refine j_iload_n (pc := 22) dX11_fewestTo_22 rfl ?_
  refine s_callS_i (pc := 23) (M1 := M_X11_pattern) (n := 1) (as := [.int x1]) (st := [.int x2, .int (3 * r2), .int r1, .ref 14, .ref 19]) dX11_fewestTo_23 G_X11_pattern wm_X11_256 (by decide +kernel) rfl (Nat.le_of_ble_eq_true rfl) (by show 1 ≤ d; omega) (Nat.le_of_ble_eq_true rfl) ?_
  refine CI.mono H (fun r3 σ3 H => ?_)
  refine j_imul (pc := 26) dX11_fewestTo_26 ?_
  refine s_callV_i (pc := 27) (M1 := M_X7_fewestTill) (n := 4) (as := [.ref 14, .int r1, .int (3 * r2), .int (x2 * r3)]) (a := 19) (st := []) dX11_fewestTo_27 G_X7_fewestTill wm_X11_274 (by decide +kernel) rfl (Nat.le_of_ble_eq_true rfl) shp_19 rfl (by show 1 ≤ d; omega) (Nat.le_of_ble_eq_true rfl) (Nat.zero_le _) (Nat.zero_le _) ?_
  refine CI.mono H (fun r4 σ4 H => ?_)
  exact s_ireti (pc := 30) dX11_fewestTo_30 rfl H
set_option maxRecDepth 20000 in
theorem b_X11_fewest_0 {l : Launch} {g : am_G} {d : Nat} {σ : am_S} {k : Int32 → am_S → Prop}  {x1 x2 x3 : Int32} (hd : 2 ≤ d) (H : (((¬ x1 ≤ 0 ∧ ¬ (1 : Int32) <<< ((rg σ 66) &&& 31) ≤ x1 ∧ (¬ x2 < 0 ∧ ¬ rg σ 64 ≤ x2)) → ((x3 = (-1) → CV l g M_X6_weigh (d - 1) [.ref 14, .int 0, .int (rg σ 67), .int 0] σ (fun σ2 => ((x3 < 0 → CI l g M_X11_fewestTo (d - 1) [.ref 0, .int x1, .int x2] σ2 (fun r3 σ3 => k r3 σ3)) ∧ (¬ x3 < 0 → CV l g M_X6_onlyWith (d - 1) [.ref 14, .int x3] σ2 (fun σ4 => CI l g M_X11_fewestTo (d - 1) [.ref 0, .int x1, .int x2] σ4 (fun r5 σ5 => k r5 σ5)))))) ∧ (¬ x3 = (-1) → (((¬ x3 < 0 ∧ ¬ rg σ 66 ≤ x3) → CV l g M_X6_weigh (d - 1) [.ref 14, .int 0, .int (rg σ 67), .int 0] σ (fun σ7 => ((x3 < 0 → CI l g M_X11_fewestTo (d - 1) [.ref 0, .int x1, .int x2] σ7 (fun r8 σ8 => k r8 σ8)) ∧ (¬ x3 < 0 → CV l g M_X6_onlyWith (d - 1) [.ref 14, .int x3] σ7 (fun σ9 => CI l g M_X11_fewestTo (d - 1) [.ref 0, .int x1, .int x2] σ9 (fun r10 σ10 => k r10 σ10)))))) ∧ (¬ (¬ x3 < 0 ∧ ¬ rg σ 66 ≤ x3) → k (-1) σ))))) ∧ (¬ (¬ x1 ≤ 0 ∧ ¬ (1 : Int32) <<< ((rg σ 66) &&& 31) ≤ x1 ∧ (¬ x2 < 0 ∧ ¬ rg σ 64 ≤ x2)) → k (-1) σ))) : CI l g M_X11_fewest d [.ref 0, .int x1, .int x2, .int x3] σ k := by
  show J l g (M_X11_fewest, d, 0, 0) 0 [(0, .ref 0), (1, .int x1), (2, .int x2), (3, .int x3)] [] (hp σ) 0 0 (kI k)
  refine j_aload_n (pc := 0) dX11_fewest_0 rfl ?_
  refine j_iload_n (pc := 1) dX11_fewest_1 rfl ?_
  refine j_iload_n (pc := 2) dX11_fewest_2 rfl ?_
  refine s_callV_i (pc := 3) (M1 := M_X11_isGoal) (n := 2) (as := [.int x1, .int x2]) (a := 0) (st := []) dX11_fewest_3 G_X11_isGoal wm_X11_246 (by decide +kernel) rfl (Nat.le_of_ble_eq_true rfl) shp_0 rfl (by show 1 ≤ d; omega) (Nat.le_of_ble_eq_true rfl) (Nat.zero_le _) (Nat.zero_le _) ?_
  refine C_X11_isGoal (d := d - 1) (by omega) ⟨fun c3 => ?_, fun c3 => ?_⟩
  · replace H := H.1 c3
    refine j_if_eq (pc := 6) (t := 25) dX11_fewest_6 (by decide) (fun q => absurd q (by decide)) (fun _ => ?_)
    refine j_iload_n (pc := 9) dX11_fewest_9 rfl ?_
    refine j_iconst (pc := 10) (v := -1) dX11_fewest_10 (by decide) ?_
    refine j_icmp_eq (pc := 11) (t := 27) dX11_fewest_11 (by decide) (fun c11 => ?_) (fun c11 => ?_)
    · replace H := H.1 c11
      refine j_aload_n (pc := 27) dX11_fewest_27 rfl ?_
      refine s_getr (pc := 28) dX11_fewest_28 fl_X11_35 shp_0 rfl ?_
      refine j_iconst (pc := 31) (v := 0) dX11_fewest_31 (by decide) ?_
      refine j_aload_n (pc := 32) dX11_fewest_32 rfl ?_
      refine s_getr (pc := 33) dX11_fewest_33 fl_X11_10 shp_0 rfl ?_
      refine s_geti (pc := 36) 67 (rg σ 67) dX11_fewest_36 fl_X11_146 shp_1 rfl rfl rfl ?_
      refine j_iconst (pc := 39) (v := 0) dX11_fewest_39 (by decide) ?_
      refine s_callV_v (pc := 40) (M1 := M_X6_weigh) (n := 3) (as := [.int 0, .int (rg σ 67), .int 0]) (a := 14) (st := []) dX11_fewest_40 G_X6_weigh wm_X11_205 (by decide +kernel) rfl (Nat.le_of_ble_eq_true rfl) shp_14 rfl (by show 1 ≤ d; omega) (Nat.le_of_ble_eq_true rfl) (Nat.zero_le _) (Nat.zero_le _) ?_
      refine CV.mono H (fun σ2 H => ?_)
      refine j_iload_n (pc := 43) dX11_fewest_43 rfl ?_
      refine j_if_lt (pc := 44) (t := 55) dX11_fewest_44 (by decide) (fun c44 => ?_) (fun c44 => ?_)
      · replace H := H.1 c44
        refine j_aload_n (pc := 55) dX11_fewest_55 rfl ?_
        refine j_iload_n (pc := 56) dX11_fewest_56 rfl ?_
        refine j_iload_n (pc := 57) dX11_fewest_57 rfl ?_
        refine s_callV_i (pc := 58) (M1 := M_X11_fewestTo) (n := 2) (as := [.int x1, .int x2]) (a := 0) (st := []) dX11_fewest_58 G_X11_fewestTo wm_X11_253 (by decide +kernel) rfl (Nat.le_of_ble_eq_true rfl) shp_0 rfl (by show 1 ≤ d; omega) (Nat.le_of_ble_eq_true rfl) (Nat.zero_le _) (Nat.zero_le _) ?_
        refine CI.mono H (fun r3 σ3 H => ?_)
        exact s_ireti (pc := 61) dX11_fewest_61 rfl H
      · replace H := H.2 c44
        refine j_aload_n (pc := 47) dX11_fewest_47 rfl ?_
        refine s_getr (pc := 48) dX11_fewest_48 fl_X11_35 shp_0 rfl ?_
        refine j_iload_n (pc := 51) dX11_fewest_51 rfl ?_
        refine s_callV_v (pc := 52) (M1 := M_X6_onlyWith) (n := 1) (as := [.int x3]) (a := 14) (st := []) dX11_fewest_52 G_X6_onlyWith wm_X11_249 (by decide +kernel) rfl (Nat.le_of_ble_eq_true rfl) shp_14 rfl (by show 1 ≤ d; omega) (Nat.le_of_ble_eq_true rfl) (Nat.zero_le _) (Nat.zero_le _) ?_
        refine CV.mono H (fun σ4 H => ?_)
        refine j_aload_n (pc := 55) dX11_fewest_55 rfl ?_
        refine j_iload_n (pc := 56) dX11_fewest_56 rfl ?_
        refine j_iload_n (pc := 57) dX11_fewest_57 rfl ?_
        refine s_callV_i (pc := 58) (M1 := M_X11_fewestTo) (n := 2) (as := [.int x1, .int x2]) (a := 0) (st := []) dX11_fewest_58 G_X11_fewestTo wm_X11_253 (by decide +kernel) rfl (Nat.le_of_ble_eq_true rfl) shp_0 rfl (by show 1 ≤ d; omega) (Nat.le_of_ble_eq_true rfl) (Nat.zero_le _) (Nat.zero_le _) ?_
        refine CI.mono H (fun r5 σ5 H => ?_)
        exact s_ireti (pc := 61) dX11_fewest_61 rfl H
    · replace H := H.2 c11
      refine j_aload_n (pc := 14) dX11_fewest_14 rfl ?_
      refine s_getr (pc := 15) dX11_fewest_15 fl_X11_10 shp_0 rfl ?_
      refine j_iload_n (pc := 18) dX11_fewest_18 rfl ?_
      refine s_callV_i (pc := 19) (M1 := M_X2_hasPerson) (n := 1) (as := [.int x3]) (a := 1) (st := []) dX11_fewest_19 G_X2_hasPerson wm_X11_142 (by decide +kernel) rfl (Nat.le_of_ble_eq_true rfl) shp_1 rfl (by show 1 ≤ d; omega) (Nat.le_of_ble_eq_true rfl) (Nat.zero_le _) (Nat.zero_le _) ?_
      refine C_X2_hasPerson (d := d - 1) (by omega) ⟨fun c19 => ?_, fun c19 => ?_⟩
      · replace H := H.1 c19
        refine j_if_ne (pc := 22) (t := 27) dX11_fewest_22 (by decide) (fun _ => ?_) (fun q => absurd q (by decide))
        refine j_aload_n (pc := 27) dX11_fewest_27 rfl ?_
        refine s_getr (pc := 28) dX11_fewest_28 fl_X11_35 shp_0 rfl ?_
        refine j_iconst (pc := 31) (v := 0) dX11_fewest_31 (by decide) ?_
        refine j_aload_n (pc := 32) dX11_fewest_32 rfl ?_
        refine s_getr (pc := 33) dX11_fewest_33 fl_X11_10 shp_0 rfl ?_
        refine s_geti (pc := 36) 67 (rg σ 67) dX11_fewest_36 fl_X11_146 shp_1 rfl rfl rfl ?_
        refine j_iconst (pc := 39) (v := 0) dX11_fewest_39 (by decide) ?_
        refine s_callV_v (pc := 40) (M1 := M_X6_weigh) (n := 3) (as := [.int 0, .int (rg σ 67), .int 0]) (a := 14) (st := []) dX11_fewest_40 G_X6_weigh wm_X11_205 (by decide +kernel) rfl (Nat.le_of_ble_eq_true rfl) shp_14 rfl (by show 1 ≤ d; omega) (Nat.le_of_ble_eq_true rfl) (Nat.zero_le _) (Nat.zero_le _) ?_
        refine CV.mono H (fun σ7 H => ?_)
        refine j_iload_n (pc := 43) dX11_fewest_43 rfl ?_
        refine j_if_lt (pc := 44) (t := 55) dX11_fewest_44 (by decide) (fun c44 => ?_) (fun c44 => ?_)
        · replace H := H.1 c44
          refine j_aload_n (pc := 55) dX11_fewest_55 rfl ?_
          refine j_iload_n (pc := 56) dX11_fewest_56 rfl ?_
          refine j_iload_n (pc := 57) dX11_fewest_57 rfl ?_
          refine s_callV_i (pc := 58) (M1 := M_X11_fewestTo) (n := 2) (as := [.int x1, .int x2]) (a := 0) (st := []) dX11_fewest_58 G_X11_fewestTo wm_X11_253 (by decide +kernel) rfl (Nat.le_of_ble_eq_true rfl) shp_0 rfl (by show 1 ≤ d; omega) (Nat.le_of_ble_eq_true rfl) (Nat.zero_le _) (Nat.zero_le _) ?_
          refine CI.mono H (fun r8 σ8 H => ?_)
          exact s_ireti (pc := 61) dX11_fewest_61 rfl H
        · replace H := H.2 c44
          refine j_aload_n (pc := 47) dX11_fewest_47 rfl ?_
          refine s_getr (pc := 48) dX11_fewest_48 fl_X11_35 shp_0 rfl ?_
          refine j_iload_n (pc := 51) dX11_fewest_51 rfl ?_
          refine s_callV_v (pc := 52) (M1 := M_X6_onlyWith) (n := 1) (as := [.int x3]) (a := 14) (st := []) dX11_fewest_52 G_X6_onlyWith wm_X11_249 (by decide +kernel) rfl (Nat.le_of_ble_eq_true rfl) shp_14 rfl (by show 1 ≤ d; omega) (Nat.le_of_ble_eq_true rfl) (Nat.zero_le _) (Nat.zero_le _) ?_
          refine CV.mono H (fun σ9 H => ?_)
          refine j_aload_n (pc := 55) dX11_fewest_55 rfl ?_
          refine j_iload_n (pc := 56) dX11_fewest_56 rfl ?_
          refine j_iload_n (pc := 57) dX11_fewest_57 rfl ?_
          refine s_callV_i (pc := 58) (M1 := M_X11_fewestTo) (n := 2) (as := [.int x1, .int x2]) (a := 0) (st := []) dX11_fewest_58 G_X11_fewestTo wm_X11_253 (by decide +kernel) rfl (Nat.le_of_ble_eq_true rfl) shp_0 rfl (by show 1 ≤ d; omega) (Nat.le_of_ble_eq_true rfl) (Nat.zero_le _) (Nat.zero_le _) ?_
          refine CI.mono H (fun r10 σ10 H => ?_)
          exact s_ireti (pc := 61) dX11_fewest_61 rfl H
      · replace H := H.2 c19
        refine j_if_ne (pc := 22) (t := 27) dX11_fewest_22 (by decide) (fun q => absurd q (by decide)) (fun _ => ?_)
        refine j_iconst (pc := 25) (v := -1) dX11_fewest_25 (by decide) ?_
        exact s_ireti (pc := 26) dX11_fewest_26 rfl H
  · replace H := H.2 c3
    refine j_if_eq (pc := 6) (t := 25) dX11_fewest_6 (by decide) (fun _ => ?_) (fun q => absurd q (by decide))
    refine j_iconst (pc := 25) (v := -1) dX11_fewest_25 (by decide) ?_
    exact s_ireti (pc := 26) dX11_fewest_26 rfl H
set_option maxRecDepth 20000 in
theorem b_X11_first_0 {l : Launch} {g : am_G} {d : Nat} {σ : am_S} {k : Int32 → am_S → Prop}  {x1 x2 : Int32} (hd : 2 ≤ d) (H : (((¬ x1 ≤ 0 ∧ ¬ (1 : Int32) <<< ((rg σ 66) &&& 31) ≤ x1 ∧ (¬ x2 < 0 ∧ ¬ rg σ 64 ≤ x2)) → CV l g M_X6_weigh (d - 1) [.ref 14, .int 0, .int (rg σ 67), .int 0] σ (fun σ2 => CI l g M_X2_arrangement (d - 1) [.ref 1] σ2 (fun r3 σ3 => CI l g M_X11_pattern (d - 1) [.int x1] σ3 (fun r4 σ4 => CI l g M_X11_pattern (d - 1) [.int x1] σ4 (fun r5 σ5 => CI l g M_X7_find (d - 1) [.ref 19, .ref 14, .int r3, .int (3 * r4), .int (x2 * r5)] σ5 (fun r6 σ6 => ((0 ≤ r6 → ((¬ r6 = 0 → (vp_in r6 630 ∧ k (ar σ6 26 r6.toNatClampNeg) σ6)) ∧ (r6 = 0 → k (-5) σ6))) ∧ (¬ 0 ≤ r6 → k (-2) σ6)))))))) ∧ (¬ (¬ x1 ≤ 0 ∧ ¬ (1 : Int32) <<< ((rg σ 66) &&& 31) ≤ x1 ∧ (¬ x2 < 0 ∧ ¬ rg σ 64 ≤ x2)) → k (-1) σ))) : CI l g M_X11_first d [.ref 0, .int x1, .int x2] σ k := by
  show J l g (M_X11_first, d, 0, 0) 0 [(0, .ref 0), (1, .int x1), (2, .int x2)] [] (hp σ) 0 0 (kI k)
  refine j_aload_n (pc := 0) dX11_first_0 rfl ?_
  refine j_iload_n (pc := 1) dX11_first_1 rfl ?_
  refine j_iload_n (pc := 2) dX11_first_2 rfl ?_
  refine s_callV_i (pc := 3) (M1 := M_X11_isGoal) (n := 2) (as := [.int x1, .int x2]) (a := 0) (st := []) dX11_first_3 G_X11_isGoal wm_X11_246 (by decide +kernel) rfl (Nat.le_of_ble_eq_true rfl) shp_0 rfl (by show 1 ≤ d; omega) (Nat.le_of_ble_eq_true rfl) (Nat.zero_le _) (Nat.zero_le _) ?_
  refine C_X11_isGoal (d := d - 1) (by omega) ⟨fun c3 => ?_, fun c3 => ?_⟩
  · replace H := H.1 c3
    refine j_if_ne (pc := 6) (t := 11) dX11_first_6 (by decide) (fun _ => ?_) (fun q => absurd q (by decide))
    refine j_aload_n (pc := 11) dX11_first_11 rfl ?_
    refine s_getr (pc := 12) dX11_first_12 fl_X11_35 shp_0 rfl ?_
    refine j_iconst (pc := 15) (v := 0) dX11_first_15 (by decide) ?_
    refine j_aload_n (pc := 16) dX11_first_16 rfl ?_
    refine s_getr (pc := 17) dX11_first_17 fl_X11_10 shp_0 rfl ?_
    refine s_geti (pc := 20) 67 (rg σ 67) dX11_first_20 fl_X11_146 shp_1 rfl rfl rfl ?_
    refine j_iconst (pc := 23) (v := 0) dX11_first_23 (by decide) ?_
    refine s_callV_v (pc := 24) (M1 := M_X6_weigh) (n := 3) (as := [.int 0, .int (rg σ 67), .int 0]) (a := 14) (st := []) dX11_first_24 G_X6_weigh wm_X11_205 (by decide +kernel) rfl (Nat.le_of_ble_eq_true rfl) shp_14 rfl (by show 1 ≤ d; omega) (Nat.le_of_ble_eq_true rfl) (Nat.zero_le _) (Nat.zero_le _) ?_
    refine CV.mono H (fun σ2 H => ?_)
    refine j_aload_n (pc := 27) dX11_first_27 rfl ?_
    refine s_getr (pc := 28) dX11_first_28 fl_X11_42 shp_0 rfl ?_
    refine j_aload_n (pc := 31) dX11_first_31 rfl ?_
    refine s_getr (pc := 32) dX11_first_32 fl_X11_35 shp_0 rfl ?_
    refine j_aload_n (pc := 35) dX11_first_35 rfl ?_
    refine s_getr (pc := 36) dX11_first_36 fl_X11_10 shp_0 rfl ?_
    refine s_callV_i (pc := 39) (M1 := M_X2_arrangement) (n := 0) (as := []) (a := 1) (st := [.ref 14, .ref 19]) dX11_first_39 G_X2_arrangement wm_X11_198 (by decide +kernel) rfl (Nat.le_of_ble_eq_true rfl) shp_1 rfl (by show 1 ≤ d; omega) (Nat.le_of_ble_eq_true rfl) (Nat.zero_le _) (Nat.zero_le _) ?_
    refine CI.mono H (fun r3 σ3 H => ?_)
    refine j_iconst (pc := 42) (v := 3) dX11_first_42 (by decide) ?_
    refine j_iload_n (pc := 43) dX11_first_43 rfl ?_
    refine s_callS_i (pc := 44) (M1 := M_X11_pattern) (n := 1) (as := [.int x1]) (st := [.int 3, .int r3, .ref 14, .ref 19]) dX11_first_44 G_X11_pattern wm_X11_256 (by decide +kernel) rfl (Nat.le_of_ble_eq_true rfl) (by show 1 ≤ d; omega) (Nat.le_of_ble_eq_true rfl) ?_
    refine CI.mono H (fun r4 σ4 H => ?_)
    refine j_imul (pc := 47) dX11_first_47 ?_
    refine j_iload_n (pc := 48) dX11_first_48 rfl ?_
    refine j_iload_n (pc := 49) dX11_first_49 rfl ?_
    refine s_callS_i (pc := 50) (M1 := M_X11_pattern) (n := 1) (as := [.int x1]) (st := [.int x2, .int (3 * r4), .int r3, .ref 14, .ref 19]) dX11_first_50 G_X11_pattern wm_X11_256 (by decide +kernel) rfl (Nat.le_of_ble_eq_true rfl) (by show 1 ≤ d; omega) (Nat.le_of_ble_eq_true rfl) ?_
    refine CI.mono H (fun r5 σ5 H => ?_)
    refine j_imul (pc := 53) dX11_first_53 ?_
    refine s_callV_i (pc := 54) (M1 := M_X7_find) (n := 4) (as := [.ref 14, .int r3, .int (3 * r4), .int (x2 * r5)]) (a := 19) (st := []) dX11_first_54 G_X7_find wm_X11_259 (by decide +kernel) rfl (Nat.le_of_ble_eq_true rfl) shp_19 rfl (by show 1 ≤ d; omega) (Nat.le_of_ble_eq_true rfl) (Nat.zero_le _) (Nat.zero_le _) ?_
    refine CI.mono H (fun r6 σ6 H => ?_)
    refine j_istore_n (pc := 57) (lv1 := [(3, .int r6), (0, .ref 0), (1, .int x1), (2, .int x2)]) dX11_first_57 (Nat.le_of_ble_eq_true rfl) rfl ?_
    refine j_iload_n (pc := 58) dX11_first_58 rfl ?_
    refine j_if_ge (pc := 59) (t := 65) dX11_first_59 (by decide) (fun c59 => ?_) (fun c59 => ?_)
    · replace H := H.1 c59
      refine j_iload_n (pc := 65) dX11_first_65 rfl ?_
      refine j_if_ne (pc := 66) (t := 74) dX11_first_66 (by decide) (fun c66 => ?_) (fun c66 => ?_)
      · replace H := H.1 c66
        refine j_aload_n (pc := 74) dX11_first_74 rfl ?_
        refine s_getr (pc := 75) dX11_first_75 fl_X11_42 shp_0 rfl ?_
        refine s_getr (pc := 78) dX11_first_78 fl_X11_263 shp_19 rfl ?_
        refine j_iload_n (pc := 81) dX11_first_81 rfl ?_
        have b82 := H.1
        replace H := H.2
        refine s_iald (pc := 82) (ar σ6 26 r6.toNatClampNeg) dX11_first_82 shp_26 b82 rfl ?_
        exact s_ireti (pc := 83) dX11_first_83 rfl H
      · replace H := H.2 c66
        refine j_bipush (pc := 69) (v := -5) dX11_first_69 (by decide) ?_
        refine j_goto (pc := 71) (t := 83) dX11_first_71 (by decide) ?_
        exact s_ireti (pc := 83) dX11_first_83 rfl H
    · replace H := H.2 c59
      refine j_bipush (pc := 62) (v := -2) dX11_first_62 (by decide) ?_
      exact s_ireti (pc := 64) dX11_first_64 rfl H
  · replace H := H.2 c3
    refine j_if_ne (pc := 6) (t := 11) dX11_first_6 (by decide) (fun q => absurd q (by decide)) (fun _ => ?_)
    refine j_iconst (pc := 9) (v := -1) dX11_first_9 (by decide) ?_
    exact s_ireti (pc := 10) dX11_first_10 rfl H
set_option maxRecDepth 20000 in
theorem b_X11_turn_0 {l : Launch} {g : am_G} {d : Nat} {σ : am_S} {k : Int32 → am_S → Prop}  {x1 x2 : Int32} (hd : 2 ≤ d) (H : (((¬ x1 ≤ 0 ∧ ¬ (1 : Int32) <<< ((rg σ 66) &&& 31) ≤ x1 ∧ (¬ x2 < 0 ∧ ¬ rg σ 64 ≤ x2)) → JI l g M_X11_turn d 24 [(0, .ref 0), (1, .int x1), (2, .int x2), (3, .int ((1 : Int32) <<< ((rg σ 65) &&& 31))), (4, .int 0)] [] σ k) ∧ (¬ (¬ x1 ≤ 0 ∧ ¬ (1 : Int32) <<< ((rg σ 66) &&& 31) ≤ x1 ∧ (¬ x2 < 0 ∧ ¬ rg σ 64 ≤ x2)) → k (-1) σ))) : CI l g M_X11_turn d [.ref 0, .int x1, .int x2] σ k := by
  show J l g (M_X11_turn, d, 0, 0) 0 [(0, .ref 0), (1, .int x1), (2, .int x2)] [] (hp σ) 0 0 (kI k)
  refine j_aload_n (pc := 0) dX11_turn_0 rfl ?_
  refine j_iload_n (pc := 1) dX11_turn_1 rfl ?_
  refine j_iload_n (pc := 2) dX11_turn_2 rfl ?_
  refine s_callV_i (pc := 3) (M1 := M_X11_isGoal) (n := 2) (as := [.int x1, .int x2]) (a := 0) (st := []) dX11_turn_3 G_X11_isGoal wm_X11_246 (by decide +kernel) rfl (Nat.le_of_ble_eq_true rfl) shp_0 rfl (by show 1 ≤ d; omega) (Nat.le_of_ble_eq_true rfl) (Nat.zero_le _) (Nat.zero_le _) ?_
  refine C_X11_isGoal (d := d - 1) (by omega) ⟨fun c3 => ?_, fun c3 => ?_⟩
  · replace H := H.1 c3
    refine j_if_ne (pc := 6) (t := 11) dX11_turn_6 (by decide) (fun _ => ?_) (fun q => absurd q (by decide))
    refine j_iconst (pc := 11) (v := 1) dX11_turn_11 (by decide) ?_
    refine j_aload_n (pc := 12) dX11_turn_12 rfl ?_
    refine s_getr (pc := 13) dX11_turn_13 fl_X11_10 shp_0 rfl ?_
    refine s_geti (pc := 16) 65 (rg σ 65) dX11_turn_16 fl_X11_266 shp_1 rfl rfl rfl ?_
    refine j_ishl (pc := 19) dX11_turn_19 ?_
    refine j_istore_n (pc := 20) (lv1 := [(3, .int ((1 : Int32) <<< ((rg σ 65) &&& 31))), (0, .ref 0), (1, .int x1), (2, .int x2)]) dX11_turn_20 (Nat.le_of_ble_eq_true rfl) rfl ?_
    refine j_iconst (pc := 21) (v := 0) dX11_turn_21 (by decide) ?_
    refine j_istore (pc := 22) (lv1 := [(4, .int 0), (3, .int ((1 : Int32) <<< ((rg σ 65) &&& 31))), (0, .ref 0), (1, .int x1), (2, .int x2)]) dX11_turn_22 (Nat.le_of_ble_eq_true rfl) rfl ?_
    refine j_sub [2, 3, 4, 1, 0] rfl ?_
    exact H
  · replace H := H.2 c3
    refine j_if_ne (pc := 6) (t := 11) dX11_turn_6 (by decide) (fun q => absurd q (by decide)) (fun _ => ?_)
    refine j_iconst (pc := 9) (v := -1) dX11_turn_9 (by decide) ?_
    exact s_ireti (pc := 10) dX11_turn_10 rfl H
set_option maxRecDepth 20000 in
theorem b_X11_turn_24 {l : Launch} {g : am_G} {d : Nat} {σ : am_S} {k : Int32 → am_S → Prop}  {x1 x2 x3 x4 : Int32} (H : ((rg σ 65 < x4 → k (-2) σ) ∧ (¬ rg σ 65 < x4 → JI l g M_X11_turn d 39 [(0, .ref 0), (1, .int x1), (2, .int x2), (3, .int x3), (4, .int x4), (5, .int 0)] [] σ k))) : JI l g M_X11_turn d 24 [(0, .ref 0), (1, .int x1), (2, .int x2), (3, .int x3), (4, .int x4)] [] σ k := by
  show J l g (M_X11_turn, d, 0, 0) 24 [(0, .ref 0), (1, .int x1), (2, .int x2), (3, .int x3), (4, .int x4)] [] (hp σ) 0 0 (kI k)
  refine j_iload (pc := 24) dX11_turn_24 rfl ?_
  refine j_aload_n (pc := 26) dX11_turn_26 rfl ?_
  refine s_getr (pc := 27) dX11_turn_27 fl_X11_10 shp_0 rfl ?_
  refine s_geti (pc := 30) 65 (rg σ 65) dX11_turn_30 fl_X11_266 shp_1 rfl rfl rfl ?_
  refine j_icmp_gt (pc := 33) (t := 99) dX11_turn_33 (by decide) (fun c33 => ?_) (fun c33 => ?_)
  · replace H := H.1 c33
    refine j_bipush (pc := 99) (v := -2) dX11_turn_99 (by decide) ?_
    exact s_ireti (pc := 101) dX11_turn_101 rfl H
  · replace H := H.2 c33
    refine j_iconst (pc := 36) (v := 0) dX11_turn_36 (by decide) ?_
    refine j_istore (pc := 37) (lv1 := [(5, .int 0), (0, .ref 0), (1, .int x1), (2, .int x2), (3, .int x3), (4, .int x4)]) dX11_turn_37 (Nat.le_of_ble_eq_true rfl) rfl ?_
    refine j_sub [1, 2, 3, 4, 5, 0] rfl ?_
    exact H
set_option maxRecDepth 20000 in
theorem b_X11_turn_39 {l : Launch} {g : am_G} {d : Nat} {σ : am_S} {k : Int32 → am_S → Prop}  {x1 x2 x3 x4 x5 : Int32} (hd : 1 ≤ d) (H : ((x3 ≤ x5 → JI l g M_X11_turn d 24 [(0, .ref 0), (1, .int x1), (2, .int x2), (3, .int x3), (4, .int (x4 + 1))] [] σ k) ∧ (¬ x3 ≤ x5 → (((((((((x5 - (((x5.toUInt32 >>> ((1 : Int32).toUInt32 &&& Int32.toUInt32 31)).toInt32) &&& 1431655765)) &&& 858993459) + ((((x5 - (((x5.toUInt32 >>> ((1 : Int32).toUInt32 &&& Int32.toUInt32 31)).toInt32) &&& 1431655765)).toUInt32 >>> ((2 : Int32).toUInt32 &&& Int32.toUInt32 31)).toInt32) &&& 858993459)) + (((((x5 - (((x5.toUInt32 >>> ((1 : Int32).toUInt32 &&& Int32.toUInt32 31)).toInt32) &&& 1431655765)) &&& 858993459) + ((((x5 - (((x5.toUInt32 >>> ((1 : Int32).toUInt32 &&& Int32.toUInt32 31)).toInt32) &&& 1431655765)).toUInt32 >>> ((2 : Int32).toUInt32 &&& Int32.toUInt32 31)).toInt32) &&& 858993459)).toUInt32 >>> ((4 : Int32).toUInt32 &&& Int32.toUInt32 31)).toInt32)) &&& 252645135) + (((((((x5 - (((x5.toUInt32 >>> ((1 : Int32).toUInt32 &&& Int32.toUInt32 31)).toInt32) &&& 1431655765)) &&& 858993459) + ((((x5 - (((x5.toUInt32 >>> ((1 : Int32).toUInt32 &&& Int32.toUInt32 31)).toInt32) &&& 1431655765)).toUInt32 >>> ((2 : Int32).toUInt32 &&& Int32.toUInt32 31)).toInt32) &&& 858993459)) + (((((x5 - (((x5.toUInt32 >>> ((1 : Int32).toUInt32 &&& Int32.toUInt32 31)).toInt32) &&& 1431655765)) &&& 858993459) + ((((x5 - (((x5.toUInt32 >>> ((1 : Int32).toUInt32 &&& Int32.toUInt32 31)).toInt32) &&& 1431655765)).toUInt32 >>> ((2 : Int32).toUInt32 &&& Int32.toUInt32 31)).toInt32) &&& 858993459)).toUInt32 >>> ((4 : Int32).toUInt32 &&& Int32.toUInt32 31)).toInt32)) &&& 252645135).toUInt32 >>> ((8 : Int32).toUInt32 &&& Int32.toUInt32 31)).toInt32)) + ((((((((x5 - (((x5.toUInt32 >>> ((1 : Int32).toUInt32 &&& Int32.toUInt32 31)).toInt32) &&& 1431655765)) &&& 858993459) + ((((x5 - (((x5.toUInt32 >>> ((1 : Int32).toUInt32 &&& Int32.toUInt32 31)).toInt32) &&& 1431655765)).toUInt32 >>> ((2 : Int32).toUInt32 &&& Int32.toUInt32 31)).toInt32) &&& 858993459)) + (((((x5 - (((x5.toUInt32 >>> ((1 : Int32).toUInt32 &&& Int32.toUInt32 31)).toInt32) &&& 1431655765)) &&& 858993459) + ((((x5 - (((x5.toUInt32 >>> ((1 : Int32).toUInt32 &&& Int32.toUInt32 31)).toInt32) &&& 1431655765)).toUInt32 >>> ((2 : Int32).toUInt32 &&& Int32.toUInt32 31)).toInt32) &&& 858993459)).toUInt32 >>> ((4 : Int32).toUInt32 &&& Int32.toUInt32 31)).toInt32)) &&& 252645135) + (((((((x5 - (((x5.toUInt32 >>> ((1 : Int32).toUInt32 &&& Int32.toUInt32 31)).toInt32) &&& 1431655765)) &&& 858993459) + ((((x5 - (((x5.toUInt32 >>> ((1 : Int32).toUInt32 &&& Int32.toUInt32 31)).toInt32) &&& 1431655765)).toUInt32 >>> ((2 : Int32).toUInt32 &&& Int32.toUInt32 31)).toInt32) &&& 858993459)) + (((((x5 - (((x5.toUInt32 >>> ((1 : Int32).toUInt32 &&& Int32.toUInt32 31)).toInt32) &&& 1431655765)) &&& 858993459) + ((((x5 - (((x5.toUInt32 >>> ((1 : Int32).toUInt32 &&& Int32.toUInt32 31)).toInt32) &&& 1431655765)).toUInt32 >>> ((2 : Int32).toUInt32 &&& Int32.toUInt32 31)).toInt32) &&& 858993459)).toUInt32 >>> ((4 : Int32).toUInt32 &&& Int32.toUInt32 31)).toInt32)) &&& 252645135).toUInt32 >>> ((8 : Int32).toUInt32 &&& Int32.toUInt32 31)).toInt32)).toUInt32 >>> ((16 : Int32).toUInt32 &&& Int32.toUInt32 31)).toInt32)) &&& 63 = x4 → CV l g M_X6_weigh (d - 1) [.ref 14, .int 0, .int (rg σ 67), .int x5] σ (fun σ1 => CI l g M_X11_fewestTo (d - 1) [.ref 0, .int x1, .int x2] σ1 (fun r2 σ2 => ((r2 < 0 → JI l g M_X11_turn d 39 [(0, .ref 0), (1, .int x1), (2, .int x2), (3, .int x3), (4, .int x4), (5, .int (x5 + 1))] [] σ2 k) ∧ (¬ r2 < 0 → k x5 σ2))))) ∧ (¬ (((((((x5 - (((x5.toUInt32 >>> ((1 : Int32).toUInt32 &&& Int32.toUInt32 31)).toInt32) &&& 1431655765)) &&& 858993459) + ((((x5 - (((x5.toUInt32 >>> ((1 : Int32).toUInt32 &&& Int32.toUInt32 31)).toInt32) &&& 1431655765)).toUInt32 >>> ((2 : Int32).toUInt32 &&& Int32.toUInt32 31)).toInt32) &&& 858993459)) + (((((x5 - (((x5.toUInt32 >>> ((1 : Int32).toUInt32 &&& Int32.toUInt32 31)).toInt32) &&& 1431655765)) &&& 858993459) + ((((x5 - (((x5.toUInt32 >>> ((1 : Int32).toUInt32 &&& Int32.toUInt32 31)).toInt32) &&& 1431655765)).toUInt32 >>> ((2 : Int32).toUInt32 &&& Int32.toUInt32 31)).toInt32) &&& 858993459)).toUInt32 >>> ((4 : Int32).toUInt32 &&& Int32.toUInt32 31)).toInt32)) &&& 252645135) + (((((((x5 - (((x5.toUInt32 >>> ((1 : Int32).toUInt32 &&& Int32.toUInt32 31)).toInt32) &&& 1431655765)) &&& 858993459) + ((((x5 - (((x5.toUInt32 >>> ((1 : Int32).toUInt32 &&& Int32.toUInt32 31)).toInt32) &&& 1431655765)).toUInt32 >>> ((2 : Int32).toUInt32 &&& Int32.toUInt32 31)).toInt32) &&& 858993459)) + (((((x5 - (((x5.toUInt32 >>> ((1 : Int32).toUInt32 &&& Int32.toUInt32 31)).toInt32) &&& 1431655765)) &&& 858993459) + ((((x5 - (((x5.toUInt32 >>> ((1 : Int32).toUInt32 &&& Int32.toUInt32 31)).toInt32) &&& 1431655765)).toUInt32 >>> ((2 : Int32).toUInt32 &&& Int32.toUInt32 31)).toInt32) &&& 858993459)).toUInt32 >>> ((4 : Int32).toUInt32 &&& Int32.toUInt32 31)).toInt32)) &&& 252645135).toUInt32 >>> ((8 : Int32).toUInt32 &&& Int32.toUInt32 31)).toInt32)) + ((((((((x5 - (((x5.toUInt32 >>> ((1 : Int32).toUInt32 &&& Int32.toUInt32 31)).toInt32) &&& 1431655765)) &&& 858993459) + ((((x5 - (((x5.toUInt32 >>> ((1 : Int32).toUInt32 &&& Int32.toUInt32 31)).toInt32) &&& 1431655765)).toUInt32 >>> ((2 : Int32).toUInt32 &&& Int32.toUInt32 31)).toInt32) &&& 858993459)) + (((((x5 - (((x5.toUInt32 >>> ((1 : Int32).toUInt32 &&& Int32.toUInt32 31)).toInt32) &&& 1431655765)) &&& 858993459) + ((((x5 - (((x5.toUInt32 >>> ((1 : Int32).toUInt32 &&& Int32.toUInt32 31)).toInt32) &&& 1431655765)).toUInt32 >>> ((2 : Int32).toUInt32 &&& Int32.toUInt32 31)).toInt32) &&& 858993459)).toUInt32 >>> ((4 : Int32).toUInt32 &&& Int32.toUInt32 31)).toInt32)) &&& 252645135) + (((((((x5 - (((x5.toUInt32 >>> ((1 : Int32).toUInt32 &&& Int32.toUInt32 31)).toInt32) &&& 1431655765)) &&& 858993459) + ((((x5 - (((x5.toUInt32 >>> ((1 : Int32).toUInt32 &&& Int32.toUInt32 31)).toInt32) &&& 1431655765)).toUInt32 >>> ((2 : Int32).toUInt32 &&& Int32.toUInt32 31)).toInt32) &&& 858993459)) + (((((x5 - (((x5.toUInt32 >>> ((1 : Int32).toUInt32 &&& Int32.toUInt32 31)).toInt32) &&& 1431655765)) &&& 858993459) + ((((x5 - (((x5.toUInt32 >>> ((1 : Int32).toUInt32 &&& Int32.toUInt32 31)).toInt32) &&& 1431655765)).toUInt32 >>> ((2 : Int32).toUInt32 &&& Int32.toUInt32 31)).toInt32) &&& 858993459)).toUInt32 >>> ((4 : Int32).toUInt32 &&& Int32.toUInt32 31)).toInt32)) &&& 252645135).toUInt32 >>> ((8 : Int32).toUInt32 &&& Int32.toUInt32 31)).toInt32)).toUInt32 >>> ((16 : Int32).toUInt32 &&& Int32.toUInt32 31)).toInt32)) &&& 63 = x4 → JI l g M_X11_turn d 39 [(0, .ref 0), (1, .int x1), (2, .int x2), (3, .int x3), (4, .int x4), (5, .int (x5 + 1))] [] σ k))))) : JI l g M_X11_turn d 39 [(0, .ref 0), (1, .int x1), (2, .int x2), (3, .int x3), (4, .int x4), (5, .int x5)] [] σ k := by
  show J l g (M_X11_turn, d, 0, 0) 39 [(0, .ref 0), (1, .int x1), (2, .int x2), (3, .int x3), (4, .int x4), (5, .int x5)] [] (hp σ) 0 0 (kI k)
  refine j_iload (pc := 39) dX11_turn_39 rfl ?_
  refine j_iload_n (pc := 41) dX11_turn_41 rfl ?_
  refine j_icmp_ge (pc := 42) (t := 93) dX11_turn_42 (by decide) (fun c42 => ?_) (fun c42 => ?_)
  · replace H := H.1 c42
    refine j_iinc (pc := 93) (k := 4) (v := x4 + 1) (lv1 := [(4, .int (x4 + 1)), (0, .ref 0), (1, .int x1), (2, .int x2), (3, .int x3), (5, .int x5)]) dX11_turn_93 rfl rfl (Nat.le_of_ble_eq_true rfl) rfl ?_
    refine j_goto (pc := 96) (t := 24) dX11_turn_96 (by decide) ?_
    refine j_sub [1, 2, 3, 4, 0] rfl ?_
    exact H
  · replace H := H.2 c42
    refine j_iload (pc := 45) dX11_turn_45 rfl ?_
    refine s_callS_i (pc := 47) (M1 := M_J6_bitCount_0f7a4) (n := 1) (as := [.int x5]) (st := []) dX11_turn_47 G_J6_bitCount_0f7a4 wm_X11_269 (by decide +kernel) rfl (Nat.le_of_ble_eq_true rfl) (by show 1 ≤ d; omega) (Nat.le_of_ble_eq_true rfl) ?_
    refine C_J6_bitCount_0f7a4 (d := d - 1) (by omega) ?_
    refine j_iload (pc := 50) dX11_turn_50 rfl ?_
    refine j_icmp_eq (pc := 52) (t := 58) dX11_turn_52 (by decide) (fun c52 => ?_) (fun c52 => ?_)
    · replace H := H.1 c52
      refine j_aload_n (pc := 58) dX11_turn_58 rfl ?_
      refine s_getr (pc := 59) dX11_turn_59 fl_X11_35 shp_0 rfl ?_
      refine j_iconst (pc := 62) (v := 0) dX11_turn_62 (by decide) ?_
      refine j_aload_n (pc := 63) dX11_turn_63 rfl ?_
      refine s_getr (pc := 64) dX11_turn_64 fl_X11_10 shp_0 rfl ?_
      refine s_geti (pc := 67) 67 (rg σ 67) dX11_turn_67 fl_X11_146 shp_1 rfl rfl rfl ?_
      refine j_iload (pc := 70) dX11_turn_70 rfl ?_
      refine s_callV_v (pc := 72) (M1 := M_X6_weigh) (n := 3) (as := [.int 0, .int (rg σ 67), .int x5]) (a := 14) (st := []) dX11_turn_72 G_X6_weigh wm_X11_205 (by decide +kernel) rfl (Nat.le_of_ble_eq_true rfl) shp_14 rfl (by show 1 ≤ d; omega) (Nat.le_of_ble_eq_true rfl) (Nat.zero_le _) (Nat.zero_le _) ?_
      refine CV.mono H (fun σ1 H => ?_)
      refine j_aload_n (pc := 75) dX11_turn_75 rfl ?_
      refine j_iload_n (pc := 76) dX11_turn_76 rfl ?_
      refine j_iload_n (pc := 77) dX11_turn_77 rfl ?_
      refine s_callV_i (pc := 78) (M1 := M_X11_fewestTo) (n := 2) (as := [.int x1, .int x2]) (a := 0) (st := []) dX11_turn_78 G_X11_fewestTo wm_X11_253 (by decide +kernel) rfl (Nat.le_of_ble_eq_true rfl) shp_0 rfl (by show 1 ≤ d; omega) (Nat.le_of_ble_eq_true rfl) (Nat.zero_le _) (Nat.zero_le _) ?_
      refine CI.mono H (fun r2 σ2 H => ?_)
      refine j_if_lt (pc := 81) (t := 87) dX11_turn_81 (by decide) (fun c81 => ?_) (fun c81 => ?_)
      · replace H := H.1 c81
        refine j_iinc (pc := 87) (k := 5) (v := x5 + 1) (lv1 := [(5, .int (x5 + 1)), (0, .ref 0), (1, .int x1), (2, .int x2), (3, .int x3), (4, .int x4)]) dX11_turn_87 rfl rfl (Nat.le_of_ble_eq_true rfl) rfl ?_
        refine j_goto (pc := 90) (t := 39) dX11_turn_90 (by decide) ?_
        refine j_sub [1, 2, 3, 4, 5, 0] rfl ?_
        exact H
      · replace H := H.2 c81
        refine j_iload (pc := 84) dX11_turn_84 rfl ?_
        exact s_ireti (pc := 86) dX11_turn_86 rfl H
    · replace H := H.2 c52
      refine j_goto (pc := 55) (t := 87) dX11_turn_55 (by decide) ?_
      refine j_iinc (pc := 87) (k := 5) (v := x5 + 1) (lv1 := [(5, .int (x5 + 1)), (0, .ref 0), (1, .int x1), (2, .int x2), (3, .int x3), (4, .int x4)]) dX11_turn_87 rfl rfl (Nat.le_of_ble_eq_true rfl) rfl ?_
      refine j_goto (pc := 90) (t := 39) dX11_turn_90 (by decide) ?_
      refine j_sub [1, 2, 3, 4, 5, 0] rfl ?_
      exact H
set_option maxRecDepth 20000 in
theorem b_X11_boots_0 {l : Launch} {g : am_G} {d : Nat} {σ : am_S} {k : Int32 → am_S → Prop}  {x1 x2 x3 : Int32} (hd : 2 ≤ d) (H : (((¬ x1 ≤ 0 ∧ ¬ (1 : Int32) <<< ((rg σ 66) &&& 31) ≤ x1 ∧ (¬ x2 < 0 ∧ ¬ rg σ 64 ≤ x2)) → ((x3 < 0 → k (-2000000000) σ) ∧ (¬ x3 < 0 → ((x3 ≤ 1 → JI l g M_X11_boots d 31 [(0, .ref 0), (1, .int x1), (2, .int x2), (3, .int x3), (4, .int (-2)), (5, .int (-1)), (6, .int (-1))] [] σ k) ∧ (¬ x3 ≤ 1 → k (-2000000000) σ))))) ∧ (¬ (¬ x1 ≤ 0 ∧ ¬ (1 : Int32) <<< ((rg σ 66) &&& 31) ≤ x1 ∧ (¬ x2 < 0 ∧ ¬ rg σ 64 ≤ x2)) → k (-2000000000) σ))) : CI l g M_X11_boots d [.ref 0, .int x1, .int x2, .int x3] σ k := by
  show J l g (M_X11_boots, d, 0, 0) 0 [(0, .ref 0), (1, .int x1), (2, .int x2), (3, .int x3)] [] (hp σ) 0 0 (kI k)
  refine j_aload_n (pc := 0) dX11_boots_0 rfl ?_
  refine j_iload_n (pc := 1) dX11_boots_1 rfl ?_
  refine j_iload_n (pc := 2) dX11_boots_2 rfl ?_
  refine s_callV_i (pc := 3) (M1 := M_X11_isGoal) (n := 2) (as := [.int x1, .int x2]) (a := 0) (st := []) dX11_boots_3 G_X11_isGoal wm_X11_246 (by decide +kernel) rfl (Nat.le_of_ble_eq_true rfl) shp_0 rfl (by show 1 ≤ d; omega) (Nat.le_of_ble_eq_true rfl) (Nat.zero_le _) (Nat.zero_le _) ?_
  refine C_X11_isGoal (d := d - 1) (by omega) ⟨fun c3 => ?_, fun c3 => ?_⟩
  · replace H := H.1 c3
    refine j_if_eq (pc := 6) (t := 18) dX11_boots_6 (by decide) (fun q => absurd q (by decide)) (fun _ => ?_)
    refine j_iload_n (pc := 9) dX11_boots_9 rfl ?_
    refine j_if_lt (pc := 10) (t := 18) dX11_boots_10 (by decide) (fun c10 => ?_) (fun c10 => ?_)
    · replace H := H.1 c10
      refine j_ldc (pc := 18) dX11_boots_18 wk_X11_145 ?_
      exact s_ireti (pc := 20) dX11_boots_20 rfl H
    · replace H := H.2 c10
      refine j_iload_n (pc := 13) dX11_boots_13 rfl ?_
      refine j_iconst (pc := 14) (v := 1) dX11_boots_14 (by decide) ?_
      refine j_icmp_le (pc := 15) (t := 21) dX11_boots_15 (by decide) (fun c15 => ?_) (fun c15 => ?_)
      · replace H := H.1 c15
        refine j_bipush (pc := 21) (v := -2) dX11_boots_21 (by decide) ?_
        refine j_istore (pc := 23) (lv1 := [(4, .int (-2)), (0, .ref 0), (1, .int x1), (2, .int x2), (3, .int x3)]) dX11_boots_23 (Nat.le_of_ble_eq_true rfl) rfl ?_
        refine j_iconst (pc := 25) (v := -1) dX11_boots_25 (by decide) ?_
        refine j_istore (pc := 26) (lv1 := [(5, .int (-1)), (4, .int (-2)), (0, .ref 0), (1, .int x1), (2, .int x2), (3, .int x3)]) dX11_boots_26 (Nat.le_of_ble_eq_true rfl) rfl ?_
        refine j_iconst (pc := 28) (v := -1) dX11_boots_28 (by decide) ?_
        refine j_istore (pc := 29) (lv1 := [(6, .int (-1)), (5, .int (-1)), (4, .int (-2)), (0, .ref 0), (1, .int x1), (2, .int x2), (3, .int x3)]) dX11_boots_29 (Nat.le_of_ble_eq_true rfl) rfl ?_
        refine j_sub [3, 4, 5, 6, 2, 1, 0] rfl ?_
        exact H
      · replace H := H.2 c15
        refine j_ldc (pc := 18) dX11_boots_18 wk_X11_145 ?_
        exact s_ireti (pc := 20) dX11_boots_20 rfl H
  · replace H := H.2 c3
    refine j_if_eq (pc := 6) (t := 18) dX11_boots_6 (by decide) (fun _ => ?_) (fun q => absurd q (by decide))
    refine j_ldc (pc := 18) dX11_boots_18 wk_X11_145 ?_
    exact s_ireti (pc := 20) dX11_boots_20 rfl H
set_option maxRecDepth 20000 in
theorem b_X11_boots_31 {l : Launch} {g : am_G} {d : Nat} {σ : am_S} {k : Int32 → am_S → Prop}  {x1 x2 x3 x4 x5 x6 : Int32} (hd : 1 ≤ d) (H : ((rg σ 66 ≤ x6 → ((0 ≤ x4 → ((¬ x3 = 0 → k x4 σ) ∧ (x3 = 0 → k x5 σ))) ∧ (¬ 0 ≤ x4 → k (-2) σ))) ∧ (¬ rg σ 66 ≤ x6 → CV l g M_X6_weigh (d - 1) [.ref 14, .int 0, .int x6, .int 0] σ (fun σ1 => CI l g M_X11_fewestTo (d - 1) [.ref 0, .int x1, .int x2] σ1 (fun r2 σ2 => ((r2 < 0 → JI l g M_X11_boots d 31 [(0, .ref 0), (1, .int x1), (2, .int x2), (3, .int x3), (4, .int x4), (5, .int x5), (6, .int (x6 + 1))] [] σ2 k) ∧ (¬ r2 < 0 → ((x4 < 0 → JI l g M_X11_boots d 31 [(0, .ref 0), (1, .int x1), (2, .int x2), (3, .int x3), (4, .int r2), (5, .int x6), (6, .int (x6 + 1))] [] σ2 k) ∧ (¬ x4 < 0 → ((x4 ≤ r2 → JI l g M_X11_boots d 31 [(0, .ref 0), (1, .int x1), (2, .int x2), (3, .int x3), (4, .int x4), (5, .int x5), (6, .int (x6 + 1))] [] σ2 k) ∧ (¬ x4 ≤ r2 → JI l g M_X11_boots d 31 [(0, .ref 0), (1, .int x1), (2, .int x2), (3, .int x3), (4, .int r2), (5, .int x6), (6, .int (x6 + 1))] [] σ2 k))))))))))) : JI l g M_X11_boots d 31 [(0, .ref 0), (1, .int x1), (2, .int x2), (3, .int x3), (4, .int x4), (5, .int x5), (6, .int x6)] [] σ k := by
  show J l g (M_X11_boots, d, 0, 0) 31 [(0, .ref 0), (1, .int x1), (2, .int x2), (3, .int x3), (4, .int x4), (5, .int x5), (6, .int x6)] [] (hp σ) 0 0 (kI k)
  refine j_iload (pc := 31) dX11_boots_31 rfl ?_
  refine j_aload_n (pc := 33) dX11_boots_33 rfl ?_
  refine s_getr (pc := 34) dX11_boots_34 fl_X11_10 shp_0 rfl ?_
  refine s_geti (pc := 37) 66 (rg σ 66) dX11_boots_37 fl_X11_121 shp_1 rfl rfl rfl ?_
  refine j_icmp_ge (pc := 40) (t := 93) dX11_boots_40 (by decide) (fun c40 => ?_) (fun c40 => ?_)
  · replace H := H.1 c40
    refine j_iload (pc := 93) dX11_boots_93 rfl ?_
    refine j_if_ge (pc := 95) (t := 101) dX11_boots_95 (by decide) (fun c95 => ?_) (fun c95 => ?_)
    · replace H := H.1 c95
      refine j_iload_n (pc := 101) dX11_boots_101 rfl ?_
      refine j_if_ne (pc := 102) (t := 110) dX11_boots_102 (by decide) (fun c102 => ?_) (fun c102 => ?_)
      · replace H := H.1 c102
        refine j_iload (pc := 110) dX11_boots_110 rfl ?_
        exact s_ireti (pc := 112) dX11_boots_112 rfl H
      · replace H := H.2 c102
        refine j_iload (pc := 105) dX11_boots_105 rfl ?_
        refine j_goto (pc := 107) (t := 112) dX11_boots_107 (by decide) ?_
        exact s_ireti (pc := 112) dX11_boots_112 rfl H
    · replace H := H.2 c95
      refine j_bipush (pc := 98) (v := -2) dX11_boots_98 (by decide) ?_
      exact s_ireti (pc := 100) dX11_boots_100 rfl H
  · replace H := H.2 c40
    refine j_aload_n (pc := 43) dX11_boots_43 rfl ?_
    refine s_getr (pc := 44) dX11_boots_44 fl_X11_35 shp_0 rfl ?_
    refine j_iconst (pc := 47) (v := 0) dX11_boots_47 (by decide) ?_
    refine j_iload (pc := 48) dX11_boots_48 rfl ?_
    refine j_iconst (pc := 50) (v := 0) dX11_boots_50 (by decide) ?_
    refine s_callV_v (pc := 51) (M1 := M_X6_weigh) (n := 3) (as := [.int 0, .int x6, .int 0]) (a := 14) (st := []) dX11_boots_51 G_X6_weigh wm_X11_205 (by decide +kernel) rfl (Nat.le_of_ble_eq_true rfl) shp_14 rfl (by show 1 ≤ d; omega) (Nat.le_of_ble_eq_true rfl) (Nat.zero_le _) (Nat.zero_le _) ?_
    refine CV.mono H (fun σ1 H => ?_)
    refine j_aload_n (pc := 54) dX11_boots_54 rfl ?_
    refine j_iload_n (pc := 55) dX11_boots_55 rfl ?_
    refine j_iload_n (pc := 56) dX11_boots_56 rfl ?_
    refine s_callV_i (pc := 57) (M1 := M_X11_fewestTo) (n := 2) (as := [.int x1, .int x2]) (a := 0) (st := []) dX11_boots_57 G_X11_fewestTo wm_X11_253 (by decide +kernel) rfl (Nat.le_of_ble_eq_true rfl) shp_0 rfl (by show 1 ≤ d; omega) (Nat.le_of_ble_eq_true rfl) (Nat.zero_le _) (Nat.zero_le _) ?_
    refine CI.mono H (fun r2 σ2 H => ?_)
    refine j_istore (pc := 60) (lv1 := [(7, .int r2), (0, .ref 0), (1, .int x1), (2, .int x2), (3, .int x3), (4, .int x4), (5, .int x5), (6, .int x6)]) dX11_boots_60 (Nat.le_of_ble_eq_true rfl) rfl ?_
    refine j_iload (pc := 62) dX11_boots_62 rfl ?_
    refine j_if_lt (pc := 64) (t := 87) dX11_boots_64 (by decide) (fun c64 => ?_) (fun c64 => ?_)
    · replace H := H.1 c64
      refine j_iinc (pc := 87) (k := 7) (v := x6 + 1) (lv1 := [(6, .int (x6 + 1)), (7, .int r2), (0, .ref 0), (1, .int x1), (2, .int x2), (3, .int x3), (4, .int x4), (5, .int x5)]) dX11_boots_87 rfl rfl (Nat.le_of_ble_eq_true rfl) rfl ?_
      refine j_goto (pc := 90) (t := 31) dX11_boots_90 (by decide) ?_
      refine j_sub [2, 3, 4, 5, 6, 7, 0] rfl ?_
      exact H
    · replace H := H.2 c64
      refine j_iload (pc := 67) dX11_boots_67 rfl ?_
      refine j_if_lt (pc := 69) (t := 79) dX11_boots_69 (by decide) (fun c69 => ?_) (fun c69 => ?_)
      · replace H := H.1 c69
        refine j_iload (pc := 79) dX11_boots_79 rfl ?_
        refine j_istore (pc := 81) (lv1 := [(4, .int r2), (7, .int r2), (0, .ref 0), (1, .int x1), (2, .int x2), (3, .int x3), (5, .int x5), (6, .int x6)]) dX11_boots_81 (Nat.le_of_ble_eq_true rfl) rfl ?_
        refine j_iload (pc := 83) dX11_boots_83 rfl ?_
        refine j_istore (pc := 85) (lv1 := [(5, .int x6), (4, .int r2), (7, .int r2), (0, .ref 0), (1, .int x1), (2, .int x2), (3, .int x3), (6, .int x6)]) dX11_boots_85 (Nat.le_of_ble_eq_true rfl) rfl ?_
        refine j_iinc (pc := 87) (k := 7) (v := x6 + 1) (lv1 := [(6, .int (x6 + 1)), (5, .int x6), (4, .int r2), (7, .int r2), (0, .ref 0), (1, .int x1), (2, .int x2), (3, .int x3)]) dX11_boots_87 rfl rfl (Nat.le_of_ble_eq_true rfl) rfl ?_
        refine j_goto (pc := 90) (t := 31) dX11_boots_90 (by decide) ?_
        refine j_sub [4, 5, 6, 7, 2, 1, 0] rfl ?_
        exact H
      · replace H := H.2 c69
        refine j_iload (pc := 72) dX11_boots_72 rfl ?_
        refine j_iload (pc := 74) dX11_boots_74 rfl ?_
        refine j_icmp_ge (pc := 76) (t := 87) dX11_boots_76 (by decide) (fun c76 => ?_) (fun c76 => ?_)
        · replace H := H.1 c76
          refine j_iinc (pc := 87) (k := 7) (v := x6 + 1) (lv1 := [(6, .int (x6 + 1)), (7, .int r2), (0, .ref 0), (1, .int x1), (2, .int x2), (3, .int x3), (4, .int x4), (5, .int x5)]) dX11_boots_87 rfl rfl (Nat.le_of_ble_eq_true rfl) rfl ?_
          refine j_goto (pc := 90) (t := 31) dX11_boots_90 (by decide) ?_
          refine j_sub [2, 3, 4, 5, 6, 7, 0] rfl ?_
          exact H
        · replace H := H.2 c76
          refine j_iload (pc := 79) dX11_boots_79 rfl ?_
          refine j_istore (pc := 81) (lv1 := [(4, .int r2), (7, .int r2), (0, .ref 0), (1, .int x1), (2, .int x2), (3, .int x3), (5, .int x5), (6, .int x6)]) dX11_boots_81 (Nat.le_of_ble_eq_true rfl) rfl ?_
          refine j_iload (pc := 83) dX11_boots_83 rfl ?_
          refine j_istore (pc := 85) (lv1 := [(5, .int x6), (4, .int r2), (7, .int r2), (0, .ref 0), (1, .int x1), (2, .int x2), (3, .int x3), (6, .int x6)]) dX11_boots_85 (Nat.le_of_ble_eq_true rfl) rfl ?_
          refine j_iinc (pc := 87) (k := 7) (v := x6 + 1) (lv1 := [(6, .int (x6 + 1)), (5, .int x6), (4, .int r2), (7, .int r2), (0, .ref 0), (1, .int x1), (2, .int x2), (3, .int x3)]) dX11_boots_87 rfl rfl (Nat.le_of_ble_eq_true rfl) rfl ?_
          refine j_goto (pc := 90) (t := 31) dX11_boots_90 (by decide) ?_
          refine j_sub [4, 5, 6, 7, 2, 1, 0] rfl ?_
          exact H
set_option maxRecDepth 20000 in
theorem b_X11_month_0 {l : Launch} {g : am_G} {d : Nat} {σ : am_S} {k : Int32 → am_S → Prop}  {x1 x2 : Int32} (hd : 2 ≤ d) (H : (((¬ x1 ≤ 0 ∧ ¬ (1 : Int32) <<< ((rg σ 66) &&& 31) ≤ x1 ∧ (¬ x2 < 0 ∧ ¬ rg σ 64 ≤ x2)) → JI l g M_X11_month d 13 [(0, .ref 0), (1, .int x1), (2, .int x2), (3, .int 0)] [] σ k) ∧ (¬ (¬ x1 ≤ 0 ∧ ¬ (1 : Int32) <<< ((rg σ 66) &&& 31) ≤ x1 ∧ (¬ x2 < 0 ∧ ¬ rg σ 64 ≤ x2)) → k (-1) σ))) : CI l g M_X11_month d [.ref 0, .int x1, .int x2] σ k := by
  show J l g (M_X11_month, d, 0, 0) 0 [(0, .ref 0), (1, .int x1), (2, .int x2)] [] (hp σ) 0 0 (kI k)
  refine j_aload_n (pc := 0) dX11_month_0 rfl ?_
  refine j_iload_n (pc := 1) dX11_month_1 rfl ?_
  refine j_iload_n (pc := 2) dX11_month_2 rfl ?_
  refine s_callV_i (pc := 3) (M1 := M_X11_isGoal) (n := 2) (as := [.int x1, .int x2]) (a := 0) (st := []) dX11_month_3 G_X11_isGoal wm_X11_246 (by decide +kernel) rfl (Nat.le_of_ble_eq_true rfl) shp_0 rfl (by show 1 ≤ d; omega) (Nat.le_of_ble_eq_true rfl) (Nat.zero_le _) (Nat.zero_le _) ?_
  refine C_X11_isGoal (d := d - 1) (by omega) ⟨fun c3 => ?_, fun c3 => ?_⟩
  · replace H := H.1 c3
    refine j_if_ne (pc := 6) (t := 11) dX11_month_6 (by decide) (fun _ => ?_) (fun q => absurd q (by decide))
    refine j_iconst (pc := 11) (v := 0) dX11_month_11 (by decide) ?_
    refine j_istore_n (pc := 12) (lv1 := [(3, .int 0), (0, .ref 0), (1, .int x1), (2, .int x2)]) dX11_month_12 (Nat.le_of_ble_eq_true rfl) rfl ?_
    refine j_sub [1, 2, 3, 0] rfl ?_
    exact H
  · replace H := H.2 c3
    refine j_if_ne (pc := 6) (t := 11) dX11_month_6 (by decide) (fun q => absurd q (by decide)) (fun _ => ?_)
    refine j_iconst (pc := 9) (v := -1) dX11_month_9 (by decide) ?_
    exact s_ireti (pc := 10) dX11_month_10 rfl H
set_option maxRecDepth 20000 in
theorem b_X11_month_13 {l : Launch} {g : am_G} {d : Nat} {σ : am_S} {k : Int32 → am_S → Prop}  {x1 x2 x3 : Int32} (hd : 1 ≤ d) (H : ((24 < x3 → k (-2) σ) ∧ (¬ 24 < x3 → CV l g M_X6_weigh (d - 1) [.ref 14, .int x3, .int (rg σ 67), .int 0] σ (fun σ1 => CI l g M_X11_fewestTo (d - 1) [.ref 0, .int x1, .int x2] σ1 (fun r2 σ2 => ((r2 < 0 → JI l g M_X11_month d 13 [(0, .ref 0), (1, .int x1), (2, .int x2), (3, .int (x3 + 1))] [] σ2 k) ∧ (¬ r2 < 0 → k x3 σ2))))))) : JI l g M_X11_month d 13 [(0, .ref 0), (1, .int x1), (2, .int x2), (3, .int x3)] [] σ k := by
  show J l g (M_X11_month, d, 0, 0) 13 [(0, .ref 0), (1, .int x1), (2, .int x2), (3, .int x3)] [] (hp σ) 0 0 (kI k)
  refine j_iload_n (pc := 13) dX11_month_13 rfl ?_
  refine j_bipush (pc := 14) (v := 24) dX11_month_14 (by decide) ?_
  refine j_icmp_gt (pc := 16) (t := 52) dX11_month_16 (by decide) (fun c16 => ?_) (fun c16 => ?_)
  · replace H := H.1 c16
    refine j_bipush (pc := 52) (v := -2) dX11_month_52 (by decide) ?_
    exact s_ireti (pc := 54) dX11_month_54 rfl H
  · replace H := H.2 c16
    refine j_aload_n (pc := 19) dX11_month_19 rfl ?_
    refine s_getr (pc := 20) dX11_month_20 fl_X11_35 shp_0 rfl ?_
    refine j_iload_n (pc := 23) dX11_month_23 rfl ?_
    refine j_aload_n (pc := 24) dX11_month_24 rfl ?_
    refine s_getr (pc := 25) dX11_month_25 fl_X11_10 shp_0 rfl ?_
    refine s_geti (pc := 28) 67 (rg σ 67) dX11_month_28 fl_X11_146 shp_1 rfl rfl rfl ?_
    refine j_iconst (pc := 31) (v := 0) dX11_month_31 (by decide) ?_
    refine s_callV_v (pc := 32) (M1 := M_X6_weigh) (n := 3) (as := [.int x3, .int (rg σ 67), .int 0]) (a := 14) (st := []) dX11_month_32 G_X6_weigh wm_X11_205 (by decide +kernel) rfl (Nat.le_of_ble_eq_true rfl) shp_14 rfl (by show 1 ≤ d; omega) (Nat.le_of_ble_eq_true rfl) (Nat.zero_le _) (Nat.zero_le _) ?_
    refine CV.mono H (fun σ1 H => ?_)
    refine j_aload_n (pc := 35) dX11_month_35 rfl ?_
    refine j_iload_n (pc := 36) dX11_month_36 rfl ?_
    refine j_iload_n (pc := 37) dX11_month_37 rfl ?_
    refine s_callV_i (pc := 38) (M1 := M_X11_fewestTo) (n := 2) (as := [.int x1, .int x2]) (a := 0) (st := []) dX11_month_38 G_X11_fewestTo wm_X11_253 (by decide +kernel) rfl (Nat.le_of_ble_eq_true rfl) shp_0 rfl (by show 1 ≤ d; omega) (Nat.le_of_ble_eq_true rfl) (Nat.zero_le _) (Nat.zero_le _) ?_
    refine CI.mono H (fun r2 σ2 H => ?_)
    refine j_if_lt (pc := 41) (t := 46) dX11_month_41 (by decide) (fun c41 => ?_) (fun c41 => ?_)
    · replace H := H.1 c41
      refine j_iinc (pc := 46) (k := 3) (v := x3 + 1) (lv1 := [(3, .int (x3 + 1)), (0, .ref 0), (1, .int x1), (2, .int x2)]) dX11_month_46 rfl rfl (Nat.le_of_ble_eq_true rfl) rfl ?_
      refine j_goto (pc := 49) (t := 13) dX11_month_49 (by decide) ?_
      refine j_sub [1, 2, 3, 0] rfl ?_
      exact H
    · replace H := H.2 c41
      refine j_iload_n (pc := 44) dX11_month_44 rfl ?_
      exact s_ireti (pc := 45) dX11_month_45 rfl H
set_option maxRecDepth 20000 in
theorem b_X11_tries_0 {l : Launch} {g : am_G} {d : Nat} {σ : am_S} {k : Int32 → am_S → Prop}  {x1 x2 x3 x4 : Int32} (hd : 1 ≤ d) (H : (((¬ x3 < 0 ∧ ¬ rg σ 66 ≤ x3) → ((¬ x4 = 0 → ((¬ x3 = (-1) → ((x2 < 1 → k (-1) σ) ∧ (¬ x2 < 1 → ((99 < x2 → k (-1) σ) ∧ (¬ 99 < x2 → k (-1) σ))))) ∧ (x3 = (-1) → ((x4 = 0 → ((x2 < 1 → k (-1) σ) ∧ (¬ x2 < 1 → ((99 < x2 → k (-1) σ) ∧ (¬ 99 < x2 → ((¬ rg σ 65 = 0 → CV l g M_X6_weigh (d - 1) [.ref 14, .int 0, .int (rg σ 67), .int 0] σ (fun σ2 => CI l g M_X2_arrangement (d - 1) [.ref 1] σ2 (fun r3 σ3 => CV l g M_X1_pass (d - 1) [.ref 31, .ref 14, .ref 20, .int x1, .int x2, .int r3] σ3 (fun σ4 => ((¬ x4 = 0 → k (rg σ4 1987) σ4) ∧ (x4 = 0 → k (rg σ4 1986) σ4)))))) ∧ (rg σ 65 = 0 → k (-5) σ))))))) ∧ (¬ x4 = 0 → ((¬ x4 = 1 → ((x2 < 1 → k (-1) σ) ∧ (¬ x2 < 1 → ((99 < x2 → k (-1) σ) ∧ (¬ 99 < x2 → k (-1) σ))))) ∧ (x4 = 1 → ((x2 < 1 → k (-1) σ) ∧ (¬ x2 < 1 → ((99 < x2 → k (-1) σ) ∧ (¬ 99 < x2 → ((¬ rg σ 65 = 0 → CV l g M_X6_weigh (d - 1) [.ref 14, .int 0, .int (rg σ 67), .int 0] σ (fun σ5 => CI l g M_X2_arrangement (d - 1) [.ref 1] σ5 (fun r6 σ6 => CV l g M_X1_pass (d - 1) [.ref 31, .ref 14, .ref 20, .int x1, .int x2, .int r6] σ6 (fun σ7 => ((¬ x4 = 0 → k (rg σ7 1987) σ7) ∧ (x4 = 0 → k (rg σ7 1986) σ7)))))) ∧ (rg σ 65 = 0 → k (-5) σ))))))))))))) ∧ (x4 = 0 → ((¬ x3 = (-1) → ((x2 < 1 → k (-1) σ) ∧ (¬ x2 < 1 → ((99 < x2 → k (-1) σ) ∧ (¬ 99 < x2 → ((¬ rg σ 65 = 0 → CV l g M_X6_weigh (d - 1) [.ref 14, .int 0, .int (rg σ 67), .int 0] σ (fun σ8 => CI l g M_X2_arrangement (d - 1) [.ref 1] σ8 (fun r9 σ9 => CV l g M_X1_pass (d - 1) [.ref 31, .ref 14, .ref 20, .int x1, .int x2, .int r9] σ9 (fun σ10 => k (((rg σ10 1985) >>> ((2 * x3) &&& 31)) &&& 3) σ10)))) ∧ (rg σ 65 = 0 → k (-5) σ))))))) ∧ (x3 = (-1) → ((x4 = 0 → ((x2 < 1 → k (-1) σ) ∧ (¬ x2 < 1 → ((99 < x2 → k (-1) σ) ∧ (¬ 99 < x2 → ((¬ rg σ 65 = 0 → CV l g M_X6_weigh (d - 1) [.ref 14, .int 0, .int (rg σ 67), .int 0] σ (fun σ11 => CI l g M_X2_arrangement (d - 1) [.ref 1] σ11 (fun r12 σ12 => CV l g M_X1_pass (d - 1) [.ref 31, .ref 14, .ref 20, .int x1, .int x2, .int r12] σ12 (fun σ13 => k (((rg σ13 1985) >>> ((2 * x3) &&& 31)) &&& 3) σ13)))) ∧ (rg σ 65 = 0 → k (-5) σ))))))) ∧ (¬ x4 = 0 → ((¬ x4 = 1 → ((x2 < 1 → k (-1) σ) ∧ (¬ x2 < 1 → ((99 < x2 → k (-1) σ) ∧ (¬ 99 < x2 → ((¬ rg σ 65 = 0 → CV l g M_X6_weigh (d - 1) [.ref 14, .int 0, .int (rg σ 67), .int 0] σ (fun σ14 => CI l g M_X2_arrangement (d - 1) [.ref 1] σ14 (fun r15 σ15 => CV l g M_X1_pass (d - 1) [.ref 31, .ref 14, .ref 20, .int x1, .int x2, .int r15] σ15 (fun σ16 => k (((rg σ16 1985) >>> ((2 * x3) &&& 31)) &&& 3) σ16)))) ∧ (rg σ 65 = 0 → k (-5) σ))))))) ∧ (x4 = 1 → ((x2 < 1 → k (-1) σ) ∧ (¬ x2 < 1 → ((99 < x2 → k (-1) σ) ∧ (¬ 99 < x2 → ((¬ rg σ 65 = 0 → CV l g M_X6_weigh (d - 1) [.ref 14, .int 0, .int (rg σ 67), .int 0] σ (fun σ17 => CI l g M_X2_arrangement (d - 1) [.ref 1] σ17 (fun r18 σ18 => CV l g M_X1_pass (d - 1) [.ref 31, .ref 14, .ref 20, .int x1, .int x2, .int r18] σ18 (fun σ19 => k (((rg σ19 1985) >>> ((2 * x3) &&& 31)) &&& 3) σ19)))) ∧ (rg σ 65 = 0 → k (-5) σ))))))))))))))) ∧ (¬ (¬ x3 < 0 ∧ ¬ rg σ 66 ≤ x3) → ((¬ x3 = (-1) → ((x2 < 1 → k (-1) σ) ∧ (¬ x2 < 1 → ((99 < x2 → k (-1) σ) ∧ (¬ 99 < x2 → k (-1) σ))))) ∧ (x3 = (-1) → ((x4 = 0 → ((x2 < 1 → k (-1) σ) ∧ (¬ x2 < 1 → ((99 < x2 → k (-1) σ) ∧ (¬ 99 < x2 → ((¬ rg σ 65 = 0 → CV l g M_X6_weigh (d - 1) [.ref 14, .int 0, .int (rg σ 67), .int 0] σ (fun σ20 => CI l g M_X2_arrangement (d - 1) [.ref 1] σ20 (fun r21 σ21 => CV l g M_X1_pass (d - 1) [.ref 31, .ref 14, .ref 20, .int x1, .int x2, .int r21] σ21 (fun σ22 => ((¬ x4 = 0 → k (rg σ22 1987) σ22) ∧ (x4 = 0 → k (rg σ22 1986) σ22)))))) ∧ (rg σ 65 = 0 → k (-5) σ))))))) ∧ (¬ x4 = 0 → ((¬ x4 = 1 → ((x2 < 1 → k (-1) σ) ∧ (¬ x2 < 1 → ((99 < x2 → k (-1) σ) ∧ (¬ 99 < x2 → k (-1) σ))))) ∧ (x4 = 1 → ((x2 < 1 → k (-1) σ) ∧ (¬ x2 < 1 → ((99 < x2 → k (-1) σ) ∧ (¬ 99 < x2 → ((¬ rg σ 65 = 0 → CV l g M_X6_weigh (d - 1) [.ref 14, .int 0, .int (rg σ 67), .int 0] σ (fun σ23 => CI l g M_X2_arrangement (d - 1) [.ref 1] σ23 (fun r24 σ24 => CV l g M_X1_pass (d - 1) [.ref 31, .ref 14, .ref 20, .int x1, .int x2, .int r24] σ24 (fun σ25 => ((¬ x4 = 0 → k (rg σ25 1987) σ25) ∧ (x4 = 0 → k (rg σ25 1986) σ25)))))) ∧ (rg σ 65 = 0 → k (-5) σ))))))))))))))) : CI l g M_X11_tries d [.ref 0, .int x1, .int x2, .int x3, .int x4] σ k := by
  show J l g (M_X11_tries, d, 0, 0) 0 [(0, .ref 0), (1, .int x1), (2, .int x2), (3, .int x3), (4, .int x4)] [] (hp σ) 0 0 (kI k)
  refine j_aload_n (pc := 0) dX11_tries_0 rfl ?_
  refine s_getr (pc := 1) dX11_tries_1 fl_X11_10 shp_0 rfl ?_
  refine j_iload_n (pc := 4) dX11_tries_4 rfl ?_
  refine s_callV_i (pc := 5) (M1 := M_X2_hasPerson) (n := 1) (as := [.int x3]) (a := 1) (st := []) dX11_tries_5 G_X2_hasPerson wm_X11_142 (by decide +kernel) rfl (Nat.le_of_ble_eq_true rfl) shp_1 rfl (by show 1 ≤ d; omega) (Nat.le_of_ble_eq_true rfl) (Nat.zero_le _) (Nat.zero_le _) ?_
  refine C_X2_hasPerson (d := d - 1) (by omega) ⟨fun c5 => ?_, fun c5 => ?_⟩
  · replace H := H.1 c5
    refine j_if_eq (pc := 8) (t := 20) dX11_tries_8 (by decide) (fun q => absurd q (by decide)) (fun _ => ?_)
    refine j_iload (pc := 11) dX11_tries_11 rfl ?_
    refine j_if_ne (pc := 13) (t := 20) dX11_tries_13 (by decide) (fun c13 => ?_) (fun c13 => ?_)
    · replace H := H.1 c13
      refine j_iconst (pc := 20) (v := 0) dX11_tries_20 (by decide) ?_
      refine j_istore (pc := 21) (lv1 := [(5, .int 0), (0, .ref 0), (1, .int x1), (2, .int x2), (3, .int x3), (4, .int x4)]) dX11_tries_21 (Nat.le_of_ble_eq_true rfl) rfl ?_
      refine j_iload_n (pc := 23) dX11_tries_23 rfl ?_
      refine j_iconst (pc := 24) (v := -1) dX11_tries_24 (by decide) ?_
      refine j_icmp_ne (pc := 25) (t := 43) dX11_tries_25 (by decide) (fun c25 => ?_) (fun c25 => ?_)
      · replace H := H.1 c25
        refine j_iconst (pc := 43) (v := 0) dX11_tries_43 (by decide) ?_
        refine j_istore (pc := 44) (lv1 := [(6, .int 0), (5, .int 0), (0, .ref 0), (1, .int x1), (2, .int x2), (3, .int x3), (4, .int x4)]) dX11_tries_44 (Nat.le_of_ble_eq_true rfl) rfl ?_
        refine j_iload_n (pc := 46) dX11_tries_46 rfl ?_
        refine j_iconst (pc := 47) (v := 1) dX11_tries_47 (by decide) ?_
        refine j_icmp_lt (pc := 48) (t := 67) dX11_tries_48 (by decide) (fun c48 => ?_) (fun c48 => ?_)
        · replace H := H.1 c48
          refine j_iconst (pc := 67) (v := -1) dX11_tries_67 (by decide) ?_
          exact s_ireti (pc := 68) dX11_tries_68 rfl H
        · replace H := H.2 c48
          refine j_iload_n (pc := 51) dX11_tries_51 rfl ?_
          refine j_bipush (pc := 52) (v := 99) dX11_tries_52 (by decide) ?_
          refine j_icmp_gt (pc := 54) (t := 67) dX11_tries_54 (by decide) (fun c54 => ?_) (fun c54 => ?_)
          · replace H := H.1 c54
            refine j_iconst (pc := 67) (v := -1) dX11_tries_67 (by decide) ?_
            exact s_ireti (pc := 68) dX11_tries_68 rfl H
          · replace H := H.2 c54
            refine j_iload (pc := 57) dX11_tries_57 rfl ?_
            refine j_if_ne (pc := 59) (t := 69) dX11_tries_59 (by decide) (fun q => absurd q (by decide)) (fun _ => ?_)
            refine j_iload (pc := 62) dX11_tries_62 rfl ?_
            refine j_if_ne (pc := 64) (t := 69) dX11_tries_64 (by decide) (fun q => absurd q (by decide)) (fun _ => ?_)
            refine j_iconst (pc := 67) (v := -1) dX11_tries_67 (by decide) ?_
            exact s_ireti (pc := 68) dX11_tries_68 rfl H
      · replace H := H.2 c25
        refine j_iload (pc := 28) dX11_tries_28 rfl ?_
        refine j_if_eq (pc := 30) (t := 39) dX11_tries_30 (by decide) (fun c30 => ?_) (fun c30 => ?_)
        · replace H := H.1 c30
          refine j_iconst (pc := 39) (v := 1) dX11_tries_39 (by decide) ?_
          refine j_goto (pc := 40) (t := 44) dX11_tries_40 (by decide) ?_
          refine j_istore (pc := 44) (lv1 := [(6, .int 1), (5, .int 0), (0, .ref 0), (1, .int x1), (2, .int x2), (3, .int x3), (4, .int x4)]) dX11_tries_44 (Nat.le_of_ble_eq_true rfl) rfl ?_
          refine j_iload_n (pc := 46) dX11_tries_46 rfl ?_
          refine j_iconst (pc := 47) (v := 1) dX11_tries_47 (by decide) ?_
          refine j_icmp_lt (pc := 48) (t := 67) dX11_tries_48 (by decide) (fun c48 => ?_) (fun c48 => ?_)
          · replace H := H.1 c48
            refine j_iconst (pc := 67) (v := -1) dX11_tries_67 (by decide) ?_
            exact s_ireti (pc := 68) dX11_tries_68 rfl H
          · replace H := H.2 c48
            refine j_iload_n (pc := 51) dX11_tries_51 rfl ?_
            refine j_bipush (pc := 52) (v := 99) dX11_tries_52 (by decide) ?_
            refine j_icmp_gt (pc := 54) (t := 67) dX11_tries_54 (by decide) (fun c54 => ?_) (fun c54 => ?_)
            · replace H := H.1 c54
              refine j_iconst (pc := 67) (v := -1) dX11_tries_67 (by decide) ?_
              exact s_ireti (pc := 68) dX11_tries_68 rfl H
            · replace H := H.2 c54
              refine j_iload (pc := 57) dX11_tries_57 rfl ?_
              refine j_if_ne (pc := 59) (t := 69) dX11_tries_59 (by decide) (fun q => absurd q (by decide)) (fun _ => ?_)
              refine j_iload (pc := 62) dX11_tries_62 rfl ?_
              refine j_if_ne (pc := 64) (t := 69) dX11_tries_64 (by decide) (fun _ => ?_) (fun q => absurd q (by decide))
              refine j_aload_n (pc := 69) dX11_tries_69 rfl ?_
              refine s_getr (pc := 70) dX11_tries_70 fl_X11_10 shp_0 rfl ?_
              refine s_geti (pc := 73) 65 (rg σ 65) dX11_tries_73 fl_X11_266 shp_1 rfl rfl rfl ?_
              refine j_if_ne (pc := 76) (t := 82) dX11_tries_76 (by decide) (fun c76 => ?_) (fun c76 => ?_)
              · replace H := H.1 c76
                refine j_aload_n (pc := 82) dX11_tries_82 rfl ?_
                refine s_getr (pc := 83) dX11_tries_83 fl_X11_35 shp_0 rfl ?_
                refine j_iconst (pc := 86) (v := 0) dX11_tries_86 (by decide) ?_
                refine j_aload_n (pc := 87) dX11_tries_87 rfl ?_
                refine s_getr (pc := 88) dX11_tries_88 fl_X11_10 shp_0 rfl ?_
                refine s_geti (pc := 91) 67 (rg σ 67) dX11_tries_91 fl_X11_146 shp_1 rfl rfl rfl ?_
                refine j_iconst (pc := 94) (v := 0) dX11_tries_94 (by decide) ?_
                refine s_callV_v (pc := 95) (M1 := M_X6_weigh) (n := 3) (as := [.int 0, .int (rg σ 67), .int 0]) (a := 14) (st := []) dX11_tries_95 G_X6_weigh wm_X11_205 (by decide +kernel) rfl (Nat.le_of_ble_eq_true rfl) shp_14 rfl (by show 1 ≤ d; omega) (Nat.le_of_ble_eq_true rfl) (Nat.zero_le _) (Nat.zero_le _) ?_
                refine CV.mono H (fun σ2 H => ?_)
                refine j_aload_n (pc := 98) dX11_tries_98 rfl ?_
                refine s_getr (pc := 99) dX11_tries_99 fl_X11_49 shp_0 rfl ?_
                refine j_aload_n (pc := 102) dX11_tries_102 rfl ?_
                refine s_getr (pc := 103) dX11_tries_103 fl_X11_35 shp_0 rfl ?_
                refine j_aload_n (pc := 106) dX11_tries_106 rfl ?_
                refine s_getr (pc := 107) dX11_tries_107 fl_X11_42 shp_0 rfl ?_
                refine s_getr (pc := 110) dX11_tries_110 fl_X11_208 shp_19 rfl ?_
                refine j_iload_n (pc := 113) dX11_tries_113 rfl ?_
                refine j_iload_n (pc := 114) dX11_tries_114 rfl ?_
                refine j_aload_n (pc := 115) dX11_tries_115 rfl ?_
                refine s_getr (pc := 116) dX11_tries_116 fl_X11_10 shp_0 rfl ?_
                refine s_callV_i (pc := 119) (M1 := M_X2_arrangement) (n := 0) (as := []) (a := 1) (st := [.int x2, .int x1, .ref 20, .ref 14, .ref 31]) dX11_tries_119 G_X2_arrangement wm_X11_198 (by decide +kernel) rfl (Nat.le_of_ble_eq_true rfl) shp_1 rfl (by show 1 ≤ d; omega) (Nat.le_of_ble_eq_true rfl) (Nat.zero_le _) (Nat.zero_le _) ?_
                refine CI.mono H (fun r3 σ3 H => ?_)
                refine s_callV_v (pc := 122) (M1 := M_X1_pass) (n := 5) (as := [.ref 14, .ref 20, .int x1, .int x2, .int r3]) (a := 31) (st := []) dX11_tries_122 G_X1_pass wm_X11_277 (by decide +kernel) rfl (Nat.le_of_ble_eq_true rfl) shp_31 rfl (by show 1 ≤ d; omega) (Nat.le_of_ble_eq_true rfl) (Nat.zero_le _) (Nat.zero_le _) ?_
                refine CV.mono H (fun σ4 H => ?_)
                refine j_iload (pc := 125) dX11_tries_125 rfl ?_
                refine j_if_eq (pc := 127) (t := 142) dX11_tries_127 (by decide) (fun _ => ?_) (fun q => absurd q (by decide))
                refine j_iload (pc := 142) dX11_tries_142 rfl ?_
                refine j_if_ne (pc := 144) (t := 157) dX11_tries_144 (by decide) (fun c144 => ?_) (fun c144 => ?_)
                · replace H := H.1 c144
                  refine j_aload_n (pc := 157) dX11_tries_157 rfl ?_
                  refine s_getr (pc := 158) dX11_tries_158 fl_X11_49 shp_0 rfl ?_
                  refine s_geti (pc := 161) 1987 (rg σ4 1987) dX11_tries_161 fl_X11_287 shp_31 rfl rfl rfl ?_
                  exact s_ireti (pc := 164) dX11_tries_164 rfl H
                · replace H := H.2 c144
                  refine j_aload_n (pc := 147) dX11_tries_147 rfl ?_
                  refine s_getr (pc := 148) dX11_tries_148 fl_X11_49 shp_0 rfl ?_
                  refine s_geti (pc := 151) 1986 (rg σ4 1986) dX11_tries_151 fl_X11_284 shp_31 rfl rfl rfl ?_
                  refine j_goto (pc := 154) (t := 164) dX11_tries_154 (by decide) ?_
                  exact s_ireti (pc := 164) dX11_tries_164 rfl H
              · replace H := H.2 c76
                refine j_bipush (pc := 79) (v := -5) dX11_tries_79 (by decide) ?_
                exact s_ireti (pc := 81) dX11_tries_81 rfl H
        · replace H := H.2 c30
          refine j_iload (pc := 33) dX11_tries_33 rfl ?_
          refine j_iconst (pc := 35) (v := 1) dX11_tries_35 (by decide) ?_
          refine j_icmp_ne (pc := 36) (t := 43) dX11_tries_36 (by decide) (fun c36 => ?_) (fun c36 => ?_)
          · replace H := H.1 c36
            refine j_iconst (pc := 43) (v := 0) dX11_tries_43 (by decide) ?_
            refine j_istore (pc := 44) (lv1 := [(6, .int 0), (5, .int 0), (0, .ref 0), (1, .int x1), (2, .int x2), (3, .int x3), (4, .int x4)]) dX11_tries_44 (Nat.le_of_ble_eq_true rfl) rfl ?_
            refine j_iload_n (pc := 46) dX11_tries_46 rfl ?_
            refine j_iconst (pc := 47) (v := 1) dX11_tries_47 (by decide) ?_
            refine j_icmp_lt (pc := 48) (t := 67) dX11_tries_48 (by decide) (fun c48 => ?_) (fun c48 => ?_)
            · replace H := H.1 c48
              refine j_iconst (pc := 67) (v := -1) dX11_tries_67 (by decide) ?_
              exact s_ireti (pc := 68) dX11_tries_68 rfl H
            · replace H := H.2 c48
              refine j_iload_n (pc := 51) dX11_tries_51 rfl ?_
              refine j_bipush (pc := 52) (v := 99) dX11_tries_52 (by decide) ?_
              refine j_icmp_gt (pc := 54) (t := 67) dX11_tries_54 (by decide) (fun c54 => ?_) (fun c54 => ?_)
              · replace H := H.1 c54
                refine j_iconst (pc := 67) (v := -1) dX11_tries_67 (by decide) ?_
                exact s_ireti (pc := 68) dX11_tries_68 rfl H
              · replace H := H.2 c54
                refine j_iload (pc := 57) dX11_tries_57 rfl ?_
                refine j_if_ne (pc := 59) (t := 69) dX11_tries_59 (by decide) (fun q => absurd q (by decide)) (fun _ => ?_)
                refine j_iload (pc := 62) dX11_tries_62 rfl ?_
                refine j_if_ne (pc := 64) (t := 69) dX11_tries_64 (by decide) (fun q => absurd q (by decide)) (fun _ => ?_)
                refine j_iconst (pc := 67) (v := -1) dX11_tries_67 (by decide) ?_
                exact s_ireti (pc := 68) dX11_tries_68 rfl H
          · replace H := H.2 c36
            refine j_iconst (pc := 39) (v := 1) dX11_tries_39 (by decide) ?_
            refine j_goto (pc := 40) (t := 44) dX11_tries_40 (by decide) ?_
            refine j_istore (pc := 44) (lv1 := [(6, .int 1), (5, .int 0), (0, .ref 0), (1, .int x1), (2, .int x2), (3, .int x3), (4, .int x4)]) dX11_tries_44 (Nat.le_of_ble_eq_true rfl) rfl ?_
            refine j_iload_n (pc := 46) dX11_tries_46 rfl ?_
            refine j_iconst (pc := 47) (v := 1) dX11_tries_47 (by decide) ?_
            refine j_icmp_lt (pc := 48) (t := 67) dX11_tries_48 (by decide) (fun c48 => ?_) (fun c48 => ?_)
            · replace H := H.1 c48
              refine j_iconst (pc := 67) (v := -1) dX11_tries_67 (by decide) ?_
              exact s_ireti (pc := 68) dX11_tries_68 rfl H
            · replace H := H.2 c48
              refine j_iload_n (pc := 51) dX11_tries_51 rfl ?_
              refine j_bipush (pc := 52) (v := 99) dX11_tries_52 (by decide) ?_
              refine j_icmp_gt (pc := 54) (t := 67) dX11_tries_54 (by decide) (fun c54 => ?_) (fun c54 => ?_)
              · replace H := H.1 c54
                refine j_iconst (pc := 67) (v := -1) dX11_tries_67 (by decide) ?_
                exact s_ireti (pc := 68) dX11_tries_68 rfl H
              · replace H := H.2 c54
                refine j_iload (pc := 57) dX11_tries_57 rfl ?_
                refine j_if_ne (pc := 59) (t := 69) dX11_tries_59 (by decide) (fun q => absurd q (by decide)) (fun _ => ?_)
                refine j_iload (pc := 62) dX11_tries_62 rfl ?_
                refine j_if_ne (pc := 64) (t := 69) dX11_tries_64 (by decide) (fun _ => ?_) (fun q => absurd q (by decide))
                refine j_aload_n (pc := 69) dX11_tries_69 rfl ?_
                refine s_getr (pc := 70) dX11_tries_70 fl_X11_10 shp_0 rfl ?_
                refine s_geti (pc := 73) 65 (rg σ 65) dX11_tries_73 fl_X11_266 shp_1 rfl rfl rfl ?_
                refine j_if_ne (pc := 76) (t := 82) dX11_tries_76 (by decide) (fun c76 => ?_) (fun c76 => ?_)
                · replace H := H.1 c76
                  refine j_aload_n (pc := 82) dX11_tries_82 rfl ?_
                  refine s_getr (pc := 83) dX11_tries_83 fl_X11_35 shp_0 rfl ?_
                  refine j_iconst (pc := 86) (v := 0) dX11_tries_86 (by decide) ?_
                  refine j_aload_n (pc := 87) dX11_tries_87 rfl ?_
                  refine s_getr (pc := 88) dX11_tries_88 fl_X11_10 shp_0 rfl ?_
                  refine s_geti (pc := 91) 67 (rg σ 67) dX11_tries_91 fl_X11_146 shp_1 rfl rfl rfl ?_
                  refine j_iconst (pc := 94) (v := 0) dX11_tries_94 (by decide) ?_
                  refine s_callV_v (pc := 95) (M1 := M_X6_weigh) (n := 3) (as := [.int 0, .int (rg σ 67), .int 0]) (a := 14) (st := []) dX11_tries_95 G_X6_weigh wm_X11_205 (by decide +kernel) rfl (Nat.le_of_ble_eq_true rfl) shp_14 rfl (by show 1 ≤ d; omega) (Nat.le_of_ble_eq_true rfl) (Nat.zero_le _) (Nat.zero_le _) ?_
                  refine CV.mono H (fun σ5 H => ?_)
                  refine j_aload_n (pc := 98) dX11_tries_98 rfl ?_
                  refine s_getr (pc := 99) dX11_tries_99 fl_X11_49 shp_0 rfl ?_
                  refine j_aload_n (pc := 102) dX11_tries_102 rfl ?_
                  refine s_getr (pc := 103) dX11_tries_103 fl_X11_35 shp_0 rfl ?_
                  refine j_aload_n (pc := 106) dX11_tries_106 rfl ?_
                  refine s_getr (pc := 107) dX11_tries_107 fl_X11_42 shp_0 rfl ?_
                  refine s_getr (pc := 110) dX11_tries_110 fl_X11_208 shp_19 rfl ?_
                  refine j_iload_n (pc := 113) dX11_tries_113 rfl ?_
                  refine j_iload_n (pc := 114) dX11_tries_114 rfl ?_
                  refine j_aload_n (pc := 115) dX11_tries_115 rfl ?_
                  refine s_getr (pc := 116) dX11_tries_116 fl_X11_10 shp_0 rfl ?_
                  refine s_callV_i (pc := 119) (M1 := M_X2_arrangement) (n := 0) (as := []) (a := 1) (st := [.int x2, .int x1, .ref 20, .ref 14, .ref 31]) dX11_tries_119 G_X2_arrangement wm_X11_198 (by decide +kernel) rfl (Nat.le_of_ble_eq_true rfl) shp_1 rfl (by show 1 ≤ d; omega) (Nat.le_of_ble_eq_true rfl) (Nat.zero_le _) (Nat.zero_le _) ?_
                  refine CI.mono H (fun r6 σ6 H => ?_)
                  refine s_callV_v (pc := 122) (M1 := M_X1_pass) (n := 5) (as := [.ref 14, .ref 20, .int x1, .int x2, .int r6]) (a := 31) (st := []) dX11_tries_122 G_X1_pass wm_X11_277 (by decide +kernel) rfl (Nat.le_of_ble_eq_true rfl) shp_31 rfl (by show 1 ≤ d; omega) (Nat.le_of_ble_eq_true rfl) (Nat.zero_le _) (Nat.zero_le _) ?_
                  refine CV.mono H (fun σ7 H => ?_)
                  refine j_iload (pc := 125) dX11_tries_125 rfl ?_
                  refine j_if_eq (pc := 127) (t := 142) dX11_tries_127 (by decide) (fun _ => ?_) (fun q => absurd q (by decide))
                  refine j_iload (pc := 142) dX11_tries_142 rfl ?_
                  refine j_if_ne (pc := 144) (t := 157) dX11_tries_144 (by decide) (fun c144 => ?_) (fun c144 => ?_)
                  · replace H := H.1 c144
                    refine j_aload_n (pc := 157) dX11_tries_157 rfl ?_
                    refine s_getr (pc := 158) dX11_tries_158 fl_X11_49 shp_0 rfl ?_
                    refine s_geti (pc := 161) 1987 (rg σ7 1987) dX11_tries_161 fl_X11_287 shp_31 rfl rfl rfl ?_
                    exact s_ireti (pc := 164) dX11_tries_164 rfl H
                  · replace H := H.2 c144
                    refine j_aload_n (pc := 147) dX11_tries_147 rfl ?_
                    refine s_getr (pc := 148) dX11_tries_148 fl_X11_49 shp_0 rfl ?_
                    refine s_geti (pc := 151) 1986 (rg σ7 1986) dX11_tries_151 fl_X11_284 shp_31 rfl rfl rfl ?_
                    refine j_goto (pc := 154) (t := 164) dX11_tries_154 (by decide) ?_
                    exact s_ireti (pc := 164) dX11_tries_164 rfl H
                · replace H := H.2 c76
                  refine j_bipush (pc := 79) (v := -5) dX11_tries_79 (by decide) ?_
                  exact s_ireti (pc := 81) dX11_tries_81 rfl H
    · replace H := H.2 c13
      refine j_iconst (pc := 16) (v := 1) dX11_tries_16 (by decide) ?_
      refine j_goto (pc := 17) (t := 21) dX11_tries_17 (by decide) ?_
      refine j_istore (pc := 21) (lv1 := [(5, .int 1), (0, .ref 0), (1, .int x1), (2, .int x2), (3, .int x3), (4, .int x4)]) dX11_tries_21 (Nat.le_of_ble_eq_true rfl) rfl ?_
      refine j_iload_n (pc := 23) dX11_tries_23 rfl ?_
      refine j_iconst (pc := 24) (v := -1) dX11_tries_24 (by decide) ?_
      refine j_icmp_ne (pc := 25) (t := 43) dX11_tries_25 (by decide) (fun c25 => ?_) (fun c25 => ?_)
      · replace H := H.1 c25
        refine j_iconst (pc := 43) (v := 0) dX11_tries_43 (by decide) ?_
        refine j_istore (pc := 44) (lv1 := [(6, .int 0), (5, .int 1), (0, .ref 0), (1, .int x1), (2, .int x2), (3, .int x3), (4, .int x4)]) dX11_tries_44 (Nat.le_of_ble_eq_true rfl) rfl ?_
        refine j_iload_n (pc := 46) dX11_tries_46 rfl ?_
        refine j_iconst (pc := 47) (v := 1) dX11_tries_47 (by decide) ?_
        refine j_icmp_lt (pc := 48) (t := 67) dX11_tries_48 (by decide) (fun c48 => ?_) (fun c48 => ?_)
        · replace H := H.1 c48
          refine j_iconst (pc := 67) (v := -1) dX11_tries_67 (by decide) ?_
          exact s_ireti (pc := 68) dX11_tries_68 rfl H
        · replace H := H.2 c48
          refine j_iload_n (pc := 51) dX11_tries_51 rfl ?_
          refine j_bipush (pc := 52) (v := 99) dX11_tries_52 (by decide) ?_
          refine j_icmp_gt (pc := 54) (t := 67) dX11_tries_54 (by decide) (fun c54 => ?_) (fun c54 => ?_)
          · replace H := H.1 c54
            refine j_iconst (pc := 67) (v := -1) dX11_tries_67 (by decide) ?_
            exact s_ireti (pc := 68) dX11_tries_68 rfl H
          · replace H := H.2 c54
            refine j_iload (pc := 57) dX11_tries_57 rfl ?_
            refine j_if_ne (pc := 59) (t := 69) dX11_tries_59 (by decide) (fun _ => ?_) (fun q => absurd q (by decide))
            refine j_aload_n (pc := 69) dX11_tries_69 rfl ?_
            refine s_getr (pc := 70) dX11_tries_70 fl_X11_10 shp_0 rfl ?_
            refine s_geti (pc := 73) 65 (rg σ 65) dX11_tries_73 fl_X11_266 shp_1 rfl rfl rfl ?_
            refine j_if_ne (pc := 76) (t := 82) dX11_tries_76 (by decide) (fun c76 => ?_) (fun c76 => ?_)
            · replace H := H.1 c76
              refine j_aload_n (pc := 82) dX11_tries_82 rfl ?_
              refine s_getr (pc := 83) dX11_tries_83 fl_X11_35 shp_0 rfl ?_
              refine j_iconst (pc := 86) (v := 0) dX11_tries_86 (by decide) ?_
              refine j_aload_n (pc := 87) dX11_tries_87 rfl ?_
              refine s_getr (pc := 88) dX11_tries_88 fl_X11_10 shp_0 rfl ?_
              refine s_geti (pc := 91) 67 (rg σ 67) dX11_tries_91 fl_X11_146 shp_1 rfl rfl rfl ?_
              refine j_iconst (pc := 94) (v := 0) dX11_tries_94 (by decide) ?_
              refine s_callV_v (pc := 95) (M1 := M_X6_weigh) (n := 3) (as := [.int 0, .int (rg σ 67), .int 0]) (a := 14) (st := []) dX11_tries_95 G_X6_weigh wm_X11_205 (by decide +kernel) rfl (Nat.le_of_ble_eq_true rfl) shp_14 rfl (by show 1 ≤ d; omega) (Nat.le_of_ble_eq_true rfl) (Nat.zero_le _) (Nat.zero_le _) ?_
              refine CV.mono H (fun σ8 H => ?_)
              refine j_aload_n (pc := 98) dX11_tries_98 rfl ?_
              refine s_getr (pc := 99) dX11_tries_99 fl_X11_49 shp_0 rfl ?_
              refine j_aload_n (pc := 102) dX11_tries_102 rfl ?_
              refine s_getr (pc := 103) dX11_tries_103 fl_X11_35 shp_0 rfl ?_
              refine j_aload_n (pc := 106) dX11_tries_106 rfl ?_
              refine s_getr (pc := 107) dX11_tries_107 fl_X11_42 shp_0 rfl ?_
              refine s_getr (pc := 110) dX11_tries_110 fl_X11_208 shp_19 rfl ?_
              refine j_iload_n (pc := 113) dX11_tries_113 rfl ?_
              refine j_iload_n (pc := 114) dX11_tries_114 rfl ?_
              refine j_aload_n (pc := 115) dX11_tries_115 rfl ?_
              refine s_getr (pc := 116) dX11_tries_116 fl_X11_10 shp_0 rfl ?_
              refine s_callV_i (pc := 119) (M1 := M_X2_arrangement) (n := 0) (as := []) (a := 1) (st := [.int x2, .int x1, .ref 20, .ref 14, .ref 31]) dX11_tries_119 G_X2_arrangement wm_X11_198 (by decide +kernel) rfl (Nat.le_of_ble_eq_true rfl) shp_1 rfl (by show 1 ≤ d; omega) (Nat.le_of_ble_eq_true rfl) (Nat.zero_le _) (Nat.zero_le _) ?_
              refine CI.mono H (fun r9 σ9 H => ?_)
              refine s_callV_v (pc := 122) (M1 := M_X1_pass) (n := 5) (as := [.ref 14, .ref 20, .int x1, .int x2, .int r9]) (a := 31) (st := []) dX11_tries_122 G_X1_pass wm_X11_277 (by decide +kernel) rfl (Nat.le_of_ble_eq_true rfl) shp_31 rfl (by show 1 ≤ d; omega) (Nat.le_of_ble_eq_true rfl) (Nat.zero_le _) (Nat.zero_le _) ?_
              refine CV.mono H (fun σ10 H => ?_)
              refine j_iload (pc := 125) dX11_tries_125 rfl ?_
              refine j_if_eq (pc := 127) (t := 142) dX11_tries_127 (by decide) (fun q => absurd q (by decide)) (fun _ => ?_)
              refine j_aload_n (pc := 130) dX11_tries_130 rfl ?_
              refine s_getr (pc := 131) dX11_tries_131 fl_X11_49 shp_0 rfl ?_
              refine s_geti (pc := 134) 1985 (rg σ10 1985) dX11_tries_134 fl_X11_281 shp_31 rfl rfl rfl ?_
              refine j_iload_n (pc := 137) dX11_tries_137 rfl ?_
              refine s_callS_i (pc := 138) (M1 := M_X11_roomIn) (n := 2) (as := [.int (rg σ10 1985), .int x3]) (st := []) dX11_tries_138 G_X11_roomIn wm_X11_243 (by decide +kernel) rfl (Nat.le_of_ble_eq_true rfl) (by show 1 ≤ d; omega) (Nat.le_of_ble_eq_true rfl) ?_
              refine C_X11_roomIn (d := d - 1) (by omega) ?_
              exact s_ireti (pc := 141) dX11_tries_141 rfl H
            · replace H := H.2 c76
              refine j_bipush (pc := 79) (v := -5) dX11_tries_79 (by decide) ?_
              exact s_ireti (pc := 81) dX11_tries_81 rfl H
      · replace H := H.2 c25
        refine j_iload (pc := 28) dX11_tries_28 rfl ?_
        refine j_if_eq (pc := 30) (t := 39) dX11_tries_30 (by decide) (fun c30 => ?_) (fun c30 => ?_)
        · replace H := H.1 c30
          refine j_iconst (pc := 39) (v := 1) dX11_tries_39 (by decide) ?_
          refine j_goto (pc := 40) (t := 44) dX11_tries_40 (by decide) ?_
          refine j_istore (pc := 44) (lv1 := [(6, .int 1), (5, .int 1), (0, .ref 0), (1, .int x1), (2, .int x2), (3, .int x3), (4, .int x4)]) dX11_tries_44 (Nat.le_of_ble_eq_true rfl) rfl ?_
          refine j_iload_n (pc := 46) dX11_tries_46 rfl ?_
          refine j_iconst (pc := 47) (v := 1) dX11_tries_47 (by decide) ?_
          refine j_icmp_lt (pc := 48) (t := 67) dX11_tries_48 (by decide) (fun c48 => ?_) (fun c48 => ?_)
          · replace H := H.1 c48
            refine j_iconst (pc := 67) (v := -1) dX11_tries_67 (by decide) ?_
            exact s_ireti (pc := 68) dX11_tries_68 rfl H
          · replace H := H.2 c48
            refine j_iload_n (pc := 51) dX11_tries_51 rfl ?_
            refine j_bipush (pc := 52) (v := 99) dX11_tries_52 (by decide) ?_
            refine j_icmp_gt (pc := 54) (t := 67) dX11_tries_54 (by decide) (fun c54 => ?_) (fun c54 => ?_)
            · replace H := H.1 c54
              refine j_iconst (pc := 67) (v := -1) dX11_tries_67 (by decide) ?_
              exact s_ireti (pc := 68) dX11_tries_68 rfl H
            · replace H := H.2 c54
              refine j_iload (pc := 57) dX11_tries_57 rfl ?_
              refine j_if_ne (pc := 59) (t := 69) dX11_tries_59 (by decide) (fun _ => ?_) (fun q => absurd q (by decide))
              refine j_aload_n (pc := 69) dX11_tries_69 rfl ?_
              refine s_getr (pc := 70) dX11_tries_70 fl_X11_10 shp_0 rfl ?_
              refine s_geti (pc := 73) 65 (rg σ 65) dX11_tries_73 fl_X11_266 shp_1 rfl rfl rfl ?_
              refine j_if_ne (pc := 76) (t := 82) dX11_tries_76 (by decide) (fun c76 => ?_) (fun c76 => ?_)
              · replace H := H.1 c76
                refine j_aload_n (pc := 82) dX11_tries_82 rfl ?_
                refine s_getr (pc := 83) dX11_tries_83 fl_X11_35 shp_0 rfl ?_
                refine j_iconst (pc := 86) (v := 0) dX11_tries_86 (by decide) ?_
                refine j_aload_n (pc := 87) dX11_tries_87 rfl ?_
                refine s_getr (pc := 88) dX11_tries_88 fl_X11_10 shp_0 rfl ?_
                refine s_geti (pc := 91) 67 (rg σ 67) dX11_tries_91 fl_X11_146 shp_1 rfl rfl rfl ?_
                refine j_iconst (pc := 94) (v := 0) dX11_tries_94 (by decide) ?_
                refine s_callV_v (pc := 95) (M1 := M_X6_weigh) (n := 3) (as := [.int 0, .int (rg σ 67), .int 0]) (a := 14) (st := []) dX11_tries_95 G_X6_weigh wm_X11_205 (by decide +kernel) rfl (Nat.le_of_ble_eq_true rfl) shp_14 rfl (by show 1 ≤ d; omega) (Nat.le_of_ble_eq_true rfl) (Nat.zero_le _) (Nat.zero_le _) ?_
                refine CV.mono H (fun σ11 H => ?_)
                refine j_aload_n (pc := 98) dX11_tries_98 rfl ?_
                refine s_getr (pc := 99) dX11_tries_99 fl_X11_49 shp_0 rfl ?_
                refine j_aload_n (pc := 102) dX11_tries_102 rfl ?_
                refine s_getr (pc := 103) dX11_tries_103 fl_X11_35 shp_0 rfl ?_
                refine j_aload_n (pc := 106) dX11_tries_106 rfl ?_
                refine s_getr (pc := 107) dX11_tries_107 fl_X11_42 shp_0 rfl ?_
                refine s_getr (pc := 110) dX11_tries_110 fl_X11_208 shp_19 rfl ?_
                refine j_iload_n (pc := 113) dX11_tries_113 rfl ?_
                refine j_iload_n (pc := 114) dX11_tries_114 rfl ?_
                refine j_aload_n (pc := 115) dX11_tries_115 rfl ?_
                refine s_getr (pc := 116) dX11_tries_116 fl_X11_10 shp_0 rfl ?_
                refine s_callV_i (pc := 119) (M1 := M_X2_arrangement) (n := 0) (as := []) (a := 1) (st := [.int x2, .int x1, .ref 20, .ref 14, .ref 31]) dX11_tries_119 G_X2_arrangement wm_X11_198 (by decide +kernel) rfl (Nat.le_of_ble_eq_true rfl) shp_1 rfl (by show 1 ≤ d; omega) (Nat.le_of_ble_eq_true rfl) (Nat.zero_le _) (Nat.zero_le _) ?_
                refine CI.mono H (fun r12 σ12 H => ?_)
                refine s_callV_v (pc := 122) (M1 := M_X1_pass) (n := 5) (as := [.ref 14, .ref 20, .int x1, .int x2, .int r12]) (a := 31) (st := []) dX11_tries_122 G_X1_pass wm_X11_277 (by decide +kernel) rfl (Nat.le_of_ble_eq_true rfl) shp_31 rfl (by show 1 ≤ d; omega) (Nat.le_of_ble_eq_true rfl) (Nat.zero_le _) (Nat.zero_le _) ?_
                refine CV.mono H (fun σ13 H => ?_)
                refine j_iload (pc := 125) dX11_tries_125 rfl ?_
                refine j_if_eq (pc := 127) (t := 142) dX11_tries_127 (by decide) (fun q => absurd q (by decide)) (fun _ => ?_)
                refine j_aload_n (pc := 130) dX11_tries_130 rfl ?_
                refine s_getr (pc := 131) dX11_tries_131 fl_X11_49 shp_0 rfl ?_
                refine s_geti (pc := 134) 1985 (rg σ13 1985) dX11_tries_134 fl_X11_281 shp_31 rfl rfl rfl ?_
                refine j_iload_n (pc := 137) dX11_tries_137 rfl ?_
                refine s_callS_i (pc := 138) (M1 := M_X11_roomIn) (n := 2) (as := [.int (rg σ13 1985), .int x3]) (st := []) dX11_tries_138 G_X11_roomIn wm_X11_243 (by decide +kernel) rfl (Nat.le_of_ble_eq_true rfl) (by show 1 ≤ d; omega) (Nat.le_of_ble_eq_true rfl) ?_
                refine C_X11_roomIn (d := d - 1) (by omega) ?_
                exact s_ireti (pc := 141) dX11_tries_141 rfl H
              · replace H := H.2 c76
                refine j_bipush (pc := 79) (v := -5) dX11_tries_79 (by decide) ?_
                exact s_ireti (pc := 81) dX11_tries_81 rfl H
        · replace H := H.2 c30
          refine j_iload (pc := 33) dX11_tries_33 rfl ?_
          refine j_iconst (pc := 35) (v := 1) dX11_tries_35 (by decide) ?_
          refine j_icmp_ne (pc := 36) (t := 43) dX11_tries_36 (by decide) (fun c36 => ?_) (fun c36 => ?_)
          · replace H := H.1 c36
            refine j_iconst (pc := 43) (v := 0) dX11_tries_43 (by decide) ?_
            refine j_istore (pc := 44) (lv1 := [(6, .int 0), (5, .int 1), (0, .ref 0), (1, .int x1), (2, .int x2), (3, .int x3), (4, .int x4)]) dX11_tries_44 (Nat.le_of_ble_eq_true rfl) rfl ?_
            refine j_iload_n (pc := 46) dX11_tries_46 rfl ?_
            refine j_iconst (pc := 47) (v := 1) dX11_tries_47 (by decide) ?_
            refine j_icmp_lt (pc := 48) (t := 67) dX11_tries_48 (by decide) (fun c48 => ?_) (fun c48 => ?_)
            · replace H := H.1 c48
              refine j_iconst (pc := 67) (v := -1) dX11_tries_67 (by decide) ?_
              exact s_ireti (pc := 68) dX11_tries_68 rfl H
            · replace H := H.2 c48
              refine j_iload_n (pc := 51) dX11_tries_51 rfl ?_
              refine j_bipush (pc := 52) (v := 99) dX11_tries_52 (by decide) ?_
              refine j_icmp_gt (pc := 54) (t := 67) dX11_tries_54 (by decide) (fun c54 => ?_) (fun c54 => ?_)
              · replace H := H.1 c54
                refine j_iconst (pc := 67) (v := -1) dX11_tries_67 (by decide) ?_
                exact s_ireti (pc := 68) dX11_tries_68 rfl H
              · replace H := H.2 c54
                refine j_iload (pc := 57) dX11_tries_57 rfl ?_
                refine j_if_ne (pc := 59) (t := 69) dX11_tries_59 (by decide) (fun _ => ?_) (fun q => absurd q (by decide))
                refine j_aload_n (pc := 69) dX11_tries_69 rfl ?_
                refine s_getr (pc := 70) dX11_tries_70 fl_X11_10 shp_0 rfl ?_
                refine s_geti (pc := 73) 65 (rg σ 65) dX11_tries_73 fl_X11_266 shp_1 rfl rfl rfl ?_
                refine j_if_ne (pc := 76) (t := 82) dX11_tries_76 (by decide) (fun c76 => ?_) (fun c76 => ?_)
                · replace H := H.1 c76
                  refine j_aload_n (pc := 82) dX11_tries_82 rfl ?_
                  refine s_getr (pc := 83) dX11_tries_83 fl_X11_35 shp_0 rfl ?_
                  refine j_iconst (pc := 86) (v := 0) dX11_tries_86 (by decide) ?_
                  refine j_aload_n (pc := 87) dX11_tries_87 rfl ?_
                  refine s_getr (pc := 88) dX11_tries_88 fl_X11_10 shp_0 rfl ?_
                  refine s_geti (pc := 91) 67 (rg σ 67) dX11_tries_91 fl_X11_146 shp_1 rfl rfl rfl ?_
                  refine j_iconst (pc := 94) (v := 0) dX11_tries_94 (by decide) ?_
                  refine s_callV_v (pc := 95) (M1 := M_X6_weigh) (n := 3) (as := [.int 0, .int (rg σ 67), .int 0]) (a := 14) (st := []) dX11_tries_95 G_X6_weigh wm_X11_205 (by decide +kernel) rfl (Nat.le_of_ble_eq_true rfl) shp_14 rfl (by show 1 ≤ d; omega) (Nat.le_of_ble_eq_true rfl) (Nat.zero_le _) (Nat.zero_le _) ?_
                  refine CV.mono H (fun σ14 H => ?_)
                  refine j_aload_n (pc := 98) dX11_tries_98 rfl ?_
                  refine s_getr (pc := 99) dX11_tries_99 fl_X11_49 shp_0 rfl ?_
                  refine j_aload_n (pc := 102) dX11_tries_102 rfl ?_
                  refine s_getr (pc := 103) dX11_tries_103 fl_X11_35 shp_0 rfl ?_
                  refine j_aload_n (pc := 106) dX11_tries_106 rfl ?_
                  refine s_getr (pc := 107) dX11_tries_107 fl_X11_42 shp_0 rfl ?_
                  refine s_getr (pc := 110) dX11_tries_110 fl_X11_208 shp_19 rfl ?_
                  refine j_iload_n (pc := 113) dX11_tries_113 rfl ?_
                  refine j_iload_n (pc := 114) dX11_tries_114 rfl ?_
                  refine j_aload_n (pc := 115) dX11_tries_115 rfl ?_
                  refine s_getr (pc := 116) dX11_tries_116 fl_X11_10 shp_0 rfl ?_
                  refine s_callV_i (pc := 119) (M1 := M_X2_arrangement) (n := 0) (as := []) (a := 1) (st := [.int x2, .int x1, .ref 20, .ref 14, .ref 31]) dX11_tries_119 G_X2_arrangement wm_X11_198 (by decide +kernel) rfl (Nat.le_of_ble_eq_true rfl) shp_1 rfl (by show 1 ≤ d; omega) (Nat.le_of_ble_eq_true rfl) (Nat.zero_le _) (Nat.zero_le _) ?_
                  refine CI.mono H (fun r15 σ15 H => ?_)
                  refine s_callV_v (pc := 122) (M1 := M_X1_pass) (n := 5) (as := [.ref 14, .ref 20, .int x1, .int x2, .int r15]) (a := 31) (st := []) dX11_tries_122 G_X1_pass wm_X11_277 (by decide +kernel) rfl (Nat.le_of_ble_eq_true rfl) shp_31 rfl (by show 1 ≤ d; omega) (Nat.le_of_ble_eq_true rfl) (Nat.zero_le _) (Nat.zero_le _) ?_
                  refine CV.mono H (fun σ16 H => ?_)
                  refine j_iload (pc := 125) dX11_tries_125 rfl ?_
                  refine j_if_eq (pc := 127) (t := 142) dX11_tries_127 (by decide) (fun q => absurd q (by decide)) (fun _ => ?_)
                  refine j_aload_n (pc := 130) dX11_tries_130 rfl ?_
                  refine s_getr (pc := 131) dX11_tries_131 fl_X11_49 shp_0 rfl ?_
                  refine s_geti (pc := 134) 1985 (rg σ16 1985) dX11_tries_134 fl_X11_281 shp_31 rfl rfl rfl ?_
                  refine j_iload_n (pc := 137) dX11_tries_137 rfl ?_
                  refine s_callS_i (pc := 138) (M1 := M_X11_roomIn) (n := 2) (as := [.int (rg σ16 1985), .int x3]) (st := []) dX11_tries_138 G_X11_roomIn wm_X11_243 (by decide +kernel) rfl (Nat.le_of_ble_eq_true rfl) (by show 1 ≤ d; omega) (Nat.le_of_ble_eq_true rfl) ?_
                  refine C_X11_roomIn (d := d - 1) (by omega) ?_
                  exact s_ireti (pc := 141) dX11_tries_141 rfl H
                · replace H := H.2 c76
                  refine j_bipush (pc := 79) (v := -5) dX11_tries_79 (by decide) ?_
                  exact s_ireti (pc := 81) dX11_tries_81 rfl H
          · replace H := H.2 c36
            refine j_iconst (pc := 39) (v := 1) dX11_tries_39 (by decide) ?_
            refine j_goto (pc := 40) (t := 44) dX11_tries_40 (by decide) ?_
            refine j_istore (pc := 44) (lv1 := [(6, .int 1), (5, .int 1), (0, .ref 0), (1, .int x1), (2, .int x2), (3, .int x3), (4, .int x4)]) dX11_tries_44 (Nat.le_of_ble_eq_true rfl) rfl ?_
            refine j_iload_n (pc := 46) dX11_tries_46 rfl ?_
            refine j_iconst (pc := 47) (v := 1) dX11_tries_47 (by decide) ?_
            refine j_icmp_lt (pc := 48) (t := 67) dX11_tries_48 (by decide) (fun c48 => ?_) (fun c48 => ?_)
            · replace H := H.1 c48
              refine j_iconst (pc := 67) (v := -1) dX11_tries_67 (by decide) ?_
              exact s_ireti (pc := 68) dX11_tries_68 rfl H
            · replace H := H.2 c48
              refine j_iload_n (pc := 51) dX11_tries_51 rfl ?_
              refine j_bipush (pc := 52) (v := 99) dX11_tries_52 (by decide) ?_
              refine j_icmp_gt (pc := 54) (t := 67) dX11_tries_54 (by decide) (fun c54 => ?_) (fun c54 => ?_)
              · replace H := H.1 c54
                refine j_iconst (pc := 67) (v := -1) dX11_tries_67 (by decide) ?_
                exact s_ireti (pc := 68) dX11_tries_68 rfl H
              · replace H := H.2 c54
                refine j_iload (pc := 57) dX11_tries_57 rfl ?_
                refine j_if_ne (pc := 59) (t := 69) dX11_tries_59 (by decide) (fun _ => ?_) (fun q => absurd q (by decide))
                refine j_aload_n (pc := 69) dX11_tries_69 rfl ?_
                refine s_getr (pc := 70) dX11_tries_70 fl_X11_10 shp_0 rfl ?_
                refine s_geti (pc := 73) 65 (rg σ 65) dX11_tries_73 fl_X11_266 shp_1 rfl rfl rfl ?_
                refine j_if_ne (pc := 76) (t := 82) dX11_tries_76 (by decide) (fun c76 => ?_) (fun c76 => ?_)
                · replace H := H.1 c76
                  refine j_aload_n (pc := 82) dX11_tries_82 rfl ?_
                  refine s_getr (pc := 83) dX11_tries_83 fl_X11_35 shp_0 rfl ?_
                  refine j_iconst (pc := 86) (v := 0) dX11_tries_86 (by decide) ?_
                  refine j_aload_n (pc := 87) dX11_tries_87 rfl ?_
                  refine s_getr (pc := 88) dX11_tries_88 fl_X11_10 shp_0 rfl ?_
                  refine s_geti (pc := 91) 67 (rg σ 67) dX11_tries_91 fl_X11_146 shp_1 rfl rfl rfl ?_
                  refine j_iconst (pc := 94) (v := 0) dX11_tries_94 (by decide) ?_
                  refine s_callV_v (pc := 95) (M1 := M_X6_weigh) (n := 3) (as := [.int 0, .int (rg σ 67), .int 0]) (a := 14) (st := []) dX11_tries_95 G_X6_weigh wm_X11_205 (by decide +kernel) rfl (Nat.le_of_ble_eq_true rfl) shp_14 rfl (by show 1 ≤ d; omega) (Nat.le_of_ble_eq_true rfl) (Nat.zero_le _) (Nat.zero_le _) ?_
                  refine CV.mono H (fun σ17 H => ?_)
                  refine j_aload_n (pc := 98) dX11_tries_98 rfl ?_
                  refine s_getr (pc := 99) dX11_tries_99 fl_X11_49 shp_0 rfl ?_
                  refine j_aload_n (pc := 102) dX11_tries_102 rfl ?_
                  refine s_getr (pc := 103) dX11_tries_103 fl_X11_35 shp_0 rfl ?_
                  refine j_aload_n (pc := 106) dX11_tries_106 rfl ?_
                  refine s_getr (pc := 107) dX11_tries_107 fl_X11_42 shp_0 rfl ?_
                  refine s_getr (pc := 110) dX11_tries_110 fl_X11_208 shp_19 rfl ?_
                  refine j_iload_n (pc := 113) dX11_tries_113 rfl ?_
                  refine j_iload_n (pc := 114) dX11_tries_114 rfl ?_
                  refine j_aload_n (pc := 115) dX11_tries_115 rfl ?_
                  refine s_getr (pc := 116) dX11_tries_116 fl_X11_10 shp_0 rfl ?_
                  refine s_callV_i (pc := 119) (M1 := M_X2_arrangement) (n := 0) (as := []) (a := 1) (st := [.int x2, .int x1, .ref 20, .ref 14, .ref 31]) dX11_tries_119 G_X2_arrangement wm_X11_198 (by decide +kernel) rfl (Nat.le_of_ble_eq_true rfl) shp_1 rfl (by show 1 ≤ d; omega) (Nat.le_of_ble_eq_true rfl) (Nat.zero_le _) (Nat.zero_le _) ?_
                  refine CI.mono H (fun r18 σ18 H => ?_)
                  refine s_callV_v (pc := 122) (M1 := M_X1_pass) (n := 5) (as := [.ref 14, .ref 20, .int x1, .int x2, .int r18]) (a := 31) (st := []) dX11_tries_122 G_X1_pass wm_X11_277 (by decide +kernel) rfl (Nat.le_of_ble_eq_true rfl) shp_31 rfl (by show 1 ≤ d; omega) (Nat.le_of_ble_eq_true rfl) (Nat.zero_le _) (Nat.zero_le _) ?_
                  refine CV.mono H (fun σ19 H => ?_)
                  refine j_iload (pc := 125) dX11_tries_125 rfl ?_
                  refine j_if_eq (pc := 127) (t := 142) dX11_tries_127 (by decide) (fun q => absurd q (by decide)) (fun _ => ?_)
                  refine j_aload_n (pc := 130) dX11_tries_130 rfl ?_
                  refine s_getr (pc := 131) dX11_tries_131 fl_X11_49 shp_0 rfl ?_
                  refine s_geti (pc := 134) 1985 (rg σ19 1985) dX11_tries_134 fl_X11_281 shp_31 rfl rfl rfl ?_
                  refine j_iload_n (pc := 137) dX11_tries_137 rfl ?_
                  refine s_callS_i (pc := 138) (M1 := M_X11_roomIn) (n := 2) (as := [.int (rg σ19 1985), .int x3]) (st := []) dX11_tries_138 G_X11_roomIn wm_X11_243 (by decide +kernel) rfl (Nat.le_of_ble_eq_true rfl) (by show 1 ≤ d; omega) (Nat.le_of_ble_eq_true rfl) ?_
                  refine C_X11_roomIn (d := d - 1) (by omega) ?_
                  exact s_ireti (pc := 141) dX11_tries_141 rfl H
                · replace H := H.2 c76
                  refine j_bipush (pc := 79) (v := -5) dX11_tries_79 (by decide) ?_
                  exact s_ireti (pc := 81) dX11_tries_81 rfl H
  · replace H := H.2 c5
    refine j_if_eq (pc := 8) (t := 20) dX11_tries_8 (by decide) (fun _ => ?_) (fun q => absurd q (by decide))
    refine j_iconst (pc := 20) (v := 0) dX11_tries_20 (by decide) ?_
    refine j_istore (pc := 21) (lv1 := [(5, .int 0), (0, .ref 0), (1, .int x1), (2, .int x2), (3, .int x3), (4, .int x4)]) dX11_tries_21 (Nat.le_of_ble_eq_true rfl) rfl ?_
    refine j_iload_n (pc := 23) dX11_tries_23 rfl ?_
    refine j_iconst (pc := 24) (v := -1) dX11_tries_24 (by decide) ?_
    refine j_icmp_ne (pc := 25) (t := 43) dX11_tries_25 (by decide) (fun c25 => ?_) (fun c25 => ?_)
    · replace H := H.1 c25
      refine j_iconst (pc := 43) (v := 0) dX11_tries_43 (by decide) ?_
      refine j_istore (pc := 44) (lv1 := [(6, .int 0), (5, .int 0), (0, .ref 0), (1, .int x1), (2, .int x2), (3, .int x3), (4, .int x4)]) dX11_tries_44 (Nat.le_of_ble_eq_true rfl) rfl ?_
      refine j_iload_n (pc := 46) dX11_tries_46 rfl ?_
      refine j_iconst (pc := 47) (v := 1) dX11_tries_47 (by decide) ?_
      refine j_icmp_lt (pc := 48) (t := 67) dX11_tries_48 (by decide) (fun c48 => ?_) (fun c48 => ?_)
      · replace H := H.1 c48
        refine j_iconst (pc := 67) (v := -1) dX11_tries_67 (by decide) ?_
        exact s_ireti (pc := 68) dX11_tries_68 rfl H
      · replace H := H.2 c48
        refine j_iload_n (pc := 51) dX11_tries_51 rfl ?_
        refine j_bipush (pc := 52) (v := 99) dX11_tries_52 (by decide) ?_
        refine j_icmp_gt (pc := 54) (t := 67) dX11_tries_54 (by decide) (fun c54 => ?_) (fun c54 => ?_)
        · replace H := H.1 c54
          refine j_iconst (pc := 67) (v := -1) dX11_tries_67 (by decide) ?_
          exact s_ireti (pc := 68) dX11_tries_68 rfl H
        · replace H := H.2 c54
          refine j_iload (pc := 57) dX11_tries_57 rfl ?_
          refine j_if_ne (pc := 59) (t := 69) dX11_tries_59 (by decide) (fun q => absurd q (by decide)) (fun _ => ?_)
          refine j_iload (pc := 62) dX11_tries_62 rfl ?_
          refine j_if_ne (pc := 64) (t := 69) dX11_tries_64 (by decide) (fun q => absurd q (by decide)) (fun _ => ?_)
          refine j_iconst (pc := 67) (v := -1) dX11_tries_67 (by decide) ?_
          exact s_ireti (pc := 68) dX11_tries_68 rfl H
    · replace H := H.2 c25
      refine j_iload (pc := 28) dX11_tries_28 rfl ?_
      refine j_if_eq (pc := 30) (t := 39) dX11_tries_30 (by decide) (fun c30 => ?_) (fun c30 => ?_)
      · replace H := H.1 c30
        refine j_iconst (pc := 39) (v := 1) dX11_tries_39 (by decide) ?_
        refine j_goto (pc := 40) (t := 44) dX11_tries_40 (by decide) ?_
        refine j_istore (pc := 44) (lv1 := [(6, .int 1), (5, .int 0), (0, .ref 0), (1, .int x1), (2, .int x2), (3, .int x3), (4, .int x4)]) dX11_tries_44 (Nat.le_of_ble_eq_true rfl) rfl ?_
        refine j_iload_n (pc := 46) dX11_tries_46 rfl ?_
        refine j_iconst (pc := 47) (v := 1) dX11_tries_47 (by decide) ?_
        refine j_icmp_lt (pc := 48) (t := 67) dX11_tries_48 (by decide) (fun c48 => ?_) (fun c48 => ?_)
        · replace H := H.1 c48
          refine j_iconst (pc := 67) (v := -1) dX11_tries_67 (by decide) ?_
          exact s_ireti (pc := 68) dX11_tries_68 rfl H
        · replace H := H.2 c48
          refine j_iload_n (pc := 51) dX11_tries_51 rfl ?_
          refine j_bipush (pc := 52) (v := 99) dX11_tries_52 (by decide) ?_
          refine j_icmp_gt (pc := 54) (t := 67) dX11_tries_54 (by decide) (fun c54 => ?_) (fun c54 => ?_)
          · replace H := H.1 c54
            refine j_iconst (pc := 67) (v := -1) dX11_tries_67 (by decide) ?_
            exact s_ireti (pc := 68) dX11_tries_68 rfl H
          · replace H := H.2 c54
            refine j_iload (pc := 57) dX11_tries_57 rfl ?_
            refine j_if_ne (pc := 59) (t := 69) dX11_tries_59 (by decide) (fun q => absurd q (by decide)) (fun _ => ?_)
            refine j_iload (pc := 62) dX11_tries_62 rfl ?_
            refine j_if_ne (pc := 64) (t := 69) dX11_tries_64 (by decide) (fun _ => ?_) (fun q => absurd q (by decide))
            refine j_aload_n (pc := 69) dX11_tries_69 rfl ?_
            refine s_getr (pc := 70) dX11_tries_70 fl_X11_10 shp_0 rfl ?_
            refine s_geti (pc := 73) 65 (rg σ 65) dX11_tries_73 fl_X11_266 shp_1 rfl rfl rfl ?_
            refine j_if_ne (pc := 76) (t := 82) dX11_tries_76 (by decide) (fun c76 => ?_) (fun c76 => ?_)
            · replace H := H.1 c76
              refine j_aload_n (pc := 82) dX11_tries_82 rfl ?_
              refine s_getr (pc := 83) dX11_tries_83 fl_X11_35 shp_0 rfl ?_
              refine j_iconst (pc := 86) (v := 0) dX11_tries_86 (by decide) ?_
              refine j_aload_n (pc := 87) dX11_tries_87 rfl ?_
              refine s_getr (pc := 88) dX11_tries_88 fl_X11_10 shp_0 rfl ?_
              refine s_geti (pc := 91) 67 (rg σ 67) dX11_tries_91 fl_X11_146 shp_1 rfl rfl rfl ?_
              refine j_iconst (pc := 94) (v := 0) dX11_tries_94 (by decide) ?_
              refine s_callV_v (pc := 95) (M1 := M_X6_weigh) (n := 3) (as := [.int 0, .int (rg σ 67), .int 0]) (a := 14) (st := []) dX11_tries_95 G_X6_weigh wm_X11_205 (by decide +kernel) rfl (Nat.le_of_ble_eq_true rfl) shp_14 rfl (by show 1 ≤ d; omega) (Nat.le_of_ble_eq_true rfl) (Nat.zero_le _) (Nat.zero_le _) ?_
              refine CV.mono H (fun σ20 H => ?_)
              refine j_aload_n (pc := 98) dX11_tries_98 rfl ?_
              refine s_getr (pc := 99) dX11_tries_99 fl_X11_49 shp_0 rfl ?_
              refine j_aload_n (pc := 102) dX11_tries_102 rfl ?_
              refine s_getr (pc := 103) dX11_tries_103 fl_X11_35 shp_0 rfl ?_
              refine j_aload_n (pc := 106) dX11_tries_106 rfl ?_
              refine s_getr (pc := 107) dX11_tries_107 fl_X11_42 shp_0 rfl ?_
              refine s_getr (pc := 110) dX11_tries_110 fl_X11_208 shp_19 rfl ?_
              refine j_iload_n (pc := 113) dX11_tries_113 rfl ?_
              refine j_iload_n (pc := 114) dX11_tries_114 rfl ?_
              refine j_aload_n (pc := 115) dX11_tries_115 rfl ?_
              refine s_getr (pc := 116) dX11_tries_116 fl_X11_10 shp_0 rfl ?_
              refine s_callV_i (pc := 119) (M1 := M_X2_arrangement) (n := 0) (as := []) (a := 1) (st := [.int x2, .int x1, .ref 20, .ref 14, .ref 31]) dX11_tries_119 G_X2_arrangement wm_X11_198 (by decide +kernel) rfl (Nat.le_of_ble_eq_true rfl) shp_1 rfl (by show 1 ≤ d; omega) (Nat.le_of_ble_eq_true rfl) (Nat.zero_le _) (Nat.zero_le _) ?_
              refine CI.mono H (fun r21 σ21 H => ?_)
              refine s_callV_v (pc := 122) (M1 := M_X1_pass) (n := 5) (as := [.ref 14, .ref 20, .int x1, .int x2, .int r21]) (a := 31) (st := []) dX11_tries_122 G_X1_pass wm_X11_277 (by decide +kernel) rfl (Nat.le_of_ble_eq_true rfl) shp_31 rfl (by show 1 ≤ d; omega) (Nat.le_of_ble_eq_true rfl) (Nat.zero_le _) (Nat.zero_le _) ?_
              refine CV.mono H (fun σ22 H => ?_)
              refine j_iload (pc := 125) dX11_tries_125 rfl ?_
              refine j_if_eq (pc := 127) (t := 142) dX11_tries_127 (by decide) (fun _ => ?_) (fun q => absurd q (by decide))
              refine j_iload (pc := 142) dX11_tries_142 rfl ?_
              refine j_if_ne (pc := 144) (t := 157) dX11_tries_144 (by decide) (fun c144 => ?_) (fun c144 => ?_)
              · replace H := H.1 c144
                refine j_aload_n (pc := 157) dX11_tries_157 rfl ?_
                refine s_getr (pc := 158) dX11_tries_158 fl_X11_49 shp_0 rfl ?_
                refine s_geti (pc := 161) 1987 (rg σ22 1987) dX11_tries_161 fl_X11_287 shp_31 rfl rfl rfl ?_
                exact s_ireti (pc := 164) dX11_tries_164 rfl H
              · replace H := H.2 c144
                refine j_aload_n (pc := 147) dX11_tries_147 rfl ?_
                refine s_getr (pc := 148) dX11_tries_148 fl_X11_49 shp_0 rfl ?_
                refine s_geti (pc := 151) 1986 (rg σ22 1986) dX11_tries_151 fl_X11_284 shp_31 rfl rfl rfl ?_
                refine j_goto (pc := 154) (t := 164) dX11_tries_154 (by decide) ?_
                exact s_ireti (pc := 164) dX11_tries_164 rfl H
            · replace H := H.2 c76
              refine j_bipush (pc := 79) (v := -5) dX11_tries_79 (by decide) ?_
              exact s_ireti (pc := 81) dX11_tries_81 rfl H
      · replace H := H.2 c30
        refine j_iload (pc := 33) dX11_tries_33 rfl ?_
        refine j_iconst (pc := 35) (v := 1) dX11_tries_35 (by decide) ?_
        refine j_icmp_ne (pc := 36) (t := 43) dX11_tries_36 (by decide) (fun c36 => ?_) (fun c36 => ?_)
        · replace H := H.1 c36
          refine j_iconst (pc := 43) (v := 0) dX11_tries_43 (by decide) ?_
          refine j_istore (pc := 44) (lv1 := [(6, .int 0), (5, .int 0), (0, .ref 0), (1, .int x1), (2, .int x2), (3, .int x3), (4, .int x4)]) dX11_tries_44 (Nat.le_of_ble_eq_true rfl) rfl ?_
          refine j_iload_n (pc := 46) dX11_tries_46 rfl ?_
          refine j_iconst (pc := 47) (v := 1) dX11_tries_47 (by decide) ?_
          refine j_icmp_lt (pc := 48) (t := 67) dX11_tries_48 (by decide) (fun c48 => ?_) (fun c48 => ?_)
          · replace H := H.1 c48
            refine j_iconst (pc := 67) (v := -1) dX11_tries_67 (by decide) ?_
            exact s_ireti (pc := 68) dX11_tries_68 rfl H
          · replace H := H.2 c48
            refine j_iload_n (pc := 51) dX11_tries_51 rfl ?_
            refine j_bipush (pc := 52) (v := 99) dX11_tries_52 (by decide) ?_
            refine j_icmp_gt (pc := 54) (t := 67) dX11_tries_54 (by decide) (fun c54 => ?_) (fun c54 => ?_)
            · replace H := H.1 c54
              refine j_iconst (pc := 67) (v := -1) dX11_tries_67 (by decide) ?_
              exact s_ireti (pc := 68) dX11_tries_68 rfl H
            · replace H := H.2 c54
              refine j_iload (pc := 57) dX11_tries_57 rfl ?_
              refine j_if_ne (pc := 59) (t := 69) dX11_tries_59 (by decide) (fun q => absurd q (by decide)) (fun _ => ?_)
              refine j_iload (pc := 62) dX11_tries_62 rfl ?_
              refine j_if_ne (pc := 64) (t := 69) dX11_tries_64 (by decide) (fun q => absurd q (by decide)) (fun _ => ?_)
              refine j_iconst (pc := 67) (v := -1) dX11_tries_67 (by decide) ?_
              exact s_ireti (pc := 68) dX11_tries_68 rfl H
        · replace H := H.2 c36
          refine j_iconst (pc := 39) (v := 1) dX11_tries_39 (by decide) ?_
          refine j_goto (pc := 40) (t := 44) dX11_tries_40 (by decide) ?_
          refine j_istore (pc := 44) (lv1 := [(6, .int 1), (5, .int 0), (0, .ref 0), (1, .int x1), (2, .int x2), (3, .int x3), (4, .int x4)]) dX11_tries_44 (Nat.le_of_ble_eq_true rfl) rfl ?_
          refine j_iload_n (pc := 46) dX11_tries_46 rfl ?_
          refine j_iconst (pc := 47) (v := 1) dX11_tries_47 (by decide) ?_
          refine j_icmp_lt (pc := 48) (t := 67) dX11_tries_48 (by decide) (fun c48 => ?_) (fun c48 => ?_)
          · replace H := H.1 c48
            refine j_iconst (pc := 67) (v := -1) dX11_tries_67 (by decide) ?_
            exact s_ireti (pc := 68) dX11_tries_68 rfl H
          · replace H := H.2 c48
            refine j_iload_n (pc := 51) dX11_tries_51 rfl ?_
            refine j_bipush (pc := 52) (v := 99) dX11_tries_52 (by decide) ?_
            refine j_icmp_gt (pc := 54) (t := 67) dX11_tries_54 (by decide) (fun c54 => ?_) (fun c54 => ?_)
            · replace H := H.1 c54
              refine j_iconst (pc := 67) (v := -1) dX11_tries_67 (by decide) ?_
              exact s_ireti (pc := 68) dX11_tries_68 rfl H
            · replace H := H.2 c54
              refine j_iload (pc := 57) dX11_tries_57 rfl ?_
              refine j_if_ne (pc := 59) (t := 69) dX11_tries_59 (by decide) (fun q => absurd q (by decide)) (fun _ => ?_)
              refine j_iload (pc := 62) dX11_tries_62 rfl ?_
              refine j_if_ne (pc := 64) (t := 69) dX11_tries_64 (by decide) (fun _ => ?_) (fun q => absurd q (by decide))
              refine j_aload_n (pc := 69) dX11_tries_69 rfl ?_
              refine s_getr (pc := 70) dX11_tries_70 fl_X11_10 shp_0 rfl ?_
              refine s_geti (pc := 73) 65 (rg σ 65) dX11_tries_73 fl_X11_266 shp_1 rfl rfl rfl ?_
              refine j_if_ne (pc := 76) (t := 82) dX11_tries_76 (by decide) (fun c76 => ?_) (fun c76 => ?_)
              · replace H := H.1 c76
                refine j_aload_n (pc := 82) dX11_tries_82 rfl ?_
                refine s_getr (pc := 83) dX11_tries_83 fl_X11_35 shp_0 rfl ?_
                refine j_iconst (pc := 86) (v := 0) dX11_tries_86 (by decide) ?_
                refine j_aload_n (pc := 87) dX11_tries_87 rfl ?_
                refine s_getr (pc := 88) dX11_tries_88 fl_X11_10 shp_0 rfl ?_
                refine s_geti (pc := 91) 67 (rg σ 67) dX11_tries_91 fl_X11_146 shp_1 rfl rfl rfl ?_
                refine j_iconst (pc := 94) (v := 0) dX11_tries_94 (by decide) ?_
                refine s_callV_v (pc := 95) (M1 := M_X6_weigh) (n := 3) (as := [.int 0, .int (rg σ 67), .int 0]) (a := 14) (st := []) dX11_tries_95 G_X6_weigh wm_X11_205 (by decide +kernel) rfl (Nat.le_of_ble_eq_true rfl) shp_14 rfl (by show 1 ≤ d; omega) (Nat.le_of_ble_eq_true rfl) (Nat.zero_le _) (Nat.zero_le _) ?_
                refine CV.mono H (fun σ23 H => ?_)
                refine j_aload_n (pc := 98) dX11_tries_98 rfl ?_
                refine s_getr (pc := 99) dX11_tries_99 fl_X11_49 shp_0 rfl ?_
                refine j_aload_n (pc := 102) dX11_tries_102 rfl ?_
                refine s_getr (pc := 103) dX11_tries_103 fl_X11_35 shp_0 rfl ?_
                refine j_aload_n (pc := 106) dX11_tries_106 rfl ?_
                refine s_getr (pc := 107) dX11_tries_107 fl_X11_42 shp_0 rfl ?_
                refine s_getr (pc := 110) dX11_tries_110 fl_X11_208 shp_19 rfl ?_
                refine j_iload_n (pc := 113) dX11_tries_113 rfl ?_
                refine j_iload_n (pc := 114) dX11_tries_114 rfl ?_
                refine j_aload_n (pc := 115) dX11_tries_115 rfl ?_
                refine s_getr (pc := 116) dX11_tries_116 fl_X11_10 shp_0 rfl ?_
                refine s_callV_i (pc := 119) (M1 := M_X2_arrangement) (n := 0) (as := []) (a := 1) (st := [.int x2, .int x1, .ref 20, .ref 14, .ref 31]) dX11_tries_119 G_X2_arrangement wm_X11_198 (by decide +kernel) rfl (Nat.le_of_ble_eq_true rfl) shp_1 rfl (by show 1 ≤ d; omega) (Nat.le_of_ble_eq_true rfl) (Nat.zero_le _) (Nat.zero_le _) ?_
                refine CI.mono H (fun r24 σ24 H => ?_)
                refine s_callV_v (pc := 122) (M1 := M_X1_pass) (n := 5) (as := [.ref 14, .ref 20, .int x1, .int x2, .int r24]) (a := 31) (st := []) dX11_tries_122 G_X1_pass wm_X11_277 (by decide +kernel) rfl (Nat.le_of_ble_eq_true rfl) shp_31 rfl (by show 1 ≤ d; omega) (Nat.le_of_ble_eq_true rfl) (Nat.zero_le _) (Nat.zero_le _) ?_
                refine CV.mono H (fun σ25 H => ?_)
                refine j_iload (pc := 125) dX11_tries_125 rfl ?_
                refine j_if_eq (pc := 127) (t := 142) dX11_tries_127 (by decide) (fun _ => ?_) (fun q => absurd q (by decide))
                refine j_iload (pc := 142) dX11_tries_142 rfl ?_
                refine j_if_ne (pc := 144) (t := 157) dX11_tries_144 (by decide) (fun c144 => ?_) (fun c144 => ?_)
                · replace H := H.1 c144
                  refine j_aload_n (pc := 157) dX11_tries_157 rfl ?_
                  refine s_getr (pc := 158) dX11_tries_158 fl_X11_49 shp_0 rfl ?_
                  refine s_geti (pc := 161) 1987 (rg σ25 1987) dX11_tries_161 fl_X11_287 shp_31 rfl rfl rfl ?_
                  exact s_ireti (pc := 164) dX11_tries_164 rfl H
                · replace H := H.2 c144
                  refine j_aload_n (pc := 147) dX11_tries_147 rfl ?_
                  refine s_getr (pc := 148) dX11_tries_148 fl_X11_49 shp_0 rfl ?_
                  refine s_geti (pc := 151) 1986 (rg σ25 1986) dX11_tries_151 fl_X11_284 shp_31 rfl rfl rfl ?_
                  refine j_goto (pc := 154) (t := 164) dX11_tries_154 (by decide) ?_
                  exact s_ireti (pc := 164) dX11_tries_164 rfl H
              · replace H := H.2 c76
                refine j_bipush (pc := 79) (v := -5) dX11_tries_79 (by decide) ?_
                exact s_ireti (pc := 81) dX11_tries_81 rfl H
set_option maxRecDepth 20000 in
theorem b_X11_judge_0 {l : Launch} {g : am_G} {d : Nat} {σ : am_S} {k : Int32 → am_S → Prop}  {x1 : Int32} (hd : 1 ≤ d) (H : (((¬ x1 < 0 ∧ ¬ 6 ≤ x1) → (vp_in x1 6 ∧ CI l g M_X8_bytesRefusal (d - 1) [.ref (43 + 2 * x1.toNatClampNeg)] σ (fun r2 σ2 => ((r2 = 0 → CV l g M_X6_look (d - 1) [.ref 14, .int 0, .int (rg σ2 67), .int 0] σ2 (fun σ3 => CI l g M_X2_arrangement (d - 1) [.ref 1] σ3 (fun r4 σ4 => JI l g M_X11_judge d 55 [(0, .ref 0), (1, .int x1), (2, .ref (43 + 2 * x1.toNatClampNeg)), (3, .int r2), (4, .int r4), (5, .int 0)] [] σ4 k))) ∧ (¬ r2 = 0 → k r2 σ2))))) ∧ (¬ (¬ x1 < 0 ∧ ¬ 6 ≤ x1) → k (-1) σ))) : CI l g M_X11_judge d [.ref 0, .int x1] σ k := by
  show J l g (M_X11_judge, d, 0, 0) 0 [(0, .ref 0), (1, .int x1)] [] (hp σ) 0 0 (kI k)
  refine j_iload_n (pc := 0) dX11_judge_0 rfl ?_
  refine s_callS_i (pc := 1) (M1 := M_X11_isShelf) (n := 1) (as := [.int x1]) (st := []) dX11_judge_1 G_X11_isShelf wm_X11_107 (by decide +kernel) rfl (Nat.le_of_ble_eq_true rfl) (by show 1 ≤ d; omega) (Nat.le_of_ble_eq_true rfl) ?_
  refine C_X11_isShelf (d := d - 1) (by omega) ⟨fun c1 => ?_, fun c1 => ?_⟩
  · replace H := H.1 c1
    refine j_if_ne (pc := 4) (t := 9) dX11_judge_4 (by decide) (fun _ => ?_) (fun q => absurd q (by decide))
    refine j_aload_n (pc := 9) dX11_judge_9 rfl ?_
    refine s_getr (pc := 10) dX11_judge_10 fl_X11_76 shp_0 rfl ?_
    refine j_iload_n (pc := 13) dX11_judge_13 rfl ?_
    have b14 := H.1
    replace H := H.2
    refine s_aald (pc := 14) (b := 43 + 2 * x1.toNatClampNeg) dX11_judge_14 shp_42 b14 (shelf_at (in_lt b14)) ?_
    refine j_astore_n (pc := 15) (lv1 := [(2, .ref (43 + 2 * x1.toNatClampNeg)), (0, .ref 0), (1, .int x1)]) dX11_judge_15 (Nat.le_of_ble_eq_true rfl) rfl ?_
    refine j_aload_n (pc := 16) dX11_judge_16 rfl ?_
    refine s_callV_i (pc := 17) (M1 := M_X8_bytesRefusal) (n := 0) (as := []) (a := 43 + 2 * x1.toNatClampNeg) (st := []) dX11_judge_17 G_X8_bytesRefusal wm_X11_114 (by decide +kernel) rfl (Nat.le_of_ble_eq_true rfl) (shp_s (in_lt b14)) rfl (by show 1 ≤ d; omega) (Nat.le_of_ble_eq_true rfl) (Nat.zero_le _) (Nat.zero_le _) ?_
    refine CI.mono H (fun r2 σ2 H => ?_)
    refine j_istore_n (pc := 20) (lv1 := [(3, .int r2), (2, .ref (43 + 2 * x1.toNatClampNeg)), (0, .ref 0), (1, .int x1)]) dX11_judge_20 (Nat.le_of_ble_eq_true rfl) rfl ?_
    refine j_iload_n (pc := 21) dX11_judge_21 rfl ?_
    refine j_if_eq (pc := 22) (t := 27) dX11_judge_22 (by decide) (fun c22 => ?_) (fun c22 => ?_)
    · replace H := H.1 c22
      refine j_aload_n (pc := 27) dX11_judge_27 rfl ?_
      refine s_getr (pc := 28) dX11_judge_28 fl_X11_35 shp_0 rfl ?_
      refine j_iconst (pc := 31) (v := 0) dX11_judge_31 (by decide) ?_
      refine j_aload_n (pc := 32) dX11_judge_32 rfl ?_
      refine s_getr (pc := 33) dX11_judge_33 fl_X11_10 shp_0 rfl ?_
      refine s_geti (pc := 36) 67 (rg σ2 67) dX11_judge_36 fl_X11_146 shp_1 rfl rfl rfl ?_
      refine j_iconst (pc := 39) (v := 0) dX11_judge_39 (by decide) ?_
      refine s_callV_v (pc := 40) (M1 := M_X6_look) (n := 3) (as := [.int 0, .int (rg σ2 67), .int 0]) (a := 14) (st := []) dX11_judge_40 G_X6_look wm_X11_195 (by decide +kernel) rfl (Nat.le_of_ble_eq_true rfl) shp_14 rfl (by show 1 ≤ d; omega) (Nat.le_of_ble_eq_true rfl) (Nat.zero_le _) (Nat.zero_le _) ?_
      refine CV.mono H (fun σ3 H => ?_)
      refine j_aload_n (pc := 43) dX11_judge_43 rfl ?_
      refine s_getr (pc := 44) dX11_judge_44 fl_X11_10 shp_0 rfl ?_
      refine s_callV_i (pc := 47) (M1 := M_X2_arrangement) (n := 0) (as := []) (a := 1) (st := []) dX11_judge_47 G_X2_arrangement wm_X11_198 (by decide +kernel) rfl (Nat.le_of_ble_eq_true rfl) shp_1 rfl (by show 1 ≤ d; omega) (Nat.le_of_ble_eq_true rfl) (Nat.zero_le _) (Nat.zero_le _) ?_
      refine CI.mono H (fun r4 σ4 H => ?_)
      refine j_istore (pc := 50) (lv1 := [(4, .int r4), (3, .int r2), (2, .ref (43 + 2 * x1.toNatClampNeg)), (0, .ref 0), (1, .int x1)]) dX11_judge_50 (Nat.le_of_ble_eq_true rfl) rfl ?_
      refine j_iconst (pc := 52) (v := 0) dX11_judge_52 (by decide) ?_
      refine j_istore (pc := 53) (lv1 := [(5, .int 0), (4, .int r4), (3, .int r2), (2, .ref (43 + 2 * x1.toNatClampNeg)), (0, .ref 0), (1, .int x1)]) dX11_judge_53 (Nat.le_of_ble_eq_true rfl) rfl ?_
      refine j_sub [4, 5, 3, 2, 1, 0] rfl ?_
      exact H
    · replace H := H.2 c22
      refine j_iload_n (pc := 25) dX11_judge_25 rfl ?_
      exact s_ireti (pc := 26) dX11_judge_26 rfl H
  · replace H := H.2 c1
    refine j_if_ne (pc := 4) (t := 9) dX11_judge_4 (by decide) (fun q => absurd q (by decide)) (fun _ => ?_)
    refine j_iconst (pc := 7) (v := -1) dX11_judge_7 (by decide) ?_
    exact s_ireti (pc := 8) dX11_judge_8 rfl H
set_option maxRecDepth 20000 in
theorem b_X11_judge_55 {l : Launch} {g : am_G} {d : Nat} {σ : am_S} {k : Int32 → am_S → Prop} {k2 : Nat} {x1 x3 x4 x5 : Int32} (hk2 : k2 < 6) (hd : 1 ≤ d) (H : ((rg σ (64 * (43 + 2 * k2) + 2) ≤ x5 → k (-2) σ) ∧ (¬ rg σ (64 * (43 + 2 * k2) + 2) ≤ x5 → CL l g M_X8_at (d - 1) [.ref (43 + 2 * k2), .int x5] σ (fun r1 σ1 => CL l g M_X8_at (d - 1) [.ref (43 + 2 * k2), .int (x5 + 1)] σ1 (fun r2 σ2 => CL l g M_X8_at (d - 1) [.ref (43 + 2 * k2), .int (x5 + 2)] σ2 (fun r3 σ3 => ((rg σ3 (64 * (43 + 2 * k2) + 2) < x5 + 3 → k (x5 / 3) σ3) ∧ (¬ rg σ3 (64 * (43 + 2 * k2) + 2) < x5 + 3 → CI l g M_X6_mayBe (d - 1) [.ref 14, .int x4, .int r1.toInt32, .int r2.toInt32, .int r3.toInt32] σ3 (fun r4 σ4 => ((¬ r4 = 0 → CI l g M_X6_changed (d - 1) [.ref 14, .int x4, .int r1.toInt32, .int r2.toInt32, .int r3.toInt32] σ4 (fun r5 σ5 => JI l g M_X11_judge d 55 [(0, .ref 0), (1, .int x1), (2, .ref (43 + 2 * k2)), (3, .int x3), (4, .int r5), (5, .int (x5 + 3))] [] σ5 k)) ∧ (r4 = 0 → k (x5 / 3) σ4))))))))))) : JI l g M_X11_judge d 55 [(0, .ref 0), (1, .int x1), (2, .ref (43 + 2 * k2)), (3, .int x3), (4, .int x4), (5, .int x5)] [] σ k := by
  show J l g (M_X11_judge, d, 0, 0) 55 [(0, .ref 0), (1, .int x1), (2, .ref (43 + 2 * k2)), (3, .int x3), (4, .int x4), (5, .int x5)] [] (hp σ) 0 0 (kI k)
  refine j_iload (pc := 55) dX11_judge_55 rfl ?_
  refine j_aload_n (pc := 57) dX11_judge_57 rfl ?_
  refine s_geti (pc := 58) (64 * (43 + 2 * k2) + 2) (rg σ (64 * (43 + 2 * k2) + 2)) dX11_judge_58 fl_X11_118 (shp_s hk2) rfl rfl rfl ?_
  refine j_icmp_ge (pc := 61) (t := 152) dX11_judge_61 (by decide) (fun c61 => ?_) (fun c61 => ?_)
  · replace H := H.1 c61
    refine j_bipush (pc := 152) (v := -2) dX11_judge_152 (by decide) ?_
    exact s_ireti (pc := 154) dX11_judge_154 rfl H
  · replace H := H.2 c61
    refine j_aload_n (pc := 64) dX11_judge_64 rfl ?_
    refine j_iload (pc := 65) dX11_judge_65 rfl ?_
    refine s_callV_l (pc := 67) (M1 := M_X8_at) (n := 1) (as := [.int x5]) (a := 43 + 2 * k2) (st := []) dX11_judge_67 G_X8_at wm_X11_124 (by decide +kernel) rfl (Nat.le_of_ble_eq_true rfl) (shp_s hk2) rfl (by show 1 ≤ d; omega) (Nat.le_of_ble_eq_true rfl) (Nat.zero_le _) (Nat.zero_le _) ?_
    refine CL.mono H (fun r1 σ1 H => ?_)
    refine j_l2i (pc := 70) dX11_judge_70 ?_
    refine j_istore (pc := 71) (lv1 := [(6, .int r1.toInt32), (0, .ref 0), (1, .int x1), (2, .ref (43 + 2 * k2)), (3, .int x3), (4, .int x4), (5, .int x5)]) dX11_judge_71 (Nat.le_of_ble_eq_true rfl) rfl ?_
    refine j_aload_n (pc := 73) dX11_judge_73 rfl ?_
    refine j_iload (pc := 74) dX11_judge_74 rfl ?_
    refine j_iconst (pc := 76) (v := 1) dX11_judge_76 (by decide) ?_
    refine j_iadd (pc := 77) dX11_judge_77 ?_
    refine s_callV_l (pc := 78) (M1 := M_X8_at) (n := 1) (as := [.int (x5 + 1)]) (a := 43 + 2 * k2) (st := []) dX11_judge_78 G_X8_at wm_X11_124 (by decide +kernel) rfl (Nat.le_of_ble_eq_true rfl) (shp_s hk2) rfl (by show 1 ≤ d; omega) (Nat.le_of_ble_eq_true rfl) (Nat.zero_le _) (Nat.zero_le _) ?_
    refine CL.mono H (fun r2 σ2 H => ?_)
    refine j_l2i (pc := 81) dX11_judge_81 ?_
    refine j_istore (pc := 82) (lv1 := [(7, .int r2.toInt32), (6, .int r1.toInt32), (0, .ref 0), (1, .int x1), (2, .ref (43 + 2 * k2)), (3, .int x3), (4, .int x4), (5, .int x5)]) dX11_judge_82 (Nat.le_of_ble_eq_true rfl) rfl ?_
    refine j_aload_n (pc := 84) dX11_judge_84 rfl ?_
    refine j_iload (pc := 85) dX11_judge_85 rfl ?_
    refine j_iconst (pc := 87) (v := 2) dX11_judge_87 (by decide) ?_
    refine j_iadd (pc := 88) dX11_judge_88 ?_
    refine s_callV_l (pc := 89) (M1 := M_X8_at) (n := 1) (as := [.int (x5 + 2)]) (a := 43 + 2 * k2) (st := []) dX11_judge_89 G_X8_at wm_X11_124 (by decide +kernel) rfl (Nat.le_of_ble_eq_true rfl) (shp_s hk2) rfl (by show 1 ≤ d; omega) (Nat.le_of_ble_eq_true rfl) (Nat.zero_le _) (Nat.zero_le _) ?_
    refine CL.mono H (fun r3 σ3 H => ?_)
    refine j_l2i (pc := 92) dX11_judge_92 ?_
    refine j_istore (pc := 93) (lv1 := [(8, .int r3.toInt32), (7, .int r2.toInt32), (6, .int r1.toInt32), (0, .ref 0), (1, .int x1), (2, .ref (43 + 2 * k2)), (3, .int x3), (4, .int x4), (5, .int x5)]) dX11_judge_93 (Nat.le_of_ble_eq_true rfl) rfl ?_
    refine j_iload (pc := 95) dX11_judge_95 rfl ?_
    refine j_iconst (pc := 97) (v := 3) dX11_judge_97 (by decide) ?_
    refine j_iadd (pc := 98) dX11_judge_98 ?_
    refine j_aload_n (pc := 99) dX11_judge_99 rfl ?_
    refine s_geti (pc := 100) (64 * (43 + 2 * k2) + 2) (rg σ3 (64 * (43 + 2 * k2) + 2)) dX11_judge_100 fl_X11_118 (shp_s hk2) rfl rfl rfl ?_
    refine j_icmp_gt (pc := 103) (t := 124) dX11_judge_103 (by decide) (fun c103 => ?_) (fun c103 => ?_)
    · replace H := H.1 c103
      refine j_iload (pc := 124) dX11_judge_124 rfl ?_
      refine j_iconst (pc := 126) (v := 3) dX11_judge_126 (by decide) ?_
      refine j_idiv (pc := 127) dX11_judge_127 (by decide) ?_
      exact s_ireti (pc := 128) dX11_judge_128 rfl H
    · replace H := H.2 c103
      refine j_aload_n (pc := 106) dX11_judge_106 rfl ?_
      refine s_getr (pc := 107) dX11_judge_107 fl_X11_35 shp_0 rfl ?_
      refine j_iload (pc := 110) dX11_judge_110 rfl ?_
      refine j_iload (pc := 112) dX11_judge_112 rfl ?_
      refine j_iload (pc := 114) dX11_judge_114 rfl ?_
      refine j_iload (pc := 116) dX11_judge_116 rfl ?_
      refine s_callV_i (pc := 118) (M1 := M_X6_mayBe) (n := 4) (as := [.int x4, .int r1.toInt32, .int r2.toInt32, .int r3.toInt32]) (a := 14) (st := []) dX11_judge_118 G_X6_mayBe wm_X11_201 (by decide +kernel) rfl (Nat.le_of_ble_eq_true rfl) shp_14 rfl (by show 1 ≤ d; omega) (Nat.le_of_ble_eq_true rfl) (Nat.zero_le _) (Nat.zero_le _) ?_
      refine CI.mono H (fun r4 σ4 H => ?_)
      refine j_if_ne (pc := 121) (t := 129) dX11_judge_121 (by decide) (fun c121 => ?_) (fun c121 => ?_)
      · replace H := H.1 c121
        refine j_aload_n (pc := 129) dX11_judge_129 rfl ?_
        refine s_getr (pc := 130) dX11_judge_130 fl_X11_35 shp_0 rfl ?_
        refine j_iload (pc := 133) dX11_judge_133 rfl ?_
        refine j_iload (pc := 135) dX11_judge_135 rfl ?_
        refine j_iload (pc := 137) dX11_judge_137 rfl ?_
        refine j_iload (pc := 139) dX11_judge_139 rfl ?_
        refine s_callV_i (pc := 141) (M1 := M_X6_changed) (n := 4) (as := [.int x4, .int r1.toInt32, .int r2.toInt32, .int r3.toInt32]) (a := 14) (st := []) dX11_judge_141 G_X6_changed wm_X11_290 (by decide +kernel) rfl (Nat.le_of_ble_eq_true rfl) shp_14 rfl (by show 1 ≤ d; omega) (Nat.le_of_ble_eq_true rfl) (Nat.zero_le _) (Nat.zero_le _) ?_
        refine CI.mono H (fun r5 σ5 H => ?_)
        refine j_istore (pc := 144) (lv1 := [(4, .int r5), (8, .int r3.toInt32), (7, .int r2.toInt32), (6, .int r1.toInt32), (0, .ref 0), (1, .int x1), (2, .ref (43 + 2 * k2)), (3, .int x3), (5, .int x5)]) dX11_judge_144 (Nat.le_of_ble_eq_true rfl) rfl ?_
        refine j_iinc (pc := 146) (k := 8) (v := x5 + 3) (lv1 := [(5, .int (x5 + 3)), (4, .int r5), (8, .int r3.toInt32), (7, .int r2.toInt32), (6, .int r1.toInt32), (0, .ref 0), (1, .int x1), (2, .ref (43 + 2 * k2)), (3, .int x3)]) dX11_judge_146 rfl rfl (Nat.le_of_ble_eq_true rfl) rfl ?_
        refine j_goto (pc := 149) (t := 55) dX11_judge_149 (by decide) ?_
        refine j_sub [5, 6, 7, 8, 1, 0] rfl ?_
        exact H
      · replace H := H.2 c121
        refine j_iload (pc := 124) dX11_judge_124 rfl ?_
        refine j_iconst (pc := 126) (v := 3) dX11_judge_126 (by decide) ?_
        refine j_idiv (pc := 127) dX11_judge_127 (by decide) ?_
        exact s_ireti (pc := 128) dX11_judge_128 rfl H
set_option maxRecDepth 20000 in
theorem b_X11_seen_0 {l : Launch} {g : am_G} {d : Nat} {σ : am_S} {k : Int32 → am_S → Prop}  {x1 : Int32} (hd : 1 ≤ d) (H : (((¬ x1 < 0 ∧ ¬ 6 ≤ x1) → (vp_in x1 6 ∧ CI l g M_X8_bytesRefusal (d - 1) [.ref (43 + 2 * x1.toNatClampNeg)] σ (fun r2 σ2 => ((r2 = 0 → ((rg σ2 66 ≤ rg σ2 (64 * (43 + 2 * x1.toNatClampNeg) + 2) → JI l g M_X11_seen d 50 [(0, .ref 0), (1, .int x1), (2, .ref (43 + 2 * x1.toNatClampNeg)), (3, .int r2), (4, .int 0), (5, .int 0)] [] σ2 k) ∧ (¬ rg σ2 66 ≤ rg σ2 (64 * (43 + 2 * x1.toNatClampNeg) + 2) → k (-2) σ2))) ∧ (¬ r2 = 0 → k r2 σ2))))) ∧ (¬ (¬ x1 < 0 ∧ ¬ 6 ≤ x1) → k (-1) σ))) : CI l g M_X11_seen d [.ref 0, .int x1] σ k := by
  show J l g (M_X11_seen, d, 0, 0) 0 [(0, .ref 0), (1, .int x1)] [] (hp σ) 0 0 (kI k)
  refine j_iload_n (pc := 0) dX11_seen_0 rfl ?_
  refine s_callS_i (pc := 1) (M1 := M_X11_isShelf) (n := 1) (as := [.int x1]) (st := []) dX11_seen_1 G_X11_isShelf wm_X11_107 (by decide +kernel) rfl (Nat.le_of_ble_eq_true rfl) (by show 1 ≤ d; omega) (Nat.le_of_ble_eq_true rfl) ?_
  refine C_X11_isShelf (d := d - 1) (by omega) ⟨fun c1 => ?_, fun c1 => ?_⟩
  · replace H := H.1 c1
    refine j_if_ne (pc := 4) (t := 9) dX11_seen_4 (by decide) (fun _ => ?_) (fun q => absurd q (by decide))
    refine j_aload_n (pc := 9) dX11_seen_9 rfl ?_
    refine s_getr (pc := 10) dX11_seen_10 fl_X11_76 shp_0 rfl ?_
    refine j_iload_n (pc := 13) dX11_seen_13 rfl ?_
    have b14 := H.1
    replace H := H.2
    refine s_aald (pc := 14) (b := 43 + 2 * x1.toNatClampNeg) dX11_seen_14 shp_42 b14 (shelf_at (in_lt b14)) ?_
    refine j_astore_n (pc := 15) (lv1 := [(2, .ref (43 + 2 * x1.toNatClampNeg)), (0, .ref 0), (1, .int x1)]) dX11_seen_15 (Nat.le_of_ble_eq_true rfl) rfl ?_
    refine j_aload_n (pc := 16) dX11_seen_16 rfl ?_
    refine s_callV_i (pc := 17) (M1 := M_X8_bytesRefusal) (n := 0) (as := []) (a := 43 + 2 * x1.toNatClampNeg) (st := []) dX11_seen_17 G_X8_bytesRefusal wm_X11_114 (by decide +kernel) rfl (Nat.le_of_ble_eq_true rfl) (shp_s (in_lt b14)) rfl (by show 1 ≤ d; omega) (Nat.le_of_ble_eq_true rfl) (Nat.zero_le _) (Nat.zero_le _) ?_
    refine CI.mono H (fun r2 σ2 H => ?_)
    refine j_istore_n (pc := 20) (lv1 := [(3, .int r2), (2, .ref (43 + 2 * x1.toNatClampNeg)), (0, .ref 0), (1, .int x1)]) dX11_seen_20 (Nat.le_of_ble_eq_true rfl) rfl ?_
    refine j_iload_n (pc := 21) dX11_seen_21 rfl ?_
    refine j_if_eq (pc := 22) (t := 27) dX11_seen_22 (by decide) (fun c22 => ?_) (fun c22 => ?_)
    · replace H := H.1 c22
      refine j_aload_n (pc := 27) dX11_seen_27 rfl ?_
      refine s_geti (pc := 28) (64 * (43 + 2 * x1.toNatClampNeg) + 2) (rg σ2 (64 * (43 + 2 * x1.toNatClampNeg) + 2)) dX11_seen_28 fl_X11_118 (shp_s (in_lt b14)) rfl rfl rfl ?_
      refine j_aload_n (pc := 31) dX11_seen_31 rfl ?_
      refine s_getr (pc := 32) dX11_seen_32 fl_X11_10 shp_0 rfl ?_
      refine s_geti (pc := 35) 66 (rg σ2 66) dX11_seen_35 fl_X11_121 shp_1 rfl rfl rfl ?_
      refine j_icmp_ge (pc := 38) (t := 44) dX11_seen_38 (by decide) (fun c38 => ?_) (fun c38 => ?_)
      · replace H := H.1 c38
        refine j_iconst (pc := 44) (v := 0) dX11_seen_44 (by decide) ?_
        refine j_istore (pc := 45) (lv1 := [(4, .int 0), (3, .int r2), (2, .ref (43 + 2 * x1.toNatClampNeg)), (0, .ref 0), (1, .int x1)]) dX11_seen_45 (Nat.le_of_ble_eq_true rfl) rfl ?_
        refine j_iconst (pc := 47) (v := 0) dX11_seen_47 (by decide) ?_
        refine j_istore (pc := 48) (lv1 := [(5, .int 0), (4, .int 0), (3, .int r2), (2, .ref (43 + 2 * x1.toNatClampNeg)), (0, .ref 0), (1, .int x1)]) dX11_seen_48 (Nat.le_of_ble_eq_true rfl) rfl ?_
        refine j_sub [4, 5, 3, 2, 1, 0] rfl ?_
        exact H
      · replace H := H.2 c38
        refine j_bipush (pc := 41) (v := -2) dX11_seen_41 (by decide) ?_
        exact s_ireti (pc := 43) dX11_seen_43 rfl H
    · replace H := H.2 c22
      refine j_iload_n (pc := 25) dX11_seen_25 rfl ?_
      exact s_ireti (pc := 26) dX11_seen_26 rfl H
  · replace H := H.2 c1
    refine j_if_ne (pc := 4) (t := 9) dX11_seen_4 (by decide) (fun q => absurd q (by decide)) (fun _ => ?_)
    refine j_iconst (pc := 7) (v := -1) dX11_seen_7 (by decide) ?_
    exact s_ireti (pc := 8) dX11_seen_8 rfl H
set_option maxRecDepth 20000 in
theorem b_X11_seen_50 {l : Launch} {g : am_G} {d : Nat} {σ : am_S} {k : Int32 → am_S → Prop} {k2 : Nat} {x1 x3 x4 x5 : Int32} (hk2 : k2 < 6) (hd : 1 ≤ d) (H : ((rg σ 66 ≤ x5 → CV l g M_X6_weigh (d - 1) [.ref 14, .int 0, .int (rg σ 67), .int 0] σ (fun σ1 => CI l g M_X2_arrangement (d - 1) [.ref 1] σ1 (fun r2 σ2 => CI l g M_X7_fewestTill (d - 1) [.ref 19, .ref 14, .int r2, .int (-1), .int x4] σ2 (fun r3 σ3 => k r3 σ3)))) ∧ (¬ rg σ 66 ≤ x5 → CL l g M_X8_at (d - 1) [.ref (43 + 2 * k2), .int x5] σ (fun r4 σ4 => (((¬ r4.toInt32 < 0 ∧ ¬ rg σ4 64 ≤ r4.toInt32) → JI l g M_X11_seen d 50 [(0, .ref 0), (1, .int x1), (2, .ref (43 + 2 * k2)), (3, .int x3), (4, .int (x4 ||| (r4.toInt32 <<< ((2 * x5) &&& 31)))), (5, .int (x5 + 1))] [] σ4 k) ∧ (¬ (¬ r4.toInt32 < 0 ∧ ¬ rg σ4 64 ≤ r4.toInt32) → k (-2) σ4)))))) : JI l g M_X11_seen d 50 [(0, .ref 0), (1, .int x1), (2, .ref (43 + 2 * k2)), (3, .int x3), (4, .int x4), (5, .int x5)] [] σ k := by
  show J l g (M_X11_seen, d, 0, 0) 50 [(0, .ref 0), (1, .int x1), (2, .ref (43 + 2 * k2)), (3, .int x3), (4, .int x4), (5, .int x5)] [] (hp σ) 0 0 (kI k)
  refine j_iload (pc := 50) dX11_seen_50 rfl ?_
  refine j_aload_n (pc := 52) dX11_seen_52 rfl ?_
  refine s_getr (pc := 53) dX11_seen_53 fl_X11_10 shp_0 rfl ?_
  refine s_geti (pc := 56) 66 (rg σ 66) dX11_seen_56 fl_X11_121 shp_1 rfl rfl rfl ?_
  refine j_icmp_ge (pc := 59) (t := 104) dX11_seen_59 (by decide) (fun c59 => ?_) (fun c59 => ?_)
  · replace H := H.1 c59
    refine j_aload_n (pc := 104) dX11_seen_104 rfl ?_
    refine s_getr (pc := 105) dX11_seen_105 fl_X11_35 shp_0 rfl ?_
    refine j_iconst (pc := 108) (v := 0) dX11_seen_108 (by decide) ?_
    refine j_aload_n (pc := 109) dX11_seen_109 rfl ?_
    refine s_getr (pc := 110) dX11_seen_110 fl_X11_10 shp_0 rfl ?_
    refine s_geti (pc := 113) 67 (rg σ 67) dX11_seen_113 fl_X11_146 shp_1 rfl rfl rfl ?_
    refine j_iconst (pc := 116) (v := 0) dX11_seen_116 (by decide) ?_
    refine s_callV_v (pc := 117) (M1 := M_X6_weigh) (n := 3) (as := [.int 0, .int (rg σ 67), .int 0]) (a := 14) (st := []) dX11_seen_117 G_X6_weigh wm_X11_205 (by decide +kernel) rfl (Nat.le_of_ble_eq_true rfl) shp_14 rfl (by show 1 ≤ d; omega) (Nat.le_of_ble_eq_true rfl) (Nat.zero_le _) (Nat.zero_le _) ?_
    refine CV.mono H (fun σ1 H => ?_)
    refine j_aload_n (pc := 120) dX11_seen_120 rfl ?_
    refine s_getr (pc := 121) dX11_seen_121 fl_X11_42 shp_0 rfl ?_
    refine j_aload_n (pc := 124) dX11_seen_124 rfl ?_
    refine s_getr (pc := 125) dX11_seen_125 fl_X11_35 shp_0 rfl ?_
    refine j_aload_n (pc := 128) dX11_seen_128 rfl ?_
    refine s_getr (pc := 129) dX11_seen_129 fl_X11_10 shp_0 rfl ?_
    refine s_callV_i (pc := 132) (M1 := M_X2_arrangement) (n := 0) (as := []) (a := 1) (st := [.ref 14, .ref 19]) dX11_seen_132 G_X2_arrangement wm_X11_198 (by decide +kernel) rfl (Nat.le_of_ble_eq_true rfl) shp_1 rfl (by show 1 ≤ d; omega) (Nat.le_of_ble_eq_true rfl) (Nat.zero_le _) (Nat.zero_le _) ?_
    refine CI.mono H (fun r2 σ2 H => ?_)
    refine j_iconst (pc := 135) (v := -1) dX11_seen_135 (by decide) ?_
    refine j_iload (pc := 136) dX11_seen_136 rfl ?_
    refine s_callV_i (pc := 138) (M1 := M_X7_fewestTill) (n := 4) (as := [.ref 14, .int r2, .int (-1), .int x4]) (a := 19) (st := []) dX11_seen_138 G_X7_fewestTill wm_X11_274 (by decide +kernel) rfl (Nat.le_of_ble_eq_true rfl) shp_19 rfl (by show 1 ≤ d; omega) (Nat.le_of_ble_eq_true rfl) (Nat.zero_le _) (Nat.zero_le _) ?_
    refine CI.mono H (fun r3 σ3 H => ?_)
    exact s_ireti (pc := 141) dX11_seen_141 rfl H
  · replace H := H.2 c59
    refine j_aload_n (pc := 62) dX11_seen_62 rfl ?_
    refine j_iload (pc := 63) dX11_seen_63 rfl ?_
    refine s_callV_l (pc := 65) (M1 := M_X8_at) (n := 1) (as := [.int x5]) (a := 43 + 2 * k2) (st := []) dX11_seen_65 G_X8_at wm_X11_124 (by decide +kernel) rfl (Nat.le_of_ble_eq_true rfl) (shp_s hk2) rfl (by show 1 ≤ d; omega) (Nat.le_of_ble_eq_true rfl) (Nat.zero_le _) (Nat.zero_le _) ?_
    refine CL.mono H (fun r4 σ4 H => ?_)
    refine j_l2i (pc := 68) dX11_seen_68 ?_
    refine j_istore (pc := 69) (lv1 := [(6, .int r4.toInt32), (0, .ref 0), (1, .int x1), (2, .ref (43 + 2 * k2)), (3, .int x3), (4, .int x4), (5, .int x5)]) dX11_seen_69 (Nat.le_of_ble_eq_true rfl) rfl ?_
    refine j_aload_n (pc := 71) dX11_seen_71 rfl ?_
    refine s_getr (pc := 72) dX11_seen_72 fl_X11_10 shp_0 rfl ?_
    refine j_iload (pc := 75) dX11_seen_75 rfl ?_
    refine s_callV_i (pc := 77) (M1 := M_X2_hasRoom) (n := 1) (as := [.int r4.toInt32]) (a := 1) (st := []) dX11_seen_77 G_X2_hasRoom wm_X11_91 (by decide +kernel) rfl (Nat.le_of_ble_eq_true rfl) shp_1 rfl (by show 1 ≤ d; omega) (Nat.le_of_ble_eq_true rfl) (Nat.zero_le _) (Nat.zero_le _) ?_
    refine C_X2_hasRoom (d := d - 1) (by omega) ⟨fun c77 => ?_, fun c77 => ?_⟩
    · replace H := H.1 c77
      refine j_if_ne (pc := 80) (t := 86) dX11_seen_80 (by decide) (fun _ => ?_) (fun q => absurd q (by decide))
      refine j_iload (pc := 86) dX11_seen_86 rfl ?_
      refine j_iload (pc := 88) dX11_seen_88 rfl ?_
      refine j_iconst (pc := 90) (v := 2) dX11_seen_90 (by decide) ?_
      refine j_iload (pc := 91) dX11_seen_91 rfl ?_
      refine j_imul (pc := 93) dX11_seen_93 ?_
      refine j_ishl (pc := 94) dX11_seen_94 ?_
      refine j_ior (pc := 95) dX11_seen_95 ?_
      refine j_istore (pc := 96) (lv1 := [(4, .int (x4 ||| (r4.toInt32 <<< ((2 * x5) &&& 31)))), (6, .int r4.toInt32), (0, .ref 0), (1, .int x1), (2, .ref (43 + 2 * k2)), (3, .int x3), (5, .int x5)]) dX11_seen_96 (Nat.le_of_ble_eq_true rfl) rfl ?_
      refine j_iinc (pc := 98) (k := 6) (v := x5 + 1) (lv1 := [(5, .int (x5 + 1)), (4, .int (x4 ||| (r4.toInt32 <<< ((2 * x5) &&& 31)))), (6, .int r4.toInt32), (0, .ref 0), (1, .int x1), (2, .ref (43 + 2 * k2)), (3, .int x3)]) dX11_seen_98 rfl rfl (Nat.le_of_ble_eq_true rfl) rfl ?_
      refine j_goto (pc := 101) (t := 50) dX11_seen_101 (by decide) ?_
      refine j_sub [3, 4, 5, 6, 1, 0] rfl ?_
      exact H
    · replace H := H.2 c77
      refine j_if_ne (pc := 80) (t := 86) dX11_seen_80 (by decide) (fun q => absurd q (by decide)) (fun _ => ?_)
      refine j_bipush (pc := 83) (v := -2) dX11_seen_83 (by decide) ?_
      exact s_ireti (pc := 85) dX11_seen_85 rfl H
set_option maxRecDepth 20000 in
theorem b_X11_image_0 {l : Launch} {g : am_G} {d : Nat} {σ : am_S} {k : Int32 → am_S → Prop}   (hd : 1 ≤ d) (H : CI l g M_X3_take (d - 1) [.ref 32, .ref 1] σ (fun r1 σ1 => k r1 σ1)) : CI l g M_X11_image d [.ref 0] σ k := by
  show J l g (M_X11_image, d, 0, 0) 0 [(0, .ref 0)] [] (hp σ) 0 0 (kI k)
  refine j_aload_n (pc := 0) dX11_image_0 rfl ?_
  refine s_getr (pc := 1) dX11_image_1 fl_X11_56 shp_0 rfl ?_
  refine j_aload_n (pc := 4) dX11_image_4 rfl ?_
  refine s_getr (pc := 5) dX11_image_5 fl_X11_10 shp_0 rfl ?_
  refine s_callV_i (pc := 8) (M1 := M_X3_take) (n := 1) (as := [.ref 1]) (a := 32) (st := []) dX11_image_8 G_X3_take wm_X11_293 (by decide +kernel) rfl (Nat.le_of_ble_eq_true rfl) shp_32 rfl (by show 1 ≤ d; omega) (Nat.le_of_ble_eq_true rfl) (Nat.zero_le _) (Nat.zero_le _) ?_
  refine CI.mono H (fun r1 σ1 H => ?_)
  exact s_ireti (pc := 11) dX11_image_11 rfl H
set_option maxRecDepth 20000 in
theorem b_X11_back_0 {l : Launch} {g : am_G} {d : Nat} {σ : am_S} {k : Int32 → am_S → Prop}   (hd : 1 ≤ d) (H : CI l g M_X3_layBack (d - 1) [.ref 32, .ref 1] σ (fun r1 σ1 => k r1 σ1)) : CI l g M_X11_back d [.ref 0] σ k := by
  show J l g (M_X11_back, d, 0, 0) 0 [(0, .ref 0)] [] (hp σ) 0 0 (kI k)
  refine j_aload_n (pc := 0) dX11_back_0 rfl ?_
  refine s_getr (pc := 1) dX11_back_1 fl_X11_56 shp_0 rfl ?_
  refine j_aload_n (pc := 4) dX11_back_4 rfl ?_
  refine s_getr (pc := 5) dX11_back_5 fl_X11_10 shp_0 rfl ?_
  refine s_callV_i (pc := 8) (M1 := M_X3_layBack) (n := 1) (as := [.ref 1]) (a := 32) (st := []) dX11_back_8 G_X3_layBack wm_X11_296 (by decide +kernel) rfl (Nat.le_of_ble_eq_true rfl) shp_32 rfl (by show 1 ≤ d; omega) (Nat.le_of_ble_eq_true rfl) (Nat.zero_le _) (Nat.zero_le _) ?_
  refine CI.mono H (fun r1 σ1 H => ?_)
  exact s_ireti (pc := 11) dX11_back_11 rfl H
set_option maxRecDepth 20000 in
theorem b_X11_undo_0 {l : Launch} {g : am_G} {d : Nat} {σ : am_S} {k : Int32 → am_S → Prop}   (hd : 1 ≤ d) (H : ((¬ rg σ 2180 = 0 → CV l g M_X5_takeBack (d - 1) [.ref 34, .ref 1] σ (fun σ1 => k (rg σ1 2180) σ1)) ∧ (rg σ 2180 = 0 → k (-5) σ))) : CI l g M_X11_undo d [.ref 0] σ k := by
  show J l g (M_X11_undo, d, 0, 0) 0 [(0, .ref 0)] [] (hp σ) 0 0 (kI k)
  refine j_aload_n (pc := 0) dX11_undo_0 rfl ?_
  refine s_getr (pc := 1) dX11_undo_1 fl_X11_63 shp_0 rfl ?_
  refine s_geti (pc := 4) 2180 (rg σ 2180) dX11_undo_4 fl_X11_299 shp_34 rfl rfl rfl ?_
  refine j_if_ne (pc := 7) (t := 13) dX11_undo_7 (by decide) (fun c7 => ?_) (fun c7 => ?_)
  · replace H := H.1 c7
    refine j_aload_n (pc := 13) dX11_undo_13 rfl ?_
    refine s_getr (pc := 14) dX11_undo_14 fl_X11_63 shp_0 rfl ?_
    refine j_aload_n (pc := 17) dX11_undo_17 rfl ?_
    refine s_getr (pc := 18) dX11_undo_18 fl_X11_10 shp_0 rfl ?_
    refine s_callV_v (pc := 21) (M1 := M_X5_takeBack) (n := 1) (as := [.ref 1]) (a := 34) (st := []) dX11_undo_21 G_X5_takeBack wm_X11_302 (by decide +kernel) rfl (Nat.le_of_ble_eq_true rfl) shp_34 rfl (by show 1 ≤ d; omega) (Nat.le_of_ble_eq_true rfl) (Nat.zero_le _) (Nat.zero_le _) ?_
    refine CV.mono H (fun σ1 H => ?_)
    refine j_aload_n (pc := 24) dX11_undo_24 rfl ?_
    refine s_getr (pc := 25) dX11_undo_25 fl_X11_63 shp_0 rfl ?_
    refine s_geti (pc := 28) 2180 (rg σ1 2180) dX11_undo_28 fl_X11_299 shp_34 rfl rfl rfl ?_
    exact s_ireti (pc := 31) dX11_undo_31 rfl H
  · replace H := H.2 c7
    refine j_bipush (pc := 10) (v := -5) dX11_undo_10 (by decide) ?_
    exact s_ireti (pc := 12) dX11_undo_12 rfl H
set_option maxRecDepth 20000 in
theorem b_X11_redo_0 {l : Launch} {g : am_G} {d : Nat} {σ : am_S} {k : Int32 → am_S → Prop}   (hd : 1 ≤ d) (H : ((¬ rg σ 2181 = 0 → CV l g M_X5_doAgain (d - 1) [.ref 34, .ref 1] σ (fun σ1 => k (rg σ1 2181) σ1)) ∧ (rg σ 2181 = 0 → k (-5) σ))) : CI l g M_X11_redo d [.ref 0] σ k := by
  show J l g (M_X11_redo, d, 0, 0) 0 [(0, .ref 0)] [] (hp σ) 0 0 (kI k)
  refine j_aload_n (pc := 0) dX11_redo_0 rfl ?_
  refine s_getr (pc := 1) dX11_redo_1 fl_X11_63 shp_0 rfl ?_
  refine s_geti (pc := 4) 2181 (rg σ 2181) dX11_redo_4 fl_X11_306 shp_34 rfl rfl rfl ?_
  refine j_if_ne (pc := 7) (t := 13) dX11_redo_7 (by decide) (fun c7 => ?_) (fun c7 => ?_)
  · replace H := H.1 c7
    refine j_aload_n (pc := 13) dX11_redo_13 rfl ?_
    refine s_getr (pc := 14) dX11_redo_14 fl_X11_63 shp_0 rfl ?_
    refine j_aload_n (pc := 17) dX11_redo_17 rfl ?_
    refine s_getr (pc := 18) dX11_redo_18 fl_X11_10 shp_0 rfl ?_
    refine s_callV_v (pc := 21) (M1 := M_X5_doAgain) (n := 1) (as := [.ref 1]) (a := 34) (st := []) dX11_redo_21 G_X5_doAgain wm_X11_309 (by decide +kernel) rfl (Nat.le_of_ble_eq_true rfl) shp_34 rfl (by show 1 ≤ d; omega) (Nat.le_of_ble_eq_true rfl) (Nat.zero_le _) (Nat.zero_le _) ?_
    refine CV.mono H (fun σ1 H => ?_)
    refine j_aload_n (pc := 24) dX11_redo_24 rfl ?_
    refine s_getr (pc := 25) dX11_redo_25 fl_X11_63 shp_0 rfl ?_
    refine s_geti (pc := 28) 2181 (rg σ1 2181) dX11_redo_28 fl_X11_306 shp_34 rfl rfl rfl ?_
    exact s_ireti (pc := 31) dX11_redo_31 rfl H
  · replace H := H.2 c7
    refine j_bipush (pc := 10) (v := -5) dX11_redo_10 (by decide) ?_
    exact s_ireti (pc := 12) dX11_redo_12 rfl H
set_option maxRecDepth 20000 in
theorem b_X11_body_0 {l : Launch} {g : am_G} {d : Nat} {σ : am_S} {k : Int32 → am_S → Prop}  {x1 : Int32} (hd : 1 ≤ d) (H : ((x1 < 0 → k (-1) σ) ∧ (¬ x1 < 0 → ((x1 < 8 → CI l g M_X0_addBody (d - 1) [.ref 39, .int x1] σ (fun r1 σ1 => k r1 σ1)) ∧ (¬ x1 < 8 → k (-1) σ))))) : CI l g M_X11_body d [.ref 0, .int x1] σ k := by
  show J l g (M_X11_body, d, 0, 0) 0 [(0, .ref 0), (1, .int x1)] [] (hp σ) 0 0 (kI k)
  refine j_iload_n (pc := 0) dX11_body_0 rfl ?_
  refine j_if_lt (pc := 1) (t := 10) dX11_body_1 (by decide) (fun c1 => ?_) (fun c1 => ?_)
  · replace H := H.1 c1
    refine j_iconst (pc := 10) (v := -1) dX11_body_10 (by decide) ?_
    exact s_ireti (pc := 11) dX11_body_11 rfl H
  · replace H := H.2 c1
    refine j_iload_n (pc := 4) dX11_body_4 rfl ?_
    refine j_bipush (pc := 5) (v := 8) dX11_body_5 (by decide) ?_
    refine j_icmp_lt (pc := 7) (t := 12) dX11_body_7 (by decide) (fun c7 => ?_) (fun c7 => ?_)
    · replace H := H.1 c7
      refine j_aload_n (pc := 12) dX11_body_12 rfl ?_
      refine s_getr (pc := 13) dX11_body_13 fl_X11_70 shp_0 rfl ?_
      refine j_iload_n (pc := 16) dX11_body_16 rfl ?_
      refine s_callV_i (pc := 17) (M1 := M_X0_addBody) (n := 1) (as := [.int x1]) (a := 39) (st := []) dX11_body_17 G_X0_addBody wm_X11_312 (by decide +kernel) rfl (Nat.le_of_ble_eq_true rfl) shp_39 rfl (by show 1 ≤ d; omega) (Nat.le_of_ble_eq_true rfl) (Nat.zero_le _) (Nat.zero_le _) ?_
      refine CI.mono H (fun r1 σ1 H => ?_)
      exact s_ireti (pc := 20) dX11_body_20 rfl H
    · replace H := H.2 c7
      refine j_iconst (pc := 10) (v := -1) dX11_body_10 (by decide) ?_
      exact s_ireti (pc := 11) dX11_body_11 rfl H
set_option maxRecDepth 20000 in
theorem b_X11_act_0 {l : Launch} {g : am_G} {d : Nat} {σ : am_S} {k : Int32 → am_S → Prop}  {x1 x2 x3 : Int32} (hd : 1 ≤ d) (H : CI l g M_X0_perform (d - 1) [.ref 39, .int x1, .int x2, .int x3] σ (fun r1 σ1 => k r1 σ1)) : CI l g M_X11_act d [.ref 0, .int x1, .int x2, .int x3] σ k := by
  show J l g (M_X11_act, d, 0, 0) 0 [(0, .ref 0), (1, .int x1), (2, .int x2), (3, .int x3)] [] (hp σ) 0 0 (kI k)
  refine j_aload_n (pc := 0) dX11_act_0 rfl ?_
  refine s_getr (pc := 1) dX11_act_1 fl_X11_70 shp_0 rfl ?_
  refine j_iload_n (pc := 4) dX11_act_4 rfl ?_
  refine j_iload_n (pc := 5) dX11_act_5 rfl ?_
  refine j_iload_n (pc := 6) dX11_act_6 rfl ?_
  refine s_callV_i (pc := 7) (M1 := M_X0_perform) (n := 3) (as := [.int x1, .int x2, .int x3]) (a := 39) (st := []) dX11_act_7 G_X0_perform wm_X11_315 (by decide +kernel) rfl (Nat.le_of_ble_eq_true rfl) shp_39 rfl (by show 1 ≤ d; omega) (Nat.le_of_ble_eq_true rfl) (Nat.zero_le _) (Nat.zero_le _) ?_
  refine CI.mono H (fun r1 σ1 H => ?_)
  exact s_ireti (pc := 10) dX11_act_10 rfl H
set_option maxRecDepth 20000 in
theorem b_X11_trace_0 {l : Launch} {g : am_G} {d : Nat} {σ : am_S} {k : Int32 → am_S → Prop}  {x1 : Int32} (hd : 1 ≤ d) (H : ((x1 < 0 → k (-1) σ) ∧ (¬ x1 < 0 → CI l g M_X0_traced (d - 1) [.ref 39] σ (fun r1 σ1 => ((r1 ≤ x1 → k (-1) σ1) ∧ (¬ r1 ≤ x1 → (vp_in x1 24 ∧ k (ar σ1 41 x1.toNatClampNeg) σ1))))))) : CI l g M_X11_trace d [.ref 0, .int x1] σ k := by
  show J l g (M_X11_trace, d, 0, 0) 0 [(0, .ref 0), (1, .int x1)] [] (hp σ) 0 0 (kI k)
  refine j_iload_n (pc := 0) dX11_trace_0 rfl ?_
  refine j_if_lt (pc := 1) (t := 27) dX11_trace_1 (by decide) (fun c1 => ?_) (fun c1 => ?_)
  · replace H := H.1 c1
    refine j_iconst (pc := 27) (v := -1) dX11_trace_27 (by decide) ?_
    exact s_ireti (pc := 28) dX11_trace_28 rfl H
  · replace H := H.2 c1
    refine j_iload_n (pc := 4) dX11_trace_4 rfl ?_
    refine j_aload_n (pc := 5) dX11_trace_5 rfl ?_
    refine s_getr (pc := 6) dX11_trace_6 fl_X11_70 shp_0 rfl ?_
    refine s_callV_i (pc := 9) (M1 := M_X0_traced) (n := 0) (as := []) (a := 39) (st := [.int x1]) dX11_trace_9 G_X0_traced wm_X11_318 (by decide +kernel) rfl (Nat.le_of_ble_eq_true rfl) shp_39 rfl (by show 1 ≤ d; omega) (Nat.le_of_ble_eq_true rfl) (Nat.zero_le _) (Nat.zero_le _) ?_
    refine CI.mono H (fun r1 σ1 H => ?_)
    refine j_icmp_ge (pc := 12) (t := 27) dX11_trace_12 (by decide) (fun c12 => ?_) (fun c12 => ?_)
    · replace H := H.1 c12
      refine j_iconst (pc := 27) (v := -1) dX11_trace_27 (by decide) ?_
      exact s_ireti (pc := 28) dX11_trace_28 rfl H
    · replace H := H.2 c12
      refine j_aload_n (pc := 15) dX11_trace_15 rfl ?_
      refine s_getr (pc := 16) dX11_trace_16 fl_X11_70 shp_0 rfl ?_
      refine s_getr (pc := 19) dX11_trace_19 fl_X11_321 shp_39 rfl ?_
      refine j_iload_n (pc := 22) dX11_trace_22 rfl ?_
      have b23 := H.1
      replace H := H.2
      refine s_iald (pc := 23) (ar σ1 41 x1.toNatClampNeg) dX11_trace_23 shp_41 b23 rfl ?_
      refine j_goto (pc := 24) (t := 28) dX11_trace_24 (by decide) ?_
      exact s_ireti (pc := 28) dX11_trace_28 rfl H
set_option maxRecDepth 20000 in
theorem b_X11_keep_0 {l : Launch} {g : am_G} {d : Nat} {σ : am_S} {k : Int32 → am_S → Prop}  {x1 x2 : Int32} (hd : 1 ≤ d) (H : (((¬ x1 < 0 ∧ ¬ 6 ≤ x1) → ((x2 = (-1) → (vp_in x1 6 ∧ CV l g M_X8_holdBody (d - 1) [.ref (43 + 2 * x1.toNatClampNeg), .int x2] σ (fun σ2 => k 1 σ2))) ∧ (¬ x2 = (-1) → (((¬ x2 < 0 ∧ ¬ rg σ 2497 ≤ x2) → (vp_in x1 6 ∧ CV l g M_X8_holdBody (d - 1) [.ref (43 + 2 * x1.toNatClampNeg), .int x2] σ (fun σ4 => k 1 σ4))) ∧ (¬ (¬ x2 < 0 ∧ ¬ rg σ 2497 ≤ x2) → k (-1) σ))))) ∧ (¬ (¬ x1 < 0 ∧ ¬ 6 ≤ x1) → k (-1) σ))) : CI l g M_X11_keep d [.ref 0, .int x1, .int x2] σ k := by
  show J l g (M_X11_keep, d, 0, 0) 0 [(0, .ref 0), (1, .int x1), (2, .int x2)] [] (hp σ) 0 0 (kI k)
  refine j_iload_n (pc := 0) dX11_keep_0 rfl ?_
  refine s_callS_i (pc := 1) (M1 := M_X11_isShelf) (n := 1) (as := [.int x1]) (st := []) dX11_keep_1 G_X11_isShelf wm_X11_107 (by decide +kernel) rfl (Nat.le_of_ble_eq_true rfl) (by show 1 ≤ d; omega) (Nat.le_of_ble_eq_true rfl) ?_
  refine C_X11_isShelf (d := d - 1) (by omega) ⟨fun c1 => ?_, fun c1 => ?_⟩
  · replace H := H.1 c1
    refine j_if_eq (pc := 4) (t := 23) dX11_keep_4 (by decide) (fun q => absurd q (by decide)) (fun _ => ?_)
    refine j_iload_n (pc := 7) dX11_keep_7 rfl ?_
    refine j_iconst (pc := 8) (v := -1) dX11_keep_8 (by decide) ?_
    refine j_icmp_eq (pc := 9) (t := 25) dX11_keep_9 (by decide) (fun c9 => ?_) (fun c9 => ?_)
    · replace H := H.1 c9
      refine j_aload_n (pc := 25) dX11_keep_25 rfl ?_
      refine s_getr (pc := 26) dX11_keep_26 fl_X11_76 shp_0 rfl ?_
      refine j_iload_n (pc := 29) dX11_keep_29 rfl ?_
      have b30 := H.1
      replace H := H.2
      refine s_aald (pc := 30) (b := 43 + 2 * x1.toNatClampNeg) dX11_keep_30 shp_42 b30 (shelf_at (in_lt b30)) ?_
      refine j_iload_n (pc := 31) dX11_keep_31 rfl ?_
      refine s_callV_v (pc := 32) (M1 := M_X8_holdBody) (n := 1) (as := [.int x2]) (a := 43 + 2 * x1.toNatClampNeg) (st := []) dX11_keep_32 G_X8_holdBody wm_X11_327 (by decide +kernel) rfl (Nat.le_of_ble_eq_true rfl) (shp_s (in_lt b30)) rfl (by show 1 ≤ d; omega) (Nat.le_of_ble_eq_true rfl) (Nat.zero_le _) (Nat.zero_le _) ?_
      refine CV.mono H (fun σ2 H => ?_)
      refine j_iconst (pc := 35) (v := 1) dX11_keep_35 (by decide) ?_
      exact s_ireti (pc := 36) dX11_keep_36 rfl H
    · replace H := H.2 c9
      refine j_aload_n (pc := 12) dX11_keep_12 rfl ?_
      refine s_getr (pc := 13) dX11_keep_13 fl_X11_70 shp_0 rfl ?_
      refine j_iload_n (pc := 16) dX11_keep_16 rfl ?_
      refine s_callV_i (pc := 17) (M1 := M_X0_hasBody) (n := 1) (as := [.int x2]) (a := 39) (st := []) dX11_keep_17 G_X0_hasBody wm_X11_324 (by decide +kernel) rfl (Nat.le_of_ble_eq_true rfl) shp_39 rfl (by show 1 ≤ d; omega) (Nat.le_of_ble_eq_true rfl) (Nat.zero_le _) (Nat.zero_le _) ?_
      refine C_X0_hasBody (d := d - 1) (by omega) ⟨fun c17 => ?_, fun c17 => ?_⟩
      · replace H := H.1 c17
        refine j_if_ne (pc := 20) (t := 25) dX11_keep_20 (by decide) (fun _ => ?_) (fun q => absurd q (by decide))
        refine j_aload_n (pc := 25) dX11_keep_25 rfl ?_
        refine s_getr (pc := 26) dX11_keep_26 fl_X11_76 shp_0 rfl ?_
        refine j_iload_n (pc := 29) dX11_keep_29 rfl ?_
        have b30 := H.1
        replace H := H.2
        refine s_aald (pc := 30) (b := 43 + 2 * x1.toNatClampNeg) dX11_keep_30 shp_42 b30 (shelf_at (in_lt b30)) ?_
        refine j_iload_n (pc := 31) dX11_keep_31 rfl ?_
        refine s_callV_v (pc := 32) (M1 := M_X8_holdBody) (n := 1) (as := [.int x2]) (a := 43 + 2 * x1.toNatClampNeg) (st := []) dX11_keep_32 G_X8_holdBody wm_X11_327 (by decide +kernel) rfl (Nat.le_of_ble_eq_true rfl) (shp_s (in_lt b30)) rfl (by show 1 ≤ d; omega) (Nat.le_of_ble_eq_true rfl) (Nat.zero_le _) (Nat.zero_le _) ?_
        refine CV.mono H (fun σ4 H => ?_)
        refine j_iconst (pc := 35) (v := 1) dX11_keep_35 (by decide) ?_
        exact s_ireti (pc := 36) dX11_keep_36 rfl H
      · replace H := H.2 c17
        refine j_if_ne (pc := 20) (t := 25) dX11_keep_20 (by decide) (fun q => absurd q (by decide)) (fun _ => ?_)
        refine j_iconst (pc := 23) (v := -1) dX11_keep_23 (by decide) ?_
        exact s_ireti (pc := 24) dX11_keep_24 rfl H
  · replace H := H.2 c1
    refine j_if_eq (pc := 4) (t := 23) dX11_keep_4 (by decide) (fun _ => ?_) (fun q => absurd q (by decide))
    refine j_iconst (pc := 23) (v := -1) dX11_keep_23 (by decide) ?_
    exact s_ireti (pc := 24) dX11_keep_24 rfl H
set_option maxRecDepth 20000 in
theorem b_X11_row_0 {l : Launch} {g : am_G} {d : Nat} {σ : am_S} {k : Int32 → am_S → Prop}  {x1 x2 x3 : Int32} (hd : 1 ≤ d) (H : (((¬ x1 < 0 ∧ ¬ 6 ≤ x1) → ((x2 < 0 → k (-1) σ) ∧ (¬ x2 < 0 → ((5 ≤ x2 → k (-1) σ) ∧ (¬ 5 ≤ x2 → ((x3 ≤ 60 → ((0 ≤ x3 → (vp_in x1 6 ∧ CV l g M_X8_holdRow (d - 1) [.ref (43 + 2 * x1.toNatClampNeg), .int x2, .int x3] σ (fun σ2 => k 1 σ2))) ∧ (¬ 0 ≤ x3 → k (-14) σ))) ∧ (¬ x3 ≤ 60 → k (-1) σ))))))) ∧ (¬ (¬ x1 < 0 ∧ ¬ 6 ≤ x1) → k (-1) σ))) : CI l g M_X11_row d [.ref 0, .int x1, .int x2, .int x3] σ k := by
  show J l g (M_X11_row, d, 0, 0) 0 [(0, .ref 0), (1, .int x1), (2, .int x2), (3, .int x3)] [] (hp σ) 0 0 (kI k)
  refine j_iload_n (pc := 0) dX11_row_0 rfl ?_
  refine s_callS_i (pc := 1) (M1 := M_X11_isShelf) (n := 1) (as := [.int x1]) (st := []) dX11_row_1 G_X11_isShelf wm_X11_107 (by decide +kernel) rfl (Nat.le_of_ble_eq_true rfl) (by show 1 ≤ d; omega) (Nat.le_of_ble_eq_true rfl) ?_
  refine C_X11_isShelf (d := d - 1) (by omega) ⟨fun c1 => ?_, fun c1 => ?_⟩
  · replace H := H.1 c1
    refine j_if_eq (pc := 4) (t := 22) dX11_row_4 (by decide) (fun q => absurd q (by decide)) (fun _ => ?_)
    refine j_iload_n (pc := 7) dX11_row_7 rfl ?_
    refine j_if_lt (pc := 8) (t := 22) dX11_row_8 (by decide) (fun c8 => ?_) (fun c8 => ?_)
    · replace H := H.1 c8
      refine j_iconst (pc := 22) (v := -1) dX11_row_22 (by decide) ?_
      exact s_ireti (pc := 23) dX11_row_23 rfl H
    · replace H := H.2 c8
      refine j_iload_n (pc := 11) dX11_row_11 rfl ?_
      refine j_iconst (pc := 12) (v := 5) dX11_row_12 (by decide) ?_
      refine j_icmp_ge (pc := 13) (t := 22) dX11_row_13 (by decide) (fun c13 => ?_) (fun c13 => ?_)
      · replace H := H.1 c13
        refine j_iconst (pc := 22) (v := -1) dX11_row_22 (by decide) ?_
        exact s_ireti (pc := 23) dX11_row_23 rfl H
      · replace H := H.2 c13
        refine j_iload_n (pc := 16) dX11_row_16 rfl ?_
        refine j_bipush (pc := 17) (v := 60) dX11_row_17 (by decide) ?_
        refine j_icmp_le (pc := 19) (t := 24) dX11_row_19 (by decide) (fun c19 => ?_) (fun c19 => ?_)
        · replace H := H.1 c19
          refine j_iload_n (pc := 24) dX11_row_24 rfl ?_
          refine j_if_ge (pc := 25) (t := 31) dX11_row_25 (by decide) (fun c25 => ?_) (fun c25 => ?_)
          · replace H := H.1 c25
            refine j_aload_n (pc := 31) dX11_row_31 rfl ?_
            refine s_getr (pc := 32) dX11_row_32 fl_X11_76 shp_0 rfl ?_
            refine j_iload_n (pc := 35) dX11_row_35 rfl ?_
            have b36 := H.1
            replace H := H.2
            refine s_aald (pc := 36) (b := 43 + 2 * x1.toNatClampNeg) dX11_row_36 shp_42 b36 (shelf_at (in_lt b36)) ?_
            refine j_iload_n (pc := 37) dX11_row_37 rfl ?_
            refine j_iload_n (pc := 38) dX11_row_38 rfl ?_
            refine s_callV_v (pc := 39) (M1 := M_X8_holdRow) (n := 2) (as := [.int x2, .int x3]) (a := 43 + 2 * x1.toNatClampNeg) (st := []) dX11_row_39 G_X8_holdRow wm_X11_330 (by decide +kernel) rfl (Nat.le_of_ble_eq_true rfl) (shp_s (in_lt b36)) rfl (by show 1 ≤ d; omega) (Nat.le_of_ble_eq_true rfl) (Nat.zero_le _) (Nat.zero_le _) ?_
            refine CV.mono H (fun σ2 H => ?_)
            refine j_iconst (pc := 42) (v := 1) dX11_row_42 (by decide) ?_
            exact s_ireti (pc := 43) dX11_row_43 rfl H
          · replace H := H.2 c25
            refine j_bipush (pc := 28) (v := -14) dX11_row_28 (by decide) ?_
            exact s_ireti (pc := 30) dX11_row_30 rfl H
        · replace H := H.2 c19
          refine j_iconst (pc := 22) (v := -1) dX11_row_22 (by decide) ?_
          exact s_ireti (pc := 23) dX11_row_23 rfl H
  · replace H := H.2 c1
    refine j_if_eq (pc := 4) (t := 22) dX11_row_4 (by decide) (fun _ => ?_) (fun q => absurd q (by decide))
    refine j_iconst (pc := 22) (v := -1) dX11_row_22 (by decide) ?_
    exact s_ireti (pc := 23) dX11_row_23 rfl H
set_option maxRecDepth 20000 in
theorem b_X11_elementRefusal_0 {l : Launch} {g : am_G} {d : Nat} {σ : am_S} {k : Int32 → am_S → Prop}  {x1 x2 : Int32} (hd : 1 ≤ d) (H : (((¬ x1 < 0 ∧ ¬ 6 ≤ x1) → (vp_in x1 6 ∧ CI l g M_X8_rowRefusal (d - 1) [.ref (43 + 2 * x1.toNatClampNeg)] σ (fun r2 σ2 => ((r2 = 0 → ((x2 < 0 → k (-13) σ2) ∧ (¬ x2 < 0 → (vp_in x1 6 ∧ ((x2 < rg σ2 (64 * (43 + 2 * x1.toNatClampNeg) + 2) → k 0 σ2) ∧ (¬ x2 < rg σ2 (64 * (43 + 2 * x1.toNatClampNeg) + 2) → k (-13) σ2)))))) ∧ (¬ r2 = 0 → k r2 σ2))))) ∧ (¬ (¬ x1 < 0 ∧ ¬ 6 ≤ x1) → k (-1) σ))) : CI l g M_X11_elementRefusal d [.ref 0, .int x1, .int x2] σ k := by
  show J l g (M_X11_elementRefusal, d, 0, 0) 0 [(0, .ref 0), (1, .int x1), (2, .int x2)] [] (hp σ) 0 0 (kI k)
  refine j_iload_n (pc := 0) dX11_elementRefusal_0 rfl ?_
  refine s_callS_i (pc := 1) (M1 := M_X11_isShelf) (n := 1) (as := [.int x1]) (st := []) dX11_elementRefusal_1 G_X11_isShelf wm_X11_107 (by decide +kernel) rfl (Nat.le_of_ble_eq_true rfl) (by show 1 ≤ d; omega) (Nat.le_of_ble_eq_true rfl) ?_
  refine C_X11_isShelf (d := d - 1) (by omega) ⟨fun c1 => ?_, fun c1 => ?_⟩
  · replace H := H.1 c1
    refine j_if_ne (pc := 4) (t := 9) dX11_elementRefusal_4 (by decide) (fun _ => ?_) (fun q => absurd q (by decide))
    refine j_aload_n (pc := 9) dX11_elementRefusal_9 rfl ?_
    refine s_getr (pc := 10) dX11_elementRefusal_10 fl_X11_76 shp_0 rfl ?_
    refine j_iload_n (pc := 13) dX11_elementRefusal_13 rfl ?_
    have b14 := H.1
    replace H := H.2
    refine s_aald (pc := 14) (b := 43 + 2 * x1.toNatClampNeg) dX11_elementRefusal_14 shp_42 b14 (shelf_at (in_lt b14)) ?_
    refine s_callV_i (pc := 15) (M1 := M_X8_rowRefusal) (n := 0) (as := []) (a := 43 + 2 * x1.toNatClampNeg) (st := []) dX11_elementRefusal_15 G_X8_rowRefusal wm_X11_345 (by decide +kernel) rfl (Nat.le_of_ble_eq_true rfl) (shp_s (in_lt b14)) rfl (by show 1 ≤ d; omega) (Nat.le_of_ble_eq_true rfl) (Nat.zero_le _) (Nat.zero_le _) ?_
    refine CI.mono H (fun r2 σ2 H => ?_)
    refine j_istore_n (pc := 18) (lv1 := [(3, .int r2), (0, .ref 0), (1, .int x1), (2, .int x2)]) dX11_elementRefusal_18 (Nat.le_of_ble_eq_true rfl) rfl ?_
    refine j_iload_n (pc := 19) dX11_elementRefusal_19 rfl ?_
    refine j_if_eq (pc := 20) (t := 25) dX11_elementRefusal_20 (by decide) (fun c20 => ?_) (fun c20 => ?_)
    · replace H := H.1 c20
      refine j_iload_n (pc := 25) dX11_elementRefusal_25 rfl ?_
      refine j_if_lt (pc := 26) (t := 42) dX11_elementRefusal_26 (by decide) (fun c26 => ?_) (fun c26 => ?_)
      · replace H := H.1 c26
        refine j_bipush (pc := 42) (v := -13) dX11_elementRefusal_42 (by decide) ?_
        refine j_goto (pc := 44) (t := 48) dX11_elementRefusal_44 (by decide) ?_
        exact s_ireti (pc := 48) dX11_elementRefusal_48 rfl H
      · replace H := H.2 c26
        refine j_iload_n (pc := 29) dX11_elementRefusal_29 rfl ?_
        refine j_aload_n (pc := 30) dX11_elementRefusal_30 rfl ?_
        refine s_getr (pc := 31) dX11_elementRefusal_31 fl_X11_76 shp_0 rfl ?_
        refine j_iload_n (pc := 34) dX11_elementRefusal_34 rfl ?_
        have b35 := H.1
        replace H := H.2
        refine s_aald (pc := 35) (b := 43 + 2 * x1.toNatClampNeg) dX11_elementRefusal_35 shp_42 b35 (shelf_at (in_lt b35)) ?_
        refine s_geti (pc := 36) (64 * (43 + 2 * x1.toNatClampNeg) + 2) (rg σ2 (64 * (43 + 2 * x1.toNatClampNeg) + 2)) dX11_elementRefusal_36 fl_X11_118 (shp_s (in_lt b35)) rfl rfl rfl ?_
        refine j_icmp_lt (pc := 39) (t := 47) dX11_elementRefusal_39 (by decide) (fun c39 => ?_) (fun c39 => ?_)
        · replace H := H.1 c39
          refine j_iconst (pc := 47) (v := 0) dX11_elementRefusal_47 (by decide) ?_
          exact s_ireti (pc := 48) dX11_elementRefusal_48 rfl H
        · replace H := H.2 c39
          refine j_bipush (pc := 42) (v := -13) dX11_elementRefusal_42 (by decide) ?_
          refine j_goto (pc := 44) (t := 48) dX11_elementRefusal_44 (by decide) ?_
          exact s_ireti (pc := 48) dX11_elementRefusal_48 rfl H
    · replace H := H.2 c20
      refine j_iload_n (pc := 23) dX11_elementRefusal_23 rfl ?_
      exact s_ireti (pc := 24) dX11_elementRefusal_24 rfl H
  · replace H := H.2 c1
    refine j_if_ne (pc := 4) (t := 9) dX11_elementRefusal_4 (by decide) (fun q => absurd q (by decide)) (fun _ => ?_)
    refine j_iconst (pc := 7) (v := -1) dX11_elementRefusal_7 (by decide) ?_
    exact s_ireti (pc := 8) dX11_elementRefusal_8 rfl H
set_option maxRecDepth 20000 in
theorem b_X11_put_0 {l : Launch} {g : am_G} {d : Nat} {σ : am_S} {k : Int32 → am_S → Prop}  {x1 x2 : Int32} {x3 : Int64} (hd : 1 ≤ d) (H : CI l g M_X11_elementRefusal (d - 1) [.ref 0, .int x1, .int x2] σ (fun r1 σ1 => ((r1 = 0 → (vp_in x1 6 ∧ CV l g M_X8_set (d - 1) [.ref (43 + 2 * x1.toNatClampNeg), .int x2, .long x3] σ1 (fun σ2 => k 1 σ2))) ∧ (¬ r1 = 0 → k r1 σ1)))) : CI l g M_X11_put d [.ref 0, .int x1, .int x2, .long x3] σ k := by
  show J l g (M_X11_put, d, 0, 0) 0 [(0, .ref 0), (1, .int x1), (2, .int x2), (3, .long x3)] [] (hp σ) 0 0 (kI k)
  refine j_aload_n (pc := 0) dX11_put_0 rfl ?_
  refine j_iload_n (pc := 1) dX11_put_1 rfl ?_
  refine j_iload_n (pc := 2) dX11_put_2 rfl ?_
  refine s_callV_i (pc := 3) (M1 := M_X11_elementRefusal) (n := 2) (as := [.int x1, .int x2]) (a := 0) (st := []) dX11_put_3 G_X11_elementRefusal wm_X11_334 (by decide +kernel) rfl (Nat.le_of_ble_eq_true rfl) shp_0 rfl (by show 1 ≤ d; omega) (Nat.le_of_ble_eq_true rfl) (Nat.zero_le _) (Nat.zero_le _) ?_
  refine CI.mono H (fun r1 σ1 H => ?_)
  refine j_istore (pc := 6) (lv1 := [(5, .int r1), (0, .ref 0), (1, .int x1), (2, .int x2), (3, .long x3)]) dX11_put_6 (Nat.le_of_ble_eq_true rfl) rfl ?_
  refine j_iload (pc := 8) dX11_put_8 rfl ?_
  refine j_if_eq (pc := 10) (t := 16) dX11_put_10 (by decide) (fun c10 => ?_) (fun c10 => ?_)
  · replace H := H.1 c10
    refine j_aload_n (pc := 16) dX11_put_16 rfl ?_
    refine s_getr (pc := 17) dX11_put_17 fl_X11_76 shp_0 rfl ?_
    refine j_iload_n (pc := 20) dX11_put_20 rfl ?_
    have b21 := H.1
    replace H := H.2
    refine s_aald (pc := 21) (b := 43 + 2 * x1.toNatClampNeg) dX11_put_21 shp_42 b21 (shelf_at (in_lt b21)) ?_
    refine j_iload_n (pc := 22) dX11_put_22 rfl ?_
    refine j_lload_n (pc := 23) dX11_put_23 rfl ?_
    refine s_callV_v (pc := 24) (M1 := M_X8_set) (n := 2) (as := [.int x2, .long x3]) (a := 43 + 2 * x1.toNatClampNeg) (st := []) dX11_put_24 G_X8_set wm_X11_337 (by decide +kernel) rfl (Nat.le_of_ble_eq_true rfl) (shp_s (in_lt b21)) rfl (by show 1 ≤ d; omega) (Nat.le_of_ble_eq_true rfl) (Nat.zero_le _) (Nat.zero_le _) ?_
    refine CV.mono H (fun σ2 H => ?_)
    refine j_iconst (pc := 27) (v := 1) dX11_put_27 (by decide) ?_
    exact s_ireti (pc := 28) dX11_put_28 rfl H
  · replace H := H.2 c10
    refine j_iload (pc := 13) dX11_put_13 rfl ?_
    exact s_ireti (pc := 15) dX11_put_15 rfl H
set_option maxRecDepth 20000 in
theorem b_X11_element_0 {l : Launch} {g : am_G} {d : Nat} {σ : am_S} {k : Int64 → am_S → Prop}  {x1 x2 : Int32} (hd : 1 ≤ d) (H : CI l g M_X11_elementRefusal (d - 1) [.ref 0, .int x1, .int x2] σ (fun r1 σ1 => ((r1 = 0 → (vp_in x1 6 ∧ CL l g M_X8_at (d - 1) [.ref (43 + 2 * x1.toNatClampNeg), .int x2] σ1 (fun r2 σ2 => k r2 σ2))) ∧ (¬ r1 = 0 → k (-9223372036854775808) σ1)))) : CL l g M_X11_element d [.ref 0, .int x1, .int x2] σ k := by
  show J l g (M_X11_element, d, 0, 0) 0 [(0, .ref 0), (1, .int x1), (2, .int x2)] [] (hp σ) 0 0 (kL k)
  refine j_aload_n (pc := 0) dX11_element_0 rfl ?_
  refine j_iload_n (pc := 1) dX11_element_1 rfl ?_
  refine j_iload_n (pc := 2) dX11_element_2 rfl ?_
  refine s_callV_i (pc := 3) (M1 := M_X11_elementRefusal) (n := 2) (as := [.int x1, .int x2]) (a := 0) (st := []) dX11_element_3 G_X11_elementRefusal wm_X11_334 (by decide +kernel) rfl (Nat.le_of_ble_eq_true rfl) shp_0 rfl (by show 1 ≤ d; omega) (Nat.le_of_ble_eq_true rfl) (Nat.zero_le _) (Nat.zero_le _) ?_
  refine CI.mono H (fun r1 σ1 H => ?_)
  refine j_if_eq (pc := 6) (t := 15) dX11_element_6 (by decide) (fun c6 => ?_) (fun c6 => ?_)
  · replace H := H.1 c6
    refine j_aload_n (pc := 15) dX11_element_15 rfl ?_
    refine s_getr (pc := 16) dX11_element_16 fl_X11_76 shp_0 rfl ?_
    refine j_iload_n (pc := 19) dX11_element_19 rfl ?_
    have b20 := H.1
    replace H := H.2
    refine s_aald (pc := 20) (b := 43 + 2 * x1.toNatClampNeg) dX11_element_20 shp_42 b20 (shelf_at (in_lt b20)) ?_
    refine j_iload_n (pc := 21) dX11_element_21 rfl ?_
    refine s_callV_l (pc := 22) (M1 := M_X8_at) (n := 1) (as := [.int x2]) (a := 43 + 2 * x1.toNatClampNeg) (st := []) dX11_element_22 G_X8_at wm_X11_124 (by decide +kernel) rfl (Nat.le_of_ble_eq_true rfl) (shp_s (in_lt b20)) rfl (by show 1 ≤ d; omega) (Nat.le_of_ble_eq_true rfl) (Nat.zero_le _) (Nat.zero_le _) ?_
    refine CL.mono H (fun r2 σ2 H => ?_)
    exact s_lret (pc := 25) dX11_element_25 rfl H
  · replace H := H.2 c6
    refine j_ldc2 (pc := 9) dX11_element_9 wk_X11_343 ?_
    refine j_goto (pc := 12) (t := 25) dX11_element_12 (by decide) ?_
    exact s_lret (pc := 25) dX11_element_25 rfl H
set_option maxRecDepth 20000 in
theorem b_X11_shift_0 {l : Launch} {g : am_G} {d : Nat} {σ : am_S} {k : Int32 → am_S → Prop}  {x1 x2 x3 x4 x5 : Int32} (hd : 1 ≤ d) (H : (((¬ x1 < 0 ∧ ¬ 6 ≤ x1) → (((¬ x3 < 0 ∧ ¬ 6 ≤ x3) → (vp_in x1 6 ∧ (vp_in x3 6 ∧ (((rg σ (64 * (43 + 2 * x1.toNatClampNeg) + 0) = (-1) ∧ rg σ (64 * (43 + 2 * x1.toNatClampNeg) + 1) = (-1)) → k (-11) σ) ∧ (¬ (rg σ (64 * (43 + 2 * x1.toNatClampNeg) + 0) = (-1) ∧ rg σ (64 * (43 + 2 * x1.toNatClampNeg) + 1) = (-1)) → (((rg σ (64 * (43 + 2 * x3.toNatClampNeg) + 0) = (-1) ∧ rg σ (64 * (43 + 2 * x3.toNatClampNeg) + 1) = (-1)) → k (-11) σ) ∧ (¬ (rg σ (64 * (43 + 2 * x3.toNatClampNeg) + 0) = (-1) ∧ rg σ (64 * (43 + 2 * x3.toNatClampNeg) + 1) = (-1)) → CI l g M_X8_rowRefusal (d - 1) [.ref (43 + 2 * x1.toNatClampNeg)] σ (fun r5 σ5 => ((¬ r5 = 0 → k (-12) σ5) ∧ (r5 = 0 → CI l g M_X8_rowRefusal (d - 1) [.ref (43 + 2 * x3.toNatClampNeg)] σ5 (fun r6 σ6 => ((¬ r6 = 0 → k (-12) σ6) ∧ (r6 = 0 → ((rg σ6 (64 * (43 + 2 * x1.toNatClampNeg) + 1) = rg σ6 (64 * (43 + 2 * x3.toNatClampNeg) + 1) → (((¬ x2 < 0 ∧ ¬ x5 < 0 ∧ ¬ rg σ6 (64 * (43 + 2 * x1.toNatClampNeg) + 2) < x2 ∧ ¬ (rg σ6 (64 * (43 + 2 * x1.toNatClampNeg) + 2)) - x2 < x5) → (((¬ x4 < 0 ∧ ¬ x5 < 0 ∧ ¬ rg σ6 (64 * (43 + 2 * x3.toNatClampNeg) + 2) < x4 ∧ ¬ (rg σ6 (64 * (43 + 2 * x3.toNatClampNeg) + 2)) - x4 < x5) → (¬ x2 < 0 ∧ ¬ x4 < 0 ∧ ¬ x5 < 0 ∧ x2.toNatClampNeg + x5.toNatClampNeg ≤ 60 ∧ x4.toNatClampNeg + x5.toNatClampNeg ≤ 60 ∧ k x5 (sC σ6 (44 + 2 * x1.toNatClampNeg) x2.toNatClampNeg (44 + 2 * x3.toNatClampNeg) x4.toNatClampNeg x5.toNatClampNeg))) ∧ (¬ (¬ x4 < 0 ∧ ¬ x5 < 0 ∧ ¬ rg σ6 (64 * (43 + 2 * x3.toNatClampNeg) + 2) < x4 ∧ ¬ (rg σ6 (64 * (43 + 2 * x3.toNatClampNeg) + 2)) - x4 < x5) → k (-13) σ6))) ∧ (¬ (¬ x2 < 0 ∧ ¬ x5 < 0 ∧ ¬ rg σ6 (64 * (43 + 2 * x1.toNatClampNeg) + 2) < x2 ∧ ¬ (rg σ6 (64 * (43 + 2 * x1.toNatClampNeg) + 2)) - x2 < x5) → k (-13) σ6))) ∧ (¬ rg σ6 (64 * (43 + 2 * x1.toNatClampNeg) + 1) = rg σ6 (64 * (43 + 2 * x3.toNatClampNeg) + 1) → k (-12) σ6))))))))))))))) ∧ (¬ (¬ x3 < 0 ∧ ¬ 6 ≤ x3) → k (-1) σ))) ∧ (¬ (¬ x1 < 0 ∧ ¬ 6 ≤ x1) → k (-1) σ))) : CI l g M_X11_shift d [.ref 0, .int x1, .int x2, .int x3, .int x4, .int x5] σ k := by
  show J l g (M_X11_shift, d, 0, 0) 0 [(0, .ref 0), (1, .int x1), (2, .int x2), (3, .int x3), (4, .int x4), (5, .int x5)] [] (hp σ) 0 0 (kI k)
  refine j_iload_n (pc := 0) dX11_shift_0 rfl ?_
  refine s_callS_i (pc := 1) (M1 := M_X11_isShelf) (n := 1) (as := [.int x1]) (st := []) dX11_shift_1 G_X11_isShelf wm_X11_107 (by decide +kernel) rfl (Nat.le_of_ble_eq_true rfl) (by show 1 ≤ d; omega) (Nat.le_of_ble_eq_true rfl) ?_
  refine C_X11_isShelf (d := d - 1) (by omega) ⟨fun c1 => ?_, fun c1 => ?_⟩
  · replace H := H.1 c1
    refine j_if_eq (pc := 4) (t := 14) dX11_shift_4 (by decide) (fun q => absurd q (by decide)) (fun _ => ?_)
    refine j_iload_n (pc := 7) dX11_shift_7 rfl ?_
    refine s_callS_i (pc := 8) (M1 := M_X11_isShelf) (n := 1) (as := [.int x3]) (st := []) dX11_shift_8 G_X11_isShelf wm_X11_107 (by decide +kernel) rfl (Nat.le_of_ble_eq_true rfl) (by show 1 ≤ d; omega) (Nat.le_of_ble_eq_true rfl) ?_
    refine C_X11_isShelf (d := d - 1) (by omega) ⟨fun c8 => ?_, fun c8 => ?_⟩
    · replace H := H.1 c8
      refine j_if_ne (pc := 11) (t := 16) dX11_shift_11 (by decide) (fun _ => ?_) (fun q => absurd q (by decide))
      refine j_aload_n (pc := 16) dX11_shift_16 rfl ?_
      refine s_getr (pc := 17) dX11_shift_17 fl_X11_76 shp_0 rfl ?_
      refine j_iload_n (pc := 20) dX11_shift_20 rfl ?_
      have b21 := H.1
      replace H := H.2
      refine s_aald (pc := 21) (b := 43 + 2 * x1.toNatClampNeg) dX11_shift_21 shp_42 b21 (shelf_at (in_lt b21)) ?_
      refine j_astore (pc := 22) (lv1 := [(6, .ref (43 + 2 * x1.toNatClampNeg)), (0, .ref 0), (1, .int x1), (2, .int x2), (3, .int x3), (4, .int x4), (5, .int x5)]) dX11_shift_22 (Nat.le_of_ble_eq_true rfl) rfl ?_
      refine j_aload_n (pc := 24) dX11_shift_24 rfl ?_
      refine s_getr (pc := 25) dX11_shift_25 fl_X11_76 shp_0 rfl ?_
      refine j_iload_n (pc := 28) dX11_shift_28 rfl ?_
      have b29 := H.1
      replace H := H.2
      refine s_aald (pc := 29) (b := 43 + 2 * x3.toNatClampNeg) dX11_shift_29 shp_42 b29 (shelf_at (in_lt b29)) ?_
      refine j_astore (pc := 30) (lv1 := [(7, .ref (43 + 2 * x3.toNatClampNeg)), (6, .ref (43 + 2 * x1.toNatClampNeg)), (0, .ref 0), (1, .int x1), (2, .int x2), (3, .int x3), (4, .int x4), (5, .int x5)]) dX11_shift_30 (Nat.le_of_ble_eq_true rfl) rfl ?_
      refine j_aload (pc := 32) dX11_shift_32 rfl ?_
      refine s_callV_i (pc := 34) (M1 := M_X8_isEmpty) (n := 0) (as := []) (a := 43 + 2 * x1.toNatClampNeg) (st := []) dX11_shift_34 G_X8_isEmpty wm_X11_110 (by decide +kernel) rfl (Nat.le_of_ble_eq_true rfl) (shp_s (in_lt b21)) rfl (by show 1 ≤ d; omega) (Nat.le_of_ble_eq_true rfl) (Nat.zero_le _) (Nat.zero_le _) ?_
      refine C_X8_isEmpty (in_lt b21) (d := d - 1) (by omega) ⟨fun c34 => ?_, fun c34 => ?_⟩
      · replace H := H.1 c34
        refine j_if_ne (pc := 37) (t := 48) dX11_shift_37 (by decide) (fun _ => ?_) (fun q => absurd q (by decide))
        refine j_bipush (pc := 48) (v := -11) dX11_shift_48 (by decide) ?_
        exact s_ireti (pc := 50) dX11_shift_50 rfl H
      · replace H := H.2 c34
        refine j_if_ne (pc := 37) (t := 48) dX11_shift_37 (by decide) (fun q => absurd q (by decide)) (fun _ => ?_)
        refine j_aload (pc := 40) dX11_shift_40 rfl ?_
        refine s_callV_i (pc := 42) (M1 := M_X8_isEmpty) (n := 0) (as := []) (a := 43 + 2 * x3.toNatClampNeg) (st := []) dX11_shift_42 G_X8_isEmpty wm_X11_110 (by decide +kernel) rfl (Nat.le_of_ble_eq_true rfl) (shp_s (in_lt b29)) rfl (by show 1 ≤ d; omega) (Nat.le_of_ble_eq_true rfl) (Nat.zero_le _) (Nat.zero_le _) ?_
        refine C_X8_isEmpty (in_lt b29) (d := d - 1) (by omega) ⟨fun c42 => ?_, fun c42 => ?_⟩
        · replace H := H.1 c42
          refine j_if_eq (pc := 45) (t := 51) dX11_shift_45 (by decide) (fun q => absurd q (by decide)) (fun _ => ?_)
          refine j_bipush (pc := 48) (v := -11) dX11_shift_48 (by decide) ?_
          exact s_ireti (pc := 50) dX11_shift_50 rfl H
        · replace H := H.2 c42
          refine j_if_eq (pc := 45) (t := 51) dX11_shift_45 (by decide) (fun _ => ?_) (fun q => absurd q (by decide))
          refine j_aload (pc := 51) dX11_shift_51 rfl ?_
          refine s_callV_i (pc := 53) (M1 := M_X8_rowRefusal) (n := 0) (as := []) (a := 43 + 2 * x1.toNatClampNeg) (st := []) dX11_shift_53 G_X8_rowRefusal wm_X11_345 (by decide +kernel) rfl (Nat.le_of_ble_eq_true rfl) (shp_s (in_lt b21)) rfl (by show 1 ≤ d; omega) (Nat.le_of_ble_eq_true rfl) (Nat.zero_le _) (Nat.zero_le _) ?_
          refine CI.mono H (fun r5 σ5 H => ?_)
          refine j_if_ne (pc := 56) (t := 80) dX11_shift_56 (by decide) (fun c56 => ?_) (fun c56 => ?_)
          · replace H := H.1 c56
            refine j_bipush (pc := 80) (v := -12) dX11_shift_80 (by decide) ?_
            exact s_ireti (pc := 82) dX11_shift_82 rfl H
          · replace H := H.2 c56
            refine j_aload (pc := 59) dX11_shift_59 rfl ?_
            refine s_callV_i (pc := 61) (M1 := M_X8_rowRefusal) (n := 0) (as := []) (a := 43 + 2 * x3.toNatClampNeg) (st := []) dX11_shift_61 G_X8_rowRefusal wm_X11_345 (by decide +kernel) rfl (Nat.le_of_ble_eq_true rfl) (shp_s (in_lt b29)) rfl (by show 1 ≤ d; omega) (Nat.le_of_ble_eq_true rfl) (Nat.zero_le _) (Nat.zero_le _) ?_
            refine CI.mono H (fun r6 σ6 H => ?_)
            refine j_if_ne (pc := 64) (t := 80) dX11_shift_64 (by decide) (fun c64 => ?_) (fun c64 => ?_)
            · replace H := H.1 c64
              refine j_bipush (pc := 80) (v := -12) dX11_shift_80 (by decide) ?_
              exact s_ireti (pc := 82) dX11_shift_82 rfl H
            · replace H := H.2 c64
              refine j_aload (pc := 67) dX11_shift_67 rfl ?_
              refine s_geti (pc := 69) (64 * (43 + 2 * x1.toNatClampNeg) + 1) (rg σ6 (64 * (43 + 2 * x1.toNatClampNeg) + 1)) dX11_shift_69 fl_X11_348 (shp_s (in_lt b21)) rfl rfl rfl ?_
              refine j_aload (pc := 72) dX11_shift_72 rfl ?_
              refine s_geti (pc := 74) (64 * (43 + 2 * x3.toNatClampNeg) + 1) (rg σ6 (64 * (43 + 2 * x3.toNatClampNeg) + 1)) dX11_shift_74 fl_X11_348 (shp_s (in_lt b29)) rfl rfl rfl ?_
              refine j_icmp_eq (pc := 77) (t := 83) dX11_shift_77 (by decide) (fun c77 => ?_) (fun c77 => ?_)
              · replace H := H.1 c77
                refine j_aload (pc := 83) dX11_shift_83 rfl ?_
                refine j_iload_n (pc := 85) dX11_shift_85 rfl ?_
                refine j_iload (pc := 86) dX11_shift_86 rfl ?_
                refine s_callV_i (pc := 88) (M1 := M_X8_hasPart) (n := 2) (as := [.int x2, .int x5]) (a := 43 + 2 * x1.toNatClampNeg) (st := []) dX11_shift_88 G_X8_hasPart wm_X11_351 (by decide +kernel) rfl (Nat.le_of_ble_eq_true rfl) (shp_s (in_lt b21)) rfl (by show 1 ≤ d; omega) (Nat.le_of_ble_eq_true rfl) (Nat.zero_le _) (Nat.zero_le _) ?_
                refine C_X8_hasPart (in_lt b21) (d := d - 1) (by omega) ⟨fun c88 => ?_, fun c88 => ?_⟩
                · replace H := H.1 c88
                  refine j_if_eq (pc := 91) (t := 106) dX11_shift_91 (by decide) (fun q => absurd q (by decide)) (fun _ => ?_)
                  refine j_aload (pc := 94) dX11_shift_94 rfl ?_
                  refine j_iload (pc := 96) dX11_shift_96 rfl ?_
                  refine j_iload (pc := 98) dX11_shift_98 rfl ?_
                  refine s_callV_i (pc := 100) (M1 := M_X8_hasPart) (n := 2) (as := [.int x4, .int x5]) (a := 43 + 2 * x3.toNatClampNeg) (st := []) dX11_shift_100 G_X8_hasPart wm_X11_351 (by decide +kernel) rfl (Nat.le_of_ble_eq_true rfl) (shp_s (in_lt b29)) rfl (by show 1 ≤ d; omega) (Nat.le_of_ble_eq_true rfl) (Nat.zero_le _) (Nat.zero_le _) ?_
                  refine C_X8_hasPart (in_lt b29) (d := d - 1) (by omega) ⟨fun c100 => ?_, fun c100 => ?_⟩
                  · replace H := H.1 c100
                    refine j_if_ne (pc := 103) (t := 109) dX11_shift_103 (by decide) (fun _ => ?_) (fun q => absurd q (by decide))
                    refine j_aload (pc := 109) dX11_shift_109 rfl ?_
                    refine s_getr (pc := 111) dX11_shift_111 fl_X11_354 (shp_s (in_lt b21)) rfl ?_
                    refine j_iload_n (pc := 114) dX11_shift_114 rfl ?_
                    refine j_aload (pc := 115) dX11_shift_115 rfl ?_
                    refine s_getr (pc := 117) dX11_shift_117 fl_X11_354 (shp_s (in_lt b29)) rfl ?_
                    refine j_iload (pc := 120) dX11_shift_120 rfl ?_
                    refine j_iload (pc := 122) dX11_shift_122 rfl ?_
                    obtain ⟨y124_1, y124_2, y124_3, y124_4, y124_5, H⟩ := H
                    refine s_copyl (pc := 124) dX11_shift_124 wm_X11_358 (by show 1 ≤ d; omega) rfl (shp_e (in_lt b21)) (shp_e (in_lt b29)) y124_1 y124_2 y124_3 y124_4 y124_5 ?_
                    refine j_iload (pc := 127) dX11_shift_127 rfl ?_
                    exact s_ireti (pc := 129) dX11_shift_129 rfl H
                  · replace H := H.2 c100
                    refine j_if_ne (pc := 103) (t := 109) dX11_shift_103 (by decide) (fun q => absurd q (by decide)) (fun _ => ?_)
                    refine j_bipush (pc := 106) (v := -13) dX11_shift_106 (by decide) ?_
                    exact s_ireti (pc := 108) dX11_shift_108 rfl H
                · replace H := H.2 c88
                  refine j_if_eq (pc := 91) (t := 106) dX11_shift_91 (by decide) (fun _ => ?_) (fun q => absurd q (by decide))
                  refine j_bipush (pc := 106) (v := -13) dX11_shift_106 (by decide) ?_
                  exact s_ireti (pc := 108) dX11_shift_108 rfl H
              · replace H := H.2 c77
                refine j_bipush (pc := 80) (v := -12) dX11_shift_80 (by decide) ?_
                exact s_ireti (pc := 82) dX11_shift_82 rfl H
    · replace H := H.2 c8
      refine j_if_ne (pc := 11) (t := 16) dX11_shift_11 (by decide) (fun q => absurd q (by decide)) (fun _ => ?_)
      refine j_iconst (pc := 14) (v := -1) dX11_shift_14 (by decide) ?_
      exact s_ireti (pc := 15) dX11_shift_15 rfl H
  · replace H := H.2 c1
    refine j_if_eq (pc := 4) (t := 14) dX11_shift_4 (by decide) (fun _ => ?_) (fun q => absurd q (by decide))
    refine j_iconst (pc := 14) (v := -1) dX11_shift_14 (by decide) ?_
    exact s_ireti (pc := 15) dX11_shift_15 rfl H
set_option maxRecDepth 20000 in
theorem b_X11_taken_0 {l : Launch} {g : am_G} {d : Nat} {σ : am_S} {k : Int32 → am_S → Prop}  {x1 x2 : Int32} (hd : 1 ≤ d) (H : (((¬ x1 < 0 ∧ ¬ 6 ≤ x1) → ((x2 < 0 → k (-1) σ) ∧ (¬ x2 < 0 → ((x2 < 8 → (vp_in x1 6 ∧ (((rg σ (64 * (43 + 2 * x1.toNatClampNeg) + 0) = (-1) ∧ rg σ (64 * (43 + 2 * x1.toNatClampNeg) + 1) = (-1)) → k (-11) σ) ∧ (¬ (rg σ (64 * (43 + 2 * x1.toNatClampNeg) + 0) = (-1) ∧ rg σ (64 * (43 + 2 * x1.toNatClampNeg) + 1) = (-1)) → CI l g M_X0_kindOf (d - 1) [.ref 39, .int (rg σ (64 * (43 + 2 * x1.toNatClampNeg) + 0))] σ (fun r3 σ3 => CI l g M_X0_isUnder (d - 1) [.int r3, .int x2] σ3 (fun r4 σ4 => ((r4 = 0 → k (-12) σ4) ∧ (¬ r4 = 0 → k r3 σ4)))))))) ∧ (¬ x2 < 8 → k (-1) σ))))) ∧ (¬ (¬ x1 < 0 ∧ ¬ 6 ≤ x1) → k (-1) σ))) : CI l g M_X11_taken d [.ref 0, .int x1, .int x2] σ k := by
  show J l g (M_X11_taken, d, 0, 0) 0 [(0, .ref 0), (1, .int x1), (2, .int x2)] [] (hp σ) 0 0 (kI k)
  refine j_iload_n (pc := 0) dX11_taken_0 rfl ?_
  refine s_callS_i (pc := 1) (M1 := M_X11_isShelf) (n := 1) (as := [.int x1]) (st := []) dX11_taken_1 G_X11_isShelf wm_X11_107 (by decide +kernel) rfl (Nat.le_of_ble_eq_true rfl) (by show 1 ≤ d; omega) (Nat.le_of_ble_eq_true rfl) ?_
  refine C_X11_isShelf (d := d - 1) (by omega) ⟨fun c1 => ?_, fun c1 => ?_⟩
  · replace H := H.1 c1
    refine j_if_eq (pc := 4) (t := 17) dX11_taken_4 (by decide) (fun q => absurd q (by decide)) (fun _ => ?_)
    refine j_iload_n (pc := 7) dX11_taken_7 rfl ?_
    refine j_if_lt (pc := 8) (t := 17) dX11_taken_8 (by decide) (fun c8 => ?_) (fun c8 => ?_)
    · replace H := H.1 c8
      refine j_iconst (pc := 17) (v := -1) dX11_taken_17 (by decide) ?_
      exact s_ireti (pc := 18) dX11_taken_18 rfl H
    · replace H := H.2 c8
      refine j_iload_n (pc := 11) dX11_taken_11 rfl ?_
      refine j_bipush (pc := 12) (v := 8) dX11_taken_12 (by decide) ?_
      refine j_icmp_lt (pc := 14) (t := 19) dX11_taken_14 (by decide) (fun c14 => ?_) (fun c14 => ?_)
      · replace H := H.1 c14
        refine j_aload_n (pc := 19) dX11_taken_19 rfl ?_
        refine s_getr (pc := 20) dX11_taken_20 fl_X11_76 shp_0 rfl ?_
        refine j_iload_n (pc := 23) dX11_taken_23 rfl ?_
        have b24 := H.1
        replace H := H.2
        refine s_aald (pc := 24) (b := 43 + 2 * x1.toNatClampNeg) dX11_taken_24 shp_42 b24 (shelf_at (in_lt b24)) ?_
        refine j_astore_n (pc := 25) (lv1 := [(3, .ref (43 + 2 * x1.toNatClampNeg)), (0, .ref 0), (1, .int x1), (2, .int x2)]) dX11_taken_25 (Nat.le_of_ble_eq_true rfl) rfl ?_
        refine j_aload_n (pc := 26) dX11_taken_26 rfl ?_
        refine s_callV_i (pc := 27) (M1 := M_X8_isEmpty) (n := 0) (as := []) (a := 43 + 2 * x1.toNatClampNeg) (st := []) dX11_taken_27 G_X8_isEmpty wm_X11_110 (by decide +kernel) rfl (Nat.le_of_ble_eq_true rfl) (shp_s (in_lt b24)) rfl (by show 1 ≤ d; omega) (Nat.le_of_ble_eq_true rfl) (Nat.zero_le _) (Nat.zero_le _) ?_
        refine C_X8_isEmpty (in_lt b24) (d := d - 1) (by omega) ⟨fun c27 => ?_, fun c27 => ?_⟩
        · replace H := H.1 c27
          refine j_if_eq (pc := 30) (t := 36) dX11_taken_30 (by decide) (fun q => absurd q (by decide)) (fun _ => ?_)
          refine j_bipush (pc := 33) (v := -11) dX11_taken_33 (by decide) ?_
          exact s_ireti (pc := 35) dX11_taken_35 rfl H
        · replace H := H.2 c27
          refine j_if_eq (pc := 30) (t := 36) dX11_taken_30 (by decide) (fun _ => ?_) (fun q => absurd q (by decide))
          refine j_aload_n (pc := 36) dX11_taken_36 rfl ?_
          refine s_getr (pc := 37) dX11_taken_37 fl_X11_70 shp_0 rfl ?_
          refine j_aload_n (pc := 40) dX11_taken_40 rfl ?_
          refine s_geti (pc := 41) (64 * (43 + 2 * x1.toNatClampNeg) + 0) (rg σ (64 * (43 + 2 * x1.toNatClampNeg) + 0)) dX11_taken_41 fl_X11_364 (shp_s (in_lt b24)) rfl rfl rfl ?_
          refine s_callV_i (pc := 44) (M1 := M_X0_kindOf) (n := 1) (as := [.int (rg σ (64 * (43 + 2 * x1.toNatClampNeg) + 0))]) (a := 39) (st := []) dX11_taken_44 G_X0_kindOf wm_X11_367 (by decide +kernel) rfl (Nat.le_of_ble_eq_true rfl) shp_39 rfl (by show 1 ≤ d; omega) (Nat.le_of_ble_eq_true rfl) (Nat.zero_le _) (Nat.zero_le _) ?_
          refine CI.mono H (fun r3 σ3 H => ?_)
          refine j_istore (pc := 47) (lv1 := [(4, .int r3), (3, .ref (43 + 2 * x1.toNatClampNeg)), (0, .ref 0), (1, .int x1), (2, .int x2)]) dX11_taken_47 (Nat.le_of_ble_eq_true rfl) rfl ?_
          refine j_iload (pc := 49) dX11_taken_49 rfl ?_
          refine j_iload_n (pc := 51) dX11_taken_51 rfl ?_
          refine s_callS_i (pc := 52) (M1 := M_X0_isUnder) (n := 2) (as := [.int r3, .int x2]) (st := []) dX11_taken_52 G_X0_isUnder wm_X11_370 (by decide +kernel) rfl (Nat.le_of_ble_eq_true rfl) (by show 1 ≤ d; omega) (Nat.le_of_ble_eq_true rfl) ?_
          refine CI.mono H (fun r4 σ4 H => ?_)
          refine j_if_eq (pc := 55) (t := 63) dX11_taken_55 (by decide) (fun c55 => ?_) (fun c55 => ?_)
          · replace H := H.1 c55
            refine j_bipush (pc := 63) (v := -12) dX11_taken_63 (by decide) ?_
            exact s_ireti (pc := 65) dX11_taken_65 rfl H
          · replace H := H.2 c55
            refine j_iload (pc := 58) dX11_taken_58 rfl ?_
            refine j_goto (pc := 60) (t := 65) dX11_taken_60 (by decide) ?_
            exact s_ireti (pc := 65) dX11_taken_65 rfl H
      · replace H := H.2 c14
        refine j_iconst (pc := 17) (v := -1) dX11_taken_17 (by decide) ?_
        exact s_ireti (pc := 18) dX11_taken_18 rfl H
  · replace H := H.2 c1
    refine j_if_eq (pc := 4) (t := 17) dX11_taken_4 (by decide) (fun _ => ?_) (fun q => absurd q (by decide))
    refine j_iconst (pc := 17) (v := -1) dX11_taken_17 (by decide) ?_
    exact s_ireti (pc := 18) dX11_taken_18 rfl H
set_option maxRecDepth 20000 in
theorem b_X11_count_0 {l : Launch} {g : am_G} {d : Nat} {σ : am_S} {k : Int32 → am_S → Prop}  {x1 : Int32} (H : (((x1.toInt < 0 ∨ 6 < x1.toInt) → k (-1) σ) ∧ (x1 = 0 → k (rg σ 66) σ) ∧ (x1 = 1 → k (rg σ 64) σ) ∧ (x1 = 2 → k (rg σ 65) σ) ∧ (x1 = 3 → k (rg σ 513) σ) ∧ (x1 = 4 → k (rg σ 2180) σ) ∧ (x1 = 5 → k (rg σ 2497) σ) ∧ (x1 = 6 → k (rg σ 2499) σ))) : CI l g M_X11_count d [.ref 0, .int x1] σ k := by
  show J l g (M_X11_count, d, 0, 0) 0 [(0, .ref 0), (1, .int x1)] [] (hp σ) 0 0 (kI k)
  refine j_iload_n (pc := 0) dX11_count_0 rfl ?_
  rcases sw_cases x1 0 6 with c1 | c1
  · replace H := H.1 c1
    refine j_tableOut (pc := 1) (t := 100) dX11_count_1 c1 (by decide) ?_
    refine j_iconst (pc := 100) (v := -1) dX11_count_100 (by decide) ?_
    exact s_ireti (pc := 101) dX11_count_101 rfl H
  · replace H := H.2
    by_cases c1_0 : x1 = 0
    · replace H := H.1 c1_0
      refine j_tableIn (pc := 1) (t := 44) (off := 43) dX11_count_1 (by rw [c1_0]; decide) (by rw [c1_0]; decide) (by rw [c1_0]; rfl) (by decide) ?_
      refine j_aload_n (pc := 44) dX11_count_44 rfl ?_
      refine s_getr (pc := 45) dX11_count_45 fl_X11_10 shp_0 rfl ?_
      refine s_geti (pc := 48) 66 (rg σ 66) dX11_count_48 fl_X11_121 shp_1 rfl rfl rfl ?_
      exact s_ireti (pc := 51) dX11_count_51 rfl H
    by_cases c1_1 : x1 = 1
    · replace H := H.2.1 c1_1
      refine j_tableIn (pc := 1) (t := 52) (off := 51) dX11_count_1 (by rw [c1_1]; decide) (by rw [c1_1]; decide) (by rw [c1_1]; rfl) (by decide) ?_
      refine j_aload_n (pc := 52) dX11_count_52 rfl ?_
      refine s_getr (pc := 53) dX11_count_53 fl_X11_10 shp_0 rfl ?_
      refine s_geti (pc := 56) 64 (rg σ 64) dX11_count_56 fl_X11_88 shp_1 rfl rfl rfl ?_
      exact s_ireti (pc := 59) dX11_count_59 rfl H
    by_cases c1_2 : x1 = 2
    · replace H := H.2.2.1 c1_2
      refine j_tableIn (pc := 1) (t := 60) (off := 59) dX11_count_1 (by rw [c1_2]; decide) (by rw [c1_2]; decide) (by rw [c1_2]; rfl) (by decide) ?_
      refine j_aload_n (pc := 60) dX11_count_60 rfl ?_
      refine s_getr (pc := 61) dX11_count_61 fl_X11_10 shp_0 rfl ?_
      refine s_geti (pc := 64) 65 (rg σ 65) dX11_count_64 fl_X11_266 shp_1 rfl rfl rfl ?_
      exact s_ireti (pc := 67) dX11_count_67 rfl H
    by_cases c1_3 : x1 = 3
    · replace H := H.2.2.2.1 c1_3
      refine j_tableIn (pc := 1) (t := 68) (off := 67) dX11_count_1 (by rw [c1_3]; decide) (by rw [c1_3]; decide) (by rw [c1_3]; rfl) (by decide) ?_
      refine j_aload_n (pc := 68) dX11_count_68 rfl ?_
      refine s_getr (pc := 69) dX11_count_69 fl_X11_19 shp_0 rfl ?_
      refine s_geti (pc := 72) 513 (rg σ 513) dX11_count_72 fl_X11_181 shp_8 rfl rfl rfl ?_
      exact s_ireti (pc := 75) dX11_count_75 rfl H
    by_cases c1_4 : x1 = 4
    · replace H := H.2.2.2.2.1 c1_4
      refine j_tableIn (pc := 1) (t := 76) (off := 75) dX11_count_1 (by rw [c1_4]; decide) (by rw [c1_4]; decide) (by rw [c1_4]; rfl) (by decide) ?_
      refine j_aload_n (pc := 76) dX11_count_76 rfl ?_
      refine s_getr (pc := 77) dX11_count_77 fl_X11_63 shp_0 rfl ?_
      refine s_geti (pc := 80) 2180 (rg σ 2180) dX11_count_80 fl_X11_299 shp_34 rfl rfl rfl ?_
      exact s_ireti (pc := 83) dX11_count_83 rfl H
    by_cases c1_5 : x1 = 5
    · replace H := H.2.2.2.2.2.1 c1_5
      refine j_tableIn (pc := 1) (t := 84) (off := 83) dX11_count_1 (by rw [c1_5]; decide) (by rw [c1_5]; decide) (by rw [c1_5]; rfl) (by decide) ?_
      refine j_aload_n (pc := 84) dX11_count_84 rfl ?_
      refine s_getr (pc := 85) dX11_count_85 fl_X11_70 shp_0 rfl ?_
      refine s_geti (pc := 88) 2497 (rg σ 2497) dX11_count_88 fl_X11_373 shp_39 rfl rfl rfl ?_
      exact s_ireti (pc := 91) dX11_count_91 rfl H
    by_cases c1_6 : x1 = 6
    · replace H := H.2.2.2.2.2.2 c1_6
      refine j_tableIn (pc := 1) (t := 92) (off := 91) dX11_count_1 (by rw [c1_6]; decide) (by rw [c1_6]; decide) (by rw [c1_6]; rfl) (by decide) ?_
      refine j_aload_n (pc := 92) dX11_count_92 rfl ?_
      refine s_getr (pc := 93) dX11_count_93 fl_X11_70 shp_0 rfl ?_
      refine s_geti (pc := 96) 2499 (rg σ 2499) dX11_count_96 fl_X11_376 shp_39 rfl rfl rfl ?_
      exact s_ireti (pc := 99) dX11_count_99 rfl H
    exact (sw_end_0_6 c1 c1_0 c1_1 c1_2 c1_3 c1_4 c1_5 c1_6).elim
set_option maxRecDepth 20000 in
theorem C_X12_in {l : Launch} {g : am_G} {d : Nat} {σ : am_S} {k : Int32 → am_S → Prop}  {x0 x1 x2 : Int32} (hd : 0 ≤ d) (H : ((¬ x0 < x1 ∧ ¬ x2 < x0) → k 1 σ) ∧ (¬ (¬ x0 < x1 ∧ ¬ x2 < x0) → k 0 σ)) : CI l g M_X12_in d [.int x0, .int x1, .int x2] σ k := by
  show J l g (M_X12_in, d, 0, 0) 0 [(0, .int x0), (1, .int x1), (2, .int x2)] [] (hp σ) 0 0 (kI k)
  refine j_iload_n (pc := 0) dX12_in_0 rfl ?_
  refine j_iload_n (pc := 1) dX12_in_1 rfl ?_
  refine j_icmp_lt (pc := 2) (t := 14) dX12_in_2 (by decide) (fun c2 => ?_) (fun c2 => ?_)
  · skip
    refine j_iconst (pc := 14) (v := 0) dX12_in_14 (by decide) ?_
    exact s_iretz (pc := 15) dX12_in_15 rfl rfl (H.2 (fun q => (q.1) c2))
  · skip
    refine j_iload_n (pc := 5) dX12_in_5 rfl ?_
    refine j_iload_n (pc := 6) dX12_in_6 rfl ?_
    refine j_icmp_gt (pc := 7) (t := 14) dX12_in_7 (by decide) (fun c7 => ?_) (fun c7 => ?_)
    · skip
      refine j_iconst (pc := 14) (v := 0) dX12_in_14 (by decide) ?_
      exact s_iretz (pc := 15) dX12_in_15 rfl rfl (H.2 (fun q => (q.2) c7))
    · skip
      refine j_iconst (pc := 10) (v := 1) dX12_in_10 (by decide) ?_
      refine j_goto (pc := 11) (t := 15) dX12_in_11 (by decide) ?_
      exact s_iretz (pc := 15) dX12_in_15 rfl rfl (H.1 ⟨c2, c7⟩)
set_option maxRecDepth 20000 in
theorem b_X12_bitsOf_0 {l : Launch} {g : am_G} {d : Nat} {σ : am_S} {k : Int32 → am_S → Prop}  {x0 : Int32} (H : JI l g M_X12_bitsOf d 4 [(0, .int x0), (1, .int 0), (2, .int x0)] [] σ k) : CI l g M_X12_bitsOf d [.int x0] σ k := by
  show J l g (M_X12_bitsOf, d, 0, 0) 0 [(0, .int x0)] [] (hp σ) 0 0 (kI k)
  refine j_iconst (pc := 0) (v := 0) dX12_bitsOf_0 (by decide) ?_
  refine j_istore_n (pc := 1) (lv1 := [(1, .int 0), (0, .int x0)]) dX12_bitsOf_1 (Nat.le_of_ble_eq_true rfl) rfl ?_
  refine j_iload_n (pc := 2) dX12_bitsOf_2 rfl ?_
  refine j_istore_n (pc := 3) (lv1 := [(2, .int x0), (1, .int 0), (0, .int x0)]) dX12_bitsOf_3 (Nat.le_of_ble_eq_true rfl) rfl ?_
  refine j_sub [2, 1, 0] rfl ?_
  exact H
set_option maxRecDepth 20000 in
theorem b_X12_bitsOf_4 {l : Launch} {g : am_G} {d : Nat} {σ : am_S} {k : Int32 → am_S → Prop}  {x0 x1 x2 : Int32} (H : ((x2 = 0 → k x1 σ) ∧ (¬ x2 = 0 → JI l g M_X12_bitsOf d 4 [(0, .int x0), (1, .int (x1 + 1)), (2, .int (x2 &&& (x2 - 1)))] [] σ k))) : JI l g M_X12_bitsOf d 4 [(0, .int x0), (1, .int x1), (2, .int x2)] [] σ k := by
  show J l g (M_X12_bitsOf, d, 0, 0) 4 [(0, .int x0), (1, .int x1), (2, .int x2)] [] (hp σ) 0 0 (kI k)
  refine j_iload_n (pc := 4) dX12_bitsOf_4 rfl ?_
  refine j_if_eq (pc := 5) (t := 20) dX12_bitsOf_5 (by decide) (fun c5 => ?_) (fun c5 => ?_)
  · replace H := H.1 c5
    refine j_iload_n (pc := 20) dX12_bitsOf_20 rfl ?_
    exact s_ireti (pc := 21) dX12_bitsOf_21 rfl H
  · replace H := H.2 c5
    refine j_iinc (pc := 8) (k := 1) (v := x1 + 1) (lv1 := [(1, .int (x1 + 1)), (0, .int x0), (2, .int x2)]) dX12_bitsOf_8 rfl rfl (Nat.le_of_ble_eq_true rfl) rfl ?_
    refine j_iload_n (pc := 11) dX12_bitsOf_11 rfl ?_
    refine j_iload_n (pc := 12) dX12_bitsOf_12 rfl ?_
    refine j_iconst (pc := 13) (v := 1) dX12_bitsOf_13 (by decide) ?_
    refine j_isub (pc := 14) dX12_bitsOf_14 ?_
    refine j_iand (pc := 15) dX12_bitsOf_15 ?_
    refine j_istore_n (pc := 16) (lv1 := [(2, .int (x2 &&& (x2 - 1))), (1, .int (x1 + 1)), (0, .int x0)]) dX12_bitsOf_16 (Nat.le_of_ble_eq_true rfl) rfl ?_
    refine j_goto (pc := 17) (t := 4) dX12_bitsOf_17 (by decide) ?_
    refine j_sub [2, 1, 0] rfl ?_
    exact H
set_option maxRecDepth 20000 in
theorem C_X12_isRoom {l : Launch} {g : am_G} {d : Nat} {σ : am_S} {k : Int32 → am_S → Prop}  {x1 : Int32} (hd : 1 ≤ d) (H : (((¬ x1 < 0 ∧ ¬ (rg σ 3521) - 1 < x1)) → k 1 σ) ∧ (¬ ((¬ x1 < 0 ∧ ¬ (rg σ 3521) - 1 < x1)) → k 0 σ)) : CI l g M_X12_isRoom d [.ref 55, .int x1] σ k := by
  show J l g (M_X12_isRoom, d, 0, 0) 0 [(0, .ref 55), (1, .int x1)] [] (hp σ) 0 0 (kI k)
  refine j_iload_n (pc := 0) dX12_isRoom_0 rfl ?_
  refine j_iconst (pc := 1) (v := 0) dX12_isRoom_1 (by decide) ?_
  refine j_aload_n (pc := 2) dX12_isRoom_2 rfl ?_
  refine s_geti (pc := 3) 3521 (rg σ 3521) dX12_isRoom_3 fl_X12_111 shp_55 rfl rfl rfl ?_
  refine j_iconst (pc := 6) (v := 1) dX12_isRoom_6 (by decide) ?_
  refine j_isub (pc := 7) dX12_isRoom_7 ?_
  refine s_callS_i (pc := 8) (M1 := M_X12_in) (n := 3) (as := [.int x1, .int 0, .int ((rg σ 3521) - 1)]) (st := []) dX12_isRoom_8 G_X12_in wm_X12_114 (by decide +kernel) rfl (Nat.le_of_ble_eq_true rfl) (by show 1 ≤ d; omega) (Nat.le_of_ble_eq_true rfl) ?_
  refine C_X12_in (d := d - 1) (by omega) ⟨fun c8 => ?_, fun c8 => ?_⟩
  · skip
    exact s_iretz (pc := 11) dX12_isRoom_11 rfl rfl (H.1 c8)
  · skip
    exact s_iretz (pc := 11) dX12_isRoom_11 rfl rfl (H.2 (fun q => c8 (q)))
set_option maxRecDepth 20000 in
theorem C_X12_isDoor {l : Launch} {g : am_G} {d : Nat} {σ : am_S} {k : Int32 → am_S → Prop}  {x1 : Int32} (hd : 1 ≤ d) (H : (((¬ x1 < 0 ∧ ¬ (rg σ 3522) - 1 < x1)) → k 1 σ) ∧ (¬ ((¬ x1 < 0 ∧ ¬ (rg σ 3522) - 1 < x1)) → k 0 σ)) : CI l g M_X12_isDoor d [.ref 55, .int x1] σ k := by
  show J l g (M_X12_isDoor, d, 0, 0) 0 [(0, .ref 55), (1, .int x1)] [] (hp σ) 0 0 (kI k)
  refine j_iload_n (pc := 0) dX12_isDoor_0 rfl ?_
  refine j_iconst (pc := 1) (v := 0) dX12_isDoor_1 (by decide) ?_
  refine j_aload_n (pc := 2) dX12_isDoor_2 rfl ?_
  refine s_geti (pc := 3) 3522 (rg σ 3522) dX12_isDoor_3 fl_X12_118 shp_55 rfl rfl rfl ?_
  refine j_iconst (pc := 6) (v := 1) dX12_isDoor_6 (by decide) ?_
  refine j_isub (pc := 7) dX12_isDoor_7 ?_
  refine s_callS_i (pc := 8) (M1 := M_X12_in) (n := 3) (as := [.int x1, .int 0, .int ((rg σ 3522) - 1)]) (st := []) dX12_isDoor_8 G_X12_in wm_X12_114 (by decide +kernel) rfl (Nat.le_of_ble_eq_true rfl) (by show 1 ≤ d; omega) (Nat.le_of_ble_eq_true rfl) ?_
  refine C_X12_in (d := d - 1) (by omega) ⟨fun c8 => ?_, fun c8 => ?_⟩
  · skip
    exact s_iretz (pc := 11) dX12_isDoor_11 rfl rfl (H.1 c8)
  · skip
    exact s_iretz (pc := 11) dX12_isDoor_11 rfl rfl (H.2 (fun q => c8 (q)))
