/-! what each stretch of the program does (laid by program) -/
set_option maxRecDepth 20000 in
theorem b_X12_meet_0 {l : Launch} {g : am_G} {d : Nat} {σ : am_S} {k : am_S → Prop}  {x1 x2 : Int32} (H : (vp_in x1 16384 ∧ ((ar σ 76 x1.toNatClampNeg < 0 → (vp_in x1 16384 ∧ (vp_in (rg σ 3560) 16384 ∧ ((0 ≤ rg σ 3563 → k (sR (sA (sA σ 76 x1.toNatClampNeg (vp_nar .short x2.toInt16.toInt32)) 77 ((rg σ 3560).toNatClampNeg) (vp_nar .short x1.toInt16.toInt32)) 3560 ((rg σ 3560) + 1))) ∧ (¬ 0 ≤ rg σ 3563 → ((¬ x1 &&& (rg σ 3561) = rg σ 3562 → k (sR (sA (sA σ 76 x1.toNatClampNeg (vp_nar .short x2.toInt16.toInt32)) 77 ((rg σ 3560).toNatClampNeg) (vp_nar .short x1.toInt16.toInt32)) 3560 ((rg σ 3560) + 1))) ∧ (x1 &&& (rg σ 3561) = rg σ 3562 → k (sR (sR (sA (sA σ 76 x1.toNatClampNeg (vp_nar .short x2.toInt16.toInt32)) 77 ((rg σ 3560).toNatClampNeg) (vp_nar .short x1.toInt16.toInt32)) 3560 ((rg σ 3560) + 1)) 3563 x2)))))))) ∧ (¬ ar σ 76 x1.toNatClampNeg < 0 → k σ)))) : CV l g M_X12_meet d [.ref 55, .int x1, .int x2] σ k := by
  show J l g (M_X12_meet, d, 0, 0) 0 [(0, .ref 55), (1, .int x1), (2, .int x2)] [] (hp σ) 0 0 (kV k)
  refine j_aload_n (pc := 0) dX12_meet_0 rfl ?_
  refine s_getr (pc := 1) dX12_meet_1 fl_X12_80 shp_55 rfl ?_
  refine j_iload_n (pc := 4) dX12_meet_4 rfl ?_
  have b5 := H.1
  replace H := H.2
  refine s_sald (pc := 5) (ar σ 76 x1.toNatClampNeg) dX12_meet_5 shp_76 b5 rfl ?_
  refine j_if_lt (pc := 6) (t := 10) dX12_meet_6 (by decide) (fun c6 => ?_) (fun c6 => ?_)
  · replace H := H.1 c6
    refine j_aload_n (pc := 10) dX12_meet_10 rfl ?_
    refine s_getr (pc := 11) dX12_meet_11 fl_X12_80 shp_55 rfl ?_
    refine j_iload_n (pc := 14) dX12_meet_14 rfl ?_
    refine j_iload_n (pc := 15) dX12_meet_15 rfl ?_
    refine j_i2s (pc := 16) dX12_meet_16 ?_
    have b17 := H.1
    replace H := H.2
    refine s_sast (pc := 17) dX12_meet_17 shp_76 b17 ?_
    refine j_aload_n (pc := 18) dX12_meet_18 rfl ?_
    refine s_getr (pc := 19) dX12_meet_19 fl_X12_83 shp_55 rfl ?_
    refine j_aload_n (pc := 22) dX12_meet_22 rfl ?_
    refine s_geti (pc := 23) 3560 (rg σ 3560) dX12_meet_23 fl_X12_274 shp_55 rfl rfl rfl ?_
    refine j_iload_n (pc := 26) dX12_meet_26 rfl ?_
    refine j_i2s (pc := 27) dX12_meet_27 ?_
    have b28 := H.1
    replace H := H.2
    refine s_sast (pc := 28) dX12_meet_28 shp_77 b28 ?_
    refine j_aload_n (pc := 29) dX12_meet_29 rfl ?_
    refine j_dup (pc := 30) dX12_meet_30 rfl ?_
    refine s_geti (pc := 31) 3560 (rg σ 3560) dX12_meet_31 fl_X12_274 shp_55 rfl rfl rfl ?_
    refine j_iconst (pc := 34) (v := 1) dX12_meet_34 (by decide) ?_
    refine j_iadd (pc := 35) dX12_meet_35 ?_
    refine s_put (pc := 36) 3560 dX12_meet_36 fl_X12_274 shp_55 rfl rfl fp_12_40 rfl rfl ?_
    refine j_aload_n (pc := 39) dX12_meet_39 rfl ?_
    refine s_geti (pc := 40) 3563 (rg σ 3563) dX12_meet_40 fl_X12_277 shp_55 rfl rfl rfl ?_
    refine j_if_ge (pc := 43) (t := 64) dX12_meet_43 (by decide) (fun c43 => ?_) (fun c43 => ?_)
    · replace H := H.1 c43
      exact s_vret (pc := 64) dX12_meet_64 rfl H
    · replace H := H.2 c43
      refine j_iload_n (pc := 46) dX12_meet_46 rfl ?_
      refine j_aload_n (pc := 47) dX12_meet_47 rfl ?_
      refine s_geti (pc := 48) 3561 (rg σ 3561) dX12_meet_48 fl_X12_280 shp_55 rfl rfl rfl ?_
      refine j_iand (pc := 51) dX12_meet_51 ?_
      refine j_aload_n (pc := 52) dX12_meet_52 rfl ?_
      refine s_geti (pc := 53) 3562 (rg σ 3562) dX12_meet_53 fl_X12_283 shp_55 rfl rfl rfl ?_
      refine j_icmp_ne (pc := 56) (t := 64) dX12_meet_56 (by decide) (fun c56 => ?_) (fun c56 => ?_)
      · replace H := H.1 c56
        exact s_vret (pc := 64) dX12_meet_64 rfl H
      · replace H := H.2 c56
        refine j_aload_n (pc := 59) dX12_meet_59 rfl ?_
        refine j_iload_n (pc := 60) dX12_meet_60 rfl ?_
        refine s_put (pc := 61) 3563 dX12_meet_61 fl_X12_277 shp_55 rfl rfl fp_12_43 rfl rfl ?_
        exact s_vret (pc := 64) dX12_meet_64 rfl H
  · replace H := H.2 c6
    exact s_vret (pc := 9) dX12_meet_9 rfl H
set_option maxRecDepth 20000 in
theorem b_X12_findAll_0 {l : Launch} {g : am_G} {d : Nat} {σ : am_S} {k : am_S → Prop}  {x1 x2 : Int32} (H : JV l g M_X12_findAll d 2 [(0, .ref 55), (1, .int x1), (2, .int x2), (3, .int 0)] [] σ k) : CV l g M_X12_findAll d [.ref 55, .int x1, .int x2] σ k := by
  show J l g (M_X12_findAll, d, 0, 0) 0 [(0, .ref 55), (1, .int x1), (2, .int x2)] [] (hp σ) 0 0 (kV k)
  refine j_iconst (pc := 0) (v := 0) dX12_findAll_0 (by decide) ?_
  refine j_istore_n (pc := 1) (lv1 := [(3, .int 0), (0, .ref 55), (1, .int x1), (2, .int x2)]) dX12_findAll_1 (Nat.le_of_ble_eq_true rfl) rfl ?_
  refine j_sub [1, 2, 3, 0] rfl ?_
  exact H
set_option maxRecDepth 20000 in
theorem b_X12_findAll_2 {l : Launch} {g : am_G} {d : Nat} {σ : am_S} {k : am_S → Prop}  {x1 x2 x3 : Int32} (hd : 1 ≤ d) (H : ((16384 ≤ x3 → CV l g M_X12_meet (d - 1) [.ref 55, .int x1, .int 0] (sR (sR σ 3560 0) 3563 (-1)) (fun σ1 => JV l g M_X12_findAll d 40 [(0, .ref 55), (1, .int x1), (2, .int x2), (3, .int 0)] [] σ1 k)) ∧ (¬ 16384 ≤ x3 → (vp_in x3 16384 ∧ JV l g M_X12_findAll d 2 [(0, .ref 55), (1, .int x1), (2, .int x2), (3, .int (x3 + 1))] [] (sA σ 76 x3.toNatClampNeg (vp_nar .short (-1))) k)))) : JV l g M_X12_findAll d 2 [(0, .ref 55), (1, .int x1), (2, .int x2), (3, .int x3)] [] σ k := by
  show J l g (M_X12_findAll, d, 0, 0) 2 [(0, .ref 55), (1, .int x1), (2, .int x2), (3, .int x3)] [] (hp σ) 0 0 (kV k)
  refine j_iload_n (pc := 2) dX12_findAll_2 rfl ?_
  refine j_sipush (pc := 3) (v := 16384) dX12_findAll_3 (by decide) ?_
  refine j_icmp_ge (pc := 6) (t := 22) dX12_findAll_6 (by decide) (fun c6 => ?_) (fun c6 => ?_)
  · replace H := H.1 c6
    refine j_aload_n (pc := 22) dX12_findAll_22 rfl ?_
    refine j_iconst (pc := 23) (v := 0) dX12_findAll_23 (by decide) ?_
    refine s_put (pc := 24) 3560 dX12_findAll_24 fl_X12_274 shp_55 rfl rfl fp_12_40 rfl rfl ?_
    refine j_aload_n (pc := 27) dX12_findAll_27 rfl ?_
    refine j_iconst (pc := 28) (v := -1) dX12_findAll_28 (by decide) ?_
    refine s_put (pc := 29) 3563 dX12_findAll_29 fl_X12_277 shp_55 rfl rfl fp_12_43 rfl rfl ?_
    refine j_aload_n (pc := 32) dX12_findAll_32 rfl ?_
    refine j_iload_n (pc := 33) dX12_findAll_33 rfl ?_
    refine j_iconst (pc := 34) (v := 0) dX12_findAll_34 (by decide) ?_
    refine s_callV_v (pc := 35) (M1 := M_X12_meet) (n := 2) (as := [.int x1, .int 0]) (a := 55) (st := []) dX12_findAll_35 G_X12_meet wm_X12_286 (by decide +kernel) rfl (Nat.le_of_ble_eq_true rfl) shp_55 rfl (by show 1 ≤ d; omega) (Nat.le_of_ble_eq_true rfl) (Nat.zero_le _) (Nat.zero_le _) ?_
    refine CV.mono H (fun σ1 H => ?_)
    refine j_iconst (pc := 38) (v := 0) dX12_findAll_38 (by decide) ?_
    refine j_istore_n (pc := 39) (lv1 := [(3, .int 0), (0, .ref 55), (1, .int x1), (2, .int x2)]) dX12_findAll_39 (Nat.le_of_ble_eq_true rfl) rfl ?_
    refine j_sub [1, 2, 3, 0] rfl ?_
    exact H
  · replace H := H.2 c6
    refine j_aload_n (pc := 9) dX12_findAll_9 rfl ?_
    refine s_getr (pc := 10) dX12_findAll_10 fl_X12_80 shp_55 rfl ?_
    refine j_iload_n (pc := 13) dX12_findAll_13 rfl ?_
    refine j_iconst (pc := 14) (v := -1) dX12_findAll_14 (by decide) ?_
    have b15 := H.1
    replace H := H.2
    refine s_sast (pc := 15) dX12_findAll_15 shp_76 b15 ?_
    refine j_iinc (pc := 16) (k := 3) (v := x3 + 1) (lv1 := [(3, .int (x3 + 1)), (0, .ref 55), (1, .int x1), (2, .int x2)]) dX12_findAll_16 rfl rfl (Nat.le_of_ble_eq_true rfl) rfl ?_
    refine j_goto (pc := 19) (t := 2) dX12_findAll_19 (by decide) ?_
    refine j_sub [1, 2, 3, 0] rfl ?_
    exact H
set_option maxRecDepth 20000 in
theorem b_X12_findAll_40 {l : Launch} {g : am_G} {d : Nat} {σ : am_S} {k : am_S → Prop}  {x1 x2 x3 : Int32} (H : ((rg σ 3560 ≤ x3 → k σ) ∧ (¬ rg σ 3560 ≤ x3 → (vp_in x3 16384 ∧ JV l g M_X12_findAll d 59 [(0, .ref 55), (1, .int x1), (2, .int x2), (3, .int x3), (4, .int (ar σ 77 x3.toNatClampNeg)), (5, .int 0)] [] σ k)))) : JV l g M_X12_findAll d 40 [(0, .ref 55), (1, .int x1), (2, .int x2), (3, .int x3)] [] σ k := by
  show J l g (M_X12_findAll, d, 0, 0) 40 [(0, .ref 55), (1, .int x1), (2, .int x2), (3, .int x3)] [] (hp σ) 0 0 (kV k)
  refine j_iload_n (pc := 40) dX12_findAll_40 rfl ?_
  refine j_aload_n (pc := 41) dX12_findAll_41 rfl ?_
  refine s_geti (pc := 42) 3560 (rg σ 3560) dX12_findAll_42 fl_X12_274 shp_55 rfl rfl rfl ?_
  refine j_icmp_ge (pc := 45) (t := 169) dX12_findAll_45 (by decide) (fun c45 => ?_) (fun c45 => ?_)
  · replace H := H.1 c45
    exact s_vret (pc := 169) dX12_findAll_169 rfl H
  · replace H := H.2 c45
    refine j_aload_n (pc := 48) dX12_findAll_48 rfl ?_
    refine s_getr (pc := 49) dX12_findAll_49 fl_X12_83 shp_55 rfl ?_
    refine j_iload_n (pc := 52) dX12_findAll_52 rfl ?_
    have b53 := H.1
    replace H := H.2
    refine s_sald (pc := 53) (ar σ 77 x3.toNatClampNeg) dX12_findAll_53 shp_77 b53 rfl ?_
    refine j_istore (pc := 54) (lv1 := [(4, .int (ar σ 77 x3.toNatClampNeg)), (0, .ref 55), (1, .int x1), (2, .int x2), (3, .int x3)]) dX12_findAll_54 (Nat.le_of_ble_eq_true rfl) rfl ?_
    refine j_iconst (pc := 56) (v := 0) dX12_findAll_56 (by decide) ?_
    refine j_istore (pc := 57) (lv1 := [(5, .int 0), (4, .int (ar σ 77 x3.toNatClampNeg)), (0, .ref 55), (1, .int x1), (2, .int x2), (3, .int x3)]) dX12_findAll_57 (Nat.le_of_ble_eq_true rfl) rfl ?_
    refine j_sub [2, 3, 4, 5, 1, 0] rfl ?_
    exact H
set_option maxRecDepth 20000 in
theorem b_X12_findAll_59 {l : Launch} {g : am_G} {d : Nat} {σ : am_S} {k : am_S → Prop}  {x1 x2 x3 x4 x5 : Int32} (H : ((rg σ 3522 ≤ x5 → JV l g M_X12_findAll d 40 [(0, .ref 55), (1, .int x1), (2, .int x2), (3, .int (x3 + 1))] [] σ k) ∧ (¬ rg σ 3522 ≤ x5 → JV l g M_X12_findAll d 71 [(0, .ref 55), (1, .int x1), (2, .int x2), (3, .int x3), (4, .int x4), (5, .int x5), (6, .int 0)] [] σ k))) : JV l g M_X12_findAll d 59 [(0, .ref 55), (1, .int x1), (2, .int x2), (3, .int x3), (4, .int x4), (5, .int x5)] [] σ k := by
  show J l g (M_X12_findAll, d, 0, 0) 59 [(0, .ref 55), (1, .int x1), (2, .int x2), (3, .int x3), (4, .int x4), (5, .int x5)] [] (hp σ) 0 0 (kV k)
  refine j_iload (pc := 59) dX12_findAll_59 rfl ?_
  refine j_aload_n (pc := 61) dX12_findAll_61 rfl ?_
  refine s_geti (pc := 62) 3522 (rg σ 3522) dX12_findAll_62 fl_X12_118 shp_55 rfl rfl rfl ?_
  refine j_icmp_ge (pc := 65) (t := 163) dX12_findAll_65 (by decide) (fun c65 => ?_) (fun c65 => ?_)
  · replace H := H.1 c65
    refine j_iinc (pc := 163) (k := 3) (v := x3 + 1) (lv1 := [(3, .int (x3 + 1)), (0, .ref 55), (1, .int x1), (2, .int x2), (4, .int x4), (5, .int x5)]) dX12_findAll_163 rfl rfl (Nat.le_of_ble_eq_true rfl) rfl ?_
    refine j_goto (pc := 166) (t := 40) dX12_findAll_166 (by decide) ?_
    refine j_sub [1, 2, 3, 0] rfl ?_
    exact H
  · replace H := H.2 c65
    refine j_iconst (pc := 68) (v := 0) dX12_findAll_68 (by decide) ?_
    refine j_istore (pc := 69) (lv1 := [(6, .int 0), (0, .ref 55), (1, .int x1), (2, .int x2), (3, .int x3), (4, .int x4), (5, .int x5)]) dX12_findAll_69 (Nat.le_of_ble_eq_true rfl) rfl ?_
    refine j_sub [1, 2, 3, 4, 5, 6, 0] rfl ?_
    exact H
set_option maxRecDepth 20000 in
theorem b_X12_findAll_71 {l : Launch} {g : am_G} {d : Nat} {σ : am_S} {k : am_S → Prop}  {x1 x2 x3 x4 x5 x6 : Int32} (H : ((rg σ 3526 ≤ x6 → JV l g M_X12_findAll d 59 [(0, .ref 55), (1, .int x1), (2, .int x2), (3, .int x3), (4, .int x4), (5, .int (x5 + 1))] [] σ k) ∧ (¬ rg σ 3526 ≤ x6 → JV l g M_X12_findAll d 83 [(0, .ref 55), (1, .int x1), (2, .int x2), (3, .int x3), (4, .int x4), (5, .int x5), (6, .int x6), (7, .int 0)] [] σ k))) : JV l g M_X12_findAll d 71 [(0, .ref 55), (1, .int x1), (2, .int x2), (3, .int x3), (4, .int x4), (5, .int x5), (6, .int x6)] [] σ k := by
  show J l g (M_X12_findAll, d, 0, 0) 71 [(0, .ref 55), (1, .int x1), (2, .int x2), (3, .int x3), (4, .int x4), (5, .int x5), (6, .int x6)] [] (hp σ) 0 0 (kV k)
  refine j_iload (pc := 71) dX12_findAll_71 rfl ?_
  refine j_aload_n (pc := 73) dX12_findAll_73 rfl ?_
  refine s_geti (pc := 74) 3526 (rg σ 3526) dX12_findAll_74 fl_X12_121 shp_55 rfl rfl rfl ?_
  refine j_icmp_ge (pc := 77) (t := 157) dX12_findAll_77 (by decide) (fun c77 => ?_) (fun c77 => ?_)
  · replace H := H.1 c77
    refine j_iinc (pc := 157) (k := 5) (v := x5 + 1) (lv1 := [(5, .int (x5 + 1)), (0, .ref 55), (1, .int x1), (2, .int x2), (3, .int x3), (4, .int x4), (6, .int x6)]) dX12_findAll_157 rfl rfl (Nat.le_of_ble_eq_true rfl) rfl ?_
    refine j_goto (pc := 160) (t := 59) dX12_findAll_160 (by decide) ?_
    refine j_sub [1, 2, 3, 4, 5, 0] rfl ?_
    exact H
  · replace H := H.2 c77
    refine j_iconst (pc := 80) (v := 0) dX12_findAll_80 (by decide) ?_
    refine j_istore (pc := 81) (lv1 := [(7, .int 0), (0, .ref 55), (1, .int x1), (2, .int x2), (3, .int x3), (4, .int x4), (5, .int x5), (6, .int x6)]) dX12_findAll_81 (Nat.le_of_ble_eq_true rfl) rfl ?_
    refine j_sub [1, 2, 3, 4, 5, 6, 7, 0] rfl ?_
    exact H
set_option maxRecDepth 20000 in
theorem b_X12_findAll_83 {l : Launch} {g : am_G} {d : Nat} {σ : am_S} {k : am_S → Prop}  {x1 x2 x3 x4 x5 x6 x7 : Int32} (hd : 2 ≤ d) (H : ((rg σ 3526 ≤ x7 → JV l g M_X12_findAll d 71 [(0, .ref 55), (1, .int x1), (2, .int x2), (3, .int x3), (4, .int x4), (5, .int x5), (6, .int (x6 + 1))] [] σ k) ∧ (¬ rg σ 3526 ≤ x7 → ((x2 < 0 → CI l g M_X12_can (d - 1) [.ref 55, .int x4, .int x5, .int x6, .int x7] σ (fun r1 σ1 => ((r1 = 0 → JV l g M_X12_findAll d 83 [(0, .ref 55), (1, .int x1), (2, .int x2), (3, .int x3), (4, .int x4), (5, .int x5), (6, .int x6), (7, .int (x7 + 1))] [] σ1 k) ∧ (¬ r1 = 0 → (vp_in x4 16384 ∧ CV l g M_X12_meet (d - 1) [.ref 55, .int ((((x4 &&& (((3 : Int32) <<< ((2 * x6) &&& 31)) ^^^ (-1))) ||| (((x4 >>> ((2 * x7) &&& 31)) &&& 3) <<< ((2 * x6) &&& 31))) &&& (((3 : Int32) <<< ((2 * x7) &&& 31)) ^^^ (-1))) ||| (((x4 >>> ((2 * x6) &&& 31)) &&& 3) <<< ((2 * x7) &&& 31))), .int ((ar σ1 76 x4.toNatClampNeg) + 1)] σ1 (fun σ2 => JV l g M_X12_findAll d 83 [(0, .ref 55), (1, .int x1), (2, .int x2), (3, .int x3), (4, .int x4), (5, .int x5), (6, .int x6), (7, .int (x7 + 1))] [] σ2 k)))))) ∧ (¬ x2 < 0 → ((x6 = x2 → CI l g M_X12_can (d - 1) [.ref 55, .int x4, .int x5, .int x6, .int x7] σ (fun r3 σ3 => ((r3 = 0 → JV l g M_X12_findAll d 83 [(0, .ref 55), (1, .int x1), (2, .int x2), (3, .int x3), (4, .int x4), (5, .int x5), (6, .int x6), (7, .int (x7 + 1))] [] σ3 k) ∧ (¬ r3 = 0 → (vp_in x4 16384 ∧ CV l g M_X12_meet (d - 1) [.ref 55, .int ((((x4 &&& (((3 : Int32) <<< ((2 * x6) &&& 31)) ^^^ (-1))) ||| (((x4 >>> ((2 * x7) &&& 31)) &&& 3) <<< ((2 * x6) &&& 31))) &&& (((3 : Int32) <<< ((2 * x7) &&& 31)) ^^^ (-1))) ||| (((x4 >>> ((2 * x6) &&& 31)) &&& 3) <<< ((2 * x7) &&& 31))), .int ((ar σ3 76 x4.toNatClampNeg) + 1)] σ3 (fun σ4 => JV l g M_X12_findAll d 83 [(0, .ref 55), (1, .int x1), (2, .int x2), (3, .int x3), (4, .int x4), (5, .int x5), (6, .int x6), (7, .int (x7 + 1))] [] σ4 k)))))) ∧ (¬ x6 = x2 → ((¬ x7 = x2 → JV l g M_X12_findAll d 83 [(0, .ref 55), (1, .int x1), (2, .int x2), (3, .int x3), (4, .int x4), (5, .int x5), (6, .int x6), (7, .int (x7 + 1))] [] σ k) ∧ (x7 = x2 → CI l g M_X12_can (d - 1) [.ref 55, .int x4, .int x5, .int x6, .int x7] σ (fun r5 σ5 => ((r5 = 0 → JV l g M_X12_findAll d 83 [(0, .ref 55), (1, .int x1), (2, .int x2), (3, .int x3), (4, .int x4), (5, .int x5), (6, .int x6), (7, .int (x7 + 1))] [] σ5 k) ∧ (¬ r5 = 0 → (vp_in x4 16384 ∧ CV l g M_X12_meet (d - 1) [.ref 55, .int ((((x4 &&& (((3 : Int32) <<< ((2 * x6) &&& 31)) ^^^ (-1))) ||| (((x4 >>> ((2 * x7) &&& 31)) &&& 3) <<< ((2 * x6) &&& 31))) &&& (((3 : Int32) <<< ((2 * x7) &&& 31)) ^^^ (-1))) ||| (((x4 >>> ((2 * x6) &&& 31)) &&& 3) <<< ((2 * x7) &&& 31))), .int ((ar σ5 76 x4.toNatClampNeg) + 1)] σ5 (fun σ6 => JV l g M_X12_findAll d 83 [(0, .ref 55), (1, .int x1), (2, .int x2), (3, .int x3), (4, .int x4), (5, .int x5), (6, .int x6), (7, .int (x7 + 1))] [] σ6 k)))))))))))))) : JV l g M_X12_findAll d 83 [(0, .ref 55), (1, .int x1), (2, .int x2), (3, .int x3), (4, .int x4), (5, .int x5), (6, .int x6), (7, .int x7)] [] σ k := by
  show J l g (M_X12_findAll, d, 0, 0) 83 [(0, .ref 55), (1, .int x1), (2, .int x2), (3, .int x3), (4, .int x4), (5, .int x5), (6, .int x6), (7, .int x7)] [] (hp σ) 0 0 (kV k)
  refine j_iload (pc := 83) dX12_findAll_83 rfl ?_
  refine j_aload_n (pc := 85) dX12_findAll_85 rfl ?_
  refine s_geti (pc := 86) 3526 (rg σ 3526) dX12_findAll_86 fl_X12_121 shp_55 rfl rfl rfl ?_
  refine j_icmp_ge (pc := 89) (t := 151) dX12_findAll_89 (by decide) (fun c89 => ?_) (fun c89 => ?_)
  · replace H := H.1 c89
    refine j_iinc (pc := 151) (k := 6) (v := x6 + 1) (lv1 := [(6, .int (x6 + 1)), (0, .ref 55), (1, .int x1), (2, .int x2), (3, .int x3), (4, .int x4), (5, .int x5), (7, .int x7)]) dX12_findAll_151 rfl rfl (Nat.le_of_ble_eq_true rfl) rfl ?_
    refine j_goto (pc := 154) (t := 71) dX12_findAll_154 (by decide) ?_
    refine j_sub [1, 2, 3, 4, 5, 6, 0] rfl ?_
    exact H
  · replace H := H.2 c89
    refine j_iload_n (pc := 92) dX12_findAll_92 rfl ?_
    refine j_if_lt (pc := 93) (t := 108) dX12_findAll_93 (by decide) (fun c93 => ?_) (fun c93 => ?_)
    · replace H := H.1 c93
      refine j_aload_n (pc := 108) dX12_findAll_108 rfl ?_
      refine j_iload (pc := 109) dX12_findAll_109 rfl ?_
      refine j_iload (pc := 111) dX12_findAll_111 rfl ?_
      refine j_iload (pc := 113) dX12_findAll_113 rfl ?_
      refine j_iload (pc := 115) dX12_findAll_115 rfl ?_
      refine s_callV_i (pc := 117) (M1 := M_X12_can) (n := 4) (as := [.int x4, .int x5, .int x6, .int x7]) (a := 55) (st := []) dX12_findAll_117 G_X12_can wm_X12_261 (by decide +kernel) rfl (Nat.le_of_ble_eq_true rfl) shp_55 rfl (by show 1 ≤ d; omega) (Nat.le_of_ble_eq_true rfl) (Nat.zero_le _) (Nat.zero_le _) ?_
      refine CI.mono H (fun r1 σ1 H => ?_)
      refine j_if_eq (pc := 120) (t := 145) dX12_findAll_120 (by decide) (fun c120 => ?_) (fun c120 => ?_)
      · replace H := H.1 c120
        refine j_iinc (pc := 145) (k := 7) (v := x7 + 1) (lv1 := [(7, .int (x7 + 1)), (0, .ref 55), (1, .int x1), (2, .int x2), (3, .int x3), (4, .int x4), (5, .int x5), (6, .int x6)]) dX12_findAll_145 rfl rfl (Nat.le_of_ble_eq_true rfl) rfl ?_
        refine j_goto (pc := 148) (t := 83) dX12_findAll_148 (by decide) ?_
        refine j_sub [1, 2, 3, 4, 5, 6, 7, 0] rfl ?_
        exact H
      · replace H := H.2 c120
        refine j_aload_n (pc := 123) dX12_findAll_123 rfl ?_
        refine j_iload (pc := 124) dX12_findAll_124 rfl ?_
        refine j_iload (pc := 126) dX12_findAll_126 rfl ?_
        refine j_iload (pc := 128) dX12_findAll_128 rfl ?_
        refine s_callS_i (pc := 130) (M1 := M_X12_swapped) (n := 3) (as := [.int x4, .int x6, .int x7]) (st := [.ref 55]) dX12_findAll_130 G_X12_swapped wm_X12_265 (by decide +kernel) rfl (Nat.le_of_ble_eq_true rfl) (by show 1 ≤ d; omega) (Nat.le_of_ble_eq_true rfl) ?_
        refine C_X12_swapped (d := d - 1) (by omega) ?_
        refine j_aload_n (pc := 133) dX12_findAll_133 rfl ?_
        refine s_getr (pc := 134) dX12_findAll_134 fl_X12_80 shp_55 rfl ?_
        refine j_iload (pc := 137) dX12_findAll_137 rfl ?_
        have b139 := H.1
        replace H := H.2
        refine s_sald (pc := 139) (ar σ1 76 x4.toNatClampNeg) dX12_findAll_139 shp_76 b139 rfl ?_
        refine j_iconst (pc := 140) (v := 1) dX12_findAll_140 (by decide) ?_
        refine j_iadd (pc := 141) dX12_findAll_141 ?_
        refine s_callV_v (pc := 142) (M1 := M_X12_meet) (n := 2) (as := [.int ((((x4 &&& (((3 : Int32) <<< ((2 * x6) &&& 31)) ^^^ (-1))) ||| (((x4 >>> ((2 * x7) &&& 31)) &&& 3) <<< ((2 * x6) &&& 31))) &&& (((3 : Int32) <<< ((2 * x7) &&& 31)) ^^^ (-1))) ||| (((x4 >>> ((2 * x6) &&& 31)) &&& 3) <<< ((2 * x7) &&& 31))), .int ((ar σ1 76 x4.toNatClampNeg) + 1)]) (a := 55) (st := []) dX12_findAll_142 G_X12_meet wm_X12_286 (by decide +kernel) rfl (Nat.le_of_ble_eq_true rfl) shp_55 rfl (by show 1 ≤ d; omega) (Nat.le_of_ble_eq_true rfl) (Nat.zero_le _) (Nat.zero_le _) ?_
        refine CV.mono H (fun σ2 H => ?_)
        refine j_iinc (pc := 145) (k := 7) (v := x7 + 1) (lv1 := [(7, .int (x7 + 1)), (0, .ref 55), (1, .int x1), (2, .int x2), (3, .int x3), (4, .int x4), (5, .int x5), (6, .int x6)]) dX12_findAll_145 rfl rfl (Nat.le_of_ble_eq_true rfl) rfl ?_
        refine j_goto (pc := 148) (t := 83) dX12_findAll_148 (by decide) ?_
        refine j_sub [1, 2, 3, 4, 5, 6, 7, 0] rfl ?_
        exact H
    · replace H := H.2 c93
      refine j_iload (pc := 96) dX12_findAll_96 rfl ?_
      refine j_iload_n (pc := 98) dX12_findAll_98 rfl ?_
      refine j_icmp_eq (pc := 99) (t := 108) dX12_findAll_99 (by decide) (fun c99 => ?_) (fun c99 => ?_)
      · replace H := H.1 c99
        refine j_aload_n (pc := 108) dX12_findAll_108 rfl ?_
        refine j_iload (pc := 109) dX12_findAll_109 rfl ?_
        refine j_iload (pc := 111) dX12_findAll_111 rfl ?_
        refine j_iload (pc := 113) dX12_findAll_113 rfl ?_
        refine j_iload (pc := 115) dX12_findAll_115 rfl ?_
        refine s_callV_i (pc := 117) (M1 := M_X12_can) (n := 4) (as := [.int x4, .int x5, .int x6, .int x7]) (a := 55) (st := []) dX12_findAll_117 G_X12_can wm_X12_261 (by decide +kernel) rfl (Nat.le_of_ble_eq_true rfl) shp_55 rfl (by show 1 ≤ d; omega) (Nat.le_of_ble_eq_true rfl) (Nat.zero_le _) (Nat.zero_le _) ?_
        refine CI.mono H (fun r3 σ3 H => ?_)
        refine j_if_eq (pc := 120) (t := 145) dX12_findAll_120 (by decide) (fun c120 => ?_) (fun c120 => ?_)
        · replace H := H.1 c120
          refine j_iinc (pc := 145) (k := 7) (v := x7 + 1) (lv1 := [(7, .int (x7 + 1)), (0, .ref 55), (1, .int x1), (2, .int x2), (3, .int x3), (4, .int x4), (5, .int x5), (6, .int x6)]) dX12_findAll_145 rfl rfl (Nat.le_of_ble_eq_true rfl) rfl ?_
          refine j_goto (pc := 148) (t := 83) dX12_findAll_148 (by decide) ?_
          refine j_sub [1, 2, 3, 4, 5, 6, 7, 0] rfl ?_
          exact H
        · replace H := H.2 c120
          refine j_aload_n (pc := 123) dX12_findAll_123 rfl ?_
          refine j_iload (pc := 124) dX12_findAll_124 rfl ?_
          refine j_iload (pc := 126) dX12_findAll_126 rfl ?_
          refine j_iload (pc := 128) dX12_findAll_128 rfl ?_
          refine s_callS_i (pc := 130) (M1 := M_X12_swapped) (n := 3) (as := [.int x4, .int x6, .int x7]) (st := [.ref 55]) dX12_findAll_130 G_X12_swapped wm_X12_265 (by decide +kernel) rfl (Nat.le_of_ble_eq_true rfl) (by show 1 ≤ d; omega) (Nat.le_of_ble_eq_true rfl) ?_
          refine C_X12_swapped (d := d - 1) (by omega) ?_
          refine j_aload_n (pc := 133) dX12_findAll_133 rfl ?_
          refine s_getr (pc := 134) dX12_findAll_134 fl_X12_80 shp_55 rfl ?_
          refine j_iload (pc := 137) dX12_findAll_137 rfl ?_
          have b139 := H.1
          replace H := H.2
          refine s_sald (pc := 139) (ar σ3 76 x4.toNatClampNeg) dX12_findAll_139 shp_76 b139 rfl ?_
          refine j_iconst (pc := 140) (v := 1) dX12_findAll_140 (by decide) ?_
          refine j_iadd (pc := 141) dX12_findAll_141 ?_
          refine s_callV_v (pc := 142) (M1 := M_X12_meet) (n := 2) (as := [.int ((((x4 &&& (((3 : Int32) <<< ((2 * x6) &&& 31)) ^^^ (-1))) ||| (((x4 >>> ((2 * x7) &&& 31)) &&& 3) <<< ((2 * x6) &&& 31))) &&& (((3 : Int32) <<< ((2 * x7) &&& 31)) ^^^ (-1))) ||| (((x4 >>> ((2 * x6) &&& 31)) &&& 3) <<< ((2 * x7) &&& 31))), .int ((ar σ3 76 x4.toNatClampNeg) + 1)]) (a := 55) (st := []) dX12_findAll_142 G_X12_meet wm_X12_286 (by decide +kernel) rfl (Nat.le_of_ble_eq_true rfl) shp_55 rfl (by show 1 ≤ d; omega) (Nat.le_of_ble_eq_true rfl) (Nat.zero_le _) (Nat.zero_le _) ?_
          refine CV.mono H (fun σ4 H => ?_)
          refine j_iinc (pc := 145) (k := 7) (v := x7 + 1) (lv1 := [(7, .int (x7 + 1)), (0, .ref 55), (1, .int x1), (2, .int x2), (3, .int x3), (4, .int x4), (5, .int x5), (6, .int x6)]) dX12_findAll_145 rfl rfl (Nat.le_of_ble_eq_true rfl) rfl ?_
          refine j_goto (pc := 148) (t := 83) dX12_findAll_148 (by decide) ?_
          refine j_sub [1, 2, 3, 4, 5, 6, 7, 0] rfl ?_
          exact H
      · replace H := H.2 c99
        refine j_iload (pc := 102) dX12_findAll_102 rfl ?_
        refine j_iload_n (pc := 104) dX12_findAll_104 rfl ?_
        refine j_icmp_ne (pc := 105) (t := 145) dX12_findAll_105 (by decide) (fun c105 => ?_) (fun c105 => ?_)
        · replace H := H.1 c105
          refine j_iinc (pc := 145) (k := 7) (v := x7 + 1) (lv1 := [(7, .int (x7 + 1)), (0, .ref 55), (1, .int x1), (2, .int x2), (3, .int x3), (4, .int x4), (5, .int x5), (6, .int x6)]) dX12_findAll_145 rfl rfl (Nat.le_of_ble_eq_true rfl) rfl ?_
          refine j_goto (pc := 148) (t := 83) dX12_findAll_148 (by decide) ?_
          refine j_sub [1, 2, 3, 4, 5, 6, 7, 0] rfl ?_
          exact H
        · replace H := H.2 c105
          refine j_aload_n (pc := 108) dX12_findAll_108 rfl ?_
          refine j_iload (pc := 109) dX12_findAll_109 rfl ?_
          refine j_iload (pc := 111) dX12_findAll_111 rfl ?_
          refine j_iload (pc := 113) dX12_findAll_113 rfl ?_
          refine j_iload (pc := 115) dX12_findAll_115 rfl ?_
          refine s_callV_i (pc := 117) (M1 := M_X12_can) (n := 4) (as := [.int x4, .int x5, .int x6, .int x7]) (a := 55) (st := []) dX12_findAll_117 G_X12_can wm_X12_261 (by decide +kernel) rfl (Nat.le_of_ble_eq_true rfl) shp_55 rfl (by show 1 ≤ d; omega) (Nat.le_of_ble_eq_true rfl) (Nat.zero_le _) (Nat.zero_le _) ?_
          refine CI.mono H (fun r5 σ5 H => ?_)
          refine j_if_eq (pc := 120) (t := 145) dX12_findAll_120 (by decide) (fun c120 => ?_) (fun c120 => ?_)
          · replace H := H.1 c120
            refine j_iinc (pc := 145) (k := 7) (v := x7 + 1) (lv1 := [(7, .int (x7 + 1)), (0, .ref 55), (1, .int x1), (2, .int x2), (3, .int x3), (4, .int x4), (5, .int x5), (6, .int x6)]) dX12_findAll_145 rfl rfl (Nat.le_of_ble_eq_true rfl) rfl ?_
            refine j_goto (pc := 148) (t := 83) dX12_findAll_148 (by decide) ?_
            refine j_sub [1, 2, 3, 4, 5, 6, 7, 0] rfl ?_
            exact H
          · replace H := H.2 c120
            refine j_aload_n (pc := 123) dX12_findAll_123 rfl ?_
            refine j_iload (pc := 124) dX12_findAll_124 rfl ?_
            refine j_iload (pc := 126) dX12_findAll_126 rfl ?_
            refine j_iload (pc := 128) dX12_findAll_128 rfl ?_
            refine s_callS_i (pc := 130) (M1 := M_X12_swapped) (n := 3) (as := [.int x4, .int x6, .int x7]) (st := [.ref 55]) dX12_findAll_130 G_X12_swapped wm_X12_265 (by decide +kernel) rfl (Nat.le_of_ble_eq_true rfl) (by show 1 ≤ d; omega) (Nat.le_of_ble_eq_true rfl) ?_
            refine C_X12_swapped (d := d - 1) (by omega) ?_
            refine j_aload_n (pc := 133) dX12_findAll_133 rfl ?_
            refine s_getr (pc := 134) dX12_findAll_134 fl_X12_80 shp_55 rfl ?_
            refine j_iload (pc := 137) dX12_findAll_137 rfl ?_
            have b139 := H.1
            replace H := H.2
            refine s_sald (pc := 139) (ar σ5 76 x4.toNatClampNeg) dX12_findAll_139 shp_76 b139 rfl ?_
            refine j_iconst (pc := 140) (v := 1) dX12_findAll_140 (by decide) ?_
            refine j_iadd (pc := 141) dX12_findAll_141 ?_
            refine s_callV_v (pc := 142) (M1 := M_X12_meet) (n := 2) (as := [.int ((((x4 &&& (((3 : Int32) <<< ((2 * x6) &&& 31)) ^^^ (-1))) ||| (((x4 >>> ((2 * x7) &&& 31)) &&& 3) <<< ((2 * x6) &&& 31))) &&& (((3 : Int32) <<< ((2 * x7) &&& 31)) ^^^ (-1))) ||| (((x4 >>> ((2 * x6) &&& 31)) &&& 3) <<< ((2 * x7) &&& 31))), .int ((ar σ5 76 x4.toNatClampNeg) + 1)]) (a := 55) (st := []) dX12_findAll_142 G_X12_meet wm_X12_286 (by decide +kernel) rfl (Nat.le_of_ble_eq_true rfl) shp_55 rfl (by show 1 ≤ d; omega) (Nat.le_of_ble_eq_true rfl) (Nat.zero_le _) (Nat.zero_le _) ?_
            refine CV.mono H (fun σ6 H => ?_)
            refine j_iinc (pc := 145) (k := 7) (v := x7 + 1) (lv1 := [(7, .int (x7 + 1)), (0, .ref 55), (1, .int x1), (2, .int x2), (3, .int x3), (4, .int x4), (5, .int x5), (6, .int x6)]) dX12_findAll_145 rfl rfl (Nat.le_of_ble_eq_true rfl) rfl ?_
            refine j_goto (pc := 148) (t := 83) dX12_findAll_148 (by decide) ?_
            refine j_sub [1, 2, 3, 4, 5, 6, 7, 0] rfl ?_
            exact H
set_option maxRecDepth 20000 in
theorem b_X12_noGoal_0 {l : Launch} {g : am_G} {d : Nat} {σ : am_S} {k : am_S → Prop}   (H : k (sR (sR σ 3561 0) 3562 (-1))) : CV l g M_X12_noGoal d [.ref 55] σ k := by
  show J l g (M_X12_noGoal, d, 0, 0) 0 [(0, .ref 55)] [] (hp σ) 0 0 (kV k)
  refine j_aload_n (pc := 0) dX12_noGoal_0 rfl ?_
  refine j_iconst (pc := 1) (v := 0) dX12_noGoal_1 (by decide) ?_
  refine s_put (pc := 2) 3561 dX12_noGoal_2 fl_X12_280 shp_55 rfl rfl fp_12_41 rfl rfl ?_
  refine j_aload_n (pc := 5) dX12_noGoal_5 rfl ?_
  refine j_iconst (pc := 6) (v := -1) dX12_noGoal_6 (by decide) ?_
  refine s_put (pc := 7) 3562 dX12_noGoal_7 fl_X12_283 shp_55 rfl rfl fp_12_42 rfl rfl ?_
  exact s_vret (pc := 10) dX12_noGoal_10 rfl H
set_option maxRecDepth 20000 in
theorem b_X12_goal_0 {l : Launch} {g : am_G} {d : Nat} {σ : am_S} {k : am_S → Prop}  {x1 x2 : Int32} (H : JV l g M_X12_goal d 12 [(0, .ref 55), (1, .int x1), (2, .int x2), (3, .int 0)] [] (sR (sR σ 3561 0) 3562 0) k) : CV l g M_X12_goal d [.ref 55, .int x1, .int x2] σ k := by
  show J l g (M_X12_goal, d, 0, 0) 0 [(0, .ref 55), (1, .int x1), (2, .int x2)] [] (hp σ) 0 0 (kV k)
  refine j_aload_n (pc := 0) dX12_goal_0 rfl ?_
  refine j_iconst (pc := 1) (v := 0) dX12_goal_1 (by decide) ?_
  refine s_put (pc := 2) 3561 dX12_goal_2 fl_X12_280 shp_55 rfl rfl fp_12_41 rfl rfl ?_
  refine j_aload_n (pc := 5) dX12_goal_5 rfl ?_
  refine j_iconst (pc := 6) (v := 0) dX12_goal_6 (by decide) ?_
  refine s_put (pc := 7) 3562 dX12_goal_7 fl_X12_283 shp_55 rfl rfl fp_12_42 rfl rfl ?_
  refine j_iconst (pc := 10) (v := 0) dX12_goal_10 (by decide) ?_
  refine j_istore_n (pc := 11) (lv1 := [(3, .int 0), (0, .ref 55), (1, .int x1), (2, .int x2)]) dX12_goal_11 (Nat.le_of_ble_eq_true rfl) rfl ?_
  refine j_sub [1, 2, 3, 0] rfl ?_
  exact H
set_option maxRecDepth 20000 in
theorem b_X12_goal_12 {l : Launch} {g : am_G} {d : Nat} {σ : am_S} {k : am_S → Prop}  {x1 x2 x3 : Int32} (H : ((rg σ 3526 ≤ x3 → k σ) ∧ (¬ rg σ 3526 ≤ x3 → ((¬ (x1 >>> (x3 &&& 31)) &&& 1 = 0 → JV l g M_X12_goal d 12 [(0, .ref 55), (1, .int x1), (2, .int x2), (3, .int (x3 + 1))] [] (sR (sR σ 3561 ((rg σ 3561) ||| ((3 : Int32) <<< ((2 * x3) &&& 31)))) 3562 ((rg σ 3562) ||| (x2 <<< ((2 * x3) &&& 31)))) k) ∧ ((x1 >>> (x3 &&& 31)) &&& 1 = 0 → JV l g M_X12_goal d 12 [(0, .ref 55), (1, .int x1), (2, .int x2), (3, .int (x3 + 1))] [] σ k))))) : JV l g M_X12_goal d 12 [(0, .ref 55), (1, .int x1), (2, .int x2), (3, .int x3)] [] σ k := by
  show J l g (M_X12_goal, d, 0, 0) 12 [(0, .ref 55), (1, .int x1), (2, .int x2), (3, .int x3)] [] (hp σ) 0 0 (kV k)
  refine j_iload_n (pc := 12) dX12_goal_12 rfl ?_
  refine j_aload_n (pc := 13) dX12_goal_13 rfl ?_
  refine s_geti (pc := 14) 3526 (rg σ 3526) dX12_goal_14 fl_X12_121 shp_55 rfl rfl rfl ?_
  refine j_icmp_ge (pc := 17) (t := 65) dX12_goal_17 (by decide) (fun c17 => ?_) (fun c17 => ?_)
  · replace H := H.1 c17
    exact s_vret (pc := 65) dX12_goal_65 rfl H
  · replace H := H.2 c17
    refine j_iload_n (pc := 20) dX12_goal_20 rfl ?_
    refine j_iload_n (pc := 21) dX12_goal_21 rfl ?_
    refine j_ishr (pc := 22) dX12_goal_22 ?_
    refine j_iconst (pc := 23) (v := 1) dX12_goal_23 (by decide) ?_
    refine j_iand (pc := 24) dX12_goal_24 ?_
    refine j_if_ne (pc := 25) (t := 31) dX12_goal_25 (by decide) (fun c25 => ?_) (fun c25 => ?_)
    · replace H := H.1 c25
      refine j_aload_n (pc := 31) dX12_goal_31 rfl ?_
      refine j_dup (pc := 32) dX12_goal_32 rfl ?_
      refine s_geti (pc := 33) 3561 (rg σ 3561) dX12_goal_33 fl_X12_280 shp_55 rfl rfl rfl ?_
      refine j_iconst (pc := 36) (v := 3) dX12_goal_36 (by decide) ?_
      refine j_iconst (pc := 37) (v := 2) dX12_goal_37 (by decide) ?_
      refine j_iload_n (pc := 38) dX12_goal_38 rfl ?_
      refine j_imul (pc := 39) dX12_goal_39 ?_
      refine j_ishl (pc := 40) dX12_goal_40 ?_
      refine j_ior (pc := 41) dX12_goal_41 ?_
      refine s_put (pc := 42) 3561 dX12_goal_42 fl_X12_280 shp_55 rfl rfl fp_12_41 rfl rfl ?_
      refine j_aload_n (pc := 45) dX12_goal_45 rfl ?_
      refine j_dup (pc := 46) dX12_goal_46 rfl ?_
      refine s_geti (pc := 47) 3562 (rg σ 3562) dX12_goal_47 fl_X12_283 shp_55 rfl rfl rfl ?_
      refine j_iload_n (pc := 50) dX12_goal_50 rfl ?_
      refine j_iconst (pc := 51) (v := 2) dX12_goal_51 (by decide) ?_
      refine j_iload_n (pc := 52) dX12_goal_52 rfl ?_
      refine j_imul (pc := 53) dX12_goal_53 ?_
      refine j_ishl (pc := 54) dX12_goal_54 ?_
      refine j_ior (pc := 55) dX12_goal_55 ?_
      refine s_put (pc := 56) 3562 dX12_goal_56 fl_X12_283 shp_55 rfl rfl fp_12_42 rfl rfl ?_
      refine j_iinc (pc := 59) (k := 3) (v := x3 + 1) (lv1 := [(3, .int (x3 + 1)), (0, .ref 55), (1, .int x1), (2, .int x2)]) dX12_goal_59 rfl rfl (Nat.le_of_ble_eq_true rfl) rfl ?_
      refine j_goto (pc := 62) (t := 12) dX12_goal_62 (by decide) ?_
      refine j_sub [1, 2, 3, 0] rfl ?_
      exact H
    · replace H := H.2 c25
      refine j_goto (pc := 28) (t := 59) dX12_goal_28 (by decide) ?_
      refine j_iinc (pc := 59) (k := 3) (v := x3 + 1) (lv1 := [(3, .int (x3 + 1)), (0, .ref 55), (1, .int x1), (2, .int x2)]) dX12_goal_59 rfl rfl (Nat.le_of_ble_eq_true rfl) rfl ?_
      refine j_goto (pc := 62) (t := 12) dX12_goal_62 (by decide) ?_
      refine j_sub [1, 2, 3, 0] rfl ?_
      exact H
set_option maxRecDepth 20000 in
theorem b_X12_isRest_0 {l : Launch} {g : am_G} {d : Nat} {σ : am_S} {k : Int32 → am_S → Prop}  {x1 : Int32} (H : JI l g M_X12_isRest d 2 [(0, .ref 55), (1, .int x1), (2, .int 0)] [] σ k) : CI l g M_X12_isRest d [.ref 55, .int x1] σ k := by
  show J l g (M_X12_isRest, d, 0, 0) 0 [(0, .ref 55), (1, .int x1)] [] (hp σ) 0 0 (kI k)
  refine j_iconst (pc := 0) (v := 0) dX12_isRest_0 (by decide) ?_
  refine j_istore_n (pc := 1) (lv1 := [(2, .int 0), (0, .ref 55), (1, .int x1)]) dX12_isRest_1 (Nat.le_of_ble_eq_true rfl) rfl ?_
  refine j_sub [1, 2, 0] rfl ?_
  exact H
set_option maxRecDepth 20000 in
theorem b_X12_isRest_2 {l : Launch} {g : am_G} {d : Nat} {σ : am_S} {k : Int32 → am_S → Prop}  {x1 x2 : Int32} (H : ((rg σ 3522 ≤ x2 → k 1 σ) ∧ (¬ rg σ 3522 ≤ x2 → JI l g M_X12_isRest d 12 [(0, .ref 55), (1, .int x1), (2, .int x2), (3, .int 0)] [] σ k))) : JI l g M_X12_isRest d 2 [(0, .ref 55), (1, .int x1), (2, .int x2)] [] σ k := by
  show J l g (M_X12_isRest, d, 0, 0) 2 [(0, .ref 55), (1, .int x1), (2, .int x2)] [] (hp σ) 0 0 (kI k)
  refine j_iload_n (pc := 2) dX12_isRest_2 rfl ?_
  refine j_aload_n (pc := 3) dX12_isRest_3 rfl ?_
  refine s_geti (pc := 4) 3522 (rg σ 3522) dX12_isRest_4 fl_X12_118 shp_55 rfl rfl rfl ?_
  refine j_icmp_ge (pc := 7) (t := 64) dX12_isRest_7 (by decide) (fun c7 => ?_) (fun c7 => ?_)
  · replace H := H.1 c7
    refine j_iconst (pc := 64) (v := 1) dX12_isRest_64 (by decide) ?_
    exact s_iretz (pc := 65) dX12_isRest_65 rfl rfl H
  · replace H := H.2 c7
    refine j_iconst (pc := 10) (v := 0) dX12_isRest_10 (by decide) ?_
    refine j_istore_n (pc := 11) (lv1 := [(3, .int 0), (0, .ref 55), (1, .int x1), (2, .int x2)]) dX12_isRest_11 (Nat.le_of_ble_eq_true rfl) rfl ?_
    refine j_sub [1, 2, 3, 0] rfl ?_
    exact H
set_option maxRecDepth 20000 in
theorem b_X12_isRest_12 {l : Launch} {g : am_G} {d : Nat} {σ : am_S} {k : Int32 → am_S → Prop}  {x1 x2 x3 : Int32} (H : ((rg σ 3526 ≤ x3 → JI l g M_X12_isRest d 2 [(0, .ref 55), (1, .int x1), (2, .int (x2 + 1))] [] σ k) ∧ (¬ rg σ 3526 ≤ x3 → JI l g M_X12_isRest d 23 [(0, .ref 55), (1, .int x1), (2, .int x2), (3, .int x3), (4, .int 0)] [] σ k))) : JI l g M_X12_isRest d 12 [(0, .ref 55), (1, .int x1), (2, .int x2), (3, .int x3)] [] σ k := by
  show J l g (M_X12_isRest, d, 0, 0) 12 [(0, .ref 55), (1, .int x1), (2, .int x2), (3, .int x3)] [] (hp σ) 0 0 (kI k)
  refine j_iload_n (pc := 12) dX12_isRest_12 rfl ?_
  refine j_aload_n (pc := 13) dX12_isRest_13 rfl ?_
  refine s_geti (pc := 14) 3526 (rg σ 3526) dX12_isRest_14 fl_X12_121 shp_55 rfl rfl rfl ?_
  refine j_icmp_ge (pc := 17) (t := 58) dX12_isRest_17 (by decide) (fun c17 => ?_) (fun c17 => ?_)
  · replace H := H.1 c17
    refine j_iinc (pc := 58) (k := 2) (v := x2 + 1) (lv1 := [(2, .int (x2 + 1)), (0, .ref 55), (1, .int x1), (3, .int x3)]) dX12_isRest_58 rfl rfl (Nat.le_of_ble_eq_true rfl) rfl ?_
    refine j_goto (pc := 61) (t := 2) dX12_isRest_61 (by decide) ?_
    refine j_sub [1, 2, 0] rfl ?_
    exact H
  · replace H := H.2 c17
    refine j_iconst (pc := 20) (v := 0) dX12_isRest_20 (by decide) ?_
    refine j_istore (pc := 21) (lv1 := [(4, .int 0), (0, .ref 55), (1, .int x1), (2, .int x2), (3, .int x3)]) dX12_isRest_21 (Nat.le_of_ble_eq_true rfl) rfl ?_
    refine j_sub [1, 2, 3, 4, 0] rfl ?_
    exact H
set_option maxRecDepth 20000 in
theorem b_X12_isRest_23 {l : Launch} {g : am_G} {d : Nat} {σ : am_S} {k : Int32 → am_S → Prop}  {x1 x2 x3 x4 : Int32} (hd : 1 ≤ d) (H : ((rg σ 3526 ≤ x4 → JI l g M_X12_isRest d 12 [(0, .ref 55), (1, .int x1), (2, .int x2), (3, .int (x3 + 1))] [] σ k) ∧ (¬ rg σ 3526 ≤ x4 → CI l g M_X12_can (d - 1) [.ref 55, .int x1, .int x2, .int x3, .int x4] σ (fun r1 σ1 => ((r1 = 0 → JI l g M_X12_isRest d 23 [(0, .ref 55), (1, .int x1), (2, .int x2), (3, .int x3), (4, .int (x4 + 1))] [] σ1 k) ∧ (¬ r1 = 0 → k 0 σ1)))))) : JI l g M_X12_isRest d 23 [(0, .ref 55), (1, .int x1), (2, .int x2), (3, .int x3), (4, .int x4)] [] σ k := by
  show J l g (M_X12_isRest, d, 0, 0) 23 [(0, .ref 55), (1, .int x1), (2, .int x2), (3, .int x3), (4, .int x4)] [] (hp σ) 0 0 (kI k)
  refine j_iload (pc := 23) dX12_isRest_23 rfl ?_
  refine j_aload_n (pc := 25) dX12_isRest_25 rfl ?_
  refine s_geti (pc := 26) 3526 (rg σ 3526) dX12_isRest_26 fl_X12_121 shp_55 rfl rfl rfl ?_
  refine j_icmp_ge (pc := 29) (t := 52) dX12_isRest_29 (by decide) (fun c29 => ?_) (fun c29 => ?_)
  · replace H := H.1 c29
    refine j_iinc (pc := 52) (k := 3) (v := x3 + 1) (lv1 := [(3, .int (x3 + 1)), (0, .ref 55), (1, .int x1), (2, .int x2), (4, .int x4)]) dX12_isRest_52 rfl rfl (Nat.le_of_ble_eq_true rfl) rfl ?_
    refine j_goto (pc := 55) (t := 12) dX12_isRest_55 (by decide) ?_
    refine j_sub [1, 2, 3, 0] rfl ?_
    exact H
  · replace H := H.2 c29
    refine j_aload_n (pc := 32) dX12_isRest_32 rfl ?_
    refine j_iload_n (pc := 33) dX12_isRest_33 rfl ?_
    refine j_iload_n (pc := 34) dX12_isRest_34 rfl ?_
    refine j_iload_n (pc := 35) dX12_isRest_35 rfl ?_
    refine j_iload (pc := 36) dX12_isRest_36 rfl ?_
    refine s_callV_i (pc := 38) (M1 := M_X12_can) (n := 4) (as := [.int x1, .int x2, .int x3, .int x4]) (a := 55) (st := []) dX12_isRest_38 G_X12_can wm_X12_261 (by decide +kernel) rfl (Nat.le_of_ble_eq_true rfl) shp_55 rfl (by show 1 ≤ d; omega) (Nat.le_of_ble_eq_true rfl) (Nat.zero_le _) (Nat.zero_le _) ?_
    refine CI.mono H (fun r1 σ1 H => ?_)
    refine j_if_eq (pc := 41) (t := 46) dX12_isRest_41 (by decide) (fun c41 => ?_) (fun c41 => ?_)
    · replace H := H.1 c41
      refine j_iinc (pc := 46) (k := 4) (v := x4 + 1) (lv1 := [(4, .int (x4 + 1)), (0, .ref 55), (1, .int x1), (2, .int x2), (3, .int x3)]) dX12_isRest_46 rfl rfl (Nat.le_of_ble_eq_true rfl) rfl ?_
      refine j_goto (pc := 49) (t := 23) dX12_isRest_49 (by decide) ?_
      refine j_sub [1, 2, 3, 4, 0] rfl ?_
      exact H
    · replace H := H.2 c41
      refine j_iconst (pc := 44) (v := 0) dX12_isRest_44 (by decide) ?_
      exact s_iretz (pc := 45) dX12_isRest_45 rfl rfl H
set_option maxRecDepth 20000 in
theorem b_X12_leads_0 {l : Launch} {g : am_G} {d : Nat} {σ : am_S} {k : am_S → Prop}  {x1 x2 : Int32} (H : (vp_in x1 16384 ∧ (vp_in x2 16384 ∧ (((ar σ 76 x1.toNatClampNeg) + 1 ≤ ar σ 76 x2.toNatClampNeg → (vp_in x2 16384 ∧ (vp_in x2 16384 ∧ (vp_in x2 16384 ∧ ((ar (sA σ 78 x2.toNatClampNeg (vp_nar .byte (((ar σ 78 x2.toNatClampNeg) - 1).toInt8.toInt32))) 78 x2.toNatClampNeg ≤ 0 → (vp_in (rg σ 3560) 16384 ∧ k (sR (sA (sA σ 78 x2.toNatClampNeg (vp_nar .byte (((ar σ 78 x2.toNatClampNeg) - 1).toInt8.toInt32))) 77 ((rg σ 3560).toNatClampNeg) (vp_nar .short x2.toInt16.toInt32)) 3560 ((rg σ 3560) + 1)))) ∧ (¬ ar (sA σ 78 x2.toNatClampNeg (vp_nar .byte (((ar σ 78 x2.toNatClampNeg) - 1).toInt8.toInt32))) 78 x2.toNatClampNeg ≤ 0 → k (sA σ 78 x2.toNatClampNeg (vp_nar .byte (((ar σ 78 x2.toNatClampNeg) - 1).toInt8.toInt32))))))))) ∧ (¬ (ar σ 76 x1.toNatClampNeg) + 1 ≤ ar σ 76 x2.toNatClampNeg → (vp_in x1 16384 ∧ (vp_in x2 16384 ∧ (vp_in x2 16384 ∧ (vp_in x2 16384 ∧ (vp_in x2 16384 ∧ ((ar (sA (sA σ 76 x2.toNatClampNeg (vp_nar .short (((ar σ 76 x1.toNatClampNeg) + 1).toInt16.toInt32))) 78 x2.toNatClampNeg (vp_nar .byte (((ar σ 78 x2.toNatClampNeg) - 1).toInt8.toInt32))) 78 x2.toNatClampNeg ≤ 0 → (vp_in (rg σ 3560) 16384 ∧ k (sR (sA (sA (sA σ 76 x2.toNatClampNeg (vp_nar .short (((ar σ 76 x1.toNatClampNeg) + 1).toInt16.toInt32))) 78 x2.toNatClampNeg (vp_nar .byte (((ar σ 78 x2.toNatClampNeg) - 1).toInt8.toInt32))) 77 ((rg σ 3560).toNatClampNeg) (vp_nar .short x2.toInt16.toInt32)) 3560 ((rg σ 3560) + 1)))) ∧ (¬ ar (sA (sA σ 76 x2.toNatClampNeg (vp_nar .short (((ar σ 76 x1.toNatClampNeg) + 1).toInt16.toInt32))) 78 x2.toNatClampNeg (vp_nar .byte (((ar σ 78 x2.toNatClampNeg) - 1).toInt8.toInt32))) 78 x2.toNatClampNeg ≤ 0 → k (sA (sA σ 76 x2.toNatClampNeg (vp_nar .short (((ar σ 76 x1.toNatClampNeg) + 1).toInt16.toInt32))) 78 x2.toNatClampNeg (vp_nar .byte (((ar σ 78 x2.toNatClampNeg) - 1).toInt8.toInt32))))))))))))))) : CV l g M_X12_leads d [.ref 55, .int x1, .int x2] σ k := by
  show J l g (M_X12_leads, d, 0, 0) 0 [(0, .ref 55), (1, .int x1), (2, .int x2)] [] (hp σ) 0 0 (kV k)
  refine j_aload_n (pc := 0) dX12_leads_0 rfl ?_
  refine s_getr (pc := 1) dX12_leads_1 fl_X12_80 shp_55 rfl ?_
  refine j_iload_n (pc := 4) dX12_leads_4 rfl ?_
  have b5 := H.1
  replace H := H.2
  refine s_sald (pc := 5) (ar σ 76 x1.toNatClampNeg) dX12_leads_5 shp_76 b5 rfl ?_
  refine j_iconst (pc := 6) (v := 1) dX12_leads_6 (by decide) ?_
  refine j_iadd (pc := 7) dX12_leads_7 ?_
  refine j_aload_n (pc := 8) dX12_leads_8 rfl ?_
  refine s_getr (pc := 9) dX12_leads_9 fl_X12_80 shp_55 rfl ?_
  refine j_iload_n (pc := 12) dX12_leads_12 rfl ?_
  have b13 := H.1
  replace H := H.2
  refine s_sald (pc := 13) (ar σ 76 x2.toNatClampNeg) dX12_leads_13 shp_76 b13 rfl ?_
  refine j_icmp_le (pc := 14) (t := 32) dX12_leads_14 (by decide) (fun c14 => ?_) (fun c14 => ?_)
  · replace H := H.1 c14
    refine j_aload_n (pc := 32) dX12_leads_32 rfl ?_
    refine s_getr (pc := 33) dX12_leads_33 fl_X12_86 shp_55 rfl ?_
    refine j_iload_n (pc := 36) dX12_leads_36 rfl ?_
    refine j_dup2 (pc := 37) dX12_leads_37 rfl rfl ?_
    have b38 := H.1
    replace H := H.2
    refine s_bald (pc := 38) (ar σ 78 x2.toNatClampNeg) dX12_leads_38 shp_78 b38 rfl ?_
    refine j_iconst (pc := 39) (v := 1) dX12_leads_39 (by decide) ?_
    refine j_isub (pc := 40) dX12_leads_40 ?_
    refine j_i2b (pc := 41) dX12_leads_41 ?_
    have b42 := H.1
    replace H := H.2
    refine s_bast (pc := 42) dX12_leads_42 shp_78 b42 ?_
    refine j_aload_n (pc := 43) dX12_leads_43 rfl ?_
    refine s_getr (pc := 44) dX12_leads_44 fl_X12_86 shp_55 rfl ?_
    refine j_iload_n (pc := 47) dX12_leads_47 rfl ?_
    have b48 := H.1
    replace H := H.2
    refine s_bald (pc := 48) (ar (sA σ 78 x2.toNatClampNeg (vp_nar .byte (((ar σ 78 x2.toNatClampNeg) - 1).toInt8.toInt32))) 78 x2.toNatClampNeg) dX12_leads_48 shp_78 b48 rfl ?_
    refine j_if_le (pc := 49) (t := 53) dX12_leads_49 (by decide) (fun c49 => ?_) (fun c49 => ?_)
    · replace H := H.1 c49
      refine j_aload_n (pc := 53) dX12_leads_53 rfl ?_
      refine s_getr (pc := 54) dX12_leads_54 fl_X12_83 shp_55 rfl ?_
      refine j_aload_n (pc := 57) dX12_leads_57 rfl ?_
      refine s_geti (pc := 58) 3560 (rg σ 3560) dX12_leads_58 fl_X12_274 shp_55 rfl rfl rfl ?_
      refine j_iload_n (pc := 61) dX12_leads_61 rfl ?_
      refine j_i2s (pc := 62) dX12_leads_62 ?_
      have b63 := H.1
      replace H := H.2
      refine s_sast (pc := 63) dX12_leads_63 shp_77 b63 ?_
      refine j_aload_n (pc := 64) dX12_leads_64 rfl ?_
      refine j_dup (pc := 65) dX12_leads_65 rfl ?_
      refine s_geti (pc := 66) 3560 (rg σ 3560) dX12_leads_66 fl_X12_274 shp_55 rfl rfl rfl ?_
      refine j_iconst (pc := 69) (v := 1) dX12_leads_69 (by decide) ?_
      refine j_iadd (pc := 70) dX12_leads_70 ?_
      refine s_put (pc := 71) 3560 dX12_leads_71 fl_X12_274 shp_55 rfl rfl fp_12_40 rfl rfl ?_
      exact s_vret (pc := 74) dX12_leads_74 rfl H
    · replace H := H.2 c49
      exact s_vret (pc := 52) dX12_leads_52 rfl H
  · replace H := H.2 c14
    refine j_aload_n (pc := 17) dX12_leads_17 rfl ?_
    refine s_getr (pc := 18) dX12_leads_18 fl_X12_80 shp_55 rfl ?_
    refine j_iload_n (pc := 21) dX12_leads_21 rfl ?_
    refine j_aload_n (pc := 22) dX12_leads_22 rfl ?_
    refine s_getr (pc := 23) dX12_leads_23 fl_X12_80 shp_55 rfl ?_
    refine j_iload_n (pc := 26) dX12_leads_26 rfl ?_
    have b27 := H.1
    replace H := H.2
    refine s_sald (pc := 27) (ar σ 76 x1.toNatClampNeg) dX12_leads_27 shp_76 b27 rfl ?_
    refine j_iconst (pc := 28) (v := 1) dX12_leads_28 (by decide) ?_
    refine j_iadd (pc := 29) dX12_leads_29 ?_
    refine j_i2s (pc := 30) dX12_leads_30 ?_
    have b31 := H.1
    replace H := H.2
    refine s_sast (pc := 31) dX12_leads_31 shp_76 b31 ?_
    refine j_aload_n (pc := 32) dX12_leads_32 rfl ?_
    refine s_getr (pc := 33) dX12_leads_33 fl_X12_86 shp_55 rfl ?_
    refine j_iload_n (pc := 36) dX12_leads_36 rfl ?_
    refine j_dup2 (pc := 37) dX12_leads_37 rfl rfl ?_
    have b38 := H.1
    replace H := H.2
    refine s_bald (pc := 38) (ar σ 78 x2.toNatClampNeg) dX12_leads_38 shp_78 b38 rfl ?_
    refine j_iconst (pc := 39) (v := 1) dX12_leads_39 (by decide) ?_
    refine j_isub (pc := 40) dX12_leads_40 ?_
    refine j_i2b (pc := 41) dX12_leads_41 ?_
    have b42 := H.1
    replace H := H.2
    refine s_bast (pc := 42) dX12_leads_42 shp_78 b42 ?_
    refine j_aload_n (pc := 43) dX12_leads_43 rfl ?_
    refine s_getr (pc := 44) dX12_leads_44 fl_X12_86 shp_55 rfl ?_
    refine j_iload_n (pc := 47) dX12_leads_47 rfl ?_
    have b48 := H.1
    replace H := H.2
    refine s_bald (pc := 48) (ar (sA (sA σ 76 x2.toNatClampNeg (vp_nar .short (((ar σ 76 x1.toNatClampNeg) + 1).toInt16.toInt32))) 78 x2.toNatClampNeg (vp_nar .byte (((ar σ 78 x2.toNatClampNeg) - 1).toInt8.toInt32))) 78 x2.toNatClampNeg) dX12_leads_48 shp_78 b48 rfl ?_
    refine j_if_le (pc := 49) (t := 53) dX12_leads_49 (by decide) (fun c49 => ?_) (fun c49 => ?_)
    · replace H := H.1 c49
      refine j_aload_n (pc := 53) dX12_leads_53 rfl ?_
      refine s_getr (pc := 54) dX12_leads_54 fl_X12_83 shp_55 rfl ?_
      refine j_aload_n (pc := 57) dX12_leads_57 rfl ?_
      refine s_geti (pc := 58) 3560 (rg σ 3560) dX12_leads_58 fl_X12_274 shp_55 rfl rfl rfl ?_
      refine j_iload_n (pc := 61) dX12_leads_61 rfl ?_
      refine j_i2s (pc := 62) dX12_leads_62 ?_
      have b63 := H.1
      replace H := H.2
      refine s_sast (pc := 63) dX12_leads_63 shp_77 b63 ?_
      refine j_aload_n (pc := 64) dX12_leads_64 rfl ?_
      refine j_dup (pc := 65) dX12_leads_65 rfl ?_
      refine s_geti (pc := 66) 3560 (rg σ 3560) dX12_leads_66 fl_X12_274 shp_55 rfl rfl rfl ?_
      refine j_iconst (pc := 69) (v := 1) dX12_leads_69 (by decide) ?_
      refine j_iadd (pc := 70) dX12_leads_70 ?_
      refine s_put (pc := 71) 3560 dX12_leads_71 fl_X12_274 shp_55 rfl rfl fp_12_40 rfl rfl ?_
      exact s_vret (pc := 74) dX12_leads_74 rfl H
    · replace H := H.2 c49
      exact s_vret (pc := 52) dX12_leads_52 rfl H
set_option maxRecDepth 20000 in
theorem b_X12_longest_0 {l : Launch} {g : am_G} {d : Nat} {σ : am_S} {k : Int32 → am_S → Prop}   (H : JI l g M_X12_longest d 2 [(0, .ref 55), (1, .int 0)] [] σ k) : CI l g M_X12_longest d [.ref 55] σ k := by
  show J l g (M_X12_longest, d, 0, 0) 0 [(0, .ref 55)] [] (hp σ) 0 0 (kI k)
  refine j_iconst (pc := 0) (v := 0) dX12_longest_0 (by decide) ?_
  refine j_istore_n (pc := 1) (lv1 := [(1, .int 0), (0, .ref 55)]) dX12_longest_1 (Nat.le_of_ble_eq_true rfl) rfl ?_
  refine j_sub [1, 0] rfl ?_
  exact H
set_option maxRecDepth 20000 in
theorem b_X12_longest_2 {l : Launch} {g : am_G} {d : Nat} {σ : am_S} {k : Int32 → am_S → Prop}  {x1 : Int32} (H : ((16384 ≤ x1 → JI l g M_X12_longest d 24 [(0, .ref 55), (1, .int 0)] [] σ k) ∧ (¬ 16384 ≤ x1 → (vp_in x1 16384 ∧ JI l g M_X12_longest d 2 [(0, .ref 55), (1, .int (x1 + 1))] [] (sA σ 78 x1.toNatClampNeg (vp_nar .byte 0)) k)))) : JI l g M_X12_longest d 2 [(0, .ref 55), (1, .int x1)] [] σ k := by
  show J l g (M_X12_longest, d, 0, 0) 2 [(0, .ref 55), (1, .int x1)] [] (hp σ) 0 0 (kI k)
  refine j_iload_n (pc := 2) dX12_longest_2 rfl ?_
  refine j_sipush (pc := 3) (v := 16384) dX12_longest_3 (by decide) ?_
  refine j_icmp_ge (pc := 6) (t := 22) dX12_longest_6 (by decide) (fun c6 => ?_) (fun c6 => ?_)
  · replace H := H.1 c6
    refine j_iconst (pc := 22) (v := 0) dX12_longest_22 (by decide) ?_
    refine j_istore_n (pc := 23) (lv1 := [(1, .int 0), (0, .ref 55)]) dX12_longest_23 (Nat.le_of_ble_eq_true rfl) rfl ?_
    refine j_sub [1, 0] rfl ?_
    exact H
  · replace H := H.2 c6
    refine j_aload_n (pc := 9) dX12_longest_9 rfl ?_
    refine s_getr (pc := 10) dX12_longest_10 fl_X12_86 shp_55 rfl ?_
    refine j_iload_n (pc := 13) dX12_longest_13 rfl ?_
    refine j_iconst (pc := 14) (v := 0) dX12_longest_14 (by decide) ?_
    have b15 := H.1
    replace H := H.2
    refine s_bast (pc := 15) dX12_longest_15 shp_78 b15 ?_
    refine j_iinc (pc := 16) (k := 1) (v := x1 + 1) (lv1 := [(1, .int (x1 + 1)), (0, .ref 55)]) dX12_longest_16 rfl rfl (Nat.le_of_ble_eq_true rfl) rfl ?_
    refine j_goto (pc := 19) (t := 2) dX12_longest_19 (by decide) ?_
    refine j_sub [1, 0] rfl ?_
    exact H
set_option maxRecDepth 20000 in
theorem b_X12_longest_24 {l : Launch} {g : am_G} {d : Nat} {σ : am_S} {k : Int32 → am_S → Prop}  {x1 : Int32} (H : ((rg σ 3560 ≤ x1 → (vp_in (rg σ 3529) 16384 ∧ ((¬ ar σ 78 ((rg σ 3529).toNatClampNeg) = 0 → JI l g M_X12_longest d 177 [(0, .ref 55), (1, .int (rg σ 3560)), (2, .int 0), (3, .int 0)] [] (sR σ 3560 0) k) ∧ (ar σ 78 ((rg σ 3529).toNatClampNeg) = 0 → JI l g M_X12_longest d 177 [(0, .ref 55), (1, .int (rg σ 3560)), (2, .int 0), (3, .int 0)] [] (sR (sA (sR σ 3560 0) 77 0 (vp_nar .short ((rg σ 3529).toInt16.toInt32))) 3560 1) k)))) ∧ (¬ rg σ 3560 ≤ x1 → (vp_in x1 16384 ∧ (vp_in (ar σ 77 x1.toNatClampNeg) 16384 ∧ JI l g M_X12_longest d 48 [(0, .ref 55), (1, .int x1), (2, .int (ar σ 77 x1.toNatClampNeg)), (3, .int 0)] [] (sA σ 76 ((ar σ 77 x1.toNatClampNeg).toNatClampNeg) (vp_nar .short 0)) k))))) : JI l g M_X12_longest d 24 [(0, .ref 55), (1, .int x1)] [] σ k := by
  show J l g (M_X12_longest, d, 0, 0) 24 [(0, .ref 55), (1, .int x1)] [] (hp σ) 0 0 (kI k)
  refine j_iload_n (pc := 24) dX12_longest_24 rfl ?_
  refine j_aload_n (pc := 25) dX12_longest_25 rfl ?_
  refine s_geti (pc := 26) 3560 (rg σ 3560) dX12_longest_26 fl_X12_274 shp_55 rfl rfl rfl ?_
  refine j_icmp_ge (pc := 29) (t := 135) dX12_longest_29 (by decide) (fun c29 => ?_) (fun c29 => ?_)
  · replace H := H.1 c29
    refine j_aload_n (pc := 135) dX12_longest_135 rfl ?_
    refine s_geti (pc := 136) 3560 (rg σ 3560) dX12_longest_136 fl_X12_274 shp_55 rfl rfl rfl ?_
    refine j_istore_n (pc := 139) (lv1 := [(1, .int (rg σ 3560)), (0, .ref 55)]) dX12_longest_139 (Nat.le_of_ble_eq_true rfl) rfl ?_
    refine j_iconst (pc := 140) (v := 0) dX12_longest_140 (by decide) ?_
    refine j_istore_n (pc := 141) (lv1 := [(2, .int 0), (1, .int (rg σ 3560)), (0, .ref 55)]) dX12_longest_141 (Nat.le_of_ble_eq_true rfl) rfl ?_
    refine j_aload_n (pc := 142) dX12_longest_142 rfl ?_
    refine j_iconst (pc := 143) (v := 0) dX12_longest_143 (by decide) ?_
    refine s_put (pc := 144) 3560 dX12_longest_144 fl_X12_274 shp_55 rfl rfl fp_12_40 rfl rfl ?_
    refine j_aload_n (pc := 147) dX12_longest_147 rfl ?_
    refine s_getr (pc := 148) dX12_longest_148 fl_X12_86 shp_55 rfl ?_
    refine j_aload_n (pc := 151) dX12_longest_151 rfl ?_
    refine s_geti (pc := 152) 3529 (rg σ 3529) dX12_longest_152 fl_X12_128 shp_55 rfl rfl rfl ?_
    have b155 := H.1
    replace H := H.2
    refine s_bald (pc := 155) (ar σ 78 ((rg σ 3529).toNatClampNeg)) dX12_longest_155 shp_78 b155 rfl ?_
    refine j_if_ne (pc := 156) (t := 175) dX12_longest_156 (by decide) (fun c156 => ?_) (fun c156 => ?_)
    · replace H := H.1 c156
      refine j_iconst (pc := 175) (v := 0) dX12_longest_175 (by decide) ?_
      refine j_istore_n (pc := 176) (lv1 := [(3, .int 0), (2, .int 0), (1, .int (rg σ 3560)), (0, .ref 55)]) dX12_longest_176 (Nat.le_of_ble_eq_true rfl) rfl ?_
      refine j_sub [3, 2, 1, 0] rfl ?_
      exact H
    · replace H := H.2 c156
      refine j_aload_n (pc := 159) dX12_longest_159 rfl ?_
      refine s_getr (pc := 160) dX12_longest_160 fl_X12_83 shp_55 rfl ?_
      refine j_iconst (pc := 163) (v := 0) dX12_longest_163 (by decide) ?_
      refine j_aload_n (pc := 164) dX12_longest_164 rfl ?_
      refine s_geti (pc := 165) 3529 (rg σ 3529) dX12_longest_165 fl_X12_128 shp_55 rfl rfl rfl ?_
      refine j_i2s (pc := 168) dX12_longest_168 ?_
      refine s_sast (pc := 169) dX12_longest_169 shp_77 (by unfold vp_in; decide) ?_
      refine j_aload_n (pc := 170) dX12_longest_170 rfl ?_
      refine j_iconst (pc := 171) (v := 1) dX12_longest_171 (by decide) ?_
      refine s_put (pc := 172) 3560 dX12_longest_172 fl_X12_274 shp_55 rfl rfl fp_12_40 rfl rfl ?_
      refine j_iconst (pc := 175) (v := 0) dX12_longest_175 (by decide) ?_
      refine j_istore_n (pc := 176) (lv1 := [(3, .int 0), (2, .int 0), (1, .int (rg σ 3560)), (0, .ref 55)]) dX12_longest_176 (Nat.le_of_ble_eq_true rfl) rfl ?_
      refine j_sub [3, 2, 1, 0] rfl ?_
      exact H
  · replace H := H.2 c29
    refine j_aload_n (pc := 32) dX12_longest_32 rfl ?_
    refine s_getr (pc := 33) dX12_longest_33 fl_X12_83 shp_55 rfl ?_
    refine j_iload_n (pc := 36) dX12_longest_36 rfl ?_
    have b37 := H.1
    replace H := H.2
    refine s_sald (pc := 37) (ar σ 77 x1.toNatClampNeg) dX12_longest_37 shp_77 b37 rfl ?_
    refine j_istore_n (pc := 38) (lv1 := [(2, .int (ar σ 77 x1.toNatClampNeg)), (0, .ref 55), (1, .int x1)]) dX12_longest_38 (Nat.le_of_ble_eq_true rfl) rfl ?_
    refine j_aload_n (pc := 39) dX12_longest_39 rfl ?_
    refine s_getr (pc := 40) dX12_longest_40 fl_X12_80 shp_55 rfl ?_
    refine j_iload_n (pc := 43) dX12_longest_43 rfl ?_
    refine j_iconst (pc := 44) (v := 0) dX12_longest_44 (by decide) ?_
    have b45 := H.1
    replace H := H.2
    refine s_sast (pc := 45) dX12_longest_45 shp_76 b45 ?_
    refine j_iconst (pc := 46) (v := 0) dX12_longest_46 (by decide) ?_
    refine j_istore_n (pc := 47) (lv1 := [(3, .int 0), (2, .int (ar σ 77 x1.toNatClampNeg)), (0, .ref 55), (1, .int x1)]) dX12_longest_47 (Nat.le_of_ble_eq_true rfl) rfl ?_
    refine j_sub [2, 3, 1, 0] rfl ?_
    exact H
set_option maxRecDepth 20000 in
theorem b_X12_longest_48 {l : Launch} {g : am_G} {d : Nat} {σ : am_S} {k : Int32 → am_S → Prop}  {x1 x2 x3 : Int32} (H : ((rg σ 3522 ≤ x3 → JI l g M_X12_longest d 24 [(0, .ref 55), (1, .int (x1 + 1))] [] σ k) ∧ (¬ rg σ 3522 ≤ x3 → JI l g M_X12_longest d 59 [(0, .ref 55), (1, .int x1), (2, .int x2), (3, .int x3), (4, .int 0)] [] σ k))) : JI l g M_X12_longest d 48 [(0, .ref 55), (1, .int x1), (2, .int x2), (3, .int x3)] [] σ k := by
  show J l g (M_X12_longest, d, 0, 0) 48 [(0, .ref 55), (1, .int x1), (2, .int x2), (3, .int x3)] [] (hp σ) 0 0 (kI k)
  refine j_iload_n (pc := 48) dX12_longest_48 rfl ?_
  refine j_aload_n (pc := 49) dX12_longest_49 rfl ?_
  refine s_geti (pc := 50) 3522 (rg σ 3522) dX12_longest_50 fl_X12_118 shp_55 rfl rfl rfl ?_
  refine j_icmp_ge (pc := 53) (t := 129) dX12_longest_53 (by decide) (fun c53 => ?_) (fun c53 => ?_)
  · replace H := H.1 c53
    refine j_iinc (pc := 129) (k := 1) (v := x1 + 1) (lv1 := [(1, .int (x1 + 1)), (0, .ref 55), (2, .int x2), (3, .int x3)]) dX12_longest_129 rfl rfl (Nat.le_of_ble_eq_true rfl) rfl ?_
    refine j_goto (pc := 132) (t := 24) dX12_longest_132 (by decide) ?_
    refine j_sub [1, 0] rfl ?_
    exact H
  · replace H := H.2 c53
    refine j_iconst (pc := 56) (v := 0) dX12_longest_56 (by decide) ?_
    refine j_istore (pc := 57) (lv1 := [(4, .int 0), (0, .ref 55), (1, .int x1), (2, .int x2), (3, .int x3)]) dX12_longest_57 (Nat.le_of_ble_eq_true rfl) rfl ?_
    refine j_sub [1, 2, 3, 4, 0] rfl ?_
    exact H
set_option maxRecDepth 20000 in
theorem b_X12_longest_59 {l : Launch} {g : am_G} {d : Nat} {σ : am_S} {k : Int32 → am_S → Prop}  {x1 x2 x3 x4 : Int32} (H : ((rg σ 3526 ≤ x4 → JI l g M_X12_longest d 48 [(0, .ref 55), (1, .int x1), (2, .int x2), (3, .int (x3 + 1))] [] σ k) ∧ (¬ rg σ 3526 ≤ x4 → JI l g M_X12_longest d 71 [(0, .ref 55), (1, .int x1), (2, .int x2), (3, .int x3), (4, .int x4), (5, .int 0)] [] σ k))) : JI l g M_X12_longest d 59 [(0, .ref 55), (1, .int x1), (2, .int x2), (3, .int x3), (4, .int x4)] [] σ k := by
  show J l g (M_X12_longest, d, 0, 0) 59 [(0, .ref 55), (1, .int x1), (2, .int x2), (3, .int x3), (4, .int x4)] [] (hp σ) 0 0 (kI k)
  refine j_iload (pc := 59) dX12_longest_59 rfl ?_
  refine j_aload_n (pc := 61) dX12_longest_61 rfl ?_
  refine s_geti (pc := 62) 3526 (rg σ 3526) dX12_longest_62 fl_X12_121 shp_55 rfl rfl rfl ?_
  refine j_icmp_ge (pc := 65) (t := 123) dX12_longest_65 (by decide) (fun c65 => ?_) (fun c65 => ?_)
  · replace H := H.1 c65
    refine j_iinc (pc := 123) (k := 3) (v := x3 + 1) (lv1 := [(3, .int (x3 + 1)), (0, .ref 55), (1, .int x1), (2, .int x2), (4, .int x4)]) dX12_longest_123 rfl rfl (Nat.le_of_ble_eq_true rfl) rfl ?_
    refine j_goto (pc := 126) (t := 48) dX12_longest_126 (by decide) ?_
    refine j_sub [1, 2, 3, 0] rfl ?_
    exact H
  · replace H := H.2 c65
    refine j_iconst (pc := 68) (v := 0) dX12_longest_68 (by decide) ?_
    refine j_istore (pc := 69) (lv1 := [(5, .int 0), (0, .ref 55), (1, .int x1), (2, .int x2), (3, .int x3), (4, .int x4)]) dX12_longest_69 (Nat.le_of_ble_eq_true rfl) rfl ?_
    refine j_sub [1, 2, 3, 4, 5, 0] rfl ?_
    exact H
set_option maxRecDepth 20000 in
theorem b_X12_longest_71 {l : Launch} {g : am_G} {d : Nat} {σ : am_S} {k : Int32 → am_S → Prop}  {x1 x2 x3 x4 x5 : Int32} (hd : 2 ≤ d) (H : ((rg σ 3526 ≤ x5 → JI l g M_X12_longest d 59 [(0, .ref 55), (1, .int x1), (2, .int x2), (3, .int x3), (4, .int (x4 + 1))] [] σ k) ∧ (¬ rg σ 3526 ≤ x5 → CI l g M_X12_can (d - 1) [.ref 55, .int x2, .int x3, .int x4, .int x5] σ (fun r1 σ1 => ((r1 = 0 → JI l g M_X12_longest d 71 [(0, .ref 55), (1, .int x1), (2, .int x2), (3, .int x3), (4, .int x4), (5, .int (x5 + 1))] [] σ1 k) ∧ (¬ r1 = 0 → (vp_in ((((x2 &&& (((3 : Int32) <<< ((2 * x4) &&& 31)) ^^^ (-1))) ||| (((x2 >>> ((2 * x5) &&& 31)) &&& 3) <<< ((2 * x4) &&& 31))) &&& (((3 : Int32) <<< ((2 * x5) &&& 31)) ^^^ (-1))) ||| (((x2 >>> ((2 * x4) &&& 31)) &&& 3) <<< ((2 * x5) &&& 31))) 16384 ∧ (vp_in ((((x2 &&& (((3 : Int32) <<< ((2 * x4) &&& 31)) ^^^ (-1))) ||| (((x2 >>> ((2 * x5) &&& 31)) &&& 3) <<< ((2 * x4) &&& 31))) &&& (((3 : Int32) <<< ((2 * x5) &&& 31)) ^^^ (-1))) ||| (((x2 >>> ((2 * x4) &&& 31)) &&& 3) <<< ((2 * x5) &&& 31))) 16384 ∧ JI l g M_X12_longest d 71 [(0, .ref 55), (1, .int x1), (2, .int x2), (3, .int x3), (4, .int x4), (5, .int (x5 + 1))] [] (sA σ1 78 (((((x2 &&& (((3 : Int32) <<< ((2 * x4) &&& 31)) ^^^ (-1))) ||| (((x2 >>> ((2 * x5) &&& 31)) &&& 3) <<< ((2 * x4) &&& 31))) &&& (((3 : Int32) <<< ((2 * x5) &&& 31)) ^^^ (-1))) ||| (((x2 >>> ((2 * x4) &&& 31)) &&& 3) <<< ((2 * x5) &&& 31))).toNatClampNeg) (vp_nar .byte (((ar σ1 78 (((((x2 &&& (((3 : Int32) <<< ((2 * x4) &&& 31)) ^^^ (-1))) ||| (((x2 >>> ((2 * x5) &&& 31)) &&& 3) <<< ((2 * x4) &&& 31))) &&& (((3 : Int32) <<< ((2 * x5) &&& 31)) ^^^ (-1))) ||| (((x2 >>> ((2 * x4) &&& 31)) &&& 3) <<< ((2 * x5) &&& 31))).toNatClampNeg)) + 1).toInt8.toInt32))) k)))))))) : JI l g M_X12_longest d 71 [(0, .ref 55), (1, .int x1), (2, .int x2), (3, .int x3), (4, .int x4), (5, .int x5)] [] σ k := by
  show J l g (M_X12_longest, d, 0, 0) 71 [(0, .ref 55), (1, .int x1), (2, .int x2), (3, .int x3), (4, .int x4), (5, .int x5)] [] (hp σ) 0 0 (kI k)
  refine j_iload (pc := 71) dX12_longest_71 rfl ?_
  refine j_aload_n (pc := 73) dX12_longest_73 rfl ?_
  refine s_geti (pc := 74) 3526 (rg σ 3526) dX12_longest_74 fl_X12_121 shp_55 rfl rfl rfl ?_
  refine j_icmp_ge (pc := 77) (t := 117) dX12_longest_77 (by decide) (fun c77 => ?_) (fun c77 => ?_)
  · replace H := H.1 c77
    refine j_iinc (pc := 117) (k := 4) (v := x4 + 1) (lv1 := [(4, .int (x4 + 1)), (0, .ref 55), (1, .int x1), (2, .int x2), (3, .int x3), (5, .int x5)]) dX12_longest_117 rfl rfl (Nat.le_of_ble_eq_true rfl) rfl ?_
    refine j_goto (pc := 120) (t := 59) dX12_longest_120 (by decide) ?_
    refine j_sub [1, 2, 3, 4, 0] rfl ?_
    exact H
  · replace H := H.2 c77
    refine j_aload_n (pc := 80) dX12_longest_80 rfl ?_
    refine j_iload_n (pc := 81) dX12_longest_81 rfl ?_
    refine j_iload_n (pc := 82) dX12_longest_82 rfl ?_
    refine j_iload (pc := 83) dX12_longest_83 rfl ?_
    refine j_iload (pc := 85) dX12_longest_85 rfl ?_
    refine s_callV_i (pc := 87) (M1 := M_X12_can) (n := 4) (as := [.int x2, .int x3, .int x4, .int x5]) (a := 55) (st := []) dX12_longest_87 G_X12_can wm_X12_261 (by decide +kernel) rfl (Nat.le_of_ble_eq_true rfl) shp_55 rfl (by show 1 ≤ d; omega) (Nat.le_of_ble_eq_true rfl) (Nat.zero_le _) (Nat.zero_le _) ?_
    refine CI.mono H (fun r1 σ1 H => ?_)
    refine j_if_eq (pc := 90) (t := 111) dX12_longest_90 (by decide) (fun c90 => ?_) (fun c90 => ?_)
    · replace H := H.1 c90
      refine j_iinc (pc := 111) (k := 5) (v := x5 + 1) (lv1 := [(5, .int (x5 + 1)), (0, .ref 55), (1, .int x1), (2, .int x2), (3, .int x3), (4, .int x4)]) dX12_longest_111 rfl rfl (Nat.le_of_ble_eq_true rfl) rfl ?_
      refine j_goto (pc := 114) (t := 71) dX12_longest_114 (by decide) ?_
      refine j_sub [1, 2, 3, 4, 5, 0] rfl ?_
      exact H
    · replace H := H.2 c90
      refine j_aload_n (pc := 93) dX12_longest_93 rfl ?_
      refine s_getr (pc := 94) dX12_longest_94 fl_X12_86 shp_55 rfl ?_
      refine j_iload_n (pc := 97) dX12_longest_97 rfl ?_
      refine j_iload (pc := 98) dX12_longest_98 rfl ?_
      refine j_iload (pc := 100) dX12_longest_100 rfl ?_
      refine s_callS_i (pc := 102) (M1 := M_X12_swapped) (n := 3) (as := [.int x2, .int x4, .int x5]) (st := [.ref 78]) dX12_longest_102 G_X12_swapped wm_X12_265 (by decide +kernel) rfl (Nat.le_of_ble_eq_true rfl) (by show 1 ≤ d; omega) (Nat.le_of_ble_eq_true rfl) ?_
      refine C_X12_swapped (d := d - 1) (by omega) ?_
      refine j_dup2 (pc := 105) dX12_longest_105 rfl rfl ?_
      have b106 := H.1
      replace H := H.2
      refine s_bald (pc := 106) (ar σ1 78 (((((x2 &&& (((3 : Int32) <<< ((2 * x4) &&& 31)) ^^^ (-1))) ||| (((x2 >>> ((2 * x5) &&& 31)) &&& 3) <<< ((2 * x4) &&& 31))) &&& (((3 : Int32) <<< ((2 * x5) &&& 31)) ^^^ (-1))) ||| (((x2 >>> ((2 * x4) &&& 31)) &&& 3) <<< ((2 * x5) &&& 31))).toNatClampNeg)) dX12_longest_106 shp_78 b106 rfl ?_
      refine j_iconst (pc := 107) (v := 1) dX12_longest_107 (by decide) ?_
      refine j_iadd (pc := 108) dX12_longest_108 ?_
      refine j_i2b (pc := 109) dX12_longest_109 ?_
      have b110 := H.1
      replace H := H.2
      refine s_bast (pc := 110) dX12_longest_110 shp_78 b110 ?_
      refine j_iinc (pc := 111) (k := 5) (v := x5 + 1) (lv1 := [(5, .int (x5 + 1)), (0, .ref 55), (1, .int x1), (2, .int x2), (3, .int x3), (4, .int x4)]) dX12_longest_111 rfl rfl (Nat.le_of_ble_eq_true rfl) rfl ?_
      refine j_goto (pc := 114) (t := 71) dX12_longest_114 (by decide) ?_
      refine j_sub [1, 2, 3, 4, 5, 0] rfl ?_
      exact H
set_option maxRecDepth 20000 in
theorem b_X12_longest_177 {l : Launch} {g : am_G} {d : Nat} {σ : am_S} {k : Int32 → am_S → Prop}  {x1 x2 x3 : Int32} (H : ((rg σ 3560 ≤ x3 → ((x1 ≤ rg σ 3560 → k x2 σ) ∧ (¬ x1 ≤ rg σ 3560 → k (-2) σ))) ∧ (¬ rg σ 3560 ≤ x3 → (vp_in x3 16384 ∧ (vp_in (ar σ 77 x3.toNatClampNeg) 16384 ∧ ((ar σ 76 ((ar σ 77 x3.toNatClampNeg).toNatClampNeg) ≤ x2 → JI l g M_X12_longest d 215 [(0, .ref 55), (1, .int x1), (2, .int x2), (3, .int x3), (4, .int (ar σ 77 x3.toNatClampNeg)), (5, .int 0)] [] σ k) ∧ (¬ ar σ 76 ((ar σ 77 x3.toNatClampNeg).toNatClampNeg) ≤ x2 → (vp_in (ar σ 77 x3.toNatClampNeg) 16384 ∧ JI l g M_X12_longest d 215 [(0, .ref 55), (1, .int x1), (2, .int (ar σ 76 ((ar σ 77 x3.toNatClampNeg).toNatClampNeg))), (3, .int x3), (4, .int (ar σ 77 x3.toNatClampNeg)), (5, .int 0)] [] σ k)))))))) : JI l g M_X12_longest d 177 [(0, .ref 55), (1, .int x1), (2, .int x2), (3, .int x3)] [] σ k := by
  show J l g (M_X12_longest, d, 0, 0) 177 [(0, .ref 55), (1, .int x1), (2, .int x2), (3, .int x3)] [] (hp σ) 0 0 (kI k)
  refine j_iload_n (pc := 177) dX12_longest_177 rfl ?_
  refine j_aload_n (pc := 178) dX12_longest_178 rfl ?_
  refine s_geti (pc := 179) 3560 (rg σ 3560) dX12_longest_179 fl_X12_274 shp_55 rfl rfl rfl ?_
  refine j_icmp_ge (pc := 182) (t := 302) dX12_longest_182 (by decide) (fun c182 => ?_) (fun c182 => ?_)
  · replace H := H.1 c182
    refine j_aload_n (pc := 302) dX12_longest_302 rfl ?_
    refine s_geti (pc := 303) 3560 (rg σ 3560) dX12_longest_303 fl_X12_274 shp_55 rfl rfl rfl ?_
    refine j_iload_n (pc := 306) dX12_longest_306 rfl ?_
    refine j_icmp_ge (pc := 307) (t := 315) dX12_longest_307 (by decide) (fun c307 => ?_) (fun c307 => ?_)
    · replace H := H.1 c307
      refine j_iload_n (pc := 315) dX12_longest_315 rfl ?_
      exact s_ireti (pc := 316) dX12_longest_316 rfl H
    · replace H := H.2 c307
      refine j_bipush (pc := 310) (v := -2) dX12_longest_310 (by decide) ?_
      refine j_goto (pc := 312) (t := 316) dX12_longest_312 (by decide) ?_
      exact s_ireti (pc := 316) dX12_longest_316 rfl H
  · replace H := H.2 c182
    refine j_aload_n (pc := 185) dX12_longest_185 rfl ?_
    refine s_getr (pc := 186) dX12_longest_186 fl_X12_83 shp_55 rfl ?_
    refine j_iload_n (pc := 189) dX12_longest_189 rfl ?_
    have b190 := H.1
    replace H := H.2
    refine s_sald (pc := 190) (ar σ 77 x3.toNatClampNeg) dX12_longest_190 shp_77 b190 rfl ?_
    refine j_istore (pc := 191) (lv1 := [(4, .int (ar σ 77 x3.toNatClampNeg)), (0, .ref 55), (1, .int x1), (2, .int x2), (3, .int x3)]) dX12_longest_191 (Nat.le_of_ble_eq_true rfl) rfl ?_
    refine j_aload_n (pc := 193) dX12_longest_193 rfl ?_
    refine s_getr (pc := 194) dX12_longest_194 fl_X12_80 shp_55 rfl ?_
    refine j_iload (pc := 197) dX12_longest_197 rfl ?_
    have b199 := H.1
    replace H := H.2
    refine s_sald (pc := 199) (ar σ 76 ((ar σ 77 x3.toNatClampNeg).toNatClampNeg)) dX12_longest_199 shp_76 b199 rfl ?_
    refine j_iload_n (pc := 200) dX12_longest_200 rfl ?_
    refine j_icmp_le (pc := 201) (t := 212) dX12_longest_201 (by decide) (fun c201 => ?_) (fun c201 => ?_)
    · replace H := H.1 c201
      refine j_iconst (pc := 212) (v := 0) dX12_longest_212 (by decide) ?_
      refine j_istore (pc := 213) (lv1 := [(5, .int 0), (4, .int (ar σ 77 x3.toNatClampNeg)), (0, .ref 55), (1, .int x1), (2, .int x2), (3, .int x3)]) dX12_longest_213 (Nat.le_of_ble_eq_true rfl) rfl ?_
      refine j_sub [2, 3, 4, 5, 1, 0] rfl ?_
      exact H
    · replace H := H.2 c201
      refine j_aload_n (pc := 204) dX12_longest_204 rfl ?_
      refine s_getr (pc := 205) dX12_longest_205 fl_X12_80 shp_55 rfl ?_
      refine j_iload (pc := 208) dX12_longest_208 rfl ?_
      have b210 := H.1
      replace H := H.2
      refine s_sald (pc := 210) (ar σ 76 ((ar σ 77 x3.toNatClampNeg).toNatClampNeg)) dX12_longest_210 shp_76 b210 rfl ?_
      refine j_istore_n (pc := 211) (lv1 := [(2, .int (ar σ 76 ((ar σ 77 x3.toNatClampNeg).toNatClampNeg))), (4, .int (ar σ 77 x3.toNatClampNeg)), (0, .ref 55), (1, .int x1), (3, .int x3)]) dX12_longest_211 (Nat.le_of_ble_eq_true rfl) rfl ?_
      refine j_iconst (pc := 212) (v := 0) dX12_longest_212 (by decide) ?_
      refine j_istore (pc := 213) (lv1 := [(5, .int 0), (2, .int (ar σ 76 ((ar σ 77 x3.toNatClampNeg).toNatClampNeg))), (4, .int (ar σ 77 x3.toNatClampNeg)), (0, .ref 55), (1, .int x1), (3, .int x3)]) dX12_longest_213 (Nat.le_of_ble_eq_true rfl) rfl ?_
      refine j_sub [3, 4, 1, 5, 2, 0] rfl ?_
      exact H
set_option maxRecDepth 20000 in
theorem b_X12_longest_215 {l : Launch} {g : am_G} {d : Nat} {σ : am_S} {k : Int32 → am_S → Prop}  {x1 x2 x3 x4 x5 : Int32} (H : ((rg σ 3522 ≤ x5 → JI l g M_X12_longest d 177 [(0, .ref 55), (1, .int x1), (2, .int x2), (3, .int (x3 + 1))] [] σ k) ∧ (¬ rg σ 3522 ≤ x5 → JI l g M_X12_longest d 227 [(0, .ref 55), (1, .int x1), (2, .int x2), (3, .int x3), (4, .int x4), (5, .int x5), (6, .int 0)] [] σ k))) : JI l g M_X12_longest d 215 [(0, .ref 55), (1, .int x1), (2, .int x2), (3, .int x3), (4, .int x4), (5, .int x5)] [] σ k := by
  show J l g (M_X12_longest, d, 0, 0) 215 [(0, .ref 55), (1, .int x1), (2, .int x2), (3, .int x3), (4, .int x4), (5, .int x5)] [] (hp σ) 0 0 (kI k)
  refine j_iload (pc := 215) dX12_longest_215 rfl ?_
  refine j_aload_n (pc := 217) dX12_longest_217 rfl ?_
  refine s_geti (pc := 218) 3522 (rg σ 3522) dX12_longest_218 fl_X12_118 shp_55 rfl rfl rfl ?_
  refine j_icmp_ge (pc := 221) (t := 296) dX12_longest_221 (by decide) (fun c221 => ?_) (fun c221 => ?_)
  · replace H := H.1 c221
    refine j_iinc (pc := 296) (k := 3) (v := x3 + 1) (lv1 := [(3, .int (x3 + 1)), (0, .ref 55), (1, .int x1), (2, .int x2), (4, .int x4), (5, .int x5)]) dX12_longest_296 rfl rfl (Nat.le_of_ble_eq_true rfl) rfl ?_
    refine j_goto (pc := 299) (t := 177) dX12_longest_299 (by decide) ?_
    refine j_sub [1, 2, 3, 0] rfl ?_
    exact H
  · replace H := H.2 c221
    refine j_iconst (pc := 224) (v := 0) dX12_longest_224 (by decide) ?_
    refine j_istore (pc := 225) (lv1 := [(6, .int 0), (0, .ref 55), (1, .int x1), (2, .int x2), (3, .int x3), (4, .int x4), (5, .int x5)]) dX12_longest_225 (Nat.le_of_ble_eq_true rfl) rfl ?_
    refine j_sub [1, 2, 3, 4, 5, 6, 0] rfl ?_
    exact H
set_option maxRecDepth 20000 in
theorem b_X12_longest_227 {l : Launch} {g : am_G} {d : Nat} {σ : am_S} {k : Int32 → am_S → Prop}  {x1 x2 x3 x4 x5 x6 : Int32} (H : ((rg σ 3526 ≤ x6 → JI l g M_X12_longest d 215 [(0, .ref 55), (1, .int x1), (2, .int x2), (3, .int x3), (4, .int x4), (5, .int (x5 + 1))] [] σ k) ∧ (¬ rg σ 3526 ≤ x6 → JI l g M_X12_longest d 239 [(0, .ref 55), (1, .int x1), (2, .int x2), (3, .int x3), (4, .int x4), (5, .int x5), (6, .int x6), (7, .int 0)] [] σ k))) : JI l g M_X12_longest d 227 [(0, .ref 55), (1, .int x1), (2, .int x2), (3, .int x3), (4, .int x4), (5, .int x5), (6, .int x6)] [] σ k := by
  show J l g (M_X12_longest, d, 0, 0) 227 [(0, .ref 55), (1, .int x1), (2, .int x2), (3, .int x3), (4, .int x4), (5, .int x5), (6, .int x6)] [] (hp σ) 0 0 (kI k)
  refine j_iload (pc := 227) dX12_longest_227 rfl ?_
  refine j_aload_n (pc := 229) dX12_longest_229 rfl ?_
  refine s_geti (pc := 230) 3526 (rg σ 3526) dX12_longest_230 fl_X12_121 shp_55 rfl rfl rfl ?_
  refine j_icmp_ge (pc := 233) (t := 290) dX12_longest_233 (by decide) (fun c233 => ?_) (fun c233 => ?_)
  · replace H := H.1 c233
    refine j_iinc (pc := 290) (k := 5) (v := x5 + 1) (lv1 := [(5, .int (x5 + 1)), (0, .ref 55), (1, .int x1), (2, .int x2), (3, .int x3), (4, .int x4), (6, .int x6)]) dX12_longest_290 rfl rfl (Nat.le_of_ble_eq_true rfl) rfl ?_
    refine j_goto (pc := 293) (t := 215) dX12_longest_293 (by decide) ?_
    refine j_sub [1, 2, 3, 4, 5, 0] rfl ?_
    exact H
  · replace H := H.2 c233
    refine j_iconst (pc := 236) (v := 0) dX12_longest_236 (by decide) ?_
    refine j_istore (pc := 237) (lv1 := [(7, .int 0), (0, .ref 55), (1, .int x1), (2, .int x2), (3, .int x3), (4, .int x4), (5, .int x5), (6, .int x6)]) dX12_longest_237 (Nat.le_of_ble_eq_true rfl) rfl ?_
    refine j_sub [1, 2, 3, 4, 5, 6, 7, 0] rfl ?_
    exact H
set_option maxRecDepth 20000 in
theorem b_X12_longest_239 {l : Launch} {g : am_G} {d : Nat} {σ : am_S} {k : Int32 → am_S → Prop}  {x1 x2 x3 x4 x5 x6 x7 : Int32} (hd : 2 ≤ d) (H : ((rg σ 3526 ≤ x7 → JI l g M_X12_longest d 227 [(0, .ref 55), (1, .int x1), (2, .int x2), (3, .int x3), (4, .int x4), (5, .int x5), (6, .int (x6 + 1))] [] σ k) ∧ (¬ rg σ 3526 ≤ x7 → CI l g M_X12_can (d - 1) [.ref 55, .int x4, .int x5, .int x6, .int x7] σ (fun r1 σ1 => ((r1 = 0 → JI l g M_X12_longest d 239 [(0, .ref 55), (1, .int x1), (2, .int x2), (3, .int x3), (4, .int x4), (5, .int x5), (6, .int x6), (7, .int (x7 + 1))] [] σ1 k) ∧ (¬ r1 = 0 → CV l g M_X12_leads (d - 1) [.ref 55, .int x4, .int ((((x4 &&& (((3 : Int32) <<< ((2 * x6) &&& 31)) ^^^ (-1))) ||| (((x4 >>> ((2 * x7) &&& 31)) &&& 3) <<< ((2 * x6) &&& 31))) &&& (((3 : Int32) <<< ((2 * x7) &&& 31)) ^^^ (-1))) ||| (((x4 >>> ((2 * x6) &&& 31)) &&& 3) <<< ((2 * x7) &&& 31)))] σ1 (fun σ2 => JI l g M_X12_longest d 239 [(0, .ref 55), (1, .int x1), (2, .int x2), (3, .int x3), (4, .int x4), (5, .int x5), (6, .int x6), (7, .int (x7 + 1))] [] σ2 k))))))) : JI l g M_X12_longest d 239 [(0, .ref 55), (1, .int x1), (2, .int x2), (3, .int x3), (4, .int x4), (5, .int x5), (6, .int x6), (7, .int x7)] [] σ k := by
  show J l g (M_X12_longest, d, 0, 0) 239 [(0, .ref 55), (1, .int x1), (2, .int x2), (3, .int x3), (4, .int x4), (5, .int x5), (6, .int x6), (7, .int x7)] [] (hp σ) 0 0 (kI k)
  refine j_iload (pc := 239) dX12_longest_239 rfl ?_
  refine j_aload_n (pc := 241) dX12_longest_241 rfl ?_
  refine s_geti (pc := 242) 3526 (rg σ 3526) dX12_longest_242 fl_X12_121 shp_55 rfl rfl rfl ?_
  refine j_icmp_ge (pc := 245) (t := 284) dX12_longest_245 (by decide) (fun c245 => ?_) (fun c245 => ?_)
  · replace H := H.1 c245
    refine j_iinc (pc := 284) (k := 6) (v := x6 + 1) (lv1 := [(6, .int (x6 + 1)), (0, .ref 55), (1, .int x1), (2, .int x2), (3, .int x3), (4, .int x4), (5, .int x5), (7, .int x7)]) dX12_longest_284 rfl rfl (Nat.le_of_ble_eq_true rfl) rfl ?_
    refine j_goto (pc := 287) (t := 227) dX12_longest_287 (by decide) ?_
    refine j_sub [1, 2, 3, 4, 5, 6, 0] rfl ?_
    exact H
  · replace H := H.2 c245
    refine j_aload_n (pc := 248) dX12_longest_248 rfl ?_
    refine j_iload (pc := 249) dX12_longest_249 rfl ?_
    refine j_iload (pc := 251) dX12_longest_251 rfl ?_
    refine j_iload (pc := 253) dX12_longest_253 rfl ?_
    refine j_iload (pc := 255) dX12_longest_255 rfl ?_
    refine s_callV_i (pc := 257) (M1 := M_X12_can) (n := 4) (as := [.int x4, .int x5, .int x6, .int x7]) (a := 55) (st := []) dX12_longest_257 G_X12_can wm_X12_261 (by decide +kernel) rfl (Nat.le_of_ble_eq_true rfl) shp_55 rfl (by show 1 ≤ d; omega) (Nat.le_of_ble_eq_true rfl) (Nat.zero_le _) (Nat.zero_le _) ?_
    refine CI.mono H (fun r1 σ1 H => ?_)
    refine j_if_eq (pc := 260) (t := 278) dX12_longest_260 (by decide) (fun c260 => ?_) (fun c260 => ?_)
    · replace H := H.1 c260
      refine j_iinc (pc := 278) (k := 7) (v := x7 + 1) (lv1 := [(7, .int (x7 + 1)), (0, .ref 55), (1, .int x1), (2, .int x2), (3, .int x3), (4, .int x4), (5, .int x5), (6, .int x6)]) dX12_longest_278 rfl rfl (Nat.le_of_ble_eq_true rfl) rfl ?_
      refine j_goto (pc := 281) (t := 239) dX12_longest_281 (by decide) ?_
      refine j_sub [1, 2, 3, 4, 5, 6, 7, 0] rfl ?_
      exact H
    · replace H := H.2 c260
      refine j_aload_n (pc := 263) dX12_longest_263 rfl ?_
      refine j_iload (pc := 264) dX12_longest_264 rfl ?_
      refine j_iload (pc := 266) dX12_longest_266 rfl ?_
      refine j_iload (pc := 268) dX12_longest_268 rfl ?_
      refine j_iload (pc := 270) dX12_longest_270 rfl ?_
      refine s_callS_i (pc := 272) (M1 := M_X12_swapped) (n := 3) (as := [.int x4, .int x6, .int x7]) (st := [.int x4, .ref 55]) dX12_longest_272 G_X12_swapped wm_X12_265 (by decide +kernel) rfl (Nat.le_of_ble_eq_true rfl) (by show 1 ≤ d; omega) (Nat.le_of_ble_eq_true rfl) ?_
      refine C_X12_swapped (d := d - 1) (by omega) ?_
      refine s_callV_v (pc := 275) (M1 := M_X12_leads) (n := 2) (as := [.int x4, .int ((((x4 &&& (((3 : Int32) <<< ((2 * x6) &&& 31)) ^^^ (-1))) ||| (((x4 >>> ((2 * x7) &&& 31)) &&& 3) <<< ((2 * x6) &&& 31))) &&& (((3 : Int32) <<< ((2 * x7) &&& 31)) ^^^ (-1))) ||| (((x4 >>> ((2 * x6) &&& 31)) &&& 3) <<< ((2 * x7) &&& 31)))]) (a := 55) (st := []) dX12_longest_275 G_X12_leads wm_X12_289 (by decide +kernel) rfl (Nat.le_of_ble_eq_true rfl) shp_55 rfl (by show 1 ≤ d; omega) (Nat.le_of_ble_eq_true rfl) (Nat.zero_le _) (Nat.zero_le _) ?_
      refine CV.mono H (fun σ2 H => ?_)
      refine j_iinc (pc := 278) (k := 7) (v := x7 + 1) (lv1 := [(7, .int (x7 + 1)), (0, .ref 55), (1, .int x1), (2, .int x2), (3, .int x3), (4, .int x4), (5, .int x5), (6, .int x6)]) dX12_longest_278 rfl rfl (Nat.le_of_ble_eq_true rfl) rfl ?_
      refine j_goto (pc := 281) (t := 239) dX12_longest_281 (by decide) ?_
      refine j_sub [1, 2, 3, 4, 5, 6, 7, 0] rfl ?_
      exact H
set_option maxRecDepth 20000 in
theorem b_X12_reach_0 {l : Launch} {g : am_G} {d : Nat} {σ : am_S} {k : Int32 → am_S → Prop}  {x1 : Int32} (hd : 1 ≤ d) (H : (((¬ x1 < 0 ∧ ¬ 2 < x1) → CV l g M_X12_findNow (d - 1) [.ref 55] σ (fun σ2 => CV l g M_X12_noGoal (d - 1) [.ref 55] σ2 (fun σ3 => CV l g M_X12_findAll (d - 1) [.ref 55, .int (rg σ3 3529), .int (-1)] σ3 (fun σ4 => ((¬ x1 = 0 → ((¬ x1 = 2 → JI l g M_X12_reach d 51 [(0, .ref 55), (1, .int x1), (2, .int 0), (3, .int 0)] [] σ4 k) ∧ (x1 = 2 → CI l g M_X12_longest (d - 1) [.ref 55] σ4 (fun r5 σ5 => k r5 σ5)))) ∧ (x1 = 0 → k (rg σ4 3560) σ4)))))) ∧ (¬ (¬ x1 < 0 ∧ ¬ 2 < x1) → k (-1) σ))) : CI l g M_X12_reach d [.ref 55, .int x1] σ k := by
  show J l g (M_X12_reach, d, 0, 0) 0 [(0, .ref 55), (1, .int x1)] [] (hp σ) 0 0 (kI k)
  refine j_iload_n (pc := 0) dX12_reach_0 rfl ?_
  refine j_iconst (pc := 1) (v := 0) dX12_reach_1 (by decide) ?_
  refine j_iconst (pc := 2) (v := 2) dX12_reach_2 (by decide) ?_
  refine s_callS_i (pc := 3) (M1 := M_X12_in) (n := 3) (as := [.int x1, .int 0, .int 2]) (st := []) dX12_reach_3 G_X12_in wm_X12_114 (by decide +kernel) rfl (Nat.le_of_ble_eq_true rfl) (by show 1 ≤ d; omega) (Nat.le_of_ble_eq_true rfl) ?_
  refine C_X12_in (d := d - 1) (by omega) ⟨fun c3 => ?_, fun c3 => ?_⟩
  · replace H := H.1 c3
    refine j_if_ne (pc := 6) (t := 11) dX12_reach_6 (by decide) (fun _ => ?_) (fun q => absurd q (by decide))
    refine j_aload_n (pc := 11) dX12_reach_11 rfl ?_
    refine s_callV_v (pc := 12) (M1 := M_X12_findNow) (n := 0) (as := []) (a := 55) (st := []) dX12_reach_12 G_X12_findNow wm_X12_258 (by decide +kernel) rfl (Nat.le_of_ble_eq_true rfl) shp_55 rfl (by show 1 ≤ d; omega) (Nat.le_of_ble_eq_true rfl) (Nat.zero_le _) (Nat.zero_le _) ?_
    refine CV.mono H (fun σ2 H => ?_)
    refine j_aload_n (pc := 15) dX12_reach_15 rfl ?_
    refine s_callV_v (pc := 16) (M1 := M_X12_noGoal) (n := 0) (as := []) (a := 55) (st := []) dX12_reach_16 G_X12_noGoal wm_X12_292 (by decide +kernel) rfl (Nat.le_of_ble_eq_true rfl) shp_55 rfl (by show 1 ≤ d; omega) (Nat.le_of_ble_eq_true rfl) (Nat.zero_le _) (Nat.zero_le _) ?_
    refine CV.mono H (fun σ3 H => ?_)
    refine j_aload_n (pc := 19) dX12_reach_19 rfl ?_
    refine j_aload_n (pc := 20) dX12_reach_20 rfl ?_
    refine s_geti (pc := 21) 3529 (rg σ3 3529) dX12_reach_21 fl_X12_128 shp_55 rfl rfl rfl ?_
    refine j_iconst (pc := 24) (v := -1) dX12_reach_24 (by decide) ?_
    refine s_callV_v (pc := 25) (M1 := M_X12_findAll) (n := 2) (as := [.int (rg σ3 3529), .int (-1)]) (a := 55) (st := []) dX12_reach_25 G_X12_findAll wm_X12_295 (by decide +kernel) rfl (Nat.le_of_ble_eq_true rfl) shp_55 rfl (by show 1 ≤ d; omega) (Nat.le_of_ble_eq_true rfl) (Nat.zero_le _) (Nat.zero_le _) ?_
    refine CV.mono H (fun σ4 H => ?_)
    refine j_iload_n (pc := 28) dX12_reach_28 rfl ?_
    refine j_if_ne (pc := 29) (t := 37) dX12_reach_29 (by decide) (fun c29 => ?_) (fun c29 => ?_)
    · replace H := H.1 c29
      refine j_iload_n (pc := 37) dX12_reach_37 rfl ?_
      refine j_iconst (pc := 38) (v := 2) dX12_reach_38 (by decide) ?_
      refine j_icmp_ne (pc := 39) (t := 47) dX12_reach_39 (by decide) (fun c39 => ?_) (fun c39 => ?_)
      · replace H := H.1 c39
        refine j_iconst (pc := 47) (v := 0) dX12_reach_47 (by decide) ?_
        refine j_istore_n (pc := 48) (lv1 := [(2, .int 0), (0, .ref 55), (1, .int x1)]) dX12_reach_48 (Nat.le_of_ble_eq_true rfl) rfl ?_
        refine j_iconst (pc := 49) (v := 0) dX12_reach_49 (by decide) ?_
        refine j_istore_n (pc := 50) (lv1 := [(3, .int 0), (2, .int 0), (0, .ref 55), (1, .int x1)]) dX12_reach_50 (Nat.le_of_ble_eq_true rfl) rfl ?_
        refine j_sub [2, 3, 1, 0] rfl ?_
        exact H
      · replace H := H.2 c39
        refine j_aload_n (pc := 42) dX12_reach_42 rfl ?_
        refine s_callV_i (pc := 43) (M1 := M_X12_longest) (n := 0) (as := []) (a := 55) (st := []) dX12_reach_43 G_X12_longest wm_X12_298 (by decide +kernel) rfl (Nat.le_of_ble_eq_true rfl) shp_55 rfl (by show 1 ≤ d; omega) (Nat.le_of_ble_eq_true rfl) (Nat.zero_le _) (Nat.zero_le _) ?_
        refine CI.mono H (fun r5 σ5 H => ?_)
        exact s_ireti (pc := 46) dX12_reach_46 rfl H
    · replace H := H.2 c29
      refine j_aload_n (pc := 32) dX12_reach_32 rfl ?_
      refine s_geti (pc := 33) 3560 (rg σ4 3560) dX12_reach_33 fl_X12_274 shp_55 rfl rfl rfl ?_
      exact s_ireti (pc := 36) dX12_reach_36 rfl H
  · replace H := H.2 c3
    refine j_if_ne (pc := 6) (t := 11) dX12_reach_6 (by decide) (fun q => absurd q (by decide)) (fun _ => ?_)
    refine j_iconst (pc := 9) (v := -1) dX12_reach_9 (by decide) ?_
    exact s_ireti (pc := 10) dX12_reach_10 rfl H
set_option maxRecDepth 20000 in
theorem b_X12_reach_51 {l : Launch} {g : am_G} {d : Nat} {σ : am_S} {k : Int32 → am_S → Prop}  {x1 x2 x3 : Int32} (hd : 1 ≤ d) (H : ((rg σ 3560 ≤ x3 → k x2 σ) ∧ (¬ rg σ 3560 ≤ x3 → (vp_in x3 16384 ∧ CI l g M_X12_isRest (d - 1) [.ref 55, .int (ar σ 77 x3.toNatClampNeg)] σ (fun r1 σ1 => ((r1 = 0 → JI l g M_X12_reach d 51 [(0, .ref 55), (1, .int x1), (2, .int x2), (3, .int (x3 + 1))] [] σ1 k) ∧ (¬ r1 = 0 → JI l g M_X12_reach d 51 [(0, .ref 55), (1, .int x1), (2, .int (x2 + 1)), (3, .int (x3 + 1))] [] σ1 k))))))) : JI l g M_X12_reach d 51 [(0, .ref 55), (1, .int x1), (2, .int x2), (3, .int x3)] [] σ k := by
  show J l g (M_X12_reach, d, 0, 0) 51 [(0, .ref 55), (1, .int x1), (2, .int x2), (3, .int x3)] [] (hp σ) 0 0 (kI k)
  refine j_iload_n (pc := 51) dX12_reach_51 rfl ?_
  refine j_aload_n (pc := 52) dX12_reach_52 rfl ?_
  refine s_geti (pc := 53) 3560 (rg σ 3560) dX12_reach_53 fl_X12_274 shp_55 rfl rfl rfl ?_
  refine j_icmp_ge (pc := 56) (t := 81) dX12_reach_56 (by decide) (fun c56 => ?_) (fun c56 => ?_)
  · replace H := H.1 c56
    refine j_iload_n (pc := 81) dX12_reach_81 rfl ?_
    exact s_ireti (pc := 82) dX12_reach_82 rfl H
  · replace H := H.2 c56
    refine j_aload_n (pc := 59) dX12_reach_59 rfl ?_
    refine j_aload_n (pc := 60) dX12_reach_60 rfl ?_
    refine s_getr (pc := 61) dX12_reach_61 fl_X12_83 shp_55 rfl ?_
    refine j_iload_n (pc := 64) dX12_reach_64 rfl ?_
    have b65 := H.1
    replace H := H.2
    refine s_sald (pc := 65) (ar σ 77 x3.toNatClampNeg) dX12_reach_65 shp_77 b65 rfl ?_
    refine s_callV_i (pc := 66) (M1 := M_X12_isRest) (n := 1) (as := [.int (ar σ 77 x3.toNatClampNeg)]) (a := 55) (st := []) dX12_reach_66 G_X12_isRest wm_X12_301 (by decide +kernel) rfl (Nat.le_of_ble_eq_true rfl) shp_55 rfl (by show 1 ≤ d; omega) (Nat.le_of_ble_eq_true rfl) (Nat.zero_le _) (Nat.zero_le _) ?_
    refine CI.mono H (fun r1 σ1 H => ?_)
    refine j_if_eq (pc := 69) (t := 75) dX12_reach_69 (by decide) (fun c69 => ?_) (fun c69 => ?_)
    · replace H := H.1 c69
      refine j_iinc (pc := 75) (k := 3) (v := x3 + 1) (lv1 := [(3, .int (x3 + 1)), (0, .ref 55), (1, .int x1), (2, .int x2)]) dX12_reach_75 rfl rfl (Nat.le_of_ble_eq_true rfl) rfl ?_
      refine j_goto (pc := 78) (t := 51) dX12_reach_78 (by decide) ?_
      refine j_sub [1, 2, 3, 0] rfl ?_
      exact H
    · replace H := H.2 c69
      refine j_iinc (pc := 72) (k := 2) (v := x2 + 1) (lv1 := [(2, .int (x2 + 1)), (0, .ref 55), (1, .int x1), (3, .int x3)]) dX12_reach_72 rfl rfl (Nat.le_of_ble_eq_true rfl) rfl ?_
      refine j_iinc (pc := 75) (k := 3) (v := x3 + 1) (lv1 := [(3, .int (x3 + 1)), (2, .int (x2 + 1)), (0, .ref 55), (1, .int x1)]) dX12_reach_75 rfl rfl (Nat.le_of_ble_eq_true rfl) rfl ?_
      refine j_goto (pc := 78) (t := 51) dX12_reach_78 (by decide) ?_
      refine j_sub [2, 3, 1, 0] rfl ?_
      exact H
set_option maxRecDepth 20000 in
theorem b_X12_canBe_0 {l : Launch} {g : am_G} {d : Nat} {σ : am_S} {k : Int32 → am_S → Prop}  {x1 : Int32} (hd : 2 ≤ d) (H : ((((¬ x1 < 0 ∧ ¬ (rg σ 3526) - 1 < x1)) → CV l g M_X12_findNow (d - 1) [.ref 55] σ (fun σ2 => CV l g M_X12_noGoal (d - 1) [.ref 55] σ2 (fun σ3 => CV l g M_X12_findAll (d - 1) [.ref 55, .int (rg σ3 3529), .int (-1)] σ3 (fun σ4 => JI l g M_X12_canBe d 31 [(0, .ref 55), (1, .int x1), (2, .int 0), (3, .int 0)] [] σ4 k)))) ∧ (¬ ((¬ x1 < 0 ∧ ¬ (rg σ 3526) - 1 < x1)) → k (-1) σ))) : CI l g M_X12_canBe d [.ref 55, .int x1] σ k := by
  show J l g (M_X12_canBe, d, 0, 0) 0 [(0, .ref 55), (1, .int x1)] [] (hp σ) 0 0 (kI k)
  refine j_aload_n (pc := 0) dX12_canBe_0 rfl ?_
  refine j_iload_n (pc := 1) dX12_canBe_1 rfl ?_
  refine s_callV_i (pc := 2) (M1 := M_X12_isPerson) (n := 1) (as := [.int x1]) (a := 55) (st := []) dX12_canBe_2 G_X12_isPerson wm_X12_155 (by decide +kernel) rfl (Nat.le_of_ble_eq_true rfl) shp_55 rfl (by show 1 ≤ d; omega) (Nat.le_of_ble_eq_true rfl) (Nat.zero_le _) (Nat.zero_le _) ?_
  refine C_X12_isPerson (d := d - 1) (by omega) ⟨fun c2 => ?_, fun c2 => ?_⟩
  · replace H := H.1 c2
    refine j_if_ne (pc := 5) (t := 10) dX12_canBe_5 (by decide) (fun _ => ?_) (fun q => absurd q (by decide))
    refine j_aload_n (pc := 10) dX12_canBe_10 rfl ?_
    refine s_callV_v (pc := 11) (M1 := M_X12_findNow) (n := 0) (as := []) (a := 55) (st := []) dX12_canBe_11 G_X12_findNow wm_X12_258 (by decide +kernel) rfl (Nat.le_of_ble_eq_true rfl) shp_55 rfl (by show 1 ≤ d; omega) (Nat.le_of_ble_eq_true rfl) (Nat.zero_le _) (Nat.zero_le _) ?_
    refine CV.mono H (fun σ2 H => ?_)
    refine j_aload_n (pc := 14) dX12_canBe_14 rfl ?_
    refine s_callV_v (pc := 15) (M1 := M_X12_noGoal) (n := 0) (as := []) (a := 55) (st := []) dX12_canBe_15 G_X12_noGoal wm_X12_292 (by decide +kernel) rfl (Nat.le_of_ble_eq_true rfl) shp_55 rfl (by show 1 ≤ d; omega) (Nat.le_of_ble_eq_true rfl) (Nat.zero_le _) (Nat.zero_le _) ?_
    refine CV.mono H (fun σ3 H => ?_)
    refine j_aload_n (pc := 18) dX12_canBe_18 rfl ?_
    refine j_aload_n (pc := 19) dX12_canBe_19 rfl ?_
    refine s_geti (pc := 20) 3529 (rg σ3 3529) dX12_canBe_20 fl_X12_128 shp_55 rfl rfl rfl ?_
    refine j_iconst (pc := 23) (v := -1) dX12_canBe_23 (by decide) ?_
    refine s_callV_v (pc := 24) (M1 := M_X12_findAll) (n := 2) (as := [.int (rg σ3 3529), .int (-1)]) (a := 55) (st := []) dX12_canBe_24 G_X12_findAll wm_X12_295 (by decide +kernel) rfl (Nat.le_of_ble_eq_true rfl) shp_55 rfl (by show 1 ≤ d; omega) (Nat.le_of_ble_eq_true rfl) (Nat.zero_le _) (Nat.zero_le _) ?_
    refine CV.mono H (fun σ4 H => ?_)
    refine j_iconst (pc := 27) (v := 0) dX12_canBe_27 (by decide) ?_
    refine j_istore_n (pc := 28) (lv1 := [(2, .int 0), (0, .ref 55), (1, .int x1)]) dX12_canBe_28 (Nat.le_of_ble_eq_true rfl) rfl ?_
    refine j_iconst (pc := 29) (v := 0) dX12_canBe_29 (by decide) ?_
    refine j_istore_n (pc := 30) (lv1 := [(3, .int 0), (2, .int 0), (0, .ref 55), (1, .int x1)]) dX12_canBe_30 (Nat.le_of_ble_eq_true rfl) rfl ?_
    refine j_sub [2, 3, 1, 0] rfl ?_
    exact H
  · replace H := H.2 c2
    refine j_if_ne (pc := 5) (t := 10) dX12_canBe_5 (by decide) (fun q => absurd q (by decide)) (fun _ => ?_)
    refine j_iconst (pc := 8) (v := -1) dX12_canBe_8 (by decide) ?_
    exact s_ireti (pc := 9) dX12_canBe_9 rfl H
set_option maxRecDepth 20000 in
theorem b_X12_canBe_31 {l : Launch} {g : am_G} {d : Nat} {σ : am_S} {k : Int32 → am_S → Prop}  {x1 x2 x3 : Int32} (hd : 1 ≤ d) (H : ((rg σ 3560 ≤ x3 → k x2 σ) ∧ (¬ rg σ 3560 ≤ x3 → (vp_in x3 16384 ∧ (∀ x2_1 : Int32, x2_1 = x2 ||| ((1 : Int32) <<< ((((ar σ 77 x3.toNatClampNeg) >>> ((2 * x1) &&& 31)) &&& 3) &&& 31)) → JI l g M_X12_canBe d 31 [(0, .ref 55), (1, .int x1), (2, .int x2_1), (3, .int (x3 + 1))] [] σ k))))) : JI l g M_X12_canBe d 31 [(0, .ref 55), (1, .int x1), (2, .int x2), (3, .int x3)] [] σ k := by
  show J l g (M_X12_canBe, d, 0, 0) 31 [(0, .ref 55), (1, .int x1), (2, .int x2), (3, .int x3)] [] (hp σ) 0 0 (kI k)
  refine j_iload_n (pc := 31) dX12_canBe_31 rfl ?_
  refine j_aload_n (pc := 32) dX12_canBe_32 rfl ?_
  refine s_geti (pc := 33) 3560 (rg σ 3560) dX12_canBe_33 fl_X12_274 shp_55 rfl rfl rfl ?_
  refine j_icmp_ge (pc := 36) (t := 60) dX12_canBe_36 (by decide) (fun c36 => ?_) (fun c36 => ?_)
  · replace H := H.1 c36
    refine j_iload_n (pc := 60) dX12_canBe_60 rfl ?_
    exact s_ireti (pc := 61) dX12_canBe_61 rfl H
  · replace H := H.2 c36
    refine j_iload_n (pc := 39) dX12_canBe_39 rfl ?_
    refine j_iconst (pc := 40) (v := 1) dX12_canBe_40 (by decide) ?_
    refine j_aload_n (pc := 41) dX12_canBe_41 rfl ?_
    refine s_getr (pc := 42) dX12_canBe_42 fl_X12_83 shp_55 rfl ?_
    refine j_iload_n (pc := 45) dX12_canBe_45 rfl ?_
    have b46 := H.1
    replace H := H.2
    refine s_sald (pc := 46) (ar σ 77 x3.toNatClampNeg) dX12_canBe_46 shp_77 b46 rfl ?_
    refine j_iload_n (pc := 47) dX12_canBe_47 rfl ?_
    refine s_callS_i (pc := 48) (M1 := M_X12_roomIn) (n := 2) (as := [.int (ar σ 77 x3.toNatClampNeg), .int x1]) (st := [.int 1, .int x2]) dX12_canBe_48 G_X12_roomIn wm_X12_165 (by decide +kernel) rfl (Nat.le_of_ble_eq_true rfl) (by show 1 ≤ d; omega) (Nat.le_of_ble_eq_true rfl) ?_
    refine C_X12_roomIn (d := d - 1) (by omega) ?_
    refine j_ishl (pc := 51) dX12_canBe_51 ?_
    refine j_ior (pc := 52) dX12_canBe_52 ?_
    refine j_topi (fun x2_1 ex2_1 => ?_)
    replace H := H x2_1 ex2_1
    refine j_istore_n (pc := 53) (lv1 := [(2, .int x2_1), (0, .ref 55), (1, .int x1), (3, .int x3)]) dX12_canBe_53 (Nat.le_of_ble_eq_true rfl) rfl ?_
    refine j_iinc (pc := 54) (k := 3) (v := x3 + 1) (lv1 := [(3, .int (x3 + 1)), (2, .int x2_1), (0, .ref 55), (1, .int x1)]) dX12_canBe_54 rfl rfl (Nat.le_of_ble_eq_true rfl) rfl ?_
    refine j_goto (pc := 57) (t := 31) dX12_canBe_57 (by decide) ?_
    refine j_sub [2, 3, 1, 0] rfl ?_
    exact H
set_option maxRecDepth 20000 in
theorem C_X12_isGoal {l : Launch} {g : am_G} {d : Nat} {σ : am_S} {k : Int32 → am_S → Prop}  {x1 x2 : Int32} (hd : 2 ≤ d) (H : ((¬ x1 ≤ 0 ∧ x1 >>> ((rg σ 3526) &&& 31) = 0 ∧ (¬ x2 < 0 ∧ ¬ (rg σ 3521) - 1 < x2)) → k 1 σ) ∧ (¬ (¬ x1 ≤ 0 ∧ x1 >>> ((rg σ 3526) &&& 31) = 0 ∧ (¬ x2 < 0 ∧ ¬ (rg σ 3521) - 1 < x2)) → k 0 σ)) : CI l g M_X12_isGoal d [.ref 55, .int x1, .int x2] σ k := by
  show J l g (M_X12_isGoal, d, 0, 0) 0 [(0, .ref 55), (1, .int x1), (2, .int x2)] [] (hp σ) 0 0 (kI k)
  refine j_iload_n (pc := 0) dX12_isGoal_0 rfl ?_
  refine j_if_le (pc := 1) (t := 25) dX12_isGoal_1 (by decide) (fun c1 => ?_) (fun c1 => ?_)
  · skip
    refine j_iconst (pc := 25) (v := 0) dX12_isGoal_25 (by decide) ?_
    exact s_iretz (pc := 26) dX12_isGoal_26 rfl rfl (H.2 (fun q => (q.1) c1))
  · skip
    refine j_iload_n (pc := 4) dX12_isGoal_4 rfl ?_
    refine j_aload_n (pc := 5) dX12_isGoal_5 rfl ?_
    refine s_geti (pc := 6) 3526 (rg σ 3526) dX12_isGoal_6 fl_X12_121 shp_55 rfl rfl rfl ?_
    refine j_ishr (pc := 9) dX12_isGoal_9 ?_
    refine j_if_ne (pc := 10) (t := 25) dX12_isGoal_10 (by decide) (fun c10 => ?_) (fun c10 => ?_)
    · skip
      refine j_iconst (pc := 25) (v := 0) dX12_isGoal_25 (by decide) ?_
      exact s_iretz (pc := 26) dX12_isGoal_26 rfl rfl (H.2 (fun q => c10 (q.2.1)))
    · skip
      refine j_aload_n (pc := 13) dX12_isGoal_13 rfl ?_
      refine j_iload_n (pc := 14) dX12_isGoal_14 rfl ?_
      refine s_callV_i (pc := 15) (M1 := M_X12_isRoom) (n := 1) (as := [.int x2]) (a := 55) (st := []) dX12_isGoal_15 G_X12_isRoom wm_X12_124 (by decide +kernel) rfl (Nat.le_of_ble_eq_true rfl) shp_55 rfl (by show 1 ≤ d; omega) (Nat.le_of_ble_eq_true rfl) (Nat.zero_le _) (Nat.zero_le _) ?_
      refine C_X12_isRoom (d := d - 1) (by omega) ⟨fun c15 => ?_, fun c15 => ?_⟩
      · skip
        refine j_if_eq (pc := 18) (t := 25) dX12_isGoal_18 (by decide) (fun q => absurd q (by decide)) (fun _ => ?_)
        refine j_iconst (pc := 21) (v := 1) dX12_isGoal_21 (by decide) ?_
        refine j_goto (pc := 22) (t := 26) dX12_isGoal_22 (by decide) ?_
        exact s_iretz (pc := 26) dX12_isGoal_26 rfl rfl (H.1 ⟨c1, c10, c15⟩)
      · skip
        refine j_if_eq (pc := 18) (t := 25) dX12_isGoal_18 (by decide) (fun _ => ?_) (fun q => absurd q (by decide))
        refine j_iconst (pc := 25) (v := 0) dX12_isGoal_25 (by decide) ?_
        exact s_iretz (pc := 26) dX12_isGoal_26 rfl rfl (H.2 (fun q => c15 (q.2.2)))
set_option maxRecDepth 20000 in
theorem b_X12_fewest_0 {l : Launch} {g : am_G} {d : Nat} {σ : am_S} {k : Int32 → am_S → Prop}  {x1 x2 x3 : Int32} (hd : 3 ≤ d) (H : (((¬ x1 ≤ 0 ∧ x1 >>> ((rg σ 3526) &&& 31) = 0 ∧ (¬ x2 < 0 ∧ ¬ (rg σ 3521) - 1 < x2)) → ((x3 = (-1) → CV l g M_X12_findNow (d - 1) [.ref 55] σ (fun σ2 => CV l g M_X12_goal (d - 1) [.ref 55, .int x1, .int x2] σ2 (fun σ3 => CV l g M_X12_findAll (d - 1) [.ref 55, .int (rg σ3 3529), .int x3] σ3 (fun σ4 => ((0 ≤ rg σ4 3563 → k (rg σ4 3563) σ4) ∧ (¬ 0 ≤ rg σ4 3563 → k (-2) σ4)))))) ∧ (¬ x3 = (-1) → ((((¬ x3 < 0 ∧ ¬ (rg σ 3526) - 1 < x3)) → CV l g M_X12_findNow (d - 1) [.ref 55] σ (fun σ6 => CV l g M_X12_goal (d - 1) [.ref 55, .int x1, .int x2] σ6 (fun σ7 => CV l g M_X12_findAll (d - 1) [.ref 55, .int (rg σ7 3529), .int x3] σ7 (fun σ8 => ((0 ≤ rg σ8 3563 → k (rg σ8 3563) σ8) ∧ (¬ 0 ≤ rg σ8 3563 → k (-2) σ8)))))) ∧ (¬ ((¬ x3 < 0 ∧ ¬ (rg σ 3526) - 1 < x3)) → k (-1) σ))))) ∧ (¬ (¬ x1 ≤ 0 ∧ x1 >>> ((rg σ 3526) &&& 31) = 0 ∧ (¬ x2 < 0 ∧ ¬ (rg σ 3521) - 1 < x2)) → k (-1) σ))) : CI l g M_X12_fewest d [.ref 55, .int x1, .int x2, .int x3] σ k := by
  show J l g (M_X12_fewest, d, 0, 0) 0 [(0, .ref 55), (1, .int x1), (2, .int x2), (3, .int x3)] [] (hp σ) 0 0 (kI k)
  refine j_aload_n (pc := 0) dX12_fewest_0 rfl ?_
  refine j_iload_n (pc := 1) dX12_fewest_1 rfl ?_
  refine j_iload_n (pc := 2) dX12_fewest_2 rfl ?_
  refine s_callV_i (pc := 3) (M1 := M_X12_isGoal) (n := 2) (as := [.int x1, .int x2]) (a := 55) (st := []) dX12_fewest_3 G_X12_isGoal wm_X12_304 (by decide +kernel) rfl (Nat.le_of_ble_eq_true rfl) shp_55 rfl (by show 1 ≤ d; omega) (Nat.le_of_ble_eq_true rfl) (Nat.zero_le _) (Nat.zero_le _) ?_
  refine C_X12_isGoal (d := d - 1) (by omega) ⟨fun c3 => ?_, fun c3 => ?_⟩
  · replace H := H.1 c3
    refine j_if_eq (pc := 6) (t := 22) dX12_fewest_6 (by decide) (fun q => absurd q (by decide)) (fun _ => ?_)
    refine j_iload_n (pc := 9) dX12_fewest_9 rfl ?_
    refine j_iconst (pc := 10) (v := -1) dX12_fewest_10 (by decide) ?_
    refine j_icmp_eq (pc := 11) (t := 24) dX12_fewest_11 (by decide) (fun c11 => ?_) (fun c11 => ?_)
    · replace H := H.1 c11
      refine j_aload_n (pc := 24) dX12_fewest_24 rfl ?_
      refine s_callV_v (pc := 25) (M1 := M_X12_findNow) (n := 0) (as := []) (a := 55) (st := []) dX12_fewest_25 G_X12_findNow wm_X12_258 (by decide +kernel) rfl (Nat.le_of_ble_eq_true rfl) shp_55 rfl (by show 1 ≤ d; omega) (Nat.le_of_ble_eq_true rfl) (Nat.zero_le _) (Nat.zero_le _) ?_
      refine CV.mono H (fun σ2 H => ?_)
      refine j_aload_n (pc := 28) dX12_fewest_28 rfl ?_
      refine j_iload_n (pc := 29) dX12_fewest_29 rfl ?_
      refine j_iload_n (pc := 30) dX12_fewest_30 rfl ?_
      refine s_callV_v (pc := 31) (M1 := M_X12_goal) (n := 2) (as := [.int x1, .int x2]) (a := 55) (st := []) dX12_fewest_31 G_X12_goal wm_X12_308 (by decide +kernel) rfl (Nat.le_of_ble_eq_true rfl) shp_55 rfl (by show 1 ≤ d; omega) (Nat.le_of_ble_eq_true rfl) (Nat.zero_le _) (Nat.zero_le _) ?_
      refine CV.mono H (fun σ3 H => ?_)
      refine j_aload_n (pc := 34) dX12_fewest_34 rfl ?_
      refine j_aload_n (pc := 35) dX12_fewest_35 rfl ?_
      refine s_geti (pc := 36) 3529 (rg σ3 3529) dX12_fewest_36 fl_X12_128 shp_55 rfl rfl rfl ?_
      refine j_iload_n (pc := 39) dX12_fewest_39 rfl ?_
      refine s_callV_v (pc := 40) (M1 := M_X12_findAll) (n := 2) (as := [.int (rg σ3 3529), .int x3]) (a := 55) (st := []) dX12_fewest_40 G_X12_findAll wm_X12_295 (by decide +kernel) rfl (Nat.le_of_ble_eq_true rfl) shp_55 rfl (by show 1 ≤ d; omega) (Nat.le_of_ble_eq_true rfl) (Nat.zero_le _) (Nat.zero_le _) ?_
      refine CV.mono H (fun σ4 H => ?_)
      refine j_aload_n (pc := 43) dX12_fewest_43 rfl ?_
      refine s_geti (pc := 44) 3563 (rg σ4 3563) dX12_fewest_44 fl_X12_277 shp_55 rfl rfl rfl ?_
      refine j_if_ge (pc := 47) (t := 55) dX12_fewest_47 (by decide) (fun c47 => ?_) (fun c47 => ?_)
      · replace H := H.1 c47
        refine j_aload_n (pc := 55) dX12_fewest_55 rfl ?_
        refine s_geti (pc := 56) 3563 (rg σ4 3563) dX12_fewest_56 fl_X12_277 shp_55 rfl rfl rfl ?_
        exact s_ireti (pc := 59) dX12_fewest_59 rfl H
      · replace H := H.2 c47
        refine j_bipush (pc := 50) (v := -2) dX12_fewest_50 (by decide) ?_
        refine j_goto (pc := 52) (t := 59) dX12_fewest_52 (by decide) ?_
        exact s_ireti (pc := 59) dX12_fewest_59 rfl H
    · replace H := H.2 c11
      refine j_aload_n (pc := 14) dX12_fewest_14 rfl ?_
      refine j_iload_n (pc := 15) dX12_fewest_15 rfl ?_
      refine s_callV_i (pc := 16) (M1 := M_X12_isPerson) (n := 1) (as := [.int x3]) (a := 55) (st := []) dX12_fewest_16 G_X12_isPerson wm_X12_155 (by decide +kernel) rfl (Nat.le_of_ble_eq_true rfl) shp_55 rfl (by show 1 ≤ d; omega) (Nat.le_of_ble_eq_true rfl) (Nat.zero_le _) (Nat.zero_le _) ?_
      refine C_X12_isPerson (d := d - 1) (by omega) ⟨fun c16 => ?_, fun c16 => ?_⟩
      · replace H := H.1 c16
        refine j_if_ne (pc := 19) (t := 24) dX12_fewest_19 (by decide) (fun _ => ?_) (fun q => absurd q (by decide))
        refine j_aload_n (pc := 24) dX12_fewest_24 rfl ?_
        refine s_callV_v (pc := 25) (M1 := M_X12_findNow) (n := 0) (as := []) (a := 55) (st := []) dX12_fewest_25 G_X12_findNow wm_X12_258 (by decide +kernel) rfl (Nat.le_of_ble_eq_true rfl) shp_55 rfl (by show 1 ≤ d; omega) (Nat.le_of_ble_eq_true rfl) (Nat.zero_le _) (Nat.zero_le _) ?_
        refine CV.mono H (fun σ6 H => ?_)
        refine j_aload_n (pc := 28) dX12_fewest_28 rfl ?_
        refine j_iload_n (pc := 29) dX12_fewest_29 rfl ?_
        refine j_iload_n (pc := 30) dX12_fewest_30 rfl ?_
        refine s_callV_v (pc := 31) (M1 := M_X12_goal) (n := 2) (as := [.int x1, .int x2]) (a := 55) (st := []) dX12_fewest_31 G_X12_goal wm_X12_308 (by decide +kernel) rfl (Nat.le_of_ble_eq_true rfl) shp_55 rfl (by show 1 ≤ d; omega) (Nat.le_of_ble_eq_true rfl) (Nat.zero_le _) (Nat.zero_le _) ?_
        refine CV.mono H (fun σ7 H => ?_)
        refine j_aload_n (pc := 34) dX12_fewest_34 rfl ?_
        refine j_aload_n (pc := 35) dX12_fewest_35 rfl ?_
        refine s_geti (pc := 36) 3529 (rg σ7 3529) dX12_fewest_36 fl_X12_128 shp_55 rfl rfl rfl ?_
        refine j_iload_n (pc := 39) dX12_fewest_39 rfl ?_
        refine s_callV_v (pc := 40) (M1 := M_X12_findAll) (n := 2) (as := [.int (rg σ7 3529), .int x3]) (a := 55) (st := []) dX12_fewest_40 G_X12_findAll wm_X12_295 (by decide +kernel) rfl (Nat.le_of_ble_eq_true rfl) shp_55 rfl (by show 1 ≤ d; omega) (Nat.le_of_ble_eq_true rfl) (Nat.zero_le _) (Nat.zero_le _) ?_
        refine CV.mono H (fun σ8 H => ?_)
        refine j_aload_n (pc := 43) dX12_fewest_43 rfl ?_
        refine s_geti (pc := 44) 3563 (rg σ8 3563) dX12_fewest_44 fl_X12_277 shp_55 rfl rfl rfl ?_
        refine j_if_ge (pc := 47) (t := 55) dX12_fewest_47 (by decide) (fun c47 => ?_) (fun c47 => ?_)
        · replace H := H.1 c47
          refine j_aload_n (pc := 55) dX12_fewest_55 rfl ?_
          refine s_geti (pc := 56) 3563 (rg σ8 3563) dX12_fewest_56 fl_X12_277 shp_55 rfl rfl rfl ?_
          exact s_ireti (pc := 59) dX12_fewest_59 rfl H
        · replace H := H.2 c47
          refine j_bipush (pc := 50) (v := -2) dX12_fewest_50 (by decide) ?_
          refine j_goto (pc := 52) (t := 59) dX12_fewest_52 (by decide) ?_
          exact s_ireti (pc := 59) dX12_fewest_59 rfl H
      · replace H := H.2 c16
        refine j_if_ne (pc := 19) (t := 24) dX12_fewest_19 (by decide) (fun q => absurd q (by decide)) (fun _ => ?_)
        refine j_iconst (pc := 22) (v := -1) dX12_fewest_22 (by decide) ?_
        exact s_ireti (pc := 23) dX12_fewest_23 rfl H
  · replace H := H.2 c3
    refine j_if_eq (pc := 6) (t := 22) dX12_fewest_6 (by decide) (fun _ => ?_) (fun q => absurd q (by decide))
    refine j_iconst (pc := 22) (v := -1) dX12_fewest_22 (by decide) ?_
    exact s_ireti (pc := 23) dX12_fewest_23 rfl H
set_option maxRecDepth 20000 in
theorem b_X12_first_0 {l : Launch} {g : am_G} {d : Nat} {σ : am_S} {k : Int32 → am_S → Prop}  {x1 x2 : Int32} (hd : 3 ≤ d) (H : (((¬ x1 ≤ 0 ∧ x1 >>> ((rg σ 3526) &&& 31) = 0 ∧ (¬ x2 < 0 ∧ ¬ (rg σ 3521) - 1 < x2)) → CV l g M_X12_findNow (d - 1) [.ref 55] σ (fun σ2 => CV l g M_X12_goal (d - 1) [.ref 55, .int x1, .int x2] σ2 (fun σ3 => CV l g M_X12_findAll (d - 1) [.ref 55, .int (rg σ3 3529), .int (-1)] σ3 (fun σ4 => ((¬ rg σ4 3563 = 0 → ((0 ≤ rg σ4 3563 → JI l g M_X12_first d 52 [(0, .ref 55), (1, .int x1), (2, .int x2), (3, .int (rg σ4 3563)), (4, .int 0)] [] σ4 k) ∧ (¬ 0 ≤ rg σ4 3563 → k (-2) σ4))) ∧ (rg σ4 3563 = 0 → k (-5) σ4)))))) ∧ (¬ (¬ x1 ≤ 0 ∧ x1 >>> ((rg σ 3526) &&& 31) = 0 ∧ (¬ x2 < 0 ∧ ¬ (rg σ 3521) - 1 < x2)) → k (-1) σ))) : CI l g M_X12_first d [.ref 55, .int x1, .int x2] σ k := by
  show J l g (M_X12_first, d, 0, 0) 0 [(0, .ref 55), (1, .int x1), (2, .int x2)] [] (hp σ) 0 0 (kI k)
  refine j_aload_n (pc := 0) dX12_first_0 rfl ?_
  refine j_iload_n (pc := 1) dX12_first_1 rfl ?_
  refine j_iload_n (pc := 2) dX12_first_2 rfl ?_
  refine s_callV_i (pc := 3) (M1 := M_X12_isGoal) (n := 2) (as := [.int x1, .int x2]) (a := 55) (st := []) dX12_first_3 G_X12_isGoal wm_X12_304 (by decide +kernel) rfl (Nat.le_of_ble_eq_true rfl) shp_55 rfl (by show 1 ≤ d; omega) (Nat.le_of_ble_eq_true rfl) (Nat.zero_le _) (Nat.zero_le _) ?_
  refine C_X12_isGoal (d := d - 1) (by omega) ⟨fun c3 => ?_, fun c3 => ?_⟩
  · replace H := H.1 c3
    refine j_if_ne (pc := 6) (t := 11) dX12_first_6 (by decide) (fun _ => ?_) (fun q => absurd q (by decide))
    refine j_aload_n (pc := 11) dX12_first_11 rfl ?_
    refine s_callV_v (pc := 12) (M1 := M_X12_findNow) (n := 0) (as := []) (a := 55) (st := []) dX12_first_12 G_X12_findNow wm_X12_258 (by decide +kernel) rfl (Nat.le_of_ble_eq_true rfl) shp_55 rfl (by show 1 ≤ d; omega) (Nat.le_of_ble_eq_true rfl) (Nat.zero_le _) (Nat.zero_le _) ?_
    refine CV.mono H (fun σ2 H => ?_)
    refine j_aload_n (pc := 15) dX12_first_15 rfl ?_
    refine j_iload_n (pc := 16) dX12_first_16 rfl ?_
    refine j_iload_n (pc := 17) dX12_first_17 rfl ?_
    refine s_callV_v (pc := 18) (M1 := M_X12_goal) (n := 2) (as := [.int x1, .int x2]) (a := 55) (st := []) dX12_first_18 G_X12_goal wm_X12_308 (by decide +kernel) rfl (Nat.le_of_ble_eq_true rfl) shp_55 rfl (by show 1 ≤ d; omega) (Nat.le_of_ble_eq_true rfl) (Nat.zero_le _) (Nat.zero_le _) ?_
    refine CV.mono H (fun σ3 H => ?_)
    refine j_aload_n (pc := 21) dX12_first_21 rfl ?_
    refine j_aload_n (pc := 22) dX12_first_22 rfl ?_
    refine s_geti (pc := 23) 3529 (rg σ3 3529) dX12_first_23 fl_X12_128 shp_55 rfl rfl rfl ?_
    refine j_iconst (pc := 26) (v := -1) dX12_first_26 (by decide) ?_
    refine s_callV_v (pc := 27) (M1 := M_X12_findAll) (n := 2) (as := [.int (rg σ3 3529), .int (-1)]) (a := 55) (st := []) dX12_first_27 G_X12_findAll wm_X12_295 (by decide +kernel) rfl (Nat.le_of_ble_eq_true rfl) shp_55 rfl (by show 1 ≤ d; omega) (Nat.le_of_ble_eq_true rfl) (Nat.zero_le _) (Nat.zero_le _) ?_
    refine CV.mono H (fun σ4 H => ?_)
    refine j_aload_n (pc := 30) dX12_first_30 rfl ?_
    refine s_geti (pc := 31) 3563 (rg σ4 3563) dX12_first_31 fl_X12_277 shp_55 rfl rfl rfl ?_
    refine j_istore_n (pc := 34) (lv1 := [(3, .int (rg σ4 3563)), (0, .ref 55), (1, .int x1), (2, .int x2)]) dX12_first_34 (Nat.le_of_ble_eq_true rfl) rfl ?_
    refine j_iload_n (pc := 35) dX12_first_35 rfl ?_
    refine j_if_ne (pc := 36) (t := 42) dX12_first_36 (by decide) (fun c36 => ?_) (fun c36 => ?_)
    · replace H := H.1 c36
      refine j_iload_n (pc := 42) dX12_first_42 rfl ?_
      refine j_if_ge (pc := 43) (t := 49) dX12_first_43 (by decide) (fun c43 => ?_) (fun c43 => ?_)
      · replace H := H.1 c43
        refine j_iconst (pc := 49) (v := 0) dX12_first_49 (by decide) ?_
        refine j_istore (pc := 50) (lv1 := [(4, .int 0), (3, .int (rg σ4 3563)), (0, .ref 55), (1, .int x1), (2, .int x2)]) dX12_first_50 (Nat.le_of_ble_eq_true rfl) rfl ?_
        refine j_sub [2, 3, 4, 1, 0] rfl ?_
        exact H
      · replace H := H.2 c43
        refine j_bipush (pc := 46) (v := -2) dX12_first_46 (by decide) ?_
        exact s_ireti (pc := 48) dX12_first_48 rfl H
    · replace H := H.2 c36
      refine j_bipush (pc := 39) (v := -5) dX12_first_39 (by decide) ?_
      exact s_ireti (pc := 41) dX12_first_41 rfl H
  · replace H := H.2 c3
    refine j_if_ne (pc := 6) (t := 11) dX12_first_6 (by decide) (fun q => absurd q (by decide)) (fun _ => ?_)
    refine j_iconst (pc := 9) (v := -1) dX12_first_9 (by decide) ?_
    exact s_ireti (pc := 10) dX12_first_10 rfl H
set_option maxRecDepth 20000 in
theorem b_X12_first_52 {l : Launch} {g : am_G} {d : Nat} {σ : am_S} {k : Int32 → am_S → Prop}  {x1 x2 x3 x4 : Int32} (H : ((rg σ 3522 ≤ x4 → k (-2) σ) ∧ (¬ rg σ 3522 ≤ x4 → JI l g M_X12_first d 64 [(0, .ref 55), (1, .int x1), (2, .int x2), (3, .int x3), (4, .int x4), (5, .int 0)] [] σ k))) : JI l g M_X12_first d 52 [(0, .ref 55), (1, .int x1), (2, .int x2), (3, .int x3), (4, .int x4)] [] σ k := by
  show J l g (M_X12_first, d, 0, 0) 52 [(0, .ref 55), (1, .int x1), (2, .int x2), (3, .int x3), (4, .int x4)] [] (hp σ) 0 0 (kI k)
  refine j_iload (pc := 52) dX12_first_52 rfl ?_
  refine j_aload_n (pc := 54) dX12_first_54 rfl ?_
  refine s_geti (pc := 55) 3522 (rg σ 3522) dX12_first_55 fl_X12_118 shp_55 rfl rfl rfl ?_
  refine j_icmp_ge (pc := 58) (t := 164) dX12_first_58 (by decide) (fun c58 => ?_) (fun c58 => ?_)
  · replace H := H.1 c58
    refine j_bipush (pc := 164) (v := -2) dX12_first_164 (by decide) ?_
    exact s_ireti (pc := 166) dX12_first_166 rfl H
  · replace H := H.2 c58
    refine j_iconst (pc := 61) (v := 0) dX12_first_61 (by decide) ?_
    refine j_istore (pc := 62) (lv1 := [(5, .int 0), (0, .ref 55), (1, .int x1), (2, .int x2), (3, .int x3), (4, .int x4)]) dX12_first_62 (Nat.le_of_ble_eq_true rfl) rfl ?_
    refine j_sub [1, 2, 3, 4, 5, 0] rfl ?_
    exact H
set_option maxRecDepth 20000 in
theorem b_X12_first_64 {l : Launch} {g : am_G} {d : Nat} {σ : am_S} {k : Int32 → am_S → Prop}  {x1 x2 x3 x4 x5 : Int32} (H : ((rg σ 3526 ≤ x5 → JI l g M_X12_first d 52 [(0, .ref 55), (1, .int x1), (2, .int x2), (3, .int x3), (4, .int (x4 + 1))] [] σ k) ∧ (¬ rg σ 3526 ≤ x5 → JI l g M_X12_first d 76 [(0, .ref 55), (1, .int x1), (2, .int x2), (3, .int x3), (4, .int x4), (5, .int x5), (6, .int 0)] [] σ k))) : JI l g M_X12_first d 64 [(0, .ref 55), (1, .int x1), (2, .int x2), (3, .int x3), (4, .int x4), (5, .int x5)] [] σ k := by
  show J l g (M_X12_first, d, 0, 0) 64 [(0, .ref 55), (1, .int x1), (2, .int x2), (3, .int x3), (4, .int x4), (5, .int x5)] [] (hp σ) 0 0 (kI k)
  refine j_iload (pc := 64) dX12_first_64 rfl ?_
  refine j_aload_n (pc := 66) dX12_first_66 rfl ?_
  refine s_geti (pc := 67) 3526 (rg σ 3526) dX12_first_67 fl_X12_121 shp_55 rfl rfl rfl ?_
  refine j_icmp_ge (pc := 70) (t := 158) dX12_first_70 (by decide) (fun c70 => ?_) (fun c70 => ?_)
  · replace H := H.1 c70
    refine j_iinc (pc := 158) (k := 4) (v := x4 + 1) (lv1 := [(4, .int (x4 + 1)), (0, .ref 55), (1, .int x1), (2, .int x2), (3, .int x3), (5, .int x5)]) dX12_first_158 rfl rfl (Nat.le_of_ble_eq_true rfl) rfl ?_
    refine j_goto (pc := 161) (t := 52) dX12_first_161 (by decide) ?_
    refine j_sub [1, 2, 3, 4, 0] rfl ?_
    exact H
  · replace H := H.2 c70
    refine j_iconst (pc := 73) (v := 0) dX12_first_73 (by decide) ?_
    refine j_istore (pc := 74) (lv1 := [(6, .int 0), (0, .ref 55), (1, .int x1), (2, .int x2), (3, .int x3), (4, .int x4), (5, .int x5)]) dX12_first_74 (Nat.le_of_ble_eq_true rfl) rfl ?_
    refine j_sub [1, 2, 3, 4, 5, 6, 0] rfl ?_
    exact H
set_option maxRecDepth 20000 in
theorem b_X12_first_76 {l : Launch} {g : am_G} {d : Nat} {σ : am_S} {k : Int32 → am_S → Prop}  {x1 x2 x3 x4 x5 x6 : Int32} (hd : 2 ≤ d) (H : ((rg σ 3526 ≤ x6 → JI l g M_X12_first d 64 [(0, .ref 55), (1, .int x1), (2, .int x2), (3, .int x3), (4, .int x4), (5, .int (x5 + 1))] [] σ k) ∧ (¬ rg σ 3526 ≤ x6 → CI l g M_X12_can (d - 1) [.ref 55, .int (rg σ 3529), .int x4, .int x5, .int x6] σ (fun r1 σ1 => ((¬ r1 = 0 → CV l g M_X12_findAll (d - 1) [.ref 55, .int (((((rg σ1 3529) &&& (((3 : Int32) <<< ((2 * x5) &&& 31)) ^^^ (-1))) ||| ((((rg σ1 3529) >>> ((2 * x6) &&& 31)) &&& 3) <<< ((2 * x5) &&& 31))) &&& (((3 : Int32) <<< ((2 * x6) &&& 31)) ^^^ (-1))) ||| ((((rg σ1 3529) >>> ((2 * x5) &&& 31)) &&& 3) <<< ((2 * x6) &&& 31))), .int (-1)] σ1 (fun σ2 => ((¬ rg σ2 3563 = x3 - 1 → JI l g M_X12_first d 76 [(0, .ref 55), (1, .int x1), (2, .int x2), (3, .int x3), (4, .int x4), (5, .int x5), (6, .int (x6 + 1))] [] σ2 k) ∧ (rg σ2 3563 = x3 - 1 → k (((100 * x4) + (10 * x5)) + x6) σ2)))) ∧ (r1 = 0 → JI l g M_X12_first d 76 [(0, .ref 55), (1, .int x1), (2, .int x2), (3, .int x3), (4, .int x4), (5, .int x5), (6, .int (x6 + 1))] [] σ1 k)))))) : JI l g M_X12_first d 76 [(0, .ref 55), (1, .int x1), (2, .int x2), (3, .int x3), (4, .int x4), (5, .int x5), (6, .int x6)] [] σ k := by
  show J l g (M_X12_first, d, 0, 0) 76 [(0, .ref 55), (1, .int x1), (2, .int x2), (3, .int x3), (4, .int x4), (5, .int x5), (6, .int x6)] [] (hp σ) 0 0 (kI k)
  refine j_iload (pc := 76) dX12_first_76 rfl ?_
  refine j_aload_n (pc := 78) dX12_first_78 rfl ?_
  refine s_geti (pc := 79) 3526 (rg σ 3526) dX12_first_79 fl_X12_121 shp_55 rfl rfl rfl ?_
  refine j_icmp_ge (pc := 82) (t := 152) dX12_first_82 (by decide) (fun c82 => ?_) (fun c82 => ?_)
  · replace H := H.1 c82
    refine j_iinc (pc := 152) (k := 5) (v := x5 + 1) (lv1 := [(5, .int (x5 + 1)), (0, .ref 55), (1, .int x1), (2, .int x2), (3, .int x3), (4, .int x4), (6, .int x6)]) dX12_first_152 rfl rfl (Nat.le_of_ble_eq_true rfl) rfl ?_
    refine j_goto (pc := 155) (t := 64) dX12_first_155 (by decide) ?_
    refine j_sub [1, 2, 3, 4, 5, 0] rfl ?_
    exact H
  · replace H := H.2 c82
    refine j_aload_n (pc := 85) dX12_first_85 rfl ?_
    refine j_aload_n (pc := 86) dX12_first_86 rfl ?_
    refine s_geti (pc := 87) 3529 (rg σ 3529) dX12_first_87 fl_X12_128 shp_55 rfl rfl rfl ?_
    refine j_iload (pc := 90) dX12_first_90 rfl ?_
    refine j_iload (pc := 92) dX12_first_92 rfl ?_
    refine j_iload (pc := 94) dX12_first_94 rfl ?_
    refine s_callV_i (pc := 96) (M1 := M_X12_can) (n := 4) (as := [.int (rg σ 3529), .int x4, .int x5, .int x6]) (a := 55) (st := []) dX12_first_96 G_X12_can wm_X12_261 (by decide +kernel) rfl (Nat.le_of_ble_eq_true rfl) shp_55 rfl (by show 1 ≤ d; omega) (Nat.le_of_ble_eq_true rfl) (Nat.zero_le _) (Nat.zero_le _) ?_
    refine CI.mono H (fun r1 σ1 H => ?_)
    refine j_if_ne (pc := 99) (t := 105) dX12_first_99 (by decide) (fun c99 => ?_) (fun c99 => ?_)
    · replace H := H.1 c99
      refine j_aload_n (pc := 105) dX12_first_105 rfl ?_
      refine j_aload_n (pc := 106) dX12_first_106 rfl ?_
      refine s_geti (pc := 107) 3529 (rg σ1 3529) dX12_first_107 fl_X12_128 shp_55 rfl rfl rfl ?_
      refine j_iload (pc := 110) dX12_first_110 rfl ?_
      refine j_iload (pc := 112) dX12_first_112 rfl ?_
      refine s_callS_i (pc := 114) (M1 := M_X12_swapped) (n := 3) (as := [.int (rg σ1 3529), .int x5, .int x6]) (st := [.ref 55]) dX12_first_114 G_X12_swapped wm_X12_265 (by decide +kernel) rfl (Nat.le_of_ble_eq_true rfl) (by show 1 ≤ d; omega) (Nat.le_of_ble_eq_true rfl) ?_
      refine C_X12_swapped (d := d - 1) (by omega) ?_
      refine j_iconst (pc := 117) (v := -1) dX12_first_117 (by decide) ?_
      refine s_callV_v (pc := 118) (M1 := M_X12_findAll) (n := 2) (as := [.int (((((rg σ1 3529) &&& (((3 : Int32) <<< ((2 * x5) &&& 31)) ^^^ (-1))) ||| ((((rg σ1 3529) >>> ((2 * x6) &&& 31)) &&& 3) <<< ((2 * x5) &&& 31))) &&& (((3 : Int32) <<< ((2 * x6) &&& 31)) ^^^ (-1))) ||| ((((rg σ1 3529) >>> ((2 * x5) &&& 31)) &&& 3) <<< ((2 * x6) &&& 31))), .int (-1)]) (a := 55) (st := []) dX12_first_118 G_X12_findAll wm_X12_295 (by decide +kernel) rfl (Nat.le_of_ble_eq_true rfl) shp_55 rfl (by show 1 ≤ d; omega) (Nat.le_of_ble_eq_true rfl) (Nat.zero_le _) (Nat.zero_le _) ?_
      refine CV.mono H (fun σ2 H => ?_)
      refine j_aload_n (pc := 121) dX12_first_121 rfl ?_
      refine s_geti (pc := 122) 3563 (rg σ2 3563) dX12_first_122 fl_X12_277 shp_55 rfl rfl rfl ?_
      refine j_iload_n (pc := 125) dX12_first_125 rfl ?_
      refine j_iconst (pc := 126) (v := 1) dX12_first_126 (by decide) ?_
      refine j_isub (pc := 127) dX12_first_127 ?_
      refine j_icmp_ne (pc := 128) (t := 146) dX12_first_128 (by decide) (fun c128 => ?_) (fun c128 => ?_)
      · replace H := H.1 c128
        refine j_iinc (pc := 146) (k := 6) (v := x6 + 1) (lv1 := [(6, .int (x6 + 1)), (0, .ref 55), (1, .int x1), (2, .int x2), (3, .int x3), (4, .int x4), (5, .int x5)]) dX12_first_146 rfl rfl (Nat.le_of_ble_eq_true rfl) rfl ?_
        refine j_goto (pc := 149) (t := 76) dX12_first_149 (by decide) ?_
        refine j_sub [1, 2, 3, 4, 5, 6, 0] rfl ?_
        exact H
      · replace H := H.2 c128
        refine j_bipush (pc := 131) (v := 100) dX12_first_131 (by decide) ?_
        refine j_iload (pc := 133) dX12_first_133 rfl ?_
        refine j_imul (pc := 135) dX12_first_135 ?_
        refine j_bipush (pc := 136) (v := 10) dX12_first_136 (by decide) ?_
        refine j_iload (pc := 138) dX12_first_138 rfl ?_
        refine j_imul (pc := 140) dX12_first_140 ?_
        refine j_iadd (pc := 141) dX12_first_141 ?_
        refine j_iload (pc := 142) dX12_first_142 rfl ?_
        refine j_iadd (pc := 144) dX12_first_144 ?_
        exact s_ireti (pc := 145) dX12_first_145 rfl H
    · replace H := H.2 c99
      refine j_goto (pc := 102) (t := 146) dX12_first_102 (by decide) ?_
      refine j_iinc (pc := 146) (k := 6) (v := x6 + 1) (lv1 := [(6, .int (x6 + 1)), (0, .ref 55), (1, .int x1), (2, .int x2), (3, .int x3), (4, .int x4), (5, .int x5)]) dX12_first_146 rfl rfl (Nat.le_of_ble_eq_true rfl) rfl ?_
      refine j_goto (pc := 149) (t := 76) dX12_first_149 (by decide) ?_
      refine j_sub [1, 2, 3, 4, 5, 6, 0] rfl ?_
      exact H
set_option maxRecDepth 20000 in
theorem b_X12_turn_0 {l : Launch} {g : am_G} {d : Nat} {σ : am_S} {k : Int32 → am_S → Prop}  {x1 x2 : Int32} (hd : 3 ≤ d) (H : (((¬ x1 ≤ 0 ∧ x1 >>> ((rg σ 3526) &&& 31) = 0 ∧ (¬ x2 < 0 ∧ ¬ (rg σ 3521) - 1 < x2)) → CV l g M_X12_goal (d - 1) [.ref 55, .int x1, .int x2] σ (fun σ2 => JI l g M_X12_turn d 19 [(0, .ref 55), (1, .int x1), (2, .int x2), (3, .int 0)] [] σ2 k)) ∧ (¬ (¬ x1 ≤ 0 ∧ x1 >>> ((rg σ 3526) &&& 31) = 0 ∧ (¬ x2 < 0 ∧ ¬ (rg σ 3521) - 1 < x2)) → k (-1) σ))) : CI l g M_X12_turn d [.ref 55, .int x1, .int x2] σ k := by
  show J l g (M_X12_turn, d, 0, 0) 0 [(0, .ref 55), (1, .int x1), (2, .int x2)] [] (hp σ) 0 0 (kI k)
  refine j_aload_n (pc := 0) dX12_turn_0 rfl ?_
  refine j_iload_n (pc := 1) dX12_turn_1 rfl ?_
  refine j_iload_n (pc := 2) dX12_turn_2 rfl ?_
  refine s_callV_i (pc := 3) (M1 := M_X12_isGoal) (n := 2) (as := [.int x1, .int x2]) (a := 55) (st := []) dX12_turn_3 G_X12_isGoal wm_X12_304 (by decide +kernel) rfl (Nat.le_of_ble_eq_true rfl) shp_55 rfl (by show 1 ≤ d; omega) (Nat.le_of_ble_eq_true rfl) (Nat.zero_le _) (Nat.zero_le _) ?_
  refine C_X12_isGoal (d := d - 1) (by omega) ⟨fun c3 => ?_, fun c3 => ?_⟩
  · replace H := H.1 c3
    refine j_if_ne (pc := 6) (t := 11) dX12_turn_6 (by decide) (fun _ => ?_) (fun q => absurd q (by decide))
    refine j_aload_n (pc := 11) dX12_turn_11 rfl ?_
    refine j_iload_n (pc := 12) dX12_turn_12 rfl ?_
    refine j_iload_n (pc := 13) dX12_turn_13 rfl ?_
    refine s_callV_v (pc := 14) (M1 := M_X12_goal) (n := 2) (as := [.int x1, .int x2]) (a := 55) (st := []) dX12_turn_14 G_X12_goal wm_X12_308 (by decide +kernel) rfl (Nat.le_of_ble_eq_true rfl) shp_55 rfl (by show 1 ≤ d; omega) (Nat.le_of_ble_eq_true rfl) (Nat.zero_le _) (Nat.zero_le _) ?_
    refine CV.mono H (fun σ2 H => ?_)
    refine j_iconst (pc := 17) (v := 0) dX12_turn_17 (by decide) ?_
    refine j_istore_n (pc := 18) (lv1 := [(3, .int 0), (0, .ref 55), (1, .int x1), (2, .int x2)]) dX12_turn_18 (Nat.le_of_ble_eq_true rfl) rfl ?_
    refine j_sub [1, 2, 3, 0] rfl ?_
    exact H
  · replace H := H.2 c3
    refine j_if_ne (pc := 6) (t := 11) dX12_turn_6 (by decide) (fun q => absurd q (by decide)) (fun _ => ?_)
    refine j_iconst (pc := 9) (v := -1) dX12_turn_9 (by decide) ?_
    exact s_ireti (pc := 10) dX12_turn_10 rfl H
set_option maxRecDepth 20000 in
theorem b_X12_turn_19 {l : Launch} {g : am_G} {d : Nat} {σ : am_S} {k : Int32 → am_S → Prop}  {x1 x2 x3 : Int32} (H : ((rg σ 3522 < x3 → k (-2) σ) ∧ (¬ rg σ 3522 < x3 → JI l g M_X12_turn d 30 [(0, .ref 55), (1, .int x1), (2, .int x2), (3, .int x3), (4, .int 0)] [] σ k))) : JI l g M_X12_turn d 19 [(0, .ref 55), (1, .int x1), (2, .int x2), (3, .int x3)] [] σ k := by
  show J l g (M_X12_turn, d, 0, 0) 19 [(0, .ref 55), (1, .int x1), (2, .int x2), (3, .int x3)] [] (hp σ) 0 0 (kI k)
  refine j_iload_n (pc := 19) dX12_turn_19 rfl ?_
  refine j_aload_n (pc := 20) dX12_turn_20 rfl ?_
  refine s_geti (pc := 21) 3522 (rg σ 3522) dX12_turn_21 fl_X12_118 shp_55 rfl rfl rfl ?_
  refine j_icmp_gt (pc := 24) (t := 95) dX12_turn_24 (by decide) (fun c24 => ?_) (fun c24 => ?_)
  · replace H := H.1 c24
    refine j_bipush (pc := 95) (v := -2) dX12_turn_95 (by decide) ?_
    exact s_ireti (pc := 97) dX12_turn_97 rfl H
  · replace H := H.2 c24
    refine j_iconst (pc := 27) (v := 0) dX12_turn_27 (by decide) ?_
    refine j_istore (pc := 28) (lv1 := [(4, .int 0), (0, .ref 55), (1, .int x1), (2, .int x2), (3, .int x3)]) dX12_turn_28 (Nat.le_of_ble_eq_true rfl) rfl ?_
    refine j_sub [1, 2, 3, 4, 0] rfl ?_
    exact H
set_option maxRecDepth 20000 in
theorem b_X12_turn_30 {l : Launch} {g : am_G} {d : Nat} {σ : am_S} {k : Int32 → am_S → Prop}  {x1 x2 x3 x4 : Int32} (hd : 1 ≤ d) (H : (((1 : Int32) <<< ((rg σ 3522) &&& 31) ≤ x4 → JI l g M_X12_turn d 19 [(0, .ref 55), (1, .int x1), (2, .int x2), (3, .int (x3 + 1))] [] σ k) ∧ (¬ (1 : Int32) <<< ((rg σ 3522) &&& 31) ≤ x4 → CI l g M_X12_bitsOf (d - 1) [.int x4] σ (fun r1 σ1 => ((r1 = x3 → CV l g M_X12_findMay (d - 1) [.ref 55, .int x4, .int (rg σ1 3530), .int 0] σ1 (fun σ2 => CV l g M_X12_findAll (d - 1) [.ref 55, .int (rg σ2 3529), .int (-1)] σ2 (fun σ3 => ((rg σ3 3563 < 0 → JI l g M_X12_turn d 30 [(0, .ref 55), (1, .int x1), (2, .int x2), (3, .int x3), (4, .int (x4 + 1))] [] σ3 k) ∧ (¬ rg σ3 3563 < 0 → k x4 σ3))))) ∧ (¬ r1 = x3 → JI l g M_X12_turn d 30 [(0, .ref 55), (1, .int x1), (2, .int x2), (3, .int x3), (4, .int (x4 + 1))] [] σ1 k)))))) : JI l g M_X12_turn d 30 [(0, .ref 55), (1, .int x1), (2, .int x2), (3, .int x3), (4, .int x4)] [] σ k := by
  show J l g (M_X12_turn, d, 0, 0) 30 [(0, .ref 55), (1, .int x1), (2, .int x2), (3, .int x3), (4, .int x4)] [] (hp σ) 0 0 (kI k)
  refine j_iload (pc := 30) dX12_turn_30 rfl ?_
  refine j_iconst (pc := 32) (v := 1) dX12_turn_32 (by decide) ?_
  refine j_aload_n (pc := 33) dX12_turn_33 rfl ?_
  refine s_geti (pc := 34) 3522 (rg σ 3522) dX12_turn_34 fl_X12_118 shp_55 rfl rfl rfl ?_
  refine j_ishl (pc := 37) dX12_turn_37 ?_
  refine j_icmp_ge (pc := 38) (t := 89) dX12_turn_38 (by decide) (fun c38 => ?_) (fun c38 => ?_)
  · replace H := H.1 c38
    refine j_iinc (pc := 89) (k := 3) (v := x3 + 1) (lv1 := [(3, .int (x3 + 1)), (0, .ref 55), (1, .int x1), (2, .int x2), (4, .int x4)]) dX12_turn_89 rfl rfl (Nat.le_of_ble_eq_true rfl) rfl ?_
    refine j_goto (pc := 92) (t := 19) dX12_turn_92 (by decide) ?_
    refine j_sub [1, 2, 3, 0] rfl ?_
    exact H
  · replace H := H.2 c38
    refine j_iload (pc := 41) dX12_turn_41 rfl ?_
    refine s_callS_i (pc := 43) (M1 := M_X12_bitsOf) (n := 1) (as := [.int x4]) (st := []) dX12_turn_43 G_X12_bitsOf wm_X12_311 (by decide +kernel) rfl (Nat.le_of_ble_eq_true rfl) (by show 1 ≤ d; omega) (Nat.le_of_ble_eq_true rfl) ?_
    refine CI.mono H (fun r1 σ1 H => ?_)
    refine j_iload_n (pc := 46) dX12_turn_46 rfl ?_
    refine j_icmp_eq (pc := 47) (t := 53) dX12_turn_47 (by decide) (fun c47 => ?_) (fun c47 => ?_)
    · replace H := H.1 c47
      refine j_aload_n (pc := 53) dX12_turn_53 rfl ?_
      refine j_iload (pc := 54) dX12_turn_54 rfl ?_
      refine j_aload_n (pc := 56) dX12_turn_56 rfl ?_
      refine s_geti (pc := 57) 3530 (rg σ1 3530) dX12_turn_57 fl_X12_25 shp_55 rfl rfl rfl ?_
      refine j_iconst (pc := 60) (v := 0) dX12_turn_60 (by decide) ?_
      refine s_callV_v (pc := 61) (M1 := M_X12_findMay) (n := 3) (as := [.int x4, .int (rg σ1 3530), .int 0]) (a := 55) (st := []) dX12_turn_61 G_X12_findMay wm_X12_252 (by decide +kernel) rfl (Nat.le_of_ble_eq_true rfl) shp_55 rfl (by show 1 ≤ d; omega) (Nat.le_of_ble_eq_true rfl) (Nat.zero_le _) (Nat.zero_le _) ?_
      refine CV.mono H (fun σ2 H => ?_)
      refine j_aload_n (pc := 64) dX12_turn_64 rfl ?_
      refine j_aload_n (pc := 65) dX12_turn_65 rfl ?_
      refine s_geti (pc := 66) 3529 (rg σ2 3529) dX12_turn_66 fl_X12_128 shp_55 rfl rfl rfl ?_
      refine j_iconst (pc := 69) (v := -1) dX12_turn_69 (by decide) ?_
      refine s_callV_v (pc := 70) (M1 := M_X12_findAll) (n := 2) (as := [.int (rg σ2 3529), .int (-1)]) (a := 55) (st := []) dX12_turn_70 G_X12_findAll wm_X12_295 (by decide +kernel) rfl (Nat.le_of_ble_eq_true rfl) shp_55 rfl (by show 1 ≤ d; omega) (Nat.le_of_ble_eq_true rfl) (Nat.zero_le _) (Nat.zero_le _) ?_
      refine CV.mono H (fun σ3 H => ?_)
      refine j_aload_n (pc := 73) dX12_turn_73 rfl ?_
      refine s_geti (pc := 74) 3563 (rg σ3 3563) dX12_turn_74 fl_X12_277 shp_55 rfl rfl rfl ?_
      refine j_if_lt (pc := 77) (t := 83) dX12_turn_77 (by decide) (fun c77 => ?_) (fun c77 => ?_)
      · replace H := H.1 c77
        refine j_iinc (pc := 83) (k := 4) (v := x4 + 1) (lv1 := [(4, .int (x4 + 1)), (0, .ref 55), (1, .int x1), (2, .int x2), (3, .int x3)]) dX12_turn_83 rfl rfl (Nat.le_of_ble_eq_true rfl) rfl ?_
        refine j_goto (pc := 86) (t := 30) dX12_turn_86 (by decide) ?_
        refine j_sub [1, 2, 3, 4, 0] rfl ?_
        exact H
      · replace H := H.2 c77
        refine j_iload (pc := 80) dX12_turn_80 rfl ?_
        exact s_ireti (pc := 82) dX12_turn_82 rfl H
    · replace H := H.2 c47
      refine j_goto (pc := 50) (t := 83) dX12_turn_50 (by decide) ?_
      refine j_iinc (pc := 83) (k := 4) (v := x4 + 1) (lv1 := [(4, .int (x4 + 1)), (0, .ref 55), (1, .int x1), (2, .int x2), (3, .int x3)]) dX12_turn_83 rfl rfl (Nat.le_of_ble_eq_true rfl) rfl ?_
      refine j_goto (pc := 86) (t := 30) dX12_turn_86 (by decide) ?_
      refine j_sub [1, 2, 3, 4, 0] rfl ?_
      exact H
set_option maxRecDepth 20000 in
theorem b_X12_boots_0 {l : Launch} {g : am_G} {d : Nat} {σ : am_S} {k : Int32 → am_S → Prop}  {x1 x2 x3 : Int32} (hd : 3 ≤ d) (H : (((¬ x1 ≤ 0 ∧ x1 >>> ((rg σ 3526) &&& 31) = 0 ∧ (¬ x2 < 0 ∧ ¬ (rg σ 3521) - 1 < x2)) → (((¬ x3 < 0 ∧ ¬ 1 < x3) → CV l g M_X12_goal (d - 1) [.ref 55, .int x1, .int x2] σ (fun σ3 => JI l g M_X12_boots d 37 [(0, .ref 55), (1, .int x1), (2, .int x2), (3, .int x3), (4, .int (-2)), (5, .int (-1)), (6, .int (-1))] [] σ3 k)) ∧ (¬ (¬ x3 < 0 ∧ ¬ 1 < x3) → k (-2000000000) σ))) ∧ (¬ (¬ x1 ≤ 0 ∧ x1 >>> ((rg σ 3526) &&& 31) = 0 ∧ (¬ x2 < 0 ∧ ¬ (rg σ 3521) - 1 < x2)) → k (-2000000000) σ))) : CI l g M_X12_boots d [.ref 55, .int x1, .int x2, .int x3] σ k := by
  show J l g (M_X12_boots, d, 0, 0) 0 [(0, .ref 55), (1, .int x1), (2, .int x2), (3, .int x3)] [] (hp σ) 0 0 (kI k)
  refine j_aload_n (pc := 0) dX12_boots_0 rfl ?_
  refine j_iload_n (pc := 1) dX12_boots_1 rfl ?_
  refine j_iload_n (pc := 2) dX12_boots_2 rfl ?_
  refine s_callV_i (pc := 3) (M1 := M_X12_isGoal) (n := 2) (as := [.int x1, .int x2]) (a := 55) (st := []) dX12_boots_3 G_X12_isGoal wm_X12_304 (by decide +kernel) rfl (Nat.le_of_ble_eq_true rfl) shp_55 rfl (by show 1 ≤ d; omega) (Nat.le_of_ble_eq_true rfl) (Nat.zero_le _) (Nat.zero_le _) ?_
  refine C_X12_isGoal (d := d - 1) (by omega) ⟨fun c3 => ?_, fun c3 => ?_⟩
  · replace H := H.1 c3
    refine j_if_eq (pc := 6) (t := 18) dX12_boots_6 (by decide) (fun q => absurd q (by decide)) (fun _ => ?_)
    refine j_iload_n (pc := 9) dX12_boots_9 rfl ?_
    refine j_iconst (pc := 10) (v := 0) dX12_boots_10 (by decide) ?_
    refine j_iconst (pc := 11) (v := 1) dX12_boots_11 (by decide) ?_
    refine s_callS_i (pc := 12) (M1 := M_X12_in) (n := 3) (as := [.int x3, .int 0, .int 1]) (st := []) dX12_boots_12 G_X12_in wm_X12_114 (by decide +kernel) rfl (Nat.le_of_ble_eq_true rfl) (by show 1 ≤ d; omega) (Nat.le_of_ble_eq_true rfl) ?_
    refine C_X12_in (d := d - 1) (by omega) ⟨fun c12 => ?_, fun c12 => ?_⟩
    · replace H := H.1 c12
      refine j_if_ne (pc := 15) (t := 21) dX12_boots_15 (by decide) (fun _ => ?_) (fun q => absurd q (by decide))
      refine j_aload_n (pc := 21) dX12_boots_21 rfl ?_
      refine j_iload_n (pc := 22) dX12_boots_22 rfl ?_
      refine j_iload_n (pc := 23) dX12_boots_23 rfl ?_
      refine s_callV_v (pc := 24) (M1 := M_X12_goal) (n := 2) (as := [.int x1, .int x2]) (a := 55) (st := []) dX12_boots_24 G_X12_goal wm_X12_308 (by decide +kernel) rfl (Nat.le_of_ble_eq_true rfl) shp_55 rfl (by show 1 ≤ d; omega) (Nat.le_of_ble_eq_true rfl) (Nat.zero_le _) (Nat.zero_le _) ?_
      refine CV.mono H (fun σ3 H => ?_)
      refine j_bipush (pc := 27) (v := -2) dX12_boots_27 (by decide) ?_
      refine j_istore (pc := 29) (lv1 := [(4, .int (-2)), (0, .ref 55), (1, .int x1), (2, .int x2), (3, .int x3)]) dX12_boots_29 (Nat.le_of_ble_eq_true rfl) rfl ?_
      refine j_iconst (pc := 31) (v := -1) dX12_boots_31 (by decide) ?_
      refine j_istore (pc := 32) (lv1 := [(5, .int (-1)), (4, .int (-2)), (0, .ref 55), (1, .int x1), (2, .int x2), (3, .int x3)]) dX12_boots_32 (Nat.le_of_ble_eq_true rfl) rfl ?_
      refine j_iconst (pc := 34) (v := -1) dX12_boots_34 (by decide) ?_
      refine j_istore (pc := 35) (lv1 := [(6, .int (-1)), (5, .int (-1)), (4, .int (-2)), (0, .ref 55), (1, .int x1), (2, .int x2), (3, .int x3)]) dX12_boots_35 (Nat.le_of_ble_eq_true rfl) rfl ?_
      refine j_sub [3, 4, 5, 6, 2, 1, 0] rfl ?_
      exact H
    · replace H := H.2 c12
      refine j_if_ne (pc := 15) (t := 21) dX12_boots_15 (by decide) (fun q => absurd q (by decide)) (fun _ => ?_)
      refine j_ldc (pc := 18) dX12_boots_18 wk_X12_164 ?_
      exact s_ireti (pc := 20) dX12_boots_20 rfl H
  · replace H := H.2 c3
    refine j_if_eq (pc := 6) (t := 18) dX12_boots_6 (by decide) (fun _ => ?_) (fun q => absurd q (by decide))
    refine j_ldc (pc := 18) dX12_boots_18 wk_X12_164 ?_
    exact s_ireti (pc := 20) dX12_boots_20 rfl H
set_option maxRecDepth 20000 in
theorem b_X12_boots_37 {l : Launch} {g : am_G} {d : Nat} {σ : am_S} {k : Int32 → am_S → Prop}  {x1 x2 x3 x4 x5 x6 : Int32} (hd : 1 ≤ d) (H : ((rg σ 3526 ≤ x6 → ((0 ≤ x5 → ((¬ x3 = 0 → k x5 σ) ∧ (x3 = 0 → k x4 σ))) ∧ (¬ 0 ≤ x5 → k (-2) σ))) ∧ (¬ rg σ 3526 ≤ x6 → CV l g M_X12_findMay (d - 1) [.ref 55, .int 0, .int x6, .int 0] σ (fun σ1 => CV l g M_X12_findAll (d - 1) [.ref 55, .int (rg σ1 3529), .int (-1)] σ1 (fun σ2 => ((rg σ2 3563 < 0 → JI l g M_X12_boots d 37 [(0, .ref 55), (1, .int x1), (2, .int x2), (3, .int x3), (4, .int x4), (5, .int x5), (6, .int (x6 + 1))] [] σ2 k) ∧ (¬ rg σ2 3563 < 0 → ((x5 < 0 → JI l g M_X12_boots d 37 [(0, .ref 55), (1, .int x1), (2, .int x2), (3, .int x3), (4, .int x6), (5, .int (rg σ2 3563)), (6, .int (x6 + 1))] [] σ2 k) ∧ (¬ x5 < 0 → ((rg σ2 3563 < x5 → JI l g M_X12_boots d 37 [(0, .ref 55), (1, .int x1), (2, .int x2), (3, .int x3), (4, .int x6), (5, .int (rg σ2 3563)), (6, .int (x6 + 1))] [] σ2 k) ∧ (¬ rg σ2 3563 < x5 → JI l g M_X12_boots d 37 [(0, .ref 55), (1, .int x1), (2, .int x2), (3, .int x3), (4, .int x4), (5, .int x5), (6, .int (x6 + 1))] [] σ2 k))))))))))) : JI l g M_X12_boots d 37 [(0, .ref 55), (1, .int x1), (2, .int x2), (3, .int x3), (4, .int x4), (5, .int x5), (6, .int x6)] [] σ k := by
  show J l g (M_X12_boots, d, 0, 0) 37 [(0, .ref 55), (1, .int x1), (2, .int x2), (3, .int x3), (4, .int x4), (5, .int x5), (6, .int x6)] [] (hp σ) 0 0 (kI k)
  refine j_iload (pc := 37) dX12_boots_37 rfl ?_
  refine j_aload_n (pc := 39) dX12_boots_39 rfl ?_
  refine s_geti (pc := 40) 3526 (rg σ 3526) dX12_boots_40 fl_X12_121 shp_55 rfl rfl rfl ?_
  refine j_icmp_ge (pc := 43) (t := 103) dX12_boots_43 (by decide) (fun c43 => ?_) (fun c43 => ?_)
  · replace H := H.1 c43
    refine j_iload (pc := 103) dX12_boots_103 rfl ?_
    refine j_if_ge (pc := 105) (t := 113) dX12_boots_105 (by decide) (fun c105 => ?_) (fun c105 => ?_)
    · replace H := H.1 c105
      refine j_iload_n (pc := 113) dX12_boots_113 rfl ?_
      refine j_if_ne (pc := 114) (t := 122) dX12_boots_114 (by decide) (fun c114 => ?_) (fun c114 => ?_)
      · replace H := H.1 c114
        refine j_iload (pc := 122) dX12_boots_122 rfl ?_
        exact s_ireti (pc := 124) dX12_boots_124 rfl H
      · replace H := H.2 c114
        refine j_iload (pc := 117) dX12_boots_117 rfl ?_
        refine j_goto (pc := 119) (t := 124) dX12_boots_119 (by decide) ?_
        exact s_ireti (pc := 124) dX12_boots_124 rfl H
    · replace H := H.2 c105
      refine j_bipush (pc := 108) (v := -2) dX12_boots_108 (by decide) ?_
      refine j_goto (pc := 110) (t := 124) dX12_boots_110 (by decide) ?_
      exact s_ireti (pc := 124) dX12_boots_124 rfl H
  · replace H := H.2 c43
    refine j_aload_n (pc := 46) dX12_boots_46 rfl ?_
    refine j_iconst (pc := 47) (v := 0) dX12_boots_47 (by decide) ?_
    refine j_iload (pc := 48) dX12_boots_48 rfl ?_
    refine j_iconst (pc := 50) (v := 0) dX12_boots_50 (by decide) ?_
    refine s_callV_v (pc := 51) (M1 := M_X12_findMay) (n := 3) (as := [.int 0, .int x6, .int 0]) (a := 55) (st := []) dX12_boots_51 G_X12_findMay wm_X12_252 (by decide +kernel) rfl (Nat.le_of_ble_eq_true rfl) shp_55 rfl (by show 1 ≤ d; omega) (Nat.le_of_ble_eq_true rfl) (Nat.zero_le _) (Nat.zero_le _) ?_
    refine CV.mono H (fun σ1 H => ?_)
    refine j_aload_n (pc := 54) dX12_boots_54 rfl ?_
    refine j_aload_n (pc := 55) dX12_boots_55 rfl ?_
    refine s_geti (pc := 56) 3529 (rg σ1 3529) dX12_boots_56 fl_X12_128 shp_55 rfl rfl rfl ?_
    refine j_iconst (pc := 59) (v := -1) dX12_boots_59 (by decide) ?_
    refine s_callV_v (pc := 60) (M1 := M_X12_findAll) (n := 2) (as := [.int (rg σ1 3529), .int (-1)]) (a := 55) (st := []) dX12_boots_60 G_X12_findAll wm_X12_295 (by decide +kernel) rfl (Nat.le_of_ble_eq_true rfl) shp_55 rfl (by show 1 ≤ d; omega) (Nat.le_of_ble_eq_true rfl) (Nat.zero_le _) (Nat.zero_le _) ?_
    refine CV.mono H (fun σ2 H => ?_)
    refine j_aload_n (pc := 63) dX12_boots_63 rfl ?_
    refine s_geti (pc := 64) 3563 (rg σ2 3563) dX12_boots_64 fl_X12_277 shp_55 rfl rfl rfl ?_
    refine j_if_lt (pc := 67) (t := 97) dX12_boots_67 (by decide) (fun c67 => ?_) (fun c67 => ?_)
    · replace H := H.1 c67
      refine j_iinc (pc := 97) (k := 6) (v := x6 + 1) (lv1 := [(6, .int (x6 + 1)), (0, .ref 55), (1, .int x1), (2, .int x2), (3, .int x3), (4, .int x4), (5, .int x5)]) dX12_boots_97 rfl rfl (Nat.le_of_ble_eq_true rfl) rfl ?_
      refine j_goto (pc := 100) (t := 37) dX12_boots_100 (by decide) ?_
      refine j_sub [1, 2, 3, 4, 5, 6, 0] rfl ?_
      exact H
    · replace H := H.2 c67
      refine j_iload (pc := 70) dX12_boots_70 rfl ?_
      refine j_if_lt (pc := 72) (t := 87) dX12_boots_72 (by decide) (fun c72 => ?_) (fun c72 => ?_)
      · replace H := H.1 c72
        refine j_iload (pc := 87) dX12_boots_87 rfl ?_
        refine j_istore (pc := 89) (lv1 := [(4, .int x6), (0, .ref 55), (1, .int x1), (2, .int x2), (3, .int x3), (5, .int x5), (6, .int x6)]) dX12_boots_89 (Nat.le_of_ble_eq_true rfl) rfl ?_
        refine j_aload_n (pc := 91) dX12_boots_91 rfl ?_
        refine s_geti (pc := 92) 3563 (rg σ2 3563) dX12_boots_92 fl_X12_277 shp_55 rfl rfl rfl ?_
        refine j_istore (pc := 95) (lv1 := [(5, .int (rg σ2 3563)), (4, .int x6), (0, .ref 55), (1, .int x1), (2, .int x2), (3, .int x3), (6, .int x6)]) dX12_boots_95 (Nat.le_of_ble_eq_true rfl) rfl ?_
        refine j_iinc (pc := 97) (k := 6) (v := x6 + 1) (lv1 := [(6, .int (x6 + 1)), (5, .int (rg σ2 3563)), (4, .int x6), (0, .ref 55), (1, .int x1), (2, .int x2), (3, .int x3)]) dX12_boots_97 rfl rfl (Nat.le_of_ble_eq_true rfl) rfl ?_
        refine j_goto (pc := 100) (t := 37) dX12_boots_100 (by decide) ?_
        refine j_sub [3, 4, 5, 6, 2, 1, 0] rfl ?_
        exact H
      · replace H := H.2 c72
        refine j_aload_n (pc := 75) dX12_boots_75 rfl ?_
        refine s_geti (pc := 76) 3563 (rg σ2 3563) dX12_boots_76 fl_X12_277 shp_55 rfl rfl rfl ?_
        refine j_iload (pc := 79) dX12_boots_79 rfl ?_
        refine j_icmp_lt (pc := 81) (t := 87) dX12_boots_81 (by decide) (fun c81 => ?_) (fun c81 => ?_)
        · replace H := H.1 c81
          refine j_iload (pc := 87) dX12_boots_87 rfl ?_
          refine j_istore (pc := 89) (lv1 := [(4, .int x6), (0, .ref 55), (1, .int x1), (2, .int x2), (3, .int x3), (5, .int x5), (6, .int x6)]) dX12_boots_89 (Nat.le_of_ble_eq_true rfl) rfl ?_
          refine j_aload_n (pc := 91) dX12_boots_91 rfl ?_
          refine s_geti (pc := 92) 3563 (rg σ2 3563) dX12_boots_92 fl_X12_277 shp_55 rfl rfl rfl ?_
          refine j_istore (pc := 95) (lv1 := [(5, .int (rg σ2 3563)), (4, .int x6), (0, .ref 55), (1, .int x1), (2, .int x2), (3, .int x3), (6, .int x6)]) dX12_boots_95 (Nat.le_of_ble_eq_true rfl) rfl ?_
          refine j_iinc (pc := 97) (k := 6) (v := x6 + 1) (lv1 := [(6, .int (x6 + 1)), (5, .int (rg σ2 3563)), (4, .int x6), (0, .ref 55), (1, .int x1), (2, .int x2), (3, .int x3)]) dX12_boots_97 rfl rfl (Nat.le_of_ble_eq_true rfl) rfl ?_
          refine j_goto (pc := 100) (t := 37) dX12_boots_100 (by decide) ?_
          refine j_sub [3, 4, 5, 6, 2, 1, 0] rfl ?_
          exact H
        · replace H := H.2 c81
          refine j_goto (pc := 84) (t := 97) dX12_boots_84 (by decide) ?_
          refine j_iinc (pc := 97) (k := 6) (v := x6 + 1) (lv1 := [(6, .int (x6 + 1)), (0, .ref 55), (1, .int x1), (2, .int x2), (3, .int x3), (4, .int x4), (5, .int x5)]) dX12_boots_97 rfl rfl (Nat.le_of_ble_eq_true rfl) rfl ?_
          refine j_goto (pc := 100) (t := 37) dX12_boots_100 (by decide) ?_
          refine j_sub [1, 2, 3, 4, 5, 6, 0] rfl ?_
          exact H
set_option maxRecDepth 20000 in
theorem b_X12_month_0 {l : Launch} {g : am_G} {d : Nat} {σ : am_S} {k : Int32 → am_S → Prop}  {x1 x2 : Int32} (hd : 3 ≤ d) (H : (((¬ x1 ≤ 0 ∧ x1 >>> ((rg σ 3526) &&& 31) = 0 ∧ (¬ x2 < 0 ∧ ¬ (rg σ 3521) - 1 < x2)) → CV l g M_X12_goal (d - 1) [.ref 55, .int x1, .int x2] σ (fun σ2 => JI l g M_X12_month d 19 [(0, .ref 55), (1, .int x1), (2, .int x2), (3, .int 0)] [] σ2 k)) ∧ (¬ (¬ x1 ≤ 0 ∧ x1 >>> ((rg σ 3526) &&& 31) = 0 ∧ (¬ x2 < 0 ∧ ¬ (rg σ 3521) - 1 < x2)) → k (-1) σ))) : CI l g M_X12_month d [.ref 55, .int x1, .int x2] σ k := by
  show J l g (M_X12_month, d, 0, 0) 0 [(0, .ref 55), (1, .int x1), (2, .int x2)] [] (hp σ) 0 0 (kI k)
  refine j_aload_n (pc := 0) dX12_month_0 rfl ?_
  refine j_iload_n (pc := 1) dX12_month_1 rfl ?_
  refine j_iload_n (pc := 2) dX12_month_2 rfl ?_
  refine s_callV_i (pc := 3) (M1 := M_X12_isGoal) (n := 2) (as := [.int x1, .int x2]) (a := 55) (st := []) dX12_month_3 G_X12_isGoal wm_X12_304 (by decide +kernel) rfl (Nat.le_of_ble_eq_true rfl) shp_55 rfl (by show 1 ≤ d; omega) (Nat.le_of_ble_eq_true rfl) (Nat.zero_le _) (Nat.zero_le _) ?_
  refine C_X12_isGoal (d := d - 1) (by omega) ⟨fun c3 => ?_, fun c3 => ?_⟩
  · replace H := H.1 c3
    refine j_if_ne (pc := 6) (t := 11) dX12_month_6 (by decide) (fun _ => ?_) (fun q => absurd q (by decide))
    refine j_aload_n (pc := 11) dX12_month_11 rfl ?_
    refine j_iload_n (pc := 12) dX12_month_12 rfl ?_
    refine j_iload_n (pc := 13) dX12_month_13 rfl ?_
    refine s_callV_v (pc := 14) (M1 := M_X12_goal) (n := 2) (as := [.int x1, .int x2]) (a := 55) (st := []) dX12_month_14 G_X12_goal wm_X12_308 (by decide +kernel) rfl (Nat.le_of_ble_eq_true rfl) shp_55 rfl (by show 1 ≤ d; omega) (Nat.le_of_ble_eq_true rfl) (Nat.zero_le _) (Nat.zero_le _) ?_
    refine CV.mono H (fun σ2 H => ?_)
    refine j_iconst (pc := 17) (v := 0) dX12_month_17 (by decide) ?_
    refine j_istore_n (pc := 18) (lv1 := [(3, .int 0), (0, .ref 55), (1, .int x1), (2, .int x2)]) dX12_month_18 (Nat.le_of_ble_eq_true rfl) rfl ?_
    refine j_sub [1, 2, 3, 0] rfl ?_
    exact H
  · replace H := H.2 c3
    refine j_if_ne (pc := 6) (t := 11) dX12_month_6 (by decide) (fun q => absurd q (by decide)) (fun _ => ?_)
    refine j_iconst (pc := 9) (v := -1) dX12_month_9 (by decide) ?_
    exact s_ireti (pc := 10) dX12_month_10 rfl H
set_option maxRecDepth 20000 in
theorem b_X12_month_19 {l : Launch} {g : am_G} {d : Nat} {σ : am_S} {k : Int32 → am_S → Prop}  {x1 x2 x3 : Int32} (hd : 1 ≤ d) (H : ((24 < x3 → k (-2) σ) ∧ (¬ 24 < x3 → CV l g M_X12_findMay (d - 1) [.ref 55, .int 0, .int (rg σ 3530), .int x3] σ (fun σ1 => CV l g M_X12_findAll (d - 1) [.ref 55, .int (rg σ1 3529), .int (-1)] σ1 (fun σ2 => ((rg σ2 3563 < 0 → JI l g M_X12_month d 19 [(0, .ref 55), (1, .int x1), (2, .int x2), (3, .int (x3 + 1))] [] σ2 k) ∧ (¬ rg σ2 3563 < 0 → k x3 σ2))))))) : JI l g M_X12_month d 19 [(0, .ref 55), (1, .int x1), (2, .int x2), (3, .int x3)] [] σ k := by
  show J l g (M_X12_month, d, 0, 0) 19 [(0, .ref 55), (1, .int x1), (2, .int x2), (3, .int x3)] [] (hp σ) 0 0 (kI k)
  refine j_iload_n (pc := 19) dX12_month_19 rfl ?_
  refine j_bipush (pc := 20) (v := 24) dX12_month_20 (by decide) ?_
  refine j_icmp_gt (pc := 22) (t := 59) dX12_month_22 (by decide) (fun c22 => ?_) (fun c22 => ?_)
  · replace H := H.1 c22
    refine j_bipush (pc := 59) (v := -2) dX12_month_59 (by decide) ?_
    exact s_ireti (pc := 61) dX12_month_61 rfl H
  · replace H := H.2 c22
    refine j_aload_n (pc := 25) dX12_month_25 rfl ?_
    refine j_iconst (pc := 26) (v := 0) dX12_month_26 (by decide) ?_
    refine j_aload_n (pc := 27) dX12_month_27 rfl ?_
    refine s_geti (pc := 28) 3530 (rg σ 3530) dX12_month_28 fl_X12_25 shp_55 rfl rfl rfl ?_
    refine j_iload_n (pc := 31) dX12_month_31 rfl ?_
    refine s_callV_v (pc := 32) (M1 := M_X12_findMay) (n := 3) (as := [.int 0, .int (rg σ 3530), .int x3]) (a := 55) (st := []) dX12_month_32 G_X12_findMay wm_X12_252 (by decide +kernel) rfl (Nat.le_of_ble_eq_true rfl) shp_55 rfl (by show 1 ≤ d; omega) (Nat.le_of_ble_eq_true rfl) (Nat.zero_le _) (Nat.zero_le _) ?_
    refine CV.mono H (fun σ1 H => ?_)
    refine j_aload_n (pc := 35) dX12_month_35 rfl ?_
    refine j_aload_n (pc := 36) dX12_month_36 rfl ?_
    refine s_geti (pc := 37) 3529 (rg σ1 3529) dX12_month_37 fl_X12_128 shp_55 rfl rfl rfl ?_
    refine j_iconst (pc := 40) (v := -1) dX12_month_40 (by decide) ?_
    refine s_callV_v (pc := 41) (M1 := M_X12_findAll) (n := 2) (as := [.int (rg σ1 3529), .int (-1)]) (a := 55) (st := []) dX12_month_41 G_X12_findAll wm_X12_295 (by decide +kernel) rfl (Nat.le_of_ble_eq_true rfl) shp_55 rfl (by show 1 ≤ d; omega) (Nat.le_of_ble_eq_true rfl) (Nat.zero_le _) (Nat.zero_le _) ?_
    refine CV.mono H (fun σ2 H => ?_)
    refine j_aload_n (pc := 44) dX12_month_44 rfl ?_
    refine s_geti (pc := 45) 3563 (rg σ2 3563) dX12_month_45 fl_X12_277 shp_55 rfl rfl rfl ?_
    refine j_if_lt (pc := 48) (t := 53) dX12_month_48 (by decide) (fun c48 => ?_) (fun c48 => ?_)
    · replace H := H.1 c48
      refine j_iinc (pc := 53) (k := 3) (v := x3 + 1) (lv1 := [(3, .int (x3 + 1)), (0, .ref 55), (1, .int x1), (2, .int x2)]) dX12_month_53 rfl rfl (Nat.le_of_ble_eq_true rfl) rfl ?_
      refine j_goto (pc := 56) (t := 19) dX12_month_56 (by decide) ?_
      refine j_sub [1, 2, 3, 0] rfl ?_
      exact H
    · replace H := H.2 c48
      refine j_iload_n (pc := 51) dX12_month_51 rfl ?_
      exact s_ireti (pc := 52) dX12_month_52 rfl H
set_option maxRecDepth 20000 in
theorem b_X12_draw_0 {l : Launch} {g : am_G} {d : Nat} {σ : am_S} {k : Int32 → am_S → Prop}  {x1 : Int32} (H : ((¬ x1 = 0) ∧ k ((((((rg σ 3564) * 1103515245) + 12345).toUInt32 >>> ((8 : Int32).toUInt32 &&& Int32.toUInt32 31)).toInt32) - (((((rg σ 3564) * 1103515245) + 12345).toUInt32 >>> ((8 : Int32).toUInt32 &&& Int32.toUInt32 31)).toInt32) / x1 * x1) (sR σ 3564 (((rg σ 3564) * 1103515245) + 12345)))) : CI l g M_X12_draw d [.ref 55, .int x1] σ k := by
  show J l g (M_X12_draw, d, 0, 0) 0 [(0, .ref 55), (1, .int x1)] [] (hp σ) 0 0 (kI k)
  refine j_aload_n (pc := 0) dX12_draw_0 rfl ?_
  refine j_aload_n (pc := 1) dX12_draw_1 rfl ?_
  refine s_geti (pc := 2) 3564 (rg σ 3564) dX12_draw_2 fl_X12_314 shp_55 rfl rfl rfl ?_
  refine j_ldcw (pc := 5) dX12_draw_5 wk_X12_317 ?_
  refine j_imul (pc := 8) dX12_draw_8 ?_
  refine j_sipush (pc := 9) (v := 12345) dX12_draw_9 (by decide) ?_
  refine j_iadd (pc := 12) dX12_draw_12 ?_
  refine s_put (pc := 13) 3564 dX12_draw_13 fl_X12_314 shp_55 rfl rfl fp_12_44 rfl rfl ?_
  refine j_aload_n (pc := 16) dX12_draw_16 rfl ?_
  refine s_geti (pc := 17) 3564 (((rg σ 3564) * 1103515245) + 12345) dX12_draw_17 fl_X12_314 shp_55 rfl rfl rfl ?_
  refine j_bipush (pc := 20) (v := 8) dX12_draw_20 (by decide) ?_
  refine j_iushr (pc := 22) dX12_draw_22 ?_
  refine j_iload_n (pc := 23) dX12_draw_23 rfl ?_
  have c24 := H.1
  replace H := H.2
  refine j_irem (pc := 24) dX12_draw_24 c24 ?_
  exact s_ireti (pc := 25) dX12_draw_25 rfl H
set_option maxRecDepth 20000 in
theorem b_X12_countIn_0 {l : Launch} {g : am_G} {d : Nat} {σ : am_S} {k : Int32 → am_S → Prop}  {x0 x1 x2 : Int32} (H : JI l g M_X12_countIn d 5 [(0, .int x0), (1, .int x1), (2, .int x2), (3, .int 0), (4, .int 0)] [] σ k) : CI l g M_X12_countIn d [.int x0, .int x1, .int x2] σ k := by
  show J l g (M_X12_countIn, d, 0, 0) 0 [(0, .int x0), (1, .int x1), (2, .int x2)] [] (hp σ) 0 0 (kI k)
  refine j_iconst (pc := 0) (v := 0) dX12_countIn_0 (by decide) ?_
  refine j_istore_n (pc := 1) (lv1 := [(3, .int 0), (0, .int x0), (1, .int x1), (2, .int x2)]) dX12_countIn_1 (Nat.le_of_ble_eq_true rfl) rfl ?_
  refine j_iconst (pc := 2) (v := 0) dX12_countIn_2 (by decide) ?_
  refine j_istore (pc := 3) (lv1 := [(4, .int 0), (3, .int 0), (0, .int x0), (1, .int x1), (2, .int x2)]) dX12_countIn_3 (Nat.le_of_ble_eq_true rfl) rfl ?_
  refine j_sub [2, 3, 4, 1, 0] rfl ?_
  exact H
set_option maxRecDepth 20000 in
theorem b_X12_countIn_5 {l : Launch} {g : am_G} {d : Nat} {σ : am_S} {k : Int32 → am_S → Prop}  {x0 x1 x2 x3 x4 : Int32} (hd : 1 ≤ d) (H : ((x2 ≤ x4 → k x3 σ) ∧ (¬ x2 ≤ x4 → ((¬ (x0 >>> ((2 * x4) &&& 31)) &&& 3 = x1 → JI l g M_X12_countIn d 5 [(0, .int x0), (1, .int x1), (2, .int x2), (3, .int x3), (4, .int (x4 + 1))] [] σ k) ∧ ((x0 >>> ((2 * x4) &&& 31)) &&& 3 = x1 → JI l g M_X12_countIn d 5 [(0, .int x0), (1, .int x1), (2, .int x2), (3, .int (x3 + 1)), (4, .int (x4 + 1))] [] σ k))))) : JI l g M_X12_countIn d 5 [(0, .int x0), (1, .int x1), (2, .int x2), (3, .int x3), (4, .int x4)] [] σ k := by
  show J l g (M_X12_countIn, d, 0, 0) 5 [(0, .int x0), (1, .int x1), (2, .int x2), (3, .int x3), (4, .int x4)] [] (hp σ) 0 0 (kI k)
  refine j_iload (pc := 5) dX12_countIn_5 rfl ?_
  refine j_iload_n (pc := 7) dX12_countIn_7 rfl ?_
  refine j_icmp_ge (pc := 8) (t := 30) dX12_countIn_8 (by decide) (fun c8 => ?_) (fun c8 => ?_)
  · replace H := H.1 c8
    refine j_iload_n (pc := 30) dX12_countIn_30 rfl ?_
    exact s_ireti (pc := 31) dX12_countIn_31 rfl H
  · replace H := H.2 c8
    refine j_iload_n (pc := 11) dX12_countIn_11 rfl ?_
    refine j_iload (pc := 12) dX12_countIn_12 rfl ?_
    refine s_callS_i (pc := 14) (M1 := M_X12_roomIn) (n := 2) (as := [.int x0, .int x4]) (st := []) dX12_countIn_14 G_X12_roomIn wm_X12_165 (by decide +kernel) rfl (Nat.le_of_ble_eq_true rfl) (by show 1 ≤ d; omega) (Nat.le_of_ble_eq_true rfl) ?_
    refine C_X12_roomIn (d := d - 1) (by omega) ?_
    refine j_iload_n (pc := 17) dX12_countIn_17 rfl ?_
    refine j_icmp_ne (pc := 18) (t := 24) dX12_countIn_18 (by decide) (fun c18 => ?_) (fun c18 => ?_)
    · replace H := H.1 c18
      refine j_iinc (pc := 24) (k := 4) (v := x4 + 1) (lv1 := [(4, .int (x4 + 1)), (0, .int x0), (1, .int x1), (2, .int x2), (3, .int x3)]) dX12_countIn_24 rfl rfl (Nat.le_of_ble_eq_true rfl) rfl ?_
      refine j_goto (pc := 27) (t := 5) dX12_countIn_27 (by decide) ?_
      refine j_sub [1, 2, 3, 4, 0] rfl ?_
      exact H
    · replace H := H.2 c18
      refine j_iinc (pc := 21) (k := 3) (v := x3 + 1) (lv1 := [(3, .int (x3 + 1)), (0, .int x0), (1, .int x1), (2, .int x2), (4, .int x4)]) dX12_countIn_21 rfl rfl (Nat.le_of_ble_eq_true rfl) rfl ?_
      refine j_iinc (pc := 24) (k := 4) (v := x4 + 1) (lv1 := [(4, .int (x4 + 1)), (3, .int (x3 + 1)), (0, .int x0), (1, .int x1), (2, .int x2)]) dX12_countIn_24 rfl rfl (Nat.le_of_ble_eq_true rfl) rfl ?_
      refine j_goto (pc := 27) (t := 5) dX12_countIn_27 (by decide) ?_
      refine j_sub [2, 3, 4, 1, 0] rfl ?_
      exact H
set_option maxRecDepth 20000 in
theorem b_X12_oneIn_0 {l : Launch} {g : am_G} {d : Nat} {σ : am_S} {k : Int32 → am_S → Prop}  {x0 x1 x2 : Int32} (H : JI l g M_X12_oneIn d 5 [(0, .int x0), (1, .int x1), (2, .int x2), (3, .int 0), (4, .int x2)] [] σ k) : CI l g M_X12_oneIn d [.int x0, .int x1, .int x2] σ k := by
  show J l g (M_X12_oneIn, d, 0, 0) 0 [(0, .int x0), (1, .int x1), (2, .int x2)] [] (hp σ) 0 0 (kI k)
  refine j_iconst (pc := 0) (v := 0) dX12_oneIn_0 (by decide) ?_
  refine j_istore_n (pc := 1) (lv1 := [(3, .int 0), (0, .int x0), (1, .int x1), (2, .int x2)]) dX12_oneIn_1 (Nat.le_of_ble_eq_true rfl) rfl ?_
  refine j_iload_n (pc := 2) dX12_oneIn_2 rfl ?_
  refine j_istore (pc := 3) (lv1 := [(4, .int x2), (3, .int 0), (0, .int x0), (1, .int x1), (2, .int x2)]) dX12_oneIn_3 (Nat.le_of_ble_eq_true rfl) rfl ?_
  refine j_sub [2, 3, 4, 1, 0] rfl ?_
  exact H
set_option maxRecDepth 20000 in
theorem b_X12_oneIn_5 {l : Launch} {g : am_G} {d : Nat} {σ : am_S} {k : Int32 → am_S → Prop}  {x0 x1 x2 x3 x4 : Int32} (hd : 1 ≤ d) (H : ((0 < x4 → ((¬ (x0 >>> ((2 * x3) &&& 31)) &&& 3 = x1 → JI l g M_X12_oneIn d 5 [(0, .int x0), (1, .int x1), (2, .int x2), (3, .int (x3 + 1)), (4, .int x4)] [] σ k) ∧ ((x0 >>> ((2 * x3) &&& 31)) &&& 3 = x1 → JI l g M_X12_oneIn d 5 [(0, .int x0), (1, .int x1), (2, .int x2), (3, .int (x3 + 1)), (4, .int (x4 + (-1)))] [] σ k))) ∧ (¬ 0 < x4 → (((x0 >>> ((2 * x3) &&& 31)) &&& 3 = x1 → k x3 σ) ∧ (¬ (x0 >>> ((2 * x3) &&& 31)) &&& 3 = x1 → ((¬ (x0 >>> ((2 * x3) &&& 31)) &&& 3 = x1 → JI l g M_X12_oneIn d 5 [(0, .int x0), (1, .int x1), (2, .int x2), (3, .int (x3 + 1)), (4, .int x4)] [] σ k) ∧ ((x0 >>> ((2 * x3) &&& 31)) &&& 3 = x1 → JI l g M_X12_oneIn d 5 [(0, .int x0), (1, .int x1), (2, .int x2), (3, .int (x3 + 1)), (4, .int (x4 + (-1)))] [] σ k))))))) : JI l g M_X12_oneIn d 5 [(0, .int x0), (1, .int x1), (2, .int x2), (3, .int x3), (4, .int x4)] [] σ k := by
  show J l g (M_X12_oneIn, d, 0, 0) 5 [(0, .int x0), (1, .int x1), (2, .int x2), (3, .int x3), (4, .int x4)] [] (hp σ) 0 0 (kI k)
  refine j_iload (pc := 5) dX12_oneIn_5 rfl ?_
  refine j_if_gt (pc := 7) (t := 19) dX12_oneIn_7 (by decide) (fun c7 => ?_) (fun c7 => ?_)
  · replace H := H.1 c7
    refine j_iload_n (pc := 19) dX12_oneIn_19 rfl ?_
    refine j_iload_n (pc := 20) dX12_oneIn_20 rfl ?_
    refine s_callS_i (pc := 21) (M1 := M_X12_roomIn) (n := 2) (as := [.int x0, .int x3]) (st := []) dX12_oneIn_21 G_X12_roomIn wm_X12_165 (by decide +kernel) rfl (Nat.le_of_ble_eq_true rfl) (by show 1 ≤ d; omega) (Nat.le_of_ble_eq_true rfl) ?_
    refine C_X12_roomIn (d := d - 1) (by omega) ?_
    refine j_iload_n (pc := 24) dX12_oneIn_24 rfl ?_
    refine j_icmp_ne (pc := 25) (t := 31) dX12_oneIn_25 (by decide) (fun c25 => ?_) (fun c25 => ?_)
    · replace H := H.1 c25
      refine j_iinc (pc := 31) (k := 3) (v := x3 + 1) (lv1 := [(3, .int (x3 + 1)), (0, .int x0), (1, .int x1), (2, .int x2), (4, .int x4)]) dX12_oneIn_31 rfl rfl (Nat.le_of_ble_eq_true rfl) rfl ?_
      refine j_goto (pc := 34) (t := 5) dX12_oneIn_34 (by decide) ?_
      refine j_sub [1, 2, 3, 0, 4] rfl ?_
      exact H
    · replace H := H.2 c25
      refine j_iinc (pc := 28) (k := 4) (v := x4 + (-1)) (lv1 := [(4, .int (x4 + (-1))), (0, .int x0), (1, .int x1), (2, .int x2), (3, .int x3)]) dX12_oneIn_28 rfl rfl (Nat.le_of_ble_eq_true rfl) rfl ?_
      refine j_iinc (pc := 31) (k := 4) (v := x3 + 1) (lv1 := [(3, .int (x3 + 1)), (4, .int (x4 + (-1))), (0, .int x0), (1, .int x1), (2, .int x2)]) dX12_oneIn_31 rfl rfl (Nat.le_of_ble_eq_true rfl) rfl ?_
      refine j_goto (pc := 34) (t := 5) dX12_oneIn_34 (by decide) ?_
      refine j_sub [2, 3, 4, 0, 1] rfl ?_
      exact H
  · replace H := H.2 c7
    refine j_iload_n (pc := 10) dX12_oneIn_10 rfl ?_
    refine j_iload_n (pc := 11) dX12_oneIn_11 rfl ?_
    refine s_callS_i (pc := 12) (M1 := M_X12_roomIn) (n := 2) (as := [.int x0, .int x3]) (st := []) dX12_oneIn_12 G_X12_roomIn wm_X12_165 (by decide +kernel) rfl (Nat.le_of_ble_eq_true rfl) (by show 1 ≤ d; omega) (Nat.le_of_ble_eq_true rfl) ?_
    refine C_X12_roomIn (d := d - 1) (by omega) ?_
    refine j_iload_n (pc := 15) dX12_oneIn_15 rfl ?_
    refine j_icmp_eq (pc := 16) (t := 37) dX12_oneIn_16 (by decide) (fun c16 => ?_) (fun c16 => ?_)
    · replace H := H.1 c16
      refine j_iload_n (pc := 37) dX12_oneIn_37 rfl ?_
      exact s_ireti (pc := 38) dX12_oneIn_38 rfl H
    · replace H := H.2 c16
      refine j_iload_n (pc := 19) dX12_oneIn_19 rfl ?_
      refine j_iload_n (pc := 20) dX12_oneIn_20 rfl ?_
      refine s_callS_i (pc := 21) (M1 := M_X12_roomIn) (n := 2) (as := [.int x0, .int x3]) (st := []) dX12_oneIn_21 G_X12_roomIn wm_X12_165 (by decide +kernel) rfl (Nat.le_of_ble_eq_true rfl) (by show 1 ≤ d; omega) (Nat.le_of_ble_eq_true rfl) ?_
      refine C_X12_roomIn (d := d - 1) (by omega) ?_
      refine j_iload_n (pc := 24) dX12_oneIn_24 rfl ?_
      refine j_icmp_ne (pc := 25) (t := 31) dX12_oneIn_25 (by decide) (fun c25 => ?_) (fun c25 => ?_)
      · replace H := H.1 c25
        refine j_iinc (pc := 31) (k := 3) (v := x3 + 1) (lv1 := [(3, .int (x3 + 1)), (0, .int x0), (1, .int x1), (2, .int x2), (4, .int x4)]) dX12_oneIn_31 rfl rfl (Nat.le_of_ble_eq_true rfl) rfl ?_
        refine j_goto (pc := 34) (t := 5) dX12_oneIn_34 (by decide) ?_
        refine j_sub [1, 2, 3, 0, 4] rfl ?_
        exact H
      · replace H := H.2 c25
        refine j_iinc (pc := 28) (k := 4) (v := x4 + (-1)) (lv1 := [(4, .int (x4 + (-1))), (0, .int x0), (1, .int x1), (2, .int x2), (3, .int x3)]) dX12_oneIn_28 rfl rfl (Nat.le_of_ble_eq_true rfl) rfl ?_
        refine j_iinc (pc := 31) (k := 4) (v := x3 + 1) (lv1 := [(3, .int (x3 + 1)), (4, .int (x4 + (-1))), (0, .int x0), (1, .int x1), (2, .int x2)]) dX12_oneIn_31 rfl rfl (Nat.le_of_ble_eq_true rfl) rfl ?_
        refine j_goto (pc := 34) (t := 5) dX12_oneIn_34 (by decide) ?_
        refine j_sub [2, 3, 4, 0, 1] rfl ?_
        exact H
set_option maxRecDepth 20000 in
theorem b_X12_tries_0 {l : Launch} {g : am_G} {d : Nat} {σ : am_S} {k : Int32 → am_S → Prop}  {x1 x2 x3 x4 : Int32} (hd : 2 ≤ d) (H : (((¬ x2 < 1 ∧ ¬ 99 < x2) → ((x3 = (-1) → ((0 ≤ x3 → (((¬ x4 < 0 ∧ ¬ 0 < x4) → ((¬ rg σ 3522 = 0 → CV l g M_X12_findNow (d - 1) [.ref 55] σ (fun σ3 => CI l g M_X12_isRest (d - 1) [.ref 55, .int (rg σ3 3529)] (sR σ3 3564 x1) (fun r4 σ4 => ((r4 = 0 → JI l g M_X12_tries d 91 [(0, .ref 55), (1, .int x1), (2, .int x2), (3, .int x3), (4, .int x4), (5, .int (rg σ3 3529)), (6, .int 0), (7, .int (-2)), (8, .int 1)] [] σ4 k) ∧ (¬ r4 = 0 → JI l g M_X12_tries d 91 [(0, .ref 55), (1, .int x1), (2, .int x2), (3, .int x3), (4, .int x4), (5, .int (rg σ3 3529)), (6, .int 0), (7, .int 0), (8, .int 1)] [] σ4 k))))) ∧ (rg σ 3522 = 0 → k (-5) σ))) ∧ (¬ (¬ x4 < 0 ∧ ¬ 0 < x4) → k (-1) σ))) ∧ (¬ 0 ≤ x3 → (((¬ x4 < 0 ∧ ¬ 1 < x4) → ((¬ rg σ 3522 = 0 → CV l g M_X12_findNow (d - 1) [.ref 55] σ (fun σ6 => CI l g M_X12_isRest (d - 1) [.ref 55, .int (rg σ6 3529)] (sR σ6 3564 x1) (fun r7 σ7 => ((r7 = 0 → JI l g M_X12_tries d 91 [(0, .ref 55), (1, .int x1), (2, .int x2), (3, .int x3), (4, .int x4), (5, .int (rg σ6 3529)), (6, .int 0), (7, .int (-2)), (8, .int 1)] [] σ7 k) ∧ (¬ r7 = 0 → JI l g M_X12_tries d 91 [(0, .ref 55), (1, .int x1), (2, .int x2), (3, .int x3), (4, .int x4), (5, .int (rg σ6 3529)), (6, .int 0), (7, .int 0), (8, .int 1)] [] σ7 k))))) ∧ (rg σ 3522 = 0 → k (-5) σ))) ∧ (¬ (¬ x4 < 0 ∧ ¬ 1 < x4) → k (-1) σ))))) ∧ (¬ x3 = (-1) → ((((¬ x3 < 0 ∧ ¬ (rg σ 3526) - 1 < x3)) → ((0 ≤ x3 → (((¬ x4 < 0 ∧ ¬ 0 < x4) → ((¬ rg σ 3522 = 0 → CV l g M_X12_findNow (d - 1) [.ref 55] σ (fun σ10 => CI l g M_X12_isRest (d - 1) [.ref 55, .int (rg σ10 3529)] (sR σ10 3564 x1) (fun r11 σ11 => ((r11 = 0 → JI l g M_X12_tries d 91 [(0, .ref 55), (1, .int x1), (2, .int x2), (3, .int x3), (4, .int x4), (5, .int (rg σ10 3529)), (6, .int 0), (7, .int (-2)), (8, .int 1)] [] σ11 k) ∧ (¬ r11 = 0 → JI l g M_X12_tries d 91 [(0, .ref 55), (1, .int x1), (2, .int x2), (3, .int x3), (4, .int x4), (5, .int (rg σ10 3529)), (6, .int 0), (7, .int 0), (8, .int 1)] [] σ11 k))))) ∧ (rg σ 3522 = 0 → k (-5) σ))) ∧ (¬ (¬ x4 < 0 ∧ ¬ 0 < x4) → k (-1) σ))) ∧ (¬ 0 ≤ x3 → (((¬ x4 < 0 ∧ ¬ 1 < x4) → ((¬ rg σ 3522 = 0 → CV l g M_X12_findNow (d - 1) [.ref 55] σ (fun σ13 => CI l g M_X12_isRest (d - 1) [.ref 55, .int (rg σ13 3529)] (sR σ13 3564 x1) (fun r14 σ14 => ((r14 = 0 → JI l g M_X12_tries d 91 [(0, .ref 55), (1, .int x1), (2, .int x2), (3, .int x3), (4, .int x4), (5, .int (rg σ13 3529)), (6, .int 0), (7, .int (-2)), (8, .int 1)] [] σ14 k) ∧ (¬ r14 = 0 → JI l g M_X12_tries d 91 [(0, .ref 55), (1, .int x1), (2, .int x2), (3, .int x3), (4, .int x4), (5, .int (rg σ13 3529)), (6, .int 0), (7, .int 0), (8, .int 1)] [] σ14 k))))) ∧ (rg σ 3522 = 0 → k (-5) σ))) ∧ (¬ (¬ x4 < 0 ∧ ¬ 1 < x4) → k (-1) σ))))) ∧ (¬ ((¬ x3 < 0 ∧ ¬ (rg σ 3526) - 1 < x3)) → k (-1) σ))))) ∧ (¬ (¬ x2 < 1 ∧ ¬ 99 < x2) → k (-1) σ))) : CI l g M_X12_tries d [.ref 55, .int x1, .int x2, .int x3, .int x4] σ k := by
  show J l g (M_X12_tries, d, 0, 0) 0 [(0, .ref 55), (1, .int x1), (2, .int x2), (3, .int x3), (4, .int x4)] [] (hp σ) 0 0 (kI k)
  refine j_iload_n (pc := 0) dX12_tries_0 rfl ?_
  refine j_iconst (pc := 1) (v := 1) dX12_tries_1 (by decide) ?_
  refine j_bipush (pc := 2) (v := 99) dX12_tries_2 (by decide) ?_
  refine s_callS_i (pc := 4) (M1 := M_X12_in) (n := 3) (as := [.int x2, .int 1, .int 99]) (st := []) dX12_tries_4 G_X12_in wm_X12_114 (by decide +kernel) rfl (Nat.le_of_ble_eq_true rfl) (by show 1 ≤ d; omega) (Nat.le_of_ble_eq_true rfl) ?_
  refine C_X12_in (d := d - 1) (by omega) ⟨fun c4 => ?_, fun c4 => ?_⟩
  · replace H := H.1 c4
    refine j_if_eq (pc := 7) (t := 41) dX12_tries_7 (by decide) (fun q => absurd q (by decide)) (fun _ => ?_)
    refine j_iload_n (pc := 10) dX12_tries_10 rfl ?_
    refine j_iconst (pc := 11) (v := -1) dX12_tries_11 (by decide) ?_
    refine j_icmp_eq (pc := 12) (t := 23) dX12_tries_12 (by decide) (fun c12 => ?_) (fun c12 => ?_)
    · replace H := H.1 c12
      refine j_iload (pc := 23) dX12_tries_23 rfl ?_
      refine j_iconst (pc := 25) (v := 0) dX12_tries_25 (by decide) ?_
      refine j_iload_n (pc := 26) dX12_tries_26 rfl ?_
      refine j_if_ge (pc := 27) (t := 34) dX12_tries_27 (by decide) (fun c27 => ?_) (fun c27 => ?_)
      · replace H := H.1 c27
        refine j_iconst (pc := 34) (v := 0) dX12_tries_34 (by decide) ?_
        refine s_callS_i (pc := 35) (M1 := M_X12_in) (n := 3) (as := [.int x4, .int 0, .int 0]) (st := []) dX12_tries_35 G_X12_in wm_X12_114 (by decide +kernel) rfl (Nat.le_of_ble_eq_true rfl) (by show 1 ≤ d; omega) (Nat.le_of_ble_eq_true rfl) ?_
        refine C_X12_in (d := d - 1) (by omega) ⟨fun c35 => ?_, fun c35 => ?_⟩
        · replace H := H.1 c35
          refine j_if_ne (pc := 38) (t := 43) dX12_tries_38 (by decide) (fun _ => ?_) (fun q => absurd q (by decide))
          refine j_aload_n (pc := 43) dX12_tries_43 rfl ?_
          refine s_geti (pc := 44) 3522 (rg σ 3522) dX12_tries_44 fl_X12_118 shp_55 rfl rfl rfl ?_
          refine j_if_ne (pc := 47) (t := 53) dX12_tries_47 (by decide) (fun c47 => ?_) (fun c47 => ?_)
          · replace H := H.1 c47
            refine j_aload_n (pc := 53) dX12_tries_53 rfl ?_
            refine s_callV_v (pc := 54) (M1 := M_X12_findNow) (n := 0) (as := []) (a := 55) (st := []) dX12_tries_54 G_X12_findNow wm_X12_258 (by decide +kernel) rfl (Nat.le_of_ble_eq_true rfl) shp_55 rfl (by show 1 ≤ d; omega) (Nat.le_of_ble_eq_true rfl) (Nat.zero_le _) (Nat.zero_le _) ?_
            refine CV.mono H (fun σ3 H => ?_)
            refine j_aload_n (pc := 57) dX12_tries_57 rfl ?_
            refine j_iload_n (pc := 58) dX12_tries_58 rfl ?_
            refine s_put (pc := 59) 3564 dX12_tries_59 fl_X12_314 shp_55 rfl rfl fp_12_44 rfl rfl ?_
            refine j_aload_n (pc := 62) dX12_tries_62 rfl ?_
            refine s_geti (pc := 63) 3529 (rg σ3 3529) dX12_tries_63 fl_X12_128 shp_55 rfl rfl rfl ?_
            refine j_istore (pc := 66) (lv1 := [(5, .int (rg σ3 3529)), (0, .ref 55), (1, .int x1), (2, .int x2), (3, .int x3), (4, .int x4)]) dX12_tries_66 (Nat.le_of_ble_eq_true rfl) rfl ?_
            refine j_iconst (pc := 68) (v := 0) dX12_tries_68 (by decide) ?_
            refine j_istore (pc := 69) (lv1 := [(6, .int 0), (5, .int (rg σ3 3529)), (0, .ref 55), (1, .int x1), (2, .int x2), (3, .int x3), (4, .int x4)]) dX12_tries_69 (Nat.le_of_ble_eq_true rfl) rfl ?_
            refine j_aload_n (pc := 71) dX12_tries_71 rfl ?_
            refine j_iload (pc := 72) dX12_tries_72 rfl ?_
            refine s_callV_i (pc := 74) (M1 := M_X12_isRest) (n := 1) (as := [.int (rg σ3 3529)]) (a := 55) (st := []) dX12_tries_74 G_X12_isRest wm_X12_301 (by decide +kernel) rfl (Nat.le_of_ble_eq_true rfl) shp_55 rfl (by show 1 ≤ d; omega) (Nat.le_of_ble_eq_true rfl) (Nat.zero_le _) (Nat.zero_le _) ?_
            refine CI.mono H (fun r4 σ4 H => ?_)
            refine j_if_eq (pc := 77) (t := 84) dX12_tries_77 (by decide) (fun c77 => ?_) (fun c77 => ?_)
            · replace H := H.1 c77
              refine j_bipush (pc := 84) (v := -2) dX12_tries_84 (by decide) ?_
              refine j_istore (pc := 86) (lv1 := [(7, .int (-2)), (6, .int 0), (5, .int (rg σ3 3529)), (0, .ref 55), (1, .int x1), (2, .int x2), (3, .int x3), (4, .int x4)]) dX12_tries_86 (Nat.le_of_ble_eq_true rfl) rfl ?_
              refine j_iconst (pc := 88) (v := 1) dX12_tries_88 (by decide) ?_
              refine j_istore (pc := 89) (lv1 := [(8, .int 1), (7, .int (-2)), (6, .int 0), (5, .int (rg σ3 3529)), (0, .ref 55), (1, .int x1), (2, .int x2), (3, .int x3), (4, .int x4)]) dX12_tries_89 (Nat.le_of_ble_eq_true rfl) rfl ?_
              refine j_sub [4, 5, 6, 7, 8, 3, 2, 1, 0] rfl ?_
              exact H
            · replace H := H.2 c77
              refine j_iconst (pc := 80) (v := 0) dX12_tries_80 (by decide) ?_
              refine j_goto (pc := 81) (t := 86) dX12_tries_81 (by decide) ?_
              refine j_istore (pc := 86) (lv1 := [(7, .int 0), (6, .int 0), (5, .int (rg σ3 3529)), (0, .ref 55), (1, .int x1), (2, .int x2), (3, .int x3), (4, .int x4)]) dX12_tries_86 (Nat.le_of_ble_eq_true rfl) rfl ?_
              refine j_iconst (pc := 88) (v := 1) dX12_tries_88 (by decide) ?_
              refine j_istore (pc := 89) (lv1 := [(8, .int 1), (7, .int 0), (6, .int 0), (5, .int (rg σ3 3529)), (0, .ref 55), (1, .int x1), (2, .int x2), (3, .int x3), (4, .int x4)]) dX12_tries_89 (Nat.le_of_ble_eq_true rfl) rfl ?_
              refine j_sub [4, 5, 6, 7, 8, 3, 2, 1, 0] rfl ?_
              exact H
          · replace H := H.2 c47
            refine j_bipush (pc := 50) (v := -5) dX12_tries_50 (by decide) ?_
            exact s_ireti (pc := 52) dX12_tries_52 rfl H
        · replace H := H.2 c35
          refine j_if_ne (pc := 38) (t := 43) dX12_tries_38 (by decide) (fun q => absurd q (by decide)) (fun _ => ?_)
          refine j_iconst (pc := 41) (v := -1) dX12_tries_41 (by decide) ?_
          exact s_ireti (pc := 42) dX12_tries_42 rfl H
      · replace H := H.2 c27
        refine j_iconst (pc := 30) (v := 1) dX12_tries_30 (by decide) ?_
        refine j_goto (pc := 31) (t := 35) dX12_tries_31 (by decide) ?_
        refine s_callS_i (pc := 35) (M1 := M_X12_in) (n := 3) (as := [.int x4, .int 0, .int 1]) (st := []) dX12_tries_35 G_X12_in wm_X12_114 (by decide +kernel) rfl (Nat.le_of_ble_eq_true rfl) (by show 1 ≤ d; omega) (Nat.le_of_ble_eq_true rfl) ?_
        refine C_X12_in (d := d - 1) (by omega) ⟨fun c35 => ?_, fun c35 => ?_⟩
        · replace H := H.1 c35
          refine j_if_ne (pc := 38) (t := 43) dX12_tries_38 (by decide) (fun _ => ?_) (fun q => absurd q (by decide))
          refine j_aload_n (pc := 43) dX12_tries_43 rfl ?_
          refine s_geti (pc := 44) 3522 (rg σ 3522) dX12_tries_44 fl_X12_118 shp_55 rfl rfl rfl ?_
          refine j_if_ne (pc := 47) (t := 53) dX12_tries_47 (by decide) (fun c47 => ?_) (fun c47 => ?_)
          · replace H := H.1 c47
            refine j_aload_n (pc := 53) dX12_tries_53 rfl ?_
            refine s_callV_v (pc := 54) (M1 := M_X12_findNow) (n := 0) (as := []) (a := 55) (st := []) dX12_tries_54 G_X12_findNow wm_X12_258 (by decide +kernel) rfl (Nat.le_of_ble_eq_true rfl) shp_55 rfl (by show 1 ≤ d; omega) (Nat.le_of_ble_eq_true rfl) (Nat.zero_le _) (Nat.zero_le _) ?_
            refine CV.mono H (fun σ6 H => ?_)
            refine j_aload_n (pc := 57) dX12_tries_57 rfl ?_
            refine j_iload_n (pc := 58) dX12_tries_58 rfl ?_
            refine s_put (pc := 59) 3564 dX12_tries_59 fl_X12_314 shp_55 rfl rfl fp_12_44 rfl rfl ?_
            refine j_aload_n (pc := 62) dX12_tries_62 rfl ?_
            refine s_geti (pc := 63) 3529 (rg σ6 3529) dX12_tries_63 fl_X12_128 shp_55 rfl rfl rfl ?_
            refine j_istore (pc := 66) (lv1 := [(5, .int (rg σ6 3529)), (0, .ref 55), (1, .int x1), (2, .int x2), (3, .int x3), (4, .int x4)]) dX12_tries_66 (Nat.le_of_ble_eq_true rfl) rfl ?_
            refine j_iconst (pc := 68) (v := 0) dX12_tries_68 (by decide) ?_
            refine j_istore (pc := 69) (lv1 := [(6, .int 0), (5, .int (rg σ6 3529)), (0, .ref 55), (1, .int x1), (2, .int x2), (3, .int x3), (4, .int x4)]) dX12_tries_69 (Nat.le_of_ble_eq_true rfl) rfl ?_
            refine j_aload_n (pc := 71) dX12_tries_71 rfl ?_
            refine j_iload (pc := 72) dX12_tries_72 rfl ?_
            refine s_callV_i (pc := 74) (M1 := M_X12_isRest) (n := 1) (as := [.int (rg σ6 3529)]) (a := 55) (st := []) dX12_tries_74 G_X12_isRest wm_X12_301 (by decide +kernel) rfl (Nat.le_of_ble_eq_true rfl) shp_55 rfl (by show 1 ≤ d; omega) (Nat.le_of_ble_eq_true rfl) (Nat.zero_le _) (Nat.zero_le _) ?_
            refine CI.mono H (fun r7 σ7 H => ?_)
            refine j_if_eq (pc := 77) (t := 84) dX12_tries_77 (by decide) (fun c77 => ?_) (fun c77 => ?_)
            · replace H := H.1 c77
              refine j_bipush (pc := 84) (v := -2) dX12_tries_84 (by decide) ?_
              refine j_istore (pc := 86) (lv1 := [(7, .int (-2)), (6, .int 0), (5, .int (rg σ6 3529)), (0, .ref 55), (1, .int x1), (2, .int x2), (3, .int x3), (4, .int x4)]) dX12_tries_86 (Nat.le_of_ble_eq_true rfl) rfl ?_
              refine j_iconst (pc := 88) (v := 1) dX12_tries_88 (by decide) ?_
              refine j_istore (pc := 89) (lv1 := [(8, .int 1), (7, .int (-2)), (6, .int 0), (5, .int (rg σ6 3529)), (0, .ref 55), (1, .int x1), (2, .int x2), (3, .int x3), (4, .int x4)]) dX12_tries_89 (Nat.le_of_ble_eq_true rfl) rfl ?_
              refine j_sub [4, 5, 6, 7, 8, 3, 2, 1, 0] rfl ?_
              exact H
            · replace H := H.2 c77
              refine j_iconst (pc := 80) (v := 0) dX12_tries_80 (by decide) ?_
              refine j_goto (pc := 81) (t := 86) dX12_tries_81 (by decide) ?_
              refine j_istore (pc := 86) (lv1 := [(7, .int 0), (6, .int 0), (5, .int (rg σ6 3529)), (0, .ref 55), (1, .int x1), (2, .int x2), (3, .int x3), (4, .int x4)]) dX12_tries_86 (Nat.le_of_ble_eq_true rfl) rfl ?_
              refine j_iconst (pc := 88) (v := 1) dX12_tries_88 (by decide) ?_
              refine j_istore (pc := 89) (lv1 := [(8, .int 1), (7, .int 0), (6, .int 0), (5, .int (rg σ6 3529)), (0, .ref 55), (1, .int x1), (2, .int x2), (3, .int x3), (4, .int x4)]) dX12_tries_89 (Nat.le_of_ble_eq_true rfl) rfl ?_
              refine j_sub [4, 5, 6, 7, 8, 3, 2, 1, 0] rfl ?_
              exact H
          · replace H := H.2 c47
            refine j_bipush (pc := 50) (v := -5) dX12_tries_50 (by decide) ?_
            exact s_ireti (pc := 52) dX12_tries_52 rfl H
        · replace H := H.2 c35
          refine j_if_ne (pc := 38) (t := 43) dX12_tries_38 (by decide) (fun q => absurd q (by decide)) (fun _ => ?_)
          refine j_iconst (pc := 41) (v := -1) dX12_tries_41 (by decide) ?_
          exact s_ireti (pc := 42) dX12_tries_42 rfl H
    · replace H := H.2 c12
      refine j_aload_n (pc := 15) dX12_tries_15 rfl ?_
      refine j_iload_n (pc := 16) dX12_tries_16 rfl ?_
      refine s_callV_i (pc := 17) (M1 := M_X12_isPerson) (n := 1) (as := [.int x3]) (a := 55) (st := []) dX12_tries_17 G_X12_isPerson wm_X12_155 (by decide +kernel) rfl (Nat.le_of_ble_eq_true rfl) shp_55 rfl (by show 1 ≤ d; omega) (Nat.le_of_ble_eq_true rfl) (Nat.zero_le _) (Nat.zero_le _) ?_
      refine C_X12_isPerson (d := d - 1) (by omega) ⟨fun c17 => ?_, fun c17 => ?_⟩
      · replace H := H.1 c17
        refine j_if_eq (pc := 20) (t := 41) dX12_tries_20 (by decide) (fun q => absurd q (by decide)) (fun _ => ?_)
        refine j_iload (pc := 23) dX12_tries_23 rfl ?_
        refine j_iconst (pc := 25) (v := 0) dX12_tries_25 (by decide) ?_
        refine j_iload_n (pc := 26) dX12_tries_26 rfl ?_
        refine j_if_ge (pc := 27) (t := 34) dX12_tries_27 (by decide) (fun c27 => ?_) (fun c27 => ?_)
        · replace H := H.1 c27
          refine j_iconst (pc := 34) (v := 0) dX12_tries_34 (by decide) ?_
          refine s_callS_i (pc := 35) (M1 := M_X12_in) (n := 3) (as := [.int x4, .int 0, .int 0]) (st := []) dX12_tries_35 G_X12_in wm_X12_114 (by decide +kernel) rfl (Nat.le_of_ble_eq_true rfl) (by show 1 ≤ d; omega) (Nat.le_of_ble_eq_true rfl) ?_
          refine C_X12_in (d := d - 1) (by omega) ⟨fun c35 => ?_, fun c35 => ?_⟩
          · replace H := H.1 c35
            refine j_if_ne (pc := 38) (t := 43) dX12_tries_38 (by decide) (fun _ => ?_) (fun q => absurd q (by decide))
            refine j_aload_n (pc := 43) dX12_tries_43 rfl ?_
            refine s_geti (pc := 44) 3522 (rg σ 3522) dX12_tries_44 fl_X12_118 shp_55 rfl rfl rfl ?_
            refine j_if_ne (pc := 47) (t := 53) dX12_tries_47 (by decide) (fun c47 => ?_) (fun c47 => ?_)
            · replace H := H.1 c47
              refine j_aload_n (pc := 53) dX12_tries_53 rfl ?_
              refine s_callV_v (pc := 54) (M1 := M_X12_findNow) (n := 0) (as := []) (a := 55) (st := []) dX12_tries_54 G_X12_findNow wm_X12_258 (by decide +kernel) rfl (Nat.le_of_ble_eq_true rfl) shp_55 rfl (by show 1 ≤ d; omega) (Nat.le_of_ble_eq_true rfl) (Nat.zero_le _) (Nat.zero_le _) ?_
              refine CV.mono H (fun σ10 H => ?_)
              refine j_aload_n (pc := 57) dX12_tries_57 rfl ?_
              refine j_iload_n (pc := 58) dX12_tries_58 rfl ?_
              refine s_put (pc := 59) 3564 dX12_tries_59 fl_X12_314 shp_55 rfl rfl fp_12_44 rfl rfl ?_
              refine j_aload_n (pc := 62) dX12_tries_62 rfl ?_
              refine s_geti (pc := 63) 3529 (rg σ10 3529) dX12_tries_63 fl_X12_128 shp_55 rfl rfl rfl ?_
              refine j_istore (pc := 66) (lv1 := [(5, .int (rg σ10 3529)), (0, .ref 55), (1, .int x1), (2, .int x2), (3, .int x3), (4, .int x4)]) dX12_tries_66 (Nat.le_of_ble_eq_true rfl) rfl ?_
              refine j_iconst (pc := 68) (v := 0) dX12_tries_68 (by decide) ?_
              refine j_istore (pc := 69) (lv1 := [(6, .int 0), (5, .int (rg σ10 3529)), (0, .ref 55), (1, .int x1), (2, .int x2), (3, .int x3), (4, .int x4)]) dX12_tries_69 (Nat.le_of_ble_eq_true rfl) rfl ?_
              refine j_aload_n (pc := 71) dX12_tries_71 rfl ?_
              refine j_iload (pc := 72) dX12_tries_72 rfl ?_
              refine s_callV_i (pc := 74) (M1 := M_X12_isRest) (n := 1) (as := [.int (rg σ10 3529)]) (a := 55) (st := []) dX12_tries_74 G_X12_isRest wm_X12_301 (by decide +kernel) rfl (Nat.le_of_ble_eq_true rfl) shp_55 rfl (by show 1 ≤ d; omega) (Nat.le_of_ble_eq_true rfl) (Nat.zero_le _) (Nat.zero_le _) ?_
              refine CI.mono H (fun r11 σ11 H => ?_)
              refine j_if_eq (pc := 77) (t := 84) dX12_tries_77 (by decide) (fun c77 => ?_) (fun c77 => ?_)
              · replace H := H.1 c77
                refine j_bipush (pc := 84) (v := -2) dX12_tries_84 (by decide) ?_
                refine j_istore (pc := 86) (lv1 := [(7, .int (-2)), (6, .int 0), (5, .int (rg σ10 3529)), (0, .ref 55), (1, .int x1), (2, .int x2), (3, .int x3), (4, .int x4)]) dX12_tries_86 (Nat.le_of_ble_eq_true rfl) rfl ?_
                refine j_iconst (pc := 88) (v := 1) dX12_tries_88 (by decide) ?_
                refine j_istore (pc := 89) (lv1 := [(8, .int 1), (7, .int (-2)), (6, .int 0), (5, .int (rg σ10 3529)), (0, .ref 55), (1, .int x1), (2, .int x2), (3, .int x3), (4, .int x4)]) dX12_tries_89 (Nat.le_of_ble_eq_true rfl) rfl ?_
                refine j_sub [4, 5, 6, 7, 8, 3, 2, 1, 0] rfl ?_
                exact H
              · replace H := H.2 c77
                refine j_iconst (pc := 80) (v := 0) dX12_tries_80 (by decide) ?_
                refine j_goto (pc := 81) (t := 86) dX12_tries_81 (by decide) ?_
                refine j_istore (pc := 86) (lv1 := [(7, .int 0), (6, .int 0), (5, .int (rg σ10 3529)), (0, .ref 55), (1, .int x1), (2, .int x2), (3, .int x3), (4, .int x4)]) dX12_tries_86 (Nat.le_of_ble_eq_true rfl) rfl ?_
                refine j_iconst (pc := 88) (v := 1) dX12_tries_88 (by decide) ?_
                refine j_istore (pc := 89) (lv1 := [(8, .int 1), (7, .int 0), (6, .int 0), (5, .int (rg σ10 3529)), (0, .ref 55), (1, .int x1), (2, .int x2), (3, .int x3), (4, .int x4)]) dX12_tries_89 (Nat.le_of_ble_eq_true rfl) rfl ?_
                refine j_sub [4, 5, 6, 7, 8, 3, 2, 1, 0] rfl ?_
                exact H
            · replace H := H.2 c47
              refine j_bipush (pc := 50) (v := -5) dX12_tries_50 (by decide) ?_
              exact s_ireti (pc := 52) dX12_tries_52 rfl H
          · replace H := H.2 c35
            refine j_if_ne (pc := 38) (t := 43) dX12_tries_38 (by decide) (fun q => absurd q (by decide)) (fun _ => ?_)
            refine j_iconst (pc := 41) (v := -1) dX12_tries_41 (by decide) ?_
            exact s_ireti (pc := 42) dX12_tries_42 rfl H
        · replace H := H.2 c27
          refine j_iconst (pc := 30) (v := 1) dX12_tries_30 (by decide) ?_
          refine j_goto (pc := 31) (t := 35) dX12_tries_31 (by decide) ?_
          refine s_callS_i (pc := 35) (M1 := M_X12_in) (n := 3) (as := [.int x4, .int 0, .int 1]) (st := []) dX12_tries_35 G_X12_in wm_X12_114 (by decide +kernel) rfl (Nat.le_of_ble_eq_true rfl) (by show 1 ≤ d; omega) (Nat.le_of_ble_eq_true rfl) ?_
          refine C_X12_in (d := d - 1) (by omega) ⟨fun c35 => ?_, fun c35 => ?_⟩
          · replace H := H.1 c35
            refine j_if_ne (pc := 38) (t := 43) dX12_tries_38 (by decide) (fun _ => ?_) (fun q => absurd q (by decide))
            refine j_aload_n (pc := 43) dX12_tries_43 rfl ?_
            refine s_geti (pc := 44) 3522 (rg σ 3522) dX12_tries_44 fl_X12_118 shp_55 rfl rfl rfl ?_
            refine j_if_ne (pc := 47) (t := 53) dX12_tries_47 (by decide) (fun c47 => ?_) (fun c47 => ?_)
            · replace H := H.1 c47
              refine j_aload_n (pc := 53) dX12_tries_53 rfl ?_
              refine s_callV_v (pc := 54) (M1 := M_X12_findNow) (n := 0) (as := []) (a := 55) (st := []) dX12_tries_54 G_X12_findNow wm_X12_258 (by decide +kernel) rfl (Nat.le_of_ble_eq_true rfl) shp_55 rfl (by show 1 ≤ d; omega) (Nat.le_of_ble_eq_true rfl) (Nat.zero_le _) (Nat.zero_le _) ?_
              refine CV.mono H (fun σ13 H => ?_)
              refine j_aload_n (pc := 57) dX12_tries_57 rfl ?_
              refine j_iload_n (pc := 58) dX12_tries_58 rfl ?_
              refine s_put (pc := 59) 3564 dX12_tries_59 fl_X12_314 shp_55 rfl rfl fp_12_44 rfl rfl ?_
              refine j_aload_n (pc := 62) dX12_tries_62 rfl ?_
              refine s_geti (pc := 63) 3529 (rg σ13 3529) dX12_tries_63 fl_X12_128 shp_55 rfl rfl rfl ?_
              refine j_istore (pc := 66) (lv1 := [(5, .int (rg σ13 3529)), (0, .ref 55), (1, .int x1), (2, .int x2), (3, .int x3), (4, .int x4)]) dX12_tries_66 (Nat.le_of_ble_eq_true rfl) rfl ?_
              refine j_iconst (pc := 68) (v := 0) dX12_tries_68 (by decide) ?_
              refine j_istore (pc := 69) (lv1 := [(6, .int 0), (5, .int (rg σ13 3529)), (0, .ref 55), (1, .int x1), (2, .int x2), (3, .int x3), (4, .int x4)]) dX12_tries_69 (Nat.le_of_ble_eq_true rfl) rfl ?_
              refine j_aload_n (pc := 71) dX12_tries_71 rfl ?_
              refine j_iload (pc := 72) dX12_tries_72 rfl ?_
              refine s_callV_i (pc := 74) (M1 := M_X12_isRest) (n := 1) (as := [.int (rg σ13 3529)]) (a := 55) (st := []) dX12_tries_74 G_X12_isRest wm_X12_301 (by decide +kernel) rfl (Nat.le_of_ble_eq_true rfl) shp_55 rfl (by show 1 ≤ d; omega) (Nat.le_of_ble_eq_true rfl) (Nat.zero_le _) (Nat.zero_le _) ?_
              refine CI.mono H (fun r14 σ14 H => ?_)
              refine j_if_eq (pc := 77) (t := 84) dX12_tries_77 (by decide) (fun c77 => ?_) (fun c77 => ?_)
              · replace H := H.1 c77
                refine j_bipush (pc := 84) (v := -2) dX12_tries_84 (by decide) ?_
                refine j_istore (pc := 86) (lv1 := [(7, .int (-2)), (6, .int 0), (5, .int (rg σ13 3529)), (0, .ref 55), (1, .int x1), (2, .int x2), (3, .int x3), (4, .int x4)]) dX12_tries_86 (Nat.le_of_ble_eq_true rfl) rfl ?_
                refine j_iconst (pc := 88) (v := 1) dX12_tries_88 (by decide) ?_
                refine j_istore (pc := 89) (lv1 := [(8, .int 1), (7, .int (-2)), (6, .int 0), (5, .int (rg σ13 3529)), (0, .ref 55), (1, .int x1), (2, .int x2), (3, .int x3), (4, .int x4)]) dX12_tries_89 (Nat.le_of_ble_eq_true rfl) rfl ?_
                refine j_sub [4, 5, 6, 7, 8, 3, 2, 1, 0] rfl ?_
                exact H
              · replace H := H.2 c77
                refine j_iconst (pc := 80) (v := 0) dX12_tries_80 (by decide) ?_
                refine j_goto (pc := 81) (t := 86) dX12_tries_81 (by decide) ?_
                refine j_istore (pc := 86) (lv1 := [(7, .int 0), (6, .int 0), (5, .int (rg σ13 3529)), (0, .ref 55), (1, .int x1), (2, .int x2), (3, .int x3), (4, .int x4)]) dX12_tries_86 (Nat.le_of_ble_eq_true rfl) rfl ?_
                refine j_iconst (pc := 88) (v := 1) dX12_tries_88 (by decide) ?_
                refine j_istore (pc := 89) (lv1 := [(8, .int 1), (7, .int 0), (6, .int 0), (5, .int (rg σ13 3529)), (0, .ref 55), (1, .int x1), (2, .int x2), (3, .int x3), (4, .int x4)]) dX12_tries_89 (Nat.le_of_ble_eq_true rfl) rfl ?_
                refine j_sub [4, 5, 6, 7, 8, 3, 2, 1, 0] rfl ?_
                exact H
            · replace H := H.2 c47
              refine j_bipush (pc := 50) (v := -5) dX12_tries_50 (by decide) ?_
              exact s_ireti (pc := 52) dX12_tries_52 rfl H
          · replace H := H.2 c35
            refine j_if_ne (pc := 38) (t := 43) dX12_tries_38 (by decide) (fun q => absurd q (by decide)) (fun _ => ?_)
            refine j_iconst (pc := 41) (v := -1) dX12_tries_41 (by decide) ?_
            exact s_ireti (pc := 42) dX12_tries_42 rfl H
      · replace H := H.2 c17
        refine j_if_eq (pc := 20) (t := 41) dX12_tries_20 (by decide) (fun _ => ?_) (fun q => absurd q (by decide))
        refine j_iconst (pc := 41) (v := -1) dX12_tries_41 (by decide) ?_
        exact s_ireti (pc := 42) dX12_tries_42 rfl H
  · replace H := H.2 c4
    refine j_if_eq (pc := 7) (t := 41) dX12_tries_7 (by decide) (fun _ => ?_) (fun q => absurd q (by decide))
    refine j_iconst (pc := 41) (v := -1) dX12_tries_41 (by decide) ?_
    exact s_ireti (pc := 42) dX12_tries_42 rfl H
set_option maxRecDepth 20000 in
theorem b_X12_tries_91 {l : Launch} {g : am_G} {d : Nat} {σ : am_S} {k : Int32 → am_S → Prop}  {x1 x2 x3 x4 x5 x6 x7 x8 : Int32} (hd : 2 ≤ d) (H : ((x2 < x8 → ((x3 < 0 → ((¬ x4 = 0 → k x7 σ) ∧ (x4 = 0 → k x6 σ))) ∧ (¬ x3 < 0 → k ((x5 >>> ((2 * x3) &&& 31)) &&& 3) σ))) ∧ (¬ x2 < x8 → CI l g M_X12_draw (d - 1) [.ref 55, .int (rg σ 3522)] σ (fun r1 σ1 => (vp_in r1 5 ∧ CI l g M_X12_countIn (d - 1) [.int x5, .int (ar σ1 74 r1.toNatClampNeg), .int (rg σ1 3526)] σ1 (fun r2 σ2 => (vp_in r1 5 ∧ CI l g M_X12_countIn (d - 1) [.int x5, .int (ar σ2 75 r1.toNatClampNeg), .int (rg σ2 3526)] σ2 (fun r3 σ3 => ((r2 = 0 → JI l g M_X12_tries d 91 [(0, .ref 55), (1, .int x1), (2, .int x2), (3, .int x3), (4, .int x4), (5, .int x5), (6, .int x6), (7, .int x7), (8, .int (x8 + 1))] [] σ3 k) ∧ (¬ r2 = 0 → ((¬ r3 = 0 → (vp_in r1 5 ∧ CI l g M_X12_draw (d - 1) [.ref 55, .int r2] σ3 (fun r4 σ4 => CI l g M_X12_oneIn (d - 1) [.int x5, .int (ar σ3 74 r1.toNatClampNeg), .int r4] σ4 (fun r5 σ5 => (vp_in r1 5 ∧ CI l g M_X12_draw (d - 1) [.ref 55, .int r3] σ5 (fun r6 σ6 => CI l g M_X12_oneIn (d - 1) [.int x5, .int (ar σ5 75 r1.toNatClampNeg), .int r6] σ6 (fun r7 σ7 => CI l g M_X12_can (d - 1) [.ref 55, .int x5, .int r1, .int r5, .int r7] σ7 (fun r8 σ8 => ((¬ r8 = 0 → (∀ x5_9 : Int32, x5_9 = (((x5 &&& (((3 : Int32) <<< ((2 * r5) &&& 31)) ^^^ (-1))) ||| (((x5 >>> ((2 * r7) &&& 31)) &&& 3) <<< ((2 * r5) &&& 31))) &&& (((3 : Int32) <<< ((2 * r7) &&& 31)) ^^^ (-1))) ||| (((x5 >>> ((2 * r5) &&& 31)) &&& 3) <<< ((2 * r7) &&& 31)) → ((0 ≤ x7 → JI l g M_X12_tries d 91 [(0, .ref 55), (1, .int x1), (2, .int x2), (3, .int x3), (4, .int x4), (5, .int x5_9), (6, .int (x6 + 1)), (7, .int x7), (8, .int (x8 + 1))] [] σ8 k) ∧ (¬ 0 ≤ x7 → CI l g M_X12_isRest (d - 1) [.ref 55, .int x5_9] σ8 (fun r10 σ10 => ((r10 = 0 → JI l g M_X12_tries d 91 [(0, .ref 55), (1, .int x1), (2, .int x2), (3, .int x3), (4, .int x4), (5, .int x5_9), (6, .int (x6 + 1)), (7, .int x7), (8, .int (x8 + 1))] [] σ10 k) ∧ (¬ r10 = 0 → JI l g M_X12_tries d 91 [(0, .ref 55), (1, .int x1), (2, .int x2), (3, .int x3), (4, .int x4), (5, .int x5_9), (6, .int (x6 + 1)), (7, .int x8), (8, .int (x8 + 1))] [] σ10 k))))))) ∧ (r8 = 0 → JI l g M_X12_tries d 91 [(0, .ref 55), (1, .int x1), (2, .int x2), (3, .int x3), (4, .int x4), (5, .int x5), (6, .int x6), (7, .int x7), (8, .int (x8 + 1))] [] σ8 k)))))))))) ∧ (r3 = 0 → JI l g M_X12_tries d 91 [(0, .ref 55), (1, .int x1), (2, .int x2), (3, .int x3), (4, .int x4), (5, .int x5), (6, .int x6), (7, .int x7), (8, .int (x8 + 1))] [] σ3 k)))))))))))) : JI l g M_X12_tries d 91 [(0, .ref 55), (1, .int x1), (2, .int x2), (3, .int x3), (4, .int x4), (5, .int x5), (6, .int x6), (7, .int x7), (8, .int x8)] [] σ k := by
  show J l g (M_X12_tries, d, 0, 0) 91 [(0, .ref 55), (1, .int x1), (2, .int x2), (3, .int x3), (4, .int x4), (5, .int x5), (6, .int x6), (7, .int x7), (8, .int x8)] [] (hp σ) 0 0 (kI k)
  refine j_iload (pc := 91) dX12_tries_91 rfl ?_
  refine j_iload_n (pc := 93) dX12_tries_93 rfl ?_
  refine j_icmp_gt (pc := 94) (t := 252) dX12_tries_94 (by decide) (fun c94 => ?_) (fun c94 => ?_)
  · replace H := H.1 c94
    refine j_iload_n (pc := 252) dX12_tries_252 rfl ?_
    refine j_if_lt (pc := 253) (t := 265) dX12_tries_253 (by decide) (fun c253 => ?_) (fun c253 => ?_)
    · replace H := H.1 c253
      refine j_iload (pc := 265) dX12_tries_265 rfl ?_
      refine j_if_ne (pc := 267) (t := 275) dX12_tries_267 (by decide) (fun c267 => ?_) (fun c267 => ?_)
      · replace H := H.1 c267
        refine j_iload (pc := 275) dX12_tries_275 rfl ?_
        exact s_ireti (pc := 277) dX12_tries_277 rfl H
      · replace H := H.2 c267
        refine j_iload (pc := 270) dX12_tries_270 rfl ?_
        refine j_goto (pc := 272) (t := 277) dX12_tries_272 (by decide) ?_
        exact s_ireti (pc := 277) dX12_tries_277 rfl H
    · replace H := H.2 c253
      refine j_iload (pc := 256) dX12_tries_256 rfl ?_
      refine j_iload_n (pc := 258) dX12_tries_258 rfl ?_
      refine s_callS_i (pc := 259) (M1 := M_X12_roomIn) (n := 2) (as := [.int x5, .int x3]) (st := []) dX12_tries_259 G_X12_roomIn wm_X12_165 (by decide +kernel) rfl (Nat.le_of_ble_eq_true rfl) (by show 1 ≤ d; omega) (Nat.le_of_ble_eq_true rfl) ?_
      refine C_X12_roomIn (d := d - 1) (by omega) ?_
      refine j_goto (pc := 262) (t := 277) dX12_tries_262 (by decide) ?_
      exact s_ireti (pc := 277) dX12_tries_277 rfl H
  · replace H := H.2 c94
    refine j_aload_n (pc := 97) dX12_tries_97 rfl ?_
    refine j_aload_n (pc := 98) dX12_tries_98 rfl ?_
    refine s_geti (pc := 99) 3522 (rg σ 3522) dX12_tries_99 fl_X12_118 shp_55 rfl rfl rfl ?_
    refine s_callV_i (pc := 102) (M1 := M_X12_draw) (n := 1) (as := [.int (rg σ 3522)]) (a := 55) (st := []) dX12_tries_102 G_X12_draw wm_X12_318 (by decide +kernel) rfl (Nat.le_of_ble_eq_true rfl) shp_55 rfl (by show 1 ≤ d; omega) (Nat.le_of_ble_eq_true rfl) (Nat.zero_le _) (Nat.zero_le _) ?_
    refine CI.mono H (fun r1 σ1 H => ?_)
    refine j_istore (pc := 105) (lv1 := [(9, .int r1), (0, .ref 55), (1, .int x1), (2, .int x2), (3, .int x3), (4, .int x4), (5, .int x5), (6, .int x6), (7, .int x7), (8, .int x8)]) dX12_tries_105 (Nat.le_of_ble_eq_true rfl) rfl ?_
    refine j_iload (pc := 107) dX12_tries_107 rfl ?_
    refine j_aload_n (pc := 109) dX12_tries_109 rfl ?_
    refine s_getr (pc := 110) dX12_tries_110 fl_X12_74 shp_55 rfl ?_
    refine j_iload (pc := 113) dX12_tries_113 rfl ?_
    have b115 := H.1
    replace H := H.2
    refine s_iald (pc := 115) (ar σ1 74 r1.toNatClampNeg) dX12_tries_115 shp_74 b115 rfl ?_
    refine j_aload_n (pc := 116) dX12_tries_116 rfl ?_
    refine s_geti (pc := 117) 3526 (rg σ1 3526) dX12_tries_117 fl_X12_121 shp_55 rfl rfl rfl ?_
    refine s_callS_i (pc := 120) (M1 := M_X12_countIn) (n := 3) (as := [.int x5, .int (ar σ1 74 r1.toNatClampNeg), .int (rg σ1 3526)]) (st := []) dX12_tries_120 G_X12_countIn wm_X12_321 (by decide +kernel) rfl (Nat.le_of_ble_eq_true rfl) (by show 1 ≤ d; omega) (Nat.le_of_ble_eq_true rfl) ?_
    refine CI.mono H (fun r2 σ2 H => ?_)
    refine j_istore (pc := 123) (lv1 := [(10, .int r2), (9, .int r1), (0, .ref 55), (1, .int x1), (2, .int x2), (3, .int x3), (4, .int x4), (5, .int x5), (6, .int x6), (7, .int x7), (8, .int x8)]) dX12_tries_123 (Nat.le_of_ble_eq_true rfl) rfl ?_
    refine j_iload (pc := 125) dX12_tries_125 rfl ?_
    refine j_aload_n (pc := 127) dX12_tries_127 rfl ?_
    refine s_getr (pc := 128) dX12_tries_128 fl_X12_77 shp_55 rfl ?_
    refine j_iload (pc := 131) dX12_tries_131 rfl ?_
    have b133 := H.1
    replace H := H.2
    refine s_iald (pc := 133) (ar σ2 75 r1.toNatClampNeg) dX12_tries_133 shp_75 b133 rfl ?_
    refine j_aload_n (pc := 134) dX12_tries_134 rfl ?_
    refine s_geti (pc := 135) 3526 (rg σ2 3526) dX12_tries_135 fl_X12_121 shp_55 rfl rfl rfl ?_
    refine s_callS_i (pc := 138) (M1 := M_X12_countIn) (n := 3) (as := [.int x5, .int (ar σ2 75 r1.toNatClampNeg), .int (rg σ2 3526)]) (st := []) dX12_tries_138 G_X12_countIn wm_X12_321 (by decide +kernel) rfl (Nat.le_of_ble_eq_true rfl) (by show 1 ≤ d; omega) (Nat.le_of_ble_eq_true rfl) ?_
    refine CI.mono H (fun r3 σ3 H => ?_)
    refine j_istore (pc := 141) (lv1 := [(11, .int r3), (10, .int r2), (9, .int r1), (0, .ref 55), (1, .int x1), (2, .int x2), (3, .int x3), (4, .int x4), (5, .int x5), (6, .int x6), (7, .int x7), (8, .int x8)]) dX12_tries_141 (Nat.le_of_ble_eq_true rfl) rfl ?_
    refine j_iload (pc := 143) dX12_tries_143 rfl ?_
    refine j_if_eq (pc := 145) (t := 246) dX12_tries_145 (by decide) (fun c145 => ?_) (fun c145 => ?_)
    · replace H := H.1 c145
      refine j_iinc (pc := 246) (k := 11) (v := x8 + 1) (lv1 := [(8, .int (x8 + 1)), (11, .int r3), (10, .int r2), (9, .int r1), (0, .ref 55), (1, .int x1), (2, .int x2), (3, .int x3), (4, .int x4), (5, .int x5), (6, .int x6), (7, .int x7)]) dX12_tries_246 rfl rfl (Nat.le_of_ble_eq_true rfl) rfl ?_
      refine j_goto (pc := 249) (t := 91) dX12_tries_249 (by decide) ?_
      refine j_sub [4, 5, 6, 7, 8, 9, 10, 11, 0] rfl ?_
      exact H
    · replace H := H.2 c145
      refine j_iload (pc := 148) dX12_tries_148 rfl ?_
      refine j_if_ne (pc := 150) (t := 156) dX12_tries_150 (by decide) (fun c150 => ?_) (fun c150 => ?_)
      · replace H := H.1 c150
        refine j_iload (pc := 156) dX12_tries_156 rfl ?_
        refine j_aload_n (pc := 158) dX12_tries_158 rfl ?_
        refine s_getr (pc := 159) dX12_tries_159 fl_X12_74 shp_55 rfl ?_
        refine j_iload (pc := 162) dX12_tries_162 rfl ?_
        have b164 := H.1
        replace H := H.2
        refine s_iald (pc := 164) (ar σ3 74 r1.toNatClampNeg) dX12_tries_164 shp_74 b164 rfl ?_
        refine j_aload_n (pc := 165) dX12_tries_165 rfl ?_
        refine j_iload (pc := 166) dX12_tries_166 rfl ?_
        refine s_callV_i (pc := 168) (M1 := M_X12_draw) (n := 1) (as := [.int r2]) (a := 55) (st := [.int (ar σ3 74 r1.toNatClampNeg), .int x5]) dX12_tries_168 G_X12_draw wm_X12_318 (by decide +kernel) rfl (Nat.le_of_ble_eq_true rfl) shp_55 rfl (by show 1 ≤ d; omega) (Nat.le_of_ble_eq_true rfl) (Nat.zero_le _) (Nat.zero_le _) ?_
        refine CI.mono H (fun r4 σ4 H => ?_)
        refine s_callS_i (pc := 171) (M1 := M_X12_oneIn) (n := 3) (as := [.int x5, .int (ar σ3 74 r1.toNatClampNeg), .int r4]) (st := []) dX12_tries_171 G_X12_oneIn wm_X12_324 (by decide +kernel) rfl (Nat.le_of_ble_eq_true rfl) (by show 1 ≤ d; omega) (Nat.le_of_ble_eq_true rfl) ?_
        refine CI.mono H (fun r5 σ5 H => ?_)
        refine j_istore (pc := 174) (lv1 := [(12, .int r5), (11, .int r3), (10, .int r2), (9, .int r1), (0, .ref 55), (1, .int x1), (2, .int x2), (3, .int x3), (4, .int x4), (5, .int x5), (6, .int x6), (7, .int x7), (8, .int x8)]) dX12_tries_174 (Nat.le_of_ble_eq_true rfl) rfl ?_
        refine j_iload (pc := 176) dX12_tries_176 rfl ?_
        refine j_aload_n (pc := 178) dX12_tries_178 rfl ?_
        refine s_getr (pc := 179) dX12_tries_179 fl_X12_77 shp_55 rfl ?_
        refine j_iload (pc := 182) dX12_tries_182 rfl ?_
        have b184 := H.1
        replace H := H.2
        refine s_iald (pc := 184) (ar σ5 75 r1.toNatClampNeg) dX12_tries_184 shp_75 b184 rfl ?_
        refine j_aload_n (pc := 185) dX12_tries_185 rfl ?_
        refine j_iload (pc := 186) dX12_tries_186 rfl ?_
        refine s_callV_i (pc := 188) (M1 := M_X12_draw) (n := 1) (as := [.int r3]) (a := 55) (st := [.int (ar σ5 75 r1.toNatClampNeg), .int x5]) dX12_tries_188 G_X12_draw wm_X12_318 (by decide +kernel) rfl (Nat.le_of_ble_eq_true rfl) shp_55 rfl (by show 1 ≤ d; omega) (Nat.le_of_ble_eq_true rfl) (Nat.zero_le _) (Nat.zero_le _) ?_
        refine CI.mono H (fun r6 σ6 H => ?_)
        refine s_callS_i (pc := 191) (M1 := M_X12_oneIn) (n := 3) (as := [.int x5, .int (ar σ5 75 r1.toNatClampNeg), .int r6]) (st := []) dX12_tries_191 G_X12_oneIn wm_X12_324 (by decide +kernel) rfl (Nat.le_of_ble_eq_true rfl) (by show 1 ≤ d; omega) (Nat.le_of_ble_eq_true rfl) ?_
        refine CI.mono H (fun r7 σ7 H => ?_)
        refine j_istore (pc := 194) (lv1 := [(13, .int r7), (12, .int r5), (11, .int r3), (10, .int r2), (9, .int r1), (0, .ref 55), (1, .int x1), (2, .int x2), (3, .int x3), (4, .int x4), (5, .int x5), (6, .int x6), (7, .int x7), (8, .int x8)]) dX12_tries_194 (Nat.le_of_ble_eq_true rfl) rfl ?_
        refine j_aload_n (pc := 196) dX12_tries_196 rfl ?_
        refine j_iload (pc := 197) dX12_tries_197 rfl ?_
        refine j_iload (pc := 199) dX12_tries_199 rfl ?_
        refine j_iload (pc := 201) dX12_tries_201 rfl ?_
        refine j_iload (pc := 203) dX12_tries_203 rfl ?_
        refine s_callV_i (pc := 205) (M1 := M_X12_can) (n := 4) (as := [.int x5, .int r1, .int r5, .int r7]) (a := 55) (st := []) dX12_tries_205 G_X12_can wm_X12_261 (by decide +kernel) rfl (Nat.le_of_ble_eq_true rfl) shp_55 rfl (by show 1 ≤ d; omega) (Nat.le_of_ble_eq_true rfl) (Nat.zero_le _) (Nat.zero_le _) ?_
        refine CI.mono H (fun r8 σ8 H => ?_)
        refine j_if_ne (pc := 208) (t := 214) dX12_tries_208 (by decide) (fun c208 => ?_) (fun c208 => ?_)
        · replace H := H.1 c208
          refine j_iload (pc := 214) dX12_tries_214 rfl ?_
          refine j_iload (pc := 216) dX12_tries_216 rfl ?_
          refine j_iload (pc := 218) dX12_tries_218 rfl ?_
          refine s_callS_i (pc := 220) (M1 := M_X12_swapped) (n := 3) (as := [.int x5, .int r5, .int r7]) (st := []) dX12_tries_220 G_X12_swapped wm_X12_265 (by decide +kernel) rfl (Nat.le_of_ble_eq_true rfl) (by show 1 ≤ d; omega) (Nat.le_of_ble_eq_true rfl) ?_
          refine C_X12_swapped (d := d - 1) (by omega) ?_
          refine j_topi (fun x5_9 ex5_9 => ?_)
          replace H := H x5_9 ex5_9
          refine j_istore (pc := 223) (lv1 := [(5, .int x5_9), (13, .int r7), (12, .int r5), (11, .int r3), (10, .int r2), (9, .int r1), (0, .ref 55), (1, .int x1), (2, .int x2), (3, .int x3), (4, .int x4), (6, .int x6), (7, .int x7), (8, .int x8)]) dX12_tries_223 (Nat.le_of_ble_eq_true rfl) rfl ?_
          refine j_iinc (pc := 225) (k := 11) (v := x6 + 1) (lv1 := [(6, .int (x6 + 1)), (5, .int x5_9), (13, .int r7), (12, .int r5), (11, .int r3), (10, .int r2), (9, .int r1), (0, .ref 55), (1, .int x1), (2, .int x2), (3, .int x3), (4, .int x4), (7, .int x7), (8, .int x8)]) dX12_tries_225 rfl rfl (Nat.le_of_ble_eq_true rfl) rfl ?_
          refine j_iload (pc := 228) dX12_tries_228 rfl ?_
          refine j_if_ge (pc := 230) (t := 246) dX12_tries_230 (by decide) (fun c230 => ?_) (fun c230 => ?_)
          · replace H := H.1 c230
            refine j_iinc (pc := 246) (k := 13) (v := x8 + 1) (lv1 := [(8, .int (x8 + 1)), (6, .int (x6 + 1)), (5, .int x5_9), (13, .int r7), (12, .int r5), (11, .int r3), (10, .int r2), (9, .int r1), (0, .ref 55), (1, .int x1), (2, .int x2), (3, .int x3), (4, .int x4), (7, .int x7)]) dX12_tries_246 rfl rfl (Nat.le_of_ble_eq_true rfl) rfl ?_
            refine j_goto (pc := 249) (t := 91) dX12_tries_249 (by decide) ?_
            refine j_sub [8, 9, 10, 11, 12, 2, 1, 13, 0] rfl ?_
            exact H
          · replace H := H.2 c230
            refine j_aload_n (pc := 233) dX12_tries_233 rfl ?_
            refine j_iload (pc := 234) dX12_tries_234 rfl ?_
            refine s_callV_i (pc := 236) (M1 := M_X12_isRest) (n := 1) (as := [.int x5_9]) (a := 55) (st := []) dX12_tries_236 G_X12_isRest wm_X12_301 (by decide +kernel) rfl (Nat.le_of_ble_eq_true rfl) shp_55 rfl (by show 1 ≤ d; omega) (Nat.le_of_ble_eq_true rfl) (Nat.zero_le _) (Nat.zero_le _) ?_
            refine CI.mono H (fun r10 σ10 H => ?_)
            refine j_if_eq (pc := 239) (t := 246) dX12_tries_239 (by decide) (fun c239 => ?_) (fun c239 => ?_)
            · replace H := H.1 c239
              refine j_iinc (pc := 246) (k := 13) (v := x8 + 1) (lv1 := [(8, .int (x8 + 1)), (6, .int (x6 + 1)), (5, .int x5_9), (13, .int r7), (12, .int r5), (11, .int r3), (10, .int r2), (9, .int r1), (0, .ref 55), (1, .int x1), (2, .int x2), (3, .int x3), (4, .int x4), (7, .int x7)]) dX12_tries_246 rfl rfl (Nat.le_of_ble_eq_true rfl) rfl ?_
              refine j_goto (pc := 249) (t := 91) dX12_tries_249 (by decide) ?_
              refine j_sub [8, 9, 10, 11, 12, 2, 1, 13, 0] rfl ?_
              exact H
            · replace H := H.2 c239
              refine j_iload (pc := 242) dX12_tries_242 rfl ?_
              refine j_istore (pc := 244) (lv1 := [(7, .int x8), (6, .int (x6 + 1)), (5, .int x5_9), (13, .int r7), (12, .int r5), (11, .int r3), (10, .int r2), (9, .int r1), (0, .ref 55), (1, .int x1), (2, .int x2), (3, .int x3), (4, .int x4), (8, .int x8)]) dX12_tries_244 (Nat.le_of_ble_eq_true rfl) rfl ?_
              refine j_iinc (pc := 246) (k := 13) (v := x8 + 1) (lv1 := [(8, .int (x8 + 1)), (7, .int x8), (6, .int (x6 + 1)), (5, .int x5_9), (13, .int r7), (12, .int r5), (11, .int r3), (10, .int r2), (9, .int r1), (0, .ref 55), (1, .int x1), (2, .int x2), (3, .int x3), (4, .int x4)]) dX12_tries_246 rfl rfl (Nat.le_of_ble_eq_true rfl) rfl ?_
              refine j_goto (pc := 249) (t := 91) dX12_tries_249 (by decide) ?_
              refine j_sub [9, 10, 11, 12, 13, 3, 2, 1, 0] rfl ?_
              exact H
        · replace H := H.2 c208
          refine j_goto (pc := 211) (t := 246) dX12_tries_211 (by decide) ?_
          refine j_iinc (pc := 246) (k := 13) (v := x8 + 1) (lv1 := [(8, .int (x8 + 1)), (13, .int r7), (12, .int r5), (11, .int r3), (10, .int r2), (9, .int r1), (0, .ref 55), (1, .int x1), (2, .int x2), (3, .int x3), (4, .int x4), (5, .int x5), (6, .int x6), (7, .int x7)]) dX12_tries_246 rfl rfl (Nat.le_of_ble_eq_true rfl) rfl ?_
          refine j_goto (pc := 249) (t := 91) dX12_tries_249 (by decide) ?_
          refine j_sub [6, 7, 8, 9, 10, 11, 12, 13, 0] rfl ?_
          exact H
      · replace H := H.2 c150
        refine j_goto (pc := 153) (t := 246) dX12_tries_153 (by decide) ?_
        refine j_iinc (pc := 246) (k := 11) (v := x8 + 1) (lv1 := [(8, .int (x8 + 1)), (11, .int r3), (10, .int r2), (9, .int r1), (0, .ref 55), (1, .int x1), (2, .int x2), (3, .int x3), (4, .int x4), (5, .int x5), (6, .int x6), (7, .int x7)]) dX12_tries_246 rfl rfl (Nat.le_of_ble_eq_true rfl) rfl ?_
        refine j_goto (pc := 249) (t := 91) dX12_tries_249 (by decide) ?_
        refine j_sub [4, 5, 6, 7, 8, 9, 10, 11, 0] rfl ?_
        exact H
