/-! what each stretch of the program does (laid by program) -/
set_option maxRecDepth 20000 in
theorem b_X12_rowFault_0 {l : Launch} {g : am_G} {d : Nat} {σ : am_S} {k : Int32 → am_S → Prop}  {x1 : Int32} (H : (vp_in x1 6 ∧ ((¬ ar σ 81 x1.toNatClampNeg = (-1) → (vp_in x1 6 ∧ ((¬ ar σ 81 x1.toNatClampNeg = (-2) → k (-12) σ) ∧ (ar σ 81 x1.toNatClampNeg = (-2) → k 0 σ)))) ∧ (ar σ 81 x1.toNatClampNeg = (-1) → k (-11) σ)))) : CI l g M_X12_rowFault d [.ref 55, .int x1] σ k := by
  show J l g (M_X12_rowFault, d, 0, 0) 0 [(0, .ref 55), (1, .int x1)] [] (hp σ) 0 0 (kI k)
  refine j_aload_n (pc := 0) dX12_rowFault_0 rfl ?_
  refine s_getr (pc := 1) dX12_rowFault_1 fl_X12_95 shp_55 rfl ?_
  refine j_iload_n (pc := 4) dX12_rowFault_4 rfl ?_
  have b5 := H.1
  replace H := H.2
  refine s_iald (pc := 5) (ar σ 81 x1.toNatClampNeg) dX12_rowFault_5 shp_81 b5 rfl ?_
  refine j_iconst (pc := 6) (v := -1) dX12_rowFault_6 (by decide) ?_
  refine j_icmp_ne (pc := 7) (t := 15) dX12_rowFault_7 (by decide) (fun c7 => ?_) (fun c7 => ?_)
  · replace H := H.1 c7
    refine j_aload_n (pc := 15) dX12_rowFault_15 rfl ?_
    refine s_getr (pc := 16) dX12_rowFault_16 fl_X12_95 shp_55 rfl ?_
    refine j_iload_n (pc := 19) dX12_rowFault_19 rfl ?_
    have b20 := H.1
    replace H := H.2
    refine s_iald (pc := 20) (ar σ 81 x1.toNatClampNeg) dX12_rowFault_20 shp_81 b20 rfl ?_
    refine j_bipush (pc := 21) (v := -2) dX12_rowFault_21 (by decide) ?_
    refine j_icmp_ne (pc := 23) (t := 30) dX12_rowFault_23 (by decide) (fun c23 => ?_) (fun c23 => ?_)
    · replace H := H.1 c23
      refine j_bipush (pc := 30) (v := -12) dX12_rowFault_30 (by decide) ?_
      exact s_ireti (pc := 32) dX12_rowFault_32 rfl H
    · replace H := H.2 c23
      refine j_iconst (pc := 26) (v := 0) dX12_rowFault_26 (by decide) ?_
      refine j_goto (pc := 27) (t := 32) dX12_rowFault_27 (by decide) ?_
      exact s_ireti (pc := 32) dX12_rowFault_32 rfl H
  · replace H := H.2 c7
    refine j_bipush (pc := 10) (v := -11) dX12_rowFault_10 (by decide) ?_
    refine j_goto (pc := 12) (t := 32) dX12_rowFault_12 (by decide) ?_
    exact s_ireti (pc := 32) dX12_rowFault_32 rfl H
set_option maxRecDepth 20000 in
theorem b_X12_judge_0 {l : Launch} {g : am_G} {d : Nat} {σ : am_S} {k : Int32 → am_S → Prop}  {x1 : Int32} (hd : 2 ≤ d) (H : ((((¬ x1 < 0 ∧ ¬ 5 < x1)) → CI l g M_X12_rowFault (d - 1) [.ref 55, .int x1] σ (fun r2 σ2 => ((0 ≤ r2 → CV l g M_X12_findNow (d - 1) [.ref 55] σ2 (fun σ3 => JI l g M_X12_judge d 34 [(0, .ref 55), (1, .int x1), (2, .int (rg σ3 3529)), (3, .int 0)] [] σ3 k)) ∧ (¬ 0 ≤ r2 → CI l g M_X12_rowFault (d - 1) [.ref 55, .int x1] σ2 (fun r4 σ4 => k r4 σ4))))) ∧ (¬ ((¬ x1 < 0 ∧ ¬ 5 < x1)) → k (-1) σ))) : CI l g M_X12_judge d [.ref 55, .int x1] σ k := by
  show J l g (M_X12_judge, d, 0, 0) 0 [(0, .ref 55), (1, .int x1)] [] (hp σ) 0 0 (kI k)
  refine j_iload_n (pc := 0) dX12_judge_0 rfl ?_
  refine s_callS_i (pc := 1) (M1 := M_X12_isShelf) (n := 1) (as := [.int x1]) (st := []) dX12_judge_1 G_X12_isShelf wm_X12_139 (by decide +kernel) rfl (Nat.le_of_ble_eq_true rfl) (by show 1 ≤ d; omega) (Nat.le_of_ble_eq_true rfl) ?_
  refine C_X12_isShelf (d := d - 1) (by omega) ⟨fun c1 => ?_, fun c1 => ?_⟩
  · replace H := H.1 c1
    refine j_if_ne (pc := 4) (t := 9) dX12_judge_4 (by decide) (fun _ => ?_) (fun q => absurd q (by decide))
    refine j_aload_n (pc := 9) dX12_judge_9 rfl ?_
    refine j_iload_n (pc := 10) dX12_judge_10 rfl ?_
    refine s_callV_i (pc := 11) (M1 := M_X12_rowFault) (n := 1) (as := [.int x1]) (a := 55) (st := []) dX12_judge_11 G_X12_rowFault wm_X12_327 (by decide +kernel) rfl (Nat.le_of_ble_eq_true rfl) shp_55 rfl (by show 1 ≤ d; omega) (Nat.le_of_ble_eq_true rfl) (Nat.zero_le _) (Nat.zero_le _) ?_
    refine CI.mono H (fun r2 σ2 H => ?_)
    refine j_if_ge (pc := 14) (t := 23) dX12_judge_14 (by decide) (fun c14 => ?_) (fun c14 => ?_)
    · replace H := H.1 c14
      refine j_aload_n (pc := 23) dX12_judge_23 rfl ?_
      refine s_callV_v (pc := 24) (M1 := M_X12_findNow) (n := 0) (as := []) (a := 55) (st := []) dX12_judge_24 G_X12_findNow wm_X12_258 (by decide +kernel) rfl (Nat.le_of_ble_eq_true rfl) shp_55 rfl (by show 1 ≤ d; omega) (Nat.le_of_ble_eq_true rfl) (Nat.zero_le _) (Nat.zero_le _) ?_
      refine CV.mono H (fun σ3 H => ?_)
      refine j_aload_n (pc := 27) dX12_judge_27 rfl ?_
      refine s_geti (pc := 28) 3529 (rg σ3 3529) dX12_judge_28 fl_X12_128 shp_55 rfl rfl rfl ?_
      refine j_istore_n (pc := 31) (lv1 := [(2, .int (rg σ3 3529)), (0, .ref 55), (1, .int x1)]) dX12_judge_31 (Nat.le_of_ble_eq_true rfl) rfl ?_
      refine j_iconst (pc := 32) (v := 0) dX12_judge_32 (by decide) ?_
      refine j_istore_n (pc := 33) (lv1 := [(3, .int 0), (2, .int (rg σ3 3529)), (0, .ref 55), (1, .int x1)]) dX12_judge_33 (Nat.le_of_ble_eq_true rfl) rfl ?_
      refine j_sub [2, 3, 1, 0] rfl ?_
      exact H
    · replace H := H.2 c14
      refine j_aload_n (pc := 17) dX12_judge_17 rfl ?_
      refine j_iload_n (pc := 18) dX12_judge_18 rfl ?_
      refine s_callV_i (pc := 19) (M1 := M_X12_rowFault) (n := 1) (as := [.int x1]) (a := 55) (st := []) dX12_judge_19 G_X12_rowFault wm_X12_327 (by decide +kernel) rfl (Nat.le_of_ble_eq_true rfl) shp_55 rfl (by show 1 ≤ d; omega) (Nat.le_of_ble_eq_true rfl) (Nat.zero_le _) (Nat.zero_le _) ?_
      refine CI.mono H (fun r4 σ4 H => ?_)
      exact s_ireti (pc := 22) dX12_judge_22 rfl H
  · replace H := H.2 c1
    refine j_if_ne (pc := 4) (t := 9) dX12_judge_4 (by decide) (fun q => absurd q (by decide)) (fun _ => ?_)
    refine j_iconst (pc := 7) (v := -1) dX12_judge_7 (by decide) ?_
    exact s_ireti (pc := 8) dX12_judge_8 rfl H
set_option maxRecDepth 20000 in
theorem b_X12_judge_34 {l : Launch} {g : am_G} {d : Nat} {σ : am_S} {k : Int32 → am_S → Prop}  {x1 x2 x3 : Int32} (hd : 2 ≤ d) (H : (vp_in x1 6 ∧ ((ar σ 82 x1.toNatClampNeg ≤ 3 * x3 → k (-2) σ) ∧ (¬ ar σ 82 x1.toNatClampNeg ≤ 3 * x3 → (vp_in x1 6 ∧ (((3 * x3) + 2 < ar σ 82 x1.toNatClampNeg → (vp_in ((60 * x1) + (3 * x3)) 360 ∧ (vp_in (((60 * x1) + (3 * x3)) + 1) 360 ∧ (vp_in (((60 * x1) + (3 * x3)) + 2) 360 ∧ ((((¬ (lr σ 83 (((60 * x1) + (3 * x3)).toNatClampNeg)).toInt32 < 0 ∧ ¬ (rg σ 3522) - 1 < (lr σ 83 (((60 * x1) + (3 * x3)).toNatClampNeg)).toInt32)) → ((((¬ (lr σ 83 ((((60 * x1) + (3 * x3)) + 1).toNatClampNeg)).toInt32 < 0 ∧ ¬ (rg σ 3526) - 1 < (lr σ 83 ((((60 * x1) + (3 * x3)) + 1).toNatClampNeg)).toInt32)) → ((((¬ (lr σ 83 ((((60 * x1) + (3 * x3)) + 2).toNatClampNeg)).toInt32 < 0 ∧ ¬ (rg σ 3526) - 1 < (lr σ 83 ((((60 * x1) + (3 * x3)) + 2).toNatClampNeg)).toInt32)) → CI l g M_X12_can (d - 1) [.ref 55, .int x2, .int ((lr σ 83 (((60 * x1) + (3 * x3)).toNatClampNeg)).toInt32), .int ((lr σ 83 ((((60 * x1) + (3 * x3)) + 1).toNatClampNeg)).toInt32), .int ((lr σ 83 ((((60 * x1) + (3 * x3)) + 2).toNatClampNeg)).toInt32)] σ (fun r4 σ4 => ((¬ r4 = 0 → (∀ x2_5 : Int32, x2_5 = (((x2 &&& (((3 : Int32) <<< ((2 * ((lr σ 83 ((((60 * x1) + (3 * x3)) + 1).toNatClampNeg)).toInt32)) &&& 31)) ^^^ (-1))) ||| (((x2 >>> ((2 * ((lr σ 83 ((((60 * x1) + (3 * x3)) + 2).toNatClampNeg)).toInt32)) &&& 31)) &&& 3) <<< ((2 * ((lr σ 83 ((((60 * x1) + (3 * x3)) + 1).toNatClampNeg)).toInt32)) &&& 31))) &&& (((3 : Int32) <<< ((2 * ((lr σ 83 ((((60 * x1) + (3 * x3)) + 2).toNatClampNeg)).toInt32)) &&& 31)) ^^^ (-1))) ||| (((x2 >>> ((2 * ((lr σ 83 ((((60 * x1) + (3 * x3)) + 1).toNatClampNeg)).toInt32)) &&& 31)) &&& 3) <<< ((2 * ((lr σ 83 ((((60 * x1) + (3 * x3)) + 2).toNatClampNeg)).toInt32)) &&& 31)) → JI l g M_X12_judge d 34 [(0, .ref 55), (1, .int x1), (2, .int x2_5), (3, .int (x3 + 1))] [] σ4 k)) ∧ (r4 = 0 → k x3 σ4)))) ∧ (¬ ((¬ (lr σ 83 ((((60 * x1) + (3 * x3)) + 2).toNatClampNeg)).toInt32 < 0 ∧ ¬ (rg σ 3526) - 1 < (lr σ 83 ((((60 * x1) + (3 * x3)) + 2).toNatClampNeg)).toInt32)) → k x3 σ))) ∧ (¬ ((¬ (lr σ 83 ((((60 * x1) + (3 * x3)) + 1).toNatClampNeg)).toInt32 < 0 ∧ ¬ (rg σ 3526) - 1 < (lr σ 83 ((((60 * x1) + (3 * x3)) + 1).toNatClampNeg)).toInt32)) → k x3 σ))) ∧ (¬ ((¬ (lr σ 83 (((60 * x1) + (3 * x3)).toNatClampNeg)).toInt32 < 0 ∧ ¬ (rg σ 3522) - 1 < (lr σ 83 (((60 * x1) + (3 * x3)).toNatClampNeg)).toInt32)) → k x3 σ)))))) ∧ (¬ (3 * x3) + 2 < ar σ 82 x1.toNatClampNeg → k x3 σ))))))) : JI l g M_X12_judge d 34 [(0, .ref 55), (1, .int x1), (2, .int x2), (3, .int x3)] [] σ k := by
  show J l g (M_X12_judge, d, 0, 0) 34 [(0, .ref 55), (1, .int x1), (2, .int x2), (3, .int x3)] [] (hp σ) 0 0 (kI k)
  refine j_iconst (pc := 34) (v := 3) dX12_judge_34 (by decide) ?_
  refine j_iload_n (pc := 35) dX12_judge_35 rfl ?_
  refine j_imul (pc := 36) dX12_judge_36 ?_
  refine j_aload_n (pc := 37) dX12_judge_37 rfl ?_
  refine s_getr (pc := 38) dX12_judge_38 fl_X12_98 shp_55 rfl ?_
  refine j_iload_n (pc := 41) dX12_judge_41 rfl ?_
  have b42 := H.1
  replace H := H.2
  refine s_iald (pc := 42) (ar σ 82 x1.toNatClampNeg) dX12_judge_42 shp_82 b42 rfl ?_
  refine j_icmp_ge (pc := 43) (t := 164) dX12_judge_43 (by decide) (fun c43 => ?_) (fun c43 => ?_)
  · replace H := H.1 c43
    refine j_bipush (pc := 164) (v := -2) dX12_judge_164 (by decide) ?_
    exact s_ireti (pc := 166) dX12_judge_166 rfl H
  · replace H := H.2 c43
    refine j_iconst (pc := 46) (v := 3) dX12_judge_46 (by decide) ?_
    refine j_iload_n (pc := 47) dX12_judge_47 rfl ?_
    refine j_imul (pc := 48) dX12_judge_48 ?_
    refine j_iconst (pc := 49) (v := 2) dX12_judge_49 (by decide) ?_
    refine j_iadd (pc := 50) dX12_judge_50 ?_
    refine j_aload_n (pc := 51) dX12_judge_51 rfl ?_
    refine s_getr (pc := 52) dX12_judge_52 fl_X12_98 shp_55 rfl ?_
    refine j_iload_n (pc := 55) dX12_judge_55 rfl ?_
    have b56 := H.1
    replace H := H.2
    refine s_iald (pc := 56) (ar σ 82 x1.toNatClampNeg) dX12_judge_56 shp_82 b56 rfl ?_
    refine j_icmp_lt (pc := 57) (t := 62) dX12_judge_57 (by decide) (fun c57 => ?_) (fun c57 => ?_)
    · replace H := H.1 c57
      refine j_bipush (pc := 62) (v := 60) dX12_judge_62 (by decide) ?_
      refine j_iload_n (pc := 64) dX12_judge_64 rfl ?_
      refine j_imul (pc := 65) dX12_judge_65 ?_
      refine j_iconst (pc := 66) (v := 3) dX12_judge_66 (by decide) ?_
      refine j_iload_n (pc := 67) dX12_judge_67 rfl ?_
      refine j_imul (pc := 68) dX12_judge_68 ?_
      refine j_iadd (pc := 69) dX12_judge_69 ?_
      refine j_istore (pc := 70) (lv1 := [(4, .int ((60 * x1) + (3 * x3))), (0, .ref 55), (1, .int x1), (2, .int x2), (3, .int x3)]) dX12_judge_70 (Nat.le_of_ble_eq_true rfl) rfl ?_
      refine j_aload_n (pc := 72) dX12_judge_72 rfl ?_
      refine s_getr (pc := 73) dX12_judge_73 fl_X12_101 shp_55 rfl ?_
      refine j_iload (pc := 76) dX12_judge_76 rfl ?_
      have b78 := H.1
      replace H := H.2
      refine s_lald (pc := 78) (lr σ 83 (((60 * x1) + (3 * x3)).toNatClampNeg)) dX12_judge_78 shp_83 b78 rfl ?_
      refine j_l2i (pc := 79) dX12_judge_79 ?_
      refine j_istore (pc := 80) (lv1 := [(5, .int ((lr σ 83 (((60 * x1) + (3 * x3)).toNatClampNeg)).toInt32)), (4, .int ((60 * x1) + (3 * x3))), (0, .ref 55), (1, .int x1), (2, .int x2), (3, .int x3)]) dX12_judge_80 (Nat.le_of_ble_eq_true rfl) rfl ?_
      refine j_aload_n (pc := 82) dX12_judge_82 rfl ?_
      refine s_getr (pc := 83) dX12_judge_83 fl_X12_101 shp_55 rfl ?_
      refine j_iload (pc := 86) dX12_judge_86 rfl ?_
      refine j_iconst (pc := 88) (v := 1) dX12_judge_88 (by decide) ?_
      refine j_iadd (pc := 89) dX12_judge_89 ?_
      have b90 := H.1
      replace H := H.2
      refine s_lald (pc := 90) (lr σ 83 ((((60 * x1) + (3 * x3)) + 1).toNatClampNeg)) dX12_judge_90 shp_83 b90 rfl ?_
      refine j_l2i (pc := 91) dX12_judge_91 ?_
      refine j_istore (pc := 92) (lv1 := [(6, .int ((lr σ 83 ((((60 * x1) + (3 * x3)) + 1).toNatClampNeg)).toInt32)), (5, .int ((lr σ 83 (((60 * x1) + (3 * x3)).toNatClampNeg)).toInt32)), (4, .int ((60 * x1) + (3 * x3))), (0, .ref 55), (1, .int x1), (2, .int x2), (3, .int x3)]) dX12_judge_92 (Nat.le_of_ble_eq_true rfl) rfl ?_
      refine j_aload_n (pc := 94) dX12_judge_94 rfl ?_
      refine s_getr (pc := 95) dX12_judge_95 fl_X12_101 shp_55 rfl ?_
      refine j_iload (pc := 98) dX12_judge_98 rfl ?_
      refine j_iconst (pc := 100) (v := 2) dX12_judge_100 (by decide) ?_
      refine j_iadd (pc := 101) dX12_judge_101 ?_
      have b102 := H.1
      replace H := H.2
      refine s_lald (pc := 102) (lr σ 83 ((((60 * x1) + (3 * x3)) + 2).toNatClampNeg)) dX12_judge_102 shp_83 b102 rfl ?_
      refine j_l2i (pc := 103) dX12_judge_103 ?_
      refine j_istore (pc := 104) (lv1 := [(7, .int ((lr σ 83 ((((60 * x1) + (3 * x3)) + 2).toNatClampNeg)).toInt32)), (6, .int ((lr σ 83 ((((60 * x1) + (3 * x3)) + 1).toNatClampNeg)).toInt32)), (5, .int ((lr σ 83 (((60 * x1) + (3 * x3)).toNatClampNeg)).toInt32)), (4, .int ((60 * x1) + (3 * x3))), (0, .ref 55), (1, .int x1), (2, .int x2), (3, .int x3)]) dX12_judge_104 (Nat.le_of_ble_eq_true rfl) rfl ?_
      refine j_aload_n (pc := 106) dX12_judge_106 rfl ?_
      refine j_iload (pc := 107) dX12_judge_107 rfl ?_
      refine s_callV_i (pc := 109) (M1 := M_X12_isDoor) (n := 1) (as := [.int ((lr σ 83 (((60 * x1) + (3 * x3)).toNatClampNeg)).toInt32)]) (a := 55) (st := []) dX12_judge_109 G_X12_isDoor wm_X12_161 (by decide +kernel) rfl (Nat.le_of_ble_eq_true rfl) shp_55 rfl (by show 1 ≤ d; omega) (Nat.le_of_ble_eq_true rfl) (Nat.zero_le _) (Nat.zero_le _) ?_
      refine C_X12_isDoor (d := d - 1) (by omega) ⟨fun c109 => ?_, fun c109 => ?_⟩
      · replace H := H.1 c109
        refine j_if_eq (pc := 112) (t := 147) dX12_judge_112 (by decide) (fun q => absurd q (by decide)) (fun _ => ?_)
        refine j_aload_n (pc := 115) dX12_judge_115 rfl ?_
        refine j_iload (pc := 116) dX12_judge_116 rfl ?_
        refine s_callV_i (pc := 118) (M1 := M_X12_isPerson) (n := 1) (as := [.int ((lr σ 83 ((((60 * x1) + (3 * x3)) + 1).toNatClampNeg)).toInt32)]) (a := 55) (st := []) dX12_judge_118 G_X12_isPerson wm_X12_155 (by decide +kernel) rfl (Nat.le_of_ble_eq_true rfl) shp_55 rfl (by show 1 ≤ d; omega) (Nat.le_of_ble_eq_true rfl) (Nat.zero_le _) (Nat.zero_le _) ?_
        refine C_X12_isPerson (d := d - 1) (by omega) ⟨fun c118 => ?_, fun c118 => ?_⟩
        · replace H := H.1 c118
          refine j_if_eq (pc := 121) (t := 147) dX12_judge_121 (by decide) (fun q => absurd q (by decide)) (fun _ => ?_)
          refine j_aload_n (pc := 124) dX12_judge_124 rfl ?_
          refine j_iload (pc := 125) dX12_judge_125 rfl ?_
          refine s_callV_i (pc := 127) (M1 := M_X12_isPerson) (n := 1) (as := [.int ((lr σ 83 ((((60 * x1) + (3 * x3)) + 2).toNatClampNeg)).toInt32)]) (a := 55) (st := []) dX12_judge_127 G_X12_isPerson wm_X12_155 (by decide +kernel) rfl (Nat.le_of_ble_eq_true rfl) shp_55 rfl (by show 1 ≤ d; omega) (Nat.le_of_ble_eq_true rfl) (Nat.zero_le _) (Nat.zero_le _) ?_
          refine C_X12_isPerson (d := d - 1) (by omega) ⟨fun c127 => ?_, fun c127 => ?_⟩
          · replace H := H.1 c127
            refine j_if_eq (pc := 130) (t := 147) dX12_judge_130 (by decide) (fun q => absurd q (by decide)) (fun _ => ?_)
            refine j_aload_n (pc := 133) dX12_judge_133 rfl ?_
            refine j_iload_n (pc := 134) dX12_judge_134 rfl ?_
            refine j_iload (pc := 135) dX12_judge_135 rfl ?_
            refine j_iload (pc := 137) dX12_judge_137 rfl ?_
            refine j_iload (pc := 139) dX12_judge_139 rfl ?_
            refine s_callV_i (pc := 141) (M1 := M_X12_can) (n := 4) (as := [.int x2, .int ((lr σ 83 (((60 * x1) + (3 * x3)).toNatClampNeg)).toInt32), .int ((lr σ 83 ((((60 * x1) + (3 * x3)) + 1).toNatClampNeg)).toInt32), .int ((lr σ 83 ((((60 * x1) + (3 * x3)) + 2).toNatClampNeg)).toInt32)]) (a := 55) (st := []) dX12_judge_141 G_X12_can wm_X12_261 (by decide +kernel) rfl (Nat.le_of_ble_eq_true rfl) shp_55 rfl (by show 1 ≤ d; omega) (Nat.le_of_ble_eq_true rfl) (Nat.zero_le _) (Nat.zero_le _) ?_
            refine CI.mono H (fun r4 σ4 H => ?_)
            refine j_if_ne (pc := 144) (t := 149) dX12_judge_144 (by decide) (fun c144 => ?_) (fun c144 => ?_)
            · replace H := H.1 c144
              refine j_iload_n (pc := 149) dX12_judge_149 rfl ?_
              refine j_iload (pc := 150) dX12_judge_150 rfl ?_
              refine j_iload (pc := 152) dX12_judge_152 rfl ?_
              refine s_callS_i (pc := 154) (M1 := M_X12_swapped) (n := 3) (as := [.int x2, .int ((lr σ 83 ((((60 * x1) + (3 * x3)) + 1).toNatClampNeg)).toInt32), .int ((lr σ 83 ((((60 * x1) + (3 * x3)) + 2).toNatClampNeg)).toInt32)]) (st := []) dX12_judge_154 G_X12_swapped wm_X12_265 (by decide +kernel) rfl (Nat.le_of_ble_eq_true rfl) (by show 1 ≤ d; omega) (Nat.le_of_ble_eq_true rfl) ?_
              refine C_X12_swapped (d := d - 1) (by omega) ?_
              refine j_topi (fun x2_5 ex2_5 => ?_)
              replace H := H x2_5 ex2_5
              refine j_istore_n (pc := 157) (lv1 := [(2, .int x2_5), (7, .int ((lr σ 83 ((((60 * x1) + (3 * x3)) + 2).toNatClampNeg)).toInt32)), (6, .int ((lr σ 83 ((((60 * x1) + (3 * x3)) + 1).toNatClampNeg)).toInt32)), (5, .int ((lr σ 83 (((60 * x1) + (3 * x3)).toNatClampNeg)).toInt32)), (4, .int ((60 * x1) + (3 * x3))), (0, .ref 55), (1, .int x1), (3, .int x3)]) dX12_judge_157 (Nat.le_of_ble_eq_true rfl) rfl ?_
              refine j_iinc (pc := 158) (k := 7) (v := x3 + 1) (lv1 := [(3, .int (x3 + 1)), (2, .int x2_5), (7, .int ((lr σ 83 ((((60 * x1) + (3 * x3)) + 2).toNatClampNeg)).toInt32)), (6, .int ((lr σ 83 ((((60 * x1) + (3 * x3)) + 1).toNatClampNeg)).toInt32)), (5, .int ((lr σ 83 (((60 * x1) + (3 * x3)).toNatClampNeg)).toInt32)), (4, .int ((60 * x1) + (3 * x3))), (0, .ref 55), (1, .int x1)]) dX12_judge_158 rfl rfl (Nat.le_of_ble_eq_true rfl) rfl ?_
              refine j_goto (pc := 161) (t := 34) dX12_judge_161 (by decide) ?_
              refine j_sub [6, 7, 1, 0] rfl ?_
              exact H
            · replace H := H.2 c144
              refine j_iload_n (pc := 147) dX12_judge_147 rfl ?_
              exact s_ireti (pc := 148) dX12_judge_148 rfl H
          · replace H := H.2 c127
            refine j_if_eq (pc := 130) (t := 147) dX12_judge_130 (by decide) (fun _ => ?_) (fun q => absurd q (by decide))
            refine j_iload_n (pc := 147) dX12_judge_147 rfl ?_
            exact s_ireti (pc := 148) dX12_judge_148 rfl H
        · replace H := H.2 c118
          refine j_if_eq (pc := 121) (t := 147) dX12_judge_121 (by decide) (fun _ => ?_) (fun q => absurd q (by decide))
          refine j_iload_n (pc := 147) dX12_judge_147 rfl ?_
          exact s_ireti (pc := 148) dX12_judge_148 rfl H
      · replace H := H.2 c109
        refine j_if_eq (pc := 112) (t := 147) dX12_judge_112 (by decide) (fun _ => ?_) (fun q => absurd q (by decide))
        refine j_iload_n (pc := 147) dX12_judge_147 rfl ?_
        exact s_ireti (pc := 148) dX12_judge_148 rfl H
    · replace H := H.2 c57
      refine j_iload_n (pc := 60) dX12_judge_60 rfl ?_
      exact s_ireti (pc := 61) dX12_judge_61 rfl H
set_option maxRecDepth 20000 in
theorem b_X12_seen_0 {l : Launch} {g : am_G} {d : Nat} {σ : am_S} {k : Int32 → am_S → Prop}  {x1 : Int32} (hd : 2 ≤ d) (H : ((((¬ x1 < 0 ∧ ¬ 5 < x1)) → CI l g M_X12_rowFault (d - 1) [.ref 55, .int x1] σ (fun r2 σ2 => ((0 ≤ r2 → (vp_in x1 6 ∧ ((rg σ2 3526 ≤ ar σ2 82 x1.toNatClampNeg → JI l g M_X12_seen d 60 [(0, .ref 55), (1, .int x1), (2, .int 0)] [] (sR (sR σ2 3561 (((1 : Int32) <<< ((2 * (rg σ2 3526)) &&& 31)) - 1)) 3562 0) k) ∧ (¬ rg σ2 3526 ≤ ar σ2 82 x1.toNatClampNeg → k (-2) σ2)))) ∧ (¬ 0 ≤ r2 → CI l g M_X12_rowFault (d - 1) [.ref 55, .int x1] σ2 (fun r3 σ3 => k r3 σ3))))) ∧ (¬ ((¬ x1 < 0 ∧ ¬ 5 < x1)) → k (-1) σ))) : CI l g M_X12_seen d [.ref 55, .int x1] σ k := by
  show J l g (M_X12_seen, d, 0, 0) 0 [(0, .ref 55), (1, .int x1)] [] (hp σ) 0 0 (kI k)
  refine j_iload_n (pc := 0) dX12_seen_0 rfl ?_
  refine s_callS_i (pc := 1) (M1 := M_X12_isShelf) (n := 1) (as := [.int x1]) (st := []) dX12_seen_1 G_X12_isShelf wm_X12_139 (by decide +kernel) rfl (Nat.le_of_ble_eq_true rfl) (by show 1 ≤ d; omega) (Nat.le_of_ble_eq_true rfl) ?_
  refine C_X12_isShelf (d := d - 1) (by omega) ⟨fun c1 => ?_, fun c1 => ?_⟩
  · replace H := H.1 c1
    refine j_if_ne (pc := 4) (t := 9) dX12_seen_4 (by decide) (fun _ => ?_) (fun q => absurd q (by decide))
    refine j_aload_n (pc := 9) dX12_seen_9 rfl ?_
    refine j_iload_n (pc := 10) dX12_seen_10 rfl ?_
    refine s_callV_i (pc := 11) (M1 := M_X12_rowFault) (n := 1) (as := [.int x1]) (a := 55) (st := []) dX12_seen_11 G_X12_rowFault wm_X12_327 (by decide +kernel) rfl (Nat.le_of_ble_eq_true rfl) shp_55 rfl (by show 1 ≤ d; omega) (Nat.le_of_ble_eq_true rfl) (Nat.zero_le _) (Nat.zero_le _) ?_
    refine CI.mono H (fun r2 σ2 H => ?_)
    refine j_if_ge (pc := 14) (t := 23) dX12_seen_14 (by decide) (fun c14 => ?_) (fun c14 => ?_)
    · replace H := H.1 c14
      refine j_aload_n (pc := 23) dX12_seen_23 rfl ?_
      refine s_getr (pc := 24) dX12_seen_24 fl_X12_98 shp_55 rfl ?_
      refine j_iload_n (pc := 27) dX12_seen_27 rfl ?_
      have b28 := H.1
      replace H := H.2
      refine s_iald (pc := 28) (ar σ2 82 x1.toNatClampNeg) dX12_seen_28 shp_82 b28 rfl ?_
      refine j_aload_n (pc := 29) dX12_seen_29 rfl ?_
      refine s_geti (pc := 30) 3526 (rg σ2 3526) dX12_seen_30 fl_X12_121 shp_55 rfl rfl rfl ?_
      refine j_icmp_ge (pc := 33) (t := 39) dX12_seen_33 (by decide) (fun c33 => ?_) (fun c33 => ?_)
      · replace H := H.1 c33
        refine j_aload_n (pc := 39) dX12_seen_39 rfl ?_
        refine j_iconst (pc := 40) (v := 1) dX12_seen_40 (by decide) ?_
        refine j_iconst (pc := 41) (v := 2) dX12_seen_41 (by decide) ?_
        refine j_aload_n (pc := 42) dX12_seen_42 rfl ?_
        refine s_geti (pc := 43) 3526 (rg σ2 3526) dX12_seen_43 fl_X12_121 shp_55 rfl rfl rfl ?_
        refine j_imul (pc := 46) dX12_seen_46 ?_
        refine j_ishl (pc := 47) dX12_seen_47 ?_
        refine j_iconst (pc := 48) (v := 1) dX12_seen_48 (by decide) ?_
        refine j_isub (pc := 49) dX12_seen_49 ?_
        refine s_put (pc := 50) 3561 dX12_seen_50 fl_X12_280 shp_55 rfl rfl fp_12_41 rfl rfl ?_
        refine j_aload_n (pc := 53) dX12_seen_53 rfl ?_
        refine j_iconst (pc := 54) (v := 0) dX12_seen_54 (by decide) ?_
        refine s_put (pc := 55) 3562 dX12_seen_55 fl_X12_283 shp_55 rfl rfl fp_12_42 rfl rfl ?_
        refine j_iconst (pc := 58) (v := 0) dX12_seen_58 (by decide) ?_
        refine j_istore_n (pc := 59) (lv1 := [(2, .int 0), (0, .ref 55), (1, .int x1)]) dX12_seen_59 (Nat.le_of_ble_eq_true rfl) rfl ?_
        refine j_sub [1, 2, 0] rfl ?_
        exact H
      · replace H := H.2 c33
        refine j_bipush (pc := 36) (v := -2) dX12_seen_36 (by decide) ?_
        exact s_ireti (pc := 38) dX12_seen_38 rfl H
    · replace H := H.2 c14
      refine j_aload_n (pc := 17) dX12_seen_17 rfl ?_
      refine j_iload_n (pc := 18) dX12_seen_18 rfl ?_
      refine s_callV_i (pc := 19) (M1 := M_X12_rowFault) (n := 1) (as := [.int x1]) (a := 55) (st := []) dX12_seen_19 G_X12_rowFault wm_X12_327 (by decide +kernel) rfl (Nat.le_of_ble_eq_true rfl) shp_55 rfl (by show 1 ≤ d; omega) (Nat.le_of_ble_eq_true rfl) (Nat.zero_le _) (Nat.zero_le _) ?_
      refine CI.mono H (fun r3 σ3 H => ?_)
      exact s_ireti (pc := 22) dX12_seen_22 rfl H
  · replace H := H.2 c1
    refine j_if_ne (pc := 4) (t := 9) dX12_seen_4 (by decide) (fun q => absurd q (by decide)) (fun _ => ?_)
    refine j_iconst (pc := 7) (v := -1) dX12_seen_7 (by decide) ?_
    exact s_ireti (pc := 8) dX12_seen_8 rfl H
set_option maxRecDepth 20000 in
theorem b_X12_seen_60 {l : Launch} {g : am_G} {d : Nat} {σ : am_S} {k : Int32 → am_S → Prop}  {x1 x2 : Int32} (hd : 2 ≤ d) (H : ((rg σ 3526 ≤ x2 → CV l g M_X12_findNow (d - 1) [.ref 55] σ (fun σ1 => CV l g M_X12_findAll (d - 1) [.ref 55, .int (rg σ1 3529), .int (-1)] σ1 (fun σ2 => ((0 ≤ rg σ2 3563 → k (rg σ2 3563) σ2) ∧ (¬ 0 ≤ rg σ2 3563 → k (-2) σ2))))) ∧ (¬ rg σ 3526 ≤ x2 → (vp_in ((60 * x1) + x2) 360 ∧ ((((¬ (lr σ 83 (((60 * x1) + x2).toNatClampNeg)).toInt32 < 0 ∧ ¬ (rg σ 3521) - 1 < (lr σ 83 (((60 * x1) + x2).toNatClampNeg)).toInt32)) → JI l g M_X12_seen d 60 [(0, .ref 55), (1, .int x1), (2, .int (x2 + 1))] [] (sR σ 3562 ((rg σ 3562) ||| (((lr σ 83 (((60 * x1) + x2).toNatClampNeg)).toInt32) <<< ((2 * x2) &&& 31)))) k) ∧ (¬ ((¬ (lr σ 83 (((60 * x1) + x2).toNatClampNeg)).toInt32 < 0 ∧ ¬ (rg σ 3521) - 1 < (lr σ 83 (((60 * x1) + x2).toNatClampNeg)).toInt32)) → k (-2) σ)))))) : JI l g M_X12_seen d 60 [(0, .ref 55), (1, .int x1), (2, .int x2)] [] σ k := by
  show J l g (M_X12_seen, d, 0, 0) 60 [(0, .ref 55), (1, .int x1), (2, .int x2)] [] (hp σ) 0 0 (kI k)
  refine j_iload_n (pc := 60) dX12_seen_60 rfl ?_
  refine j_aload_n (pc := 61) dX12_seen_61 rfl ?_
  refine s_geti (pc := 62) 3526 (rg σ 3526) dX12_seen_62 fl_X12_121 shp_55 rfl rfl rfl ?_
  refine j_icmp_ge (pc := 65) (t := 112) dX12_seen_65 (by decide) (fun c65 => ?_) (fun c65 => ?_)
  · replace H := H.1 c65
    refine j_aload_n (pc := 112) dX12_seen_112 rfl ?_
    refine s_callV_v (pc := 113) (M1 := M_X12_findNow) (n := 0) (as := []) (a := 55) (st := []) dX12_seen_113 G_X12_findNow wm_X12_258 (by decide +kernel) rfl (Nat.le_of_ble_eq_true rfl) shp_55 rfl (by show 1 ≤ d; omega) (Nat.le_of_ble_eq_true rfl) (Nat.zero_le _) (Nat.zero_le _) ?_
    refine CV.mono H (fun σ1 H => ?_)
    refine j_aload_n (pc := 116) dX12_seen_116 rfl ?_
    refine j_aload_n (pc := 117) dX12_seen_117 rfl ?_
    refine s_geti (pc := 118) 3529 (rg σ1 3529) dX12_seen_118 fl_X12_128 shp_55 rfl rfl rfl ?_
    refine j_iconst (pc := 121) (v := -1) dX12_seen_121 (by decide) ?_
    refine s_callV_v (pc := 122) (M1 := M_X12_findAll) (n := 2) (as := [.int (rg σ1 3529), .int (-1)]) (a := 55) (st := []) dX12_seen_122 G_X12_findAll wm_X12_295 (by decide +kernel) rfl (Nat.le_of_ble_eq_true rfl) shp_55 rfl (by show 1 ≤ d; omega) (Nat.le_of_ble_eq_true rfl) (Nat.zero_le _) (Nat.zero_le _) ?_
    refine CV.mono H (fun σ2 H => ?_)
    refine j_aload_n (pc := 125) dX12_seen_125 rfl ?_
    refine s_geti (pc := 126) 3563 (rg σ2 3563) dX12_seen_126 fl_X12_277 shp_55 rfl rfl rfl ?_
    refine j_if_ge (pc := 129) (t := 137) dX12_seen_129 (by decide) (fun c129 => ?_) (fun c129 => ?_)
    · replace H := H.1 c129
      refine j_aload_n (pc := 137) dX12_seen_137 rfl ?_
      refine s_geti (pc := 138) 3563 (rg σ2 3563) dX12_seen_138 fl_X12_277 shp_55 rfl rfl rfl ?_
      exact s_ireti (pc := 141) dX12_seen_141 rfl H
    · replace H := H.2 c129
      refine j_bipush (pc := 132) (v := -2) dX12_seen_132 (by decide) ?_
      refine j_goto (pc := 134) (t := 141) dX12_seen_134 (by decide) ?_
      exact s_ireti (pc := 141) dX12_seen_141 rfl H
  · replace H := H.2 c65
    refine j_aload_n (pc := 68) dX12_seen_68 rfl ?_
    refine s_getr (pc := 69) dX12_seen_69 fl_X12_101 shp_55 rfl ?_
    refine j_bipush (pc := 72) (v := 60) dX12_seen_72 (by decide) ?_
    refine j_iload_n (pc := 74) dX12_seen_74 rfl ?_
    refine j_imul (pc := 75) dX12_seen_75 ?_
    refine j_iload_n (pc := 76) dX12_seen_76 rfl ?_
    refine j_iadd (pc := 77) dX12_seen_77 ?_
    have b78 := H.1
    replace H := H.2
    refine s_lald (pc := 78) (lr σ 83 (((60 * x1) + x2).toNatClampNeg)) dX12_seen_78 shp_83 b78 rfl ?_
    refine j_l2i (pc := 79) dX12_seen_79 ?_
    refine j_istore_n (pc := 80) (lv1 := [(3, .int ((lr σ 83 (((60 * x1) + x2).toNatClampNeg)).toInt32)), (0, .ref 55), (1, .int x1), (2, .int x2)]) dX12_seen_80 (Nat.le_of_ble_eq_true rfl) rfl ?_
    refine j_aload_n (pc := 81) dX12_seen_81 rfl ?_
    refine j_iload_n (pc := 82) dX12_seen_82 rfl ?_
    refine s_callV_i (pc := 83) (M1 := M_X12_isRoom) (n := 1) (as := [.int ((lr σ 83 (((60 * x1) + x2).toNatClampNeg)).toInt32)]) (a := 55) (st := []) dX12_seen_83 G_X12_isRoom wm_X12_124 (by decide +kernel) rfl (Nat.le_of_ble_eq_true rfl) shp_55 rfl (by show 1 ≤ d; omega) (Nat.le_of_ble_eq_true rfl) (Nat.zero_le _) (Nat.zero_le _) ?_
    refine C_X12_isRoom (d := d - 1) (by omega) ⟨fun c83 => ?_, fun c83 => ?_⟩
    · replace H := H.1 c83
      refine j_if_ne (pc := 86) (t := 92) dX12_seen_86 (by decide) (fun _ => ?_) (fun q => absurd q (by decide))
      refine j_aload_n (pc := 92) dX12_seen_92 rfl ?_
      refine j_dup (pc := 93) dX12_seen_93 rfl ?_
      refine s_geti (pc := 94) 3562 (rg σ 3562) dX12_seen_94 fl_X12_283 shp_55 rfl rfl rfl ?_
      refine j_iload_n (pc := 97) dX12_seen_97 rfl ?_
      refine j_iconst (pc := 98) (v := 2) dX12_seen_98 (by decide) ?_
      refine j_iload_n (pc := 99) dX12_seen_99 rfl ?_
      refine j_imul (pc := 100) dX12_seen_100 ?_
      refine j_ishl (pc := 101) dX12_seen_101 ?_
      refine j_ior (pc := 102) dX12_seen_102 ?_
      refine s_put (pc := 103) 3562 dX12_seen_103 fl_X12_283 shp_55 rfl rfl fp_12_42 rfl rfl ?_
      refine j_iinc (pc := 106) (k := 3) (v := x2 + 1) (lv1 := [(2, .int (x2 + 1)), (3, .int ((lr σ 83 (((60 * x1) + x2).toNatClampNeg)).toInt32)), (0, .ref 55), (1, .int x1)]) dX12_seen_106 rfl rfl (Nat.le_of_ble_eq_true rfl) rfl ?_
      refine j_goto (pc := 109) (t := 60) dX12_seen_109 (by decide) ?_
      refine j_sub [2, 3, 0] rfl ?_
      exact H
    · replace H := H.2 c83
      refine j_if_ne (pc := 86) (t := 92) dX12_seen_86 (by decide) (fun q => absurd q (by decide)) (fun _ => ?_)
      refine j_bipush (pc := 89) (v := -2) dX12_seen_89 (by decide) ?_
      exact s_ireti (pc := 91) dX12_seen_91 rfl H
set_option maxRecDepth 20000 in
theorem b_X12_image_0 {l : Launch} {g : am_G} {d : Nat} {σ : am_S} {k : Int32 → am_S → Prop}   (H : k (rg σ 3526) (sR (sR (sR (sR σ 3565 1) 3566 (rg σ 3526)) 3567 (rg σ 3529)) 3568 (rg σ 3530))) : CI l g M_X12_image d [.ref 55] σ k := by
  show J l g (M_X12_image, d, 0, 0) 0 [(0, .ref 55)] [] (hp σ) 0 0 (kI k)
  refine j_aload_n (pc := 0) dX12_image_0 rfl ?_
  refine j_iconst (pc := 1) (v := 1) dX12_image_1 (by decide) ?_
  refine s_put (pc := 2) 3565 dX12_image_2 fl_X12_330 shp_55 rfl rfl fp_12_45 rfl (by decide) ?_
  refine j_aload_n (pc := 5) dX12_image_5 rfl ?_
  refine j_aload_n (pc := 6) dX12_image_6 rfl ?_
  refine s_geti (pc := 7) 3526 (rg σ 3526) dX12_image_7 fl_X12_121 shp_55 rfl rfl rfl ?_
  refine s_put (pc := 10) 3566 dX12_image_10 fl_X12_333 shp_55 rfl rfl fp_12_46 rfl rfl ?_
  refine j_aload_n (pc := 13) dX12_image_13 rfl ?_
  refine j_aload_n (pc := 14) dX12_image_14 rfl ?_
  refine s_geti (pc := 15) 3529 (rg σ 3529) dX12_image_15 fl_X12_128 shp_55 rfl rfl rfl ?_
  refine s_put (pc := 18) 3567 dX12_image_18 fl_X12_336 shp_55 rfl rfl fp_12_47 rfl rfl ?_
  refine j_aload_n (pc := 21) dX12_image_21 rfl ?_
  refine j_aload_n (pc := 22) dX12_image_22 rfl ?_
  refine s_geti (pc := 23) 3530 (rg σ 3530) dX12_image_23 fl_X12_25 shp_55 rfl rfl rfl ?_
  refine s_put (pc := 26) 3568 dX12_image_26 fl_X12_339 shp_55 rfl rfl fp_12_48 rfl rfl ?_
  refine j_aload_n (pc := 29) dX12_image_29 rfl ?_
  refine s_geti (pc := 30) 3526 (rg σ 3526) dX12_image_30 fl_X12_121 shp_55 rfl rfl rfl ?_
  exact s_ireti (pc := 33) dX12_image_33 rfl H
set_option maxRecDepth 20000 in
theorem b_X12_back_0 {l : Launch} {g : am_G} {d : Nat} {σ : am_S} {k : Int32 → am_S → Prop}   (H : ((¬ rg σ 3565 = 0 → JI l g M_X12_back d 12 [(0, .ref 55), (1, .int 0)] [] σ k) ∧ (rg σ 3565 = 0 → k (-5) σ))) : CI l g M_X12_back d [.ref 55] σ k := by
  show J l g (M_X12_back, d, 0, 0) 0 [(0, .ref 55)] [] (hp σ) 0 0 (kI k)
  refine j_aload_n (pc := 0) dX12_back_0 rfl ?_
  refine s_geti (pc := 1) 3565 (rg σ 3565) dX12_back_1 fl_X12_330 shp_55 rfl rfl rfl ?_
  refine j_if_ne (pc := 4) (t := 10) dX12_back_4 (by decide) (fun c4 => ?_) (fun c4 => ?_)
  · replace H := H.1 c4
    refine j_iconst (pc := 10) (v := 0) dX12_back_10 (by decide) ?_
    refine j_istore_n (pc := 11) (lv1 := [(1, .int 0), (0, .ref 55)]) dX12_back_11 (Nat.le_of_ble_eq_true rfl) rfl ?_
    refine j_sub [1, 0] rfl ?_
    exact H
  · replace H := H.2 c4
    refine j_bipush (pc := 7) (v := -5) dX12_back_7 (by decide) ?_
    exact s_ireti (pc := 9) dX12_back_9 rfl H
set_option maxRecDepth 20000 in
theorem b_X12_back_12 {l : Launch} {g : am_G} {d : Nat} {σ : am_S} {k : Int32 → am_S → Prop}  {x1 : Int32} (hd : 1 ≤ d) (H : ((rg σ 3566 ≤ x1 → k (rg σ 3566) (sR σ 3530 (rg σ 3568))) ∧ (¬ rg σ 3566 ≤ x1 → JI l g M_X12_back d 12 [(0, .ref 55), (1, .int (x1 + 1))] [] (sR σ 3529 (((rg σ 3529) &&& (((3 : Int32) <<< ((2 * x1) &&& 31)) ^^^ (-1))) ||| ((((rg σ 3567) >>> ((2 * x1) &&& 31)) &&& 3) <<< ((2 * x1) &&& 31)))) k))) : JI l g M_X12_back d 12 [(0, .ref 55), (1, .int x1)] [] σ k := by
  show J l g (M_X12_back, d, 0, 0) 12 [(0, .ref 55), (1, .int x1)] [] (hp σ) 0 0 (kI k)
  refine j_iload_n (pc := 12) dX12_back_12 rfl ?_
  refine j_aload_n (pc := 13) dX12_back_13 rfl ?_
  refine s_geti (pc := 14) 3566 (rg σ 3566) dX12_back_14 fl_X12_333 shp_55 rfl rfl rfl ?_
  refine j_icmp_ge (pc := 17) (t := 46) dX12_back_17 (by decide) (fun c17 => ?_) (fun c17 => ?_)
  · replace H := H.1 c17
    refine j_aload_n (pc := 46) dX12_back_46 rfl ?_
    refine j_aload_n (pc := 47) dX12_back_47 rfl ?_
    refine s_geti (pc := 48) 3568 (rg σ 3568) dX12_back_48 fl_X12_339 shp_55 rfl rfl rfl ?_
    refine s_put (pc := 51) 3530 dX12_back_51 fl_X12_25 shp_55 rfl rfl fp_12_10 rfl rfl ?_
    refine j_aload_n (pc := 54) dX12_back_54 rfl ?_
    refine s_geti (pc := 55) 3566 (rg σ 3566) dX12_back_55 fl_X12_333 shp_55 rfl rfl rfl ?_
    exact s_ireti (pc := 58) dX12_back_58 rfl H
  · replace H := H.2 c17
    refine j_aload_n (pc := 20) dX12_back_20 rfl ?_
    refine j_aload_n (pc := 21) dX12_back_21 rfl ?_
    refine s_geti (pc := 22) 3529 (rg σ 3529) dX12_back_22 fl_X12_128 shp_55 rfl rfl rfl ?_
    refine j_iload_n (pc := 25) dX12_back_25 rfl ?_
    refine j_aload_n (pc := 26) dX12_back_26 rfl ?_
    refine s_geti (pc := 27) 3567 (rg σ 3567) dX12_back_27 fl_X12_336 shp_55 rfl rfl rfl ?_
    refine j_iload_n (pc := 30) dX12_back_30 rfl ?_
    refine s_callS_i (pc := 31) (M1 := M_X12_roomIn) (n := 2) (as := [.int (rg σ 3567), .int x1]) (st := [.int x1, .int (rg σ 3529), .ref 55]) dX12_back_31 G_X12_roomIn wm_X12_165 (by decide +kernel) rfl (Nat.le_of_ble_eq_true rfl) (by show 1 ≤ d; omega) (Nat.le_of_ble_eq_true rfl) ?_
    refine C_X12_roomIn (d := d - 1) (by omega) ?_
    refine s_callS_i (pc := 34) (M1 := M_X12_put1) (n := 3) (as := [.int (rg σ 3529), .int x1, .int (((rg σ 3567) >>> ((2 * x1) &&& 31)) &&& 3)]) (st := [.ref 55]) dX12_back_34 G_X12_put1 wm_X12_131 (by decide +kernel) rfl (Nat.le_of_ble_eq_true rfl) (by show 1 ≤ d; omega) (Nat.le_of_ble_eq_true rfl) ?_
    refine C_X12_put1 (d := d - 1) (by omega) ?_
    refine s_put (pc := 37) 3529 dX12_back_37 fl_X12_128 shp_55 rfl rfl fp_12_9 rfl rfl ?_
    refine j_iinc (pc := 40) (k := 1) (v := x1 + 1) (lv1 := [(1, .int (x1 + 1)), (0, .ref 55)]) dX12_back_40 rfl rfl (Nat.le_of_ble_eq_true rfl) rfl ?_
    refine j_goto (pc := 43) (t := 12) dX12_back_43 (by decide) ?_
    refine j_sub [1, 0] rfl ?_
    exact H
set_option maxRecDepth 20000 in
theorem C_X12_isBody {l : Launch} {g : am_G} {d : Nat} {σ : am_S} {k : Int32 → am_S → Prop}  {x1 : Int32} (hd : 1 ≤ d) (H : (((¬ x1 < 0 ∧ ¬ (rg σ 3569) - 1 < x1)) → k 1 σ) ∧ (¬ ((¬ x1 < 0 ∧ ¬ (rg σ 3569) - 1 < x1)) → k 0 σ)) : CI l g M_X12_isBody d [.ref 55, .int x1] σ k := by
  show J l g (M_X12_isBody, d, 0, 0) 0 [(0, .ref 55), (1, .int x1)] [] (hp σ) 0 0 (kI k)
  refine j_iload_n (pc := 0) dX12_isBody_0 rfl ?_
  refine j_iconst (pc := 1) (v := 0) dX12_isBody_1 (by decide) ?_
  refine j_aload_n (pc := 2) dX12_isBody_2 rfl ?_
  refine s_geti (pc := 3) 3569 (rg σ 3569) dX12_isBody_3 fl_X12_342 shp_55 rfl rfl rfl ?_
  refine j_iconst (pc := 6) (v := 1) dX12_isBody_6 (by decide) ?_
  refine j_isub (pc := 7) dX12_isBody_7 ?_
  refine s_callS_i (pc := 8) (M1 := M_X12_in) (n := 3) (as := [.int x1, .int 0, .int ((rg σ 3569) - 1)]) (st := []) dX12_isBody_8 G_X12_in wm_X12_114 (by decide +kernel) rfl (Nat.le_of_ble_eq_true rfl) (by show 1 ≤ d; omega) (Nat.le_of_ble_eq_true rfl) ?_
  refine C_X12_in (d := d - 1) (by omega) ⟨fun c8 => ?_, fun c8 => ?_⟩
  · skip
    exact s_iretz (pc := 11) dX12_isBody_11 rfl rfl (H.1 c8)
  · skip
    exact s_iretz (pc := 11) dX12_isBody_11 rfl rfl (H.2 (fun q => c8 (q)))
set_option maxRecDepth 20000 in
theorem b_X12_ran_0 {l : Launch} {g : am_G} {d : Nat} {σ : am_S} {k : am_S → Prop}  {x1 : Int32} (H : ((24 ≤ rg σ 3571 → k (sR σ 3571 ((rg σ 3571) + 1))) ∧ (¬ 24 ≤ rg σ 3571 → (vp_in (rg σ 3571) 24 ∧ k (sR (sA σ 80 ((rg σ 3571).toNatClampNeg) x1) 3571 ((rg σ 3571) + 1)))))) : CV l g M_X12_ran d [.ref 55, .int x1] σ k := by
  show J l g (M_X12_ran, d, 0, 0) 0 [(0, .ref 55), (1, .int x1)] [] (hp σ) 0 0 (kV k)
  refine j_aload_n (pc := 0) dX12_ran_0 rfl ?_
  refine s_geti (pc := 1) 3571 (rg σ 3571) dX12_ran_1 fl_X12_345 shp_55 rfl rfl rfl ?_
  refine j_bipush (pc := 4) (v := 24) dX12_ran_4 (by decide) ?_
  refine j_icmp_ge (pc := 6) (t := 19) dX12_ran_6 (by decide) (fun c6 => ?_) (fun c6 => ?_)
  · replace H := H.1 c6
    refine j_aload_n (pc := 19) dX12_ran_19 rfl ?_
    refine j_dup (pc := 20) dX12_ran_20 rfl ?_
    refine s_geti (pc := 21) 3571 (rg σ 3571) dX12_ran_21 fl_X12_345 shp_55 rfl rfl rfl ?_
    refine j_iconst (pc := 24) (v := 1) dX12_ran_24 (by decide) ?_
    refine j_iadd (pc := 25) dX12_ran_25 ?_
    refine s_put (pc := 26) 3571 dX12_ran_26 fl_X12_345 shp_55 rfl rfl fp_12_51 rfl rfl ?_
    exact s_vret (pc := 29) dX12_ran_29 rfl H
  · replace H := H.2 c6
    refine j_aload_n (pc := 9) dX12_ran_9 rfl ?_
    refine s_getr (pc := 10) dX12_ran_10 fl_X12_92 shp_55 rfl ?_
    refine j_aload_n (pc := 13) dX12_ran_13 rfl ?_
    refine s_geti (pc := 14) 3571 (rg σ 3571) dX12_ran_14 fl_X12_345 shp_55 rfl rfl rfl ?_
    refine j_iload_n (pc := 17) dX12_ran_17 rfl ?_
    have b18 := H.1
    replace H := H.2
    refine s_iast (pc := 18) dX12_ran_18 shp_80 b18 ?_
    refine j_aload_n (pc := 19) dX12_ran_19 rfl ?_
    refine j_dup (pc := 20) dX12_ran_20 rfl ?_
    refine s_geti (pc := 21) 3571 (rg σ 3571) dX12_ran_21 fl_X12_345 shp_55 rfl rfl rfl ?_
    refine j_iconst (pc := 24) (v := 1) dX12_ran_24 (by decide) ?_
    refine j_iadd (pc := 25) dX12_ran_25 ?_
    refine s_put (pc := 26) 3571 dX12_ran_26 fl_X12_345 shp_55 rfl rfl fp_12_51 rfl rfl ?_
    exact s_vret (pc := 29) dX12_ran_29 rfl H
set_option maxRecDepth 20000 in
theorem b_X12_trace_0 {l : Launch} {g : am_G} {d : Nat} {σ : am_S} {k : Int32 → am_S → Prop}  {x1 : Int32} (H : ((x1 < 0 → k (-1) σ) ∧ (¬ x1 < 0 → ((rg σ 3571 ≤ x1 → k (-1) σ) ∧ (¬ rg σ 3571 ≤ x1 → ((24 ≤ x1 → k (-1) σ) ∧ (¬ 24 ≤ x1 → (vp_in x1 24 ∧ k (ar σ 80 x1.toNatClampNeg) σ)))))))) : CI l g M_X12_trace d [.ref 55, .int x1] σ k := by
  show J l g (M_X12_trace, d, 0, 0) 0 [(0, .ref 55), (1, .int x1)] [] (hp σ) 0 0 (kI k)
  refine j_iload_n (pc := 0) dX12_trace_0 rfl ?_
  refine j_if_lt (pc := 1) (t := 27) dX12_trace_1 (by decide) (fun c1 => ?_) (fun c1 => ?_)
  · replace H := H.1 c1
    refine j_iconst (pc := 27) (v := -1) dX12_trace_27 (by decide) ?_
    exact s_ireti (pc := 28) dX12_trace_28 rfl H
  · replace H := H.2 c1
    refine j_iload_n (pc := 4) dX12_trace_4 rfl ?_
    refine j_aload_n (pc := 5) dX12_trace_5 rfl ?_
    refine s_geti (pc := 6) 3571 (rg σ 3571) dX12_trace_6 fl_X12_345 shp_55 rfl rfl rfl ?_
    refine j_icmp_ge (pc := 9) (t := 27) dX12_trace_9 (by decide) (fun c9 => ?_) (fun c9 => ?_)
    · replace H := H.1 c9
      refine j_iconst (pc := 27) (v := -1) dX12_trace_27 (by decide) ?_
      exact s_ireti (pc := 28) dX12_trace_28 rfl H
    · replace H := H.2 c9
      refine j_iload_n (pc := 12) dX12_trace_12 rfl ?_
      refine j_bipush (pc := 13) (v := 24) dX12_trace_13 (by decide) ?_
      refine j_icmp_ge (pc := 15) (t := 27) dX12_trace_15 (by decide) (fun c15 => ?_) (fun c15 => ?_)
      · replace H := H.1 c15
        refine j_iconst (pc := 27) (v := -1) dX12_trace_27 (by decide) ?_
        exact s_ireti (pc := 28) dX12_trace_28 rfl H
      · replace H := H.2 c15
        refine j_aload_n (pc := 18) dX12_trace_18 rfl ?_
        refine s_getr (pc := 19) dX12_trace_19 fl_X12_92 shp_55 rfl ?_
        refine j_iload_n (pc := 22) dX12_trace_22 rfl ?_
        have b23 := H.1
        replace H := H.2
        refine s_iald (pc := 23) (ar σ 80 x1.toNatClampNeg) dX12_trace_23 shp_80 b23 rfl ?_
        refine j_goto (pc := 24) (t := 28) dX12_trace_24 (by decide) ?_
        exact s_ireti (pc := 28) dX12_trace_28 rfl H
set_option maxRecDepth 20000 in
theorem b_X12_body_0 {l : Launch} {g : am_G} {d : Nat} {σ : am_S} {k : Int32 → am_S → Prop}  {x1 : Int32} (hd : 1 ≤ d) (H : (((¬ x1 < 0 ∧ ¬ 7 < x1) → ((¬ rg σ 3569 = 50 → (vp_in (rg σ 3569) 50 ∧ k (((rg σ 3569) + 1) - 1) (sR (sA σ 79 ((rg σ 3569).toNatClampNeg) x1) 3569 ((rg σ 3569) + 1)))) ∧ (rg σ 3569 = 50 → k (-3) σ))) ∧ (¬ (¬ x1 < 0 ∧ ¬ 7 < x1) → k (-1) σ))) : CI l g M_X12_body d [.ref 55, .int x1] σ k := by
  show J l g (M_X12_body, d, 0, 0) 0 [(0, .ref 55), (1, .int x1)] [] (hp σ) 0 0 (kI k)
  refine j_iload_n (pc := 0) dX12_body_0 rfl ?_
  refine j_iconst (pc := 1) (v := 0) dX12_body_1 (by decide) ?_
  refine j_bipush (pc := 2) (v := 7) dX12_body_2 (by decide) ?_
  refine s_callS_i (pc := 4) (M1 := M_X12_in) (n := 3) (as := [.int x1, .int 0, .int 7]) (st := []) dX12_body_4 G_X12_in wm_X12_114 (by decide +kernel) rfl (Nat.le_of_ble_eq_true rfl) (by show 1 ≤ d; omega) (Nat.le_of_ble_eq_true rfl) ?_
  refine C_X12_in (d := d - 1) (by omega) ⟨fun c4 => ?_, fun c4 => ?_⟩
  · replace H := H.1 c4
    refine j_if_ne (pc := 7) (t := 12) dX12_body_7 (by decide) (fun _ => ?_) (fun q => absurd q (by decide))
    refine j_aload_n (pc := 12) dX12_body_12 rfl ?_
    refine s_geti (pc := 13) 3569 (rg σ 3569) dX12_body_13 fl_X12_342 shp_55 rfl rfl rfl ?_
    refine j_bipush (pc := 16) (v := 50) dX12_body_16 (by decide) ?_
    refine j_icmp_ne (pc := 18) (t := 24) dX12_body_18 (by decide) (fun c18 => ?_) (fun c18 => ?_)
    · replace H := H.1 c18
      refine j_aload_n (pc := 24) dX12_body_24 rfl ?_
      refine s_getr (pc := 25) dX12_body_25 fl_X12_89 shp_55 rfl ?_
      refine j_aload_n (pc := 28) dX12_body_28 rfl ?_
      refine s_geti (pc := 29) 3569 (rg σ 3569) dX12_body_29 fl_X12_342 shp_55 rfl rfl rfl ?_
      refine j_iload_n (pc := 32) dX12_body_32 rfl ?_
      have b33 := H.1
      replace H := H.2
      refine s_iast (pc := 33) dX12_body_33 shp_79 b33 ?_
      refine j_aload_n (pc := 34) dX12_body_34 rfl ?_
      refine j_dup (pc := 35) dX12_body_35 rfl ?_
      refine s_geti (pc := 36) 3569 (rg σ 3569) dX12_body_36 fl_X12_342 shp_55 rfl rfl rfl ?_
      refine j_iconst (pc := 39) (v := 1) dX12_body_39 (by decide) ?_
      refine j_iadd (pc := 40) dX12_body_40 ?_
      refine s_put (pc := 41) 3569 dX12_body_41 fl_X12_342 shp_55 rfl rfl fp_12_49 rfl rfl ?_
      refine j_aload_n (pc := 44) dX12_body_44 rfl ?_
      refine s_geti (pc := 45) 3569 ((rg σ 3569) + 1) dX12_body_45 fl_X12_342 shp_55 rfl rfl rfl ?_
      refine j_iconst (pc := 48) (v := 1) dX12_body_48 (by decide) ?_
      refine j_isub (pc := 49) dX12_body_49 ?_
      exact s_ireti (pc := 50) dX12_body_50 rfl H
    · replace H := H.2 c18
      refine j_bipush (pc := 21) (v := -3) dX12_body_21 (by decide) ?_
      exact s_ireti (pc := 23) dX12_body_23 rfl H
  · replace H := H.2 c4
    refine j_if_ne (pc := 7) (t := 12) dX12_body_7 (by decide) (fun q => absurd q (by decide)) (fun _ => ?_)
    refine j_iconst (pc := 10) (v := -1) dX12_body_10 (by decide) ?_
    exact s_ireti (pc := 11) dX12_body_11 rfl H
set_option maxRecDepth 20000 in
theorem b_X12_isUnder_0 {l : Launch} {g : am_G} {d : Nat} {σ : am_S} {k : Int32 → am_S → Prop}  {x0 x1 : Int32} (H : ((x1 = 0 → k 1 σ) ∧ (¬ x1 = 0 → ((x0 = x1 → k 1 σ) ∧ (¬ x0 = x1 → ((¬ x1 = 1 → ((¬ x1 = 2 → ((¬ x1 = 3 → ((¬ x1 = 6 → k 0 σ) ∧ (x1 = 6 → ((¬ x0 = 7 → k 0 σ) ∧ (x0 = 7 → k 1 σ))))) ∧ (x1 = 3 → ((x0 = 5 → k 1 σ) ∧ (¬ x0 = 5 → ((¬ x1 = 6 → k 0 σ) ∧ (x1 = 6 → ((¬ x0 = 7 → k 0 σ) ∧ (x0 = 7 → k 1 σ))))))))) ∧ (x1 = 2 → ((x0 = 3 → k 1 σ) ∧ (¬ x0 = 3 → ((x0 = 5 → k 1 σ) ∧ (¬ x0 = 5 → ((¬ x1 = 3 → ((¬ x1 = 6 → k 0 σ) ∧ (x1 = 6 → ((¬ x0 = 7 → k 0 σ) ∧ (x0 = 7 → k 1 σ))))) ∧ (x1 = 3 → ((x0 = 5 → k 1 σ) ∧ (¬ x0 = 5 → ((¬ x1 = 6 → k 0 σ) ∧ (x1 = 6 → ((¬ x0 = 7 → k 0 σ) ∧ (x0 = 7 → k 1 σ))))))))))))))) ∧ (x1 = 1 → ((x0 = 4 → k 1 σ) ∧ (¬ x0 = 4 → ((¬ x1 = 2 → ((¬ x1 = 3 → ((¬ x1 = 6 → k 0 σ) ∧ (x1 = 6 → ((¬ x0 = 7 → k 0 σ) ∧ (x0 = 7 → k 1 σ))))) ∧ (x1 = 3 → ((x0 = 5 → k 1 σ) ∧ (¬ x0 = 5 → ((¬ x1 = 6 → k 0 σ) ∧ (x1 = 6 → ((¬ x0 = 7 → k 0 σ) ∧ (x0 = 7 → k 1 σ))))))))) ∧ (x1 = 2 → ((x0 = 3 → k 1 σ) ∧ (¬ x0 = 3 → ((x0 = 5 → k 1 σ) ∧ (¬ x0 = 5 → ((¬ x1 = 3 → ((¬ x1 = 6 → k 0 σ) ∧ (x1 = 6 → ((¬ x0 = 7 → k 0 σ) ∧ (x0 = 7 → k 1 σ))))) ∧ (x1 = 3 → ((x0 = 5 → k 1 σ) ∧ (¬ x0 = 5 → ((¬ x1 = 6 → k 0 σ) ∧ (x1 = 6 → ((¬ x0 = 7 → k 0 σ) ∧ (x0 = 7 → k 1 σ))))))))))))))))))))))) : CI l g M_X12_isUnder d [.int x0, .int x1] σ k := by
  show J l g (M_X12_isUnder, d, 0, 0) 0 [(0, .int x0), (1, .int x1)] [] (hp σ) 0 0 (kI k)
  refine j_iload_n (pc := 0) dX12_isUnder_0 rfl ?_
  refine j_if_eq (pc := 1) (t := 56) dX12_isUnder_1 (by decide) (fun c1 => ?_) (fun c1 => ?_)
  · replace H := H.1 c1
    refine j_iconst (pc := 56) (v := 1) dX12_isUnder_56 (by decide) ?_
    refine j_goto (pc := 57) (t := 61) dX12_isUnder_57 (by decide) ?_
    exact s_iretz (pc := 61) dX12_isUnder_61 rfl rfl H
  · replace H := H.2 c1
    refine j_iload_n (pc := 4) dX12_isUnder_4 rfl ?_
    refine j_iload_n (pc := 5) dX12_isUnder_5 rfl ?_
    refine j_icmp_eq (pc := 6) (t := 56) dX12_isUnder_6 (by decide) (fun c6 => ?_) (fun c6 => ?_)
    · replace H := H.1 c6
      refine j_iconst (pc := 56) (v := 1) dX12_isUnder_56 (by decide) ?_
      refine j_goto (pc := 57) (t := 61) dX12_isUnder_57 (by decide) ?_
      exact s_iretz (pc := 61) dX12_isUnder_61 rfl rfl H
    · replace H := H.2 c6
      refine j_iload_n (pc := 9) dX12_isUnder_9 rfl ?_
      refine j_iconst (pc := 10) (v := 1) dX12_isUnder_10 (by decide) ?_
      refine j_icmp_ne (pc := 11) (t := 19) dX12_isUnder_11 (by decide) (fun c11 => ?_) (fun c11 => ?_)
      · replace H := H.1 c11
        refine j_iload_n (pc := 19) dX12_isUnder_19 rfl ?_
        refine j_iconst (pc := 20) (v := 2) dX12_isUnder_20 (by decide) ?_
        refine j_icmp_ne (pc := 21) (t := 34) dX12_isUnder_21 (by decide) (fun c21 => ?_) (fun c21 => ?_)
        · replace H := H.1 c21
          refine j_iload_n (pc := 34) dX12_isUnder_34 rfl ?_
          refine j_iconst (pc := 35) (v := 3) dX12_isUnder_35 (by decide) ?_
          refine j_icmp_ne (pc := 36) (t := 44) dX12_isUnder_36 (by decide) (fun c36 => ?_) (fun c36 => ?_)
          · replace H := H.1 c36
            refine j_iload_n (pc := 44) dX12_isUnder_44 rfl ?_
            refine j_bipush (pc := 45) (v := 6) dX12_isUnder_45 (by decide) ?_
            refine j_icmp_ne (pc := 47) (t := 60) dX12_isUnder_47 (by decide) (fun c47 => ?_) (fun c47 => ?_)
            · replace H := H.1 c47
              refine j_iconst (pc := 60) (v := 0) dX12_isUnder_60 (by decide) ?_
              exact s_iretz (pc := 61) dX12_isUnder_61 rfl rfl H
            · replace H := H.2 c47
              refine j_iload_n (pc := 50) dX12_isUnder_50 rfl ?_
              refine j_bipush (pc := 51) (v := 7) dX12_isUnder_51 (by decide) ?_
              refine j_icmp_ne (pc := 53) (t := 60) dX12_isUnder_53 (by decide) (fun c53 => ?_) (fun c53 => ?_)
              · replace H := H.1 c53
                refine j_iconst (pc := 60) (v := 0) dX12_isUnder_60 (by decide) ?_
                exact s_iretz (pc := 61) dX12_isUnder_61 rfl rfl H
              · replace H := H.2 c53
                refine j_iconst (pc := 56) (v := 1) dX12_isUnder_56 (by decide) ?_
                refine j_goto (pc := 57) (t := 61) dX12_isUnder_57 (by decide) ?_
                exact s_iretz (pc := 61) dX12_isUnder_61 rfl rfl H
          · replace H := H.2 c36
            refine j_iload_n (pc := 39) dX12_isUnder_39 rfl ?_
            refine j_iconst (pc := 40) (v := 5) dX12_isUnder_40 (by decide) ?_
            refine j_icmp_eq (pc := 41) (t := 56) dX12_isUnder_41 (by decide) (fun c41 => ?_) (fun c41 => ?_)
            · replace H := H.1 c41
              refine j_iconst (pc := 56) (v := 1) dX12_isUnder_56 (by decide) ?_
              refine j_goto (pc := 57) (t := 61) dX12_isUnder_57 (by decide) ?_
              exact s_iretz (pc := 61) dX12_isUnder_61 rfl rfl H
            · replace H := H.2 c41
              refine j_iload_n (pc := 44) dX12_isUnder_44 rfl ?_
              refine j_bipush (pc := 45) (v := 6) dX12_isUnder_45 (by decide) ?_
              refine j_icmp_ne (pc := 47) (t := 60) dX12_isUnder_47 (by decide) (fun c47 => ?_) (fun c47 => ?_)
              · replace H := H.1 c47
                refine j_iconst (pc := 60) (v := 0) dX12_isUnder_60 (by decide) ?_
                exact s_iretz (pc := 61) dX12_isUnder_61 rfl rfl H
              · replace H := H.2 c47
                refine j_iload_n (pc := 50) dX12_isUnder_50 rfl ?_
                refine j_bipush (pc := 51) (v := 7) dX12_isUnder_51 (by decide) ?_
                refine j_icmp_ne (pc := 53) (t := 60) dX12_isUnder_53 (by decide) (fun c53 => ?_) (fun c53 => ?_)
                · replace H := H.1 c53
                  refine j_iconst (pc := 60) (v := 0) dX12_isUnder_60 (by decide) ?_
                  exact s_iretz (pc := 61) dX12_isUnder_61 rfl rfl H
                · replace H := H.2 c53
                  refine j_iconst (pc := 56) (v := 1) dX12_isUnder_56 (by decide) ?_
                  refine j_goto (pc := 57) (t := 61) dX12_isUnder_57 (by decide) ?_
                  exact s_iretz (pc := 61) dX12_isUnder_61 rfl rfl H
        · replace H := H.2 c21
          refine j_iload_n (pc := 24) dX12_isUnder_24 rfl ?_
          refine j_iconst (pc := 25) (v := 3) dX12_isUnder_25 (by decide) ?_
          refine j_icmp_eq (pc := 26) (t := 56) dX12_isUnder_26 (by decide) (fun c26 => ?_) (fun c26 => ?_)
          · replace H := H.1 c26
            refine j_iconst (pc := 56) (v := 1) dX12_isUnder_56 (by decide) ?_
            refine j_goto (pc := 57) (t := 61) dX12_isUnder_57 (by decide) ?_
            exact s_iretz (pc := 61) dX12_isUnder_61 rfl rfl H
          · replace H := H.2 c26
            refine j_iload_n (pc := 29) dX12_isUnder_29 rfl ?_
            refine j_iconst (pc := 30) (v := 5) dX12_isUnder_30 (by decide) ?_
            refine j_icmp_eq (pc := 31) (t := 56) dX12_isUnder_31 (by decide) (fun c31 => ?_) (fun c31 => ?_)
            · replace H := H.1 c31
              refine j_iconst (pc := 56) (v := 1) dX12_isUnder_56 (by decide) ?_
              refine j_goto (pc := 57) (t := 61) dX12_isUnder_57 (by decide) ?_
              exact s_iretz (pc := 61) dX12_isUnder_61 rfl rfl H
            · replace H := H.2 c31
              refine j_iload_n (pc := 34) dX12_isUnder_34 rfl ?_
              refine j_iconst (pc := 35) (v := 3) dX12_isUnder_35 (by decide) ?_
              refine j_icmp_ne (pc := 36) (t := 44) dX12_isUnder_36 (by decide) (fun c36 => ?_) (fun c36 => ?_)
              · replace H := H.1 c36
                refine j_iload_n (pc := 44) dX12_isUnder_44 rfl ?_
                refine j_bipush (pc := 45) (v := 6) dX12_isUnder_45 (by decide) ?_
                refine j_icmp_ne (pc := 47) (t := 60) dX12_isUnder_47 (by decide) (fun c47 => ?_) (fun c47 => ?_)
                · replace H := H.1 c47
                  refine j_iconst (pc := 60) (v := 0) dX12_isUnder_60 (by decide) ?_
                  exact s_iretz (pc := 61) dX12_isUnder_61 rfl rfl H
                · replace H := H.2 c47
                  refine j_iload_n (pc := 50) dX12_isUnder_50 rfl ?_
                  refine j_bipush (pc := 51) (v := 7) dX12_isUnder_51 (by decide) ?_
                  refine j_icmp_ne (pc := 53) (t := 60) dX12_isUnder_53 (by decide) (fun c53 => ?_) (fun c53 => ?_)
                  · replace H := H.1 c53
                    refine j_iconst (pc := 60) (v := 0) dX12_isUnder_60 (by decide) ?_
                    exact s_iretz (pc := 61) dX12_isUnder_61 rfl rfl H
                  · replace H := H.2 c53
                    refine j_iconst (pc := 56) (v := 1) dX12_isUnder_56 (by decide) ?_
                    refine j_goto (pc := 57) (t := 61) dX12_isUnder_57 (by decide) ?_
                    exact s_iretz (pc := 61) dX12_isUnder_61 rfl rfl H
              · replace H := H.2 c36
                refine j_iload_n (pc := 39) dX12_isUnder_39 rfl ?_
                refine j_iconst (pc := 40) (v := 5) dX12_isUnder_40 (by decide) ?_
                refine j_icmp_eq (pc := 41) (t := 56) dX12_isUnder_41 (by decide) (fun c41 => ?_) (fun c41 => ?_)
                · replace H := H.1 c41
                  refine j_iconst (pc := 56) (v := 1) dX12_isUnder_56 (by decide) ?_
                  refine j_goto (pc := 57) (t := 61) dX12_isUnder_57 (by decide) ?_
                  exact s_iretz (pc := 61) dX12_isUnder_61 rfl rfl H
                · replace H := H.2 c41
                  refine j_iload_n (pc := 44) dX12_isUnder_44 rfl ?_
                  refine j_bipush (pc := 45) (v := 6) dX12_isUnder_45 (by decide) ?_
                  refine j_icmp_ne (pc := 47) (t := 60) dX12_isUnder_47 (by decide) (fun c47 => ?_) (fun c47 => ?_)
                  · replace H := H.1 c47
                    refine j_iconst (pc := 60) (v := 0) dX12_isUnder_60 (by decide) ?_
                    exact s_iretz (pc := 61) dX12_isUnder_61 rfl rfl H
                  · replace H := H.2 c47
                    refine j_iload_n (pc := 50) dX12_isUnder_50 rfl ?_
                    refine j_bipush (pc := 51) (v := 7) dX12_isUnder_51 (by decide) ?_
                    refine j_icmp_ne (pc := 53) (t := 60) dX12_isUnder_53 (by decide) (fun c53 => ?_) (fun c53 => ?_)
                    · replace H := H.1 c53
                      refine j_iconst (pc := 60) (v := 0) dX12_isUnder_60 (by decide) ?_
                      exact s_iretz (pc := 61) dX12_isUnder_61 rfl rfl H
                    · replace H := H.2 c53
                      refine j_iconst (pc := 56) (v := 1) dX12_isUnder_56 (by decide) ?_
                      refine j_goto (pc := 57) (t := 61) dX12_isUnder_57 (by decide) ?_
                      exact s_iretz (pc := 61) dX12_isUnder_61 rfl rfl H
      · replace H := H.2 c11
        refine j_iload_n (pc := 14) dX12_isUnder_14 rfl ?_
        refine j_iconst (pc := 15) (v := 4) dX12_isUnder_15 (by decide) ?_
        refine j_icmp_eq (pc := 16) (t := 56) dX12_isUnder_16 (by decide) (fun c16 => ?_) (fun c16 => ?_)
        · replace H := H.1 c16
          refine j_iconst (pc := 56) (v := 1) dX12_isUnder_56 (by decide) ?_
          refine j_goto (pc := 57) (t := 61) dX12_isUnder_57 (by decide) ?_
          exact s_iretz (pc := 61) dX12_isUnder_61 rfl rfl H
        · replace H := H.2 c16
          refine j_iload_n (pc := 19) dX12_isUnder_19 rfl ?_
          refine j_iconst (pc := 20) (v := 2) dX12_isUnder_20 (by decide) ?_
          refine j_icmp_ne (pc := 21) (t := 34) dX12_isUnder_21 (by decide) (fun c21 => ?_) (fun c21 => ?_)
          · replace H := H.1 c21
            refine j_iload_n (pc := 34) dX12_isUnder_34 rfl ?_
            refine j_iconst (pc := 35) (v := 3) dX12_isUnder_35 (by decide) ?_
            refine j_icmp_ne (pc := 36) (t := 44) dX12_isUnder_36 (by decide) (fun c36 => ?_) (fun c36 => ?_)
            · replace H := H.1 c36
              refine j_iload_n (pc := 44) dX12_isUnder_44 rfl ?_
              refine j_bipush (pc := 45) (v := 6) dX12_isUnder_45 (by decide) ?_
              refine j_icmp_ne (pc := 47) (t := 60) dX12_isUnder_47 (by decide) (fun c47 => ?_) (fun c47 => ?_)
              · replace H := H.1 c47
                refine j_iconst (pc := 60) (v := 0) dX12_isUnder_60 (by decide) ?_
                exact s_iretz (pc := 61) dX12_isUnder_61 rfl rfl H
              · replace H := H.2 c47
                refine j_iload_n (pc := 50) dX12_isUnder_50 rfl ?_
                refine j_bipush (pc := 51) (v := 7) dX12_isUnder_51 (by decide) ?_
                refine j_icmp_ne (pc := 53) (t := 60) dX12_isUnder_53 (by decide) (fun c53 => ?_) (fun c53 => ?_)
                · replace H := H.1 c53
                  refine j_iconst (pc := 60) (v := 0) dX12_isUnder_60 (by decide) ?_
                  exact s_iretz (pc := 61) dX12_isUnder_61 rfl rfl H
                · replace H := H.2 c53
                  refine j_iconst (pc := 56) (v := 1) dX12_isUnder_56 (by decide) ?_
                  refine j_goto (pc := 57) (t := 61) dX12_isUnder_57 (by decide) ?_
                  exact s_iretz (pc := 61) dX12_isUnder_61 rfl rfl H
            · replace H := H.2 c36
              refine j_iload_n (pc := 39) dX12_isUnder_39 rfl ?_
              refine j_iconst (pc := 40) (v := 5) dX12_isUnder_40 (by decide) ?_
              refine j_icmp_eq (pc := 41) (t := 56) dX12_isUnder_41 (by decide) (fun c41 => ?_) (fun c41 => ?_)
              · replace H := H.1 c41
                refine j_iconst (pc := 56) (v := 1) dX12_isUnder_56 (by decide) ?_
                refine j_goto (pc := 57) (t := 61) dX12_isUnder_57 (by decide) ?_
                exact s_iretz (pc := 61) dX12_isUnder_61 rfl rfl H
              · replace H := H.2 c41
                refine j_iload_n (pc := 44) dX12_isUnder_44 rfl ?_
                refine j_bipush (pc := 45) (v := 6) dX12_isUnder_45 (by decide) ?_
                refine j_icmp_ne (pc := 47) (t := 60) dX12_isUnder_47 (by decide) (fun c47 => ?_) (fun c47 => ?_)
                · replace H := H.1 c47
                  refine j_iconst (pc := 60) (v := 0) dX12_isUnder_60 (by decide) ?_
                  exact s_iretz (pc := 61) dX12_isUnder_61 rfl rfl H
                · replace H := H.2 c47
                  refine j_iload_n (pc := 50) dX12_isUnder_50 rfl ?_
                  refine j_bipush (pc := 51) (v := 7) dX12_isUnder_51 (by decide) ?_
                  refine j_icmp_ne (pc := 53) (t := 60) dX12_isUnder_53 (by decide) (fun c53 => ?_) (fun c53 => ?_)
                  · replace H := H.1 c53
                    refine j_iconst (pc := 60) (v := 0) dX12_isUnder_60 (by decide) ?_
                    exact s_iretz (pc := 61) dX12_isUnder_61 rfl rfl H
                  · replace H := H.2 c53
                    refine j_iconst (pc := 56) (v := 1) dX12_isUnder_56 (by decide) ?_
                    refine j_goto (pc := 57) (t := 61) dX12_isUnder_57 (by decide) ?_
                    exact s_iretz (pc := 61) dX12_isUnder_61 rfl rfl H
          · replace H := H.2 c21
            refine j_iload_n (pc := 24) dX12_isUnder_24 rfl ?_
            refine j_iconst (pc := 25) (v := 3) dX12_isUnder_25 (by decide) ?_
            refine j_icmp_eq (pc := 26) (t := 56) dX12_isUnder_26 (by decide) (fun c26 => ?_) (fun c26 => ?_)
            · replace H := H.1 c26
              refine j_iconst (pc := 56) (v := 1) dX12_isUnder_56 (by decide) ?_
              refine j_goto (pc := 57) (t := 61) dX12_isUnder_57 (by decide) ?_
              exact s_iretz (pc := 61) dX12_isUnder_61 rfl rfl H
            · replace H := H.2 c26
              refine j_iload_n (pc := 29) dX12_isUnder_29 rfl ?_
              refine j_iconst (pc := 30) (v := 5) dX12_isUnder_30 (by decide) ?_
              refine j_icmp_eq (pc := 31) (t := 56) dX12_isUnder_31 (by decide) (fun c31 => ?_) (fun c31 => ?_)
              · replace H := H.1 c31
                refine j_iconst (pc := 56) (v := 1) dX12_isUnder_56 (by decide) ?_
                refine j_goto (pc := 57) (t := 61) dX12_isUnder_57 (by decide) ?_
                exact s_iretz (pc := 61) dX12_isUnder_61 rfl rfl H
              · replace H := H.2 c31
                refine j_iload_n (pc := 34) dX12_isUnder_34 rfl ?_
                refine j_iconst (pc := 35) (v := 3) dX12_isUnder_35 (by decide) ?_
                refine j_icmp_ne (pc := 36) (t := 44) dX12_isUnder_36 (by decide) (fun c36 => ?_) (fun c36 => ?_)
                · replace H := H.1 c36
                  refine j_iload_n (pc := 44) dX12_isUnder_44 rfl ?_
                  refine j_bipush (pc := 45) (v := 6) dX12_isUnder_45 (by decide) ?_
                  refine j_icmp_ne (pc := 47) (t := 60) dX12_isUnder_47 (by decide) (fun c47 => ?_) (fun c47 => ?_)
                  · replace H := H.1 c47
                    refine j_iconst (pc := 60) (v := 0) dX12_isUnder_60 (by decide) ?_
                    exact s_iretz (pc := 61) dX12_isUnder_61 rfl rfl H
                  · replace H := H.2 c47
                    refine j_iload_n (pc := 50) dX12_isUnder_50 rfl ?_
                    refine j_bipush (pc := 51) (v := 7) dX12_isUnder_51 (by decide) ?_
                    refine j_icmp_ne (pc := 53) (t := 60) dX12_isUnder_53 (by decide) (fun c53 => ?_) (fun c53 => ?_)
                    · replace H := H.1 c53
                      refine j_iconst (pc := 60) (v := 0) dX12_isUnder_60 (by decide) ?_
                      exact s_iretz (pc := 61) dX12_isUnder_61 rfl rfl H
                    · replace H := H.2 c53
                      refine j_iconst (pc := 56) (v := 1) dX12_isUnder_56 (by decide) ?_
                      refine j_goto (pc := 57) (t := 61) dX12_isUnder_57 (by decide) ?_
                      exact s_iretz (pc := 61) dX12_isUnder_61 rfl rfl H
                · replace H := H.2 c36
                  refine j_iload_n (pc := 39) dX12_isUnder_39 rfl ?_
                  refine j_iconst (pc := 40) (v := 5) dX12_isUnder_40 (by decide) ?_
                  refine j_icmp_eq (pc := 41) (t := 56) dX12_isUnder_41 (by decide) (fun c41 => ?_) (fun c41 => ?_)
                  · replace H := H.1 c41
                    refine j_iconst (pc := 56) (v := 1) dX12_isUnder_56 (by decide) ?_
                    refine j_goto (pc := 57) (t := 61) dX12_isUnder_57 (by decide) ?_
                    exact s_iretz (pc := 61) dX12_isUnder_61 rfl rfl H
                  · replace H := H.2 c41
                    refine j_iload_n (pc := 44) dX12_isUnder_44 rfl ?_
                    refine j_bipush (pc := 45) (v := 6) dX12_isUnder_45 (by decide) ?_
                    refine j_icmp_ne (pc := 47) (t := 60) dX12_isUnder_47 (by decide) (fun c47 => ?_) (fun c47 => ?_)
                    · replace H := H.1 c47
                      refine j_iconst (pc := 60) (v := 0) dX12_isUnder_60 (by decide) ?_
                      exact s_iretz (pc := 61) dX12_isUnder_61 rfl rfl H
                    · replace H := H.2 c47
                      refine j_iload_n (pc := 50) dX12_isUnder_50 rfl ?_
                      refine j_bipush (pc := 51) (v := 7) dX12_isUnder_51 (by decide) ?_
                      refine j_icmp_ne (pc := 53) (t := 60) dX12_isUnder_53 (by decide) (fun c53 => ?_) (fun c53 => ?_)
                      · replace H := H.1 c53
                        refine j_iconst (pc := 60) (v := 0) dX12_isUnder_60 (by decide) ?_
                        exact s_iretz (pc := 61) dX12_isUnder_61 rfl rfl H
                      · replace H := H.2 c53
                        refine j_iconst (pc := 56) (v := 1) dX12_isUnder_56 (by decide) ?_
                        refine j_goto (pc := 57) (t := 61) dX12_isUnder_57 (by decide) ?_
                        exact s_iretz (pc := 61) dX12_isUnder_61 rfl rfl H
set_option maxRecDepth 20000 in
theorem b_X12_plainLets_0 {l : Launch} {g : am_G} {d : Nat} {σ : am_S} {k : Int32 → am_S → Prop}  {x1 x2 : Int32} (hd : 1 ≤ d) (H : CV l g M_X12_ran (d - 1) [.ref 55, .int 1] σ (fun σ1 => k (x2 + x1) σ1)) : CI l g M_X12_plainLets d [.ref 55, .int x1, .int x2] σ k := by
  show J l g (M_X12_plainLets, d, 0, 0) 0 [(0, .ref 55), (1, .int x1), (2, .int x2)] [] (hp σ) 0 0 (kI k)
  refine j_aload_n (pc := 0) dX12_plainLets_0 rfl ?_
  refine j_iconst (pc := 1) (v := 1) dX12_plainLets_1 (by decide) ?_
  refine s_callV_v (pc := 2) (M1 := M_X12_ran) (n := 1) (as := [.int 1]) (a := 55) (st := []) dX12_plainLets_2 G_X12_ran wm_X12_348 (by decide +kernel) rfl (Nat.le_of_ble_eq_true rfl) shp_55 rfl (by show 1 ≤ d; omega) (Nat.le_of_ble_eq_true rfl) (Nat.zero_le _) (Nat.zero_le _) ?_
  refine CV.mono H (fun σ1 H => ?_)
  refine j_iload_n (pc := 5) dX12_plainLets_5 rfl ?_
  refine j_iload_n (pc := 6) dX12_plainLets_6 rfl ?_
  refine j_iadd (pc := 7) dX12_plainLets_7 ?_
  exact s_ireti (pc := 8) dX12_plainLets_8 rfl H
set_option maxRecDepth 20000 in
theorem b_X12_toldLets_0 {l : Launch} {g : am_G} {d : Nat} {σ : am_S} {k : Int32 → am_S → Prop}  {x1 x2 : Int32} (hd : 1 ≤ d) (H : CV l g M_X12_ran (d - 1) [.ref 55, .int 70] σ (fun σ1 => CI l g M_X12_plainLets (d - 1) [.ref 55, .int x1, .int x2] σ1 (fun r2 σ2 => k (r2 * 2) σ2))) : CI l g M_X12_toldLets d [.ref 55, .int x1, .int x2] σ k := by
  show J l g (M_X12_toldLets, d, 0, 0) 0 [(0, .ref 55), (1, .int x1), (2, .int x2)] [] (hp σ) 0 0 (kI k)
  refine j_aload_n (pc := 0) dX12_toldLets_0 rfl ?_
  refine j_bipush (pc := 1) (v := 70) dX12_toldLets_1 (by decide) ?_
  refine s_callV_v (pc := 3) (M1 := M_X12_ran) (n := 1) (as := [.int 70]) (a := 55) (st := []) dX12_toldLets_3 G_X12_ran wm_X12_348 (by decide +kernel) rfl (Nat.le_of_ble_eq_true rfl) shp_55 rfl (by show 1 ≤ d; omega) (Nat.le_of_ble_eq_true rfl) (Nat.zero_le _) (Nat.zero_le _) ?_
  refine CV.mono H (fun σ1 H => ?_)
  refine j_aload_n (pc := 6) dX12_toldLets_6 rfl ?_
  refine j_iload_n (pc := 7) dX12_toldLets_7 rfl ?_
  refine j_iload_n (pc := 8) dX12_toldLets_8 rfl ?_
  refine s_callV_i (pc := 9) (M1 := M_X12_plainLets) (n := 2) (as := [.int x1, .int x2]) (a := 55) (st := []) dX12_toldLets_9 G_X12_plainLets wm_X12_352 (by decide +kernel) rfl (Nat.le_of_ble_eq_true rfl) shp_55 rfl (by show 1 ≤ d; omega) (Nat.le_of_ble_eq_true rfl) (Nat.zero_le _) (Nat.zero_le _) ?_
  refine CI.mono H (fun r2 σ2 H => ?_)
  refine j_iconst (pc := 12) (v := 2) dX12_toldLets_12 (by decide) ?_
  refine j_imul (pc := 13) dX12_toldLets_13 ?_
  exact s_ireti (pc := 14) dX12_toldLets_14 rfl H
set_option maxRecDepth 20000 in
theorem b_X12_letting_0 {l : Launch} {g : am_G} {d : Nat} {σ : am_S} {k : Int32 → am_S → Prop}  {x1 x2 : Int32} (hd : 1 ≤ d) (H : (vp_in x1 50 ∧ CI l g M_X12_isUnder (d - 1) [.int (ar σ 79 x1.toNatClampNeg), .int 1] σ (fun r1 σ1 => ((r1 = 0 → (vp_in x1 50 ∧ ((¬ ar σ1 79 x1.toNatClampNeg = 7 → (vp_in x1 50 ∧ ((¬ ar σ1 79 x1.toNatClampNeg = 6 → CI l g M_X12_plainLets (d - 1) [.ref 55, .int x1, .int x2] σ1 (fun r2 σ2 => k r2 σ2)) ∧ (ar σ1 79 x1.toNatClampNeg = 6 → CI l g M_X12_toldLets (d - 1) [.ref 55, .int x1, .int x2] σ1 (fun r3 σ3 => k r3 σ3))))) ∧ (ar σ1 79 x1.toNatClampNeg = 7 → CV l g M_X12_ran (d - 1) [.ref 55, .int 81] σ1 (fun σ4 => CI l g M_X12_toldLets (d - 1) [.ref 55, .int x1, .int x2] σ4 (fun r5 σ5 => k (r5 - 1) σ5)))))) ∧ (¬ r1 = 0 → CV l g M_X12_ran (d - 1) [.ref 55, .int 20] σ1 (fun σ6 => CI l g M_X12_plainLets (d - 1) [.ref 55, .int x1, .int x2] σ6 (fun r7 σ7 => k (r7 + 3) σ7))))))) : CI l g M_X12_letting d [.ref 55, .int x1, .int x2] σ k := by
  show J l g (M_X12_letting, d, 0, 0) 0 [(0, .ref 55), (1, .int x1), (2, .int x2)] [] (hp σ) 0 0 (kI k)
  refine j_aload_n (pc := 0) dX12_letting_0 rfl ?_
  refine s_getr (pc := 1) dX12_letting_1 fl_X12_89 shp_55 rfl ?_
  refine j_iload_n (pc := 4) dX12_letting_4 rfl ?_
  have b5 := H.1
  replace H := H.2
  refine s_iald (pc := 5) (ar σ 79 x1.toNatClampNeg) dX12_letting_5 shp_79 b5 rfl ?_
  refine j_iconst (pc := 6) (v := 1) dX12_letting_6 (by decide) ?_
  refine s_callS_i (pc := 7) (M1 := M_X12_isUnder) (n := 2) (as := [.int (ar σ 79 x1.toNatClampNeg), .int 1]) (st := []) dX12_letting_7 G_X12_isUnder wm_X12_355 (by decide +kernel) rfl (Nat.le_of_ble_eq_true rfl) (by show 1 ≤ d; omega) (Nat.le_of_ble_eq_true rfl) ?_
  refine CI.mono H (fun r1 σ1 H => ?_)
  refine j_if_eq (pc := 10) (t := 28) dX12_letting_10 (by decide) (fun c10 => ?_) (fun c10 => ?_)
  · replace H := H.1 c10
    refine j_aload_n (pc := 28) dX12_letting_28 rfl ?_
    refine s_getr (pc := 29) dX12_letting_29 fl_X12_89 shp_55 rfl ?_
    refine j_iload_n (pc := 32) dX12_letting_32 rfl ?_
    have b33 := H.1
    replace H := H.2
    refine s_iald (pc := 33) (ar σ1 79 x1.toNatClampNeg) dX12_letting_33 shp_79 b33 rfl ?_
    refine j_bipush (pc := 34) (v := 7) dX12_letting_34 (by decide) ?_
    refine j_icmp_ne (pc := 36) (t := 54) dX12_letting_36 (by decide) (fun c36 => ?_) (fun c36 => ?_)
    · replace H := H.1 c36
      refine j_aload_n (pc := 54) dX12_letting_54 rfl ?_
      refine s_getr (pc := 55) dX12_letting_55 fl_X12_89 shp_55 rfl ?_
      refine j_iload_n (pc := 58) dX12_letting_58 rfl ?_
      have b59 := H.1
      replace H := H.2
      refine s_iald (pc := 59) (ar σ1 79 x1.toNatClampNeg) dX12_letting_59 shp_79 b59 rfl ?_
      refine j_bipush (pc := 60) (v := 6) dX12_letting_60 (by decide) ?_
      refine j_icmp_ne (pc := 62) (t := 74) dX12_letting_62 (by decide) (fun c62 => ?_) (fun c62 => ?_)
      · replace H := H.1 c62
        refine j_aload_n (pc := 74) dX12_letting_74 rfl ?_
        refine j_iload_n (pc := 75) dX12_letting_75 rfl ?_
        refine j_iload_n (pc := 76) dX12_letting_76 rfl ?_
        refine s_callV_i (pc := 77) (M1 := M_X12_plainLets) (n := 2) (as := [.int x1, .int x2]) (a := 55) (st := []) dX12_letting_77 G_X12_plainLets wm_X12_352 (by decide +kernel) rfl (Nat.le_of_ble_eq_true rfl) shp_55 rfl (by show 1 ≤ d; omega) (Nat.le_of_ble_eq_true rfl) (Nat.zero_le _) (Nat.zero_le _) ?_
        refine CI.mono H (fun r2 σ2 H => ?_)
        exact s_ireti (pc := 80) dX12_letting_80 rfl H
      · replace H := H.2 c62
        refine j_aload_n (pc := 65) dX12_letting_65 rfl ?_
        refine j_iload_n (pc := 66) dX12_letting_66 rfl ?_
        refine j_iload_n (pc := 67) dX12_letting_67 rfl ?_
        refine s_callV_i (pc := 68) (M1 := M_X12_toldLets) (n := 2) (as := [.int x1, .int x2]) (a := 55) (st := []) dX12_letting_68 G_X12_toldLets wm_X12_358 (by decide +kernel) rfl (Nat.le_of_ble_eq_true rfl) shp_55 rfl (by show 1 ≤ d; omega) (Nat.le_of_ble_eq_true rfl) (Nat.zero_le _) (Nat.zero_le _) ?_
        refine CI.mono H (fun r3 σ3 H => ?_)
        refine j_goto (pc := 71) (t := 80) dX12_letting_71 (by decide) ?_
        exact s_ireti (pc := 80) dX12_letting_80 rfl H
    · replace H := H.2 c36
      refine j_aload_n (pc := 39) dX12_letting_39 rfl ?_
      refine j_bipush (pc := 40) (v := 81) dX12_letting_40 (by decide) ?_
      refine s_callV_v (pc := 42) (M1 := M_X12_ran) (n := 1) (as := [.int 81]) (a := 55) (st := []) dX12_letting_42 G_X12_ran wm_X12_348 (by decide +kernel) rfl (Nat.le_of_ble_eq_true rfl) shp_55 rfl (by show 1 ≤ d; omega) (Nat.le_of_ble_eq_true rfl) (Nat.zero_le _) (Nat.zero_le _) ?_
      refine CV.mono H (fun σ4 H => ?_)
      refine j_aload_n (pc := 45) dX12_letting_45 rfl ?_
      refine j_iload_n (pc := 46) dX12_letting_46 rfl ?_
      refine j_iload_n (pc := 47) dX12_letting_47 rfl ?_
      refine s_callV_i (pc := 48) (M1 := M_X12_toldLets) (n := 2) (as := [.int x1, .int x2]) (a := 55) (st := []) dX12_letting_48 G_X12_toldLets wm_X12_358 (by decide +kernel) rfl (Nat.le_of_ble_eq_true rfl) shp_55 rfl (by show 1 ≤ d; omega) (Nat.le_of_ble_eq_true rfl) (Nat.zero_le _) (Nat.zero_le _) ?_
      refine CI.mono H (fun r5 σ5 H => ?_)
      refine j_iconst (pc := 51) (v := 1) dX12_letting_51 (by decide) ?_
      refine j_isub (pc := 52) dX12_letting_52 ?_
      exact s_ireti (pc := 53) dX12_letting_53 rfl H
  · replace H := H.2 c10
    refine j_aload_n (pc := 13) dX12_letting_13 rfl ?_
    refine j_bipush (pc := 14) (v := 20) dX12_letting_14 (by decide) ?_
    refine s_callV_v (pc := 16) (M1 := M_X12_ran) (n := 1) (as := [.int 20]) (a := 55) (st := []) dX12_letting_16 G_X12_ran wm_X12_348 (by decide +kernel) rfl (Nat.le_of_ble_eq_true rfl) shp_55 rfl (by show 1 ≤ d; omega) (Nat.le_of_ble_eq_true rfl) (Nat.zero_le _) (Nat.zero_le _) ?_
    refine CV.mono H (fun σ6 H => ?_)
    refine j_aload_n (pc := 19) dX12_letting_19 rfl ?_
    refine j_iload_n (pc := 20) dX12_letting_20 rfl ?_
    refine j_iload_n (pc := 21) dX12_letting_21 rfl ?_
    refine s_callV_i (pc := 22) (M1 := M_X12_plainLets) (n := 2) (as := [.int x1, .int x2]) (a := 55) (st := []) dX12_letting_22 G_X12_plainLets wm_X12_352 (by decide +kernel) rfl (Nat.le_of_ble_eq_true rfl) shp_55 rfl (by show 1 ≤ d; omega) (Nat.le_of_ble_eq_true rfl) (Nat.zero_le _) (Nat.zero_le _) ?_
    refine CI.mono H (fun r7 σ7 H => ?_)
    refine j_iconst (pc := 25) (v := 3) dX12_letting_25 (by decide) ?_
    refine j_iadd (pc := 26) dX12_letting_26 ?_
    exact s_ireti (pc := 27) dX12_letting_27 rfl H
set_option maxRecDepth 20000 in
theorem b_X12_plainBars_0 {l : Launch} {g : am_G} {d : Nat} {σ : am_S} {k : Int32 → am_S → Prop}  {x1 x2 : Int32} (hd : 1 ≤ d) (H : CV l g M_X12_ran (d - 1) [.ref 55, .int 10] σ (fun σ1 => CI l g M_X12_letting (d - 1) [.ref 55, .int x1, .int x2] σ1 (fun r2 σ2 => k (r2 * 2) σ2))) : CI l g M_X12_plainBars d [.ref 55, .int x1, .int x2] σ k := by
  show J l g (M_X12_plainBars, d, 0, 0) 0 [(0, .ref 55), (1, .int x1), (2, .int x2)] [] (hp σ) 0 0 (kI k)
  refine j_aload_n (pc := 0) dX12_plainBars_0 rfl ?_
  refine j_bipush (pc := 1) (v := 10) dX12_plainBars_1 (by decide) ?_
  refine s_callV_v (pc := 3) (M1 := M_X12_ran) (n := 1) (as := [.int 10]) (a := 55) (st := []) dX12_plainBars_3 G_X12_ran wm_X12_348 (by decide +kernel) rfl (Nat.le_of_ble_eq_true rfl) shp_55 rfl (by show 1 ≤ d; omega) (Nat.le_of_ble_eq_true rfl) (Nat.zero_le _) (Nat.zero_le _) ?_
  refine CV.mono H (fun σ1 H => ?_)
  refine j_aload_n (pc := 6) dX12_plainBars_6 rfl ?_
  refine j_iload_n (pc := 7) dX12_plainBars_7 rfl ?_
  refine j_iload_n (pc := 8) dX12_plainBars_8 rfl ?_
  refine s_callV_i (pc := 9) (M1 := M_X12_letting) (n := 2) (as := [.int x1, .int x2]) (a := 55) (st := []) dX12_plainBars_9 G_X12_letting wm_X12_361 (by decide +kernel) rfl (Nat.le_of_ble_eq_true rfl) shp_55 rfl (by show 1 ≤ d; omega) (Nat.le_of_ble_eq_true rfl) (Nat.zero_le _) (Nat.zero_le _) ?_
  refine CI.mono H (fun r2 σ2 H => ?_)
  refine j_iconst (pc := 12) (v := 2) dX12_plainBars_12 (by decide) ?_
  refine j_imul (pc := 13) dX12_plainBars_13 ?_
  exact s_ireti (pc := 14) dX12_plainBars_14 rfl H
set_option maxRecDepth 20000 in
theorem b_X12_downBars_0 {l : Launch} {g : am_G} {d : Nat} {σ : am_S} {k : Int32 → am_S → Prop}  {x1 x2 : Int32} (hd : 1 ≤ d) (H : CV l g M_X12_ran (d - 1) [.ref 55, .int 30] σ (fun σ1 => CI l g M_X12_plainBars (d - 1) [.ref 55, .int x1, .int x2] σ1 (fun r2 σ2 => k (-r2) σ2))) : CI l g M_X12_downBars d [.ref 55, .int x1, .int x2] σ k := by
  show J l g (M_X12_downBars, d, 0, 0) 0 [(0, .ref 55), (1, .int x1), (2, .int x2)] [] (hp σ) 0 0 (kI k)
  refine j_aload_n (pc := 0) dX12_downBars_0 rfl ?_
  refine j_bipush (pc := 1) (v := 30) dX12_downBars_1 (by decide) ?_
  refine s_callV_v (pc := 3) (M1 := M_X12_ran) (n := 1) (as := [.int 30]) (a := 55) (st := []) dX12_downBars_3 G_X12_ran wm_X12_348 (by decide +kernel) rfl (Nat.le_of_ble_eq_true rfl) shp_55 rfl (by show 1 ≤ d; omega) (Nat.le_of_ble_eq_true rfl) (Nat.zero_le _) (Nat.zero_le _) ?_
  refine CV.mono H (fun σ1 H => ?_)
  refine j_aload_n (pc := 6) dX12_downBars_6 rfl ?_
  refine j_iload_n (pc := 7) dX12_downBars_7 rfl ?_
  refine j_iload_n (pc := 8) dX12_downBars_8 rfl ?_
  refine s_callV_i (pc := 9) (M1 := M_X12_plainBars) (n := 2) (as := [.int x1, .int x2]) (a := 55) (st := []) dX12_downBars_9 G_X12_plainBars wm_X12_364 (by decide +kernel) rfl (Nat.le_of_ble_eq_true rfl) shp_55 rfl (by show 1 ≤ d; omega) (Nat.le_of_ble_eq_true rfl) (Nat.zero_le _) (Nat.zero_le _) ?_
  refine CI.mono H (fun r2 σ2 H => ?_)
  refine j_ineg (pc := 12) dX12_downBars_12 ?_
  exact s_ireti (pc := 13) dX12_downBars_13 rfl H
set_option maxRecDepth 20000 in
theorem b_X12_plainTurns_0 {l : Launch} {g : am_G} {d : Nat} {σ : am_S} {k : Int32 → am_S → Prop}  {x1 x2 : Int32} (hd : 1 ≤ d) (H : CV l g M_X12_ran (d - 1) [.ref 55, .int 11] σ (fun σ1 => k (x2 ^^^ x1) σ1)) : CI l g M_X12_plainTurns d [.ref 55, .int x1, .int x2] σ k := by
  show J l g (M_X12_plainTurns, d, 0, 0) 0 [(0, .ref 55), (1, .int x1), (2, .int x2)] [] (hp σ) 0 0 (kI k)
  refine j_aload_n (pc := 0) dX12_plainTurns_0 rfl ?_
  refine j_bipush (pc := 1) (v := 11) dX12_plainTurns_1 (by decide) ?_
  refine s_callV_v (pc := 3) (M1 := M_X12_ran) (n := 1) (as := [.int 11]) (a := 55) (st := []) dX12_plainTurns_3 G_X12_ran wm_X12_348 (by decide +kernel) rfl (Nat.le_of_ble_eq_true rfl) shp_55 rfl (by show 1 ≤ d; omega) (Nat.le_of_ble_eq_true rfl) (Nat.zero_le _) (Nat.zero_le _) ?_
  refine CV.mono H (fun σ1 H => ?_)
  refine j_iload_n (pc := 6) dX12_plainTurns_6 rfl ?_
  refine j_iload_n (pc := 7) dX12_plainTurns_7 rfl ?_
  refine j_ixor (pc := 8) dX12_plainTurns_8 ?_
  exact s_ireti (pc := 9) dX12_plainTurns_9 rfl H
set_option maxRecDepth 20000 in
theorem b_X12_alikeTurns_0 {l : Launch} {g : am_G} {d : Nat} {σ : am_S} {k : Int32 → am_S → Prop}  {x1 x2 : Int32} (hd : 1 ≤ d) (H : CV l g M_X12_ran (d - 1) [.ref 55, .int 40] σ (fun σ1 => CI l g M_X12_plainTurns (d - 1) [.ref 55, .int x1, .int x2] σ1 (fun r2 σ2 => k (r2 * 3) σ2))) : CI l g M_X12_alikeTurns d [.ref 55, .int x1, .int x2] σ k := by
  show J l g (M_X12_alikeTurns, d, 0, 0) 0 [(0, .ref 55), (1, .int x1), (2, .int x2)] [] (hp σ) 0 0 (kI k)
  refine j_aload_n (pc := 0) dX12_alikeTurns_0 rfl ?_
  refine j_bipush (pc := 1) (v := 40) dX12_alikeTurns_1 (by decide) ?_
  refine s_callV_v (pc := 3) (M1 := M_X12_ran) (n := 1) (as := [.int 40]) (a := 55) (st := []) dX12_alikeTurns_3 G_X12_ran wm_X12_348 (by decide +kernel) rfl (Nat.le_of_ble_eq_true rfl) shp_55 rfl (by show 1 ≤ d; omega) (Nat.le_of_ble_eq_true rfl) (Nat.zero_le _) (Nat.zero_le _) ?_
  refine CV.mono H (fun σ1 H => ?_)
  refine j_aload_n (pc := 6) dX12_alikeTurns_6 rfl ?_
  refine j_iload_n (pc := 7) dX12_alikeTurns_7 rfl ?_
  refine j_iload_n (pc := 8) dX12_alikeTurns_8 rfl ?_
  refine s_callV_i (pc := 9) (M1 := M_X12_plainTurns) (n := 2) (as := [.int x1, .int x2]) (a := 55) (st := []) dX12_alikeTurns_9 G_X12_plainTurns wm_X12_373 (by decide +kernel) rfl (Nat.le_of_ble_eq_true rfl) shp_55 rfl (by show 1 ≤ d; omega) (Nat.le_of_ble_eq_true rfl) (Nat.zero_le _) (Nat.zero_le _) ?_
  refine CI.mono H (fun r2 σ2 H => ?_)
  refine j_iconst (pc := 12) (v := 3) dX12_alikeTurns_12 (by decide) ?_
  refine j_imul (pc := 13) dX12_alikeTurns_13 ?_
  exact s_ireti (pc := 14) dX12_alikeTurns_14 rfl H
set_option maxRecDepth 20000 in
theorem b_X12_turning_0 {l : Launch} {g : am_G} {d : Nat} {σ : am_S} {k : Int32 → am_S → Prop}  {x1 x2 : Int32} (hd : 1 ≤ d) (H : (vp_in x1 50 ∧ ((¬ ar σ 79 x1.toNatClampNeg = 5 → (vp_in x1 50 ∧ ((¬ ar σ 79 x1.toNatClampNeg = 3 → CI l g M_X12_plainTurns (d - 1) [.ref 55, .int x1, .int x2] σ (fun r1 σ1 => k r1 σ1)) ∧ (ar σ 79 x1.toNatClampNeg = 3 → CI l g M_X12_alikeTurns (d - 1) [.ref 55, .int x1, .int x2] σ (fun r2 σ2 => k r2 σ2))))) ∧ (ar σ 79 x1.toNatClampNeg = 5 → CV l g M_X12_ran (d - 1) [.ref 55, .int 60] σ (fun σ3 => CI l g M_X12_alikeTurns (d - 1) [.ref 55, .int x1, .int x2] σ3 (fun r4 σ4 => CI l g M_X12_letting (d - 1) [.ref 55, .int x1, .int 2] σ4 (fun r5 σ5 => k (r4 - r5) σ5))))))) : CI l g M_X12_turning d [.ref 55, .int x1, .int x2] σ k := by
  show J l g (M_X12_turning, d, 0, 0) 0 [(0, .ref 55), (1, .int x1), (2, .int x2)] [] (hp σ) 0 0 (kI k)
  refine j_aload_n (pc := 0) dX12_turning_0 rfl ?_
  refine s_getr (pc := 1) dX12_turning_1 fl_X12_89 shp_55 rfl ?_
  refine j_iload_n (pc := 4) dX12_turning_4 rfl ?_
  have b5 := H.1
  replace H := H.2
  refine s_iald (pc := 5) (ar σ 79 x1.toNatClampNeg) dX12_turning_5 shp_79 b5 rfl ?_
  refine j_iconst (pc := 6) (v := 5) dX12_turning_6 (by decide) ?_
  refine j_icmp_ne (pc := 7) (t := 32) dX12_turning_7 (by decide) (fun c7 => ?_) (fun c7 => ?_)
  · replace H := H.1 c7
    refine j_aload_n (pc := 32) dX12_turning_32 rfl ?_
    refine s_getr (pc := 33) dX12_turning_33 fl_X12_89 shp_55 rfl ?_
    refine j_iload_n (pc := 36) dX12_turning_36 rfl ?_
    have b37 := H.1
    replace H := H.2
    refine s_iald (pc := 37) (ar σ 79 x1.toNatClampNeg) dX12_turning_37 shp_79 b37 rfl ?_
    refine j_iconst (pc := 38) (v := 3) dX12_turning_38 (by decide) ?_
    refine j_icmp_ne (pc := 39) (t := 51) dX12_turning_39 (by decide) (fun c39 => ?_) (fun c39 => ?_)
    · replace H := H.1 c39
      refine j_aload_n (pc := 51) dX12_turning_51 rfl ?_
      refine j_iload_n (pc := 52) dX12_turning_52 rfl ?_
      refine j_iload_n (pc := 53) dX12_turning_53 rfl ?_
      refine s_callV_i (pc := 54) (M1 := M_X12_plainTurns) (n := 2) (as := [.int x1, .int x2]) (a := 55) (st := []) dX12_turning_54 G_X12_plainTurns wm_X12_373 (by decide +kernel) rfl (Nat.le_of_ble_eq_true rfl) shp_55 rfl (by show 1 ≤ d; omega) (Nat.le_of_ble_eq_true rfl) (Nat.zero_le _) (Nat.zero_le _) ?_
      refine CI.mono H (fun r1 σ1 H => ?_)
      exact s_ireti (pc := 57) dX12_turning_57 rfl H
    · replace H := H.2 c39
      refine j_aload_n (pc := 42) dX12_turning_42 rfl ?_
      refine j_iload_n (pc := 43) dX12_turning_43 rfl ?_
      refine j_iload_n (pc := 44) dX12_turning_44 rfl ?_
      refine s_callV_i (pc := 45) (M1 := M_X12_alikeTurns) (n := 2) (as := [.int x1, .int x2]) (a := 55) (st := []) dX12_turning_45 G_X12_alikeTurns wm_X12_376 (by decide +kernel) rfl (Nat.le_of_ble_eq_true rfl) shp_55 rfl (by show 1 ≤ d; omega) (Nat.le_of_ble_eq_true rfl) (Nat.zero_le _) (Nat.zero_le _) ?_
      refine CI.mono H (fun r2 σ2 H => ?_)
      refine j_goto (pc := 48) (t := 57) dX12_turning_48 (by decide) ?_
      exact s_ireti (pc := 57) dX12_turning_57 rfl H
  · replace H := H.2 c7
    refine j_aload_n (pc := 10) dX12_turning_10 rfl ?_
    refine j_bipush (pc := 11) (v := 60) dX12_turning_11 (by decide) ?_
    refine s_callV_v (pc := 13) (M1 := M_X12_ran) (n := 1) (as := [.int 60]) (a := 55) (st := []) dX12_turning_13 G_X12_ran wm_X12_348 (by decide +kernel) rfl (Nat.le_of_ble_eq_true rfl) shp_55 rfl (by show 1 ≤ d; omega) (Nat.le_of_ble_eq_true rfl) (Nat.zero_le _) (Nat.zero_le _) ?_
    refine CV.mono H (fun σ3 H => ?_)
    refine j_aload_n (pc := 16) dX12_turning_16 rfl ?_
    refine j_iload_n (pc := 17) dX12_turning_17 rfl ?_
    refine j_iload_n (pc := 18) dX12_turning_18 rfl ?_
    refine s_callV_i (pc := 19) (M1 := M_X12_alikeTurns) (n := 2) (as := [.int x1, .int x2]) (a := 55) (st := []) dX12_turning_19 G_X12_alikeTurns wm_X12_376 (by decide +kernel) rfl (Nat.le_of_ble_eq_true rfl) shp_55 rfl (by show 1 ≤ d; omega) (Nat.le_of_ble_eq_true rfl) (Nat.zero_le _) (Nat.zero_le _) ?_
    refine CI.mono H (fun r4 σ4 H => ?_)
    refine j_istore_n (pc := 22) (lv1 := [(3, .int r4), (0, .ref 55), (1, .int x1), (2, .int x2)]) dX12_turning_22 (Nat.le_of_ble_eq_true rfl) rfl ?_
    refine j_iload_n (pc := 23) dX12_turning_23 rfl ?_
    refine j_aload_n (pc := 24) dX12_turning_24 rfl ?_
    refine j_iload_n (pc := 25) dX12_turning_25 rfl ?_
    refine j_iconst (pc := 26) (v := 2) dX12_turning_26 (by decide) ?_
    refine s_callV_i (pc := 27) (M1 := M_X12_letting) (n := 2) (as := [.int x1, .int 2]) (a := 55) (st := [.int r4]) dX12_turning_27 G_X12_letting wm_X12_361 (by decide +kernel) rfl (Nat.le_of_ble_eq_true rfl) shp_55 rfl (by show 1 ≤ d; omega) (Nat.le_of_ble_eq_true rfl) (Nat.zero_le _) (Nat.zero_le _) ?_
    refine CI.mono H (fun r5 σ5 H => ?_)
    refine j_isub (pc := 30) dX12_turning_30 ?_
    exact s_ireti (pc := 31) dX12_turning_31 rfl H
set_option maxRecDepth 20000 in
theorem b_X12_barring_0 {l : Launch} {g : am_G} {d : Nat} {σ : am_S} {k : Int32 → am_S → Prop}  {x1 x2 : Int32} (hd : 1 ≤ d) (H : (vp_in x1 50 ∧ CI l g M_X12_isUnder (d - 1) [.int (ar σ 79 x1.toNatClampNeg), .int 3] σ (fun r1 σ1 => ((r1 = 0 → (vp_in x1 50 ∧ ((¬ ar σ1 79 x1.toNatClampNeg = 7 → (vp_in x1 50 ∧ ((¬ ar σ1 79 x1.toNatClampNeg = 2 → CI l g M_X12_plainBars (d - 1) [.ref 55, .int x1, .int x2] σ1 (fun r2 σ2 => k r2 σ2)) ∧ (ar σ1 79 x1.toNatClampNeg = 2 → CI l g M_X12_downBars (d - 1) [.ref 55, .int x1, .int x2] σ1 (fun r3 σ3 => k r3 σ3))))) ∧ (ar σ1 79 x1.toNatClampNeg = 7 → CV l g M_X12_ran (d - 1) [.ref 55, .int 80] σ1 (fun σ4 => CI l g M_X12_plainBars (d - 1) [.ref 55, .int x1, .int x2] σ4 (fun r5 σ5 => CI l g M_X12_turning (d - 1) [.ref 55, .int x1, .int 2] σ5 (fun r6 σ6 => k (r5 + r6) σ6))))))) ∧ (¬ r1 = 0 → CV l g M_X12_ran (d - 1) [.ref 55, .int 41] σ1 (fun σ7 => CI l g M_X12_downBars (d - 1) [.ref 55, .int x1, .int (x2 + 1)] σ7 (fun r8 σ8 => k r8 σ8))))))) : CI l g M_X12_barring d [.ref 55, .int x1, .int x2] σ k := by
  show J l g (M_X12_barring, d, 0, 0) 0 [(0, .ref 55), (1, .int x1), (2, .int x2)] [] (hp σ) 0 0 (kI k)
  refine j_aload_n (pc := 0) dX12_barring_0 rfl ?_
  refine s_getr (pc := 1) dX12_barring_1 fl_X12_89 shp_55 rfl ?_
  refine j_iload_n (pc := 4) dX12_barring_4 rfl ?_
  have b5 := H.1
  replace H := H.2
  refine s_iald (pc := 5) (ar σ 79 x1.toNatClampNeg) dX12_barring_5 shp_79 b5 rfl ?_
  refine j_iconst (pc := 6) (v := 3) dX12_barring_6 (by decide) ?_
  refine s_callS_i (pc := 7) (M1 := M_X12_isUnder) (n := 2) (as := [.int (ar σ 79 x1.toNatClampNeg), .int 3]) (st := []) dX12_barring_7 G_X12_isUnder wm_X12_355 (by decide +kernel) rfl (Nat.le_of_ble_eq_true rfl) (by show 1 ≤ d; omega) (Nat.le_of_ble_eq_true rfl) ?_
  refine CI.mono H (fun r1 σ1 H => ?_)
  refine j_if_eq (pc := 10) (t := 28) dX12_barring_10 (by decide) (fun c10 => ?_) (fun c10 => ?_)
  · replace H := H.1 c10
    refine j_aload_n (pc := 28) dX12_barring_28 rfl ?_
    refine s_getr (pc := 29) dX12_barring_29 fl_X12_89 shp_55 rfl ?_
    refine j_iload_n (pc := 32) dX12_barring_32 rfl ?_
    have b33 := H.1
    replace H := H.2
    refine s_iald (pc := 33) (ar σ1 79 x1.toNatClampNeg) dX12_barring_33 shp_79 b33 rfl ?_
    refine j_bipush (pc := 34) (v := 7) dX12_barring_34 (by decide) ?_
    refine j_icmp_ne (pc := 36) (t := 61) dX12_barring_36 (by decide) (fun c36 => ?_) (fun c36 => ?_)
    · replace H := H.1 c36
      refine j_aload_n (pc := 61) dX12_barring_61 rfl ?_
      refine s_getr (pc := 62) dX12_barring_62 fl_X12_89 shp_55 rfl ?_
      refine j_iload_n (pc := 65) dX12_barring_65 rfl ?_
      have b66 := H.1
      replace H := H.2
      refine s_iald (pc := 66) (ar σ1 79 x1.toNatClampNeg) dX12_barring_66 shp_79 b66 rfl ?_
      refine j_iconst (pc := 67) (v := 2) dX12_barring_67 (by decide) ?_
      refine j_icmp_ne (pc := 68) (t := 80) dX12_barring_68 (by decide) (fun c68 => ?_) (fun c68 => ?_)
      · replace H := H.1 c68
        refine j_aload_n (pc := 80) dX12_barring_80 rfl ?_
        refine j_iload_n (pc := 81) dX12_barring_81 rfl ?_
        refine j_iload_n (pc := 82) dX12_barring_82 rfl ?_
        refine s_callV_i (pc := 83) (M1 := M_X12_plainBars) (n := 2) (as := [.int x1, .int x2]) (a := 55) (st := []) dX12_barring_83 G_X12_plainBars wm_X12_364 (by decide +kernel) rfl (Nat.le_of_ble_eq_true rfl) shp_55 rfl (by show 1 ≤ d; omega) (Nat.le_of_ble_eq_true rfl) (Nat.zero_le _) (Nat.zero_le _) ?_
        refine CI.mono H (fun r2 σ2 H => ?_)
        exact s_ireti (pc := 86) dX12_barring_86 rfl H
      · replace H := H.2 c68
        refine j_aload_n (pc := 71) dX12_barring_71 rfl ?_
        refine j_iload_n (pc := 72) dX12_barring_72 rfl ?_
        refine j_iload_n (pc := 73) dX12_barring_73 rfl ?_
        refine s_callV_i (pc := 74) (M1 := M_X12_downBars) (n := 2) (as := [.int x1, .int x2]) (a := 55) (st := []) dX12_barring_74 G_X12_downBars wm_X12_367 (by decide +kernel) rfl (Nat.le_of_ble_eq_true rfl) shp_55 rfl (by show 1 ≤ d; omega) (Nat.le_of_ble_eq_true rfl) (Nat.zero_le _) (Nat.zero_le _) ?_
        refine CI.mono H (fun r3 σ3 H => ?_)
        refine j_goto (pc := 77) (t := 86) dX12_barring_77 (by decide) ?_
        exact s_ireti (pc := 86) dX12_barring_86 rfl H
    · replace H := H.2 c36
      refine j_aload_n (pc := 39) dX12_barring_39 rfl ?_
      refine j_bipush (pc := 40) (v := 80) dX12_barring_40 (by decide) ?_
      refine s_callV_v (pc := 42) (M1 := M_X12_ran) (n := 1) (as := [.int 80]) (a := 55) (st := []) dX12_barring_42 G_X12_ran wm_X12_348 (by decide +kernel) rfl (Nat.le_of_ble_eq_true rfl) shp_55 rfl (by show 1 ≤ d; omega) (Nat.le_of_ble_eq_true rfl) (Nat.zero_le _) (Nat.zero_le _) ?_
      refine CV.mono H (fun σ4 H => ?_)
      refine j_aload_n (pc := 45) dX12_barring_45 rfl ?_
      refine j_iload_n (pc := 46) dX12_barring_46 rfl ?_
      refine j_iload_n (pc := 47) dX12_barring_47 rfl ?_
      refine s_callV_i (pc := 48) (M1 := M_X12_plainBars) (n := 2) (as := [.int x1, .int x2]) (a := 55) (st := []) dX12_barring_48 G_X12_plainBars wm_X12_364 (by decide +kernel) rfl (Nat.le_of_ble_eq_true rfl) shp_55 rfl (by show 1 ≤ d; omega) (Nat.le_of_ble_eq_true rfl) (Nat.zero_le _) (Nat.zero_le _) ?_
      refine CI.mono H (fun r5 σ5 H => ?_)
      refine j_istore_n (pc := 51) (lv1 := [(3, .int r5), (0, .ref 55), (1, .int x1), (2, .int x2)]) dX12_barring_51 (Nat.le_of_ble_eq_true rfl) rfl ?_
      refine j_iload_n (pc := 52) dX12_barring_52 rfl ?_
      refine j_aload_n (pc := 53) dX12_barring_53 rfl ?_
      refine j_iload_n (pc := 54) dX12_barring_54 rfl ?_
      refine j_iconst (pc := 55) (v := 2) dX12_barring_55 (by decide) ?_
      refine s_callV_i (pc := 56) (M1 := M_X12_turning) (n := 2) (as := [.int x1, .int 2]) (a := 55) (st := [.int r5]) dX12_barring_56 G_X12_turning wm_X12_370 (by decide +kernel) rfl (Nat.le_of_ble_eq_true rfl) shp_55 rfl (by show 1 ≤ d; omega) (Nat.le_of_ble_eq_true rfl) (Nat.zero_le _) (Nat.zero_le _) ?_
      refine CI.mono H (fun r6 σ6 H => ?_)
      refine j_iadd (pc := 59) dX12_barring_59 ?_
      exact s_ireti (pc := 60) dX12_barring_60 rfl H
  · replace H := H.2 c10
    refine j_aload_n (pc := 13) dX12_barring_13 rfl ?_
    refine j_bipush (pc := 14) (v := 41) dX12_barring_14 (by decide) ?_
    refine s_callV_v (pc := 16) (M1 := M_X12_ran) (n := 1) (as := [.int 41]) (a := 55) (st := []) dX12_barring_16 G_X12_ran wm_X12_348 (by decide +kernel) rfl (Nat.le_of_ble_eq_true rfl) shp_55 rfl (by show 1 ≤ d; omega) (Nat.le_of_ble_eq_true rfl) (Nat.zero_le _) (Nat.zero_le _) ?_
    refine CV.mono H (fun σ7 H => ?_)
    refine j_aload_n (pc := 19) dX12_barring_19 rfl ?_
    refine j_iload_n (pc := 20) dX12_barring_20 rfl ?_
    refine j_iload_n (pc := 21) dX12_barring_21 rfl ?_
    refine j_iconst (pc := 22) (v := 1) dX12_barring_22 (by decide) ?_
    refine j_iadd (pc := 23) dX12_barring_23 ?_
    refine s_callV_i (pc := 24) (M1 := M_X12_downBars) (n := 2) (as := [.int x1, .int (x2 + 1)]) (a := 55) (st := []) dX12_barring_24 G_X12_downBars wm_X12_367 (by decide +kernel) rfl (Nat.le_of_ble_eq_true rfl) shp_55 rfl (by show 1 ≤ d; omega) (Nat.le_of_ble_eq_true rfl) (Nat.zero_le _) (Nat.zero_le _) ?_
    refine CI.mono H (fun r8 σ8 H => ?_)
    exact s_ireti (pc := 27) dX12_barring_27 rfl H
set_option maxRecDepth 20000 in
theorem b_X12_plainTells_0 {l : Launch} {g : am_G} {d : Nat} {σ : am_S} {k : Int32 → am_S → Prop}  {x1 x2 : Int32} (hd : 1 ≤ d) (H : CV l g M_X12_ran (d - 1) [.ref 55, .int 2] σ (fun σ1 => CI l g M_X12_barring (d - 1) [.ref 55, .int x1, .int x2] σ1 (fun r2 σ2 => CI l g M_X12_turning (d - 1) [.ref 55, .int x1, .int 1] σ2 (fun r3 σ3 => k (r2 - r3) σ3)))) : CI l g M_X12_plainTells d [.ref 55, .int x1, .int x2] σ k := by
  show J l g (M_X12_plainTells, d, 0, 0) 0 [(0, .ref 55), (1, .int x1), (2, .int x2)] [] (hp σ) 0 0 (kI k)
  refine j_aload_n (pc := 0) dX12_plainTells_0 rfl ?_
  refine j_iconst (pc := 1) (v := 2) dX12_plainTells_1 (by decide) ?_
  refine s_callV_v (pc := 2) (M1 := M_X12_ran) (n := 1) (as := [.int 2]) (a := 55) (st := []) dX12_plainTells_2 G_X12_ran wm_X12_348 (by decide +kernel) rfl (Nat.le_of_ble_eq_true rfl) shp_55 rfl (by show 1 ≤ d; omega) (Nat.le_of_ble_eq_true rfl) (Nat.zero_le _) (Nat.zero_le _) ?_
  refine CV.mono H (fun σ1 H => ?_)
  refine j_aload_n (pc := 5) dX12_plainTells_5 rfl ?_
  refine j_iload_n (pc := 6) dX12_plainTells_6 rfl ?_
  refine j_iload_n (pc := 7) dX12_plainTells_7 rfl ?_
  refine s_callV_i (pc := 8) (M1 := M_X12_barring) (n := 2) (as := [.int x1, .int x2]) (a := 55) (st := []) dX12_plainTells_8 G_X12_barring wm_X12_379 (by decide +kernel) rfl (Nat.le_of_ble_eq_true rfl) shp_55 rfl (by show 1 ≤ d; omega) (Nat.le_of_ble_eq_true rfl) (Nat.zero_le _) (Nat.zero_le _) ?_
  refine CI.mono H (fun r2 σ2 H => ?_)
  refine j_istore_n (pc := 11) (lv1 := [(3, .int r2), (0, .ref 55), (1, .int x1), (2, .int x2)]) dX12_plainTells_11 (Nat.le_of_ble_eq_true rfl) rfl ?_
  refine j_iload_n (pc := 12) dX12_plainTells_12 rfl ?_
  refine j_aload_n (pc := 13) dX12_plainTells_13 rfl ?_
  refine j_iload_n (pc := 14) dX12_plainTells_14 rfl ?_
  refine j_iconst (pc := 15) (v := 1) dX12_plainTells_15 (by decide) ?_
  refine s_callV_i (pc := 16) (M1 := M_X12_turning) (n := 2) (as := [.int x1, .int 1]) (a := 55) (st := [.int r2]) dX12_plainTells_16 G_X12_turning wm_X12_370 (by decide +kernel) rfl (Nat.le_of_ble_eq_true rfl) shp_55 rfl (by show 1 ≤ d; omega) (Nat.le_of_ble_eq_true rfl) (Nat.zero_le _) (Nat.zero_le _) ?_
  refine CI.mono H (fun r3 σ3 H => ?_)
  refine j_isub (pc := 19) dX12_plainTells_19 ?_
  exact s_ireti (pc := 20) dX12_plainTells_20 rfl H
set_option maxRecDepth 20000 in
theorem b_X12_telling_0 {l : Launch} {g : am_G} {d : Nat} {σ : am_S} {k : Int32 → am_S → Prop}  {x1 x2 : Int32} (hd : 1 ≤ d) (H : (vp_in x1 50 ∧ ((¬ ar σ 79 x1.toNatClampNeg = 4 → (vp_in x1 50 ∧ ((¬ ar σ 79 x1.toNatClampNeg = 5 → CI l g M_X12_plainTells (d - 1) [.ref 55, .int x1, .int x2] σ (fun r1 σ1 => k r1 σ1)) ∧ (ar σ 79 x1.toNatClampNeg = 5 → CV l g M_X12_ran (d - 1) [.ref 55, .int 61] σ (fun σ2 => CI l g M_X12_plainTells (d - 1) [.ref 55, .int x1, .int x2] σ2 (fun r3 σ3 => k (r3 + 1) σ3)))))) ∧ (ar σ 79 x1.toNatClampNeg = 4 → CV l g M_X12_ran (d - 1) [.ref 55, .int 50] σ (fun σ4 => CI l g M_X12_plainTells (d - 1) [.ref 55, .int x1, .int x2] σ4 (fun r5 σ5 => k (r5 ^^^ 5) σ5)))))) : CI l g M_X12_telling d [.ref 55, .int x1, .int x2] σ k := by
  show J l g (M_X12_telling, d, 0, 0) 0 [(0, .ref 55), (1, .int x1), (2, .int x2)] [] (hp σ) 0 0 (kI k)
  refine j_aload_n (pc := 0) dX12_telling_0 rfl ?_
  refine s_getr (pc := 1) dX12_telling_1 fl_X12_89 shp_55 rfl ?_
  refine j_iload_n (pc := 4) dX12_telling_4 rfl ?_
  have b5 := H.1
  replace H := H.2
  refine s_iald (pc := 5) (ar σ 79 x1.toNatClampNeg) dX12_telling_5 shp_79 b5 rfl ?_
  refine j_iconst (pc := 6) (v := 4) dX12_telling_6 (by decide) ?_
  refine j_icmp_ne (pc := 7) (t := 25) dX12_telling_7 (by decide) (fun c7 => ?_) (fun c7 => ?_)
  · replace H := H.1 c7
    refine j_aload_n (pc := 25) dX12_telling_25 rfl ?_
    refine s_getr (pc := 26) dX12_telling_26 fl_X12_89 shp_55 rfl ?_
    refine j_iload_n (pc := 29) dX12_telling_29 rfl ?_
    have b30 := H.1
    replace H := H.2
    refine s_iald (pc := 30) (ar σ 79 x1.toNatClampNeg) dX12_telling_30 shp_79 b30 rfl ?_
    refine j_iconst (pc := 31) (v := 5) dX12_telling_31 (by decide) ?_
    refine j_icmp_ne (pc := 32) (t := 50) dX12_telling_32 (by decide) (fun c32 => ?_) (fun c32 => ?_)
    · replace H := H.1 c32
      refine j_aload_n (pc := 50) dX12_telling_50 rfl ?_
      refine j_iload_n (pc := 51) dX12_telling_51 rfl ?_
      refine j_iload_n (pc := 52) dX12_telling_52 rfl ?_
      refine s_callV_i (pc := 53) (M1 := M_X12_plainTells) (n := 2) (as := [.int x1, .int x2]) (a := 55) (st := []) dX12_telling_53 G_X12_plainTells wm_X12_382 (by decide +kernel) rfl (Nat.le_of_ble_eq_true rfl) shp_55 rfl (by show 1 ≤ d; omega) (Nat.le_of_ble_eq_true rfl) (Nat.zero_le _) (Nat.zero_le _) ?_
      refine CI.mono H (fun r1 σ1 H => ?_)
      exact s_ireti (pc := 56) dX12_telling_56 rfl H
    · replace H := H.2 c32
      refine j_aload_n (pc := 35) dX12_telling_35 rfl ?_
      refine j_bipush (pc := 36) (v := 61) dX12_telling_36 (by decide) ?_
      refine s_callV_v (pc := 38) (M1 := M_X12_ran) (n := 1) (as := [.int 61]) (a := 55) (st := []) dX12_telling_38 G_X12_ran wm_X12_348 (by decide +kernel) rfl (Nat.le_of_ble_eq_true rfl) shp_55 rfl (by show 1 ≤ d; omega) (Nat.le_of_ble_eq_true rfl) (Nat.zero_le _) (Nat.zero_le _) ?_
      refine CV.mono H (fun σ2 H => ?_)
      refine j_aload_n (pc := 41) dX12_telling_41 rfl ?_
      refine j_iload_n (pc := 42) dX12_telling_42 rfl ?_
      refine j_iload_n (pc := 43) dX12_telling_43 rfl ?_
      refine s_callV_i (pc := 44) (M1 := M_X12_plainTells) (n := 2) (as := [.int x1, .int x2]) (a := 55) (st := []) dX12_telling_44 G_X12_plainTells wm_X12_382 (by decide +kernel) rfl (Nat.le_of_ble_eq_true rfl) shp_55 rfl (by show 1 ≤ d; omega) (Nat.le_of_ble_eq_true rfl) (Nat.zero_le _) (Nat.zero_le _) ?_
      refine CI.mono H (fun r3 σ3 H => ?_)
      refine j_iconst (pc := 47) (v := 1) dX12_telling_47 (by decide) ?_
      refine j_iadd (pc := 48) dX12_telling_48 ?_
      exact s_ireti (pc := 49) dX12_telling_49 rfl H
  · replace H := H.2 c7
    refine j_aload_n (pc := 10) dX12_telling_10 rfl ?_
    refine j_bipush (pc := 11) (v := 50) dX12_telling_11 (by decide) ?_
    refine s_callV_v (pc := 13) (M1 := M_X12_ran) (n := 1) (as := [.int 50]) (a := 55) (st := []) dX12_telling_13 G_X12_ran wm_X12_348 (by decide +kernel) rfl (Nat.le_of_ble_eq_true rfl) shp_55 rfl (by show 1 ≤ d; omega) (Nat.le_of_ble_eq_true rfl) (Nat.zero_le _) (Nat.zero_le _) ?_
    refine CV.mono H (fun σ4 H => ?_)
    refine j_aload_n (pc := 16) dX12_telling_16 rfl ?_
    refine j_iload_n (pc := 17) dX12_telling_17 rfl ?_
    refine j_iload_n (pc := 18) dX12_telling_18 rfl ?_
    refine s_callV_i (pc := 19) (M1 := M_X12_plainTells) (n := 2) (as := [.int x1, .int x2]) (a := 55) (st := []) dX12_telling_19 G_X12_plainTells wm_X12_382 (by decide +kernel) rfl (Nat.le_of_ble_eq_true rfl) shp_55 rfl (by show 1 ≤ d; omega) (Nat.le_of_ble_eq_true rfl) (Nat.zero_le _) (Nat.zero_le _) ?_
    refine CI.mono H (fun r5 σ5 H => ?_)
    refine j_iconst (pc := 22) (v := 5) dX12_telling_22 (by decide) ?_
    refine j_ixor (pc := 23) dX12_telling_23 ?_
    exact s_ireti (pc := 24) dX12_telling_24 rfl H
set_option maxRecDepth 20000 in
theorem b_X12_act_0 {l : Launch} {g : am_G} {d : Nat} {σ : am_S} {k : Int32 → am_S → Prop}  {x1 x2 x3 : Int32} (hd : 2 ≤ d) (H : ((((¬ x1 < 0 ∧ ¬ (rg σ 3569) - 1 < x1)) → (((¬ x2 < 0 ∧ ¬ 3 < x2) → ((¬ x2 = 0 → ((¬ x2 = 1 → ((¬ x2 = 2 → CI l g M_X12_telling (d - 1) [.ref 55, .int x1, .int x3] (sR σ 3571 0) (fun r3 σ3 => k r3 σ3)) ∧ (x2 = 2 → CI l g M_X12_turning (d - 1) [.ref 55, .int x1, .int x3] (sR σ 3571 0) (fun r4 σ4 => k r4 σ4)))) ∧ (x2 = 1 → CI l g M_X12_barring (d - 1) [.ref 55, .int x1, .int x3] (sR σ 3571 0) (fun r5 σ5 => k r5 σ5)))) ∧ (x2 = 0 → CI l g M_X12_letting (d - 1) [.ref 55, .int x1, .int x3] (sR σ 3571 0) (fun r6 σ6 => k r6 σ6)))) ∧ (¬ (¬ x2 < 0 ∧ ¬ 3 < x2) → k 0 (sR σ 3571 0)))) ∧ (¬ ((¬ x1 < 0 ∧ ¬ (rg σ 3569) - 1 < x1)) → k 0 (sR σ 3571 0)))) : CI l g M_X12_act d [.ref 55, .int x1, .int x2, .int x3] σ k := by
  show J l g (M_X12_act, d, 0, 0) 0 [(0, .ref 55), (1, .int x1), (2, .int x2), (3, .int x3)] [] (hp σ) 0 0 (kI k)
  refine j_aload_n (pc := 0) dX12_act_0 rfl ?_
  refine j_iconst (pc := 1) (v := 0) dX12_act_1 (by decide) ?_
  refine s_put (pc := 2) 3571 dX12_act_2 fl_X12_345 shp_55 rfl rfl fp_12_51 rfl rfl ?_
  refine j_aload_n (pc := 5) dX12_act_5 rfl ?_
  refine j_iload_n (pc := 6) dX12_act_6 rfl ?_
  refine s_callV_i (pc := 7) (M1 := M_X12_isBody) (n := 1) (as := [.int x1]) (a := 55) (st := []) dX12_act_7 G_X12_isBody wm_X12_385 (by decide +kernel) rfl (Nat.le_of_ble_eq_true rfl) shp_55 rfl (by show 1 ≤ d; omega) (Nat.le_of_ble_eq_true rfl) (Nat.zero_le _) (Nat.zero_le _) ?_
  refine C_X12_isBody (d := d - 1) (by omega) ⟨fun c7 => ?_, fun c7 => ?_⟩
  · replace H := H.1 c7
    refine j_if_eq (pc := 10) (t := 22) dX12_act_10 (by decide) (fun q => absurd q (by decide)) (fun _ => ?_)
    refine j_iload_n (pc := 13) dX12_act_13 rfl ?_
    refine j_iconst (pc := 14) (v := 0) dX12_act_14 (by decide) ?_
    refine j_iconst (pc := 15) (v := 3) dX12_act_15 (by decide) ?_
    refine s_callS_i (pc := 16) (M1 := M_X12_in) (n := 3) (as := [.int x2, .int 0, .int 3]) (st := []) dX12_act_16 G_X12_in wm_X12_114 (by decide +kernel) rfl (Nat.le_of_ble_eq_true rfl) (by show 1 ≤ d; omega) (Nat.le_of_ble_eq_true rfl) ?_
    refine C_X12_in (d := d - 1) (by omega) ⟨fun c16 => ?_, fun c16 => ?_⟩
    · replace H := H.1 c16
      refine j_if_ne (pc := 19) (t := 24) dX12_act_19 (by decide) (fun _ => ?_) (fun q => absurd q (by decide))
      refine j_iload_n (pc := 24) dX12_act_24 rfl ?_
      refine j_if_ne (pc := 25) (t := 37) dX12_act_25 (by decide) (fun c25 => ?_) (fun c25 => ?_)
      · replace H := H.1 c25
        refine j_iload_n (pc := 37) dX12_act_37 rfl ?_
        refine j_iconst (pc := 38) (v := 1) dX12_act_38 (by decide) ?_
        refine j_icmp_ne (pc := 39) (t := 51) dX12_act_39 (by decide) (fun c39 => ?_) (fun c39 => ?_)
        · replace H := H.1 c39
          refine j_iload_n (pc := 51) dX12_act_51 rfl ?_
          refine j_iconst (pc := 52) (v := 2) dX12_act_52 (by decide) ?_
          refine j_icmp_ne (pc := 53) (t := 65) dX12_act_53 (by decide) (fun c53 => ?_) (fun c53 => ?_)
          · replace H := H.1 c53
            refine j_aload_n (pc := 65) dX12_act_65 rfl ?_
            refine j_iload_n (pc := 66) dX12_act_66 rfl ?_
            refine j_iload_n (pc := 67) dX12_act_67 rfl ?_
            refine s_callV_i (pc := 68) (M1 := M_X12_telling) (n := 2) (as := [.int x1, .int x3]) (a := 55) (st := []) dX12_act_68 G_X12_telling wm_X12_388 (by decide +kernel) rfl (Nat.le_of_ble_eq_true rfl) shp_55 rfl (by show 1 ≤ d; omega) (Nat.le_of_ble_eq_true rfl) (Nat.zero_le _) (Nat.zero_le _) ?_
            refine CI.mono H (fun r3 σ3 H => ?_)
            exact s_ireti (pc := 71) dX12_act_71 rfl H
          · replace H := H.2 c53
            refine j_aload_n (pc := 56) dX12_act_56 rfl ?_
            refine j_iload_n (pc := 57) dX12_act_57 rfl ?_
            refine j_iload_n (pc := 58) dX12_act_58 rfl ?_
            refine s_callV_i (pc := 59) (M1 := M_X12_turning) (n := 2) (as := [.int x1, .int x3]) (a := 55) (st := []) dX12_act_59 G_X12_turning wm_X12_370 (by decide +kernel) rfl (Nat.le_of_ble_eq_true rfl) shp_55 rfl (by show 1 ≤ d; omega) (Nat.le_of_ble_eq_true rfl) (Nat.zero_le _) (Nat.zero_le _) ?_
            refine CI.mono H (fun r4 σ4 H => ?_)
            refine j_goto (pc := 62) (t := 71) dX12_act_62 (by decide) ?_
            exact s_ireti (pc := 71) dX12_act_71 rfl H
        · replace H := H.2 c39
          refine j_aload_n (pc := 42) dX12_act_42 rfl ?_
          refine j_iload_n (pc := 43) dX12_act_43 rfl ?_
          refine j_iload_n (pc := 44) dX12_act_44 rfl ?_
          refine s_callV_i (pc := 45) (M1 := M_X12_barring) (n := 2) (as := [.int x1, .int x3]) (a := 55) (st := []) dX12_act_45 G_X12_barring wm_X12_379 (by decide +kernel) rfl (Nat.le_of_ble_eq_true rfl) shp_55 rfl (by show 1 ≤ d; omega) (Nat.le_of_ble_eq_true rfl) (Nat.zero_le _) (Nat.zero_le _) ?_
          refine CI.mono H (fun r5 σ5 H => ?_)
          refine j_goto (pc := 48) (t := 71) dX12_act_48 (by decide) ?_
          exact s_ireti (pc := 71) dX12_act_71 rfl H
      · replace H := H.2 c25
        refine j_aload_n (pc := 28) dX12_act_28 rfl ?_
        refine j_iload_n (pc := 29) dX12_act_29 rfl ?_
        refine j_iload_n (pc := 30) dX12_act_30 rfl ?_
        refine s_callV_i (pc := 31) (M1 := M_X12_letting) (n := 2) (as := [.int x1, .int x3]) (a := 55) (st := []) dX12_act_31 G_X12_letting wm_X12_361 (by decide +kernel) rfl (Nat.le_of_ble_eq_true rfl) shp_55 rfl (by show 1 ≤ d; omega) (Nat.le_of_ble_eq_true rfl) (Nat.zero_le _) (Nat.zero_le _) ?_
        refine CI.mono H (fun r6 σ6 H => ?_)
        refine j_goto (pc := 34) (t := 71) dX12_act_34 (by decide) ?_
        exact s_ireti (pc := 71) dX12_act_71 rfl H
    · replace H := H.2 c16
      refine j_if_ne (pc := 19) (t := 24) dX12_act_19 (by decide) (fun q => absurd q (by decide)) (fun _ => ?_)
      refine j_iconst (pc := 22) (v := 0) dX12_act_22 (by decide) ?_
      exact s_ireti (pc := 23) dX12_act_23 rfl H
  · replace H := H.2 c7
    refine j_if_eq (pc := 10) (t := 22) dX12_act_10 (by decide) (fun _ => ?_) (fun q => absurd q (by decide))
    refine j_iconst (pc := 22) (v := 0) dX12_act_22 (by decide) ?_
    exact s_ireti (pc := 23) dX12_act_23 rfl H
set_option maxRecDepth 20000 in
theorem b_X12_count_0 {l : Launch} {g : am_G} {d : Nat} {σ : am_S} {k : Int32 → am_S → Prop}  {x1 : Int32} (H : (((x1.toInt < 0 ∨ 6 < x1.toInt) → k (-1) σ) ∧ (x1 = 0 → k (rg σ 3526) σ) ∧ (x1 = 1 → k (rg σ 3521) σ) ∧ (x1 = 2 → k (rg σ 3522) σ) ∧ (x1 = 3 → k (rg σ 3539) σ) ∧ (x1 = 4 → k (rg σ 3532) σ) ∧ (x1 = 5 → k (rg σ 3569) σ) ∧ (x1 = 6 → k (rg σ 3571) σ))) : CI l g M_X12_count d [.ref 55, .int x1] σ k := by
  show J l g (M_X12_count, d, 0, 0) 0 [(0, .ref 55), (1, .int x1)] [] (hp σ) 0 0 (kI k)
  refine j_iload_n (pc := 0) dX12_count_0 rfl ?_
  rcases sw_cases x1 0 6 with c1 | c1
  · replace H := H.1 c1
    refine j_tableOut (pc := 1) (t := 79) dX12_count_1 c1 (by decide) ?_
    refine j_iconst (pc := 79) (v := -1) dX12_count_79 (by decide) ?_
    exact s_ireti (pc := 80) dX12_count_80 rfl H
  · replace H := H.2
    by_cases c1_0 : x1 = 0
    · replace H := H.1 c1_0
      refine j_tableIn (pc := 1) (t := 44) (off := 43) dX12_count_1 (by rw [c1_0]; decide) (by rw [c1_0]; decide) (by rw [c1_0]; rfl) (by decide) ?_
      refine j_aload_n (pc := 44) dX12_count_44 rfl ?_
      refine s_geti (pc := 45) 3526 (rg σ 3526) dX12_count_45 fl_X12_121 shp_55 rfl rfl rfl ?_
      exact s_ireti (pc := 48) dX12_count_48 rfl H
    by_cases c1_1 : x1 = 1
    · replace H := H.2.1 c1_1
      refine j_tableIn (pc := 1) (t := 49) (off := 48) dX12_count_1 (by rw [c1_1]; decide) (by rw [c1_1]; decide) (by rw [c1_1]; rfl) (by decide) ?_
      refine j_aload_n (pc := 49) dX12_count_49 rfl ?_
      refine s_geti (pc := 50) 3521 (rg σ 3521) dX12_count_50 fl_X12_111 shp_55 rfl rfl rfl ?_
      exact s_ireti (pc := 53) dX12_count_53 rfl H
    by_cases c1_2 : x1 = 2
    · replace H := H.2.2.1 c1_2
      refine j_tableIn (pc := 1) (t := 54) (off := 53) dX12_count_1 (by rw [c1_2]; decide) (by rw [c1_2]; decide) (by rw [c1_2]; rfl) (by decide) ?_
      refine j_aload_n (pc := 54) dX12_count_54 rfl ?_
      refine s_geti (pc := 55) 3522 (rg σ 3522) dX12_count_55 fl_X12_118 shp_55 rfl rfl rfl ?_
      exact s_ireti (pc := 58) dX12_count_58 rfl H
    by_cases c1_3 : x1 = 3
    · replace H := H.2.2.2.1 c1_3
      refine j_tableIn (pc := 1) (t := 59) (off := 58) dX12_count_1 (by rw [c1_3]; decide) (by rw [c1_3]; decide) (by rw [c1_3]; rfl) (by decide) ?_
      refine j_aload_n (pc := 59) dX12_count_59 rfl ?_
      refine s_geti (pc := 60) 3539 (rg σ 3539) dX12_count_60 fl_X12_175 shp_55 rfl rfl rfl ?_
      exact s_ireti (pc := 63) dX12_count_63 rfl H
    by_cases c1_4 : x1 = 4
    · replace H := H.2.2.2.2.1 c1_4
      refine j_tableIn (pc := 1) (t := 64) (off := 63) dX12_count_1 (by rw [c1_4]; decide) (by rw [c1_4]; decide) (by rw [c1_4]; rfl) (by decide) ?_
      refine j_aload_n (pc := 64) dX12_count_64 rfl ?_
      refine s_geti (pc := 65) 3532 (rg σ 3532) dX12_count_65 fl_X12_148 shp_55 rfl rfl rfl ?_
      exact s_ireti (pc := 68) dX12_count_68 rfl H
    by_cases c1_5 : x1 = 5
    · replace H := H.2.2.2.2.2.1 c1_5
      refine j_tableIn (pc := 1) (t := 69) (off := 68) dX12_count_1 (by rw [c1_5]; decide) (by rw [c1_5]; decide) (by rw [c1_5]; rfl) (by decide) ?_
      refine j_aload_n (pc := 69) dX12_count_69 rfl ?_
      refine s_geti (pc := 70) 3569 (rg σ 3569) dX12_count_70 fl_X12_342 shp_55 rfl rfl rfl ?_
      exact s_ireti (pc := 73) dX12_count_73 rfl H
    by_cases c1_6 : x1 = 6
    · replace H := H.2.2.2.2.2.2 c1_6
      refine j_tableIn (pc := 1) (t := 74) (off := 73) dX12_count_1 (by rw [c1_6]; decide) (by rw [c1_6]; decide) (by rw [c1_6]; rfl) (by decide) ?_
      refine j_aload_n (pc := 74) dX12_count_74 rfl ?_
      refine s_geti (pc := 75) 3571 (rg σ 3571) dX12_count_75 fl_X12_345 shp_55 rfl rfl rfl ?_
      exact s_ireti (pc := 78) dX12_count_78 rfl H
    exact (sw_end_0_6 c1 c1_0 c1_1 c1_2 c1_3 c1_4 c1_5 c1_6).elim
set_option maxRecDepth 20000 in
theorem b_X12_keep_0 {l : Launch} {g : am_G} {d : Nat} {σ : am_S} {k : Int32 → am_S → Prop}  {x1 x2 : Int32} (hd : 2 ≤ d) (H : ((((¬ x1 < 0 ∧ ¬ 5 < x1)) → ((x2 = (-1) → (vp_in x1 6 ∧ k 1 (sA σ 81 x1.toNatClampNeg x2))) ∧ (¬ x2 = (-1) → ((((¬ x2 < 0 ∧ ¬ (rg σ 3569) - 1 < x2)) → (vp_in x1 6 ∧ k 1 (sA σ 81 x1.toNatClampNeg x2))) ∧ (¬ ((¬ x2 < 0 ∧ ¬ (rg σ 3569) - 1 < x2)) → k (-1) σ))))) ∧ (¬ ((¬ x1 < 0 ∧ ¬ 5 < x1)) → k (-1) σ))) : CI l g M_X12_keep d [.ref 55, .int x1, .int x2] σ k := by
  show J l g (M_X12_keep, d, 0, 0) 0 [(0, .ref 55), (1, .int x1), (2, .int x2)] [] (hp σ) 0 0 (kI k)
  refine j_iload_n (pc := 0) dX12_keep_0 rfl ?_
  refine s_callS_i (pc := 1) (M1 := M_X12_isShelf) (n := 1) (as := [.int x1]) (st := []) dX12_keep_1 G_X12_isShelf wm_X12_139 (by decide +kernel) rfl (Nat.le_of_ble_eq_true rfl) (by show 1 ≤ d; omega) (Nat.le_of_ble_eq_true rfl) ?_
  refine C_X12_isShelf (d := d - 1) (by omega) ⟨fun c1 => ?_, fun c1 => ?_⟩
  · replace H := H.1 c1
    refine j_if_eq (pc := 4) (t := 20) dX12_keep_4 (by decide) (fun q => absurd q (by decide)) (fun _ => ?_)
    refine j_iload_n (pc := 7) dX12_keep_7 rfl ?_
    refine j_iconst (pc := 8) (v := -1) dX12_keep_8 (by decide) ?_
    refine j_icmp_eq (pc := 9) (t := 22) dX12_keep_9 (by decide) (fun c9 => ?_) (fun c9 => ?_)
    · replace H := H.1 c9
      refine j_aload_n (pc := 22) dX12_keep_22 rfl ?_
      refine s_getr (pc := 23) dX12_keep_23 fl_X12_95 shp_55 rfl ?_
      refine j_iload_n (pc := 26) dX12_keep_26 rfl ?_
      refine j_iload_n (pc := 27) dX12_keep_27 rfl ?_
      have b28 := H.1
      replace H := H.2
      refine s_iast (pc := 28) dX12_keep_28 shp_81 b28 ?_
      refine j_iconst (pc := 29) (v := 1) dX12_keep_29 (by decide) ?_
      exact s_ireti (pc := 30) dX12_keep_30 rfl H
    · replace H := H.2 c9
      refine j_aload_n (pc := 12) dX12_keep_12 rfl ?_
      refine j_iload_n (pc := 13) dX12_keep_13 rfl ?_
      refine s_callV_i (pc := 14) (M1 := M_X12_isBody) (n := 1) (as := [.int x2]) (a := 55) (st := []) dX12_keep_14 G_X12_isBody wm_X12_385 (by decide +kernel) rfl (Nat.le_of_ble_eq_true rfl) shp_55 rfl (by show 1 ≤ d; omega) (Nat.le_of_ble_eq_true rfl) (Nat.zero_le _) (Nat.zero_le _) ?_
      refine C_X12_isBody (d := d - 1) (by omega) ⟨fun c14 => ?_, fun c14 => ?_⟩
      · replace H := H.1 c14
        refine j_if_ne (pc := 17) (t := 22) dX12_keep_17 (by decide) (fun _ => ?_) (fun q => absurd q (by decide))
        refine j_aload_n (pc := 22) dX12_keep_22 rfl ?_
        refine s_getr (pc := 23) dX12_keep_23 fl_X12_95 shp_55 rfl ?_
        refine j_iload_n (pc := 26) dX12_keep_26 rfl ?_
        refine j_iload_n (pc := 27) dX12_keep_27 rfl ?_
        have b28 := H.1
        replace H := H.2
        refine s_iast (pc := 28) dX12_keep_28 shp_81 b28 ?_
        refine j_iconst (pc := 29) (v := 1) dX12_keep_29 (by decide) ?_
        exact s_ireti (pc := 30) dX12_keep_30 rfl H
      · replace H := H.2 c14
        refine j_if_ne (pc := 17) (t := 22) dX12_keep_17 (by decide) (fun q => absurd q (by decide)) (fun _ => ?_)
        refine j_iconst (pc := 20) (v := -1) dX12_keep_20 (by decide) ?_
        exact s_ireti (pc := 21) dX12_keep_21 rfl H
  · replace H := H.2 c1
    refine j_if_eq (pc := 4) (t := 20) dX12_keep_4 (by decide) (fun _ => ?_) (fun q => absurd q (by decide))
    refine j_iconst (pc := 20) (v := -1) dX12_keep_20 (by decide) ?_
    exact s_ireti (pc := 21) dX12_keep_21 rfl H
set_option maxRecDepth 20000 in
theorem b_X12_row_0 {l : Launch} {g : am_G} {d : Nat} {σ : am_S} {k : Int32 → am_S → Prop}  {x1 x2 x3 : Int32} (hd : 2 ≤ d) (H : ((((¬ x1 < 0 ∧ ¬ 5 < x1)) → (((¬ x2 < 0 ∧ ¬ 4 < x2) → ((x3 ≤ 60 → ((0 ≤ x3 → (vp_in x1 6 ∧ (vp_in x1 6 ∧ JI l g M_X12_row d 54 [(0, .ref 55), (1, .int x1), (2, .int x2), (3, .int x3), (4, .int (60 * x1))] [] (sA (sA σ 81 x1.toNatClampNeg ((-2) - x2)) 82 x1.toNatClampNeg x3) k))) ∧ (¬ 0 ≤ x3 → k (-14) σ))) ∧ (¬ x3 ≤ 60 → k (-1) σ))) ∧ (¬ (¬ x2 < 0 ∧ ¬ 4 < x2) → k (-1) σ))) ∧ (¬ ((¬ x1 < 0 ∧ ¬ 5 < x1)) → k (-1) σ))) : CI l g M_X12_row d [.ref 55, .int x1, .int x2, .int x3] σ k := by
  show J l g (M_X12_row, d, 0, 0) 0 [(0, .ref 55), (1, .int x1), (2, .int x2), (3, .int x3)] [] (hp σ) 0 0 (kI k)
  refine j_iload_n (pc := 0) dX12_row_0 rfl ?_
  refine s_callS_i (pc := 1) (M1 := M_X12_isShelf) (n := 1) (as := [.int x1]) (st := []) dX12_row_1 G_X12_isShelf wm_X12_139 (by decide +kernel) rfl (Nat.le_of_ble_eq_true rfl) (by show 1 ≤ d; omega) (Nat.le_of_ble_eq_true rfl) ?_
  refine C_X12_isShelf (d := d - 1) (by omega) ⟨fun c1 => ?_, fun c1 => ?_⟩
  · replace H := H.1 c1
    refine j_if_eq (pc := 4) (t := 22) dX12_row_4 (by decide) (fun q => absurd q (by decide)) (fun _ => ?_)
    refine j_iload_n (pc := 7) dX12_row_7 rfl ?_
    refine j_iconst (pc := 8) (v := 0) dX12_row_8 (by decide) ?_
    refine j_iconst (pc := 9) (v := 4) dX12_row_9 (by decide) ?_
    refine s_callS_i (pc := 10) (M1 := M_X12_in) (n := 3) (as := [.int x2, .int 0, .int 4]) (st := []) dX12_row_10 G_X12_in wm_X12_114 (by decide +kernel) rfl (Nat.le_of_ble_eq_true rfl) (by show 1 ≤ d; omega) (Nat.le_of_ble_eq_true rfl) ?_
    refine C_X12_in (d := d - 1) (by omega) ⟨fun c10 => ?_, fun c10 => ?_⟩
    · replace H := H.1 c10
      refine j_if_eq (pc := 13) (t := 22) dX12_row_13 (by decide) (fun q => absurd q (by decide)) (fun _ => ?_)
      refine j_iload_n (pc := 16) dX12_row_16 rfl ?_
      refine j_bipush (pc := 17) (v := 60) dX12_row_17 (by decide) ?_
      refine j_icmp_le (pc := 19) (t := 24) dX12_row_19 (by decide) (fun c19 => ?_) (fun c19 => ?_)
      · replace H := H.1 c19
        refine j_iload_n (pc := 24) dX12_row_24 rfl ?_
        refine j_if_ge (pc := 25) (t := 31) dX12_row_25 (by decide) (fun c25 => ?_) (fun c25 => ?_)
        · replace H := H.1 c25
          refine j_aload_n (pc := 31) dX12_row_31 rfl ?_
          refine s_getr (pc := 32) dX12_row_32 fl_X12_95 shp_55 rfl ?_
          refine j_iload_n (pc := 35) dX12_row_35 rfl ?_
          refine j_bipush (pc := 36) (v := -2) dX12_row_36 (by decide) ?_
          refine j_iload_n (pc := 38) dX12_row_38 rfl ?_
          refine j_isub (pc := 39) dX12_row_39 ?_
          have b40 := H.1
          replace H := H.2
          refine s_iast (pc := 40) dX12_row_40 shp_81 b40 ?_
          refine j_aload_n (pc := 41) dX12_row_41 rfl ?_
          refine s_getr (pc := 42) dX12_row_42 fl_X12_98 shp_55 rfl ?_
          refine j_iload_n (pc := 45) dX12_row_45 rfl ?_
          refine j_iload_n (pc := 46) dX12_row_46 rfl ?_
          have b47 := H.1
          replace H := H.2
          refine s_iast (pc := 47) dX12_row_47 shp_82 b47 ?_
          refine j_bipush (pc := 48) (v := 60) dX12_row_48 (by decide) ?_
          refine j_iload_n (pc := 50) dX12_row_50 rfl ?_
          refine j_imul (pc := 51) dX12_row_51 ?_
          refine j_istore (pc := 52) (lv1 := [(4, .int (60 * x1)), (0, .ref 55), (1, .int x1), (2, .int x2), (3, .int x3)]) dX12_row_52 (Nat.le_of_ble_eq_true rfl) rfl ?_
          refine j_sub [1, 2, 3, 4, 0] rfl ?_
          exact H
        · replace H := H.2 c25
          refine j_bipush (pc := 28) (v := -14) dX12_row_28 (by decide) ?_
          exact s_ireti (pc := 30) dX12_row_30 rfl H
      · replace H := H.2 c19
        refine j_iconst (pc := 22) (v := -1) dX12_row_22 (by decide) ?_
        exact s_ireti (pc := 23) dX12_row_23 rfl H
    · replace H := H.2 c10
      refine j_if_eq (pc := 13) (t := 22) dX12_row_13 (by decide) (fun _ => ?_) (fun q => absurd q (by decide))
      refine j_iconst (pc := 22) (v := -1) dX12_row_22 (by decide) ?_
      exact s_ireti (pc := 23) dX12_row_23 rfl H
  · replace H := H.2 c1
    refine j_if_eq (pc := 4) (t := 22) dX12_row_4 (by decide) (fun _ => ?_) (fun q => absurd q (by decide))
    refine j_iconst (pc := 22) (v := -1) dX12_row_22 (by decide) ?_
    exact s_ireti (pc := 23) dX12_row_23 rfl H
set_option maxRecDepth 20000 in
theorem b_X12_row_54 {l : Launch} {g : am_G} {d : Nat} {σ : am_S} {k : Int32 → am_S → Prop}  {x1 x2 x3 x4 : Int32} (H : (((60 * x1) + 60 ≤ x4 → k 1 σ) ∧ (¬ (60 * x1) + 60 ≤ x4 → (vp_in x4 360 ∧ JI l g M_X12_row d 54 [(0, .ref 55), (1, .int x1), (2, .int x2), (3, .int x3), (4, .int (x4 + 1))] [] (sL σ 83 x4.toNatClampNeg 0) k)))) : JI l g M_X12_row d 54 [(0, .ref 55), (1, .int x1), (2, .int x2), (3, .int x3), (4, .int x4)] [] σ k := by
  show J l g (M_X12_row, d, 0, 0) 54 [(0, .ref 55), (1, .int x1), (2, .int x2), (3, .int x3), (4, .int x4)] [] (hp σ) 0 0 (kI k)
  refine j_iload (pc := 54) dX12_row_54 rfl ?_
  refine j_bipush (pc := 56) (v := 60) dX12_row_56 (by decide) ?_
  refine j_iload_n (pc := 58) dX12_row_58 rfl ?_
  refine j_imul (pc := 59) dX12_row_59 ?_
  refine j_bipush (pc := 60) (v := 60) dX12_row_60 (by decide) ?_
  refine j_iadd (pc := 62) dX12_row_62 ?_
  refine j_icmp_ge (pc := 63) (t := 80) dX12_row_63 (by decide) (fun c63 => ?_) (fun c63 => ?_)
  · replace H := H.1 c63
    refine j_iconst (pc := 80) (v := 1) dX12_row_80 (by decide) ?_
    exact s_ireti (pc := 81) dX12_row_81 rfl H
  · replace H := H.2 c63
    refine j_aload_n (pc := 66) dX12_row_66 rfl ?_
    refine s_getr (pc := 67) dX12_row_67 fl_X12_101 shp_55 rfl ?_
    refine j_iload (pc := 70) dX12_row_70 rfl ?_
    refine j_lconst (pc := 72) (v := 0) dX12_row_72 (by decide) ?_
    have b73 := H.1
    replace H := H.2
    refine s_last (pc := 73) dX12_row_73 shp_83 b73 ?_
    refine j_iinc (pc := 74) (k := 4) (v := x4 + 1) (lv1 := [(4, .int (x4 + 1)), (0, .ref 55), (1, .int x1), (2, .int x2), (3, .int x3)]) dX12_row_74 rfl rfl (Nat.le_of_ble_eq_true rfl) rfl ?_
    refine j_goto (pc := 77) (t := 54) dX12_row_77 (by decide) ?_
    refine j_sub [1, 2, 3, 4, 0] rfl ?_
    exact H
set_option maxRecDepth 20000 in
theorem b_X12_whyNoPlace_0 {l : Launch} {g : am_G} {d : Nat} {σ : am_S} {k : Int32 → am_S → Prop}  {x1 x2 : Int32} (hd : 2 ≤ d) (H : ((((¬ x1 < 0 ∧ ¬ 5 < x1)) → (vp_in x1 6 ∧ ((¬ ar σ 81 x1.toNatClampNeg = (-1) → (vp_in x1 6 ∧ ((ar σ 81 x1.toNatClampNeg < 0 → (vp_in x1 6 ∧ (((¬ x2 < 0 ∧ ¬ (ar σ 82 x1.toNatClampNeg) - 1 < x2) → k 0 σ) ∧ (¬ (¬ x2 < 0 ∧ ¬ (ar σ 82 x1.toNatClampNeg) - 1 < x2) → k (-13) σ)))) ∧ (¬ ar σ 81 x1.toNatClampNeg < 0 → k (-12) σ)))) ∧ (ar σ 81 x1.toNatClampNeg = (-1) → k (-11) σ)))) ∧ (¬ ((¬ x1 < 0 ∧ ¬ 5 < x1)) → k (-1) σ))) : CI l g M_X12_whyNoPlace d [.ref 55, .int x1, .int x2] σ k := by
  show J l g (M_X12_whyNoPlace, d, 0, 0) 0 [(0, .ref 55), (1, .int x1), (2, .int x2)] [] (hp σ) 0 0 (kI k)
  refine j_iload_n (pc := 0) dX12_whyNoPlace_0 rfl ?_
  refine s_callS_i (pc := 1) (M1 := M_X12_isShelf) (n := 1) (as := [.int x1]) (st := []) dX12_whyNoPlace_1 G_X12_isShelf wm_X12_139 (by decide +kernel) rfl (Nat.le_of_ble_eq_true rfl) (by show 1 ≤ d; omega) (Nat.le_of_ble_eq_true rfl) ?_
  refine C_X12_isShelf (d := d - 1) (by omega) ⟨fun c1 => ?_, fun c1 => ?_⟩
  · replace H := H.1 c1
    refine j_if_ne (pc := 4) (t := 9) dX12_whyNoPlace_4 (by decide) (fun _ => ?_) (fun q => absurd q (by decide))
    refine j_aload_n (pc := 9) dX12_whyNoPlace_9 rfl ?_
    refine s_getr (pc := 10) dX12_whyNoPlace_10 fl_X12_95 shp_55 rfl ?_
    refine j_iload_n (pc := 13) dX12_whyNoPlace_13 rfl ?_
    have b14 := H.1
    replace H := H.2
    refine s_iald (pc := 14) (ar σ 81 x1.toNatClampNeg) dX12_whyNoPlace_14 shp_81 b14 rfl ?_
    refine j_iconst (pc := 15) (v := -1) dX12_whyNoPlace_15 (by decide) ?_
    refine j_icmp_ne (pc := 16) (t := 22) dX12_whyNoPlace_16 (by decide) (fun c16 => ?_) (fun c16 => ?_)
    · replace H := H.1 c16
      refine j_aload_n (pc := 22) dX12_whyNoPlace_22 rfl ?_
      refine s_getr (pc := 23) dX12_whyNoPlace_23 fl_X12_95 shp_55 rfl ?_
      refine j_iload_n (pc := 26) dX12_whyNoPlace_26 rfl ?_
      have b27 := H.1
      replace H := H.2
      refine s_iald (pc := 27) (ar σ 81 x1.toNatClampNeg) dX12_whyNoPlace_27 shp_81 b27 rfl ?_
      refine j_if_lt (pc := 28) (t := 34) dX12_whyNoPlace_28 (by decide) (fun c28 => ?_) (fun c28 => ?_)
      · replace H := H.1 c28
        refine j_iload_n (pc := 34) dX12_whyNoPlace_34 rfl ?_
        refine j_iconst (pc := 35) (v := 0) dX12_whyNoPlace_35 (by decide) ?_
        refine j_aload_n (pc := 36) dX12_whyNoPlace_36 rfl ?_
        refine s_getr (pc := 37) dX12_whyNoPlace_37 fl_X12_98 shp_55 rfl ?_
        refine j_iload_n (pc := 40) dX12_whyNoPlace_40 rfl ?_
        have b41 := H.1
        replace H := H.2
        refine s_iald (pc := 41) (ar σ 82 x1.toNatClampNeg) dX12_whyNoPlace_41 shp_82 b41 rfl ?_
        refine j_iconst (pc := 42) (v := 1) dX12_whyNoPlace_42 (by decide) ?_
        refine j_isub (pc := 43) dX12_whyNoPlace_43 ?_
        refine s_callS_i (pc := 44) (M1 := M_X12_in) (n := 3) (as := [.int x2, .int 0, .int ((ar σ 82 x1.toNatClampNeg) - 1)]) (st := []) dX12_whyNoPlace_44 G_X12_in wm_X12_114 (by decide +kernel) rfl (Nat.le_of_ble_eq_true rfl) (by show 1 ≤ d; omega) (Nat.le_of_ble_eq_true rfl) ?_
        refine C_X12_in (d := d - 1) (by omega) ⟨fun c44 => ?_, fun c44 => ?_⟩
        · replace H := H.1 c44
          refine j_if_eq (pc := 47) (t := 54) dX12_whyNoPlace_47 (by decide) (fun q => absurd q (by decide)) (fun _ => ?_)
          refine j_iconst (pc := 50) (v := 0) dX12_whyNoPlace_50 (by decide) ?_
          refine j_goto (pc := 51) (t := 56) dX12_whyNoPlace_51 (by decide) ?_
          exact s_ireti (pc := 56) dX12_whyNoPlace_56 rfl H
        · replace H := H.2 c44
          refine j_if_eq (pc := 47) (t := 54) dX12_whyNoPlace_47 (by decide) (fun _ => ?_) (fun q => absurd q (by decide))
          refine j_bipush (pc := 54) (v := -13) dX12_whyNoPlace_54 (by decide) ?_
          exact s_ireti (pc := 56) dX12_whyNoPlace_56 rfl H
      · replace H := H.2 c28
        refine j_bipush (pc := 31) (v := -12) dX12_whyNoPlace_31 (by decide) ?_
        exact s_ireti (pc := 33) dX12_whyNoPlace_33 rfl H
    · replace H := H.2 c16
      refine j_bipush (pc := 19) (v := -11) dX12_whyNoPlace_19 (by decide) ?_
      exact s_ireti (pc := 21) dX12_whyNoPlace_21 rfl H
  · replace H := H.2 c1
    refine j_if_ne (pc := 4) (t := 9) dX12_whyNoPlace_4 (by decide) (fun q => absurd q (by decide)) (fun _ => ?_)
    refine j_iconst (pc := 7) (v := -1) dX12_whyNoPlace_7 (by decide) ?_
    exact s_ireti (pc := 8) dX12_whyNoPlace_8 rfl H
set_option maxRecDepth 20000 in
theorem b_X12_put_0 {l : Launch} {g : am_G} {d : Nat} {σ : am_S} {k : Int32 → am_S → Prop}  {x1 x2 : Int32} {x3 : Int64} (hd : 1 ≤ d) (H : CI l g M_X12_whyNoPlace (d - 1) [.ref 55, .int x1, .int x2] σ (fun r1 σ1 => ((0 ≤ r1 → (vp_in x1 6 ∧ ((¬ (-2) - (ar σ1 81 x1.toNatClampNeg) = 0 → ((¬ (-2) - (ar σ1 81 x1.toNatClampNeg) = 1 → ((¬ (-2) - (ar σ1 81 x1.toNatClampNeg) = 2 → ((¬ (-2) - (ar σ1 81 x1.toNatClampNeg) = 3 → ((lg_cmp x3 0 = 0 → (vp_in ((60 * x1) + x2) 360 ∧ k 1 (sL σ1 83 (((60 * x1) + x2).toNatClampNeg) 0))) ∧ (¬ lg_cmp x3 0 = 0 → (vp_in ((60 * x1) + x2) 360 ∧ k 1 (sL σ1 83 (((60 * x1) + x2).toNatClampNeg) 1))))) ∧ ((-2) - (ar σ1 81 x1.toNatClampNeg) = 3 → (vp_in ((60 * x1) + x2) 360 ∧ k 1 (sL σ1 83 (((60 * x1) + x2).toNatClampNeg) x3))))) ∧ ((-2) - (ar σ1 81 x1.toNatClampNeg) = 2 → (vp_in ((60 * x1) + x2) 360 ∧ k 1 (sL σ1 83 (((60 * x1) + x2).toNatClampNeg) x3.toInt32.toInt64))))) ∧ ((-2) - (ar σ1 81 x1.toNatClampNeg) = 1 → (vp_in ((60 * x1) + x2) 360 ∧ k 1 (sL σ1 83 (((60 * x1) + x2).toNatClampNeg) x3.toInt32.toInt16.toInt32.toInt64))))) ∧ ((-2) - (ar σ1 81 x1.toNatClampNeg) = 0 → (vp_in ((60 * x1) + x2) 360 ∧ k 1 (sL σ1 83 (((60 * x1) + x2).toNatClampNeg) x3.toInt32.toInt8.toInt32.toInt64)))))) ∧ (¬ 0 ≤ r1 → k r1 σ1)))) : CI l g M_X12_put d [.ref 55, .int x1, .int x2, .long x3] σ k := by
  show J l g (M_X12_put, d, 0, 0) 0 [(0, .ref 55), (1, .int x1), (2, .int x2), (3, .long x3)] [] (hp σ) 0 0 (kI k)
  refine j_aload_n (pc := 0) dX12_put_0 rfl ?_
  refine j_iload_n (pc := 1) dX12_put_1 rfl ?_
  refine j_iload_n (pc := 2) dX12_put_2 rfl ?_
  refine s_callV_i (pc := 3) (M1 := M_X12_whyNoPlace) (n := 2) (as := [.int x1, .int x2]) (a := 55) (st := []) dX12_put_3 G_X12_whyNoPlace wm_X12_391 (by decide +kernel) rfl (Nat.le_of_ble_eq_true rfl) shp_55 rfl (by show 1 ≤ d; omega) (Nat.le_of_ble_eq_true rfl) (Nat.zero_le _) (Nat.zero_le _) ?_
  refine CI.mono H (fun r1 σ1 H => ?_)
  refine j_istore (pc := 6) (lv1 := [(5, .int r1), (0, .ref 55), (1, .int x1), (2, .int x2), (3, .long x3)]) dX12_put_6 (Nat.le_of_ble_eq_true rfl) rfl ?_
  refine j_iload (pc := 8) dX12_put_8 rfl ?_
  refine j_if_ge (pc := 10) (t := 16) dX12_put_10 (by decide) (fun c10 => ?_) (fun c10 => ?_)
  · replace H := H.1 c10
    refine j_bipush (pc := 16) (v := -2) dX12_put_16 (by decide) ?_
    refine j_aload_n (pc := 18) dX12_put_18 rfl ?_
    refine s_getr (pc := 19) dX12_put_19 fl_X12_95 shp_55 rfl ?_
    refine j_iload_n (pc := 22) dX12_put_22 rfl ?_
    have b23 := H.1
    replace H := H.2
    refine s_iald (pc := 23) (ar σ1 81 x1.toNatClampNeg) dX12_put_23 shp_81 b23 rfl ?_
    refine j_isub (pc := 24) dX12_put_24 ?_
    refine j_istore (pc := 25) (lv1 := [(6, .int ((-2) - (ar σ1 81 x1.toNatClampNeg))), (5, .int r1), (0, .ref 55), (1, .int x1), (2, .int x2), (3, .long x3)]) dX12_put_25 (Nat.le_of_ble_eq_true rfl) rfl ?_
    refine j_aload_n (pc := 27) dX12_put_27 rfl ?_
    refine s_getr (pc := 28) dX12_put_28 fl_X12_101 shp_55 rfl ?_
    refine j_bipush (pc := 31) (v := 60) dX12_put_31 (by decide) ?_
    refine j_iload_n (pc := 33) dX12_put_33 rfl ?_
    refine j_imul (pc := 34) dX12_put_34 ?_
    refine j_iload_n (pc := 35) dX12_put_35 rfl ?_
    refine j_iadd (pc := 36) dX12_put_36 ?_
    refine j_iload (pc := 37) dX12_put_37 rfl ?_
    refine j_if_ne (pc := 39) (t := 49) dX12_put_39 (by decide) (fun c39 => ?_) (fun c39 => ?_)
    · replace H := H.1 c39
      refine j_iload (pc := 49) dX12_put_49 rfl ?_
      refine j_iconst (pc := 51) (v := 1) dX12_put_51 (by decide) ?_
      refine j_icmp_ne (pc := 52) (t := 62) dX12_put_52 (by decide) (fun c52 => ?_) (fun c52 => ?_)
      · replace H := H.1 c52
        refine j_iload (pc := 62) dX12_put_62 rfl ?_
        refine j_iconst (pc := 64) (v := 2) dX12_put_64 (by decide) ?_
        refine j_icmp_ne (pc := 65) (t := 74) dX12_put_65 (by decide) (fun c65 => ?_) (fun c65 => ?_)
        · replace H := H.1 c65
          refine j_iload (pc := 74) dX12_put_74 rfl ?_
          refine j_iconst (pc := 76) (v := 3) dX12_put_76 (by decide) ?_
          refine j_icmp_ne (pc := 77) (t := 84) dX12_put_77 (by decide) (fun c77 => ?_) (fun c77 => ?_)
          · replace H := H.1 c77
            refine j_lload_n (pc := 84) dX12_put_84 rfl ?_
            refine j_lconst (pc := 85) (v := 0) dX12_put_85 (by decide) ?_
            refine j_lcmp (pc := 86) dX12_put_86 ?_
            refine j_if_eq (pc := 87) (t := 94) dX12_put_87 (by decide) (fun c87 => ?_) (fun c87 => ?_)
            · replace H := H.1 c87
              refine j_lconst (pc := 94) (v := 0) dX12_put_94 (by decide) ?_
              have b95 := H.1
              replace H := H.2
              refine s_last (pc := 95) dX12_put_95 shp_83 b95 ?_
              refine j_iconst (pc := 96) (v := 1) dX12_put_96 (by decide) ?_
              exact s_ireti (pc := 97) dX12_put_97 rfl H
            · replace H := H.2 c87
              refine j_lconst (pc := 90) (v := 1) dX12_put_90 (by decide) ?_
              refine j_goto (pc := 91) (t := 95) dX12_put_91 (by decide) ?_
              have b95 := H.1
              replace H := H.2
              refine s_last (pc := 95) dX12_put_95 shp_83 b95 ?_
              refine j_iconst (pc := 96) (v := 1) dX12_put_96 (by decide) ?_
              exact s_ireti (pc := 97) dX12_put_97 rfl H
          · replace H := H.2 c77
            refine j_lload_n (pc := 80) dX12_put_80 rfl ?_
            refine j_goto (pc := 81) (t := 95) dX12_put_81 (by decide) ?_
            have b95 := H.1
            replace H := H.2
            refine s_last (pc := 95) dX12_put_95 shp_83 b95 ?_
            refine j_iconst (pc := 96) (v := 1) dX12_put_96 (by decide) ?_
            exact s_ireti (pc := 97) dX12_put_97 rfl H
        · replace H := H.2 c65
          refine j_lload_n (pc := 68) dX12_put_68 rfl ?_
          refine j_l2i (pc := 69) dX12_put_69 ?_
          refine j_i2l (pc := 70) dX12_put_70 ?_
          refine j_goto (pc := 71) (t := 95) dX12_put_71 (by decide) ?_
          have b95 := H.1
          replace H := H.2
          refine s_last (pc := 95) dX12_put_95 shp_83 b95 ?_
          refine j_iconst (pc := 96) (v := 1) dX12_put_96 (by decide) ?_
          exact s_ireti (pc := 97) dX12_put_97 rfl H
      · replace H := H.2 c52
        refine j_lload_n (pc := 55) dX12_put_55 rfl ?_
        refine j_l2i (pc := 56) dX12_put_56 ?_
        refine j_i2s (pc := 57) dX12_put_57 ?_
        refine j_i2l (pc := 58) dX12_put_58 ?_
        refine j_goto (pc := 59) (t := 95) dX12_put_59 (by decide) ?_
        have b95 := H.1
        replace H := H.2
        refine s_last (pc := 95) dX12_put_95 shp_83 b95 ?_
        refine j_iconst (pc := 96) (v := 1) dX12_put_96 (by decide) ?_
        exact s_ireti (pc := 97) dX12_put_97 rfl H
    · replace H := H.2 c39
      refine j_lload_n (pc := 42) dX12_put_42 rfl ?_
      refine j_l2i (pc := 43) dX12_put_43 ?_
      refine j_i2b (pc := 44) dX12_put_44 ?_
      refine j_i2l (pc := 45) dX12_put_45 ?_
      refine j_goto (pc := 46) (t := 95) dX12_put_46 (by decide) ?_
      have b95 := H.1
      replace H := H.2
      refine s_last (pc := 95) dX12_put_95 shp_83 b95 ?_
      refine j_iconst (pc := 96) (v := 1) dX12_put_96 (by decide) ?_
      exact s_ireti (pc := 97) dX12_put_97 rfl H
  · replace H := H.2 c10
    refine j_iload (pc := 13) dX12_put_13 rfl ?_
    exact s_ireti (pc := 15) dX12_put_15 rfl H
set_option maxRecDepth 20000 in
theorem b_X12_element_0 {l : Launch} {g : am_G} {d : Nat} {σ : am_S} {k : Int64 → am_S → Prop}  {x1 x2 : Int32} (hd : 1 ≤ d) (H : CI l g M_X12_whyNoPlace (d - 1) [.ref 55, .int x1, .int x2] σ (fun r1 σ1 => ((0 ≤ r1 → (vp_in ((60 * x1) + x2) 360 ∧ k (lr σ1 83 (((60 * x1) + x2).toNatClampNeg)) σ1)) ∧ (¬ 0 ≤ r1 → k (-9223372036854775808) σ1)))) : CL l g M_X12_element d [.ref 55, .int x1, .int x2] σ k := by
  show J l g (M_X12_element, d, 0, 0) 0 [(0, .ref 55), (1, .int x1), (2, .int x2)] [] (hp σ) 0 0 (kL k)
  refine j_aload_n (pc := 0) dX12_element_0 rfl ?_
  refine j_iload_n (pc := 1) dX12_element_1 rfl ?_
  refine j_iload_n (pc := 2) dX12_element_2 rfl ?_
  refine s_callV_i (pc := 3) (M1 := M_X12_whyNoPlace) (n := 2) (as := [.int x1, .int x2]) (a := 55) (st := []) dX12_element_3 G_X12_whyNoPlace wm_X12_391 (by decide +kernel) rfl (Nat.le_of_ble_eq_true rfl) shp_55 rfl (by show 1 ≤ d; omega) (Nat.le_of_ble_eq_true rfl) (Nat.zero_le _) (Nat.zero_le _) ?_
  refine CI.mono H (fun r1 σ1 H => ?_)
  refine j_if_ge (pc := 6) (t := 15) dX12_element_6 (by decide) (fun c6 => ?_) (fun c6 => ?_)
  · replace H := H.1 c6
    refine j_aload_n (pc := 15) dX12_element_15 rfl ?_
    refine s_getr (pc := 16) dX12_element_16 fl_X12_101 shp_55 rfl ?_
    refine j_bipush (pc := 19) (v := 60) dX12_element_19 (by decide) ?_
    refine j_iload_n (pc := 21) dX12_element_21 rfl ?_
    refine j_imul (pc := 22) dX12_element_22 ?_
    refine j_iload_n (pc := 23) dX12_element_23 rfl ?_
    refine j_iadd (pc := 24) dX12_element_24 ?_
    have b25 := H.1
    replace H := H.2
    refine s_lald (pc := 25) (lr σ1 83 (((60 * x1) + x2).toNatClampNeg)) dX12_element_25 shp_83 b25 rfl ?_
    exact s_lret (pc := 26) dX12_element_26 rfl H
  · replace H := H.2 c6
    refine j_ldc2 (pc := 9) dX12_element_9 wk_X12_396 ?_
    refine j_goto (pc := 12) (t := 26) dX12_element_12 (by decide) ?_
    exact s_lret (pc := 26) dX12_element_26 rfl H
set_option maxRecDepth 20000 in
theorem b_X12_shift_0 {l : Launch} {g : am_G} {d : Nat} {σ : am_S} {k : Int32 → am_S → Prop}  {x1 x2 x3 x4 x5 : Int32} (hd : 2 ≤ d) (H : ((((¬ x1 < 0 ∧ ¬ 5 < x1)) → ((((¬ x3 < 0 ∧ ¬ 5 < x3)) → (vp_in x1 6 ∧ ((ar σ 81 x1.toNatClampNeg = (-1) → k (-11) σ) ∧ (¬ ar σ 81 x1.toNatClampNeg = (-1) → (vp_in x3 6 ∧ ((¬ ar σ 81 x3.toNatClampNeg = (-1) → (vp_in x1 6 ∧ ((0 ≤ ar σ 81 x1.toNatClampNeg → k (-12) σ) ∧ (¬ 0 ≤ ar σ 81 x1.toNatClampNeg → (vp_in x1 6 ∧ (vp_in x3 6 ∧ ((ar σ 81 x1.toNatClampNeg = ar σ 81 x3.toNatClampNeg → ((x5 < 0 → k (-13) σ) ∧ (¬ x5 < 0 → ((x2 < 0 → k (-13) σ) ∧ (¬ x2 < 0 → ((x4 < 0 → k (-13) σ) ∧ (¬ x4 < 0 → (vp_in x1 6 ∧ (((ar σ 82 x1.toNatClampNeg) - x5 < x2 → k (-13) σ) ∧ (¬ (ar σ 82 x1.toNatClampNeg) - x5 < x2 → (vp_in x3 6 ∧ ((x4 ≤ (ar σ 82 x3.toNatClampNeg) - x5 → JI l g M_X12_shift d 113 [(0, .ref 55), (1, .int x1), (2, .int x2), (3, .int x3), (4, .int x4), (5, .int x5), (6, .int 0)] [] σ k) ∧ (¬ x4 ≤ (ar σ 82 x3.toNatClampNeg) - x5 → k (-13) σ))))))))))))) ∧ (¬ ar σ 81 x1.toNatClampNeg = ar σ 81 x3.toNatClampNeg → k (-12) σ)))))))) ∧ (ar σ 81 x3.toNatClampNeg = (-1) → k (-11) σ))))))) ∧ (¬ ((¬ x3 < 0 ∧ ¬ 5 < x3)) → k (-1) σ))) ∧ (¬ ((¬ x1 < 0 ∧ ¬ 5 < x1)) → k (-1) σ))) : CI l g M_X12_shift d [.ref 55, .int x1, .int x2, .int x3, .int x4, .int x5] σ k := by
  show J l g (M_X12_shift, d, 0, 0) 0 [(0, .ref 55), (1, .int x1), (2, .int x2), (3, .int x3), (4, .int x4), (5, .int x5)] [] (hp σ) 0 0 (kI k)
  refine j_iload_n (pc := 0) dX12_shift_0 rfl ?_
  refine s_callS_i (pc := 1) (M1 := M_X12_isShelf) (n := 1) (as := [.int x1]) (st := []) dX12_shift_1 G_X12_isShelf wm_X12_139 (by decide +kernel) rfl (Nat.le_of_ble_eq_true rfl) (by show 1 ≤ d; omega) (Nat.le_of_ble_eq_true rfl) ?_
  refine C_X12_isShelf (d := d - 1) (by omega) ⟨fun c1 => ?_, fun c1 => ?_⟩
  · replace H := H.1 c1
    refine j_if_eq (pc := 4) (t := 14) dX12_shift_4 (by decide) (fun q => absurd q (by decide)) (fun _ => ?_)
    refine j_iload_n (pc := 7) dX12_shift_7 rfl ?_
    refine s_callS_i (pc := 8) (M1 := M_X12_isShelf) (n := 1) (as := [.int x3]) (st := []) dX12_shift_8 G_X12_isShelf wm_X12_139 (by decide +kernel) rfl (Nat.le_of_ble_eq_true rfl) (by show 1 ≤ d; omega) (Nat.le_of_ble_eq_true rfl) ?_
    refine C_X12_isShelf (d := d - 1) (by omega) ⟨fun c8 => ?_, fun c8 => ?_⟩
    · replace H := H.1 c8
      refine j_if_ne (pc := 11) (t := 16) dX12_shift_11 (by decide) (fun _ => ?_) (fun q => absurd q (by decide))
      refine j_aload_n (pc := 16) dX12_shift_16 rfl ?_
      refine s_getr (pc := 17) dX12_shift_17 fl_X12_95 shp_55 rfl ?_
      refine j_iload_n (pc := 20) dX12_shift_20 rfl ?_
      have b21 := H.1
      replace H := H.2
      refine s_iald (pc := 21) (ar σ 81 x1.toNatClampNeg) dX12_shift_21 shp_81 b21 rfl ?_
      refine j_iconst (pc := 22) (v := -1) dX12_shift_22 (by decide) ?_
      refine j_icmp_eq (pc := 23) (t := 36) dX12_shift_23 (by decide) (fun c23 => ?_) (fun c23 => ?_)
      · replace H := H.1 c23
        refine j_bipush (pc := 36) (v := -11) dX12_shift_36 (by decide) ?_
        exact s_ireti (pc := 38) dX12_shift_38 rfl H
      · replace H := H.2 c23
        refine j_aload_n (pc := 26) dX12_shift_26 rfl ?_
        refine s_getr (pc := 27) dX12_shift_27 fl_X12_95 shp_55 rfl ?_
        refine j_iload_n (pc := 30) dX12_shift_30 rfl ?_
        have b31 := H.1
        replace H := H.2
        refine s_iald (pc := 31) (ar σ 81 x3.toNatClampNeg) dX12_shift_31 shp_81 b31 rfl ?_
        refine j_iconst (pc := 32) (v := -1) dX12_shift_32 (by decide) ?_
        refine j_icmp_ne (pc := 33) (t := 39) dX12_shift_33 (by decide) (fun c33 => ?_) (fun c33 => ?_)
        · replace H := H.1 c33
          refine j_aload_n (pc := 39) dX12_shift_39 rfl ?_
          refine s_getr (pc := 40) dX12_shift_40 fl_X12_95 shp_55 rfl ?_
          refine j_iload_n (pc := 43) dX12_shift_43 rfl ?_
          have b44 := H.1
          replace H := H.2
          refine s_iald (pc := 44) (ar σ 81 x1.toNatClampNeg) dX12_shift_44 shp_81 b44 rfl ?_
          refine j_if_ge (pc := 45) (t := 63) dX12_shift_45 (by decide) (fun c45 => ?_) (fun c45 => ?_)
          · replace H := H.1 c45
            refine j_bipush (pc := 63) (v := -12) dX12_shift_63 (by decide) ?_
            exact s_ireti (pc := 65) dX12_shift_65 rfl H
          · replace H := H.2 c45
            refine j_aload_n (pc := 48) dX12_shift_48 rfl ?_
            refine s_getr (pc := 49) dX12_shift_49 fl_X12_95 shp_55 rfl ?_
            refine j_iload_n (pc := 52) dX12_shift_52 rfl ?_
            have b53 := H.1
            replace H := H.2
            refine s_iald (pc := 53) (ar σ 81 x1.toNatClampNeg) dX12_shift_53 shp_81 b53 rfl ?_
            refine j_aload_n (pc := 54) dX12_shift_54 rfl ?_
            refine s_getr (pc := 55) dX12_shift_55 fl_X12_95 shp_55 rfl ?_
            refine j_iload_n (pc := 58) dX12_shift_58 rfl ?_
            have b59 := H.1
            replace H := H.2
            refine s_iald (pc := 59) (ar σ 81 x3.toNatClampNeg) dX12_shift_59 shp_81 b59 rfl ?_
            refine j_icmp_eq (pc := 60) (t := 66) dX12_shift_60 (by decide) (fun c60 => ?_) (fun c60 => ?_)
            · replace H := H.1 c60
              refine j_iload (pc := 66) dX12_shift_66 rfl ?_
              refine j_if_lt (pc := 68) (t := 107) dX12_shift_68 (by decide) (fun c68 => ?_) (fun c68 => ?_)
              · replace H := H.1 c68
                refine j_bipush (pc := 107) (v := -13) dX12_shift_107 (by decide) ?_
                exact s_ireti (pc := 109) dX12_shift_109 rfl H
              · replace H := H.2 c68
                refine j_iload_n (pc := 71) dX12_shift_71 rfl ?_
                refine j_if_lt (pc := 72) (t := 107) dX12_shift_72 (by decide) (fun c72 => ?_) (fun c72 => ?_)
                · replace H := H.1 c72
                  refine j_bipush (pc := 107) (v := -13) dX12_shift_107 (by decide) ?_
                  exact s_ireti (pc := 109) dX12_shift_109 rfl H
                · replace H := H.2 c72
                  refine j_iload (pc := 75) dX12_shift_75 rfl ?_
                  refine j_if_lt (pc := 77) (t := 107) dX12_shift_77 (by decide) (fun c77 => ?_) (fun c77 => ?_)
                  · replace H := H.1 c77
                    refine j_bipush (pc := 107) (v := -13) dX12_shift_107 (by decide) ?_
                    exact s_ireti (pc := 109) dX12_shift_109 rfl H
                  · replace H := H.2 c77
                    refine j_iload_n (pc := 80) dX12_shift_80 rfl ?_
                    refine j_aload_n (pc := 81) dX12_shift_81 rfl ?_
                    refine s_getr (pc := 82) dX12_shift_82 fl_X12_98 shp_55 rfl ?_
                    refine j_iload_n (pc := 85) dX12_shift_85 rfl ?_
                    have b86 := H.1
                    replace H := H.2
                    refine s_iald (pc := 86) (ar σ 82 x1.toNatClampNeg) dX12_shift_86 shp_82 b86 rfl ?_
                    refine j_iload (pc := 87) dX12_shift_87 rfl ?_
                    refine j_isub (pc := 89) dX12_shift_89 ?_
                    refine j_icmp_gt (pc := 90) (t := 107) dX12_shift_90 (by decide) (fun c90 => ?_) (fun c90 => ?_)
                    · replace H := H.1 c90
                      refine j_bipush (pc := 107) (v := -13) dX12_shift_107 (by decide) ?_
                      exact s_ireti (pc := 109) dX12_shift_109 rfl H
                    · replace H := H.2 c90
                      refine j_iload (pc := 93) dX12_shift_93 rfl ?_
                      refine j_aload_n (pc := 95) dX12_shift_95 rfl ?_
                      refine s_getr (pc := 96) dX12_shift_96 fl_X12_98 shp_55 rfl ?_
                      refine j_iload_n (pc := 99) dX12_shift_99 rfl ?_
                      have b100 := H.1
                      replace H := H.2
                      refine s_iald (pc := 100) (ar σ 82 x3.toNatClampNeg) dX12_shift_100 shp_82 b100 rfl ?_
                      refine j_iload (pc := 101) dX12_shift_101 rfl ?_
                      refine j_isub (pc := 103) dX12_shift_103 ?_
                      refine j_icmp_le (pc := 104) (t := 110) dX12_shift_104 (by decide) (fun c104 => ?_) (fun c104 => ?_)
                      · replace H := H.1 c104
                        refine j_iconst (pc := 110) (v := 0) dX12_shift_110 (by decide) ?_
                        refine j_istore (pc := 111) (lv1 := [(6, .int 0), (0, .ref 55), (1, .int x1), (2, .int x2), (3, .int x3), (4, .int x4), (5, .int x5)]) dX12_shift_111 (Nat.le_of_ble_eq_true rfl) rfl ?_
                        refine j_sub [1, 2, 3, 4, 5, 6, 0] rfl ?_
                        exact H
                      · replace H := H.2 c104
                        refine j_bipush (pc := 107) (v := -13) dX12_shift_107 (by decide) ?_
                        exact s_ireti (pc := 109) dX12_shift_109 rfl H
            · replace H := H.2 c60
              refine j_bipush (pc := 63) (v := -12) dX12_shift_63 (by decide) ?_
              exact s_ireti (pc := 65) dX12_shift_65 rfl H
        · replace H := H.2 c33
          refine j_bipush (pc := 36) (v := -11) dX12_shift_36 (by decide) ?_
          exact s_ireti (pc := 38) dX12_shift_38 rfl H
    · replace H := H.2 c8
      refine j_if_ne (pc := 11) (t := 16) dX12_shift_11 (by decide) (fun q => absurd q (by decide)) (fun _ => ?_)
      refine j_iconst (pc := 14) (v := -1) dX12_shift_14 (by decide) ?_
      exact s_ireti (pc := 15) dX12_shift_15 rfl H
  · replace H := H.2 c1
    refine j_if_eq (pc := 4) (t := 14) dX12_shift_4 (by decide) (fun _ => ?_) (fun q => absurd q (by decide))
    refine j_iconst (pc := 14) (v := -1) dX12_shift_14 (by decide) ?_
    exact s_ireti (pc := 15) dX12_shift_15 rfl H
set_option maxRecDepth 20000 in
theorem b_X12_shift_113 {l : Launch} {g : am_G} {d : Nat} {σ : am_S} {k : Int32 → am_S → Prop}  {x1 x2 x3 x4 x5 x6 : Int32} (H : ((x5 ≤ x6 → JI l g M_X12_shift d 150 [(0, .ref 55), (1, .int x1), (2, .int x2), (3, .int x3), (4, .int x4), (5, .int x5), (6, .int 0)] [] σ k) ∧ (¬ x5 ≤ x6 → (vp_in (((60 * x1) + x2) + x6) 360 ∧ (vp_in x6 60 ∧ JI l g M_X12_shift d 113 [(0, .ref 55), (1, .int x1), (2, .int x2), (3, .int x3), (4, .int x4), (5, .int x5), (6, .int (x6 + 1))] [] (sL σ 84 x6.toNatClampNeg (lr σ 83 ((((60 * x1) + x2) + x6).toNatClampNeg))) k))))) : JI l g M_X12_shift d 113 [(0, .ref 55), (1, .int x1), (2, .int x2), (3, .int x3), (4, .int x4), (5, .int x5), (6, .int x6)] [] σ k := by
  show J l g (M_X12_shift, d, 0, 0) 113 [(0, .ref 55), (1, .int x1), (2, .int x2), (3, .int x3), (4, .int x4), (5, .int x5), (6, .int x6)] [] (hp σ) 0 0 (kI k)
  refine j_iload (pc := 113) dX12_shift_113 rfl ?_
  refine j_iload (pc := 115) dX12_shift_115 rfl ?_
  refine j_icmp_ge (pc := 117) (t := 147) dX12_shift_117 (by decide) (fun c117 => ?_) (fun c117 => ?_)
  · replace H := H.1 c117
    refine j_iconst (pc := 147) (v := 0) dX12_shift_147 (by decide) ?_
    refine j_istore (pc := 148) (lv1 := [(6, .int 0), (0, .ref 55), (1, .int x1), (2, .int x2), (3, .int x3), (4, .int x4), (5, .int x5)]) dX12_shift_148 (Nat.le_of_ble_eq_true rfl) rfl ?_
    refine j_sub [1, 2, 3, 4, 5, 6, 0] rfl ?_
    exact H
  · replace H := H.2 c117
    refine j_aload_n (pc := 120) dX12_shift_120 rfl ?_
    refine s_getr (pc := 121) dX12_shift_121 fl_X12_105 shp_55 rfl ?_
    refine j_iload (pc := 124) dX12_shift_124 rfl ?_
    refine j_aload_n (pc := 126) dX12_shift_126 rfl ?_
    refine s_getr (pc := 127) dX12_shift_127 fl_X12_101 shp_55 rfl ?_
    refine j_bipush (pc := 130) (v := 60) dX12_shift_130 (by decide) ?_
    refine j_iload_n (pc := 132) dX12_shift_132 rfl ?_
    refine j_imul (pc := 133) dX12_shift_133 ?_
    refine j_iload_n (pc := 134) dX12_shift_134 rfl ?_
    refine j_iadd (pc := 135) dX12_shift_135 ?_
    refine j_iload (pc := 136) dX12_shift_136 rfl ?_
    refine j_iadd (pc := 138) dX12_shift_138 ?_
    have b139 := H.1
    replace H := H.2
    refine s_lald (pc := 139) (lr σ 83 ((((60 * x1) + x2) + x6).toNatClampNeg)) dX12_shift_139 shp_83 b139 rfl ?_
    have b140 := H.1
    replace H := H.2
    refine s_last (pc := 140) dX12_shift_140 shp_84 b140 ?_
    refine j_iinc (pc := 141) (k := 6) (v := x6 + 1) (lv1 := [(6, .int (x6 + 1)), (0, .ref 55), (1, .int x1), (2, .int x2), (3, .int x3), (4, .int x4), (5, .int x5)]) dX12_shift_141 rfl rfl (Nat.le_of_ble_eq_true rfl) rfl ?_
    refine j_goto (pc := 144) (t := 113) dX12_shift_144 (by decide) ?_
    refine j_sub [1, 2, 3, 4, 5, 6, 0] rfl ?_
    exact H
set_option maxRecDepth 20000 in
theorem b_X12_shift_150 {l : Launch} {g : am_G} {d : Nat} {σ : am_S} {k : Int32 → am_S → Prop}  {x1 x2 x3 x4 x5 x6 : Int32} (H : ((x5 ≤ x6 → k x5 σ) ∧ (¬ x5 ≤ x6 → (vp_in x6 60 ∧ (vp_in (((60 * x3) + x4) + x6) 360 ∧ JI l g M_X12_shift d 150 [(0, .ref 55), (1, .int x1), (2, .int x2), (3, .int x3), (4, .int x4), (5, .int x5), (6, .int (x6 + 1))] [] (sL σ 83 ((((60 * x3) + x4) + x6).toNatClampNeg) (lr σ 84 x6.toNatClampNeg)) k))))) : JI l g M_X12_shift d 150 [(0, .ref 55), (1, .int x1), (2, .int x2), (3, .int x3), (4, .int x4), (5, .int x5), (6, .int x6)] [] σ k := by
  show J l g (M_X12_shift, d, 0, 0) 150 [(0, .ref 55), (1, .int x1), (2, .int x2), (3, .int x3), (4, .int x4), (5, .int x5), (6, .int x6)] [] (hp σ) 0 0 (kI k)
  refine j_iload (pc := 150) dX12_shift_150 rfl ?_
  refine j_iload (pc := 152) dX12_shift_152 rfl ?_
  refine j_icmp_ge (pc := 154) (t := 185) dX12_shift_154 (by decide) (fun c154 => ?_) (fun c154 => ?_)
  · replace H := H.1 c154
    refine j_iload (pc := 185) dX12_shift_185 rfl ?_
    exact s_ireti (pc := 187) dX12_shift_187 rfl H
  · replace H := H.2 c154
    refine j_aload_n (pc := 157) dX12_shift_157 rfl ?_
    refine s_getr (pc := 158) dX12_shift_158 fl_X12_101 shp_55 rfl ?_
    refine j_bipush (pc := 161) (v := 60) dX12_shift_161 (by decide) ?_
    refine j_iload_n (pc := 163) dX12_shift_163 rfl ?_
    refine j_imul (pc := 164) dX12_shift_164 ?_
    refine j_iload (pc := 165) dX12_shift_165 rfl ?_
    refine j_iadd (pc := 167) dX12_shift_167 ?_
    refine j_iload (pc := 168) dX12_shift_168 rfl ?_
    refine j_iadd (pc := 170) dX12_shift_170 ?_
    refine j_aload_n (pc := 171) dX12_shift_171 rfl ?_
    refine s_getr (pc := 172) dX12_shift_172 fl_X12_105 shp_55 rfl ?_
    refine j_iload (pc := 175) dX12_shift_175 rfl ?_
    have b177 := H.1
    replace H := H.2
    refine s_lald (pc := 177) (lr σ 84 x6.toNatClampNeg) dX12_shift_177 shp_84 b177 rfl ?_
    have b178 := H.1
    replace H := H.2
    refine s_last (pc := 178) dX12_shift_178 shp_83 b178 ?_
    refine j_iinc (pc := 179) (k := 6) (v := x6 + 1) (lv1 := [(6, .int (x6 + 1)), (0, .ref 55), (1, .int x1), (2, .int x2), (3, .int x3), (4, .int x4), (5, .int x5)]) dX12_shift_179 rfl rfl (Nat.le_of_ble_eq_true rfl) rfl ?_
    refine j_goto (pc := 182) (t := 150) dX12_shift_182 (by decide) ?_
    refine j_sub [1, 2, 3, 4, 5, 6, 0] rfl ?_
    exact H
set_option maxRecDepth 20000 in
theorem b_X12_taken_0 {l : Launch} {g : am_G} {d : Nat} {σ : am_S} {k : Int32 → am_S → Prop}  {x1 x2 : Int32} (hd : 2 ≤ d) (H : ((((¬ x1 < 0 ∧ ¬ 5 < x1)) → (((¬ x2 < 0 ∧ ¬ 7 < x2) → (vp_in x1 6 ∧ ((¬ ar σ 81 x1.toNatClampNeg = (-1) → (vp_in x1 6 ∧ ((ar σ 81 x1.toNatClampNeg < 0 → k (-12) σ) ∧ (¬ ar σ 81 x1.toNatClampNeg < 0 → (vp_in x1 6 ∧ (vp_in (ar σ 81 x1.toNatClampNeg) 50 ∧ CI l g M_X12_isUnder (d - 1) [.int (ar σ 79 ((ar σ 81 x1.toNatClampNeg).toNatClampNeg)), .int x2] σ (fun r3 σ3 => ((r3 = 0 → k (-12) σ3) ∧ (¬ r3 = 0 → (vp_in x1 6 ∧ (vp_in (ar σ3 81 x1.toNatClampNeg) 50 ∧ k (ar σ3 79 ((ar σ3 81 x1.toNatClampNeg).toNatClampNeg)) σ3))))))))))) ∧ (ar σ 81 x1.toNatClampNeg = (-1) → k (-11) σ)))) ∧ (¬ (¬ x2 < 0 ∧ ¬ 7 < x2) → k (-1) σ))) ∧ (¬ ((¬ x1 < 0 ∧ ¬ 5 < x1)) → k (-1) σ))) : CI l g M_X12_taken d [.ref 55, .int x1, .int x2] σ k := by
  show J l g (M_X12_taken, d, 0, 0) 0 [(0, .ref 55), (1, .int x1), (2, .int x2)] [] (hp σ) 0 0 (kI k)
  refine j_iload_n (pc := 0) dX12_taken_0 rfl ?_
  refine s_callS_i (pc := 1) (M1 := M_X12_isShelf) (n := 1) (as := [.int x1]) (st := []) dX12_taken_1 G_X12_isShelf wm_X12_139 (by decide +kernel) rfl (Nat.le_of_ble_eq_true rfl) (by show 1 ≤ d; omega) (Nat.le_of_ble_eq_true rfl) ?_
  refine C_X12_isShelf (d := d - 1) (by omega) ⟨fun c1 => ?_, fun c1 => ?_⟩
  · replace H := H.1 c1
    refine j_if_eq (pc := 4) (t := 17) dX12_taken_4 (by decide) (fun q => absurd q (by decide)) (fun _ => ?_)
    refine j_iload_n (pc := 7) dX12_taken_7 rfl ?_
    refine j_iconst (pc := 8) (v := 0) dX12_taken_8 (by decide) ?_
    refine j_bipush (pc := 9) (v := 7) dX12_taken_9 (by decide) ?_
    refine s_callS_i (pc := 11) (M1 := M_X12_in) (n := 3) (as := [.int x2, .int 0, .int 7]) (st := []) dX12_taken_11 G_X12_in wm_X12_114 (by decide +kernel) rfl (Nat.le_of_ble_eq_true rfl) (by show 1 ≤ d; omega) (Nat.le_of_ble_eq_true rfl) ?_
    refine C_X12_in (d := d - 1) (by omega) ⟨fun c11 => ?_, fun c11 => ?_⟩
    · replace H := H.1 c11
      refine j_if_ne (pc := 14) (t := 19) dX12_taken_14 (by decide) (fun _ => ?_) (fun q => absurd q (by decide))
      refine j_aload_n (pc := 19) dX12_taken_19 rfl ?_
      refine s_getr (pc := 20) dX12_taken_20 fl_X12_95 shp_55 rfl ?_
      refine j_iload_n (pc := 23) dX12_taken_23 rfl ?_
      have b24 := H.1
      replace H := H.2
      refine s_iald (pc := 24) (ar σ 81 x1.toNatClampNeg) dX12_taken_24 shp_81 b24 rfl ?_
      refine j_iconst (pc := 25) (v := -1) dX12_taken_25 (by decide) ?_
      refine j_icmp_ne (pc := 26) (t := 32) dX12_taken_26 (by decide) (fun c26 => ?_) (fun c26 => ?_)
      · replace H := H.1 c26
        refine j_aload_n (pc := 32) dX12_taken_32 rfl ?_
        refine s_getr (pc := 33) dX12_taken_33 fl_X12_95 shp_55 rfl ?_
        refine j_iload_n (pc := 36) dX12_taken_36 rfl ?_
        have b37 := H.1
        replace H := H.2
        refine s_iald (pc := 37) (ar σ 81 x1.toNatClampNeg) dX12_taken_37 shp_81 b37 rfl ?_
        refine j_if_lt (pc := 38) (t := 73) dX12_taken_38 (by decide) (fun c38 => ?_) (fun c38 => ?_)
        · replace H := H.1 c38
          refine j_bipush (pc := 73) (v := -12) dX12_taken_73 (by decide) ?_
          exact s_ireti (pc := 75) dX12_taken_75 rfl H
        · replace H := H.2 c38
          refine j_aload_n (pc := 41) dX12_taken_41 rfl ?_
          refine s_getr (pc := 42) dX12_taken_42 fl_X12_89 shp_55 rfl ?_
          refine j_aload_n (pc := 45) dX12_taken_45 rfl ?_
          refine s_getr (pc := 46) dX12_taken_46 fl_X12_95 shp_55 rfl ?_
          refine j_iload_n (pc := 49) dX12_taken_49 rfl ?_
          have b50 := H.1
          replace H := H.2
          refine s_iald (pc := 50) (ar σ 81 x1.toNatClampNeg) dX12_taken_50 shp_81 b50 rfl ?_
          have b51 := H.1
          replace H := H.2
          refine s_iald (pc := 51) (ar σ 79 ((ar σ 81 x1.toNatClampNeg).toNatClampNeg)) dX12_taken_51 shp_79 b51 rfl ?_
          refine j_iload_n (pc := 52) dX12_taken_52 rfl ?_
          refine s_callS_i (pc := 53) (M1 := M_X12_isUnder) (n := 2) (as := [.int (ar σ 79 ((ar σ 81 x1.toNatClampNeg).toNatClampNeg)), .int x2]) (st := []) dX12_taken_53 G_X12_isUnder wm_X12_355 (by decide +kernel) rfl (Nat.le_of_ble_eq_true rfl) (by show 1 ≤ d; omega) (Nat.le_of_ble_eq_true rfl) ?_
          refine CI.mono H (fun r3 σ3 H => ?_)
          refine j_if_eq (pc := 56) (t := 73) dX12_taken_56 (by decide) (fun c56 => ?_) (fun c56 => ?_)
          · replace H := H.1 c56
            refine j_bipush (pc := 73) (v := -12) dX12_taken_73 (by decide) ?_
            exact s_ireti (pc := 75) dX12_taken_75 rfl H
          · replace H := H.2 c56
            refine j_aload_n (pc := 59) dX12_taken_59 rfl ?_
            refine s_getr (pc := 60) dX12_taken_60 fl_X12_89 shp_55 rfl ?_
            refine j_aload_n (pc := 63) dX12_taken_63 rfl ?_
            refine s_getr (pc := 64) dX12_taken_64 fl_X12_95 shp_55 rfl ?_
            refine j_iload_n (pc := 67) dX12_taken_67 rfl ?_
            have b68 := H.1
            replace H := H.2
            refine s_iald (pc := 68) (ar σ3 81 x1.toNatClampNeg) dX12_taken_68 shp_81 b68 rfl ?_
            have b69 := H.1
            replace H := H.2
            refine s_iald (pc := 69) (ar σ3 79 ((ar σ3 81 x1.toNatClampNeg).toNatClampNeg)) dX12_taken_69 shp_79 b69 rfl ?_
            refine j_goto (pc := 70) (t := 75) dX12_taken_70 (by decide) ?_
            exact s_ireti (pc := 75) dX12_taken_75 rfl H
      · replace H := H.2 c26
        refine j_bipush (pc := 29) (v := -11) dX12_taken_29 (by decide) ?_
        exact s_ireti (pc := 31) dX12_taken_31 rfl H
    · replace H := H.2 c11
      refine j_if_ne (pc := 14) (t := 19) dX12_taken_14 (by decide) (fun q => absurd q (by decide)) (fun _ => ?_)
      refine j_iconst (pc := 17) (v := -1) dX12_taken_17 (by decide) ?_
      exact s_ireti (pc := 18) dX12_taken_18 rfl H
  · replace H := H.2 c1
    refine j_if_eq (pc := 4) (t := 17) dX12_taken_4 (by decide) (fun _ => ?_) (fun q => absurd q (by decide))
    refine j_iconst (pc := 17) (v := -1) dX12_taken_17 (by decide) ?_
    exact s_ireti (pc := 18) dX12_taken_18 rfl H
