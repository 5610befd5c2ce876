/-! what each stretch of the program does (laid by program) -/
set_option maxRecDepth 20000 in
theorem b_X12_line_0 {l : Launch} {g : am_G} {d : Nat} {σ : am_S} {k : am_S → Prop}   (hd : 1 ≤ d) (H : (vp_in (61 + (ar σ 68 1)) 122 ∧ CV l g M_X12_either (d - 1) [.ref 55] (sA σ 69 ((61 + (ar σ 68 1)).toNatClampNeg) (vp_nar .short ((rg σ 3543).toInt16.toInt32))) (fun σ1 => ((0 ≤ rg σ1 3541 → (vp_in (61 + (ar σ 68 1)) 122 ∧ k (sA (sA σ1 70 ((61 + (ar σ 68 1)).toNatClampNeg) (vp_nar .short ((rg σ1 3543).toInt16.toInt32))) 68 1 ((ar σ1 68 1) + 1)))) ∧ (¬ 0 ≤ rg σ1 3541 → CI l g M_X12_look (d - 1) [.ref 55] σ1 (fun r2 σ2 => ((¬ r2 = 63 → (vp_in (61 + (ar σ 68 1)) 122 ∧ k (sA (sA σ2 70 ((61 + (ar σ 68 1)).toNatClampNeg) (vp_nar .short ((rg σ2 3543).toInt16.toInt32))) 68 1 ((ar σ2 68 1) + 1)))) ∧ (r2 = 63 → (vp_in (61 + (ar σ 68 1)) 122 ∧ CV l g M_X12_either (d - 1) [.ref 55] (sA (sR σ2 3540 ((rg σ2 3540) + 1)) 69 ((61 + (ar σ 68 1)).toNatClampNeg) (vp_nar .short ((rg σ2 3543).toInt16.toInt32))) (fun σ3 => (vp_in (61 + (ar σ 68 1)) 122 ∧ k (sA (sA σ3 70 ((61 + (ar σ 68 1)).toNatClampNeg) (vp_nar .short ((rg σ3 3543).toInt16.toInt32))) 68 1 ((ar σ3 68 1) + 1))))))))))))) : CV l g M_X12_line d [.ref 55] σ k := by
  show J l g (M_X12_line, d, 0, 0) 0 [(0, .ref 55)] [] (hp σ) 0 0 (kV k)
  refine j_bipush (pc := 0) (v := 61) dX12_line_0 (by decide) ?_
  refine j_aload_n (pc := 2) dX12_line_2 rfl ?_
  refine s_getr (pc := 3) dX12_line_3 fl_X12_54 shp_55 rfl ?_
  refine j_iconst (pc := 6) (v := 1) dX12_line_6 (by decide) ?_
  refine s_iald (pc := 7) (ar σ 68 1) dX12_line_7 shp_68 (by unfold vp_in; decide) rfl ?_
  refine j_iadd (pc := 8) dX12_line_8 ?_
  refine j_istore_n (pc := 9) (lv1 := [(1, .int (61 + (ar σ 68 1))), (0, .ref 55)]) dX12_line_9 (Nat.le_of_ble_eq_true rfl) rfl ?_
  refine j_aload_n (pc := 10) dX12_line_10 rfl ?_
  refine s_getr (pc := 11) dX12_line_11 fl_X12_57 shp_55 rfl ?_
  refine j_iload_n (pc := 14) dX12_line_14 rfl ?_
  refine j_aload_n (pc := 15) dX12_line_15 rfl ?_
  refine s_geti (pc := 16) 3543 (rg σ 3543) dX12_line_16 fl_X12_184 shp_55 rfl rfl rfl ?_
  refine j_i2s (pc := 19) dX12_line_19 ?_
  have b20 := H.1
  replace H := H.2
  refine s_sast (pc := 20) dX12_line_20 shp_69 b20 ?_
  refine j_aload_n (pc := 21) dX12_line_21 rfl ?_
  refine s_callV_v (pc := 22) (M1 := M_X12_either) (n := 0) (as := []) (a := 55) (st := []) dX12_line_22 G_X12_either wm_X12_211 (by decide +kernel) rfl (Nat.le_of_ble_eq_true rfl) shp_55 rfl (by show 1 ≤ d; omega) (Nat.le_of_ble_eq_true rfl) (Nat.zero_le _) (Nat.zero_le _) ?_
  refine CV.mono H (fun σ1 H => ?_)
  refine j_aload_n (pc := 25) dX12_line_25 rfl ?_
  refine s_geti (pc := 26) 3541 (rg σ1 3541) dX12_line_26 fl_X12_181 shp_55 rfl rfl rfl ?_
  refine j_if_ge (pc := 29) (t := 66) dX12_line_29 (by decide) (fun c29 => ?_) (fun c29 => ?_)
  · replace H := H.1 c29
    refine j_aload_n (pc := 66) dX12_line_66 rfl ?_
    refine s_getr (pc := 67) dX12_line_67 fl_X12_61 shp_55 rfl ?_
    refine j_iload_n (pc := 70) dX12_line_70 rfl ?_
    refine j_aload_n (pc := 71) dX12_line_71 rfl ?_
    refine s_geti (pc := 72) 3543 (rg σ1 3543) dX12_line_72 fl_X12_184 shp_55 rfl rfl rfl ?_
    refine j_i2s (pc := 75) dX12_line_75 ?_
    have b76 := H.1
    replace H := H.2
    refine s_sast (pc := 76) dX12_line_76 shp_70 b76 ?_
    refine j_aload_n (pc := 77) dX12_line_77 rfl ?_
    refine s_getr (pc := 78) dX12_line_78 fl_X12_54 shp_55 rfl ?_
    refine j_iconst (pc := 81) (v := 1) dX12_line_81 (by decide) ?_
    refine j_dup2 (pc := 82) dX12_line_82 rfl rfl ?_
    refine s_iald (pc := 83) (ar σ1 68 1) dX12_line_83 shp_68 (by unfold vp_in; decide) rfl ?_
    refine j_iconst (pc := 84) (v := 1) dX12_line_84 (by decide) ?_
    refine j_iadd (pc := 85) dX12_line_85 ?_
    refine s_iast (pc := 86) dX12_line_86 shp_68 (by unfold vp_in; decide) ?_
    exact s_vret (pc := 87) dX12_line_87 rfl H
  · replace H := H.2 c29
    refine j_aload_n (pc := 32) dX12_line_32 rfl ?_
    refine s_callV_i (pc := 33) (M1 := M_X12_look) (n := 0) (as := []) (a := 55) (st := []) dX12_line_33 G_X12_look wm_X12_193 (by decide +kernel) rfl (Nat.le_of_ble_eq_true rfl) shp_55 rfl (by show 1 ≤ d; omega) (Nat.le_of_ble_eq_true rfl) (Nat.zero_le _) (Nat.zero_le _) ?_
    refine CI.mono H (fun r2 σ2 H => ?_)
    refine j_bipush (pc := 36) (v := 63) dX12_line_36 (by decide) ?_
    refine j_icmp_ne (pc := 38) (t := 66) dX12_line_38 (by decide) (fun c38 => ?_) (fun c38 => ?_)
    · replace H := H.1 c38
      refine j_aload_n (pc := 66) dX12_line_66 rfl ?_
      refine s_getr (pc := 67) dX12_line_67 fl_X12_61 shp_55 rfl ?_
      refine j_iload_n (pc := 70) dX12_line_70 rfl ?_
      refine j_aload_n (pc := 71) dX12_line_71 rfl ?_
      refine s_geti (pc := 72) 3543 (rg σ2 3543) dX12_line_72 fl_X12_184 shp_55 rfl rfl rfl ?_
      refine j_i2s (pc := 75) dX12_line_75 ?_
      have b76 := H.1
      replace H := H.2
      refine s_sast (pc := 76) dX12_line_76 shp_70 b76 ?_
      refine j_aload_n (pc := 77) dX12_line_77 rfl ?_
      refine s_getr (pc := 78) dX12_line_78 fl_X12_54 shp_55 rfl ?_
      refine j_iconst (pc := 81) (v := 1) dX12_line_81 (by decide) ?_
      refine j_dup2 (pc := 82) dX12_line_82 rfl rfl ?_
      refine s_iald (pc := 83) (ar σ2 68 1) dX12_line_83 shp_68 (by unfold vp_in; decide) rfl ?_
      refine j_iconst (pc := 84) (v := 1) dX12_line_84 (by decide) ?_
      refine j_iadd (pc := 85) dX12_line_85 ?_
      refine s_iast (pc := 86) dX12_line_86 shp_68 (by unfold vp_in; decide) ?_
      exact s_vret (pc := 87) dX12_line_87 rfl H
    · replace H := H.2 c38
      refine j_aload_n (pc := 41) dX12_line_41 rfl ?_
      refine j_dup (pc := 42) dX12_line_42 rfl ?_
      refine s_geti (pc := 43) 3540 (rg σ2 3540) dX12_line_43 fl_X12_178 shp_55 rfl rfl rfl ?_
      refine j_iconst (pc := 46) (v := 1) dX12_line_46 (by decide) ?_
      refine j_iadd (pc := 47) dX12_line_47 ?_
      refine s_put (pc := 48) 3540 dX12_line_48 fl_X12_178 shp_55 rfl rfl fp_12_20 rfl rfl ?_
      refine j_aload_n (pc := 51) dX12_line_51 rfl ?_
      refine s_getr (pc := 52) dX12_line_52 fl_X12_57 shp_55 rfl ?_
      refine j_iload_n (pc := 55) dX12_line_55 rfl ?_
      refine j_aload_n (pc := 56) dX12_line_56 rfl ?_
      refine s_geti (pc := 57) 3543 (rg σ2 3543) dX12_line_57 fl_X12_184 shp_55 rfl rfl rfl ?_
      refine j_i2s (pc := 60) dX12_line_60 ?_
      have b61 := H.1
      replace H := H.2
      refine s_sast (pc := 61) dX12_line_61 shp_69 b61 ?_
      refine j_aload_n (pc := 62) dX12_line_62 rfl ?_
      refine s_callV_v (pc := 63) (M1 := M_X12_either) (n := 0) (as := []) (a := 55) (st := []) dX12_line_63 G_X12_either wm_X12_211 (by decide +kernel) rfl (Nat.le_of_ble_eq_true rfl) shp_55 rfl (by show 1 ≤ d; omega) (Nat.le_of_ble_eq_true rfl) (Nat.zero_le _) (Nat.zero_le _) ?_
      refine CV.mono H (fun σ3 H => ?_)
      refine j_aload_n (pc := 66) dX12_line_66 rfl ?_
      refine s_getr (pc := 67) dX12_line_67 fl_X12_61 shp_55 rfl ?_
      refine j_iload_n (pc := 70) dX12_line_70 rfl ?_
      refine j_aload_n (pc := 71) dX12_line_71 rfl ?_
      refine s_geti (pc := 72) 3543 (rg σ3 3543) dX12_line_72 fl_X12_184 shp_55 rfl rfl rfl ?_
      refine j_i2s (pc := 75) dX12_line_75 ?_
      have b76 := H.1
      replace H := H.2
      refine s_sast (pc := 76) dX12_line_76 shp_70 b76 ?_
      refine j_aload_n (pc := 77) dX12_line_77 rfl ?_
      refine s_getr (pc := 78) dX12_line_78 fl_X12_54 shp_55 rfl ?_
      refine j_iconst (pc := 81) (v := 1) dX12_line_81 (by decide) ?_
      refine j_dup2 (pc := 82) dX12_line_82 rfl rfl ?_
      refine s_iald (pc := 83) (ar σ3 68 1) dX12_line_83 shp_68 (by unfold vp_in; decide) rfl ?_
      refine j_iconst (pc := 84) (v := 1) dX12_line_84 (by decide) ?_
      refine j_iadd (pc := 85) dX12_line_85 ?_
      refine s_iast (pc := 86) dX12_line_86 shp_68 (by unfold vp_in; decide) ?_
      exact s_vret (pc := 87) dX12_line_87 rfl H
set_option maxRecDepth 20000 in
theorem b_X12_readText_0 {l : Launch} {g : am_G} {d : Nat} {σ : am_S} {k : Int32 → am_S → Prop}  {x1 : Int32} (hd : 1 ≤ d) (H : CV l g M_X12_line (d - 1) [.ref 55] (sA (sR (sR (sR (sR σ 3540 0) 3541 (-1)) 3542 0) 3543 0) 68 1 0) (fun σ1 => JI l g M_X12_readText d 31 [(0, .ref 55), (1, .int x1)] [] σ1 k)) : CI l g M_X12_readText d [.ref 55, .int x1] σ k := by
  show J l g (M_X12_readText, d, 0, 0) 0 [(0, .ref 55), (1, .int x1)] [] (hp σ) 0 0 (kI k)
  refine j_aload_n (pc := 0) dX12_readText_0 rfl ?_
  refine j_iconst (pc := 1) (v := 0) dX12_readText_1 (by decide) ?_
  refine s_put (pc := 2) 3540 dX12_readText_2 fl_X12_178 shp_55 rfl rfl fp_12_20 rfl rfl ?_
  refine j_aload_n (pc := 5) dX12_readText_5 rfl ?_
  refine j_iconst (pc := 6) (v := -1) dX12_readText_6 (by decide) ?_
  refine s_put (pc := 7) 3541 dX12_readText_7 fl_X12_181 shp_55 rfl rfl fp_12_21 rfl rfl ?_
  refine j_aload_n (pc := 10) dX12_readText_10 rfl ?_
  refine j_iconst (pc := 11) (v := 0) dX12_readText_11 (by decide) ?_
  refine s_put (pc := 12) 3542 dX12_readText_12 fl_X12_187 shp_55 rfl rfl fp_12_22 rfl rfl ?_
  refine j_aload_n (pc := 15) dX12_readText_15 rfl ?_
  refine j_iconst (pc := 16) (v := 0) dX12_readText_16 (by decide) ?_
  refine s_put (pc := 17) 3543 dX12_readText_17 fl_X12_184 shp_55 rfl rfl fp_12_23 rfl rfl ?_
  refine j_aload_n (pc := 20) dX12_readText_20 rfl ?_
  refine s_getr (pc := 21) dX12_readText_21 fl_X12_54 shp_55 rfl ?_
  refine j_iconst (pc := 24) (v := 1) dX12_readText_24 (by decide) ?_
  refine j_iconst (pc := 25) (v := 0) dX12_readText_25 (by decide) ?_
  refine s_iast (pc := 26) dX12_readText_26 shp_68 (by unfold vp_in; decide) ?_
  refine j_aload_n (pc := 27) dX12_readText_27 rfl ?_
  refine s_callV_v (pc := 28) (M1 := M_X12_line) (n := 0) (as := []) (a := 55) (st := []) dX12_readText_28 G_X12_line wm_X12_229 (by decide +kernel) rfl (Nat.le_of_ble_eq_true rfl) shp_55 rfl (by show 1 ≤ d; omega) (Nat.le_of_ble_eq_true rfl) (Nat.zero_le _) (Nat.zero_le _) ?_
  refine CV.mono H (fun σ1 H => ?_)
  refine j_sub [0, 1] rfl ?_
  exact H
set_option maxRecDepth 20000 in
theorem b_X12_readText_31 {l : Launch} {g : am_G} {d : Nat} {σ : am_S} {k : Int32 → am_S → Prop}  {x1 : Int32} (hd : 1 ≤ d) (H : ((0 ≤ rg σ 3541 → ((0 ≤ rg σ 3541 → ((rg σ 3541 < 0 → JI l g M_X12_readText d 105 [(0, .ref 55), (1, .int x1), (2, .int 0)] [] (sR σ 3539 0) k) ∧ (¬ rg σ 3541 < 0 → k (rg σ 3541) (sR σ 3539 0)))) ∧ (¬ 0 ≤ rg σ 3541 → ((rg σ 3539 ≤ rg σ 3540 → ((rg σ 3541 < 0 → JI l g M_X12_readText d 105 [(0, .ref 55), (1, .int x1), (2, .int 0)] [] (sR σ 3539 0) k) ∧ (¬ rg σ 3541 < 0 → k (rg σ 3541) (sR σ 3539 0)))) ∧ (¬ rg σ 3539 ≤ rg σ 3540 → CV l g M_X12_faulty (d - 1) [.ref 55] σ (fun σ1 => ((rg σ1 3541 < 0 → JI l g M_X12_readText d 105 [(0, .ref 55), (1, .int x1), (2, .int 0)] [] (sR σ1 3539 0) k) ∧ (¬ rg σ1 3541 < 0 → k (rg σ1 3541) (sR σ1 3539 0))))))))) ∧ (¬ 0 ≤ rg σ 3541 → CI l g M_X12_look (d - 1) [.ref 55] σ (fun r2 σ2 => ((¬ r2 = 59 → ((0 ≤ rg σ2 3541 → ((rg σ2 3541 < 0 → JI l g M_X12_readText d 105 [(0, .ref 55), (1, .int x1), (2, .int 0)] [] (sR σ2 3539 0) k) ∧ (¬ rg σ2 3541 < 0 → k (rg σ2 3541) (sR σ2 3539 0)))) ∧ (¬ 0 ≤ rg σ2 3541 → ((rg σ2 3539 ≤ rg σ2 3540 → ((rg σ2 3541 < 0 → JI l g M_X12_readText d 105 [(0, .ref 55), (1, .int x1), (2, .int 0)] [] (sR σ2 3539 0) k) ∧ (¬ rg σ2 3541 < 0 → k (rg σ2 3541) (sR σ2 3539 0)))) ∧ (¬ rg σ2 3539 ≤ rg σ2 3540 → CV l g M_X12_faulty (d - 1) [.ref 55] σ2 (fun σ3 => ((rg σ3 3541 < 0 → JI l g M_X12_readText d 105 [(0, .ref 55), (1, .int x1), (2, .int 0)] [] (sR σ3 3539 0) k) ∧ (¬ rg σ3 3541 < 0 → k (rg σ3 3541) (sR σ3 3539 0))))))))) ∧ (r2 = 59 → CV l g M_X12_line (d - 1) [.ref 55] (sR σ2 3540 ((rg σ2 3540) + 1)) (fun σ4 => JI l g M_X12_readText d 31 [(0, .ref 55), (1, .int x1)] [] σ4 k))))))) : JI l g M_X12_readText d 31 [(0, .ref 55), (1, .int x1)] [] σ k := by
  show J l g (M_X12_readText, d, 0, 0) 31 [(0, .ref 55), (1, .int x1)] [] (hp σ) 0 0 (kI k)
  refine j_aload_n (pc := 31) dX12_readText_31 rfl ?_
  refine s_geti (pc := 32) 3541 (rg σ 3541) dX12_readText_32 fl_X12_181 shp_55 rfl rfl rfl ?_
  refine j_if_ge (pc := 35) (t := 64) dX12_readText_35 (by decide) (fun c35 => ?_) (fun c35 => ?_)
  · replace H := H.1 c35
    refine j_aload_n (pc := 64) dX12_readText_64 rfl ?_
    refine s_geti (pc := 65) 3541 (rg σ 3541) dX12_readText_65 fl_X12_181 shp_55 rfl rfl rfl ?_
    refine j_if_ge (pc := 68) (t := 86) dX12_readText_68 (by decide) (fun c68 => ?_) (fun c68 => ?_)
    · replace H := H.1 c68
      refine j_aload_n (pc := 86) dX12_readText_86 rfl ?_
      refine j_iconst (pc := 87) (v := 0) dX12_readText_87 (by decide) ?_
      refine s_put (pc := 88) 3539 dX12_readText_88 fl_X12_175 shp_55 rfl rfl fp_12_19 rfl rfl ?_
      refine j_aload_n (pc := 91) dX12_readText_91 rfl ?_
      refine s_geti (pc := 92) 3541 (rg σ 3541) dX12_readText_92 fl_X12_181 shp_55 rfl rfl rfl ?_
      refine j_if_lt (pc := 95) (t := 103) dX12_readText_95 (by decide) (fun c95 => ?_) (fun c95 => ?_)
      · replace H := H.1 c95
        refine j_iconst (pc := 103) (v := 0) dX12_readText_103 (by decide) ?_
        refine j_istore_n (pc := 104) (lv1 := [(2, .int 0), (0, .ref 55), (1, .int x1)]) dX12_readText_104 (Nat.le_of_ble_eq_true rfl) rfl ?_
        refine j_sub [1, 2, 0] rfl ?_
        exact H
      · replace H := H.2 c95
        refine j_aload_n (pc := 98) dX12_readText_98 rfl ?_
        refine s_geti (pc := 99) 3541 (rg σ 3541) dX12_readText_99 fl_X12_181 shp_55 rfl rfl rfl ?_
        exact s_ireti (pc := 102) dX12_readText_102 rfl H
    · replace H := H.2 c68
      refine j_aload_n (pc := 71) dX12_readText_71 rfl ?_
      refine s_geti (pc := 72) 3540 (rg σ 3540) dX12_readText_72 fl_X12_178 shp_55 rfl rfl rfl ?_
      refine j_aload_n (pc := 75) dX12_readText_75 rfl ?_
      refine s_geti (pc := 76) 3539 (rg σ 3539) dX12_readText_76 fl_X12_175 shp_55 rfl rfl rfl ?_
      refine j_icmp_ge (pc := 79) (t := 86) dX12_readText_79 (by decide) (fun c79 => ?_) (fun c79 => ?_)
      · replace H := H.1 c79
        refine j_aload_n (pc := 86) dX12_readText_86 rfl ?_
        refine j_iconst (pc := 87) (v := 0) dX12_readText_87 (by decide) ?_
        refine s_put (pc := 88) 3539 dX12_readText_88 fl_X12_175 shp_55 rfl rfl fp_12_19 rfl rfl ?_
        refine j_aload_n (pc := 91) dX12_readText_91 rfl ?_
        refine s_geti (pc := 92) 3541 (rg σ 3541) dX12_readText_92 fl_X12_181 shp_55 rfl rfl rfl ?_
        refine j_if_lt (pc := 95) (t := 103) dX12_readText_95 (by decide) (fun c95 => ?_) (fun c95 => ?_)
        · replace H := H.1 c95
          refine j_iconst (pc := 103) (v := 0) dX12_readText_103 (by decide) ?_
          refine j_istore_n (pc := 104) (lv1 := [(2, .int 0), (0, .ref 55), (1, .int x1)]) dX12_readText_104 (Nat.le_of_ble_eq_true rfl) rfl ?_
          refine j_sub [1, 2, 0] rfl ?_
          exact H
        · replace H := H.2 c95
          refine j_aload_n (pc := 98) dX12_readText_98 rfl ?_
          refine s_geti (pc := 99) 3541 (rg σ 3541) dX12_readText_99 fl_X12_181 shp_55 rfl rfl rfl ?_
          exact s_ireti (pc := 102) dX12_readText_102 rfl H
      · replace H := H.2 c79
        refine j_aload_n (pc := 82) dX12_readText_82 rfl ?_
        refine s_callV_v (pc := 83) (M1 := M_X12_faulty) (n := 0) (as := []) (a := 55) (st := []) dX12_readText_83 G_X12_faulty wm_X12_190 (by decide +kernel) rfl (Nat.le_of_ble_eq_true rfl) shp_55 rfl (by show 1 ≤ d; omega) (Nat.le_of_ble_eq_true rfl) (Nat.zero_le _) (Nat.zero_le _) ?_
        refine CV.mono H (fun σ1 H => ?_)
        refine j_aload_n (pc := 86) dX12_readText_86 rfl ?_
        refine j_iconst (pc := 87) (v := 0) dX12_readText_87 (by decide) ?_
        refine s_put (pc := 88) 3539 dX12_readText_88 fl_X12_175 shp_55 rfl rfl fp_12_19 rfl rfl ?_
        refine j_aload_n (pc := 91) dX12_readText_91 rfl ?_
        refine s_geti (pc := 92) 3541 (rg σ1 3541) dX12_readText_92 fl_X12_181 shp_55 rfl rfl rfl ?_
        refine j_if_lt (pc := 95) (t := 103) dX12_readText_95 (by decide) (fun c95 => ?_) (fun c95 => ?_)
        · replace H := H.1 c95
          refine j_iconst (pc := 103) (v := 0) dX12_readText_103 (by decide) ?_
          refine j_istore_n (pc := 104) (lv1 := [(2, .int 0), (0, .ref 55), (1, .int x1)]) dX12_readText_104 (Nat.le_of_ble_eq_true rfl) rfl ?_
          refine j_sub [1, 2, 0] rfl ?_
          exact H
        · replace H := H.2 c95
          refine j_aload_n (pc := 98) dX12_readText_98 rfl ?_
          refine s_geti (pc := 99) 3541 (rg σ1 3541) dX12_readText_99 fl_X12_181 shp_55 rfl rfl rfl ?_
          exact s_ireti (pc := 102) dX12_readText_102 rfl H
  · replace H := H.2 c35
    refine j_aload_n (pc := 38) dX12_readText_38 rfl ?_
    refine s_callV_i (pc := 39) (M1 := M_X12_look) (n := 0) (as := []) (a := 55) (st := []) dX12_readText_39 G_X12_look wm_X12_193 (by decide +kernel) rfl (Nat.le_of_ble_eq_true rfl) shp_55 rfl (by show 1 ≤ d; omega) (Nat.le_of_ble_eq_true rfl) (Nat.zero_le _) (Nat.zero_le _) ?_
    refine CI.mono H (fun r2 σ2 H => ?_)
    refine j_bipush (pc := 42) (v := 59) dX12_readText_42 (by decide) ?_
    refine j_icmp_ne (pc := 44) (t := 64) dX12_readText_44 (by decide) (fun c44 => ?_) (fun c44 => ?_)
    · replace H := H.1 c44
      refine j_aload_n (pc := 64) dX12_readText_64 rfl ?_
      refine s_geti (pc := 65) 3541 (rg σ2 3541) dX12_readText_65 fl_X12_181 shp_55 rfl rfl rfl ?_
      refine j_if_ge (pc := 68) (t := 86) dX12_readText_68 (by decide) (fun c68 => ?_) (fun c68 => ?_)
      · replace H := H.1 c68
        refine j_aload_n (pc := 86) dX12_readText_86 rfl ?_
        refine j_iconst (pc := 87) (v := 0) dX12_readText_87 (by decide) ?_
        refine s_put (pc := 88) 3539 dX12_readText_88 fl_X12_175 shp_55 rfl rfl fp_12_19 rfl rfl ?_
        refine j_aload_n (pc := 91) dX12_readText_91 rfl ?_
        refine s_geti (pc := 92) 3541 (rg σ2 3541) dX12_readText_92 fl_X12_181 shp_55 rfl rfl rfl ?_
        refine j_if_lt (pc := 95) (t := 103) dX12_readText_95 (by decide) (fun c95 => ?_) (fun c95 => ?_)
        · replace H := H.1 c95
          refine j_iconst (pc := 103) (v := 0) dX12_readText_103 (by decide) ?_
          refine j_istore_n (pc := 104) (lv1 := [(2, .int 0), (0, .ref 55), (1, .int x1)]) dX12_readText_104 (Nat.le_of_ble_eq_true rfl) rfl ?_
          refine j_sub [1, 2, 0] rfl ?_
          exact H
        · replace H := H.2 c95
          refine j_aload_n (pc := 98) dX12_readText_98 rfl ?_
          refine s_geti (pc := 99) 3541 (rg σ2 3541) dX12_readText_99 fl_X12_181 shp_55 rfl rfl rfl ?_
          exact s_ireti (pc := 102) dX12_readText_102 rfl H
      · replace H := H.2 c68
        refine j_aload_n (pc := 71) dX12_readText_71 rfl ?_
        refine s_geti (pc := 72) 3540 (rg σ2 3540) dX12_readText_72 fl_X12_178 shp_55 rfl rfl rfl ?_
        refine j_aload_n (pc := 75) dX12_readText_75 rfl ?_
        refine s_geti (pc := 76) 3539 (rg σ2 3539) dX12_readText_76 fl_X12_175 shp_55 rfl rfl rfl ?_
        refine j_icmp_ge (pc := 79) (t := 86) dX12_readText_79 (by decide) (fun c79 => ?_) (fun c79 => ?_)
        · replace H := H.1 c79
          refine j_aload_n (pc := 86) dX12_readText_86 rfl ?_
          refine j_iconst (pc := 87) (v := 0) dX12_readText_87 (by decide) ?_
          refine s_put (pc := 88) 3539 dX12_readText_88 fl_X12_175 shp_55 rfl rfl fp_12_19 rfl rfl ?_
          refine j_aload_n (pc := 91) dX12_readText_91 rfl ?_
          refine s_geti (pc := 92) 3541 (rg σ2 3541) dX12_readText_92 fl_X12_181 shp_55 rfl rfl rfl ?_
          refine j_if_lt (pc := 95) (t := 103) dX12_readText_95 (by decide) (fun c95 => ?_) (fun c95 => ?_)
          · replace H := H.1 c95
            refine j_iconst (pc := 103) (v := 0) dX12_readText_103 (by decide) ?_
            refine j_istore_n (pc := 104) (lv1 := [(2, .int 0), (0, .ref 55), (1, .int x1)]) dX12_readText_104 (Nat.le_of_ble_eq_true rfl) rfl ?_
            refine j_sub [1, 2, 0] rfl ?_
            exact H
          · replace H := H.2 c95
            refine j_aload_n (pc := 98) dX12_readText_98 rfl ?_
            refine s_geti (pc := 99) 3541 (rg σ2 3541) dX12_readText_99 fl_X12_181 shp_55 rfl rfl rfl ?_
            exact s_ireti (pc := 102) dX12_readText_102 rfl H
        · replace H := H.2 c79
          refine j_aload_n (pc := 82) dX12_readText_82 rfl ?_
          refine s_callV_v (pc := 83) (M1 := M_X12_faulty) (n := 0) (as := []) (a := 55) (st := []) dX12_readText_83 G_X12_faulty wm_X12_190 (by decide +kernel) rfl (Nat.le_of_ble_eq_true rfl) shp_55 rfl (by show 1 ≤ d; omega) (Nat.le_of_ble_eq_true rfl) (Nat.zero_le _) (Nat.zero_le _) ?_
          refine CV.mono H (fun σ3 H => ?_)
          refine j_aload_n (pc := 86) dX12_readText_86 rfl ?_
          refine j_iconst (pc := 87) (v := 0) dX12_readText_87 (by decide) ?_
          refine s_put (pc := 88) 3539 dX12_readText_88 fl_X12_175 shp_55 rfl rfl fp_12_19 rfl rfl ?_
          refine j_aload_n (pc := 91) dX12_readText_91 rfl ?_
          refine s_geti (pc := 92) 3541 (rg σ3 3541) dX12_readText_92 fl_X12_181 shp_55 rfl rfl rfl ?_
          refine j_if_lt (pc := 95) (t := 103) dX12_readText_95 (by decide) (fun c95 => ?_) (fun c95 => ?_)
          · replace H := H.1 c95
            refine j_iconst (pc := 103) (v := 0) dX12_readText_103 (by decide) ?_
            refine j_istore_n (pc := 104) (lv1 := [(2, .int 0), (0, .ref 55), (1, .int x1)]) dX12_readText_104 (Nat.le_of_ble_eq_true rfl) rfl ?_
            refine j_sub [1, 2, 0] rfl ?_
            exact H
          · replace H := H.2 c95
            refine j_aload_n (pc := 98) dX12_readText_98 rfl ?_
            refine s_geti (pc := 99) 3541 (rg σ3 3541) dX12_readText_99 fl_X12_181 shp_55 rfl rfl rfl ?_
            exact s_ireti (pc := 102) dX12_readText_102 rfl H
    · replace H := H.2 c44
      refine j_aload_n (pc := 47) dX12_readText_47 rfl ?_
      refine j_dup (pc := 48) dX12_readText_48 rfl ?_
      refine s_geti (pc := 49) 3540 (rg σ2 3540) dX12_readText_49 fl_X12_178 shp_55 rfl rfl rfl ?_
      refine j_iconst (pc := 52) (v := 1) dX12_readText_52 (by decide) ?_
      refine j_iadd (pc := 53) dX12_readText_53 ?_
      refine s_put (pc := 54) 3540 dX12_readText_54 fl_X12_178 shp_55 rfl rfl fp_12_20 rfl rfl ?_
      refine j_aload_n (pc := 57) dX12_readText_57 rfl ?_
      refine s_callV_v (pc := 58) (M1 := M_X12_line) (n := 0) (as := []) (a := 55) (st := []) dX12_readText_58 G_X12_line wm_X12_229 (by decide +kernel) rfl (Nat.le_of_ble_eq_true rfl) shp_55 rfl (by show 1 ≤ d; omega) (Nat.le_of_ble_eq_true rfl) (Nat.zero_le _) (Nat.zero_le _) ?_
      refine CV.mono H (fun σ4 H => ?_)
      refine j_goto (pc := 61) (t := 31) dX12_readText_61 (by decide) ?_
      refine j_sub [0, 1] rfl ?_
      exact H
set_option maxRecDepth 20000 in
theorem b_X12_readText_105 {l : Launch} {g : am_G} {d : Nat} {σ : am_S} {k : Int32 → am_S → Prop}  {x1 x2 : Int32} (H : ((rg σ 3543 ≤ x2 → (vp_in x1 2 ∧ JI l g M_X12_readText d 177 [(0, .ref 55), (1, .int x1), (2, .int 0)] [] (sA σ 68 x1.toNatClampNeg (ar σ 68 1)) k)) ∧ (¬ rg σ 3543 ≤ x2 → (vp_in (130 + x2) 260 ∧ (vp_in ((130 * x1) + x2) 260 ∧ (vp_in (130 + x2) 260 ∧ (vp_in ((130 * x1) + x2) 260 ∧ JI l g M_X12_readText d 105 [(0, .ref 55), (1, .int x1), (2, .int (x2 + 1))] [] (sA (sA σ 66 (((130 * x1) + x2).toNatClampNeg) (vp_nar .byte (ar σ 66 ((130 + x2).toNatClampNeg)))) 67 (((130 * x1) + x2).toNatClampNeg) (ar σ 67 ((130 + x2).toNatClampNeg))) k))))))) : JI l g M_X12_readText d 105 [(0, .ref 55), (1, .int x1), (2, .int x2)] [] σ k := by
  show J l g (M_X12_readText, d, 0, 0) 105 [(0, .ref 55), (1, .int x1), (2, .int x2)] [] (hp σ) 0 0 (kI k)
  refine j_iload_n (pc := 105) dX12_readText_105 rfl ?_
  refine j_aload_n (pc := 106) dX12_readText_106 rfl ?_
  refine s_geti (pc := 107) 3543 (rg σ 3543) dX12_readText_107 fl_X12_184 shp_55 rfl rfl rfl ?_
  refine j_icmp_ge (pc := 110) (t := 163) dX12_readText_110 (by decide) (fun c110 => ?_) (fun c110 => ?_)
  · replace H := H.1 c110
    refine j_aload_n (pc := 163) dX12_readText_163 rfl ?_
    refine s_getr (pc := 164) dX12_readText_164 fl_X12_54 shp_55 rfl ?_
    refine j_iload_n (pc := 167) dX12_readText_167 rfl ?_
    refine j_aload_n (pc := 168) dX12_readText_168 rfl ?_
    refine s_getr (pc := 169) dX12_readText_169 fl_X12_54 shp_55 rfl ?_
    refine j_iconst (pc := 172) (v := 1) dX12_readText_172 (by decide) ?_
    refine s_iald (pc := 173) (ar σ 68 1) dX12_readText_173 shp_68 (by unfold vp_in; decide) rfl ?_
    have b174 := H.1
    replace H := H.2
    refine s_iast (pc := 174) dX12_readText_174 shp_68 b174 ?_
    refine j_iconst (pc := 175) (v := 0) dX12_readText_175 (by decide) ?_
    refine j_istore_n (pc := 176) (lv1 := [(2, .int 0), (0, .ref 55), (1, .int x1)]) dX12_readText_176 (Nat.le_of_ble_eq_true rfl) rfl ?_
    refine j_sub [1, 2, 0] rfl ?_
    exact H
  · replace H := H.2 c110
    refine j_aload_n (pc := 113) dX12_readText_113 rfl ?_
    refine s_getr (pc := 114) dX12_readText_114 fl_X12_48 shp_55 rfl ?_
    refine j_sipush (pc := 117) (v := 130) dX12_readText_117 (by decide) ?_
    refine j_iload_n (pc := 120) dX12_readText_120 rfl ?_
    refine j_imul (pc := 121) dX12_readText_121 ?_
    refine j_iload_n (pc := 122) dX12_readText_122 rfl ?_
    refine j_iadd (pc := 123) dX12_readText_123 ?_
    refine j_aload_n (pc := 124) dX12_readText_124 rfl ?_
    refine s_getr (pc := 125) dX12_readText_125 fl_X12_48 shp_55 rfl ?_
    refine j_sipush (pc := 128) (v := 130) dX12_readText_128 (by decide) ?_
    refine j_iload_n (pc := 131) dX12_readText_131 rfl ?_
    refine j_iadd (pc := 132) dX12_readText_132 ?_
    have b133 := H.1
    replace H := H.2
    refine s_bald (pc := 133) (ar σ 66 ((130 + x2).toNatClampNeg)) dX12_readText_133 shp_66 b133 rfl ?_
    have b134 := H.1
    replace H := H.2
    refine s_bast (pc := 134) dX12_readText_134 shp_66 b134 ?_
    refine j_aload_n (pc := 135) dX12_readText_135 rfl ?_
    refine s_getr (pc := 136) dX12_readText_136 fl_X12_51 shp_55 rfl ?_
    refine j_sipush (pc := 139) (v := 130) dX12_readText_139 (by decide) ?_
    refine j_iload_n (pc := 142) dX12_readText_142 rfl ?_
    refine j_imul (pc := 143) dX12_readText_143 ?_
    refine j_iload_n (pc := 144) dX12_readText_144 rfl ?_
    refine j_iadd (pc := 145) dX12_readText_145 ?_
    refine j_aload_n (pc := 146) dX12_readText_146 rfl ?_
    refine s_getr (pc := 147) dX12_readText_147 fl_X12_51 shp_55 rfl ?_
    refine j_sipush (pc := 150) (v := 130) dX12_readText_150 (by decide) ?_
    refine j_iload_n (pc := 153) dX12_readText_153 rfl ?_
    refine j_iadd (pc := 154) dX12_readText_154 ?_
    have b155 := H.1
    replace H := H.2
    refine s_iald (pc := 155) (ar σ 67 ((130 + x2).toNatClampNeg)) dX12_readText_155 shp_67 b155 rfl ?_
    have b156 := H.1
    replace H := H.2
    refine s_iast (pc := 156) dX12_readText_156 shp_67 b156 ?_
    refine j_iinc (pc := 157) (k := 2) (v := x2 + 1) (lv1 := [(2, .int (x2 + 1)), (0, .ref 55), (1, .int x1)]) dX12_readText_157 rfl rfl (Nat.le_of_ble_eq_true rfl) rfl ?_
    refine j_goto (pc := 160) (t := 105) dX12_readText_160 (by decide) ?_
    refine j_sub [1, 2, 0] rfl ?_
    exact H
set_option maxRecDepth 20000 in
theorem b_X12_readText_177 {l : Launch} {g : am_G} {d : Nat} {σ : am_S} {k : Int32 → am_S → Prop}  {x1 x2 : Int32} (H : (vp_in x1 2 ∧ ((ar σ 68 x1.toNatClampNeg ≤ x2 → k (-1) σ) ∧ (¬ ar σ 68 x1.toNatClampNeg ≤ x2 → (vp_in (61 + x2) 122 ∧ (vp_in ((61 * x1) + x2) 122 ∧ (vp_in (61 + x2) 122 ∧ (vp_in ((61 * x1) + x2) 122 ∧ JI l g M_X12_readText d 177 [(0, .ref 55), (1, .int x1), (2, .int (x2 + 1))] [] (sA (sA σ 69 (((61 * x1) + x2).toNatClampNeg) (vp_nar .short (ar σ 69 ((61 + x2).toNatClampNeg)))) 70 (((61 * x1) + x2).toNatClampNeg) (vp_nar .short (ar σ 70 ((61 + x2).toNatClampNeg)))) k)))))))) : JI l g M_X12_readText d 177 [(0, .ref 55), (1, .int x1), (2, .int x2)] [] σ k := by
  show J l g (M_X12_readText, d, 0, 0) 177 [(0, .ref 55), (1, .int x1), (2, .int x2)] [] (hp σ) 0 0 (kI k)
  refine j_iload_n (pc := 177) dX12_readText_177 rfl ?_
  refine j_aload_n (pc := 178) dX12_readText_178 rfl ?_
  refine s_getr (pc := 179) dX12_readText_179 fl_X12_54 shp_55 rfl ?_
  refine j_iload_n (pc := 182) dX12_readText_182 rfl ?_
  have b183 := H.1
  replace H := H.2
  refine s_iald (pc := 183) (ar σ 68 x1.toNatClampNeg) dX12_readText_183 shp_68 b183 rfl ?_
  refine j_icmp_ge (pc := 184) (t := 233) dX12_readText_184 (by decide) (fun c184 => ?_) (fun c184 => ?_)
  · replace H := H.1 c184
    refine j_iconst (pc := 233) (v := -1) dX12_readText_233 (by decide) ?_
    exact s_ireti (pc := 234) dX12_readText_234 rfl H
  · replace H := H.2 c184
    refine j_aload_n (pc := 187) dX12_readText_187 rfl ?_
    refine s_getr (pc := 188) dX12_readText_188 fl_X12_57 shp_55 rfl ?_
    refine j_bipush (pc := 191) (v := 61) dX12_readText_191 (by decide) ?_
    refine j_iload_n (pc := 193) dX12_readText_193 rfl ?_
    refine j_imul (pc := 194) dX12_readText_194 ?_
    refine j_iload_n (pc := 195) dX12_readText_195 rfl ?_
    refine j_iadd (pc := 196) dX12_readText_196 ?_
    refine j_aload_n (pc := 197) dX12_readText_197 rfl ?_
    refine s_getr (pc := 198) dX12_readText_198 fl_X12_57 shp_55 rfl ?_
    refine j_bipush (pc := 201) (v := 61) dX12_readText_201 (by decide) ?_
    refine j_iload_n (pc := 203) dX12_readText_203 rfl ?_
    refine j_iadd (pc := 204) dX12_readText_204 ?_
    have b205 := H.1
    replace H := H.2
    refine s_sald (pc := 205) (ar σ 69 ((61 + x2).toNatClampNeg)) dX12_readText_205 shp_69 b205 rfl ?_
    have b206 := H.1
    replace H := H.2
    refine s_sast (pc := 206) dX12_readText_206 shp_69 b206 ?_
    refine j_aload_n (pc := 207) dX12_readText_207 rfl ?_
    refine s_getr (pc := 208) dX12_readText_208 fl_X12_61 shp_55 rfl ?_
    refine j_bipush (pc := 211) (v := 61) dX12_readText_211 (by decide) ?_
    refine j_iload_n (pc := 213) dX12_readText_213 rfl ?_
    refine j_imul (pc := 214) dX12_readText_214 ?_
    refine j_iload_n (pc := 215) dX12_readText_215 rfl ?_
    refine j_iadd (pc := 216) dX12_readText_216 ?_
    refine j_aload_n (pc := 217) dX12_readText_217 rfl ?_
    refine s_getr (pc := 218) dX12_readText_218 fl_X12_61 shp_55 rfl ?_
    refine j_bipush (pc := 221) (v := 61) dX12_readText_221 (by decide) ?_
    refine j_iload_n (pc := 223) dX12_readText_223 rfl ?_
    refine j_iadd (pc := 224) dX12_readText_224 ?_
    have b225 := H.1
    replace H := H.2
    refine s_sald (pc := 225) (ar σ 70 ((61 + x2).toNatClampNeg)) dX12_readText_225 shp_70 b225 rfl ?_
    have b226 := H.1
    replace H := H.2
    refine s_sast (pc := 226) dX12_readText_226 shp_70 b226 ?_
    refine j_iinc (pc := 227) (k := 2) (v := x2 + 1) (lv1 := [(2, .int (x2 + 1)), (0, .ref 55), (1, .int x1)]) dX12_readText_227 rfl rfl (Nat.le_of_ble_eq_true rfl) rfl ?_
    refine j_goto (pc := 230) (t := 177) dX12_readText_230 (by decide) ?_
    refine j_sub [1, 2, 0] rfl ?_
    exact H
set_option maxRecDepth 20000 in
theorem b_X12_twoOf_0 {l : Launch} {g : am_G} {d : Nat} {σ : am_S} {k : Int32 → am_S → Prop}  {x0 x1 x2 : Int32} (H : (((x0.toInt < 37 ∨ 62 < x0.toInt) → ((¬ x1 = 0 → k 1 σ) ∧ (x1 = 0 → ((x2 = 0 → k 0 σ) ∧ (¬ x2 = 0 → k 1 σ))))) ∧ (x0 = 37 → ((x2 = 0 → k 0 σ) ∧ (¬ x2 = 0 → ((¬ x2 = (-1) → ((¬ x2 = 0) ∧ k (x1 - x1 / x2 * x2) σ)) ∧ (x2 = (-1) → k 0 σ))))) ∧ (x0 = 38 → ((x1 = 0 → k 0 σ) ∧ (¬ x1 = 0 → ((x2 = 0 → k 0 σ) ∧ (¬ x2 = 0 → k 1 σ))))) ∧ (x0 = 39 → ((¬ x1 = 0 → k 1 σ) ∧ (x1 = 0 → ((x2 = 0 → k 0 σ) ∧ (¬ x2 = 0 → k 1 σ))))) ∧ (x0 = 40 → ((¬ x1 = 0 → k 1 σ) ∧ (x1 = 0 → ((x2 = 0 → k 0 σ) ∧ (¬ x2 = 0 → k 1 σ))))) ∧ (x0 = 41 → ((¬ x1 = 0 → k 1 σ) ∧ (x1 = 0 → ((x2 = 0 → k 0 σ) ∧ (¬ x2 = 0 → k 1 σ))))) ∧ (x0 = 42 → k (x1 * x2) σ) ∧ (x0 = 43 → k (x1 + x2) σ) ∧ (x0 = 44 → ((¬ x1 = 0 → k 1 σ) ∧ (x1 = 0 → ((x2 = 0 → k 0 σ) ∧ (¬ x2 = 0 → k 1 σ))))) ∧ (x0 = 45 → k (x1 - x2) σ) ∧ (x0 = 46 → ((¬ x1 = 0 → k 1 σ) ∧ (x1 = 0 → ((x2 = 0 → k 0 σ) ∧ (¬ x2 = 0 → k 1 σ))))) ∧ (x0 = 47 → ((¬ x2 = 0 → ((¬ x2 = (-1) → ((¬ x2 = 0) ∧ k (x1 / x2) σ)) ∧ (x2 = (-1) → k (-x1) σ))) ∧ (x2 = 0 → k 0 σ))) ∧ (x0 = 48 → ((¬ x1 = 0 → k 1 σ) ∧ (x1 = 0 → ((x2 = 0 → k 0 σ) ∧ (¬ x2 = 0 → k 1 σ))))) ∧ (x0 = 49 → ((¬ x1 = 0 → k 1 σ) ∧ (x1 = 0 → ((x2 = 0 → k 0 σ) ∧ (¬ x2 = 0 → k 1 σ))))) ∧ (x0 = 50 → ((¬ x1 = 0 → k 1 σ) ∧ (x1 = 0 → ((x2 = 0 → k 0 σ) ∧ (¬ x2 = 0 → k 1 σ))))) ∧ (x0 = 51 → ((¬ x1 = 0 → k 1 σ) ∧ (x1 = 0 → ((x2 = 0 → k 0 σ) ∧ (¬ x2 = 0 → k 1 σ))))) ∧ (x0 = 52 → ((¬ x1 = 0 → k 1 σ) ∧ (x1 = 0 → ((x2 = 0 → k 0 σ) ∧ (¬ x2 = 0 → k 1 σ))))) ∧ (x0 = 53 → ((¬ x1 = 0 → k 1 σ) ∧ (x1 = 0 → ((x2 = 0 → k 0 σ) ∧ (¬ x2 = 0 → k 1 σ))))) ∧ (x0 = 54 → ((¬ x1 = 0 → k 1 σ) ∧ (x1 = 0 → ((x2 = 0 → k 0 σ) ∧ (¬ x2 = 0 → k 1 σ))))) ∧ (x0 = 55 → ((¬ x1 = 0 → k 1 σ) ∧ (x1 = 0 → ((x2 = 0 → k 0 σ) ∧ (¬ x2 = 0 → k 1 σ))))) ∧ (x0 = 56 → ((¬ x1 = 0 → k 1 σ) ∧ (x1 = 0 → ((x2 = 0 → k 0 σ) ∧ (¬ x2 = 0 → k 1 σ))))) ∧ (x0 = 57 → ((¬ x1 = 0 → k 1 σ) ∧ (x1 = 0 → ((x2 = 0 → k 0 σ) ∧ (¬ x2 = 0 → k 1 σ))))) ∧ (x0 = 58 → ((¬ x1 = 0 → k 1 σ) ∧ (x1 = 0 → ((x2 = 0 → k 0 σ) ∧ (¬ x2 = 0 → k 1 σ))))) ∧ (x0 = 59 → ((¬ x1 = 0 → k 1 σ) ∧ (x1 = 0 → ((x2 = 0 → k 0 σ) ∧ (¬ x2 = 0 → k 1 σ))))) ∧ (x0 = 60 → ((x2 ≤ x1 → k 0 σ) ∧ (¬ x2 ≤ x1 → k 1 σ))) ∧ (x0 = 61 → ((¬ x1 = x2 → k 0 σ) ∧ (x1 = x2 → k 1 σ))) ∧ (x0 = 62 → ((x1 ≤ x2 → k 0 σ) ∧ (¬ x1 ≤ x2 → k 1 σ))))) : CI l g M_X12_twoOf d [.int x0, .int x1, .int x2] σ k := by
  show J l g (M_X12_twoOf, d, 0, 0) 0 [(0, .int x0), (1, .int x1), (2, .int x2)] [] (hp σ) 0 0 (kI k)
  refine j_iload_n (pc := 0) dX12_twoOf_0 rfl ?_
  rcases sw_cases x0 37 62 with c1 | c1
  · replace H := H.1 c1
    refine j_tableOut (pc := 1) (t := 218) dX12_twoOf_1 c1 (by decide) ?_
    refine j_iload_n (pc := 218) dX12_twoOf_218 rfl ?_
    refine j_if_ne (pc := 219) (t := 226) dX12_twoOf_219 (by decide) (fun c219 => ?_) (fun c219 => ?_)
    · replace H := H.1 c219
      refine j_iconst (pc := 226) (v := 1) dX12_twoOf_226 (by decide) ?_
      refine j_goto (pc := 227) (t := 231) dX12_twoOf_227 (by decide) ?_
      exact s_ireti (pc := 231) dX12_twoOf_231 rfl H
    · replace H := H.2 c219
      refine j_iload_n (pc := 222) dX12_twoOf_222 rfl ?_
      refine j_if_eq (pc := 223) (t := 230) dX12_twoOf_223 (by decide) (fun c223 => ?_) (fun c223 => ?_)
      · replace H := H.1 c223
        refine j_iconst (pc := 230) (v := 0) dX12_twoOf_230 (by decide) ?_
        exact s_ireti (pc := 231) dX12_twoOf_231 rfl H
      · replace H := H.2 c223
        refine j_iconst (pc := 226) (v := 1) dX12_twoOf_226 (by decide) ?_
        refine j_goto (pc := 227) (t := 231) dX12_twoOf_227 (by decide) ?_
        exact s_ireti (pc := 231) dX12_twoOf_231 rfl H
  · replace H := H.2
    by_cases c1_0 : x0 = 37
    · replace H := H.1 c1_0
      refine j_tableIn (pc := 1) (t := 154) (off := 153) dX12_twoOf_1 (by rw [c1_0]; decide) (by rw [c1_0]; decide) (by rw [c1_0]; rfl) (by decide) ?_
      refine j_iload_n (pc := 154) dX12_twoOf_154 rfl ?_
      refine j_if_eq (pc := 155) (t := 163) dX12_twoOf_155 (by decide) (fun c155 => ?_) (fun c155 => ?_)
      · replace H := H.1 c155
        refine j_iconst (pc := 163) (v := 0) dX12_twoOf_163 (by decide) ?_
        refine j_goto (pc := 164) (t := 170) dX12_twoOf_164 (by decide) ?_
        exact s_ireti (pc := 170) dX12_twoOf_170 rfl H
      · replace H := H.2 c155
        refine j_iload_n (pc := 158) dX12_twoOf_158 rfl ?_
        refine j_iconst (pc := 159) (v := -1) dX12_twoOf_159 (by decide) ?_
        refine j_icmp_ne (pc := 160) (t := 167) dX12_twoOf_160 (by decide) (fun c160 => ?_) (fun c160 => ?_)
        · replace H := H.1 c160
          refine j_iload_n (pc := 167) dX12_twoOf_167 rfl ?_
          refine j_iload_n (pc := 168) dX12_twoOf_168 rfl ?_
          have c169 := H.1
          replace H := H.2
          refine j_irem (pc := 169) dX12_twoOf_169 c169 ?_
          exact s_ireti (pc := 170) dX12_twoOf_170 rfl H
        · replace H := H.2 c160
          refine j_iconst (pc := 163) (v := 0) dX12_twoOf_163 (by decide) ?_
          refine j_goto (pc := 164) (t := 170) dX12_twoOf_164 (by decide) ?_
          exact s_ireti (pc := 170) dX12_twoOf_170 rfl H
    by_cases c1_1 : x0 = 38
    · replace H := H.2.1 c1_1
      refine j_tableIn (pc := 1) (t := 204) (off := 203) dX12_twoOf_1 (by rw [c1_1]; decide) (by rw [c1_1]; decide) (by rw [c1_1]; rfl) (by decide) ?_
      refine j_iload_n (pc := 204) dX12_twoOf_204 rfl ?_
      refine j_if_eq (pc := 205) (t := 216) dX12_twoOf_205 (by decide) (fun c205 => ?_) (fun c205 => ?_)
      · replace H := H.1 c205
        refine j_iconst (pc := 216) (v := 0) dX12_twoOf_216 (by decide) ?_
        exact s_ireti (pc := 217) dX12_twoOf_217 rfl H
      · replace H := H.2 c205
        refine j_iload_n (pc := 208) dX12_twoOf_208 rfl ?_
        refine j_if_eq (pc := 209) (t := 216) dX12_twoOf_209 (by decide) (fun c209 => ?_) (fun c209 => ?_)
        · replace H := H.1 c209
          refine j_iconst (pc := 216) (v := 0) dX12_twoOf_216 (by decide) ?_
          exact s_ireti (pc := 217) dX12_twoOf_217 rfl H
        · replace H := H.2 c209
          refine j_iconst (pc := 212) (v := 1) dX12_twoOf_212 (by decide) ?_
          refine j_goto (pc := 213) (t := 217) dX12_twoOf_213 (by decide) ?_
          exact s_ireti (pc := 217) dX12_twoOf_217 rfl H
    by_cases c1_2 : x0 = 39
    · replace H := H.2.2.1 c1_2
      refine j_tableIn (pc := 1) (t := 218) (off := 217) dX12_twoOf_1 (by rw [c1_2]; decide) (by rw [c1_2]; decide) (by rw [c1_2]; rfl) (by decide) ?_
      refine j_iload_n (pc := 218) dX12_twoOf_218 rfl ?_
      refine j_if_ne (pc := 219) (t := 226) dX12_twoOf_219 (by decide) (fun c219 => ?_) (fun c219 => ?_)
      · replace H := H.1 c219
        refine j_iconst (pc := 226) (v := 1) dX12_twoOf_226 (by decide) ?_
        refine j_goto (pc := 227) (t := 231) dX12_twoOf_227 (by decide) ?_
        exact s_ireti (pc := 231) dX12_twoOf_231 rfl H
      · replace H := H.2 c219
        refine j_iload_n (pc := 222) dX12_twoOf_222 rfl ?_
        refine j_if_eq (pc := 223) (t := 230) dX12_twoOf_223 (by decide) (fun c223 => ?_) (fun c223 => ?_)
        · replace H := H.1 c223
          refine j_iconst (pc := 230) (v := 0) dX12_twoOf_230 (by decide) ?_
          exact s_ireti (pc := 231) dX12_twoOf_231 rfl H
        · replace H := H.2 c223
          refine j_iconst (pc := 226) (v := 1) dX12_twoOf_226 (by decide) ?_
          refine j_goto (pc := 227) (t := 231) dX12_twoOf_227 (by decide) ?_
          exact s_ireti (pc := 231) dX12_twoOf_231 rfl H
    by_cases c1_3 : x0 = 40
    · replace H := H.2.2.2.1 c1_3
      refine j_tableIn (pc := 1) (t := 218) (off := 217) dX12_twoOf_1 (by rw [c1_3]; decide) (by rw [c1_3]; decide) (by rw [c1_3]; rfl) (by decide) ?_
      refine j_iload_n (pc := 218) dX12_twoOf_218 rfl ?_
      refine j_if_ne (pc := 219) (t := 226) dX12_twoOf_219 (by decide) (fun c219 => ?_) (fun c219 => ?_)
      · replace H := H.1 c219
        refine j_iconst (pc := 226) (v := 1) dX12_twoOf_226 (by decide) ?_
        refine j_goto (pc := 227) (t := 231) dX12_twoOf_227 (by decide) ?_
        exact s_ireti (pc := 231) dX12_twoOf_231 rfl H
      · replace H := H.2 c219
        refine j_iload_n (pc := 222) dX12_twoOf_222 rfl ?_
        refine j_if_eq (pc := 223) (t := 230) dX12_twoOf_223 (by decide) (fun c223 => ?_) (fun c223 => ?_)
        · replace H := H.1 c223
          refine j_iconst (pc := 230) (v := 0) dX12_twoOf_230 (by decide) ?_
          exact s_ireti (pc := 231) dX12_twoOf_231 rfl H
        · replace H := H.2 c223
          refine j_iconst (pc := 226) (v := 1) dX12_twoOf_226 (by decide) ?_
          refine j_goto (pc := 227) (t := 231) dX12_twoOf_227 (by decide) ?_
          exact s_ireti (pc := 231) dX12_twoOf_231 rfl H
    by_cases c1_4 : x0 = 41
    · replace H := H.2.2.2.2.1 c1_4
      refine j_tableIn (pc := 1) (t := 218) (off := 217) dX12_twoOf_1 (by rw [c1_4]; decide) (by rw [c1_4]; decide) (by rw [c1_4]; rfl) (by decide) ?_
      refine j_iload_n (pc := 218) dX12_twoOf_218 rfl ?_
      refine j_if_ne (pc := 219) (t := 226) dX12_twoOf_219 (by decide) (fun c219 => ?_) (fun c219 => ?_)
      · replace H := H.1 c219
        refine j_iconst (pc := 226) (v := 1) dX12_twoOf_226 (by decide) ?_
        refine j_goto (pc := 227) (t := 231) dX12_twoOf_227 (by decide) ?_
        exact s_ireti (pc := 231) dX12_twoOf_231 rfl H
      · replace H := H.2 c219
        refine j_iload_n (pc := 222) dX12_twoOf_222 rfl ?_
        refine j_if_eq (pc := 223) (t := 230) dX12_twoOf_223 (by decide) (fun c223 => ?_) (fun c223 => ?_)
        · replace H := H.1 c223
          refine j_iconst (pc := 230) (v := 0) dX12_twoOf_230 (by decide) ?_
          exact s_ireti (pc := 231) dX12_twoOf_231 rfl H
        · replace H := H.2 c223
          refine j_iconst (pc := 226) (v := 1) dX12_twoOf_226 (by decide) ?_
          refine j_goto (pc := 227) (t := 231) dX12_twoOf_227 (by decide) ?_
          exact s_ireti (pc := 231) dX12_twoOf_231 rfl H
    by_cases c1_5 : x0 = 42
    · replace H := H.2.2.2.2.2.1 c1_5
      refine j_tableIn (pc := 1) (t := 128) (off := 127) dX12_twoOf_1 (by rw [c1_5]; decide) (by rw [c1_5]; decide) (by rw [c1_5]; rfl) (by decide) ?_
      refine j_iload_n (pc := 128) dX12_twoOf_128 rfl ?_
      refine j_iload_n (pc := 129) dX12_twoOf_129 rfl ?_
      refine j_imul (pc := 130) dX12_twoOf_130 ?_
      exact s_ireti (pc := 131) dX12_twoOf_131 rfl H
    by_cases c1_6 : x0 = 43
    · replace H := H.2.2.2.2.2.2.1 c1_6
      refine j_tableIn (pc := 1) (t := 120) (off := 119) dX12_twoOf_1 (by rw [c1_6]; decide) (by rw [c1_6]; decide) (by rw [c1_6]; rfl) (by decide) ?_
      refine j_iload_n (pc := 120) dX12_twoOf_120 rfl ?_
      refine j_iload_n (pc := 121) dX12_twoOf_121 rfl ?_
      refine j_iadd (pc := 122) dX12_twoOf_122 ?_
      exact s_ireti (pc := 123) dX12_twoOf_123 rfl H
    by_cases c1_7 : x0 = 44
    · replace H := H.2.2.2.2.2.2.2.1 c1_7
      refine j_tableIn (pc := 1) (t := 218) (off := 217) dX12_twoOf_1 (by rw [c1_7]; decide) (by rw [c1_7]; decide) (by rw [c1_7]; rfl) (by decide) ?_
      refine j_iload_n (pc := 218) dX12_twoOf_218 rfl ?_
      refine j_if_ne (pc := 219) (t := 226) dX12_twoOf_219 (by decide) (fun c219 => ?_) (fun c219 => ?_)
      · replace H := H.1 c219
        refine j_iconst (pc := 226) (v := 1) dX12_twoOf_226 (by decide) ?_
        refine j_goto (pc := 227) (t := 231) dX12_twoOf_227 (by decide) ?_
        exact s_ireti (pc := 231) dX12_twoOf_231 rfl H
      · replace H := H.2 c219
        refine j_iload_n (pc := 222) dX12_twoOf_222 rfl ?_
        refine j_if_eq (pc := 223) (t := 230) dX12_twoOf_223 (by decide) (fun c223 => ?_) (fun c223 => ?_)
        · replace H := H.1 c223
          refine j_iconst (pc := 230) (v := 0) dX12_twoOf_230 (by decide) ?_
          exact s_ireti (pc := 231) dX12_twoOf_231 rfl H
        · replace H := H.2 c223
          refine j_iconst (pc := 226) (v := 1) dX12_twoOf_226 (by decide) ?_
          refine j_goto (pc := 227) (t := 231) dX12_twoOf_227 (by decide) ?_
          exact s_ireti (pc := 231) dX12_twoOf_231 rfl H
    by_cases c1_8 : x0 = 45
    · replace H := H.2.2.2.2.2.2.2.2.1 c1_8
      refine j_tableIn (pc := 1) (t := 124) (off := 123) dX12_twoOf_1 (by rw [c1_8]; decide) (by rw [c1_8]; decide) (by rw [c1_8]; rfl) (by decide) ?_
      refine j_iload_n (pc := 124) dX12_twoOf_124 rfl ?_
      refine j_iload_n (pc := 125) dX12_twoOf_125 rfl ?_
      refine j_isub (pc := 126) dX12_twoOf_126 ?_
      exact s_ireti (pc := 127) dX12_twoOf_127 rfl H
    by_cases c1_9 : x0 = 46
    · replace H := H.2.2.2.2.2.2.2.2.2.1 c1_9
      refine j_tableIn (pc := 1) (t := 218) (off := 217) dX12_twoOf_1 (by rw [c1_9]; decide) (by rw [c1_9]; decide) (by rw [c1_9]; rfl) (by decide) ?_
      refine j_iload_n (pc := 218) dX12_twoOf_218 rfl ?_
      refine j_if_ne (pc := 219) (t := 226) dX12_twoOf_219 (by decide) (fun c219 => ?_) (fun c219 => ?_)
      · replace H := H.1 c219
        refine j_iconst (pc := 226) (v := 1) dX12_twoOf_226 (by decide) ?_
        refine j_goto (pc := 227) (t := 231) dX12_twoOf_227 (by decide) ?_
        exact s_ireti (pc := 231) dX12_twoOf_231 rfl H
      · replace H := H.2 c219
        refine j_iload_n (pc := 222) dX12_twoOf_222 rfl ?_
        refine j_if_eq (pc := 223) (t := 230) dX12_twoOf_223 (by decide) (fun c223 => ?_) (fun c223 => ?_)
        · replace H := H.1 c223
          refine j_iconst (pc := 230) (v := 0) dX12_twoOf_230 (by decide) ?_
          exact s_ireti (pc := 231) dX12_twoOf_231 rfl H
        · replace H := H.2 c223
          refine j_iconst (pc := 226) (v := 1) dX12_twoOf_226 (by decide) ?_
          refine j_goto (pc := 227) (t := 231) dX12_twoOf_227 (by decide) ?_
          exact s_ireti (pc := 231) dX12_twoOf_231 rfl H
    by_cases c1_10 : x0 = 47
    · replace H := H.2.2.2.2.2.2.2.2.2.2.1 c1_10
      refine j_tableIn (pc := 1) (t := 132) (off := 131) dX12_twoOf_1 (by rw [c1_10]; decide) (by rw [c1_10]; decide) (by rw [c1_10]; rfl) (by decide) ?_
      refine j_iload_n (pc := 132) dX12_twoOf_132 rfl ?_
      refine j_if_ne (pc := 133) (t := 140) dX12_twoOf_133 (by decide) (fun c133 => ?_) (fun c133 => ?_)
      · replace H := H.1 c133
        refine j_iload_n (pc := 140) dX12_twoOf_140 rfl ?_
        refine j_iconst (pc := 141) (v := -1) dX12_twoOf_141 (by decide) ?_
        refine j_icmp_ne (pc := 142) (t := 150) dX12_twoOf_142 (by decide) (fun c142 => ?_) (fun c142 => ?_)
        · replace H := H.1 c142
          refine j_iload_n (pc := 150) dX12_twoOf_150 rfl ?_
          refine j_iload_n (pc := 151) dX12_twoOf_151 rfl ?_
          have c152 := H.1
          replace H := H.2
          refine j_idiv (pc := 152) dX12_twoOf_152 c152 ?_
          exact s_ireti (pc := 153) dX12_twoOf_153 rfl H
        · replace H := H.2 c142
          refine j_iload_n (pc := 145) dX12_twoOf_145 rfl ?_
          refine j_ineg (pc := 146) dX12_twoOf_146 ?_
          refine j_goto (pc := 147) (t := 153) dX12_twoOf_147 (by decide) ?_
          exact s_ireti (pc := 153) dX12_twoOf_153 rfl H
      · replace H := H.2 c133
        refine j_iconst (pc := 136) (v := 0) dX12_twoOf_136 (by decide) ?_
        refine j_goto (pc := 137) (t := 153) dX12_twoOf_137 (by decide) ?_
        exact s_ireti (pc := 153) dX12_twoOf_153 rfl H
    by_cases c1_11 : x0 = 48
    · replace H := H.2.2.2.2.2.2.2.2.2.2.2.1 c1_11
      refine j_tableIn (pc := 1) (t := 218) (off := 217) dX12_twoOf_1 (by rw [c1_11]; decide) (by rw [c1_11]; decide) (by rw [c1_11]; rfl) (by decide) ?_
      refine j_iload_n (pc := 218) dX12_twoOf_218 rfl ?_
      refine j_if_ne (pc := 219) (t := 226) dX12_twoOf_219 (by decide) (fun c219 => ?_) (fun c219 => ?_)
      · replace H := H.1 c219
        refine j_iconst (pc := 226) (v := 1) dX12_twoOf_226 (by decide) ?_
        refine j_goto (pc := 227) (t := 231) dX12_twoOf_227 (by decide) ?_
        exact s_ireti (pc := 231) dX12_twoOf_231 rfl H
      · replace H := H.2 c219
        refine j_iload_n (pc := 222) dX12_twoOf_222 rfl ?_
        refine j_if_eq (pc := 223) (t := 230) dX12_twoOf_223 (by decide) (fun c223 => ?_) (fun c223 => ?_)
        · replace H := H.1 c223
          refine j_iconst (pc := 230) (v := 0) dX12_twoOf_230 (by decide) ?_
          exact s_ireti (pc := 231) dX12_twoOf_231 rfl H
        · replace H := H.2 c223
          refine j_iconst (pc := 226) (v := 1) dX12_twoOf_226 (by decide) ?_
          refine j_goto (pc := 227) (t := 231) dX12_twoOf_227 (by decide) ?_
          exact s_ireti (pc := 231) dX12_twoOf_231 rfl H
    by_cases c1_12 : x0 = 49
    · replace H := H.2.2.2.2.2.2.2.2.2.2.2.2.1 c1_12
      refine j_tableIn (pc := 1) (t := 218) (off := 217) dX12_twoOf_1 (by rw [c1_12]; decide) (by rw [c1_12]; decide) (by rw [c1_12]; rfl) (by decide) ?_
      refine j_iload_n (pc := 218) dX12_twoOf_218 rfl ?_
      refine j_if_ne (pc := 219) (t := 226) dX12_twoOf_219 (by decide) (fun c219 => ?_) (fun c219 => ?_)
      · replace H := H.1 c219
        refine j_iconst (pc := 226) (v := 1) dX12_twoOf_226 (by decide) ?_
        refine j_goto (pc := 227) (t := 231) dX12_twoOf_227 (by decide) ?_
        exact s_ireti (pc := 231) dX12_twoOf_231 rfl H
      · replace H := H.2 c219
        refine j_iload_n (pc := 222) dX12_twoOf_222 rfl ?_
        refine j_if_eq (pc := 223) (t := 230) dX12_twoOf_223 (by decide) (fun c223 => ?_) (fun c223 => ?_)
        · replace H := H.1 c223
          refine j_iconst (pc := 230) (v := 0) dX12_twoOf_230 (by decide) ?_
          exact s_ireti (pc := 231) dX12_twoOf_231 rfl H
        · replace H := H.2 c223
          refine j_iconst (pc := 226) (v := 1) dX12_twoOf_226 (by decide) ?_
          refine j_goto (pc := 227) (t := 231) dX12_twoOf_227 (by decide) ?_
          exact s_ireti (pc := 231) dX12_twoOf_231 rfl H
    by_cases c1_13 : x0 = 50
    · replace H := H.2.2.2.2.2.2.2.2.2.2.2.2.2.1 c1_13
      refine j_tableIn (pc := 1) (t := 218) (off := 217) dX12_twoOf_1 (by rw [c1_13]; decide) (by rw [c1_13]; decide) (by rw [c1_13]; rfl) (by decide) ?_
      refine j_iload_n (pc := 218) dX12_twoOf_218 rfl ?_
      refine j_if_ne (pc := 219) (t := 226) dX12_twoOf_219 (by decide) (fun c219 => ?_) (fun c219 => ?_)
      · replace H := H.1 c219
        refine j_iconst (pc := 226) (v := 1) dX12_twoOf_226 (by decide) ?_
        refine j_goto (pc := 227) (t := 231) dX12_twoOf_227 (by decide) ?_
        exact s_ireti (pc := 231) dX12_twoOf_231 rfl H
      · replace H := H.2 c219
        refine j_iload_n (pc := 222) dX12_twoOf_222 rfl ?_
        refine j_if_eq (pc := 223) (t := 230) dX12_twoOf_223 (by decide) (fun c223 => ?_) (fun c223 => ?_)
        · replace H := H.1 c223
          refine j_iconst (pc := 230) (v := 0) dX12_twoOf_230 (by decide) ?_
          exact s_ireti (pc := 231) dX12_twoOf_231 rfl H
        · replace H := H.2 c223
          refine j_iconst (pc := 226) (v := 1) dX12_twoOf_226 (by decide) ?_
          refine j_goto (pc := 227) (t := 231) dX12_twoOf_227 (by decide) ?_
          exact s_ireti (pc := 231) dX12_twoOf_231 rfl H
    by_cases c1_14 : x0 = 51
    · replace H := H.2.2.2.2.2.2.2.2.2.2.2.2.2.2.1 c1_14
      refine j_tableIn (pc := 1) (t := 218) (off := 217) dX12_twoOf_1 (by rw [c1_14]; decide) (by rw [c1_14]; decide) (by rw [c1_14]; rfl) (by decide) ?_
      refine j_iload_n (pc := 218) dX12_twoOf_218 rfl ?_
      refine j_if_ne (pc := 219) (t := 226) dX12_twoOf_219 (by decide) (fun c219 => ?_) (fun c219 => ?_)
      · replace H := H.1 c219
        refine j_iconst (pc := 226) (v := 1) dX12_twoOf_226 (by decide) ?_
        refine j_goto (pc := 227) (t := 231) dX12_twoOf_227 (by decide) ?_
        exact s_ireti (pc := 231) dX12_twoOf_231 rfl H
      · replace H := H.2 c219
        refine j_iload_n (pc := 222) dX12_twoOf_222 rfl ?_
        refine j_if_eq (pc := 223) (t := 230) dX12_twoOf_223 (by decide) (fun c223 => ?_) (fun c223 => ?_)
        · replace H := H.1 c223
          refine j_iconst (pc := 230) (v := 0) dX12_twoOf_230 (by decide) ?_
          exact s_ireti (pc := 231) dX12_twoOf_231 rfl H
        · replace H := H.2 c223
          refine j_iconst (pc := 226) (v := 1) dX12_twoOf_226 (by decide) ?_
          refine j_goto (pc := 227) (t := 231) dX12_twoOf_227 (by decide) ?_
          exact s_ireti (pc := 231) dX12_twoOf_231 rfl H
    by_cases c1_15 : x0 = 52
    · replace H := H.2.2.2.2.2.2.2.2.2.2.2.2.2.2.2.1 c1_15
      refine j_tableIn (pc := 1) (t := 218) (off := 217) dX12_twoOf_1 (by rw [c1_15]; decide) (by rw [c1_15]; decide) (by rw [c1_15]; rfl) (by decide) ?_
      refine j_iload_n (pc := 218) dX12_twoOf_218 rfl ?_
      refine j_if_ne (pc := 219) (t := 226) dX12_twoOf_219 (by decide) (fun c219 => ?_) (fun c219 => ?_)
      · replace H := H.1 c219
        refine j_iconst (pc := 226) (v := 1) dX12_twoOf_226 (by decide) ?_
        refine j_goto (pc := 227) (t := 231) dX12_twoOf_227 (by decide) ?_
        exact s_ireti (pc := 231) dX12_twoOf_231 rfl H
      · replace H := H.2 c219
        refine j_iload_n (pc := 222) dX12_twoOf_222 rfl ?_
        refine j_if_eq (pc := 223) (t := 230) dX12_twoOf_223 (by decide) (fun c223 => ?_) (fun c223 => ?_)
        · replace H := H.1 c223
          refine j_iconst (pc := 230) (v := 0) dX12_twoOf_230 (by decide) ?_
          exact s_ireti (pc := 231) dX12_twoOf_231 rfl H
        · replace H := H.2 c223
          refine j_iconst (pc := 226) (v := 1) dX12_twoOf_226 (by decide) ?_
          refine j_goto (pc := 227) (t := 231) dX12_twoOf_227 (by decide) ?_
          exact s_ireti (pc := 231) dX12_twoOf_231 rfl H
    by_cases c1_16 : x0 = 53
    · replace H := H.2.2.2.2.2.2.2.2.2.2.2.2.2.2.2.2.1 c1_16
      refine j_tableIn (pc := 1) (t := 218) (off := 217) dX12_twoOf_1 (by rw [c1_16]; decide) (by rw [c1_16]; decide) (by rw [c1_16]; rfl) (by decide) ?_
      refine j_iload_n (pc := 218) dX12_twoOf_218 rfl ?_
      refine j_if_ne (pc := 219) (t := 226) dX12_twoOf_219 (by decide) (fun c219 => ?_) (fun c219 => ?_)
      · replace H := H.1 c219
        refine j_iconst (pc := 226) (v := 1) dX12_twoOf_226 (by decide) ?_
        refine j_goto (pc := 227) (t := 231) dX12_twoOf_227 (by decide) ?_
        exact s_ireti (pc := 231) dX12_twoOf_231 rfl H
      · replace H := H.2 c219
        refine j_iload_n (pc := 222) dX12_twoOf_222 rfl ?_
        refine j_if_eq (pc := 223) (t := 230) dX12_twoOf_223 (by decide) (fun c223 => ?_) (fun c223 => ?_)
        · replace H := H.1 c223
          refine j_iconst (pc := 230) (v := 0) dX12_twoOf_230 (by decide) ?_
          exact s_ireti (pc := 231) dX12_twoOf_231 rfl H
        · replace H := H.2 c223
          refine j_iconst (pc := 226) (v := 1) dX12_twoOf_226 (by decide) ?_
          refine j_goto (pc := 227) (t := 231) dX12_twoOf_227 (by decide) ?_
          exact s_ireti (pc := 231) dX12_twoOf_231 rfl H
    by_cases c1_17 : x0 = 54
    · replace H := H.2.2.2.2.2.2.2.2.2.2.2.2.2.2.2.2.2.1 c1_17
      refine j_tableIn (pc := 1) (t := 218) (off := 217) dX12_twoOf_1 (by rw [c1_17]; decide) (by rw [c1_17]; decide) (by rw [c1_17]; rfl) (by decide) ?_
      refine j_iload_n (pc := 218) dX12_twoOf_218 rfl ?_
      refine j_if_ne (pc := 219) (t := 226) dX12_twoOf_219 (by decide) (fun c219 => ?_) (fun c219 => ?_)
      · replace H := H.1 c219
        refine j_iconst (pc := 226) (v := 1) dX12_twoOf_226 (by decide) ?_
        refine j_goto (pc := 227) (t := 231) dX12_twoOf_227 (by decide) ?_
        exact s_ireti (pc := 231) dX12_twoOf_231 rfl H
      · replace H := H.2 c219
        refine j_iload_n (pc := 222) dX12_twoOf_222 rfl ?_
        refine j_if_eq (pc := 223) (t := 230) dX12_twoOf_223 (by decide) (fun c223 => ?_) (fun c223 => ?_)
        · replace H := H.1 c223
          refine j_iconst (pc := 230) (v := 0) dX12_twoOf_230 (by decide) ?_
          exact s_ireti (pc := 231) dX12_twoOf_231 rfl H
        · replace H := H.2 c223
          refine j_iconst (pc := 226) (v := 1) dX12_twoOf_226 (by decide) ?_
          refine j_goto (pc := 227) (t := 231) dX12_twoOf_227 (by decide) ?_
          exact s_ireti (pc := 231) dX12_twoOf_231 rfl H
    by_cases c1_18 : x0 = 55
    · replace H := H.2.2.2.2.2.2.2.2.2.2.2.2.2.2.2.2.2.2.1 c1_18
      refine j_tableIn (pc := 1) (t := 218) (off := 217) dX12_twoOf_1 (by rw [c1_18]; decide) (by rw [c1_18]; decide) (by rw [c1_18]; rfl) (by decide) ?_
      refine j_iload_n (pc := 218) dX12_twoOf_218 rfl ?_
      refine j_if_ne (pc := 219) (t := 226) dX12_twoOf_219 (by decide) (fun c219 => ?_) (fun c219 => ?_)
      · replace H := H.1 c219
        refine j_iconst (pc := 226) (v := 1) dX12_twoOf_226 (by decide) ?_
        refine j_goto (pc := 227) (t := 231) dX12_twoOf_227 (by decide) ?_
        exact s_ireti (pc := 231) dX12_twoOf_231 rfl H
      · replace H := H.2 c219
        refine j_iload_n (pc := 222) dX12_twoOf_222 rfl ?_
        refine j_if_eq (pc := 223) (t := 230) dX12_twoOf_223 (by decide) (fun c223 => ?_) (fun c223 => ?_)
        · replace H := H.1 c223
          refine j_iconst (pc := 230) (v := 0) dX12_twoOf_230 (by decide) ?_
          exact s_ireti (pc := 231) dX12_twoOf_231 rfl H
        · replace H := H.2 c223
          refine j_iconst (pc := 226) (v := 1) dX12_twoOf_226 (by decide) ?_
          refine j_goto (pc := 227) (t := 231) dX12_twoOf_227 (by decide) ?_
          exact s_ireti (pc := 231) dX12_twoOf_231 rfl H
    by_cases c1_19 : x0 = 56
    · replace H := H.2.2.2.2.2.2.2.2.2.2.2.2.2.2.2.2.2.2.2.1 c1_19
      refine j_tableIn (pc := 1) (t := 218) (off := 217) dX12_twoOf_1 (by rw [c1_19]; decide) (by rw [c1_19]; decide) (by rw [c1_19]; rfl) (by decide) ?_
      refine j_iload_n (pc := 218) dX12_twoOf_218 rfl ?_
      refine j_if_ne (pc := 219) (t := 226) dX12_twoOf_219 (by decide) (fun c219 => ?_) (fun c219 => ?_)
      · replace H := H.1 c219
        refine j_iconst (pc := 226) (v := 1) dX12_twoOf_226 (by decide) ?_
        refine j_goto (pc := 227) (t := 231) dX12_twoOf_227 (by decide) ?_
        exact s_ireti (pc := 231) dX12_twoOf_231 rfl H
      · replace H := H.2 c219
        refine j_iload_n (pc := 222) dX12_twoOf_222 rfl ?_
        refine j_if_eq (pc := 223) (t := 230) dX12_twoOf_223 (by decide) (fun c223 => ?_) (fun c223 => ?_)
        · replace H := H.1 c223
          refine j_iconst (pc := 230) (v := 0) dX12_twoOf_230 (by decide) ?_
          exact s_ireti (pc := 231) dX12_twoOf_231 rfl H
        · replace H := H.2 c223
          refine j_iconst (pc := 226) (v := 1) dX12_twoOf_226 (by decide) ?_
          refine j_goto (pc := 227) (t := 231) dX12_twoOf_227 (by decide) ?_
          exact s_ireti (pc := 231) dX12_twoOf_231 rfl H
    by_cases c1_20 : x0 = 57
    · replace H := H.2.2.2.2.2.2.2.2.2.2.2.2.2.2.2.2.2.2.2.2.1 c1_20
      refine j_tableIn (pc := 1) (t := 218) (off := 217) dX12_twoOf_1 (by rw [c1_20]; decide) (by rw [c1_20]; decide) (by rw [c1_20]; rfl) (by decide) ?_
      refine j_iload_n (pc := 218) dX12_twoOf_218 rfl ?_
      refine j_if_ne (pc := 219) (t := 226) dX12_twoOf_219 (by decide) (fun c219 => ?_) (fun c219 => ?_)
      · replace H := H.1 c219
        refine j_iconst (pc := 226) (v := 1) dX12_twoOf_226 (by decide) ?_
        refine j_goto (pc := 227) (t := 231) dX12_twoOf_227 (by decide) ?_
        exact s_ireti (pc := 231) dX12_twoOf_231 rfl H
      · replace H := H.2 c219
        refine j_iload_n (pc := 222) dX12_twoOf_222 rfl ?_
        refine j_if_eq (pc := 223) (t := 230) dX12_twoOf_223 (by decide) (fun c223 => ?_) (fun c223 => ?_)
        · replace H := H.1 c223
          refine j_iconst (pc := 230) (v := 0) dX12_twoOf_230 (by decide) ?_
          exact s_ireti (pc := 231) dX12_twoOf_231 rfl H
        · replace H := H.2 c223
          refine j_iconst (pc := 226) (v := 1) dX12_twoOf_226 (by decide) ?_
          refine j_goto (pc := 227) (t := 231) dX12_twoOf_227 (by decide) ?_
          exact s_ireti (pc := 231) dX12_twoOf_231 rfl H
    by_cases c1_21 : x0 = 58
    · replace H := H.2.2.2.2.2.2.2.2.2.2.2.2.2.2.2.2.2.2.2.2.2.1 c1_21
      refine j_tableIn (pc := 1) (t := 218) (off := 217) dX12_twoOf_1 (by rw [c1_21]; decide) (by rw [c1_21]; decide) (by rw [c1_21]; rfl) (by decide) ?_
      refine j_iload_n (pc := 218) dX12_twoOf_218 rfl ?_
      refine j_if_ne (pc := 219) (t := 226) dX12_twoOf_219 (by decide) (fun c219 => ?_) (fun c219 => ?_)
      · replace H := H.1 c219
        refine j_iconst (pc := 226) (v := 1) dX12_twoOf_226 (by decide) ?_
        refine j_goto (pc := 227) (t := 231) dX12_twoOf_227 (by decide) ?_
        exact s_ireti (pc := 231) dX12_twoOf_231 rfl H
      · replace H := H.2 c219
        refine j_iload_n (pc := 222) dX12_twoOf_222 rfl ?_
        refine j_if_eq (pc := 223) (t := 230) dX12_twoOf_223 (by decide) (fun c223 => ?_) (fun c223 => ?_)
        · replace H := H.1 c223
          refine j_iconst (pc := 230) (v := 0) dX12_twoOf_230 (by decide) ?_
          exact s_ireti (pc := 231) dX12_twoOf_231 rfl H
        · replace H := H.2 c223
          refine j_iconst (pc := 226) (v := 1) dX12_twoOf_226 (by decide) ?_
          refine j_goto (pc := 227) (t := 231) dX12_twoOf_227 (by decide) ?_
          exact s_ireti (pc := 231) dX12_twoOf_231 rfl H
    by_cases c1_22 : x0 = 59
    · replace H := H.2.2.2.2.2.2.2.2.2.2.2.2.2.2.2.2.2.2.2.2.2.2.1 c1_22
      refine j_tableIn (pc := 1) (t := 218) (off := 217) dX12_twoOf_1 (by rw [c1_22]; decide) (by rw [c1_22]; decide) (by rw [c1_22]; rfl) (by decide) ?_
      refine j_iload_n (pc := 218) dX12_twoOf_218 rfl ?_
      refine j_if_ne (pc := 219) (t := 226) dX12_twoOf_219 (by decide) (fun c219 => ?_) (fun c219 => ?_)
      · replace H := H.1 c219
        refine j_iconst (pc := 226) (v := 1) dX12_twoOf_226 (by decide) ?_
        refine j_goto (pc := 227) (t := 231) dX12_twoOf_227 (by decide) ?_
        exact s_ireti (pc := 231) dX12_twoOf_231 rfl H
      · replace H := H.2 c219
        refine j_iload_n (pc := 222) dX12_twoOf_222 rfl ?_
        refine j_if_eq (pc := 223) (t := 230) dX12_twoOf_223 (by decide) (fun c223 => ?_) (fun c223 => ?_)
        · replace H := H.1 c223
          refine j_iconst (pc := 230) (v := 0) dX12_twoOf_230 (by decide) ?_
          exact s_ireti (pc := 231) dX12_twoOf_231 rfl H
        · replace H := H.2 c223
          refine j_iconst (pc := 226) (v := 1) dX12_twoOf_226 (by decide) ?_
          refine j_goto (pc := 227) (t := 231) dX12_twoOf_227 (by decide) ?_
          exact s_ireti (pc := 231) dX12_twoOf_231 rfl H
    by_cases c1_23 : x0 = 60
    · replace H := H.2.2.2.2.2.2.2.2.2.2.2.2.2.2.2.2.2.2.2.2.2.2.2.1 c1_23
      refine j_tableIn (pc := 1) (t := 171) (off := 170) dX12_twoOf_1 (by rw [c1_23]; decide) (by rw [c1_23]; decide) (by rw [c1_23]; rfl) (by decide) ?_
      refine j_iload_n (pc := 171) dX12_twoOf_171 rfl ?_
      refine j_iload_n (pc := 172) dX12_twoOf_172 rfl ?_
      refine j_icmp_ge (pc := 173) (t := 180) dX12_twoOf_173 (by decide) (fun c173 => ?_) (fun c173 => ?_)
      · replace H := H.1 c173
        refine j_iconst (pc := 180) (v := 0) dX12_twoOf_180 (by decide) ?_
        exact s_ireti (pc := 181) dX12_twoOf_181 rfl H
      · replace H := H.2 c173
        refine j_iconst (pc := 176) (v := 1) dX12_twoOf_176 (by decide) ?_
        refine j_goto (pc := 177) (t := 181) dX12_twoOf_177 (by decide) ?_
        exact s_ireti (pc := 181) dX12_twoOf_181 rfl H
    by_cases c1_24 : x0 = 61
    · replace H := H.2.2.2.2.2.2.2.2.2.2.2.2.2.2.2.2.2.2.2.2.2.2.2.2.1 c1_24
      refine j_tableIn (pc := 1) (t := 182) (off := 181) dX12_twoOf_1 (by rw [c1_24]; decide) (by rw [c1_24]; decide) (by rw [c1_24]; rfl) (by decide) ?_
      refine j_iload_n (pc := 182) dX12_twoOf_182 rfl ?_
      refine j_iload_n (pc := 183) dX12_twoOf_183 rfl ?_
      refine j_icmp_ne (pc := 184) (t := 191) dX12_twoOf_184 (by decide) (fun c184 => ?_) (fun c184 => ?_)
      · replace H := H.1 c184
        refine j_iconst (pc := 191) (v := 0) dX12_twoOf_191 (by decide) ?_
        exact s_ireti (pc := 192) dX12_twoOf_192 rfl H
      · replace H := H.2 c184
        refine j_iconst (pc := 187) (v := 1) dX12_twoOf_187 (by decide) ?_
        refine j_goto (pc := 188) (t := 192) dX12_twoOf_188 (by decide) ?_
        exact s_ireti (pc := 192) dX12_twoOf_192 rfl H
    by_cases c1_25 : x0 = 62
    · replace H := H.2.2.2.2.2.2.2.2.2.2.2.2.2.2.2.2.2.2.2.2.2.2.2.2.2 c1_25
      refine j_tableIn (pc := 1) (t := 193) (off := 192) dX12_twoOf_1 (by rw [c1_25]; decide) (by rw [c1_25]; decide) (by rw [c1_25]; rfl) (by decide) ?_
      refine j_iload_n (pc := 193) dX12_twoOf_193 rfl ?_
      refine j_iload_n (pc := 194) dX12_twoOf_194 rfl ?_
      refine j_icmp_le (pc := 195) (t := 202) dX12_twoOf_195 (by decide) (fun c195 => ?_) (fun c195 => ?_)
      · replace H := H.1 c195
        refine j_iconst (pc := 202) (v := 0) dX12_twoOf_202 (by decide) ?_
        exact s_ireti (pc := 203) dX12_twoOf_203 rfl H
      · replace H := H.2 c195
        refine j_iconst (pc := 198) (v := 1) dX12_twoOf_198 (by decide) ?_
        refine j_goto (pc := 199) (t := 203) dX12_twoOf_199 (by decide) ?_
        exact s_ireti (pc := 203) dX12_twoOf_203 rfl H
    exact (sw_end_37_62 c1 c1_0 c1_1 c1_2 c1_3 c1_4 c1_5 c1_6 c1_7 c1_8 c1_9 c1_10 c1_11 c1_12 c1_13 c1_14 c1_15 c1_16 c1_17 c1_18 c1_19 c1_20 c1_21 c1_22 c1_23 c1_24 c1_25).elim
set_option maxRecDepth 20000 in
theorem b_X12_worked_0 {l : Launch} {g : am_G} {d : Nat} {σ : am_S} {k : Int32 → am_S → Prop}  {x1 x2 x3 : Int32} (H : JI l g M_X12_worked d 12 [(0, .ref 55), (1, .int x1), (2, .int x2), (3, .int x3), (4, .int 0), (5, .int ((130 * x1) + x2))] [] σ k) : CI l g M_X12_worked d [.ref 55, .int x1, .int x2, .int x3] σ k := by
  show J l g (M_X12_worked, d, 0, 0) 0 [(0, .ref 55), (1, .int x1), (2, .int x2), (3, .int x3)] [] (hp σ) 0 0 (kI k)
  refine j_iconst (pc := 0) (v := 0) dX12_worked_0 (by decide) ?_
  refine j_istore (pc := 1) (lv1 := [(4, .int 0), (0, .ref 55), (1, .int x1), (2, .int x2), (3, .int x3)]) dX12_worked_1 (Nat.le_of_ble_eq_true rfl) rfl ?_
  refine j_sipush (pc := 3) (v := 130) dX12_worked_3 (by decide) ?_
  refine j_iload_n (pc := 6) dX12_worked_6 rfl ?_
  refine j_imul (pc := 7) dX12_worked_7 ?_
  refine j_iload_n (pc := 8) dX12_worked_8 rfl ?_
  refine j_iadd (pc := 9) dX12_worked_9 ?_
  refine j_istore (pc := 10) (lv1 := [(5, .int ((130 * x1) + x2)), (4, .int 0), (0, .ref 55), (1, .int x1), (2, .int x2), (3, .int x3)]) dX12_worked_10 (Nat.le_of_ble_eq_true rfl) rfl ?_
  refine j_sub [2, 3, 4, 5, 1, 0] rfl ?_
  exact H
set_option maxRecDepth 20000 in
theorem b_X12_worked_12 {l : Launch} {g : am_G} {d : Nat} {σ : am_S} {k : Int32 → am_S → Prop}  {x1 x2 x3 x4 x5 : Int32} (hd : 1 ≤ d) (H : (((130 * x1) + x3 ≤ x5 → k (ar σ 72 0) σ) ∧ (¬ (130 * x1) + x3 ≤ x5 → (vp_in x5 260 ∧ ((ar σ 66 x5.toNatClampNeg = 1 → ((¬ ar σ 66 x5.toNatClampNeg = 1 → (vp_in x5 260 ∧ (vp_in (ar σ 67 x5.toNatClampNeg) 6 ∧ (vp_in x4 130 ∧ JI l g M_X12_worked d 12 [(0, .ref 55), (1, .int x1), (2, .int x2), (3, .int x3), (4, .int (x4 + 1)), (5, .int (x5 + 1))] [] (sA σ 72 x4.toNatClampNeg (ar σ 71 ((ar σ 67 x5.toNatClampNeg).toNatClampNeg))) k)))) ∧ (ar σ 66 x5.toNatClampNeg = 1 → (vp_in x5 260 ∧ (vp_in x4 130 ∧ JI l g M_X12_worked d 12 [(0, .ref 55), (1, .int x1), (2, .int x2), (3, .int x3), (4, .int (x4 + 1)), (5, .int (x5 + 1))] [] (sA σ 72 x4.toNatClampNeg (ar σ 67 x5.toNatClampNeg)) k))))) ∧ (¬ ar σ 66 x5.toNatClampNeg = 1 → ((¬ ar σ 66 x5.toNatClampNeg = 2 → ((¬ ar σ 66 x5.toNatClampNeg = 3 → ((¬ ar σ 66 x5.toNatClampNeg = 4 → (vp_in ((x4 + (-1)) - 1) 130 ∧ (vp_in (x4 + (-1)) 130 ∧ CI l g M_X12_twoOf (d - 1) [.int (ar σ 66 x5.toNatClampNeg), .int (ar σ 72 (((x4 + (-1)) - 1).toNatClampNeg)), .int (ar σ 72 ((x4 + (-1)).toNatClampNeg))] σ (fun r1 σ1 => (vp_in ((x4 + (-1)) - 1) 130 ∧ JI l g M_X12_worked d 12 [(0, .ref 55), (1, .int x1), (2, .int x2), (3, .int x3), (4, .int (x4 + (-1))), (5, .int (x5 + 1))] [] (sA σ1 72 (((x4 + (-1)) - 1).toNatClampNeg) r1) k))))) ∧ (ar σ 66 x5.toNatClampNeg = 4 → (vp_in (x4 - 1) 130 ∧ (vp_in (x4 - 1) 130 ∧ JI l g M_X12_worked d 12 [(0, .ref 55), (1, .int x1), (2, .int x2), (3, .int x3), (4, .int x4), (5, .int (x5 + 1))] [] (sA σ 72 ((x4 - 1).toNatClampNeg) (-(ar σ 72 ((x4 - 1).toNatClampNeg)))) k))))) ∧ (ar σ 66 x5.toNatClampNeg = 3 → (vp_in (x4 - 1) 130 ∧ ((¬ ar σ 72 ((x4 - 1).toNatClampNeg) = 0 → (vp_in (x4 - 1) 130 ∧ JI l g M_X12_worked d 12 [(0, .ref 55), (1, .int x1), (2, .int x2), (3, .int x3), (4, .int x4), (5, .int (x5 + 1))] [] (sA σ 72 ((x4 - 1).toNatClampNeg) 0) k)) ∧ (ar σ 72 ((x4 - 1).toNatClampNeg) = 0 → (vp_in (x4 - 1) 130 ∧ JI l g M_X12_worked d 12 [(0, .ref 55), (1, .int x1), (2, .int x2), (3, .int x3), (4, .int x4), (5, .int (x5 + 1))] [] (sA σ 72 ((x4 - 1).toNatClampNeg) 1) k))))))) ∧ (ar σ 66 x5.toNatClampNeg = 2 → ((¬ ar σ 66 x5.toNatClampNeg = 1 → (vp_in x5 260 ∧ (vp_in (ar σ 67 x5.toNatClampNeg) 6 ∧ (vp_in x4 130 ∧ JI l g M_X12_worked d 12 [(0, .ref 55), (1, .int x1), (2, .int x2), (3, .int x3), (4, .int (x4 + 1)), (5, .int (x5 + 1))] [] (sA σ 72 x4.toNatClampNeg (ar σ 71 ((ar σ 67 x5.toNatClampNeg).toNatClampNeg))) k)))) ∧ (ar σ 66 x5.toNatClampNeg = 1 → (vp_in x5 260 ∧ (vp_in x4 130 ∧ JI l g M_X12_worked d 12 [(0, .ref 55), (1, .int x1), (2, .int x2), (3, .int x3), (4, .int (x4 + 1)), (5, .int (x5 + 1))] [] (sA σ 72 x4.toNatClampNeg (ar σ 67 x5.toNatClampNeg)) k)))))))))))) : JI l g M_X12_worked d 12 [(0, .ref 55), (1, .int x1), (2, .int x2), (3, .int x3), (4, .int x4), (5, .int x5)] [] σ k := by
  show J l g (M_X12_worked, d, 0, 0) 12 [(0, .ref 55), (1, .int x1), (2, .int x2), (3, .int x3), (4, .int x4), (5, .int x5)] [] (hp σ) 0 0 (kI k)
  refine j_iload (pc := 12) dX12_worked_12 rfl ?_
  refine j_sipush (pc := 14) (v := 130) dX12_worked_14 (by decide) ?_
  refine j_iload_n (pc := 17) dX12_worked_17 rfl ?_
  refine j_imul (pc := 18) dX12_worked_18 ?_
  refine j_iload_n (pc := 19) dX12_worked_19 rfl ?_
  refine j_iadd (pc := 20) dX12_worked_20 ?_
  refine j_icmp_ge (pc := 21) (t := 188) dX12_worked_21 (by decide) (fun c21 => ?_) (fun c21 => ?_)
  · replace H := H.1 c21
    refine j_aload_n (pc := 188) dX12_worked_188 rfl ?_
    refine s_getr (pc := 189) dX12_worked_189 fl_X12_67 shp_55 rfl ?_
    refine j_iconst (pc := 192) (v := 0) dX12_worked_192 (by decide) ?_
    refine s_iald (pc := 193) (ar σ 72 0) dX12_worked_193 shp_72 (by unfold vp_in; decide) rfl ?_
    exact s_ireti (pc := 194) dX12_worked_194 rfl H
  · replace H := H.2 c21
    refine j_aload_n (pc := 24) dX12_worked_24 rfl ?_
    refine s_getr (pc := 25) dX12_worked_25 fl_X12_48 shp_55 rfl ?_
    refine j_iload (pc := 28) dX12_worked_28 rfl ?_
    have b30 := H.1
    replace H := H.2
    refine s_bald (pc := 30) (ar σ 66 x5.toNatClampNeg) dX12_worked_30 shp_66 b30 rfl ?_
    refine j_istore (pc := 31) (lv1 := [(6, .int (ar σ 66 x5.toNatClampNeg)), (0, .ref 55), (1, .int x1), (2, .int x2), (3, .int x3), (4, .int x4), (5, .int x5)]) dX12_worked_31 (Nat.le_of_ble_eq_true rfl) rfl ?_
    refine j_iload (pc := 33) dX12_worked_33 rfl ?_
    refine j_iconst (pc := 35) (v := 1) dX12_worked_35 (by decide) ?_
    refine j_icmp_eq (pc := 36) (t := 45) dX12_worked_36 (by decide) (fun c36 => ?_) (fun c36 => ?_)
    · replace H := H.1 c36
      refine j_aload_n (pc := 45) dX12_worked_45 rfl ?_
      refine s_getr (pc := 46) dX12_worked_46 fl_X12_67 shp_55 rfl ?_
      refine j_iload (pc := 49) dX12_worked_49 rfl ?_
      refine j_iload (pc := 51) dX12_worked_51 rfl ?_
      refine j_iconst (pc := 53) (v := 1) dX12_worked_53 (by decide) ?_
      refine j_icmp_ne (pc := 54) (t := 67) dX12_worked_54 (by decide) (fun c54 => ?_) (fun c54 => ?_)
      · replace H := H.1 c54
        refine j_aload_n (pc := 67) dX12_worked_67 rfl ?_
        refine s_getr (pc := 68) dX12_worked_68 fl_X12_64 shp_55 rfl ?_
        refine j_aload_n (pc := 71) dX12_worked_71 rfl ?_
        refine s_getr (pc := 72) dX12_worked_72 fl_X12_51 shp_55 rfl ?_
        refine j_iload (pc := 75) dX12_worked_75 rfl ?_
        have b77 := H.1
        replace H := H.2
        refine s_iald (pc := 77) (ar σ 67 x5.toNatClampNeg) dX12_worked_77 shp_67 b77 rfl ?_
        have b78 := H.1
        replace H := H.2
        refine s_iald (pc := 78) (ar σ 71 ((ar σ 67 x5.toNatClampNeg).toNatClampNeg)) dX12_worked_78 shp_71 b78 rfl ?_
        have b79 := H.1
        replace H := H.2
        refine s_iast (pc := 79) dX12_worked_79 shp_72 b79 ?_
        refine j_iinc (pc := 80) (k := 5) (v := x4 + 1) (lv1 := [(4, .int (x4 + 1)), (6, .int (ar σ 66 x5.toNatClampNeg)), (0, .ref 55), (1, .int x1), (2, .int x2), (3, .int x3), (5, .int x5)]) dX12_worked_80 rfl rfl (Nat.le_of_ble_eq_true rfl) rfl ?_
        refine j_goto (pc := 83) (t := 182) dX12_worked_83 (by decide) ?_
        refine j_iinc (pc := 182) (k := 6) (v := x5 + 1) (lv1 := [(5, .int (x5 + 1)), (4, .int (x4 + 1)), (6, .int (ar σ 66 x5.toNatClampNeg)), (0, .ref 55), (1, .int x1), (2, .int x2), (3, .int x3)]) dX12_worked_182 rfl rfl (Nat.le_of_ble_eq_true rfl) rfl ?_
        refine j_goto (pc := 185) (t := 12) dX12_worked_185 (by decide) ?_
        refine j_sub [3, 4, 5, 6, 1, 0] rfl ?_
        exact H
      · replace H := H.2 c54
        refine j_aload_n (pc := 57) dX12_worked_57 rfl ?_
        refine s_getr (pc := 58) dX12_worked_58 fl_X12_51 shp_55 rfl ?_
        refine j_iload (pc := 61) dX12_worked_61 rfl ?_
        have b63 := H.1
        replace H := H.2
        refine s_iald (pc := 63) (ar σ 67 x5.toNatClampNeg) dX12_worked_63 shp_67 b63 rfl ?_
        refine j_goto (pc := 64) (t := 79) dX12_worked_64 (by decide) ?_
        have b79 := H.1
        replace H := H.2
        refine s_iast (pc := 79) dX12_worked_79 shp_72 b79 ?_
        refine j_iinc (pc := 80) (k := 5) (v := x4 + 1) (lv1 := [(4, .int (x4 + 1)), (6, .int (ar σ 66 x5.toNatClampNeg)), (0, .ref 55), (1, .int x1), (2, .int x2), (3, .int x3), (5, .int x5)]) dX12_worked_80 rfl rfl (Nat.le_of_ble_eq_true rfl) rfl ?_
        refine j_goto (pc := 83) (t := 182) dX12_worked_83 (by decide) ?_
        refine j_iinc (pc := 182) (k := 6) (v := x5 + 1) (lv1 := [(5, .int (x5 + 1)), (4, .int (x4 + 1)), (6, .int (ar σ 66 x5.toNatClampNeg)), (0, .ref 55), (1, .int x1), (2, .int x2), (3, .int x3)]) dX12_worked_182 rfl rfl (Nat.le_of_ble_eq_true rfl) rfl ?_
        refine j_goto (pc := 185) (t := 12) dX12_worked_185 (by decide) ?_
        refine j_sub [3, 4, 5, 6, 1, 0] rfl ?_
        exact H
    · replace H := H.2 c36
      refine j_iload (pc := 39) dX12_worked_39 rfl ?_
      refine j_iconst (pc := 41) (v := 2) dX12_worked_41 (by decide) ?_
      refine j_icmp_ne (pc := 42) (t := 86) dX12_worked_42 (by decide) (fun c42 => ?_) (fun c42 => ?_)
      · replace H := H.1 c42
        refine j_iload (pc := 86) dX12_worked_86 rfl ?_
        refine j_iconst (pc := 88) (v := 3) dX12_worked_88 (by decide) ?_
        refine j_icmp_ne (pc := 89) (t := 121) dX12_worked_89 (by decide) (fun c89 => ?_) (fun c89 => ?_)
        · replace H := H.1 c89
          refine j_iload (pc := 121) dX12_worked_121 rfl ?_
          refine j_iconst (pc := 123) (v := 4) dX12_worked_123 (by decide) ?_
          refine j_icmp_ne (pc := 124) (t := 149) dX12_worked_124 (by decide) (fun c124 => ?_) (fun c124 => ?_)
          · replace H := H.1 c124
            refine j_iinc (pc := 149) (k := 5) (v := x4 + (-1)) (lv1 := [(4, .int (x4 + (-1))), (6, .int (ar σ 66 x5.toNatClampNeg)), (0, .ref 55), (1, .int x1), (2, .int x2), (3, .int x3), (5, .int x5)]) dX12_worked_149 rfl rfl (Nat.le_of_ble_eq_true rfl) rfl ?_
            refine j_aload_n (pc := 152) dX12_worked_152 rfl ?_
            refine s_getr (pc := 153) dX12_worked_153 fl_X12_67 shp_55 rfl ?_
            refine j_iload (pc := 156) dX12_worked_156 rfl ?_
            refine j_iconst (pc := 158) (v := 1) dX12_worked_158 (by decide) ?_
            refine j_isub (pc := 159) dX12_worked_159 ?_
            refine j_iload (pc := 160) dX12_worked_160 rfl ?_
            refine j_aload_n (pc := 162) dX12_worked_162 rfl ?_
            refine s_getr (pc := 163) dX12_worked_163 fl_X12_67 shp_55 rfl ?_
            refine j_iload (pc := 166) dX12_worked_166 rfl ?_
            refine j_iconst (pc := 168) (v := 1) dX12_worked_168 (by decide) ?_
            refine j_isub (pc := 169) dX12_worked_169 ?_
            have b170 := H.1
            replace H := H.2
            refine s_iald (pc := 170) (ar σ 72 (((x4 + (-1)) - 1).toNatClampNeg)) dX12_worked_170 shp_72 b170 rfl ?_
            refine j_aload_n (pc := 171) dX12_worked_171 rfl ?_
            refine s_getr (pc := 172) dX12_worked_172 fl_X12_67 shp_55 rfl ?_
            refine j_iload (pc := 175) dX12_worked_175 rfl ?_
            have b177 := H.1
            replace H := H.2
            refine s_iald (pc := 177) (ar σ 72 ((x4 + (-1)).toNatClampNeg)) dX12_worked_177 shp_72 b177 rfl ?_
            refine s_callS_i (pc := 178) (M1 := M_X12_twoOf) (n := 3) (as := [.int (ar σ 66 x5.toNatClampNeg), .int (ar σ 72 (((x4 + (-1)) - 1).toNatClampNeg)), .int (ar σ 72 ((x4 + (-1)).toNatClampNeg))]) (st := [.int ((x4 + (-1)) - 1), .ref 72]) dX12_worked_178 G_X12_twoOf wm_X12_232 (by decide +kernel) rfl (Nat.le_of_ble_eq_true rfl) (by show 1 ≤ d; omega) (Nat.le_of_ble_eq_true rfl) ?_
            refine CI.mono H (fun r1 σ1 H => ?_)
            have b181 := H.1
            replace H := H.2
            refine s_iast (pc := 181) dX12_worked_181 shp_72 b181 ?_
            refine j_iinc (pc := 182) (k := 6) (v := x5 + 1) (lv1 := [(5, .int (x5 + 1)), (4, .int (x4 + (-1))), (6, .int (ar σ 66 x5.toNatClampNeg)), (0, .ref 55), (1, .int x1), (2, .int x2), (3, .int x3)]) dX12_worked_182 rfl rfl (Nat.le_of_ble_eq_true rfl) rfl ?_
            refine j_goto (pc := 185) (t := 12) dX12_worked_185 (by decide) ?_
            refine j_sub [3, 4, 5, 6, 1, 0] rfl ?_
            exact H
          · replace H := H.2 c124
            refine j_aload_n (pc := 127) dX12_worked_127 rfl ?_
            refine s_getr (pc := 128) dX12_worked_128 fl_X12_67 shp_55 rfl ?_
            refine j_iload (pc := 131) dX12_worked_131 rfl ?_
            refine j_iconst (pc := 133) (v := 1) dX12_worked_133 (by decide) ?_
            refine j_isub (pc := 134) dX12_worked_134 ?_
            refine j_aload_n (pc := 135) dX12_worked_135 rfl ?_
            refine s_getr (pc := 136) dX12_worked_136 fl_X12_67 shp_55 rfl ?_
            refine j_iload (pc := 139) dX12_worked_139 rfl ?_
            refine j_iconst (pc := 141) (v := 1) dX12_worked_141 (by decide) ?_
            refine j_isub (pc := 142) dX12_worked_142 ?_
            have b143 := H.1
            replace H := H.2
            refine s_iald (pc := 143) (ar σ 72 ((x4 - 1).toNatClampNeg)) dX12_worked_143 shp_72 b143 rfl ?_
            refine j_ineg (pc := 144) dX12_worked_144 ?_
            have b145 := H.1
            replace H := H.2
            refine s_iast (pc := 145) dX12_worked_145 shp_72 b145 ?_
            refine j_goto (pc := 146) (t := 182) dX12_worked_146 (by decide) ?_
            refine j_iinc (pc := 182) (k := 6) (v := x5 + 1) (lv1 := [(5, .int (x5 + 1)), (6, .int (ar σ 66 x5.toNatClampNeg)), (0, .ref 55), (1, .int x1), (2, .int x2), (3, .int x3), (4, .int x4)]) dX12_worked_182 rfl rfl (Nat.le_of_ble_eq_true rfl) rfl ?_
            refine j_goto (pc := 185) (t := 12) dX12_worked_185 (by decide) ?_
            refine j_sub [2, 3, 4, 5, 6, 0] rfl ?_
            exact H
        · replace H := H.2 c89
          refine j_aload_n (pc := 92) dX12_worked_92 rfl ?_
          refine s_getr (pc := 93) dX12_worked_93 fl_X12_67 shp_55 rfl ?_
          refine j_iload (pc := 96) dX12_worked_96 rfl ?_
          refine j_iconst (pc := 98) (v := 1) dX12_worked_98 (by decide) ?_
          refine j_isub (pc := 99) dX12_worked_99 ?_
          refine j_aload_n (pc := 100) dX12_worked_100 rfl ?_
          refine s_getr (pc := 101) dX12_worked_101 fl_X12_67 shp_55 rfl ?_
          refine j_iload (pc := 104) dX12_worked_104 rfl ?_
          refine j_iconst (pc := 106) (v := 1) dX12_worked_106 (by decide) ?_
          refine j_isub (pc := 107) dX12_worked_107 ?_
          have b108 := H.1
          replace H := H.2
          refine s_iald (pc := 108) (ar σ 72 ((x4 - 1).toNatClampNeg)) dX12_worked_108 shp_72 b108 rfl ?_
          refine j_if_ne (pc := 109) (t := 116) dX12_worked_109 (by decide) (fun c109 => ?_) (fun c109 => ?_)
          · replace H := H.1 c109
            refine j_iconst (pc := 116) (v := 0) dX12_worked_116 (by decide) ?_
            have b117 := H.1
            replace H := H.2
            refine s_iast (pc := 117) dX12_worked_117 shp_72 b117 ?_
            refine j_goto (pc := 118) (t := 182) dX12_worked_118 (by decide) ?_
            refine j_iinc (pc := 182) (k := 6) (v := x5 + 1) (lv1 := [(5, .int (x5 + 1)), (6, .int (ar σ 66 x5.toNatClampNeg)), (0, .ref 55), (1, .int x1), (2, .int x2), (3, .int x3), (4, .int x4)]) dX12_worked_182 rfl rfl (Nat.le_of_ble_eq_true rfl) rfl ?_
            refine j_goto (pc := 185) (t := 12) dX12_worked_185 (by decide) ?_
            refine j_sub [2, 3, 4, 5, 6, 0] rfl ?_
            exact H
          · replace H := H.2 c109
            refine j_iconst (pc := 112) (v := 1) dX12_worked_112 (by decide) ?_
            refine j_goto (pc := 113) (t := 117) dX12_worked_113 (by decide) ?_
            have b117 := H.1
            replace H := H.2
            refine s_iast (pc := 117) dX12_worked_117 shp_72 b117 ?_
            refine j_goto (pc := 118) (t := 182) dX12_worked_118 (by decide) ?_
            refine j_iinc (pc := 182) (k := 6) (v := x5 + 1) (lv1 := [(5, .int (x5 + 1)), (6, .int (ar σ 66 x5.toNatClampNeg)), (0, .ref 55), (1, .int x1), (2, .int x2), (3, .int x3), (4, .int x4)]) dX12_worked_182 rfl rfl (Nat.le_of_ble_eq_true rfl) rfl ?_
            refine j_goto (pc := 185) (t := 12) dX12_worked_185 (by decide) ?_
            refine j_sub [2, 3, 4, 5, 6, 0] rfl ?_
            exact H
      · replace H := H.2 c42
        refine j_aload_n (pc := 45) dX12_worked_45 rfl ?_
        refine s_getr (pc := 46) dX12_worked_46 fl_X12_67 shp_55 rfl ?_
        refine j_iload (pc := 49) dX12_worked_49 rfl ?_
        refine j_iload (pc := 51) dX12_worked_51 rfl ?_
        refine j_iconst (pc := 53) (v := 1) dX12_worked_53 (by decide) ?_
        refine j_icmp_ne (pc := 54) (t := 67) dX12_worked_54 (by decide) (fun c54 => ?_) (fun c54 => ?_)
        · replace H := H.1 c54
          refine j_aload_n (pc := 67) dX12_worked_67 rfl ?_
          refine s_getr (pc := 68) dX12_worked_68 fl_X12_64 shp_55 rfl ?_
          refine j_aload_n (pc := 71) dX12_worked_71 rfl ?_
          refine s_getr (pc := 72) dX12_worked_72 fl_X12_51 shp_55 rfl ?_
          refine j_iload (pc := 75) dX12_worked_75 rfl ?_
          have b77 := H.1
          replace H := H.2
          refine s_iald (pc := 77) (ar σ 67 x5.toNatClampNeg) dX12_worked_77 shp_67 b77 rfl ?_
          have b78 := H.1
          replace H := H.2
          refine s_iald (pc := 78) (ar σ 71 ((ar σ 67 x5.toNatClampNeg).toNatClampNeg)) dX12_worked_78 shp_71 b78 rfl ?_
          have b79 := H.1
          replace H := H.2
          refine s_iast (pc := 79) dX12_worked_79 shp_72 b79 ?_
          refine j_iinc (pc := 80) (k := 5) (v := x4 + 1) (lv1 := [(4, .int (x4 + 1)), (6, .int (ar σ 66 x5.toNatClampNeg)), (0, .ref 55), (1, .int x1), (2, .int x2), (3, .int x3), (5, .int x5)]) dX12_worked_80 rfl rfl (Nat.le_of_ble_eq_true rfl) rfl ?_
          refine j_goto (pc := 83) (t := 182) dX12_worked_83 (by decide) ?_
          refine j_iinc (pc := 182) (k := 6) (v := x5 + 1) (lv1 := [(5, .int (x5 + 1)), (4, .int (x4 + 1)), (6, .int (ar σ 66 x5.toNatClampNeg)), (0, .ref 55), (1, .int x1), (2, .int x2), (3, .int x3)]) dX12_worked_182 rfl rfl (Nat.le_of_ble_eq_true rfl) rfl ?_
          refine j_goto (pc := 185) (t := 12) dX12_worked_185 (by decide) ?_
          refine j_sub [3, 4, 5, 6, 1, 0] rfl ?_
          exact H
        · replace H := H.2 c54
          refine j_aload_n (pc := 57) dX12_worked_57 rfl ?_
          refine s_getr (pc := 58) dX12_worked_58 fl_X12_51 shp_55 rfl ?_
          refine j_iload (pc := 61) dX12_worked_61 rfl ?_
          have b63 := H.1
          replace H := H.2
          refine s_iald (pc := 63) (ar σ 67 x5.toNatClampNeg) dX12_worked_63 shp_67 b63 rfl ?_
          refine j_goto (pc := 64) (t := 79) dX12_worked_64 (by decide) ?_
          have b79 := H.1
          replace H := H.2
          refine s_iast (pc := 79) dX12_worked_79 shp_72 b79 ?_
          refine j_iinc (pc := 80) (k := 5) (v := x4 + 1) (lv1 := [(4, .int (x4 + 1)), (6, .int (ar σ 66 x5.toNatClampNeg)), (0, .ref 55), (1, .int x1), (2, .int x2), (3, .int x3), (5, .int x5)]) dX12_worked_80 rfl rfl (Nat.le_of_ble_eq_true rfl) rfl ?_
          refine j_goto (pc := 83) (t := 182) dX12_worked_83 (by decide) ?_
          refine j_iinc (pc := 182) (k := 6) (v := x5 + 1) (lv1 := [(5, .int (x5 + 1)), (4, .int (x4 + 1)), (6, .int (ar σ 66 x5.toNatClampNeg)), (0, .ref 55), (1, .int x1), (2, .int x2), (3, .int x3)]) dX12_worked_182 rfl rfl (Nat.le_of_ble_eq_true rfl) rfl ?_
          refine j_goto (pc := 185) (t := 12) dX12_worked_185 (by decide) ?_
          refine j_sub [3, 4, 5, 6, 1, 0] rfl ?_
          exact H
set_option maxRecDepth 20000 in
theorem b_X12_gives_0 {l : Launch} {g : am_G} {d : Nat} {σ : am_S} {k : Int32 → am_S → Prop}  {x1 : Int32} (H : JI l g M_X12_gives d 7 [(0, .ref 55), (1, .int x1), (2, .int 0), (3, .int (61 * x1))] [] σ k) : CI l g M_X12_gives d [.ref 55, .int x1] σ k := by
  show J l g (M_X12_gives, d, 0, 0) 0 [(0, .ref 55), (1, .int x1)] [] (hp σ) 0 0 (kI k)
  refine j_iconst (pc := 0) (v := 0) dX12_gives_0 (by decide) ?_
  refine j_istore_n (pc := 1) (lv1 := [(2, .int 0), (0, .ref 55), (1, .int x1)]) dX12_gives_1 (Nat.le_of_ble_eq_true rfl) rfl ?_
  refine j_bipush (pc := 2) (v := 61) dX12_gives_2 (by decide) ?_
  refine j_iload_n (pc := 4) dX12_gives_4 rfl ?_
  refine j_imul (pc := 5) dX12_gives_5 ?_
  refine j_istore_n (pc := 6) (lv1 := [(3, .int (61 * x1)), (2, .int 0), (0, .ref 55), (1, .int x1)]) dX12_gives_6 (Nat.le_of_ble_eq_true rfl) rfl ?_
  refine j_sub [2, 3, 1, 0] rfl ?_
  exact H
set_option maxRecDepth 20000 in
theorem b_X12_gives_7 {l : Launch} {g : am_G} {d : Nat} {σ : am_S} {k : Int32 → am_S → Prop}  {x1 x2 x3 : Int32} (hd : 1 ≤ d) (H : (vp_in x1 2 ∧ (((61 * x1) + (ar σ 68 x1.toNatClampNeg) ≤ x3 → k 0 σ) ∧ (¬ (61 * x1) + (ar σ 68 x1.toNatClampNeg) ≤ x3 → (vp_in x3 122 ∧ ((ar σ 69 x3.toNatClampNeg = x2 → (vp_in x3 122 ∧ (vp_in x3 122 ∧ CI l g M_X12_worked (d - 1) [.ref 55, .int x1, .int (ar σ 69 x3.toNatClampNeg), .int (ar σ 70 x3.toNatClampNeg)] σ (fun r1 σ1 => k r1 σ1)))) ∧ (¬ ar σ 69 x3.toNatClampNeg = x2 → (vp_in x3 122 ∧ CI l g M_X12_worked (d - 1) [.ref 55, .int x1, .int x2, .int (ar σ 69 x3.toNatClampNeg)] σ (fun r2 σ2 => ((r2 = 0 → (vp_in x3 122 ∧ JI l g M_X12_gives d 7 [(0, .ref 55), (1, .int x1), (2, .int (ar σ2 70 x3.toNatClampNeg)), (3, .int (x3 + 1))] [] σ2 k)) ∧ (¬ r2 = 0 → (vp_in x3 122 ∧ (vp_in x3 122 ∧ CI l g M_X12_worked (d - 1) [.ref 55, .int x1, .int (ar σ2 69 x3.toNatClampNeg), .int (ar σ2 70 x3.toNatClampNeg)] σ2 (fun r3 σ3 => k r3 σ3)))))))))))))) : JI l g M_X12_gives d 7 [(0, .ref 55), (1, .int x1), (2, .int x2), (3, .int x3)] [] σ k := by
  show J l g (M_X12_gives, d, 0, 0) 7 [(0, .ref 55), (1, .int x1), (2, .int x2), (3, .int x3)] [] (hp σ) 0 0 (kI k)
  refine j_iload_n (pc := 7) dX12_gives_7 rfl ?_
  refine j_bipush (pc := 8) (v := 61) dX12_gives_8 (by decide) ?_
  refine j_iload_n (pc := 10) dX12_gives_10 rfl ?_
  refine j_imul (pc := 11) dX12_gives_11 ?_
  refine j_aload_n (pc := 12) dX12_gives_12 rfl ?_
  refine s_getr (pc := 13) dX12_gives_13 fl_X12_54 shp_55 rfl ?_
  refine j_iload_n (pc := 16) dX12_gives_16 rfl ?_
  have b17 := H.1
  replace H := H.2
  refine s_iald (pc := 17) (ar σ 68 x1.toNatClampNeg) dX12_gives_17 shp_68 b17 rfl ?_
  refine j_iadd (pc := 18) dX12_gives_18 ?_
  refine j_icmp_ge (pc := 19) (t := 78) dX12_gives_19 (by decide) (fun c19 => ?_) (fun c19 => ?_)
  · replace H := H.1 c19
    refine j_iconst (pc := 78) (v := 0) dX12_gives_78 (by decide) ?_
    exact s_ireti (pc := 79) dX12_gives_79 rfl H
  · replace H := H.2 c19
    refine j_aload_n (pc := 22) dX12_gives_22 rfl ?_
    refine s_getr (pc := 23) dX12_gives_23 fl_X12_57 shp_55 rfl ?_
    refine j_iload_n (pc := 26) dX12_gives_26 rfl ?_
    have b27 := H.1
    replace H := H.2
    refine s_sald (pc := 27) (ar σ 69 x3.toNatClampNeg) dX12_gives_27 shp_69 b27 rfl ?_
    refine j_iload_n (pc := 28) dX12_gives_28 rfl ?_
    refine j_icmp_eq (pc := 29) (t := 47) dX12_gives_29 (by decide) (fun c29 => ?_) (fun c29 => ?_)
    · replace H := H.1 c29
      refine j_aload_n (pc := 47) dX12_gives_47 rfl ?_
      refine j_iload_n (pc := 48) dX12_gives_48 rfl ?_
      refine j_aload_n (pc := 49) dX12_gives_49 rfl ?_
      refine s_getr (pc := 50) dX12_gives_50 fl_X12_57 shp_55 rfl ?_
      refine j_iload_n (pc := 53) dX12_gives_53 rfl ?_
      have b54 := H.1
      replace H := H.2
      refine s_sald (pc := 54) (ar σ 69 x3.toNatClampNeg) dX12_gives_54 shp_69 b54 rfl ?_
      refine j_aload_n (pc := 55) dX12_gives_55 rfl ?_
      refine s_getr (pc := 56) dX12_gives_56 fl_X12_61 shp_55 rfl ?_
      refine j_iload_n (pc := 59) dX12_gives_59 rfl ?_
      have b60 := H.1
      replace H := H.2
      refine s_sald (pc := 60) (ar σ 70 x3.toNatClampNeg) dX12_gives_60 shp_70 b60 rfl ?_
      refine s_callV_i (pc := 61) (M1 := M_X12_worked) (n := 3) (as := [.int x1, .int (ar σ 69 x3.toNatClampNeg), .int (ar σ 70 x3.toNatClampNeg)]) (a := 55) (st := []) dX12_gives_61 G_X12_worked wm_X12_235 (by decide +kernel) rfl (Nat.le_of_ble_eq_true rfl) shp_55 rfl (by show 1 ≤ d; omega) (Nat.le_of_ble_eq_true rfl) (Nat.zero_le _) (Nat.zero_le _) ?_
      refine CI.mono H (fun r1 σ1 H => ?_)
      exact s_ireti (pc := 64) dX12_gives_64 rfl H
    · replace H := H.2 c29
      refine j_aload_n (pc := 32) dX12_gives_32 rfl ?_
      refine j_iload_n (pc := 33) dX12_gives_33 rfl ?_
      refine j_iload_n (pc := 34) dX12_gives_34 rfl ?_
      refine j_aload_n (pc := 35) dX12_gives_35 rfl ?_
      refine s_getr (pc := 36) dX12_gives_36 fl_X12_57 shp_55 rfl ?_
      refine j_iload_n (pc := 39) dX12_gives_39 rfl ?_
      have b40 := H.1
      replace H := H.2
      refine s_sald (pc := 40) (ar σ 69 x3.toNatClampNeg) dX12_gives_40 shp_69 b40 rfl ?_
      refine s_callV_i (pc := 41) (M1 := M_X12_worked) (n := 3) (as := [.int x1, .int x2, .int (ar σ 69 x3.toNatClampNeg)]) (a := 55) (st := []) dX12_gives_41 G_X12_worked wm_X12_235 (by decide +kernel) rfl (Nat.le_of_ble_eq_true rfl) shp_55 rfl (by show 1 ≤ d; omega) (Nat.le_of_ble_eq_true rfl) (Nat.zero_le _) (Nat.zero_le _) ?_
      refine CI.mono H (fun r2 σ2 H => ?_)
      refine j_if_eq (pc := 44) (t := 65) dX12_gives_44 (by decide) (fun c44 => ?_) (fun c44 => ?_)
      · replace H := H.1 c44
        refine j_aload_n (pc := 65) dX12_gives_65 rfl ?_
        refine s_getr (pc := 66) dX12_gives_66 fl_X12_61 shp_55 rfl ?_
        refine j_iload_n (pc := 69) dX12_gives_69 rfl ?_
        have b70 := H.1
        replace H := H.2
        refine s_sald (pc := 70) (ar σ2 70 x3.toNatClampNeg) dX12_gives_70 shp_70 b70 rfl ?_
        refine j_istore_n (pc := 71) (lv1 := [(2, .int (ar σ2 70 x3.toNatClampNeg)), (0, .ref 55), (1, .int x1), (3, .int x3)]) dX12_gives_71 (Nat.le_of_ble_eq_true rfl) rfl ?_
        refine j_iinc (pc := 72) (k := 3) (v := x3 + 1) (lv1 := [(3, .int (x3 + 1)), (2, .int (ar σ2 70 x3.toNatClampNeg)), (0, .ref 55), (1, .int x1)]) dX12_gives_72 rfl rfl (Nat.le_of_ble_eq_true rfl) rfl ?_
        refine j_goto (pc := 75) (t := 7) dX12_gives_75 (by decide) ?_
        refine j_sub [2, 3, 1, 0] rfl ?_
        exact H
      · replace H := H.2 c44
        refine j_aload_n (pc := 47) dX12_gives_47 rfl ?_
        refine j_iload_n (pc := 48) dX12_gives_48 rfl ?_
        refine j_aload_n (pc := 49) dX12_gives_49 rfl ?_
        refine s_getr (pc := 50) dX12_gives_50 fl_X12_57 shp_55 rfl ?_
        refine j_iload_n (pc := 53) dX12_gives_53 rfl ?_
        have b54 := H.1
        replace H := H.2
        refine s_sald (pc := 54) (ar σ2 69 x3.toNatClampNeg) dX12_gives_54 shp_69 b54 rfl ?_
        refine j_aload_n (pc := 55) dX12_gives_55 rfl ?_
        refine s_getr (pc := 56) dX12_gives_56 fl_X12_61 shp_55 rfl ?_
        refine j_iload_n (pc := 59) dX12_gives_59 rfl ?_
        have b60 := H.1
        replace H := H.2
        refine s_sald (pc := 60) (ar σ2 70 x3.toNatClampNeg) dX12_gives_60 shp_70 b60 rfl ?_
        refine s_callV_i (pc := 61) (M1 := M_X12_worked) (n := 3) (as := [.int x1, .int (ar σ2 69 x3.toNatClampNeg), .int (ar σ2 70 x3.toNatClampNeg)]) (a := 55) (st := []) dX12_gives_61 G_X12_worked wm_X12_235 (by decide +kernel) rfl (Nat.le_of_ble_eq_true rfl) shp_55 rfl (by show 1 ≤ d; omega) (Nat.le_of_ble_eq_true rfl) (Nat.zero_le _) (Nat.zero_le _) ?_
        refine CI.mono H (fun r3 σ3 H => ?_)
        exact s_ireti (pc := 64) dX12_gives_64 rfl H
set_option maxRecDepth 20000 in
theorem b_X12_law_0 {l : Launch} {g : am_G} {d : Nat} {σ : am_S} {k : Int32 → am_S → Prop}   (hd : 1 ≤ d) (H : CI l g M_X12_readText (d - 1) [.ref 55, .int 0] σ (fun r1 σ1 => ((r1 < 0 → k 1 (sR σ1 3551 1)) ∧ (¬ r1 < 0 → k ((-100) - r1) σ1)))) : CI l g M_X12_law d [.ref 55] σ k := by
  show J l g (M_X12_law, d, 0, 0) 0 [(0, .ref 55)] [] (hp σ) 0 0 (kI k)
  refine j_aload_n (pc := 0) dX12_law_0 rfl ?_
  refine j_iconst (pc := 1) (v := 0) dX12_law_1 (by decide) ?_
  refine s_callV_i (pc := 2) (M1 := M_X12_readText) (n := 1) (as := [.int 0]) (a := 55) (st := []) dX12_law_2 G_X12_readText wm_X12_238 (by decide +kernel) rfl (Nat.le_of_ble_eq_true rfl) shp_55 rfl (by show 1 ≤ d; omega) (Nat.le_of_ble_eq_true rfl) (Nat.zero_le _) (Nat.zero_le _) ?_
  refine CI.mono H (fun r1 σ1 H => ?_)
  refine j_istore_n (pc := 5) (lv1 := [(1, .int r1), (0, .ref 55)]) dX12_law_5 (Nat.le_of_ble_eq_true rfl) rfl ?_
  refine j_iload_n (pc := 6) dX12_law_6 rfl ?_
  refine j_if_lt (pc := 7) (t := 15) dX12_law_7 (by decide) (fun c7 => ?_) (fun c7 => ?_)
  · replace H := H.1 c7
    refine j_aload_n (pc := 15) dX12_law_15 rfl ?_
    refine j_iconst (pc := 16) (v := 1) dX12_law_16 (by decide) ?_
    refine s_put (pc := 17) 3551 dX12_law_17 fl_X12_241 shp_55 rfl rfl fp_12_31 rfl (by decide) ?_
    refine j_iconst (pc := 20) (v := 1) dX12_law_20 (by decide) ?_
    exact s_ireti (pc := 21) dX12_law_21 rfl H
  · replace H := H.2 c7
    refine j_bipush (pc := 10) (v := -100) dX12_law_10 (by decide) ?_
    refine j_iload_n (pc := 12) dX12_law_12 rfl ?_
    refine j_isub (pc := 13) dX12_law_13 ?_
    exact s_ireti (pc := 14) dX12_law_14 rfl H
set_option maxRecDepth 20000 in
theorem b_X12_asks_0 {l : Launch} {g : am_G} {d : Nat} {σ : am_S} {k : Int32 → am_S → Prop}  {x1 x2 x3 x4 : Int32} (hd : 1 ≤ d) (H : ((¬ rg σ 3551 = 0 → (vp_in x1 5 ∧ ((x2 = 0 → (vp_in x1 5 ∧ ((x2 = 0 → (vp_in x1 5 ∧ CI l g M_X12_gives (d - 1) [.ref 55, .int 0] (sA (sA (sA (sA (sA (sA σ 71 0 x3) 71 1 x4) 71 2 x1) 71 3 (ar σ 58 x1.toNatClampNeg)) 71 4 (ar σ 56 x1.toNatClampNeg)) 71 5 (ar σ 57 x1.toNatClampNeg)) (fun r1 σ1 => ((r1 = 0 → k 0 σ1) ∧ (¬ r1 = 0 → k 1 σ1))))) ∧ (¬ x2 = 0 → (vp_in x1 5 ∧ CI l g M_X12_gives (d - 1) [.ref 55, .int 0] (sA (sA (sA (sA (sA (sA σ 71 0 x3) 71 1 x4) 71 2 x1) 71 3 (ar σ 58 x1.toNatClampNeg)) 71 4 (ar σ 56 x1.toNatClampNeg)) 71 5 (ar σ 56 x1.toNatClampNeg)) (fun r2 σ2 => ((r2 = 0 → k 0 σ2) ∧ (¬ r2 = 0 → k 1 σ2)))))))) ∧ (¬ x2 = 0 → (vp_in x1 5 ∧ ((x2 = 0 → (vp_in x1 5 ∧ CI l g M_X12_gives (d - 1) [.ref 55, .int 0] (sA (sA (sA (sA (sA (sA σ 71 0 x3) 71 1 x4) 71 2 x1) 71 3 (ar σ 58 x1.toNatClampNeg)) 71 4 (ar σ 57 x1.toNatClampNeg)) 71 5 (ar σ 57 x1.toNatClampNeg)) (fun r3 σ3 => ((r3 = 0 → k 0 σ3) ∧ (¬ r3 = 0 → k 1 σ3))))) ∧ (¬ x2 = 0 → (vp_in x1 5 ∧ CI l g M_X12_gives (d - 1) [.ref 55, .int 0] (sA (sA (sA (sA (sA (sA σ 71 0 x3) 71 1 x4) 71 2 x1) 71 3 (ar σ 58 x1.toNatClampNeg)) 71 4 (ar σ 57 x1.toNatClampNeg)) 71 5 (ar σ 56 x1.toNatClampNeg)) (fun r4 σ4 => ((r4 = 0 → k 0 σ4) ∧ (¬ r4 = 0 → k 1 σ4))))))))))) ∧ (rg σ 3551 = 0 → (vp_in x1 5 ∧ ((¬ ar σ 58 x1.toNatClampNeg = 0 → (vp_in x1 5 ∧ ((¬ ar σ 58 x1.toNatClampNeg = 1 → ((x3 < x4 → k 0 σ) ∧ (¬ x3 < x4 → k 1 σ))) ∧ (ar σ 58 x1.toNatClampNeg = 1 → ((x4 ≤ x3 → k 0 σ) ∧ (¬ x4 ≤ x3 → k 1 σ)))))) ∧ (ar σ 58 x1.toNatClampNeg = 0 → ((x3 ≤ x4 → k 0 σ) ∧ (¬ x3 ≤ x4 → k 1 σ)))))))) : CI l g M_X12_asks d [.ref 55, .int x1, .int x2, .int x3, .int x4] σ k := by
  show J l g (M_X12_asks, d, 0, 0) 0 [(0, .ref 55), (1, .int x1), (2, .int x2), (3, .int x3), (4, .int x4)] [] (hp σ) 0 0 (kI k)
  refine j_aload_n (pc := 0) dX12_asks_0 rfl ?_
  refine s_geti (pc := 1) 3551 (rg σ 3551) dX12_asks_1 fl_X12_241 shp_55 rfl rfl rfl ?_
  refine j_if_ne (pc := 4) (t := 66) dX12_asks_4 (by decide) (fun c4 => ?_) (fun c4 => ?_)
  · replace H := H.1 c4
    refine j_aload_n (pc := 66) dX12_asks_66 rfl ?_
    refine s_getr (pc := 67) dX12_asks_67 fl_X12_64 shp_55 rfl ?_
    refine j_iconst (pc := 70) (v := 0) dX12_asks_70 (by decide) ?_
    refine j_iload_n (pc := 71) dX12_asks_71 rfl ?_
    refine s_iast (pc := 72) dX12_asks_72 shp_71 (by unfold vp_in; decide) ?_
    refine j_aload_n (pc := 73) dX12_asks_73 rfl ?_
    refine s_getr (pc := 74) dX12_asks_74 fl_X12_64 shp_55 rfl ?_
    refine j_iconst (pc := 77) (v := 1) dX12_asks_77 (by decide) ?_
    refine j_iload (pc := 78) dX12_asks_78 rfl ?_
    refine s_iast (pc := 80) dX12_asks_80 shp_71 (by unfold vp_in; decide) ?_
    refine j_aload_n (pc := 81) dX12_asks_81 rfl ?_
    refine s_getr (pc := 82) dX12_asks_82 fl_X12_64 shp_55 rfl ?_
    refine j_iconst (pc := 85) (v := 2) dX12_asks_85 (by decide) ?_
    refine j_iload_n (pc := 86) dX12_asks_86 rfl ?_
    refine s_iast (pc := 87) dX12_asks_87 shp_71 (by unfold vp_in; decide) ?_
    refine j_aload_n (pc := 88) dX12_asks_88 rfl ?_
    refine s_getr (pc := 89) dX12_asks_89 fl_X12_64 shp_55 rfl ?_
    refine j_iconst (pc := 92) (v := 3) dX12_asks_92 (by decide) ?_
    refine j_aload_n (pc := 93) dX12_asks_93 rfl ?_
    refine s_getr (pc := 94) dX12_asks_94 fl_X12_16 shp_55 rfl ?_
    refine j_iload_n (pc := 97) dX12_asks_97 rfl ?_
    have b98 := H.1
    replace H := H.2
    refine s_iald (pc := 98) (ar σ 58 x1.toNatClampNeg) dX12_asks_98 shp_58 b98 rfl ?_
    refine s_iast (pc := 99) dX12_asks_99 shp_71 (by unfold vp_in; decide) ?_
    refine j_aload_n (pc := 100) dX12_asks_100 rfl ?_
    refine s_getr (pc := 101) dX12_asks_101 fl_X12_64 shp_55 rfl ?_
    refine j_iconst (pc := 104) (v := 4) dX12_asks_104 (by decide) ?_
    refine j_iload_n (pc := 105) dX12_asks_105 rfl ?_
    refine j_if_eq (pc := 106) (t := 118) dX12_asks_106 (by decide) (fun c106 => ?_) (fun c106 => ?_)
    · replace H := H.1 c106
      refine j_aload_n (pc := 118) dX12_asks_118 rfl ?_
      refine s_getr (pc := 119) dX12_asks_119 fl_X12_7 shp_55 rfl ?_
      refine j_iload_n (pc := 122) dX12_asks_122 rfl ?_
      have b123 := H.1
      replace H := H.2
      refine s_iald (pc := 123) (ar σ 56 x1.toNatClampNeg) dX12_asks_123 shp_56 b123 rfl ?_
      refine s_iast (pc := 124) dX12_asks_124 shp_71 (by unfold vp_in; decide) ?_
      refine j_aload_n (pc := 125) dX12_asks_125 rfl ?_
      refine s_getr (pc := 126) dX12_asks_126 fl_X12_64 shp_55 rfl ?_
      refine j_iconst (pc := 129) (v := 5) dX12_asks_129 (by decide) ?_
      refine j_iload_n (pc := 130) dX12_asks_130 rfl ?_
      refine j_if_eq (pc := 131) (t := 143) dX12_asks_131 (by decide) (fun c131 => ?_) (fun c131 => ?_)
      · replace H := H.1 c131
        refine j_aload_n (pc := 143) dX12_asks_143 rfl ?_
        refine s_getr (pc := 144) dX12_asks_144 fl_X12_13 shp_55 rfl ?_
        refine j_iload_n (pc := 147) dX12_asks_147 rfl ?_
        have b148 := H.1
        replace H := H.2
        refine s_iald (pc := 148) (ar σ 57 x1.toNatClampNeg) dX12_asks_148 shp_57 b148 rfl ?_
        refine s_iast (pc := 149) dX12_asks_149 shp_71 (by unfold vp_in; decide) ?_
        refine j_aload_n (pc := 150) dX12_asks_150 rfl ?_
        refine j_iconst (pc := 151) (v := 0) dX12_asks_151 (by decide) ?_
        refine s_callV_i (pc := 152) (M1 := M_X12_gives) (n := 1) (as := [.int 0]) (a := 55) (st := []) dX12_asks_152 G_X12_gives wm_X12_245 (by decide +kernel) rfl (Nat.le_of_ble_eq_true rfl) shp_55 rfl (by show 1 ≤ d; omega) (Nat.le_of_ble_eq_true rfl) (Nat.zero_le _) (Nat.zero_le _) ?_
        refine CI.mono H (fun r1 σ1 H => ?_)
        refine j_if_eq (pc := 155) (t := 162) dX12_asks_155 (by decide) (fun c155 => ?_) (fun c155 => ?_)
        · replace H := H.1 c155
          refine j_iconst (pc := 162) (v := 0) dX12_asks_162 (by decide) ?_
          exact s_iretz (pc := 163) dX12_asks_163 rfl rfl H
        · replace H := H.2 c155
          refine j_iconst (pc := 158) (v := 1) dX12_asks_158 (by decide) ?_
          refine j_goto (pc := 159) (t := 163) dX12_asks_159 (by decide) ?_
          exact s_iretz (pc := 163) dX12_asks_163 rfl rfl H
      · replace H := H.2 c131
        refine j_aload_n (pc := 134) dX12_asks_134 rfl ?_
        refine s_getr (pc := 135) dX12_asks_135 fl_X12_7 shp_55 rfl ?_
        refine j_iload_n (pc := 138) dX12_asks_138 rfl ?_
        have b139 := H.1
        replace H := H.2
        refine s_iald (pc := 139) (ar σ 56 x1.toNatClampNeg) dX12_asks_139 shp_56 b139 rfl ?_
        refine j_goto (pc := 140) (t := 149) dX12_asks_140 (by decide) ?_
        refine s_iast (pc := 149) dX12_asks_149 shp_71 (by unfold vp_in; decide) ?_
        refine j_aload_n (pc := 150) dX12_asks_150 rfl ?_
        refine j_iconst (pc := 151) (v := 0) dX12_asks_151 (by decide) ?_
        refine s_callV_i (pc := 152) (M1 := M_X12_gives) (n := 1) (as := [.int 0]) (a := 55) (st := []) dX12_asks_152 G_X12_gives wm_X12_245 (by decide +kernel) rfl (Nat.le_of_ble_eq_true rfl) shp_55 rfl (by show 1 ≤ d; omega) (Nat.le_of_ble_eq_true rfl) (Nat.zero_le _) (Nat.zero_le _) ?_
        refine CI.mono H (fun r2 σ2 H => ?_)
        refine j_if_eq (pc := 155) (t := 162) dX12_asks_155 (by decide) (fun c155 => ?_) (fun c155 => ?_)
        · replace H := H.1 c155
          refine j_iconst (pc := 162) (v := 0) dX12_asks_162 (by decide) ?_
          exact s_iretz (pc := 163) dX12_asks_163 rfl rfl H
        · replace H := H.2 c155
          refine j_iconst (pc := 158) (v := 1) dX12_asks_158 (by decide) ?_
          refine j_goto (pc := 159) (t := 163) dX12_asks_159 (by decide) ?_
          exact s_iretz (pc := 163) dX12_asks_163 rfl rfl H
    · replace H := H.2 c106
      refine j_aload_n (pc := 109) dX12_asks_109 rfl ?_
      refine s_getr (pc := 110) dX12_asks_110 fl_X12_13 shp_55 rfl ?_
      refine j_iload_n (pc := 113) dX12_asks_113 rfl ?_
      have b114 := H.1
      replace H := H.2
      refine s_iald (pc := 114) (ar σ 57 x1.toNatClampNeg) dX12_asks_114 shp_57 b114 rfl ?_
      refine j_goto (pc := 115) (t := 124) dX12_asks_115 (by decide) ?_
      refine s_iast (pc := 124) dX12_asks_124 shp_71 (by unfold vp_in; decide) ?_
      refine j_aload_n (pc := 125) dX12_asks_125 rfl ?_
      refine s_getr (pc := 126) dX12_asks_126 fl_X12_64 shp_55 rfl ?_
      refine j_iconst (pc := 129) (v := 5) dX12_asks_129 (by decide) ?_
      refine j_iload_n (pc := 130) dX12_asks_130 rfl ?_
      refine j_if_eq (pc := 131) (t := 143) dX12_asks_131 (by decide) (fun c131 => ?_) (fun c131 => ?_)
      · replace H := H.1 c131
        refine j_aload_n (pc := 143) dX12_asks_143 rfl ?_
        refine s_getr (pc := 144) dX12_asks_144 fl_X12_13 shp_55 rfl ?_
        refine j_iload_n (pc := 147) dX12_asks_147 rfl ?_
        have b148 := H.1
        replace H := H.2
        refine s_iald (pc := 148) (ar σ 57 x1.toNatClampNeg) dX12_asks_148 shp_57 b148 rfl ?_
        refine s_iast (pc := 149) dX12_asks_149 shp_71 (by unfold vp_in; decide) ?_
        refine j_aload_n (pc := 150) dX12_asks_150 rfl ?_
        refine j_iconst (pc := 151) (v := 0) dX12_asks_151 (by decide) ?_
        refine s_callV_i (pc := 152) (M1 := M_X12_gives) (n := 1) (as := [.int 0]) (a := 55) (st := []) dX12_asks_152 G_X12_gives wm_X12_245 (by decide +kernel) rfl (Nat.le_of_ble_eq_true rfl) shp_55 rfl (by show 1 ≤ d; omega) (Nat.le_of_ble_eq_true rfl) (Nat.zero_le _) (Nat.zero_le _) ?_
        refine CI.mono H (fun r3 σ3 H => ?_)
        refine j_if_eq (pc := 155) (t := 162) dX12_asks_155 (by decide) (fun c155 => ?_) (fun c155 => ?_)
        · replace H := H.1 c155
          refine j_iconst (pc := 162) (v := 0) dX12_asks_162 (by decide) ?_
          exact s_iretz (pc := 163) dX12_asks_163 rfl rfl H
        · replace H := H.2 c155
          refine j_iconst (pc := 158) (v := 1) dX12_asks_158 (by decide) ?_
          refine j_goto (pc := 159) (t := 163) dX12_asks_159 (by decide) ?_
          exact s_iretz (pc := 163) dX12_asks_163 rfl rfl H
      · replace H := H.2 c131
        refine j_aload_n (pc := 134) dX12_asks_134 rfl ?_
        refine s_getr (pc := 135) dX12_asks_135 fl_X12_7 shp_55 rfl ?_
        refine j_iload_n (pc := 138) dX12_asks_138 rfl ?_
        have b139 := H.1
        replace H := H.2
        refine s_iald (pc := 139) (ar σ 56 x1.toNatClampNeg) dX12_asks_139 shp_56 b139 rfl ?_
        refine j_goto (pc := 140) (t := 149) dX12_asks_140 (by decide) ?_
        refine s_iast (pc := 149) dX12_asks_149 shp_71 (by unfold vp_in; decide) ?_
        refine j_aload_n (pc := 150) dX12_asks_150 rfl ?_
        refine j_iconst (pc := 151) (v := 0) dX12_asks_151 (by decide) ?_
        refine s_callV_i (pc := 152) (M1 := M_X12_gives) (n := 1) (as := [.int 0]) (a := 55) (st := []) dX12_asks_152 G_X12_gives wm_X12_245 (by decide +kernel) rfl (Nat.le_of_ble_eq_true rfl) shp_55 rfl (by show 1 ≤ d; omega) (Nat.le_of_ble_eq_true rfl) (Nat.zero_le _) (Nat.zero_le _) ?_
        refine CI.mono H (fun r4 σ4 H => ?_)
        refine j_if_eq (pc := 155) (t := 162) dX12_asks_155 (by decide) (fun c155 => ?_) (fun c155 => ?_)
        · replace H := H.1 c155
          refine j_iconst (pc := 162) (v := 0) dX12_asks_162 (by decide) ?_
          exact s_iretz (pc := 163) dX12_asks_163 rfl rfl H
        · replace H := H.2 c155
          refine j_iconst (pc := 158) (v := 1) dX12_asks_158 (by decide) ?_
          refine j_goto (pc := 159) (t := 163) dX12_asks_159 (by decide) ?_
          exact s_iretz (pc := 163) dX12_asks_163 rfl rfl H
  · replace H := H.2 c4
    refine j_aload_n (pc := 7) dX12_asks_7 rfl ?_
    refine s_getr (pc := 8) dX12_asks_8 fl_X12_16 shp_55 rfl ?_
    refine j_iload_n (pc := 11) dX12_asks_11 rfl ?_
    have b12 := H.1
    replace H := H.2
    refine s_iald (pc := 12) (ar σ 58 x1.toNatClampNeg) dX12_asks_12 shp_58 b12 rfl ?_
    refine j_if_ne (pc := 13) (t := 30) dX12_asks_13 (by decide) (fun c13 => ?_) (fun c13 => ?_)
    · replace H := H.1 c13
      refine j_aload_n (pc := 30) dX12_asks_30 rfl ?_
      refine s_getr (pc := 31) dX12_asks_31 fl_X12_16 shp_55 rfl ?_
      refine j_iload_n (pc := 34) dX12_asks_34 rfl ?_
      have b35 := H.1
      replace H := H.2
      refine s_iald (pc := 35) (ar σ 58 x1.toNatClampNeg) dX12_asks_35 shp_58 b35 rfl ?_
      refine j_iconst (pc := 36) (v := 1) dX12_asks_36 (by decide) ?_
      refine j_icmp_ne (pc := 37) (t := 54) dX12_asks_37 (by decide) (fun c37 => ?_) (fun c37 => ?_)
      · replace H := H.1 c37
        refine j_iload_n (pc := 54) dX12_asks_54 rfl ?_
        refine j_iload (pc := 55) dX12_asks_55 rfl ?_
        refine j_icmp_lt (pc := 57) (t := 64) dX12_asks_57 (by decide) (fun c57 => ?_) (fun c57 => ?_)
        · replace H := H.1 c57
          refine j_iconst (pc := 64) (v := 0) dX12_asks_64 (by decide) ?_
          exact s_iretz (pc := 65) dX12_asks_65 rfl rfl H
        · replace H := H.2 c57
          refine j_iconst (pc := 60) (v := 1) dX12_asks_60 (by decide) ?_
          refine j_goto (pc := 61) (t := 65) dX12_asks_61 (by decide) ?_
          exact s_iretz (pc := 65) dX12_asks_65 rfl rfl H
      · replace H := H.2 c37
        refine j_iload_n (pc := 40) dX12_asks_40 rfl ?_
        refine j_iload (pc := 41) dX12_asks_41 rfl ?_
        refine j_icmp_ge (pc := 43) (t := 50) dX12_asks_43 (by decide) (fun c43 => ?_) (fun c43 => ?_)
        · replace H := H.1 c43
          refine j_iconst (pc := 50) (v := 0) dX12_asks_50 (by decide) ?_
          refine j_goto (pc := 51) (t := 65) dX12_asks_51 (by decide) ?_
          exact s_iretz (pc := 65) dX12_asks_65 rfl rfl H
        · replace H := H.2 c43
          refine j_iconst (pc := 46) (v := 1) dX12_asks_46 (by decide) ?_
          refine j_goto (pc := 47) (t := 65) dX12_asks_47 (by decide) ?_
          exact s_iretz (pc := 65) dX12_asks_65 rfl rfl H
    · replace H := H.2 c13
      refine j_iload_n (pc := 16) dX12_asks_16 rfl ?_
      refine j_iload (pc := 17) dX12_asks_17 rfl ?_
      refine j_icmp_le (pc := 19) (t := 26) dX12_asks_19 (by decide) (fun c19 => ?_) (fun c19 => ?_)
      · replace H := H.1 c19
        refine j_iconst (pc := 26) (v := 0) dX12_asks_26 (by decide) ?_
        refine j_goto (pc := 27) (t := 65) dX12_asks_27 (by decide) ?_
        exact s_iretz (pc := 65) dX12_asks_65 rfl rfl H
      · replace H := H.2 c19
        refine j_iconst (pc := 22) (v := 1) dX12_asks_22 (by decide) ?_
        refine j_goto (pc := 23) (t := 65) dX12_asks_23 (by decide) ?_
        exact s_iretz (pc := 65) dX12_asks_65 rfl rfl H
set_option maxRecDepth 20000 in
theorem b_X12_findMay_0 {l : Launch} {g : am_G} {d : Nat} {σ : am_S} {k : am_S → Prop}  {x1 x2 x3 : Int32} (H : JV l g M_X12_findMay d 3 [(0, .ref 55), (1, .int x1), (2, .int x2), (3, .int x3), (4, .int 0)] [] σ k) : CV l g M_X12_findMay d [.ref 55, .int x1, .int x2, .int x3] σ k := by
  show J l g (M_X12_findMay, d, 0, 0) 0 [(0, .ref 55), (1, .int x1), (2, .int x2), (3, .int x3)] [] (hp σ) 0 0 (kV k)
  refine j_iconst (pc := 0) (v := 0) dX12_findMay_0 (by decide) ?_
  refine j_istore (pc := 1) (lv1 := [(4, .int 0), (0, .ref 55), (1, .int x1), (2, .int x2), (3, .int x3)]) dX12_findMay_1 (Nat.le_of_ble_eq_true rfl) rfl ?_
  refine j_sub [1, 2, 3, 4, 0] rfl ?_
  exact H
set_option maxRecDepth 20000 in
theorem b_X12_findMay_3 {l : Launch} {g : am_G} {d : Nat} {σ : am_S} {k : am_S → Prop}  {x1 x2 x3 x4 : Int32} (H : ((rg σ 3522 ≤ x4 → k σ) ∧ (¬ rg σ 3522 ≤ x4 → ((¬ (x1 >>> (x4 &&& 31)) &&& 1 = 1 → (vp_in x4 5 ∧ (vp_in x4 5 ∧ (vp_in x4 5 ∧ (vp_in x4 5 ∧ JV l g M_X12_findMay d 90 [(0, .ref 55), (1, .int x1), (2, .int x2), (3, .int x3), (4, .int x4), (5, .int 0), (6, .int 0)] [] (sA (sA σ 74 x4.toNatClampNeg (ar σ 56 x4.toNatClampNeg)) 75 x4.toNatClampNeg (ar σ 57 x4.toNatClampNeg)) k))))) ∧ ((x1 >>> (x4 &&& 31)) &&& 1 = 1 → (vp_in x4 5 ∧ (vp_in x4 5 ∧ (vp_in x4 5 ∧ (vp_in x4 5 ∧ JV l g M_X12_findMay d 90 [(0, .ref 55), (1, .int x1), (2, .int x2), (3, .int x3), (4, .int x4), (5, .int 1), (6, .int 0)] [] (sA (sA σ 74 x4.toNatClampNeg (ar σ 57 x4.toNatClampNeg)) 75 x4.toNatClampNeg (ar σ 56 x4.toNatClampNeg)) k))))))))) : JV l g M_X12_findMay d 3 [(0, .ref 55), (1, .int x1), (2, .int x2), (3, .int x3), (4, .int x4)] [] σ k := by
  show J l g (M_X12_findMay, d, 0, 0) 3 [(0, .ref 55), (1, .int x1), (2, .int x2), (3, .int x3), (4, .int x4)] [] (hp σ) 0 0 (kV k)
  refine j_iload (pc := 3) dX12_findMay_3 rfl ?_
  refine j_aload_n (pc := 5) dX12_findMay_5 rfl ?_
  refine s_geti (pc := 6) 3522 (rg σ 3522) dX12_findMay_6 fl_X12_118 shp_55 rfl rfl rfl ?_
  refine j_icmp_ge (pc := 9) (t := 187) dX12_findMay_9 (by decide) (fun c9 => ?_) (fun c9 => ?_)
  · replace H := H.1 c9
    exact s_vret (pc := 187) dX12_findMay_187 rfl H
  · replace H := H.2 c9
    refine j_iload_n (pc := 12) dX12_findMay_12 rfl ?_
    refine j_iload (pc := 13) dX12_findMay_13 rfl ?_
    refine j_ishr (pc := 15) dX12_findMay_15 ?_
    refine j_iconst (pc := 16) (v := 1) dX12_findMay_16 (by decide) ?_
    refine j_iand (pc := 17) dX12_findMay_17 ?_
    refine j_iconst (pc := 18) (v := 1) dX12_findMay_18 (by decide) ?_
    refine j_icmp_ne (pc := 19) (t := 26) dX12_findMay_19 (by decide) (fun c19 => ?_) (fun c19 => ?_)
    · replace H := H.1 c19
      refine j_iconst (pc := 26) (v := 0) dX12_findMay_26 (by decide) ?_
      refine j_istore (pc := 27) (lv1 := [(5, .int 0), (0, .ref 55), (1, .int x1), (2, .int x2), (3, .int x3), (4, .int x4)]) dX12_findMay_27 (Nat.le_of_ble_eq_true rfl) rfl ?_
      refine j_aload_n (pc := 29) dX12_findMay_29 rfl ?_
      refine s_getr (pc := 30) dX12_findMay_30 fl_X12_74 shp_55 rfl ?_
      refine j_iload (pc := 33) dX12_findMay_33 rfl ?_
      refine j_iload (pc := 35) dX12_findMay_35 rfl ?_
      refine j_if_eq (pc := 37) (t := 50) dX12_findMay_37 (by decide) (fun _ => ?_) (fun q => absurd q (by decide))
      refine j_aload_n (pc := 50) dX12_findMay_50 rfl ?_
      refine s_getr (pc := 51) dX12_findMay_51 fl_X12_7 shp_55 rfl ?_
      refine j_iload (pc := 54) dX12_findMay_54 rfl ?_
      have b56 := H.1
      replace H := H.2
      refine s_iald (pc := 56) (ar σ 56 x4.toNatClampNeg) dX12_findMay_56 shp_56 b56 rfl ?_
      have b57 := H.1
      replace H := H.2
      refine s_iast (pc := 57) dX12_findMay_57 shp_74 b57 ?_
      refine j_aload_n (pc := 58) dX12_findMay_58 rfl ?_
      refine s_getr (pc := 59) dX12_findMay_59 fl_X12_77 shp_55 rfl ?_
      refine j_iload (pc := 62) dX12_findMay_62 rfl ?_
      refine j_iload (pc := 64) dX12_findMay_64 rfl ?_
      refine j_if_eq (pc := 66) (t := 79) dX12_findMay_66 (by decide) (fun _ => ?_) (fun q => absurd q (by decide))
      refine j_aload_n (pc := 79) dX12_findMay_79 rfl ?_
      refine s_getr (pc := 80) dX12_findMay_80 fl_X12_13 shp_55 rfl ?_
      refine j_iload (pc := 83) dX12_findMay_83 rfl ?_
      have b85 := H.1
      replace H := H.2
      refine s_iald (pc := 85) (ar σ 57 x4.toNatClampNeg) dX12_findMay_85 shp_57 b85 rfl ?_
      have b86 := H.1
      replace H := H.2
      refine s_iast (pc := 86) dX12_findMay_86 shp_75 b86 ?_
      refine j_iconst (pc := 87) (v := 0) dX12_findMay_87 (by decide) ?_
      refine j_istore (pc := 88) (lv1 := [(6, .int 0), (5, .int 0), (0, .ref 55), (1, .int x1), (2, .int x2), (3, .int x3), (4, .int x4)]) dX12_findMay_88 (Nat.le_of_ble_eq_true rfl) rfl ?_
      refine j_sub [2, 3, 4, 5, 6, 1, 0] rfl ?_
      exact H
    · replace H := H.2 c19
      refine j_iconst (pc := 22) (v := 1) dX12_findMay_22 (by decide) ?_
      refine j_goto (pc := 23) (t := 27) dX12_findMay_23 (by decide) ?_
      refine j_istore (pc := 27) (lv1 := [(5, .int 1), (0, .ref 55), (1, .int x1), (2, .int x2), (3, .int x3), (4, .int x4)]) dX12_findMay_27 (Nat.le_of_ble_eq_true rfl) rfl ?_
      refine j_aload_n (pc := 29) dX12_findMay_29 rfl ?_
      refine s_getr (pc := 30) dX12_findMay_30 fl_X12_74 shp_55 rfl ?_
      refine j_iload (pc := 33) dX12_findMay_33 rfl ?_
      refine j_iload (pc := 35) dX12_findMay_35 rfl ?_
      refine j_if_eq (pc := 37) (t := 50) dX12_findMay_37 (by decide) (fun q => absurd q (by decide)) (fun _ => ?_)
      refine j_aload_n (pc := 40) dX12_findMay_40 rfl ?_
      refine s_getr (pc := 41) dX12_findMay_41 fl_X12_13 shp_55 rfl ?_
      refine j_iload (pc := 44) dX12_findMay_44 rfl ?_
      have b46 := H.1
      replace H := H.2
      refine s_iald (pc := 46) (ar σ 57 x4.toNatClampNeg) dX12_findMay_46 shp_57 b46 rfl ?_
      refine j_goto (pc := 47) (t := 57) dX12_findMay_47 (by decide) ?_
      have b57 := H.1
      replace H := H.2
      refine s_iast (pc := 57) dX12_findMay_57 shp_74 b57 ?_
      refine j_aload_n (pc := 58) dX12_findMay_58 rfl ?_
      refine s_getr (pc := 59) dX12_findMay_59 fl_X12_77 shp_55 rfl ?_
      refine j_iload (pc := 62) dX12_findMay_62 rfl ?_
      refine j_iload (pc := 64) dX12_findMay_64 rfl ?_
      refine j_if_eq (pc := 66) (t := 79) dX12_findMay_66 (by decide) (fun q => absurd q (by decide)) (fun _ => ?_)
      refine j_aload_n (pc := 69) dX12_findMay_69 rfl ?_
      refine s_getr (pc := 70) dX12_findMay_70 fl_X12_7 shp_55 rfl ?_
      refine j_iload (pc := 73) dX12_findMay_73 rfl ?_
      have b75 := H.1
      replace H := H.2
      refine s_iald (pc := 75) (ar σ 56 x4.toNatClampNeg) dX12_findMay_75 shp_56 b75 rfl ?_
      refine j_goto (pc := 76) (t := 86) dX12_findMay_76 (by decide) ?_
      have b86 := H.1
      replace H := H.2
      refine s_iast (pc := 86) dX12_findMay_86 shp_75 b86 ?_
      refine j_iconst (pc := 87) (v := 0) dX12_findMay_87 (by decide) ?_
      refine j_istore (pc := 88) (lv1 := [(6, .int 0), (5, .int 1), (0, .ref 55), (1, .int x1), (2, .int x2), (3, .int x3), (4, .int x4)]) dX12_findMay_88 (Nat.le_of_ble_eq_true rfl) rfl ?_
      refine j_sub [2, 3, 4, 5, 6, 1, 0] rfl ?_
      exact H
set_option maxRecDepth 20000 in
theorem b_X12_findMay_90 {l : Launch} {g : am_G} {d : Nat} {σ : am_S} {k : am_S → Prop}  {x1 x2 x3 x4 x5 x6 : Int32} (H : ((rg σ 3526 ≤ x6 → JV l g M_X12_findMay d 3 [(0, .ref 55), (1, .int x1), (2, .int x2), (3, .int x3), (4, .int (x4 + 1))] [] σ k) ∧ (¬ rg σ 3526 ≤ x6 → JV l g M_X12_findMay d 102 [(0, .ref 55), (1, .int x1), (2, .int x2), (3, .int x3), (4, .int x4), (5, .int x5), (6, .int x6), (7, .int 0)] [] σ k))) : JV l g M_X12_findMay d 90 [(0, .ref 55), (1, .int x1), (2, .int x2), (3, .int x3), (4, .int x4), (5, .int x5), (6, .int x6)] [] σ k := by
  show J l g (M_X12_findMay, d, 0, 0) 90 [(0, .ref 55), (1, .int x1), (2, .int x2), (3, .int x3), (4, .int x4), (5, .int x5), (6, .int x6)] [] (hp σ) 0 0 (kV k)
  refine j_iload (pc := 90) dX12_findMay_90 rfl ?_
  refine j_aload_n (pc := 92) dX12_findMay_92 rfl ?_
  refine s_geti (pc := 93) 3526 (rg σ 3526) dX12_findMay_93 fl_X12_121 shp_55 rfl rfl rfl ?_
  refine j_icmp_ge (pc := 96) (t := 181) dX12_findMay_96 (by decide) (fun c96 => ?_) (fun c96 => ?_)
  · replace H := H.1 c96
    refine j_iinc (pc := 181) (k := 4) (v := x4 + 1) (lv1 := [(4, .int (x4 + 1)), (0, .ref 55), (1, .int x1), (2, .int x2), (3, .int x3), (5, .int x5), (6, .int x6)]) dX12_findMay_181 rfl rfl (Nat.le_of_ble_eq_true rfl) rfl ?_
    refine j_goto (pc := 184) (t := 3) dX12_findMay_184 (by decide) ?_
    refine j_sub [1, 2, 3, 4, 0] rfl ?_
    exact H
  · replace H := H.2 c96
    refine j_iconst (pc := 99) (v := 0) dX12_findMay_99 (by decide) ?_
    refine j_istore (pc := 100) (lv1 := [(7, .int 0), (0, .ref 55), (1, .int x1), (2, .int x2), (3, .int x3), (4, .int x4), (5, .int x5), (6, .int x6)]) dX12_findMay_100 (Nat.le_of_ble_eq_true rfl) rfl ?_
    refine j_sub [1, 2, 3, 4, 5, 6, 7, 0] rfl ?_
    exact H
set_option maxRecDepth 20000 in
theorem b_X12_findMay_102 {l : Launch} {g : am_G} {d : Nat} {σ : am_S} {k : am_S → Prop}  {x1 x2 x3 x4 x5 x6 x7 : Int32} (hd : 1 ≤ d) (H : ((rg σ 3526 ≤ x7 → JV l g M_X12_findMay d 90 [(0, .ref 55), (1, .int x1), (2, .int x2), (3, .int x3), (4, .int x4), (5, .int x5), (6, .int (x6 + 1))] [] σ k) ∧ (¬ rg σ 3526 ≤ x7 → ((x6 = x7 → (vp_in (((49 * x4) + (7 * x6)) + x7) 245 ∧ JV l g M_X12_findMay d 102 [(0, .ref 55), (1, .int x1), (2, .int x2), (3, .int x3), (4, .int x4), (5, .int x5), (6, .int x6), (7, .int (x7 + 1))] [] (sA σ 73 ((((49 * x4) + (7 * x6)) + x7).toNatClampNeg) (vp_nar .boolean 0)) k)) ∧ (¬ x6 = x7 → CI l g M_X12_height (d - 1) [.ref 55, .int x6, .int x2, .int x3] σ (fun r1 σ1 => CI l g M_X12_height (d - 1) [.ref 55, .int x7, .int x2, .int x3] σ1 (fun r2 σ2 => CI l g M_X12_asks (d - 1) [.ref 55, .int x4, .int x5, .int r1, .int r2] σ2 (fun r3 σ3 => ((r3 = 0 → (vp_in (((49 * x4) + (7 * x6)) + x7) 245 ∧ JV l g M_X12_findMay d 102 [(0, .ref 55), (1, .int x1), (2, .int x2), (3, .int x3), (4, .int x4), (5, .int x5), (6, .int x6), (7, .int (x7 + 1))] [] (sA σ3 73 ((((49 * x4) + (7 * x6)) + x7).toNatClampNeg) (vp_nar .boolean 0)) k)) ∧ (¬ r3 = 0 → (vp_in (((49 * x4) + (7 * x6)) + x7) 245 ∧ JV l g M_X12_findMay d 102 [(0, .ref 55), (1, .int x1), (2, .int x2), (3, .int x3), (4, .int x4), (5, .int x5), (6, .int x6), (7, .int (x7 + 1))] [] (sA σ3 73 ((((49 * x4) + (7 * x6)) + x7).toNatClampNeg) (vp_nar .boolean 1)) k))))))))))) : JV l g M_X12_findMay d 102 [(0, .ref 55), (1, .int x1), (2, .int x2), (3, .int x3), (4, .int x4), (5, .int x5), (6, .int x6), (7, .int x7)] [] σ k := by
  show J l g (M_X12_findMay, d, 0, 0) 102 [(0, .ref 55), (1, .int x1), (2, .int x2), (3, .int x3), (4, .int x4), (5, .int x5), (6, .int x6), (7, .int x7)] [] (hp σ) 0 0 (kV k)
  refine j_iload (pc := 102) dX12_findMay_102 rfl ?_
  refine j_aload_n (pc := 104) dX12_findMay_104 rfl ?_
  refine s_geti (pc := 105) 3526 (rg σ 3526) dX12_findMay_105 fl_X12_121 shp_55 rfl rfl rfl ?_
  refine j_icmp_ge (pc := 108) (t := 175) dX12_findMay_108 (by decide) (fun c108 => ?_) (fun c108 => ?_)
  · replace H := H.1 c108
    refine j_iinc (pc := 175) (k := 6) (v := x6 + 1) (lv1 := [(6, .int (x6 + 1)), (0, .ref 55), (1, .int x1), (2, .int x2), (3, .int x3), (4, .int x4), (5, .int x5), (7, .int x7)]) dX12_findMay_175 rfl rfl (Nat.le_of_ble_eq_true rfl) rfl ?_
    refine j_goto (pc := 178) (t := 90) dX12_findMay_178 (by decide) ?_
    refine j_sub [1, 2, 3, 4, 5, 6, 0] rfl ?_
    exact H
  · replace H := H.2 c108
    refine j_aload_n (pc := 111) dX12_findMay_111 rfl ?_
    refine s_getr (pc := 112) dX12_findMay_112 fl_X12_70 shp_55 rfl ?_
    refine j_bipush (pc := 115) (v := 49) dX12_findMay_115 (by decide) ?_
    refine j_iload (pc := 117) dX12_findMay_117 rfl ?_
    refine j_imul (pc := 119) dX12_findMay_119 ?_
    refine j_bipush (pc := 120) (v := 7) dX12_findMay_120 (by decide) ?_
    refine j_iload (pc := 122) dX12_findMay_122 rfl ?_
    refine j_imul (pc := 124) dX12_findMay_124 ?_
    refine j_iadd (pc := 125) dX12_findMay_125 ?_
    refine j_iload (pc := 126) dX12_findMay_126 rfl ?_
    refine j_iadd (pc := 128) dX12_findMay_128 ?_
    refine j_iload (pc := 129) dX12_findMay_129 rfl ?_
    refine j_iload (pc := 131) dX12_findMay_131 rfl ?_
    refine j_icmp_eq (pc := 133) (t := 167) dX12_findMay_133 (by decide) (fun c133 => ?_) (fun c133 => ?_)
    · replace H := H.1 c133
      refine j_iconst (pc := 167) (v := 0) dX12_findMay_167 (by decide) ?_
      have b168 := H.1
      replace H := H.2
      refine s_zast (pc := 168) dX12_findMay_168 shp_73 b168 ?_
      refine j_iinc (pc := 169) (k := 7) (v := x7 + 1) (lv1 := [(7, .int (x7 + 1)), (0, .ref 55), (1, .int x1), (2, .int x2), (3, .int x3), (4, .int x4), (5, .int x5), (6, .int x6)]) dX12_findMay_169 rfl rfl (Nat.le_of_ble_eq_true rfl) rfl ?_
      refine j_goto (pc := 172) (t := 102) dX12_findMay_172 (by decide) ?_
      refine j_sub [1, 2, 3, 4, 5, 6, 7, 0] rfl ?_
      exact H
    · replace H := H.2 c133
      refine j_aload_n (pc := 136) dX12_findMay_136 rfl ?_
      refine j_iload (pc := 137) dX12_findMay_137 rfl ?_
      refine j_iload (pc := 139) dX12_findMay_139 rfl ?_
      refine j_aload_n (pc := 141) dX12_findMay_141 rfl ?_
      refine j_iload (pc := 142) dX12_findMay_142 rfl ?_
      refine j_iload_n (pc := 144) dX12_findMay_144 rfl ?_
      refine j_iload_n (pc := 145) dX12_findMay_145 rfl ?_
      refine s_callV_i (pc := 146) (M1 := M_X12_height) (n := 3) (as := [.int x6, .int x2, .int x3]) (a := 55) (st := [.int x5, .int x4, .ref 55, .int (((49 * x4) + (7 * x6)) + x7), .ref 73]) dX12_findMay_146 G_X12_height wm_X12_168 (by decide +kernel) rfl (Nat.le_of_ble_eq_true rfl) shp_55 rfl (by show 1 ≤ d; omega) (Nat.le_of_ble_eq_true rfl) (Nat.zero_le _) (Nat.zero_le _) ?_
      refine CI.mono H (fun r1 σ1 H => ?_)
      refine j_aload_n (pc := 149) dX12_findMay_149 rfl ?_
      refine j_iload (pc := 150) dX12_findMay_150 rfl ?_
      refine j_iload_n (pc := 152) dX12_findMay_152 rfl ?_
      refine j_iload_n (pc := 153) dX12_findMay_153 rfl ?_
      refine s_callV_i (pc := 154) (M1 := M_X12_height) (n := 3) (as := [.int x7, .int x2, .int x3]) (a := 55) (st := [.int r1, .int x5, .int x4, .ref 55, .int (((49 * x4) + (7 * x6)) + x7), .ref 73]) dX12_findMay_154 G_X12_height wm_X12_168 (by decide +kernel) rfl (Nat.le_of_ble_eq_true rfl) shp_55 rfl (by show 1 ≤ d; omega) (Nat.le_of_ble_eq_true rfl) (Nat.zero_le _) (Nat.zero_le _) ?_
      refine CI.mono H (fun r2 σ2 H => ?_)
      refine s_callV_i (pc := 157) (M1 := M_X12_asks) (n := 4) (as := [.int x4, .int x5, .int r1, .int r2]) (a := 55) (st := [.int (((49 * x4) + (7 * x6)) + x7), .ref 73]) dX12_findMay_157 G_X12_asks wm_X12_248 (by decide +kernel) rfl (Nat.le_of_ble_eq_true rfl) shp_55 rfl (by show 1 ≤ d; omega) (Nat.le_of_ble_eq_true rfl) (Nat.zero_le _) (Nat.zero_le _) ?_
      refine CI.mono H (fun r3 σ3 H => ?_)
      refine j_if_eq (pc := 160) (t := 167) dX12_findMay_160 (by decide) (fun c160 => ?_) (fun c160 => ?_)
      · replace H := H.1 c160
        refine j_iconst (pc := 167) (v := 0) dX12_findMay_167 (by decide) ?_
        have b168 := H.1
        replace H := H.2
        refine s_zast (pc := 168) dX12_findMay_168 shp_73 b168 ?_
        refine j_iinc (pc := 169) (k := 7) (v := x7 + 1) (lv1 := [(7, .int (x7 + 1)), (0, .ref 55), (1, .int x1), (2, .int x2), (3, .int x3), (4, .int x4), (5, .int x5), (6, .int x6)]) dX12_findMay_169 rfl rfl (Nat.le_of_ble_eq_true rfl) rfl ?_
        refine j_goto (pc := 172) (t := 102) dX12_findMay_172 (by decide) ?_
        refine j_sub [1, 2, 3, 4, 5, 6, 7, 0] rfl ?_
        exact H
      · replace H := H.2 c160
        refine j_iconst (pc := 163) (v := 1) dX12_findMay_163 (by decide) ?_
        refine j_goto (pc := 164) (t := 168) dX12_findMay_164 (by decide) ?_
        have b168 := H.1
        replace H := H.2
        refine s_zast (pc := 168) dX12_findMay_168 shp_73 b168 ?_
        refine j_iinc (pc := 169) (k := 7) (v := x7 + 1) (lv1 := [(7, .int (x7 + 1)), (0, .ref 55), (1, .int x1), (2, .int x2), (3, .int x3), (4, .int x4), (5, .int x5), (6, .int x6)]) dX12_findMay_169 rfl rfl (Nat.le_of_ble_eq_true rfl) rfl ?_
        refine j_goto (pc := 172) (t := 102) dX12_findMay_172 (by decide) ?_
        refine j_sub [1, 2, 3, 4, 5, 6, 7, 0] rfl ?_
        exact H
set_option maxRecDepth 20000 in
theorem b_X12_findNow_0 {l : Launch} {g : am_G} {d : Nat} {σ : am_S} {k : am_S → Prop}   (hd : 1 ≤ d) (H : CV l g M_X12_findMay (d - 1) [.ref 55, .int 0, .int (rg σ 3530), .int 0] σ (fun σ1 => k σ1)) : CV l g M_X12_findNow d [.ref 55] σ k := by
  show J l g (M_X12_findNow, d, 0, 0) 0 [(0, .ref 55)] [] (hp σ) 0 0 (kV k)
  refine j_aload_n (pc := 0) dX12_findNow_0 rfl ?_
  refine j_iconst (pc := 1) (v := 0) dX12_findNow_1 (by decide) ?_
  refine j_aload_n (pc := 2) dX12_findNow_2 rfl ?_
  refine s_geti (pc := 3) 3530 (rg σ 3530) dX12_findNow_3 fl_X12_25 shp_55 rfl rfl rfl ?_
  refine j_iconst (pc := 6) (v := 0) dX12_findNow_6 (by decide) ?_
  refine s_callV_v (pc := 7) (M1 := M_X12_findMay) (n := 3) (as := [.int 0, .int (rg σ 3530), .int 0]) (a := 55) (st := []) dX12_findNow_7 G_X12_findMay wm_X12_252 (by decide +kernel) rfl (Nat.le_of_ble_eq_true rfl) shp_55 rfl (by show 1 ≤ d; omega) (Nat.le_of_ble_eq_true rfl) (Nat.zero_le _) (Nat.zero_le _) ?_
  refine CV.mono H (fun σ1 H => ?_)
  exact s_vret (pc := 10) dX12_findNow_10 rfl H
set_option maxRecDepth 20000 in
theorem b_X12_can_0 {l : Launch} {g : am_G} {d : Nat} {σ : am_S} {k : Int32 → am_S → Prop}  {x1 x2 x3 x4 : Int32} (hd : 1 ≤ d) (H : (vp_in (((49 * x2) + (7 * x3)) + x4) 245 ∧ ((ar σ 73 ((((49 * x2) + (7 * x3)) + x4).toNatClampNeg) = 0 → k 0 σ) ∧ (¬ ar σ 73 ((((49 * x2) + (7 * x3)) + x4).toNatClampNeg) = 0 → (vp_in x2 5 ∧ ((¬ (x1 >>> ((2 * x3) &&& 31)) &&& 3 = ar σ 74 x2.toNatClampNeg → k 0 σ) ∧ ((x1 >>> ((2 * x3) &&& 31)) &&& 3 = ar σ 74 x2.toNatClampNeg → (vp_in x2 5 ∧ ((¬ (x1 >>> ((2 * x4) &&& 31)) &&& 3 = ar σ 75 x2.toNatClampNeg → k 0 σ) ∧ ((x1 >>> ((2 * x4) &&& 31)) &&& 3 = ar σ 75 x2.toNatClampNeg → k 1 σ)))))))))) : CI l g M_X12_can d [.ref 55, .int x1, .int x2, .int x3, .int x4] σ k := by
  show J l g (M_X12_can, d, 0, 0) 0 [(0, .ref 55), (1, .int x1), (2, .int x2), (3, .int x3), (4, .int x4)] [] (hp σ) 0 0 (kI k)
  refine j_aload_n (pc := 0) dX12_can_0 rfl ?_
  refine s_getr (pc := 1) dX12_can_1 fl_X12_70 shp_55 rfl ?_
  refine j_bipush (pc := 4) (v := 49) dX12_can_4 (by decide) ?_
  refine j_iload_n (pc := 6) dX12_can_6 rfl ?_
  refine j_imul (pc := 7) dX12_can_7 ?_
  refine j_bipush (pc := 8) (v := 7) dX12_can_8 (by decide) ?_
  refine j_iload_n (pc := 10) dX12_can_10 rfl ?_
  refine j_imul (pc := 11) dX12_can_11 ?_
  refine j_iadd (pc := 12) dX12_can_12 ?_
  refine j_iload (pc := 13) dX12_can_13 rfl ?_
  refine j_iadd (pc := 15) dX12_can_15 ?_
  have b16 := H.1
  replace H := H.2
  refine s_zald (pc := 16) (ar σ 73 ((((49 * x2) + (7 * x3)) + x4).toNatClampNeg)) dX12_can_16 shp_73 b16 rfl ?_
  refine j_if_eq (pc := 17) (t := 53) dX12_can_17 (by decide) (fun c17 => ?_) (fun c17 => ?_)
  · replace H := H.1 c17
    refine j_iconst (pc := 53) (v := 0) dX12_can_53 (by decide) ?_
    exact s_iretz (pc := 54) dX12_can_54 rfl rfl H
  · replace H := H.2 c17
    refine j_iload_n (pc := 20) dX12_can_20 rfl ?_
    refine j_iload_n (pc := 21) dX12_can_21 rfl ?_
    refine s_callS_i (pc := 22) (M1 := M_X12_roomIn) (n := 2) (as := [.int x1, .int x3]) (st := []) dX12_can_22 G_X12_roomIn wm_X12_165 (by decide +kernel) rfl (Nat.le_of_ble_eq_true rfl) (by show 1 ≤ d; omega) (Nat.le_of_ble_eq_true rfl) ?_
    refine C_X12_roomIn (d := d - 1) (by omega) ?_
    refine j_aload_n (pc := 25) dX12_can_25 rfl ?_
    refine s_getr (pc := 26) dX12_can_26 fl_X12_74 shp_55 rfl ?_
    refine j_iload_n (pc := 29) dX12_can_29 rfl ?_
    have b30 := H.1
    replace H := H.2
    refine s_iald (pc := 30) (ar σ 74 x2.toNatClampNeg) dX12_can_30 shp_74 b30 rfl ?_
    refine j_icmp_ne (pc := 31) (t := 53) dX12_can_31 (by decide) (fun c31 => ?_) (fun c31 => ?_)
    · replace H := H.1 c31
      refine j_iconst (pc := 53) (v := 0) dX12_can_53 (by decide) ?_
      exact s_iretz (pc := 54) dX12_can_54 rfl rfl H
    · replace H := H.2 c31
      refine j_iload_n (pc := 34) dX12_can_34 rfl ?_
      refine j_iload (pc := 35) dX12_can_35 rfl ?_
      refine s_callS_i (pc := 37) (M1 := M_X12_roomIn) (n := 2) (as := [.int x1, .int x4]) (st := []) dX12_can_37 G_X12_roomIn wm_X12_165 (by decide +kernel) rfl (Nat.le_of_ble_eq_true rfl) (by show 1 ≤ d; omega) (Nat.le_of_ble_eq_true rfl) ?_
      refine C_X12_roomIn (d := d - 1) (by omega) ?_
      refine j_aload_n (pc := 40) dX12_can_40 rfl ?_
      refine s_getr (pc := 41) dX12_can_41 fl_X12_77 shp_55 rfl ?_
      refine j_iload_n (pc := 44) dX12_can_44 rfl ?_
      have b45 := H.1
      replace H := H.2
      refine s_iald (pc := 45) (ar σ 75 x2.toNatClampNeg) dX12_can_45 shp_75 b45 rfl ?_
      refine j_icmp_ne (pc := 46) (t := 53) dX12_can_46 (by decide) (fun c46 => ?_) (fun c46 => ?_)
      · replace H := H.1 c46
        refine j_iconst (pc := 53) (v := 0) dX12_can_53 (by decide) ?_
        exact s_iretz (pc := 54) dX12_can_54 rfl rfl H
      · replace H := H.2 c46
        refine j_iconst (pc := 49) (v := 1) dX12_can_49 (by decide) ?_
        refine j_goto (pc := 50) (t := 54) dX12_can_50 (by decide) ?_
        exact s_iretz (pc := 54) dX12_can_54 rfl rfl H
set_option maxRecDepth 20000 in
theorem C_X12_swapped {l : Launch} {g : am_G} {d : Nat} {σ : am_S} {k : Int32 → am_S → Prop}  {x0 x1 x2 : Int32} (hd : 1 ≤ d) (H : k ((((x0 &&& (((3 : Int32) <<< ((2 * x1) &&& 31)) ^^^ (-1))) ||| (((x0 >>> ((2 * x2) &&& 31)) &&& 3) <<< ((2 * x1) &&& 31))) &&& (((3 : Int32) <<< ((2 * x2) &&& 31)) ^^^ (-1))) ||| (((x0 >>> ((2 * x1) &&& 31)) &&& 3) <<< ((2 * x2) &&& 31))) σ) : CI l g M_X12_swapped d [.int x0, .int x1, .int x2] σ k := by
  show J l g (M_X12_swapped, d, 0, 0) 0 [(0, .int x0), (1, .int x1), (2, .int x2)] [] (hp σ) 0 0 (kI k)
  refine j_iload_n (pc := 0) dX12_swapped_0 rfl ?_
  refine j_iload_n (pc := 1) dX12_swapped_1 rfl ?_
  refine j_iload_n (pc := 2) dX12_swapped_2 rfl ?_
  refine j_iload_n (pc := 3) dX12_swapped_3 rfl ?_
  refine s_callS_i (pc := 4) (M1 := M_X12_roomIn) (n := 2) (as := [.int x0, .int x2]) (st := [.int x1, .int x0]) dX12_swapped_4 G_X12_roomIn wm_X12_165 (by decide +kernel) rfl (Nat.le_of_ble_eq_true rfl) (by show 1 ≤ d; omega) (Nat.le_of_ble_eq_true rfl) ?_
  refine C_X12_roomIn (d := d - 1) (by omega) ?_
  refine s_callS_i (pc := 7) (M1 := M_X12_put1) (n := 3) (as := [.int x0, .int x1, .int ((x0 >>> ((2 * x2) &&& 31)) &&& 3)]) (st := []) dX12_swapped_7 G_X12_put1 wm_X12_131 (by decide +kernel) rfl (Nat.le_of_ble_eq_true rfl) (by show 1 ≤ d; omega) (Nat.le_of_ble_eq_true rfl) ?_
  refine C_X12_put1 (d := d - 1) (by omega) ?_
  refine j_iload_n (pc := 10) dX12_swapped_10 rfl ?_
  refine j_iload_n (pc := 11) dX12_swapped_11 rfl ?_
  refine j_iload_n (pc := 12) dX12_swapped_12 rfl ?_
  refine s_callS_i (pc := 13) (M1 := M_X12_roomIn) (n := 2) (as := [.int x0, .int x1]) (st := [.int x2, .int ((x0 &&& (((3 : Int32) <<< ((2 * x1) &&& 31)) ^^^ (-1))) ||| (((x0 >>> ((2 * x2) &&& 31)) &&& 3) <<< ((2 * x1) &&& 31)))]) dX12_swapped_13 G_X12_roomIn wm_X12_165 (by decide +kernel) rfl (Nat.le_of_ble_eq_true rfl) (by show 1 ≤ d; omega) (Nat.le_of_ble_eq_true rfl) ?_
  refine C_X12_roomIn (d := d - 1) (by omega) ?_
  refine s_callS_i (pc := 16) (M1 := M_X12_put1) (n := 3) (as := [.int ((x0 &&& (((3 : Int32) <<< ((2 * x1) &&& 31)) ^^^ (-1))) ||| (((x0 >>> ((2 * x2) &&& 31)) &&& 3) <<< ((2 * x1) &&& 31))), .int x2, .int ((x0 >>> ((2 * x1) &&& 31)) &&& 3)]) (st := []) dX12_swapped_16 G_X12_put1 wm_X12_131 (by decide +kernel) rfl (Nat.le_of_ble_eq_true rfl) (by show 1 ≤ d; omega) (Nat.le_of_ble_eq_true rfl) ?_
  refine C_X12_put1 (d := d - 1) (by omega) ?_
  exact s_ireti (pc := 19) dX12_swapped_19 rfl H
set_option maxRecDepth 20000 in
theorem b_X12_areTwo_0 {l : Launch} {g : am_G} {d : Nat} {σ : am_S} {k : Int32 → am_S → Prop}  {x1 : Int32} (hd : 2 ≤ d) (H : ((x1 < 0 → k 0 σ) ∧ (¬ x1 < 0 → ((((¬ x1 / 10 < 0 ∧ ¬ (rg σ 3526) - 1 < x1 / 10)) → ((((¬ x1 - x1 / 10 * 10 < 0 ∧ ¬ (rg σ 3526) - 1 < x1 - x1 / 10 * 10)) → ((x1 / 10 = x1 - x1 / 10 * 10 → k 0 σ) ∧ (¬ x1 / 10 = x1 - x1 / 10 * 10 → k 1 σ))) ∧ (¬ ((¬ x1 - x1 / 10 * 10 < 0 ∧ ¬ (rg σ 3526) - 1 < x1 - x1 / 10 * 10)) → k 0 σ))) ∧ (¬ ((¬ x1 / 10 < 0 ∧ ¬ (rg σ 3526) - 1 < x1 / 10)) → k 0 σ))))) : CI l g M_X12_areTwo d [.ref 55, .int x1] σ k := by
  show J l g (M_X12_areTwo, d, 0, 0) 0 [(0, .ref 55), (1, .int x1)] [] (hp σ) 0 0 (kI k)
  refine j_iload_n (pc := 0) dX12_areTwo_0 rfl ?_
  refine j_if_lt (pc := 1) (t := 41) dX12_areTwo_1 (by decide) (fun c1 => ?_) (fun c1 => ?_)
  · replace H := H.1 c1
    refine j_iconst (pc := 41) (v := 0) dX12_areTwo_41 (by decide) ?_
    exact s_iretz (pc := 42) dX12_areTwo_42 rfl rfl H
  · replace H := H.2 c1
    refine j_aload_n (pc := 4) dX12_areTwo_4 rfl ?_
    refine j_iload_n (pc := 5) dX12_areTwo_5 rfl ?_
    refine j_bipush (pc := 6) (v := 10) dX12_areTwo_6 (by decide) ?_
    refine j_idiv (pc := 8) dX12_areTwo_8 (by decide) ?_
    refine s_callV_i (pc := 9) (M1 := M_X12_isPerson) (n := 1) (as := [.int (x1 / 10)]) (a := 55) (st := []) dX12_areTwo_9 G_X12_isPerson wm_X12_155 (by decide +kernel) rfl (Nat.le_of_ble_eq_true rfl) shp_55 rfl (by show 1 ≤ d; omega) (Nat.le_of_ble_eq_true rfl) (Nat.zero_le _) (Nat.zero_le _) ?_
    refine C_X12_isPerson (d := d - 1) (by omega) ⟨fun c9 => ?_, fun c9 => ?_⟩
    · replace H := H.1 c9
      refine j_if_eq (pc := 12) (t := 41) dX12_areTwo_12 (by decide) (fun q => absurd q (by decide)) (fun _ => ?_)
      refine j_aload_n (pc := 15) dX12_areTwo_15 rfl ?_
      refine j_iload_n (pc := 16) dX12_areTwo_16 rfl ?_
      refine j_bipush (pc := 17) (v := 10) dX12_areTwo_17 (by decide) ?_
      refine j_irem (pc := 19) dX12_areTwo_19 (by decide) ?_
      refine s_callV_i (pc := 20) (M1 := M_X12_isPerson) (n := 1) (as := [.int (x1 - x1 / 10 * 10)]) (a := 55) (st := []) dX12_areTwo_20 G_X12_isPerson wm_X12_155 (by decide +kernel) rfl (Nat.le_of_ble_eq_true rfl) shp_55 rfl (by show 1 ≤ d; omega) (Nat.le_of_ble_eq_true rfl) (Nat.zero_le _) (Nat.zero_le _) ?_
      refine C_X12_isPerson (d := d - 1) (by omega) ⟨fun c20 => ?_, fun c20 => ?_⟩
      · replace H := H.1 c20
        refine j_if_eq (pc := 23) (t := 41) dX12_areTwo_23 (by decide) (fun q => absurd q (by decide)) (fun _ => ?_)
        refine j_iload_n (pc := 26) dX12_areTwo_26 rfl ?_
        refine j_bipush (pc := 27) (v := 10) dX12_areTwo_27 (by decide) ?_
        refine j_idiv (pc := 29) dX12_areTwo_29 (by decide) ?_
        refine j_iload_n (pc := 30) dX12_areTwo_30 rfl ?_
        refine j_bipush (pc := 31) (v := 10) dX12_areTwo_31 (by decide) ?_
        refine j_irem (pc := 33) dX12_areTwo_33 (by decide) ?_
        refine j_icmp_eq (pc := 34) (t := 41) dX12_areTwo_34 (by decide) (fun c34 => ?_) (fun c34 => ?_)
        · replace H := H.1 c34
          refine j_iconst (pc := 41) (v := 0) dX12_areTwo_41 (by decide) ?_
          exact s_iretz (pc := 42) dX12_areTwo_42 rfl rfl H
        · replace H := H.2 c34
          refine j_iconst (pc := 37) (v := 1) dX12_areTwo_37 (by decide) ?_
          refine j_goto (pc := 38) (t := 42) dX12_areTwo_38 (by decide) ?_
          exact s_iretz (pc := 42) dX12_areTwo_42 rfl rfl H
      · replace H := H.2 c20
        refine j_if_eq (pc := 23) (t := 41) dX12_areTwo_23 (by decide) (fun _ => ?_) (fun q => absurd q (by decide))
        refine j_iconst (pc := 41) (v := 0) dX12_areTwo_41 (by decide) ?_
        exact s_iretz (pc := 42) dX12_areTwo_42 rfl rfl H
    · replace H := H.2 c9
      refine j_if_eq (pc := 12) (t := 41) dX12_areTwo_12 (by decide) (fun _ => ?_) (fun q => absurd q (by decide))
      refine j_iconst (pc := 41) (v := 0) dX12_areTwo_41 (by decide) ?_
      exact s_iretz (pc := 42) dX12_areTwo_42 rfl rfl H
set_option maxRecDepth 20000 in
theorem b_X12_may_0 {l : Launch} {g : am_G} {d : Nat} {σ : am_S} {k : Int32 → am_S → Prop}  {x1 x2 : Int32} (hd : 2 ≤ d) (H : ((((¬ x1 < 0 ∧ ¬ (rg σ 3522) - 1 < x1)) → CI l g M_X12_areTwo (d - 1) [.ref 55, .int x2] σ (fun r2 σ2 => ((¬ r2 = 0 → CV l g M_X12_findNow (d - 1) [.ref 55] σ2 (fun σ3 => CI l g M_X12_can (d - 1) [.ref 55, .int (rg σ3 3529), .int x1, .int (x2 / 10), .int (x2 - x2 / 10 * 10)] σ3 (fun r4 σ4 => ((r4 = 0 → k 0 σ4) ∧ (¬ r4 = 0 → k 1 σ4))))) ∧ (r2 = 0 → k (-1) σ2)))) ∧ (¬ ((¬ x1 < 0 ∧ ¬ (rg σ 3522) - 1 < x1)) → k (-1) σ))) : CI l g M_X12_may d [.ref 55, .int x1, .int x2] σ k := by
  show J l g (M_X12_may, d, 0, 0) 0 [(0, .ref 55), (1, .int x1), (2, .int x2)] [] (hp σ) 0 0 (kI k)
  refine j_aload_n (pc := 0) dX12_may_0 rfl ?_
  refine j_iload_n (pc := 1) dX12_may_1 rfl ?_
  refine s_callV_i (pc := 2) (M1 := M_X12_isDoor) (n := 1) (as := [.int x1]) (a := 55) (st := []) dX12_may_2 G_X12_isDoor wm_X12_161 (by decide +kernel) rfl (Nat.le_of_ble_eq_true rfl) shp_55 rfl (by show 1 ≤ d; omega) (Nat.le_of_ble_eq_true rfl) (Nat.zero_le _) (Nat.zero_le _) ?_
  refine C_X12_isDoor (d := d - 1) (by omega) ⟨fun c2 => ?_, fun c2 => ?_⟩
  · replace H := H.1 c2
    refine j_if_eq (pc := 5) (t := 16) dX12_may_5 (by decide) (fun q => absurd q (by decide)) (fun _ => ?_)
    refine j_aload_n (pc := 8) dX12_may_8 rfl ?_
    refine j_iload_n (pc := 9) dX12_may_9 rfl ?_
    refine s_callV_i (pc := 10) (M1 := M_X12_areTwo) (n := 1) (as := [.int x2]) (a := 55) (st := []) dX12_may_10 G_X12_areTwo wm_X12_255 (by decide +kernel) rfl (Nat.le_of_ble_eq_true rfl) shp_55 rfl (by show 1 ≤ d; omega) (Nat.le_of_ble_eq_true rfl) (Nat.zero_le _) (Nat.zero_le _) ?_
    refine CI.mono H (fun r2 σ2 H => ?_)
    refine j_if_ne (pc := 13) (t := 18) dX12_may_13 (by decide) (fun c13 => ?_) (fun c13 => ?_)
    · replace H := H.1 c13
      refine j_aload_n (pc := 18) dX12_may_18 rfl ?_
      refine s_callV_v (pc := 19) (M1 := M_X12_findNow) (n := 0) (as := []) (a := 55) (st := []) dX12_may_19 G_X12_findNow wm_X12_258 (by decide +kernel) rfl (Nat.le_of_ble_eq_true rfl) shp_55 rfl (by show 1 ≤ d; omega) (Nat.le_of_ble_eq_true rfl) (Nat.zero_le _) (Nat.zero_le _) ?_
      refine CV.mono H (fun σ3 H => ?_)
      refine j_aload_n (pc := 22) dX12_may_22 rfl ?_
      refine j_aload_n (pc := 23) dX12_may_23 rfl ?_
      refine s_geti (pc := 24) 3529 (rg σ3 3529) dX12_may_24 fl_X12_128 shp_55 rfl rfl rfl ?_
      refine j_iload_n (pc := 27) dX12_may_27 rfl ?_
      refine j_iload_n (pc := 28) dX12_may_28 rfl ?_
      refine j_bipush (pc := 29) (v := 10) dX12_may_29 (by decide) ?_
      refine j_idiv (pc := 31) dX12_may_31 (by decide) ?_
      refine j_iload_n (pc := 32) dX12_may_32 rfl ?_
      refine j_bipush (pc := 33) (v := 10) dX12_may_33 (by decide) ?_
      refine j_irem (pc := 35) dX12_may_35 (by decide) ?_
      refine s_callV_i (pc := 36) (M1 := M_X12_can) (n := 4) (as := [.int (rg σ3 3529), .int x1, .int (x2 / 10), .int (x2 - x2 / 10 * 10)]) (a := 55) (st := []) dX12_may_36 G_X12_can wm_X12_261 (by decide +kernel) rfl (Nat.le_of_ble_eq_true rfl) shp_55 rfl (by show 1 ≤ d; omega) (Nat.le_of_ble_eq_true rfl) (Nat.zero_le _) (Nat.zero_le _) ?_
      refine CI.mono H (fun r4 σ4 H => ?_)
      refine j_if_eq (pc := 39) (t := 46) dX12_may_39 (by decide) (fun c39 => ?_) (fun c39 => ?_)
      · replace H := H.1 c39
        refine j_iconst (pc := 46) (v := 0) dX12_may_46 (by decide) ?_
        exact s_ireti (pc := 47) dX12_may_47 rfl H
      · replace H := H.2 c39
        refine j_iconst (pc := 42) (v := 1) dX12_may_42 (by decide) ?_
        refine j_goto (pc := 43) (t := 47) dX12_may_43 (by decide) ?_
        exact s_ireti (pc := 47) dX12_may_47 rfl H
    · replace H := H.2 c13
      refine j_iconst (pc := 16) (v := -1) dX12_may_16 (by decide) ?_
      exact s_ireti (pc := 17) dX12_may_17 rfl H
  · replace H := H.2 c2
    refine j_if_eq (pc := 5) (t := 16) dX12_may_5 (by decide) (fun _ => ?_) (fun q => absurd q (by decide))
    refine j_iconst (pc := 16) (v := -1) dX12_may_16 (by decide) ?_
    exact s_ireti (pc := 17) dX12_may_17 rfl H
set_option maxRecDepth 20000 in
theorem b_X12_changes_0 {l : Launch} {g : am_G} {d : Nat} {σ : am_S} {k : Int32 → am_S → Prop}  {x1 : Int32} (hd : 1 ≤ d) (H : (((-1) ≤ x1 → CV l g M_X12_findNow (d - 1) [.ref 55] σ (fun σ1 => JI l g M_X12_changes d 15 [(0, .ref 55), (1, .int x1), (2, .int 0), (3, .int 0)] [] σ1 k)) ∧ (¬ (-1) ≤ x1 → k (-1) σ))) : CI l g M_X12_changes d [.ref 55, .int x1] σ k := by
  show J l g (M_X12_changes, d, 0, 0) 0 [(0, .ref 55), (1, .int x1)] [] (hp σ) 0 0 (kI k)
  refine j_iload_n (pc := 0) dX12_changes_0 rfl ?_
  refine j_iconst (pc := 1) (v := -1) dX12_changes_1 (by decide) ?_
  refine j_icmp_ge (pc := 2) (t := 7) dX12_changes_2 (by decide) (fun c2 => ?_) (fun c2 => ?_)
  · replace H := H.1 c2
    refine j_aload_n (pc := 7) dX12_changes_7 rfl ?_
    refine s_callV_v (pc := 8) (M1 := M_X12_findNow) (n := 0) (as := []) (a := 55) (st := []) dX12_changes_8 G_X12_findNow wm_X12_258 (by decide +kernel) rfl (Nat.le_of_ble_eq_true rfl) shp_55 rfl (by show 1 ≤ d; omega) (Nat.le_of_ble_eq_true rfl) (Nat.zero_le _) (Nat.zero_le _) ?_
    refine CV.mono H (fun σ1 H => ?_)
    refine j_iconst (pc := 11) (v := 0) dX12_changes_11 (by decide) ?_
    refine j_istore_n (pc := 12) (lv1 := [(2, .int 0), (0, .ref 55), (1, .int x1)]) dX12_changes_12 (Nat.le_of_ble_eq_true rfl) rfl ?_
    refine j_iconst (pc := 13) (v := 0) dX12_changes_13 (by decide) ?_
    refine j_istore_n (pc := 14) (lv1 := [(3, .int 0), (2, .int 0), (0, .ref 55), (1, .int x1)]) dX12_changes_14 (Nat.le_of_ble_eq_true rfl) rfl ?_
    refine j_sub [2, 3, 1, 0] rfl ?_
    exact H
  · replace H := H.2 c2
    refine j_iconst (pc := 5) (v := -1) dX12_changes_5 (by decide) ?_
    exact s_ireti (pc := 6) dX12_changes_6 rfl H
set_option maxRecDepth 20000 in
theorem b_X12_changes_15 {l : Launch} {g : am_G} {d : Nat} {σ : am_S} {k : Int32 → am_S → Prop}  {x1 x2 x3 : Int32} (H : ((rg σ 3522 ≤ x3 → ((0 ≤ x1 → k (-1) σ) ∧ (¬ 0 ≤ x1 → k x2 σ))) ∧ (¬ rg σ 3522 ≤ x3 → JI l g M_X12_changes d 26 [(0, .ref 55), (1, .int x1), (2, .int x2), (3, .int x3), (4, .int 0)] [] σ k))) : JI l g M_X12_changes d 15 [(0, .ref 55), (1, .int x1), (2, .int x2), (3, .int x3)] [] σ k := by
  show J l g (M_X12_changes, d, 0, 0) 15 [(0, .ref 55), (1, .int x1), (2, .int x2), (3, .int x3)] [] (hp σ) 0 0 (kI k)
  refine j_iload_n (pc := 15) dX12_changes_15 rfl ?_
  refine j_aload_n (pc := 16) dX12_changes_16 rfl ?_
  refine s_geti (pc := 17) 3522 (rg σ 3522) dX12_changes_17 fl_X12_118 shp_55 rfl rfl rfl ?_
  refine j_icmp_ge (pc := 20) (t := 106) dX12_changes_20 (by decide) (fun c20 => ?_) (fun c20 => ?_)
  · replace H := H.1 c20
    refine j_iload_n (pc := 106) dX12_changes_106 rfl ?_
    refine j_if_ge (pc := 107) (t := 114) dX12_changes_107 (by decide) (fun c107 => ?_) (fun c107 => ?_)
    · replace H := H.1 c107
      refine j_iconst (pc := 114) (v := -1) dX12_changes_114 (by decide) ?_
      exact s_ireti (pc := 115) dX12_changes_115 rfl H
    · replace H := H.2 c107
      refine j_iload_n (pc := 110) dX12_changes_110 rfl ?_
      refine j_goto (pc := 111) (t := 115) dX12_changes_111 (by decide) ?_
      exact s_ireti (pc := 115) dX12_changes_115 rfl H
  · replace H := H.2 c20
    refine j_iconst (pc := 23) (v := 0) dX12_changes_23 (by decide) ?_
    refine j_istore (pc := 24) (lv1 := [(4, .int 0), (0, .ref 55), (1, .int x1), (2, .int x2), (3, .int x3)]) dX12_changes_24 (Nat.le_of_ble_eq_true rfl) rfl ?_
    refine j_sub [1, 2, 3, 4, 0] rfl ?_
    exact H
set_option maxRecDepth 20000 in
theorem b_X12_changes_26 {l : Launch} {g : am_G} {d : Nat} {σ : am_S} {k : Int32 → am_S → Prop}  {x1 x2 x3 x4 : Int32} (H : ((rg σ 3526 ≤ x4 → JI l g M_X12_changes d 15 [(0, .ref 55), (1, .int x1), (2, .int x2), (3, .int (x3 + 1))] [] σ k) ∧ (¬ rg σ 3526 ≤ x4 → JI l g M_X12_changes d 38 [(0, .ref 55), (1, .int x1), (2, .int x2), (3, .int x3), (4, .int x4), (5, .int 0)] [] σ k))) : JI l g M_X12_changes d 26 [(0, .ref 55), (1, .int x1), (2, .int x2), (3, .int x3), (4, .int x4)] [] σ k := by
  show J l g (M_X12_changes, d, 0, 0) 26 [(0, .ref 55), (1, .int x1), (2, .int x2), (3, .int x3), (4, .int x4)] [] (hp σ) 0 0 (kI k)
  refine j_iload (pc := 26) dX12_changes_26 rfl ?_
  refine j_aload_n (pc := 28) dX12_changes_28 rfl ?_
  refine s_geti (pc := 29) 3526 (rg σ 3526) dX12_changes_29 fl_X12_121 shp_55 rfl rfl rfl ?_
  refine j_icmp_ge (pc := 32) (t := 100) dX12_changes_32 (by decide) (fun c32 => ?_) (fun c32 => ?_)
  · replace H := H.1 c32
    refine j_iinc (pc := 100) (k := 3) (v := x3 + 1) (lv1 := [(3, .int (x3 + 1)), (0, .ref 55), (1, .int x1), (2, .int x2), (4, .int x4)]) dX12_changes_100 rfl rfl (Nat.le_of_ble_eq_true rfl) rfl ?_
    refine j_goto (pc := 103) (t := 15) dX12_changes_103 (by decide) ?_
    refine j_sub [1, 2, 3, 0] rfl ?_
    exact H
  · replace H := H.2 c32
    refine j_iconst (pc := 35) (v := 0) dX12_changes_35 (by decide) ?_
    refine j_istore (pc := 36) (lv1 := [(5, .int 0), (0, .ref 55), (1, .int x1), (2, .int x2), (3, .int x3), (4, .int x4)]) dX12_changes_36 (Nat.le_of_ble_eq_true rfl) rfl ?_
    refine j_sub [1, 2, 3, 4, 5, 0] rfl ?_
    exact H
set_option maxRecDepth 20000 in
theorem b_X12_changes_38 {l : Launch} {g : am_G} {d : Nat} {σ : am_S} {k : Int32 → am_S → Prop}  {x1 x2 x3 x4 x5 : Int32} (hd : 1 ≤ d) (H : ((rg σ 3526 ≤ x5 → JI l g M_X12_changes d 26 [(0, .ref 55), (1, .int x1), (2, .int x2), (3, .int x3), (4, .int (x4 + 1))] [] σ k) ∧ (¬ rg σ 3526 ≤ x5 → CI l g M_X12_can (d - 1) [.ref 55, .int (rg σ 3529), .int x3, .int x4, .int x5] σ (fun r1 σ1 => ((¬ r1 = 0 → ((¬ x2 = x1 → JI l g M_X12_changes d 38 [(0, .ref 55), (1, .int x1), (2, .int (x2 + 1)), (3, .int x3), (4, .int x4), (5, .int (x5 + 1))] [] σ1 k) ∧ (x2 = x1 → k (((100 * x3) + (10 * x4)) + x5) σ1))) ∧ (r1 = 0 → JI l g M_X12_changes d 38 [(0, .ref 55), (1, .int x1), (2, .int x2), (3, .int x3), (4, .int x4), (5, .int (x5 + 1))] [] σ1 k)))))) : JI l g M_X12_changes d 38 [(0, .ref 55), (1, .int x1), (2, .int x2), (3, .int x3), (4, .int x4), (5, .int x5)] [] σ k := by
  show J l g (M_X12_changes, d, 0, 0) 38 [(0, .ref 55), (1, .int x1), (2, .int x2), (3, .int x3), (4, .int x4), (5, .int x5)] [] (hp σ) 0 0 (kI k)
  refine j_iload (pc := 38) dX12_changes_38 rfl ?_
  refine j_aload_n (pc := 40) dX12_changes_40 rfl ?_
  refine s_geti (pc := 41) 3526 (rg σ 3526) dX12_changes_41 fl_X12_121 shp_55 rfl rfl rfl ?_
  refine j_icmp_ge (pc := 44) (t := 94) dX12_changes_44 (by decide) (fun c44 => ?_) (fun c44 => ?_)
  · replace H := H.1 c44
    refine j_iinc (pc := 94) (k := 4) (v := x4 + 1) (lv1 := [(4, .int (x4 + 1)), (0, .ref 55), (1, .int x1), (2, .int x2), (3, .int x3), (5, .int x5)]) dX12_changes_94 rfl rfl (Nat.le_of_ble_eq_true rfl) rfl ?_
    refine j_goto (pc := 97) (t := 26) dX12_changes_97 (by decide) ?_
    refine j_sub [1, 2, 3, 4, 0] rfl ?_
    exact H
  · replace H := H.2 c44
    refine j_aload_n (pc := 47) dX12_changes_47 rfl ?_
    refine j_aload_n (pc := 48) dX12_changes_48 rfl ?_
    refine s_geti (pc := 49) 3529 (rg σ 3529) dX12_changes_49 fl_X12_128 shp_55 rfl rfl rfl ?_
    refine j_iload_n (pc := 52) dX12_changes_52 rfl ?_
    refine j_iload (pc := 53) dX12_changes_53 rfl ?_
    refine j_iload (pc := 55) dX12_changes_55 rfl ?_
    refine s_callV_i (pc := 57) (M1 := M_X12_can) (n := 4) (as := [.int (rg σ 3529), .int x3, .int x4, .int x5]) (a := 55) (st := []) dX12_changes_57 G_X12_can wm_X12_261 (by decide +kernel) rfl (Nat.le_of_ble_eq_true rfl) shp_55 rfl (by show 1 ≤ d; omega) (Nat.le_of_ble_eq_true rfl) (Nat.zero_le _) (Nat.zero_le _) ?_
    refine CI.mono H (fun r1 σ1 H => ?_)
    refine j_if_ne (pc := 60) (t := 66) dX12_changes_60 (by decide) (fun c60 => ?_) (fun c60 => ?_)
    · replace H := H.1 c60
      refine j_iload_n (pc := 66) dX12_changes_66 rfl ?_
      refine j_iload_n (pc := 67) dX12_changes_67 rfl ?_
      refine j_icmp_ne (pc := 68) (t := 85) dX12_changes_68 (by decide) (fun c68 => ?_) (fun c68 => ?_)
      · replace H := H.1 c68
        refine j_iinc (pc := 85) (k := 2) (v := x2 + 1) (lv1 := [(2, .int (x2 + 1)), (0, .ref 55), (1, .int x1), (3, .int x3), (4, .int x4), (5, .int x5)]) dX12_changes_85 rfl rfl (Nat.le_of_ble_eq_true rfl) rfl ?_
        refine j_iinc (pc := 88) (k := 5) (v := x5 + 1) (lv1 := [(5, .int (x5 + 1)), (2, .int (x2 + 1)), (0, .ref 55), (1, .int x1), (3, .int x3), (4, .int x4)]) dX12_changes_88 rfl rfl (Nat.le_of_ble_eq_true rfl) rfl ?_
        refine j_goto (pc := 91) (t := 38) dX12_changes_91 (by decide) ?_
        refine j_sub [2, 3, 1, 4, 5, 0] rfl ?_
        exact H
      · replace H := H.2 c68
        refine j_bipush (pc := 71) (v := 100) dX12_changes_71 (by decide) ?_
        refine j_iload_n (pc := 73) dX12_changes_73 rfl ?_
        refine j_imul (pc := 74) dX12_changes_74 ?_
        refine j_bipush (pc := 75) (v := 10) dX12_changes_75 (by decide) ?_
        refine j_iload (pc := 77) dX12_changes_77 rfl ?_
        refine j_imul (pc := 79) dX12_changes_79 ?_
        refine j_iadd (pc := 80) dX12_changes_80 ?_
        refine j_iload (pc := 81) dX12_changes_81 rfl ?_
        refine j_iadd (pc := 83) dX12_changes_83 ?_
        exact s_ireti (pc := 84) dX12_changes_84 rfl H
    · replace H := H.2 c60
      refine j_goto (pc := 63) (t := 88) dX12_changes_63 (by decide) ?_
      refine j_iinc (pc := 88) (k := 5) (v := x5 + 1) (lv1 := [(5, .int (x5 + 1)), (0, .ref 55), (1, .int x1), (2, .int x2), (3, .int x3), (4, .int x4)]) dX12_changes_88 rfl rfl (Nat.le_of_ble_eq_true rfl) rfl ?_
      refine j_goto (pc := 91) (t := 38) dX12_changes_91 (by decide) ?_
      refine j_sub [1, 2, 3, 4, 5, 0] rfl ?_
      exact H
set_option maxRecDepth 20000 in
theorem b_X12_change_0 {l : Launch} {g : am_G} {d : Nat} {σ : am_S} {k : Int32 → am_S → Prop}  {x1 x2 : Int32} (hd : 2 ≤ d) (H : ((((¬ x1 < 0 ∧ ¬ (rg σ 3522) - 1 < x1)) → CI l g M_X12_areTwo (d - 1) [.ref 55, .int x2] σ (fun r2 σ2 => ((¬ r2 = 0 → CV l g M_X12_findNow (d - 1) [.ref 55] σ2 (fun σ3 => CI l g M_X12_can (d - 1) [.ref 55, .int (rg σ3 3529), .int x1, .int (x2 / 10), .int (x2 - x2 / 10 * 10)] σ3 (fun r4 σ4 => ((¬ r4 = 0 → k ((rg σ4 3555) + 1) (sR (sR (sR σ4 3529 (((((rg σ4 3529) &&& (((3 : Int32) <<< ((2 * (x2 / 10)) &&& 31)) ^^^ (-1))) ||| ((((rg σ4 3529) >>> ((2 * (x2 - x2 / 10 * 10)) &&& 31)) &&& 3) <<< ((2 * (x2 / 10)) &&& 31))) &&& (((3 : Int32) <<< ((2 * (x2 - x2 / 10 * 10)) &&& 31)) ^^^ (-1))) ||| ((((rg σ4 3529) >>> ((2 * (x2 / 10)) &&& 31)) &&& 3) <<< ((2 * (x2 - x2 / 10 * 10)) &&& 31)))) 3556 ((100 * x1) + x2)) 3555 ((rg σ4 3555) + 1))) ∧ (r4 = 0 → k (-2) σ4))))) ∧ (r2 = 0 → k (-1) σ2)))) ∧ (¬ ((¬ x1 < 0 ∧ ¬ (rg σ 3522) - 1 < x1)) → k (-1) σ))) : CI l g M_X12_change d [.ref 55, .int x1, .int x2] σ k := by
  show J l g (M_X12_change, d, 0, 0) 0 [(0, .ref 55), (1, .int x1), (2, .int x2)] [] (hp σ) 0 0 (kI k)
  refine j_aload_n (pc := 0) dX12_change_0 rfl ?_
  refine j_iload_n (pc := 1) dX12_change_1 rfl ?_
  refine s_callV_i (pc := 2) (M1 := M_X12_isDoor) (n := 1) (as := [.int x1]) (a := 55) (st := []) dX12_change_2 G_X12_isDoor wm_X12_161 (by decide +kernel) rfl (Nat.le_of_ble_eq_true rfl) shp_55 rfl (by show 1 ≤ d; omega) (Nat.le_of_ble_eq_true rfl) (Nat.zero_le _) (Nat.zero_le _) ?_
  refine C_X12_isDoor (d := d - 1) (by omega) ⟨fun c2 => ?_, fun c2 => ?_⟩
  · replace H := H.1 c2
    refine j_if_eq (pc := 5) (t := 16) dX12_change_5 (by decide) (fun q => absurd q (by decide)) (fun _ => ?_)
    refine j_aload_n (pc := 8) dX12_change_8 rfl ?_
    refine j_iload_n (pc := 9) dX12_change_9 rfl ?_
    refine s_callV_i (pc := 10) (M1 := M_X12_areTwo) (n := 1) (as := [.int x2]) (a := 55) (st := []) dX12_change_10 G_X12_areTwo wm_X12_255 (by decide +kernel) rfl (Nat.le_of_ble_eq_true rfl) shp_55 rfl (by show 1 ≤ d; omega) (Nat.le_of_ble_eq_true rfl) (Nat.zero_le _) (Nat.zero_le _) ?_
    refine CI.mono H (fun r2 σ2 H => ?_)
    refine j_if_ne (pc := 13) (t := 18) dX12_change_13 (by decide) (fun c13 => ?_) (fun c13 => ?_)
    · replace H := H.1 c13
      refine j_aload_n (pc := 18) dX12_change_18 rfl ?_
      refine s_callV_v (pc := 19) (M1 := M_X12_findNow) (n := 0) (as := []) (a := 55) (st := []) dX12_change_19 G_X12_findNow wm_X12_258 (by decide +kernel) rfl (Nat.le_of_ble_eq_true rfl) shp_55 rfl (by show 1 ≤ d; omega) (Nat.le_of_ble_eq_true rfl) (Nat.zero_le _) (Nat.zero_le _) ?_
      refine CV.mono H (fun σ3 H => ?_)
      refine j_aload_n (pc := 22) dX12_change_22 rfl ?_
      refine j_aload_n (pc := 23) dX12_change_23 rfl ?_
      refine s_geti (pc := 24) 3529 (rg σ3 3529) dX12_change_24 fl_X12_128 shp_55 rfl rfl rfl ?_
      refine j_iload_n (pc := 27) dX12_change_27 rfl ?_
      refine j_iload_n (pc := 28) dX12_change_28 rfl ?_
      refine j_bipush (pc := 29) (v := 10) dX12_change_29 (by decide) ?_
      refine j_idiv (pc := 31) dX12_change_31 (by decide) ?_
      refine j_iload_n (pc := 32) dX12_change_32 rfl ?_
      refine j_bipush (pc := 33) (v := 10) dX12_change_33 (by decide) ?_
      refine j_irem (pc := 35) dX12_change_35 (by decide) ?_
      refine s_callV_i (pc := 36) (M1 := M_X12_can) (n := 4) (as := [.int (rg σ3 3529), .int x1, .int (x2 / 10), .int (x2 - x2 / 10 * 10)]) (a := 55) (st := []) dX12_change_36 G_X12_can wm_X12_261 (by decide +kernel) rfl (Nat.le_of_ble_eq_true rfl) shp_55 rfl (by show 1 ≤ d; omega) (Nat.le_of_ble_eq_true rfl) (Nat.zero_le _) (Nat.zero_le _) ?_
      refine CI.mono H (fun r4 σ4 H => ?_)
      refine j_if_ne (pc := 39) (t := 45) dX12_change_39 (by decide) (fun c39 => ?_) (fun c39 => ?_)
      · replace H := H.1 c39
        refine j_aload_n (pc := 45) dX12_change_45 rfl ?_
        refine j_aload_n (pc := 46) dX12_change_46 rfl ?_
        refine s_geti (pc := 47) 3529 (rg σ4 3529) dX12_change_47 fl_X12_128 shp_55 rfl rfl rfl ?_
        refine j_iload_n (pc := 50) dX12_change_50 rfl ?_
        refine j_bipush (pc := 51) (v := 10) dX12_change_51 (by decide) ?_
        refine j_idiv (pc := 53) dX12_change_53 (by decide) ?_
        refine j_iload_n (pc := 54) dX12_change_54 rfl ?_
        refine j_bipush (pc := 55) (v := 10) dX12_change_55 (by decide) ?_
        refine j_irem (pc := 57) dX12_change_57 (by decide) ?_
        refine s_callS_i (pc := 58) (M1 := M_X12_swapped) (n := 3) (as := [.int (rg σ4 3529), .int (x2 / 10), .int (x2 - x2 / 10 * 10)]) (st := [.ref 55]) dX12_change_58 G_X12_swapped wm_X12_265 (by decide +kernel) rfl (Nat.le_of_ble_eq_true rfl) (by show 1 ≤ d; omega) (Nat.le_of_ble_eq_true rfl) ?_
        refine C_X12_swapped (d := d - 1) (by omega) ?_
        refine s_put (pc := 61) 3529 dX12_change_61 fl_X12_128 shp_55 rfl rfl fp_12_9 rfl rfl ?_
        refine j_aload_n (pc := 64) dX12_change_64 rfl ?_
        refine j_bipush (pc := 65) (v := 100) dX12_change_65 (by decide) ?_
        refine j_iload_n (pc := 67) dX12_change_67 rfl ?_
        refine j_imul (pc := 68) dX12_change_68 ?_
        refine j_iload_n (pc := 69) dX12_change_69 rfl ?_
        refine j_iadd (pc := 70) dX12_change_70 ?_
        refine s_put (pc := 71) 3556 dX12_change_71 fl_X12_268 shp_55 rfl rfl fp_12_36 rfl rfl ?_
        refine j_aload_n (pc := 74) dX12_change_74 rfl ?_
        refine j_dup (pc := 75) dX12_change_75 rfl ?_
        refine s_geti (pc := 76) 3555 (rg σ4 3555) dX12_change_76 fl_X12_271 shp_55 rfl rfl rfl ?_
        refine j_iconst (pc := 79) (v := 1) dX12_change_79 (by decide) ?_
        refine j_iadd (pc := 80) dX12_change_80 ?_
        refine s_put (pc := 81) 3555 dX12_change_81 fl_X12_271 shp_55 rfl rfl fp_12_35 rfl rfl ?_
        refine j_aload_n (pc := 84) dX12_change_84 rfl ?_
        refine s_geti (pc := 85) 3555 ((rg σ4 3555) + 1) dX12_change_85 fl_X12_271 shp_55 rfl rfl rfl ?_
        exact s_ireti (pc := 88) dX12_change_88 rfl H
      · replace H := H.2 c39
        refine j_bipush (pc := 42) (v := -2) dX12_change_42 (by decide) ?_
        exact s_ireti (pc := 44) dX12_change_44 rfl H
    · replace H := H.2 c13
      refine j_iconst (pc := 16) (v := -1) dX12_change_16 (by decide) ?_
      exact s_ireti (pc := 17) dX12_change_17 rfl H
  · replace H := H.2 c2
    refine j_if_eq (pc := 5) (t := 16) dX12_change_5 (by decide) (fun _ => ?_) (fun q => absurd q (by decide))
    refine j_iconst (pc := 16) (v := -1) dX12_change_16 (by decide) ?_
    exact s_ireti (pc := 17) dX12_change_17 rfl H
set_option maxRecDepth 20000 in
theorem b_X12_led_0 {l : Launch} {g : am_G} {d : Nat} {σ : am_S} {k : Int32 → am_S → Prop}  {x1 : Int32} (hd : 1 ≤ d) (H : (((¬ x1 < 0 ∧ ¬ 1 < x1) → ((¬ x1 = 0 → ((¬ rg σ 3555 = 0 → k (rg σ 3556) σ) ∧ (rg σ 3555 = 0 → k (-5) σ))) ∧ (x1 = 0 → k (rg σ 3555) σ))) ∧ (¬ (¬ x1 < 0 ∧ ¬ 1 < x1) → k (-1) σ))) : CI l g M_X12_led d [.ref 55, .int x1] σ k := by
  show J l g (M_X12_led, d, 0, 0) 0 [(0, .ref 55), (1, .int x1)] [] (hp σ) 0 0 (kI k)
  refine j_iload_n (pc := 0) dX12_led_0 rfl ?_
  refine j_iconst (pc := 1) (v := 0) dX12_led_1 (by decide) ?_
  refine j_iconst (pc := 2) (v := 1) dX12_led_2 (by decide) ?_
  refine s_callS_i (pc := 3) (M1 := M_X12_in) (n := 3) (as := [.int x1, .int 0, .int 1]) (st := []) dX12_led_3 G_X12_in wm_X12_114 (by decide +kernel) rfl (Nat.le_of_ble_eq_true rfl) (by show 1 ≤ d; omega) (Nat.le_of_ble_eq_true rfl) ?_
  refine C_X12_in (d := d - 1) (by omega) ⟨fun c3 => ?_, fun c3 => ?_⟩
  · replace H := H.1 c3
    refine j_if_ne (pc := 6) (t := 11) dX12_led_6 (by decide) (fun _ => ?_) (fun q => absurd q (by decide))
    refine j_iload_n (pc := 11) dX12_led_11 rfl ?_
    refine j_if_ne (pc := 12) (t := 20) dX12_led_12 (by decide) (fun c12 => ?_) (fun c12 => ?_)
    · replace H := H.1 c12
      refine j_aload_n (pc := 20) dX12_led_20 rfl ?_
      refine s_geti (pc := 21) 3555 (rg σ 3555) dX12_led_21 fl_X12_271 shp_55 rfl rfl rfl ?_
      refine j_if_ne (pc := 24) (t := 32) dX12_led_24 (by decide) (fun c24 => ?_) (fun c24 => ?_)
      · replace H := H.1 c24
        refine j_aload_n (pc := 32) dX12_led_32 rfl ?_
        refine s_geti (pc := 33) 3556 (rg σ 3556) dX12_led_33 fl_X12_268 shp_55 rfl rfl rfl ?_
        exact s_ireti (pc := 36) dX12_led_36 rfl H
      · replace H := H.2 c24
        refine j_bipush (pc := 27) (v := -5) dX12_led_27 (by decide) ?_
        refine j_goto (pc := 29) (t := 36) dX12_led_29 (by decide) ?_
        exact s_ireti (pc := 36) dX12_led_36 rfl H
    · replace H := H.2 c12
      refine j_aload_n (pc := 15) dX12_led_15 rfl ?_
      refine s_geti (pc := 16) 3555 (rg σ 3555) dX12_led_16 fl_X12_271 shp_55 rfl rfl rfl ?_
      exact s_ireti (pc := 19) dX12_led_19 rfl H
  · replace H := H.2 c3
    refine j_if_ne (pc := 6) (t := 11) dX12_led_6 (by decide) (fun q => absurd q (by decide)) (fun _ => ?_)
    refine j_iconst (pc := 9) (v := -1) dX12_led_9 (by decide) ?_
    exact s_ireti (pc := 10) dX12_led_10 rfl H
