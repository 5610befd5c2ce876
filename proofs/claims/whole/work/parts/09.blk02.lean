/-! what each stretch of the program does (laid by program) -/
set_option maxRecDepth 20000 in
theorem b_X4_becomes_0 {l : Launch} {g : am_G} {d : Nat} {σ : am_S} {k : am_S → Prop}  {x2 : Int32} (H : ((x2 ≤ 121 → JV l g M_X4_becomes d 24 [(0, .ref 11), (1, .ref 10), (2, .int x2), (3, .int 0)] [] (sR σ 705 x2) k) ∧ (¬ x2 ≤ 121 → JV l g M_X4_becomes d 24 [(0, .ref 11), (1, .ref 10), (2, .int x2), (3, .int 0)] [] (sR σ 705 121) k))) : CV l g M_X4_becomes d [.ref 11, .ref 10, .int x2] σ k := by
  show J l g (M_X4_becomes, d, 0, 0) 0 [(0, .ref 11), (1, .ref 10), (2, .int x2)] [] (hp σ) 0 0 (kV k)
  refine j_aload_n (pc := 0) dX4_becomes_0 rfl ?_
  refine j_iload_n (pc := 1) dX4_becomes_1 rfl ?_
  refine j_aload_n (pc := 2) dX4_becomes_2 rfl ?_
  refine s_getr (pc := 3) dX4_becomes_3 fl_X4_9 shp_11 rfl ?_
  refine s_alen (pc := 6) (t0 := 0) (v := 121) dX4_becomes_6 shp_12 rfl rfl ?_
  refine j_icmp_le (pc := 7) (t := 18) dX4_becomes_7 (by decide) (fun c7 => ?_) (fun c7 => ?_)
  · replace H := H.1 c7
    refine j_iload_n (pc := 18) dX4_becomes_18 rfl ?_
    refine s_put (pc := 19) 705 dX4_becomes_19 fl_X4_15 shp_11 rfl rfl fp_4_1 rfl rfl ?_
    refine j_iconst (pc := 22) (v := 0) dX4_becomes_22 (by decide) ?_
    refine j_istore_n (pc := 23) (lv1 := [(3, .int 0), (0, .ref 11), (1, .ref 10), (2, .int x2)]) dX4_becomes_23 (Nat.le_of_ble_eq_true rfl) rfl ?_
    refine j_sub [1, 2, 3, 0] rfl ?_
    exact H
  · replace H := H.2 c7
    refine j_aload_n (pc := 10) dX4_becomes_10 rfl ?_
    refine s_getr (pc := 11) dX4_becomes_11 fl_X4_9 shp_11 rfl ?_
    refine s_alen (pc := 14) (t0 := 0) (v := 121) dX4_becomes_14 shp_12 rfl rfl ?_
    refine j_goto (pc := 15) (t := 19) dX4_becomes_15 (by decide) ?_
    refine s_put (pc := 19) 705 dX4_becomes_19 fl_X4_15 shp_11 rfl rfl fp_4_1 rfl rfl ?_
    refine j_iconst (pc := 22) (v := 0) dX4_becomes_22 (by decide) ?_
    refine j_istore_n (pc := 23) (lv1 := [(3, .int 0), (0, .ref 11), (1, .ref 10), (2, .int x2)]) dX4_becomes_23 (Nat.le_of_ble_eq_true rfl) rfl ?_
    refine j_sub [1, 2, 3, 0] rfl ?_
    exact H
set_option maxRecDepth 20000 in
theorem b_X4_becomes_24 {l : Launch} {g : am_G} {d : Nat} {σ : am_S} {k : am_S → Prop}  {x2 x3 : Int32} (H : ((rg σ 705 ≤ x3 → k σ) ∧ (¬ rg σ 705 ≤ x3 → ((121 ≤ x3 → k σ) ∧ (¬ 121 ≤ x3 → (vp_in x3 121 ∧ (vp_in x3 121 ∧ JV l g M_X4_becomes d 24 [(0, .ref 11), (1, .ref 10), (2, .int x2), (3, .int (x3 + 1))] [] (sA σ 12 x3.toNatClampNeg (ar σ 10 x3.toNatClampNeg)) k))))))) : JV l g M_X4_becomes d 24 [(0, .ref 11), (1, .ref 10), (2, .int x2), (3, .int x3)] [] σ k := by
  show J l g (M_X4_becomes, d, 0, 0) 24 [(0, .ref 11), (1, .ref 10), (2, .int x2), (3, .int x3)] [] (hp σ) 0 0 (kV k)
  refine j_iload_n (pc := 24) dX4_becomes_24 rfl ?_
  refine j_aload_n (pc := 25) dX4_becomes_25 rfl ?_
  refine s_geti (pc := 26) 705 (rg σ 705) dX4_becomes_26 fl_X4_15 shp_11 rfl rfl rfl ?_
  refine j_icmp_ge (pc := 29) (t := 53) dX4_becomes_29 (by decide) (fun c29 => ?_) (fun c29 => ?_)
  · replace H := H.1 c29
    exact s_vret (pc := 53) dX4_becomes_53 rfl H
  · replace H := H.2 c29
    refine j_iload_n (pc := 32) dX4_becomes_32 rfl ?_
    refine j_aload_n (pc := 33) dX4_becomes_33 rfl ?_
    refine s_alen (pc := 34) (t0 := 0) (v := 121) dX4_becomes_34 shp_10 rfl rfl ?_
    refine j_icmp_ge (pc := 35) (t := 53) dX4_becomes_35 (by decide) (fun c35 => ?_) (fun c35 => ?_)
    · replace H := H.1 c35
      exact s_vret (pc := 53) dX4_becomes_53 rfl H
    · replace H := H.2 c35
      refine j_aload_n (pc := 38) dX4_becomes_38 rfl ?_
      refine s_getr (pc := 39) dX4_becomes_39 fl_X4_9 shp_11 rfl ?_
      refine j_iload_n (pc := 42) dX4_becomes_42 rfl ?_
      refine j_aload_n (pc := 43) dX4_becomes_43 rfl ?_
      refine j_iload_n (pc := 44) dX4_becomes_44 rfl ?_
      have b45 := H.1
      replace H := H.2
      refine s_iald (pc := 45) (ar σ 10 x3.toNatClampNeg) dX4_becomes_45 shp_10 b45 rfl ?_
      have b46 := H.1
      replace H := H.2
      refine s_iast (pc := 46) dX4_becomes_46 shp_12 b46 ?_
      refine j_iinc (pc := 47) (k := 3) (v := x3 + 1) (lv1 := [(3, .int (x3 + 1)), (0, .ref 11), (1, .ref 10), (2, .int x2)]) dX4_becomes_47 rfl rfl (Nat.le_of_ble_eq_true rfl) rfl ?_
      refine j_goto (pc := 50) (t := 24) dX4_becomes_50 (by decide) ?_
      refine j_sub [1, 2, 3, 0] rfl ?_
      exact H
set_option maxRecDepth 20000 in
theorem C_X4_isTold {l : Launch} {g : am_G} {d : Nat} {σ : am_S} {k : Int32 → am_S → Prop}   (hd : 0 ≤ d) (H : ((¬ rg σ 705 ≤ 0) → k 1 σ) ∧ (¬ (¬ rg σ 705 ≤ 0) → k 0 σ)) : CI l g M_X4_isTold d [.ref 11] σ k := by
  show J l g (M_X4_isTold, d, 0, 0) 0 [(0, .ref 11)] [] (hp σ) 0 0 (kI k)
  refine j_aload_n (pc := 0) dX4_isTold_0 rfl ?_
  refine s_geti (pc := 1) 705 (rg σ 705) dX4_isTold_1 fl_X4_15 shp_11 rfl rfl rfl ?_
  refine j_if_le (pc := 4) (t := 11) dX4_isTold_4 (by decide) (fun c4 => ?_) (fun c4 => ?_)
  · skip
    refine j_iconst (pc := 11) (v := 0) dX4_isTold_11 (by decide) ?_
    exact s_iretz (pc := 12) dX4_isTold_12 rfl rfl (H.2 (fun q => (q) c4))
  · skip
    refine j_iconst (pc := 7) (v := 1) dX4_isTold_7 (by decide) ?_
    refine j_goto (pc := 8) (t := 12) dX4_isTold_8 (by decide) ?_
    exact s_iretz (pc := 12) dX4_isTold_12 rfl rfl (H.1 c4)
set_option maxRecDepth 20000 in
theorem b_X4_push_0 {l : Launch} {g : am_G} {d : Nat} {σ : am_S} {k : am_S → Prop}  {x1 : Int32} (H : ((121 ≤ rg σ 707 → k σ) ∧ (¬ 121 ≤ rg σ 707 → (vp_in (rg σ 707) 121 ∧ k (sR (sA σ 13 ((rg σ 707).toNatClampNeg) x1) 707 ((rg σ 707) + 1)))))) : CV l g M_X4_push d [.ref 11, .int x1] σ k := by
  show J l g (M_X4_push, d, 0, 0) 0 [(0, .ref 11), (1, .int x1)] [] (hp σ) 0 0 (kV k)
  refine j_aload_n (pc := 0) dX4_push_0 rfl ?_
  refine s_geti (pc := 1) 707 (rg σ 707) dX4_push_1 fl_X4_22 shp_11 rfl rfl rfl ?_
  refine j_aload_n (pc := 4) dX4_push_4 rfl ?_
  refine s_getr (pc := 5) dX4_push_5 fl_X4_19 shp_11 rfl ?_
  refine s_alen (pc := 8) (t0 := 0) (v := 121) dX4_push_8 shp_13 rfl rfl ?_
  refine j_icmp_ge (pc := 9) (t := 32) dX4_push_9 (by decide) (fun c9 => ?_) (fun c9 => ?_)
  · replace H := H.1 c9
    exact s_vret (pc := 32) dX4_push_32 rfl H
  · replace H := H.2 c9
    refine j_aload_n (pc := 12) dX4_push_12 rfl ?_
    refine s_getr (pc := 13) dX4_push_13 fl_X4_19 shp_11 rfl ?_
    refine j_aload_n (pc := 16) dX4_push_16 rfl ?_
    refine s_geti (pc := 17) 707 (rg σ 707) dX4_push_17 fl_X4_22 shp_11 rfl rfl rfl ?_
    refine j_iload_n (pc := 20) dX4_push_20 rfl ?_
    have b21 := H.1
    replace H := H.2
    refine s_iast (pc := 21) dX4_push_21 shp_13 b21 ?_
    refine j_aload_n (pc := 22) dX4_push_22 rfl ?_
    refine j_dup (pc := 23) dX4_push_23 rfl ?_
    refine s_geti (pc := 24) 707 (rg σ 707) dX4_push_24 fl_X4_22 shp_11 rfl rfl rfl ?_
    refine j_iconst (pc := 27) (v := 1) dX4_push_27 (by decide) ?_
    refine j_iadd (pc := 28) dX4_push_28 ?_
    refine s_put (pc := 29) 707 dX4_push_29 fl_X4_22 shp_11 rfl rfl fp_4_3 rfl rfl ?_
    exact s_vret (pc := 32) dX4_push_32 rfl H
set_option maxRecDepth 20000 in
theorem b_X4_pop_0 {l : Launch} {g : am_G} {d : Nat} {σ : am_S} {k : Int32 → am_S → Prop}   (H : ((0 < rg σ 707 → (vp_in ((rg σ 707) - 1) 121 ∧ k (ar σ 13 (((rg σ 707) - 1).toNatClampNeg)) (sR σ 707 ((rg σ 707) - 1)))) ∧ (¬ 0 < rg σ 707 → k 0 σ))) : CI l g M_X4_pop d [.ref 11] σ k := by
  show J l g (M_X4_pop, d, 0, 0) 0 [(0, .ref 11)] [] (hp σ) 0 0 (kI k)
  refine j_aload_n (pc := 0) dX4_pop_0 rfl ?_
  refine s_geti (pc := 1) 707 (rg σ 707) dX4_pop_1 fl_X4_22 shp_11 rfl rfl rfl ?_
  refine j_if_gt (pc := 4) (t := 9) dX4_pop_4 (by decide) (fun c4 => ?_) (fun c4 => ?_)
  · replace H := H.1 c4
    refine j_aload_n (pc := 9) dX4_pop_9 rfl ?_
    refine j_dup (pc := 10) dX4_pop_10 rfl ?_
    refine s_geti (pc := 11) 707 (rg σ 707) dX4_pop_11 fl_X4_22 shp_11 rfl rfl rfl ?_
    refine j_iconst (pc := 14) (v := 1) dX4_pop_14 (by decide) ?_
    refine j_isub (pc := 15) dX4_pop_15 ?_
    refine s_put (pc := 16) 707 dX4_pop_16 fl_X4_22 shp_11 rfl rfl fp_4_3 rfl rfl ?_
    refine j_aload_n (pc := 19) dX4_pop_19 rfl ?_
    refine s_getr (pc := 20) dX4_pop_20 fl_X4_19 shp_11 rfl ?_
    refine j_aload_n (pc := 23) dX4_pop_23 rfl ?_
    refine s_geti (pc := 24) 707 ((rg σ 707) - 1) dX4_pop_24 fl_X4_22 shp_11 rfl rfl rfl ?_
    have b27 := H.1
    replace H := H.2
    refine s_iald (pc := 27) (ar σ 13 (((rg σ 707) - 1).toNatClampNeg)) dX4_pop_27 shp_13 b27 rfl ?_
    exact s_ireti (pc := 28) dX4_pop_28 rfl H
  · replace H := H.2 c4
    refine j_iconst (pc := 7) (v := 0) dX4_pop_7 (by decide) ?_
    exact s_ireti (pc := 8) dX4_pop_8 rfl H
set_option maxRecDepth 20000 in
theorem b_X4_endOfLine_0 {l : Launch} {g : am_G} {d : Nat} {σ : am_S} {k : Int32 → am_S → Prop}  {x1 : Int32} (H : JI l g M_X4_endOfLine d 2 [(0, .ref 11), (1, .int x1), (2, .int x1)] [] σ k) : CI l g M_X4_endOfLine d [.ref 11, .int x1] σ k := by
  show J l g (M_X4_endOfLine, d, 0, 0) 0 [(0, .ref 11), (1, .int x1)] [] (hp σ) 0 0 (kI k)
  refine j_iload_n (pc := 0) dX4_endOfLine_0 rfl ?_
  refine j_istore_n (pc := 1) (lv1 := [(2, .int x1), (0, .ref 11), (1, .int x1)]) dX4_endOfLine_1 (Nat.le_of_ble_eq_true rfl) rfl ?_
  refine j_sub [1, 2, 0] rfl ?_
  exact H
set_option maxRecDepth 20000 in
theorem b_X4_endOfLine_2 {l : Launch} {g : am_G} {d : Nat} {σ : am_S} {k : Int32 → am_S → Prop}  {x1 x2 : Int32} (H : ((rg σ 705 ≤ x2 → k x2 σ) ∧ (¬ rg σ 705 ≤ x2 → (vp_in x2 121 ∧ ((ar σ 12 x2.toNatClampNeg = (-59) → k x2 σ) ∧ (¬ ar σ 12 x2.toNatClampNeg = (-59) → JI l g M_X4_endOfLine d 2 [(0, .ref 11), (1, .int x1), (2, .int (x2 + 1))] [] σ k)))))) : JI l g M_X4_endOfLine d 2 [(0, .ref 11), (1, .int x1), (2, .int x2)] [] σ k := by
  show J l g (M_X4_endOfLine, d, 0, 0) 2 [(0, .ref 11), (1, .int x1), (2, .int x2)] [] (hp σ) 0 0 (kI k)
  refine j_iload_n (pc := 2) dX4_endOfLine_2 rfl ?_
  refine j_aload_n (pc := 3) dX4_endOfLine_3 rfl ?_
  refine s_geti (pc := 4) 705 (rg σ 705) dX4_endOfLine_4 fl_X4_15 shp_11 rfl rfl rfl ?_
  refine j_icmp_ge (pc := 7) (t := 27) dX4_endOfLine_7 (by decide) (fun c7 => ?_) (fun c7 => ?_)
  · replace H := H.1 c7
    refine j_iload_n (pc := 27) dX4_endOfLine_27 rfl ?_
    exact s_ireti (pc := 28) dX4_endOfLine_28 rfl H
  · replace H := H.2 c7
    refine j_aload_n (pc := 10) dX4_endOfLine_10 rfl ?_
    refine s_getr (pc := 11) dX4_endOfLine_11 fl_X4_9 shp_11 rfl ?_
    refine j_iload_n (pc := 14) dX4_endOfLine_14 rfl ?_
    have b15 := H.1
    replace H := H.2
    refine s_iald (pc := 15) (ar σ 12 x2.toNatClampNeg) dX4_endOfLine_15 shp_12 b15 rfl ?_
    refine j_bipush (pc := 16) (v := -59) dX4_endOfLine_16 (by decide) ?_
    refine j_icmp_eq (pc := 18) (t := 27) dX4_endOfLine_18 (by decide) (fun c18 => ?_) (fun c18 => ?_)
    · replace H := H.1 c18
      refine j_iload_n (pc := 27) dX4_endOfLine_27 rfl ?_
      exact s_ireti (pc := 28) dX4_endOfLine_28 rfl H
    · replace H := H.2 c18
      refine j_iinc (pc := 21) (k := 2) (v := x2 + 1) (lv1 := [(2, .int (x2 + 1)), (0, .ref 11), (1, .int x1)]) dX4_endOfLine_21 rfl rfl (Nat.le_of_ble_eq_true rfl) rfl ?_
      refine j_goto (pc := 24) (t := 2) dX4_endOfLine_24 (by decide) ?_
      refine j_sub [1, 2, 0] rfl ?_
      exact H
set_option maxRecDepth 20000 in
theorem b_X4_joined_0 {l : Launch} {g : am_G} {d : Nat} {σ : am_S} {k : Int32 → am_S → Prop}  {x0 x1 x2 : Int32} (H : (((¬ x0 = 38 ∧ ¬ x0 = 42 ∧ ¬ x0 = 43 ∧ ¬ x0 = 45 ∧ ¬ x0 = 47 ∧ ¬ x0 = 60 ∧ ¬ x0 = 61 ∧ ¬ x0 = 62 ∧ ¬ x0 = 124) → ((¬ x2 = 0 → ((¬ x2 = 0) ∧ k (x1 - x1 / x2 * x2) σ)) ∧ (x2 = 0 → k 0 σ))) ∧ (x0 = 38 → ((x1 = 0 → k 0 σ) ∧ (¬ x1 = 0 → ((x2 = 0 → k 0 σ) ∧ (¬ x2 = 0 → k 1 σ))))) ∧ (x0 = 42 → k (x1 * x2) σ) ∧ (x0 = 43 → k (x1 + x2) σ) ∧ (x0 = 45 → k (x1 - x2) σ) ∧ (x0 = 47 → ((¬ x2 = 0 → ((¬ x2 = 0) ∧ k (x1 / x2) σ)) ∧ (x2 = 0 → k 0 σ))) ∧ (x0 = 60 → ((x2 ≤ x1 → k 0 σ) ∧ (¬ x2 ≤ x1 → k 1 σ))) ∧ (x0 = 61 → ((¬ x1 = x2 → k 0 σ) ∧ (x1 = x2 → k 1 σ))) ∧ (x0 = 62 → ((x1 ≤ x2 → k 0 σ) ∧ (¬ x1 ≤ x2 → k 1 σ))) ∧ (x0 = 124 → ((¬ x1 = 0 → k 1 σ) ∧ (x1 = 0 → ((x2 = 0 → k 0 σ) ∧ (¬ x2 = 0 → k 1 σ))))))) : CI l g M_X4_joined d [.int x0, .int x1, .int x2] σ k := by
  show J l g (M_X4_joined, d, 0, 0) 0 [(0, .int x0), (1, .int x1), (2, .int x2)] [] (hp σ) 0 0 (kI k)
  refine j_iload_n (pc := 0) dX4_joined_0 rfl ?_
  by_cases c1d : ¬ x0 = 38 ∧ ¬ x0 = 42 ∧ ¬ x0 = 43 ∧ ¬ x0 = 45 ∧ ¬ x0 = 47 ∧ ¬ x0 = 60 ∧ ¬ x0 = 61 ∧ ¬ x0 = 62 ∧ ¬ x0 = 124
  · replace H := H.1 c1d
    refine j_lookup (pc := 1) (t := 169) (off := 168) dX4_joined_1 (by decide) (by show Op.lookupswitch.offset [(38, 97), (42, 152), (43, 144), (45, 148), (47, 156), (60, 111), (61, 122), (62, 133), (124, 83)] _ _ = _; rw [lv_osw (k := 38) (c1d.1) (by decide), lv_osw (k := 42) (c1d.2.1) (by decide), lv_osw (k := 43) (c1d.2.2.1) (by decide), lv_osw (k := 45) (c1d.2.2.2.1) (by decide), lv_osw (k := 47) (c1d.2.2.2.2.1) (by decide), lv_osw (k := 60) (c1d.2.2.2.2.2.1) (by decide), lv_osw (k := 61) (c1d.2.2.2.2.2.2.1) (by decide), lv_osw (k := 62) (c1d.2.2.2.2.2.2.2.1) (by decide), lv_osw (k := 124) (c1d.2.2.2.2.2.2.2.2) (by decide)]; rfl) (by decide) ?_
    refine j_iload_n (pc := 169) dX4_joined_169 rfl ?_
    refine j_if_ne (pc := 170) (t := 177) dX4_joined_170 (by decide) (fun c170 => ?_) (fun c170 => ?_)
    · replace H := H.1 c170
      refine j_iload_n (pc := 177) dX4_joined_177 rfl ?_
      refine j_iload_n (pc := 178) dX4_joined_178 rfl ?_
      have c179 := H.1
      replace H := H.2
      refine j_irem (pc := 179) dX4_joined_179 c179 ?_
      exact s_ireti (pc := 180) dX4_joined_180 rfl H
    · replace H := H.2 c170
      refine j_iconst (pc := 173) (v := 0) dX4_joined_173 (by decide) ?_
      refine j_goto (pc := 174) (t := 180) dX4_joined_174 (by decide) ?_
      exact s_ireti (pc := 180) dX4_joined_180 rfl H
  · replace H := H.2
    by_cases c1_0 : x0 = 38
    · replace H := H.1 c1_0
      refine j_lookup (pc := 1) (t := 98) (off := 97) dX4_joined_1 (by decide) (by rw [c1_0]; decide) (by decide) ?_
      refine j_iload_n (pc := 98) dX4_joined_98 rfl ?_
      refine j_if_eq (pc := 99) (t := 110) dX4_joined_99 (by decide) (fun c99 => ?_) (fun c99 => ?_)
      · replace H := H.1 c99
        refine j_iconst (pc := 110) (v := 0) dX4_joined_110 (by decide) ?_
        exact s_ireti (pc := 111) dX4_joined_111 rfl H
      · replace H := H.2 c99
        refine j_iload_n (pc := 102) dX4_joined_102 rfl ?_
        refine j_if_eq (pc := 103) (t := 110) dX4_joined_103 (by decide) (fun c103 => ?_) (fun c103 => ?_)
        · replace H := H.1 c103
          refine j_iconst (pc := 110) (v := 0) dX4_joined_110 (by decide) ?_
          exact s_ireti (pc := 111) dX4_joined_111 rfl H
        · replace H := H.2 c103
          refine j_iconst (pc := 106) (v := 1) dX4_joined_106 (by decide) ?_
          refine j_goto (pc := 107) (t := 111) dX4_joined_107 (by decide) ?_
          exact s_ireti (pc := 111) dX4_joined_111 rfl H
    by_cases c1_1 : x0 = 42
    · replace H := H.2.1 c1_1
      refine j_lookup (pc := 1) (t := 153) (off := 152) dX4_joined_1 (by decide) (by rw [c1_1]; decide) (by decide) ?_
      refine j_iload_n (pc := 153) dX4_joined_153 rfl ?_
      refine j_iload_n (pc := 154) dX4_joined_154 rfl ?_
      refine j_imul (pc := 155) dX4_joined_155 ?_
      exact s_ireti (pc := 156) dX4_joined_156 rfl H
    by_cases c1_2 : x0 = 43
    · replace H := H.2.2.1 c1_2
      refine j_lookup (pc := 1) (t := 145) (off := 144) dX4_joined_1 (by decide) (by rw [c1_2]; decide) (by decide) ?_
      refine j_iload_n (pc := 145) dX4_joined_145 rfl ?_
      refine j_iload_n (pc := 146) dX4_joined_146 rfl ?_
      refine j_iadd (pc := 147) dX4_joined_147 ?_
      exact s_ireti (pc := 148) dX4_joined_148 rfl H
    by_cases c1_3 : x0 = 45
    · replace H := H.2.2.2.1 c1_3
      refine j_lookup (pc := 1) (t := 149) (off := 148) dX4_joined_1 (by decide) (by rw [c1_3]; decide) (by decide) ?_
      refine j_iload_n (pc := 149) dX4_joined_149 rfl ?_
      refine j_iload_n (pc := 150) dX4_joined_150 rfl ?_
      refine j_isub (pc := 151) dX4_joined_151 ?_
      exact s_ireti (pc := 152) dX4_joined_152 rfl H
    by_cases c1_4 : x0 = 47
    · replace H := H.2.2.2.2.1 c1_4
      refine j_lookup (pc := 1) (t := 157) (off := 156) dX4_joined_1 (by decide) (by rw [c1_4]; decide) (by decide) ?_
      refine j_iload_n (pc := 157) dX4_joined_157 rfl ?_
      refine j_if_ne (pc := 158) (t := 165) dX4_joined_158 (by decide) (fun c158 => ?_) (fun c158 => ?_)
      · replace H := H.1 c158
        refine j_iload_n (pc := 165) dX4_joined_165 rfl ?_
        refine j_iload_n (pc := 166) dX4_joined_166 rfl ?_
        have c167 := H.1
        replace H := H.2
        refine j_idiv (pc := 167) dX4_joined_167 c167 ?_
        exact s_ireti (pc := 168) dX4_joined_168 rfl H
      · replace H := H.2 c158
        refine j_iconst (pc := 161) (v := 0) dX4_joined_161 (by decide) ?_
        refine j_goto (pc := 162) (t := 168) dX4_joined_162 (by decide) ?_
        exact s_ireti (pc := 168) dX4_joined_168 rfl H
    by_cases c1_5 : x0 = 60
    · replace H := H.2.2.2.2.2.1 c1_5
      refine j_lookup (pc := 1) (t := 112) (off := 111) dX4_joined_1 (by decide) (by rw [c1_5]; decide) (by decide) ?_
      refine j_iload_n (pc := 112) dX4_joined_112 rfl ?_
      refine j_iload_n (pc := 113) dX4_joined_113 rfl ?_
      refine j_icmp_ge (pc := 114) (t := 121) dX4_joined_114 (by decide) (fun c114 => ?_) (fun c114 => ?_)
      · replace H := H.1 c114
        refine j_iconst (pc := 121) (v := 0) dX4_joined_121 (by decide) ?_
        exact s_ireti (pc := 122) dX4_joined_122 rfl H
      · replace H := H.2 c114
        refine j_iconst (pc := 117) (v := 1) dX4_joined_117 (by decide) ?_
        refine j_goto (pc := 118) (t := 122) dX4_joined_118 (by decide) ?_
        exact s_ireti (pc := 122) dX4_joined_122 rfl H
    by_cases c1_6 : x0 = 61
    · replace H := H.2.2.2.2.2.2.1 c1_6
      refine j_lookup (pc := 1) (t := 123) (off := 122) dX4_joined_1 (by decide) (by rw [c1_6]; decide) (by decide) ?_
      refine j_iload_n (pc := 123) dX4_joined_123 rfl ?_
      refine j_iload_n (pc := 124) dX4_joined_124 rfl ?_
      refine j_icmp_ne (pc := 125) (t := 132) dX4_joined_125 (by decide) (fun c125 => ?_) (fun c125 => ?_)
      · replace H := H.1 c125
        refine j_iconst (pc := 132) (v := 0) dX4_joined_132 (by decide) ?_
        exact s_ireti (pc := 133) dX4_joined_133 rfl H
      · replace H := H.2 c125
        refine j_iconst (pc := 128) (v := 1) dX4_joined_128 (by decide) ?_
        refine j_goto (pc := 129) (t := 133) dX4_joined_129 (by decide) ?_
        exact s_ireti (pc := 133) dX4_joined_133 rfl H
    by_cases c1_7 : x0 = 62
    · replace H := H.2.2.2.2.2.2.2.1 c1_7
      refine j_lookup (pc := 1) (t := 134) (off := 133) dX4_joined_1 (by decide) (by rw [c1_7]; decide) (by decide) ?_
      refine j_iload_n (pc := 134) dX4_joined_134 rfl ?_
      refine j_iload_n (pc := 135) dX4_joined_135 rfl ?_
      refine j_icmp_le (pc := 136) (t := 143) dX4_joined_136 (by decide) (fun c136 => ?_) (fun c136 => ?_)
      · replace H := H.1 c136
        refine j_iconst (pc := 143) (v := 0) dX4_joined_143 (by decide) ?_
        exact s_ireti (pc := 144) dX4_joined_144 rfl H
      · replace H := H.2 c136
        refine j_iconst (pc := 139) (v := 1) dX4_joined_139 (by decide) ?_
        refine j_goto (pc := 140) (t := 144) dX4_joined_140 (by decide) ?_
        exact s_ireti (pc := 144) dX4_joined_144 rfl H
    by_cases c1_8 : x0 = 124
    · replace H := H.2.2.2.2.2.2.2.2 c1_8
      refine j_lookup (pc := 1) (t := 84) (off := 83) dX4_joined_1 (by decide) (by rw [c1_8]; decide) (by decide) ?_
      refine j_iload_n (pc := 84) dX4_joined_84 rfl ?_
      refine j_if_ne (pc := 85) (t := 92) dX4_joined_85 (by decide) (fun c85 => ?_) (fun c85 => ?_)
      · replace H := H.1 c85
        refine j_iconst (pc := 92) (v := 1) dX4_joined_92 (by decide) ?_
        refine j_goto (pc := 93) (t := 97) dX4_joined_93 (by decide) ?_
        exact s_ireti (pc := 97) dX4_joined_97 rfl H
      · replace H := H.2 c85
        refine j_iload_n (pc := 88) dX4_joined_88 rfl ?_
        refine j_if_eq (pc := 89) (t := 96) dX4_joined_89 (by decide) (fun c89 => ?_) (fun c89 => ?_)
        · replace H := H.1 c89
          refine j_iconst (pc := 96) (v := 0) dX4_joined_96 (by decide) ?_
          exact s_ireti (pc := 97) dX4_joined_97 rfl H
        · replace H := H.2 c89
          refine j_iconst (pc := 92) (v := 1) dX4_joined_92 (by decide) ?_
          refine j_goto (pc := 93) (t := 97) dX4_joined_93 (by decide) ?_
          exact s_ireti (pc := 97) dX4_joined_97 rfl H
    exact absurd ⟨c1_0, c1_1, c1_2, c1_3, c1_4, c1_5, c1_6, c1_7, c1_8⟩ c1d
set_option maxRecDepth 20000 in
theorem b_X4_work_0 {l : Launch} {g : am_G} {d : Nat} {σ : am_S} {k : am_S → Prop}  {x1 : Int32} (hd : 1 ≤ d) (H : ((x1 < 0 → ((¬ x1 = (-126) → ((¬ x1 = (-33) → CI l g M_X4_pop (d - 1) [.ref 11] σ (fun r1 σ1 => CI l g M_X4_pop (d - 1) [.ref 11] σ1 (fun r2 σ2 => CI l g M_X4_joined (d - 1) [.int (-x1), .int r2, .int r1] σ2 (fun r3 σ3 => CV l g M_X4_push (d - 1) [.ref 11, .int r3] σ3 (fun σ4 => k σ4))))) ∧ (x1 = (-33) → CI l g M_X4_pop (d - 1) [.ref 11] σ (fun r5 σ5 => ((¬ r5 = 0 → CV l g M_X4_push (d - 1) [.ref 11, .int 0] σ5 (fun σ6 => k σ6)) ∧ (r5 = 0 → CV l g M_X4_push (d - 1) [.ref 11, .int 1] σ5 (fun σ7 => k σ7))))))) ∧ (x1 = (-126) → CI l g M_X4_pop (d - 1) [.ref 11] σ (fun r8 σ8 => CV l g M_X4_push (d - 1) [.ref 11, .int (-r8)] σ8 (fun σ9 => k σ9))))) ∧ (¬ x1 < 0 → CV l g M_X4_push (d - 1) [.ref 11, .int x1] σ (fun σ10 => k σ10)))) : CV l g M_X4_work d [.ref 11, .int x1] σ k := by
  show J l g (M_X4_work, d, 0, 0) 0 [(0, .ref 11), (1, .int x1)] [] (hp σ) 0 0 (kV k)
  refine j_iload_n (pc := 0) dX4_work_0 rfl ?_
  refine j_if_lt (pc := 1) (t := 12) dX4_work_1 (by decide) (fun c1 => ?_) (fun c1 => ?_)
  · replace H := H.1 c1
    refine j_iload_n (pc := 12) dX4_work_12 rfl ?_
    refine j_bipush (pc := 13) (v := -126) dX4_work_13 (by decide) ?_
    refine j_icmp_ne (pc := 15) (t := 30) dX4_work_15 (by decide) (fun c15 => ?_) (fun c15 => ?_)
    · replace H := H.1 c15
      refine j_iload_n (pc := 30) dX4_work_30 rfl ?_
      refine j_bipush (pc := 31) (v := -33) dX4_work_31 (by decide) ?_
      refine j_icmp_ne (pc := 33) (t := 55) dX4_work_33 (by decide) (fun c33 => ?_) (fun c33 => ?_)
      · replace H := H.1 c33
        refine j_aload_n (pc := 55) dX4_work_55 rfl ?_
        refine s_callV_i (pc := 56) (M1 := M_X4_pop) (n := 0) (as := []) (a := 11) (st := []) dX4_work_56 G_X4_pop wm_X4_29 (by decide +kernel) rfl (Nat.le_of_ble_eq_true rfl) shp_11 rfl (by show 1 ≤ d; omega) (Nat.le_of_ble_eq_true rfl) (Nat.zero_le _) (Nat.zero_le _) ?_
        refine CI.mono H (fun r1 σ1 H => ?_)
        refine j_istore_n (pc := 59) (lv1 := [(2, .int r1), (0, .ref 11), (1, .int x1)]) dX4_work_59 (Nat.le_of_ble_eq_true rfl) rfl ?_
        refine j_aload_n (pc := 60) dX4_work_60 rfl ?_
        refine s_callV_i (pc := 61) (M1 := M_X4_pop) (n := 0) (as := []) (a := 11) (st := []) dX4_work_61 G_X4_pop wm_X4_29 (by decide +kernel) rfl (Nat.le_of_ble_eq_true rfl) shp_11 rfl (by show 1 ≤ d; omega) (Nat.le_of_ble_eq_true rfl) (Nat.zero_le _) (Nat.zero_le _) ?_
        refine CI.mono H (fun r2 σ2 H => ?_)
        refine j_istore_n (pc := 64) (lv1 := [(3, .int r2), (2, .int r1), (0, .ref 11), (1, .int x1)]) dX4_work_64 (Nat.le_of_ble_eq_true rfl) rfl ?_
        refine j_aload_n (pc := 65) dX4_work_65 rfl ?_
        refine j_iload_n (pc := 66) dX4_work_66 rfl ?_
        refine j_ineg (pc := 67) dX4_work_67 ?_
        refine j_iload_n (pc := 68) dX4_work_68 rfl ?_
        refine j_iload_n (pc := 69) dX4_work_69 rfl ?_
        refine s_callS_i (pc := 70) (M1 := M_X4_joined) (n := 3) (as := [.int (-x1), .int r2, .int r1]) (st := [.ref 11]) dX4_work_70 G_X4_joined wm_X4_40 (by decide +kernel) rfl (Nat.le_of_ble_eq_true rfl) (by show 1 ≤ d; omega) (Nat.le_of_ble_eq_true rfl) ?_
        refine CI.mono H (fun r3 σ3 H => ?_)
        refine s_callV_v (pc := 73) (M1 := M_X4_push) (n := 1) (as := [.int r3]) (a := 11) (st := []) dX4_work_73 G_X4_push wm_X4_25 (by decide +kernel) rfl (Nat.le_of_ble_eq_true rfl) shp_11 rfl (by show 1 ≤ d; omega) (Nat.le_of_ble_eq_true rfl) (Nat.zero_le _) (Nat.zero_le _) ?_
        refine CV.mono H (fun σ4 H => ?_)
        exact s_vret (pc := 76) dX4_work_76 rfl H
      · replace H := H.2 c33
        refine j_aload_n (pc := 36) dX4_work_36 rfl ?_
        refine j_aload_n (pc := 37) dX4_work_37 rfl ?_
        refine s_callV_i (pc := 38) (M1 := M_X4_pop) (n := 0) (as := []) (a := 11) (st := [.ref 11]) dX4_work_38 G_X4_pop wm_X4_29 (by decide +kernel) rfl (Nat.le_of_ble_eq_true rfl) shp_11 rfl (by show 1 ≤ d; omega) (Nat.le_of_ble_eq_true rfl) (Nat.zero_le _) (Nat.zero_le _) ?_
        refine CI.mono H (fun r5 σ5 H => ?_)
        refine j_if_ne (pc := 41) (t := 48) dX4_work_41 (by decide) (fun c41 => ?_) (fun c41 => ?_)
        · replace H := H.1 c41
          refine j_iconst (pc := 48) (v := 0) dX4_work_48 (by decide) ?_
          refine s_callV_v (pc := 49) (M1 := M_X4_push) (n := 1) (as := [.int 0]) (a := 11) (st := []) dX4_work_49 G_X4_push wm_X4_25 (by decide +kernel) rfl (Nat.le_of_ble_eq_true rfl) shp_11 rfl (by show 1 ≤ d; omega) (Nat.le_of_ble_eq_true rfl) (Nat.zero_le _) (Nat.zero_le _) ?_
          refine CV.mono H (fun σ6 H => ?_)
          refine j_goto (pc := 52) (t := 76) dX4_work_52 (by decide) ?_
          exact s_vret (pc := 76) dX4_work_76 rfl H
        · replace H := H.2 c41
          refine j_iconst (pc := 44) (v := 1) dX4_work_44 (by decide) ?_
          refine j_goto (pc := 45) (t := 49) dX4_work_45 (by decide) ?_
          refine s_callV_v (pc := 49) (M1 := M_X4_push) (n := 1) (as := [.int 1]) (a := 11) (st := []) dX4_work_49 G_X4_push wm_X4_25 (by decide +kernel) rfl (Nat.le_of_ble_eq_true rfl) shp_11 rfl (by show 1 ≤ d; omega) (Nat.le_of_ble_eq_true rfl) (Nat.zero_le _) (Nat.zero_le _) ?_
          refine CV.mono H (fun σ7 H => ?_)
          refine j_goto (pc := 52) (t := 76) dX4_work_52 (by decide) ?_
          exact s_vret (pc := 76) dX4_work_76 rfl H
    · replace H := H.2 c15
      refine j_aload_n (pc := 18) dX4_work_18 rfl ?_
      refine j_aload_n (pc := 19) dX4_work_19 rfl ?_
      refine s_callV_i (pc := 20) (M1 := M_X4_pop) (n := 0) (as := []) (a := 11) (st := [.ref 11]) dX4_work_20 G_X4_pop wm_X4_29 (by decide +kernel) rfl (Nat.le_of_ble_eq_true rfl) shp_11 rfl (by show 1 ≤ d; omega) (Nat.le_of_ble_eq_true rfl) (Nat.zero_le _) (Nat.zero_le _) ?_
      refine CI.mono H (fun r8 σ8 H => ?_)
      refine j_ineg (pc := 23) dX4_work_23 ?_
      refine s_callV_v (pc := 24) (M1 := M_X4_push) (n := 1) (as := [.int (-r8)]) (a := 11) (st := []) dX4_work_24 G_X4_push wm_X4_25 (by decide +kernel) rfl (Nat.le_of_ble_eq_true rfl) shp_11 rfl (by show 1 ≤ d; omega) (Nat.le_of_ble_eq_true rfl) (Nat.zero_le _) (Nat.zero_le _) ?_
      refine CV.mono H (fun σ9 H => ?_)
      refine j_goto (pc := 27) (t := 76) dX4_work_27 (by decide) ?_
      exact s_vret (pc := 76) dX4_work_76 rfl H
  · replace H := H.2 c1
    refine j_aload_n (pc := 4) dX4_work_4 rfl ?_
    refine j_iload_n (pc := 5) dX4_work_5 rfl ?_
    refine s_callV_v (pc := 6) (M1 := M_X4_push) (n := 1) (as := [.int x1]) (a := 11) (st := []) dX4_work_6 G_X4_push wm_X4_25 (by decide +kernel) rfl (Nat.le_of_ble_eq_true rfl) shp_11 rfl (by show 1 ≤ d; omega) (Nat.le_of_ble_eq_true rfl) (Nat.zero_le _) (Nat.zero_le _) ?_
    refine CV.mono H (fun σ10 H => ?_)
    refine j_goto (pc := 9) (t := 76) dX4_work_9 (by decide) ?_
    exact s_vret (pc := 76) dX4_work_76 rfl H
set_option maxRecDepth 20000 in
theorem b_X4_value_0 {l : Launch} {g : am_G} {d : Nat} {σ : am_S} {k : Int32 → am_S → Prop}  {x1 x2 x3 x4 x5 x6 : Int32} (H : JI l g M_X4_value d 8 [(0, .ref 11), (1, .int x1), (2, .int x2), (3, .int x3), (4, .int x4), (5, .int x5), (6, .int x6), (7, .int 0)] [] (sR σ 707 0) k) : CI l g M_X4_value d [.ref 11, .int x1, .int x2, .int x3, .int x4, .int x5, .int x6] σ k := by
  show J l g (M_X4_value, d, 0, 0) 0 [(0, .ref 11), (1, .int x1), (2, .int x2), (3, .int x3), (4, .int x4), (5, .int x5), (6, .int x6)] [] (hp σ) 0 0 (kI k)
  refine j_aload_n (pc := 0) dX4_value_0 rfl ?_
  refine j_iconst (pc := 1) (v := 0) dX4_value_1 (by decide) ?_
  refine s_put (pc := 2) 707 dX4_value_2 fl_X4_22 shp_11 rfl rfl fp_4_3 rfl rfl ?_
  refine j_iconst (pc := 5) (v := 0) dX4_value_5 (by decide) ?_
  refine j_istore (pc := 6) (lv1 := [(7, .int 0), (0, .ref 11), (1, .int x1), (2, .int x2), (3, .int x3), (4, .int x4), (5, .int x5), (6, .int x6)]) dX4_value_6 (Nat.le_of_ble_eq_true rfl) rfl ?_
  refine j_sub [1, 2, 3, 4, 5, 6, 7, 0] rfl ?_
  exact H
set_option maxRecDepth 20000 in
theorem b_X4_value_8 {l : Launch} {g : am_G} {d : Nat} {σ : am_S} {k : Int32 → am_S → Prop}  {x1 x2 x3 x4 x5 x6 x7 : Int32} (hd : 1 ≤ d) (H : ((rg σ 705 ≤ x7 → k 0 σ) ∧ (¬ rg σ 705 ≤ x7 → (vp_in x7 121 ∧ (((¬ -(ar σ 12 x7.toNatClampNeg) = 59 ∧ ¬ -(ar σ 12 x7.toNatClampNeg) = 63 ∧ ¬ -(ar σ 12 x7.toNatClampNeg) = 97 ∧ ¬ -(ar σ 12 x7.toNatClampNeg) = 98 ∧ ¬ -(ar σ 12 x7.toNatClampNeg) = 100 ∧ ¬ -(ar σ 12 x7.toNatClampNeg) = 105 ∧ ¬ -(ar σ 12 x7.toNatClampNeg) = 106 ∧ ¬ -(ar σ 12 x7.toNatClampNeg) = 107) → CV l g M_X4_work (d - 1) [.ref 11, .int (ar σ 12 x7.toNatClampNeg)] σ (fun σ1 => JI l g M_X4_value d 8 [(0, .ref 11), (1, .int x1), (2, .int x2), (3, .int x3), (4, .int x4), (5, .int x5), (6, .int x6), (7, .int (x7 + 1))] [] σ1 k)) ∧ (-(ar σ 12 x7.toNatClampNeg) = 59 → CI l g M_X4_pop (d - 1) [.ref 11] σ (fun r2 σ2 => k r2 σ2)) ∧ (-(ar σ 12 x7.toNatClampNeg) = 63 → CI l g M_X4_pop (d - 1) [.ref 11] σ (fun r3 σ3 => ((¬ r3 = 0 → JI l g M_X4_value d 8 [(0, .ref 11), (1, .int x1), (2, .int x2), (3, .int x3), (4, .int x4), (5, .int x5), (6, .int x6), (7, .int (x7 + 1))] [] σ3 k) ∧ (r3 = 0 → CI l g M_X4_endOfLine (d - 1) [.ref 11, .int x7] σ3 (fun r4 σ4 => JI l g M_X4_value d 8 [(0, .ref 11), (1, .int x1), (2, .int x2), (3, .int x3), (4, .int x4), (5, .int x5), (6, .int x6), (7, .int (r4 + 1))] [] σ4 k))))) ∧ (-(ar σ 12 x7.toNatClampNeg) = 97 → CV l g M_X4_push (d - 1) [.ref 11, .int x1] σ (fun σ5 => JI l g M_X4_value d 8 [(0, .ref 11), (1, .int x1), (2, .int x2), (3, .int x3), (4, .int x4), (5, .int x5), (6, .int x6), (7, .int (x7 + 1))] [] σ5 k)) ∧ (-(ar σ 12 x7.toNatClampNeg) = 98 → CV l g M_X4_push (d - 1) [.ref 11, .int x2] σ (fun σ6 => JI l g M_X4_value d 8 [(0, .ref 11), (1, .int x1), (2, .int x2), (3, .int x3), (4, .int x4), (5, .int x5), (6, .int x6), (7, .int (x7 + 1))] [] σ6 k)) ∧ (-(ar σ 12 x7.toNatClampNeg) = 100 → CV l g M_X4_push (d - 1) [.ref 11, .int x3] σ (fun σ7 => JI l g M_X4_value d 8 [(0, .ref 11), (1, .int x1), (2, .int x2), (3, .int x3), (4, .int x4), (5, .int x5), (6, .int x6), (7, .int (x7 + 1))] [] σ7 k)) ∧ (-(ar σ 12 x7.toNatClampNeg) = 105 → CV l g M_X4_push (d - 1) [.ref 11, .int x5] σ (fun σ8 => JI l g M_X4_value d 8 [(0, .ref 11), (1, .int x1), (2, .int x2), (3, .int x3), (4, .int x4), (5, .int x5), (6, .int x6), (7, .int (x7 + 1))] [] σ8 k)) ∧ (-(ar σ 12 x7.toNatClampNeg) = 106 → CV l g M_X4_push (d - 1) [.ref 11, .int x6] σ (fun σ9 => JI l g M_X4_value d 8 [(0, .ref 11), (1, .int x1), (2, .int x2), (3, .int x3), (4, .int x4), (5, .int x5), (6, .int x6), (7, .int (x7 + 1))] [] σ9 k)) ∧ (-(ar σ 12 x7.toNatClampNeg) = 107 → CV l g M_X4_push (d - 1) [.ref 11, .int x4] σ (fun σ10 => JI l g M_X4_value d 8 [(0, .ref 11), (1, .int x1), (2, .int x2), (3, .int x3), (4, .int x4), (5, .int x5), (6, .int x6), (7, .int (x7 + 1))] [] σ10 k))))))) : JI l g M_X4_value d 8 [(0, .ref 11), (1, .int x1), (2, .int x2), (3, .int x3), (4, .int x4), (5, .int x5), (6, .int x6), (7, .int x7)] [] σ k := by
  show J l g (M_X4_value, d, 0, 0) 8 [(0, .ref 11), (1, .int x1), (2, .int x2), (3, .int x3), (4, .int x4), (5, .int x5), (6, .int x6), (7, .int x7)] [] (hp σ) 0 0 (kI k)
  refine j_iload (pc := 8) dX4_value_8 rfl ?_
  refine j_aload_n (pc := 10) dX4_value_10 rfl ?_
  refine s_geti (pc := 11) 705 (rg σ 705) dX4_value_11 fl_X4_15 shp_11 rfl rfl rfl ?_
  refine j_icmp_ge (pc := 14) (t := 190) dX4_value_14 (by decide) (fun c14 => ?_) (fun c14 => ?_)
  · replace H := H.1 c14
    refine j_iconst (pc := 190) (v := 0) dX4_value_190 (by decide) ?_
    exact s_ireti (pc := 191) dX4_value_191 rfl H
  · replace H := H.2 c14
    refine j_aload_n (pc := 17) dX4_value_17 rfl ?_
    refine s_getr (pc := 18) dX4_value_18 fl_X4_9 shp_11 rfl ?_
    refine j_iload (pc := 21) dX4_value_21 rfl ?_
    have b23 := H.1
    replace H := H.2
    refine s_iald (pc := 23) (ar σ 12 x7.toNatClampNeg) dX4_value_23 shp_12 b23 rfl ?_
    refine j_istore (pc := 24) (lv1 := [(8, .int (ar σ 12 x7.toNatClampNeg)), (0, .ref 11), (1, .int x1), (2, .int x2), (3, .int x3), (4, .int x4), (5, .int x5), (6, .int x6), (7, .int x7)]) dX4_value_24 (Nat.le_of_ble_eq_true rfl) rfl ?_
    refine j_iload (pc := 26) dX4_value_26 rfl ?_
    refine j_ineg (pc := 28) dX4_value_28 ?_
    by_cases c29d : ¬ -(ar σ 12 x7.toNatClampNeg) = 59 ∧ ¬ -(ar σ 12 x7.toNatClampNeg) = 63 ∧ ¬ -(ar σ 12 x7.toNatClampNeg) = 97 ∧ ¬ -(ar σ 12 x7.toNatClampNeg) = 98 ∧ ¬ -(ar σ 12 x7.toNatClampNeg) = 100 ∧ ¬ -(ar σ 12 x7.toNatClampNeg) = 105 ∧ ¬ -(ar σ 12 x7.toNatClampNeg) = 106 ∧ ¬ -(ar σ 12 x7.toNatClampNeg) = 107
    · replace H := H.1 c29d
      refine j_lookup (pc := 29) (t := 178) (off := 149) dX4_value_29 (by decide) (by show Op.lookupswitch.offset [(59, 126), (63, 131), (97, 75), (98, 83), (100, 91), (105, 108), (106, 117), (107, 99)] _ _ = _; rw [lv_osw (k := 59) (c29d.1) (by decide), lv_osw (k := 63) (c29d.2.1) (by decide), lv_osw (k := 97) (c29d.2.2.1) (by decide), lv_osw (k := 98) (c29d.2.2.2.1) (by decide), lv_osw (k := 100) (c29d.2.2.2.2.1) (by decide), lv_osw (k := 105) (c29d.2.2.2.2.2.1) (by decide), lv_osw (k := 106) (c29d.2.2.2.2.2.2.1) (by decide), lv_osw (k := 107) (c29d.2.2.2.2.2.2.2) (by decide)]; rfl) (by decide) ?_
      refine j_aload_n (pc := 178) dX4_value_178 rfl ?_
      refine j_iload (pc := 179) dX4_value_179 rfl ?_
      refine s_callV_v (pc := 181) (M1 := M_X4_work) (n := 1) (as := [.int (ar σ 12 x7.toNatClampNeg)]) (a := 11) (st := []) dX4_value_181 G_X4_work wm_X4_37 (by decide +kernel) rfl (Nat.le_of_ble_eq_true rfl) shp_11 rfl (by show 1 ≤ d; omega) (Nat.le_of_ble_eq_true rfl) (Nat.zero_le _) (Nat.zero_le _) ?_
      refine CV.mono H (fun σ1 H => ?_)
      refine j_iinc (pc := 184) (k := 8) (v := x7 + 1) (lv1 := [(7, .int (x7 + 1)), (8, .int (ar σ 12 x7.toNatClampNeg)), (0, .ref 11), (1, .int x1), (2, .int x2), (3, .int x3), (4, .int x4), (5, .int x5), (6, .int x6)]) dX4_value_184 rfl rfl (Nat.le_of_ble_eq_true rfl) rfl ?_
      refine j_goto (pc := 187) (t := 8) dX4_value_187 (by decide) ?_
      refine j_sub [2, 3, 4, 5, 6, 7, 8, 0] rfl ?_
      exact H
    · replace H := H.2
      by_cases c29_0 : -(ar σ 12 x7.toNatClampNeg) = 59
      · replace H := H.1 c29_0
        refine j_lookup (pc := 29) (t := 155) (off := 126) dX4_value_29 (by decide) (by rw [c29_0]; decide) (by decide) ?_
        refine j_aload_n (pc := 155) dX4_value_155 rfl ?_
        refine s_callV_i (pc := 156) (M1 := M_X4_pop) (n := 0) (as := []) (a := 11) (st := []) dX4_value_156 G_X4_pop wm_X4_29 (by decide +kernel) rfl (Nat.le_of_ble_eq_true rfl) shp_11 rfl (by show 1 ≤ d; omega) (Nat.le_of_ble_eq_true rfl) (Nat.zero_le _) (Nat.zero_le _) ?_
        refine CI.mono H (fun r2 σ2 H => ?_)
        exact s_ireti (pc := 159) dX4_value_159 rfl H
      by_cases c29_1 : -(ar σ 12 x7.toNatClampNeg) = 63
      · replace H := H.2.1 c29_1
        refine j_lookup (pc := 29) (t := 160) (off := 131) dX4_value_29 (by decide) (by rw [c29_1]; decide) (by decide) ?_
        refine j_aload_n (pc := 160) dX4_value_160 rfl ?_
        refine s_callV_i (pc := 161) (M1 := M_X4_pop) (n := 0) (as := []) (a := 11) (st := []) dX4_value_161 G_X4_pop wm_X4_29 (by decide +kernel) rfl (Nat.le_of_ble_eq_true rfl) shp_11 rfl (by show 1 ≤ d; omega) (Nat.le_of_ble_eq_true rfl) (Nat.zero_le _) (Nat.zero_le _) ?_
        refine CI.mono H (fun r3 σ3 H => ?_)
        refine j_if_ne (pc := 164) (t := 184) dX4_value_164 (by decide) (fun c164 => ?_) (fun c164 => ?_)
        · replace H := H.1 c164
          refine j_iinc (pc := 184) (k := 8) (v := x7 + 1) (lv1 := [(7, .int (x7 + 1)), (8, .int (ar σ 12 x7.toNatClampNeg)), (0, .ref 11), (1, .int x1), (2, .int x2), (3, .int x3), (4, .int x4), (5, .int x5), (6, .int x6)]) dX4_value_184 rfl rfl (Nat.le_of_ble_eq_true rfl) rfl ?_
          refine j_goto (pc := 187) (t := 8) dX4_value_187 (by decide) ?_
          refine j_sub [2, 3, 4, 5, 6, 7, 8, 0] rfl ?_
          exact H
        · replace H := H.2 c164
          refine j_aload_n (pc := 167) dX4_value_167 rfl ?_
          refine j_iload (pc := 168) dX4_value_168 rfl ?_
          refine s_callV_i (pc := 170) (M1 := M_X4_endOfLine) (n := 1) (as := [.int x7]) (a := 11) (st := []) dX4_value_170 G_X4_endOfLine wm_X4_33 (by decide +kernel) rfl (Nat.le_of_ble_eq_true rfl) shp_11 rfl (by show 1 ≤ d; omega) (Nat.le_of_ble_eq_true rfl) (Nat.zero_le _) (Nat.zero_le _) ?_
          refine CI.mono H (fun r4 σ4 H => ?_)
          refine j_istore (pc := 173) (lv1 := [(7, .int r4), (8, .int (ar σ 12 x7.toNatClampNeg)), (0, .ref 11), (1, .int x1), (2, .int x2), (3, .int x3), (4, .int x4), (5, .int x5), (6, .int x6)]) dX4_value_173 (Nat.le_of_ble_eq_true rfl) rfl ?_
          refine j_goto (pc := 175) (t := 184) dX4_value_175 (by decide) ?_
          refine j_iinc (pc := 184) (k := 0) (v := r4 + 1) (lv1 := [(7, .int (r4 + 1)), (8, .int (ar σ 12 x7.toNatClampNeg)), (0, .ref 11), (1, .int x1), (2, .int x2), (3, .int x3), (4, .int x4), (5, .int x5), (6, .int x6)]) dX4_value_184 rfl rfl (Nat.le_of_ble_eq_true rfl) rfl ?_
          refine j_goto (pc := 187) (t := 8) dX4_value_187 (by decide) ?_
          refine j_sub [2, 3, 4, 5, 6, 7, 8, 0] rfl ?_
          exact H
      by_cases c29_2 : -(ar σ 12 x7.toNatClampNeg) = 97
      · replace H := H.2.2.1 c29_2
        refine j_lookup (pc := 29) (t := 104) (off := 75) dX4_value_29 (by decide) (by rw [c29_2]; decide) (by decide) ?_
        refine j_aload_n (pc := 104) dX4_value_104 rfl ?_
        refine j_iload_n (pc := 105) dX4_value_105 rfl ?_
        refine s_callV_v (pc := 106) (M1 := M_X4_push) (n := 1) (as := [.int x1]) (a := 11) (st := []) dX4_value_106 G_X4_push wm_X4_25 (by decide +kernel) rfl (Nat.le_of_ble_eq_true rfl) shp_11 rfl (by show 1 ≤ d; omega) (Nat.le_of_ble_eq_true rfl) (Nat.zero_le _) (Nat.zero_le _) ?_
        refine CV.mono H (fun σ5 H => ?_)
        refine j_goto (pc := 109) (t := 184) dX4_value_109 (by decide) ?_
        refine j_iinc (pc := 184) (k := 8) (v := x7 + 1) (lv1 := [(7, .int (x7 + 1)), (8, .int (ar σ 12 x7.toNatClampNeg)), (0, .ref 11), (1, .int x1), (2, .int x2), (3, .int x3), (4, .int x4), (5, .int x5), (6, .int x6)]) dX4_value_184 rfl rfl (Nat.le_of_ble_eq_true rfl) rfl ?_
        refine j_goto (pc := 187) (t := 8) dX4_value_187 (by decide) ?_
        refine j_sub [2, 3, 4, 5, 6, 7, 8, 0] rfl ?_
        exact H
      by_cases c29_3 : -(ar σ 12 x7.toNatClampNeg) = 98
      · replace H := H.2.2.2.1 c29_3
        refine j_lookup (pc := 29) (t := 112) (off := 83) dX4_value_29 (by decide) (by rw [c29_3]; decide) (by decide) ?_
        refine j_aload_n (pc := 112) dX4_value_112 rfl ?_
        refine j_iload_n (pc := 113) dX4_value_113 rfl ?_
        refine s_callV_v (pc := 114) (M1 := M_X4_push) (n := 1) (as := [.int x2]) (a := 11) (st := []) dX4_value_114 G_X4_push wm_X4_25 (by decide +kernel) rfl (Nat.le_of_ble_eq_true rfl) shp_11 rfl (by show 1 ≤ d; omega) (Nat.le_of_ble_eq_true rfl) (Nat.zero_le _) (Nat.zero_le _) ?_
        refine CV.mono H (fun σ6 H => ?_)
        refine j_goto (pc := 117) (t := 184) dX4_value_117 (by decide) ?_
        refine j_iinc (pc := 184) (k := 8) (v := x7 + 1) (lv1 := [(7, .int (x7 + 1)), (8, .int (ar σ 12 x7.toNatClampNeg)), (0, .ref 11), (1, .int x1), (2, .int x2), (3, .int x3), (4, .int x4), (5, .int x5), (6, .int x6)]) dX4_value_184 rfl rfl (Nat.le_of_ble_eq_true rfl) rfl ?_
        refine j_goto (pc := 187) (t := 8) dX4_value_187 (by decide) ?_
        refine j_sub [2, 3, 4, 5, 6, 7, 8, 0] rfl ?_
        exact H
      by_cases c29_4 : -(ar σ 12 x7.toNatClampNeg) = 100
      · replace H := H.2.2.2.2.1 c29_4
        refine j_lookup (pc := 29) (t := 120) (off := 91) dX4_value_29 (by decide) (by rw [c29_4]; decide) (by decide) ?_
        refine j_aload_n (pc := 120) dX4_value_120 rfl ?_
        refine j_iload_n (pc := 121) dX4_value_121 rfl ?_
        refine s_callV_v (pc := 122) (M1 := M_X4_push) (n := 1) (as := [.int x3]) (a := 11) (st := []) dX4_value_122 G_X4_push wm_X4_25 (by decide +kernel) rfl (Nat.le_of_ble_eq_true rfl) shp_11 rfl (by show 1 ≤ d; omega) (Nat.le_of_ble_eq_true rfl) (Nat.zero_le _) (Nat.zero_le _) ?_
        refine CV.mono H (fun σ7 H => ?_)
        refine j_goto (pc := 125) (t := 184) dX4_value_125 (by decide) ?_
        refine j_iinc (pc := 184) (k := 8) (v := x7 + 1) (lv1 := [(7, .int (x7 + 1)), (8, .int (ar σ 12 x7.toNatClampNeg)), (0, .ref 11), (1, .int x1), (2, .int x2), (3, .int x3), (4, .int x4), (5, .int x5), (6, .int x6)]) dX4_value_184 rfl rfl (Nat.le_of_ble_eq_true rfl) rfl ?_
        refine j_goto (pc := 187) (t := 8) dX4_value_187 (by decide) ?_
        refine j_sub [2, 3, 4, 5, 6, 7, 8, 0] rfl ?_
        exact H
      by_cases c29_5 : -(ar σ 12 x7.toNatClampNeg) = 105
      · replace H := H.2.2.2.2.2.1 c29_5
        refine j_lookup (pc := 29) (t := 137) (off := 108) dX4_value_29 (by decide) (by rw [c29_5]; decide) (by decide) ?_
        refine j_aload_n (pc := 137) dX4_value_137 rfl ?_
        refine j_iload (pc := 138) dX4_value_138 rfl ?_
        refine s_callV_v (pc := 140) (M1 := M_X4_push) (n := 1) (as := [.int x5]) (a := 11) (st := []) dX4_value_140 G_X4_push wm_X4_25 (by decide +kernel) rfl (Nat.le_of_ble_eq_true rfl) shp_11 rfl (by show 1 ≤ d; omega) (Nat.le_of_ble_eq_true rfl) (Nat.zero_le _) (Nat.zero_le _) ?_
        refine CV.mono H (fun σ8 H => ?_)
        refine j_goto (pc := 143) (t := 184) dX4_value_143 (by decide) ?_
        refine j_iinc (pc := 184) (k := 8) (v := x7 + 1) (lv1 := [(7, .int (x7 + 1)), (8, .int (ar σ 12 x7.toNatClampNeg)), (0, .ref 11), (1, .int x1), (2, .int x2), (3, .int x3), (4, .int x4), (5, .int x5), (6, .int x6)]) dX4_value_184 rfl rfl (Nat.le_of_ble_eq_true rfl) rfl ?_
        refine j_goto (pc := 187) (t := 8) dX4_value_187 (by decide) ?_
        refine j_sub [2, 3, 4, 5, 6, 7, 8, 0] rfl ?_
        exact H
      by_cases c29_6 : -(ar σ 12 x7.toNatClampNeg) = 106
      · replace H := H.2.2.2.2.2.2.1 c29_6
        refine j_lookup (pc := 29) (t := 146) (off := 117) dX4_value_29 (by decide) (by rw [c29_6]; decide) (by decide) ?_
        refine j_aload_n (pc := 146) dX4_value_146 rfl ?_
        refine j_iload (pc := 147) dX4_value_147 rfl ?_
        refine s_callV_v (pc := 149) (M1 := M_X4_push) (n := 1) (as := [.int x6]) (a := 11) (st := []) dX4_value_149 G_X4_push wm_X4_25 (by decide +kernel) rfl (Nat.le_of_ble_eq_true rfl) shp_11 rfl (by show 1 ≤ d; omega) (Nat.le_of_ble_eq_true rfl) (Nat.zero_le _) (Nat.zero_le _) ?_
        refine CV.mono H (fun σ9 H => ?_)
        refine j_goto (pc := 152) (t := 184) dX4_value_152 (by decide) ?_
        refine j_iinc (pc := 184) (k := 8) (v := x7 + 1) (lv1 := [(7, .int (x7 + 1)), (8, .int (ar σ 12 x7.toNatClampNeg)), (0, .ref 11), (1, .int x1), (2, .int x2), (3, .int x3), (4, .int x4), (5, .int x5), (6, .int x6)]) dX4_value_184 rfl rfl (Nat.le_of_ble_eq_true rfl) rfl ?_
        refine j_goto (pc := 187) (t := 8) dX4_value_187 (by decide) ?_
        refine j_sub [2, 3, 4, 5, 6, 7, 8, 0] rfl ?_
        exact H
      by_cases c29_7 : -(ar σ 12 x7.toNatClampNeg) = 107
      · replace H := H.2.2.2.2.2.2.2 c29_7
        refine j_lookup (pc := 29) (t := 128) (off := 99) dX4_value_29 (by decide) (by rw [c29_7]; decide) (by decide) ?_
        refine j_aload_n (pc := 128) dX4_value_128 rfl ?_
        refine j_iload (pc := 129) dX4_value_129 rfl ?_
        refine s_callV_v (pc := 131) (M1 := M_X4_push) (n := 1) (as := [.int x4]) (a := 11) (st := []) dX4_value_131 G_X4_push wm_X4_25 (by decide +kernel) rfl (Nat.le_of_ble_eq_true rfl) shp_11 rfl (by show 1 ≤ d; omega) (Nat.le_of_ble_eq_true rfl) (Nat.zero_le _) (Nat.zero_le _) ?_
        refine CV.mono H (fun σ10 H => ?_)
        refine j_goto (pc := 134) (t := 184) dX4_value_134 (by decide) ?_
        refine j_iinc (pc := 184) (k := 8) (v := x7 + 1) (lv1 := [(7, .int (x7 + 1)), (8, .int (ar σ 12 x7.toNatClampNeg)), (0, .ref 11), (1, .int x1), (2, .int x2), (3, .int x3), (4, .int x4), (5, .int x5), (6, .int x6)]) dX4_value_184 rfl rfl (Nat.le_of_ble_eq_true rfl) rfl ?_
        refine j_goto (pc := 187) (t := 8) dX4_value_187 (by decide) ?_
        refine j_sub [2, 3, 4, 5, 6, 7, 8, 0] rfl ?_
        exact H
      exact absurd ⟨c29_0, c29_1, c29_2, c29_3, c29_4, c29_5, c29_6, c29_7⟩ c29d
set_option maxRecDepth 20000 in
theorem b_X5_forgetOldest_0 {l : Launch} {g : am_G} {d : Nat} {σ : am_S} {k : am_S → Prop}   (H : JV l g M_X5_forgetOldest d 2 [(0, .ref 34), (1, .int 1)] [] σ k) : CV l g M_X5_forgetOldest d [.ref 34] σ k := by
  show J l g (M_X5_forgetOldest, d, 0, 0) 0 [(0, .ref 34)] [] (hp σ) 0 0 (kV k)
  refine j_iconst (pc := 0) (v := 1) dX5_forgetOldest_0 (by decide) ?_
  refine j_istore_n (pc := 1) (lv1 := [(1, .int 1), (0, .ref 34)]) dX5_forgetOldest_1 (Nat.le_of_ble_eq_true rfl) rfl ?_
  refine j_sub [1, 0] rfl ?_
  exact H
set_option maxRecDepth 20000 in
theorem b_X5_forgetOldest_2 {l : Launch} {g : am_G} {d : Nat} {σ : am_S} {k : am_S → Prop}  {x1 : Int32} (H : ((rg σ 2180 ≤ x1 → k (sR σ 2180 ((rg σ 2180) - 1))) ∧ (¬ rg σ 2180 ≤ x1 → (vp_in x1 40 ∧ (vp_in (x1 - 1) 40 ∧ (vp_in x1 40 ∧ (vp_in (x1 - 1) 40 ∧ (vp_in x1 40 ∧ (vp_in (x1 - 1) 40 ∧ (vp_in x1 40 ∧ (vp_in (x1 - 1) 40 ∧ JV l g M_X5_forgetOldest d 2 [(0, .ref 34), (1, .int (x1 + 1))] [] (sA (sA (sA (sA σ 35 ((x1 - 1).toNatClampNeg) (ar σ 35 x1.toNatClampNeg)) 36 ((x1 - 1).toNatClampNeg) (ar σ 36 x1.toNatClampNeg)) 37 ((x1 - 1).toNatClampNeg) (ar σ 37 x1.toNatClampNeg)) 38 ((x1 - 1).toNatClampNeg) (ar σ 38 x1.toNatClampNeg)) k))))))))))) : JV l g M_X5_forgetOldest d 2 [(0, .ref 34), (1, .int x1)] [] σ k := by
  show J l g (M_X5_forgetOldest, d, 0, 0) 2 [(0, .ref 34), (1, .int x1)] [] (hp σ) 0 0 (kV k)
  refine j_iload_n (pc := 2) dX5_forgetOldest_2 rfl ?_
  refine j_aload_n (pc := 3) dX5_forgetOldest_3 rfl ?_
  refine s_geti (pc := 4) 2180 (rg σ 2180) dX5_forgetOldest_4 fl_X5_22 shp_34 rfl rfl rfl ?_
  refine j_icmp_ge (pc := 7) (t := 72) dX5_forgetOldest_7 (by decide) (fun c7 => ?_) (fun c7 => ?_)
  · replace H := H.1 c7
    refine j_aload_n (pc := 72) dX5_forgetOldest_72 rfl ?_
    refine j_dup (pc := 73) dX5_forgetOldest_73 rfl ?_
    refine s_geti (pc := 74) 2180 (rg σ 2180) dX5_forgetOldest_74 fl_X5_22 shp_34 rfl rfl rfl ?_
    refine j_iconst (pc := 77) (v := 1) dX5_forgetOldest_77 (by decide) ?_
    refine j_isub (pc := 78) dX5_forgetOldest_78 ?_
    refine s_put (pc := 79) 2180 dX5_forgetOldest_79 fl_X5_22 shp_34 rfl rfl fp_5_4 rfl rfl ?_
    exact s_vret (pc := 82) dX5_forgetOldest_82 rfl H
  · replace H := H.2 c7
    refine j_aload_n (pc := 10) dX5_forgetOldest_10 rfl ?_
    refine s_getr (pc := 11) dX5_forgetOldest_11 fl_X5_9 shp_34 rfl ?_
    refine j_iload_n (pc := 14) dX5_forgetOldest_14 rfl ?_
    refine j_iconst (pc := 15) (v := 1) dX5_forgetOldest_15 (by decide) ?_
    refine j_isub (pc := 16) dX5_forgetOldest_16 ?_
    refine j_aload_n (pc := 17) dX5_forgetOldest_17 rfl ?_
    refine s_getr (pc := 18) dX5_forgetOldest_18 fl_X5_9 shp_34 rfl ?_
    refine j_iload_n (pc := 21) dX5_forgetOldest_21 rfl ?_
    have b22 := H.1
    replace H := H.2
    refine s_iald (pc := 22) (ar σ 35 x1.toNatClampNeg) dX5_forgetOldest_22 shp_35 b22 rfl ?_
    have b23 := H.1
    replace H := H.2
    refine s_iast (pc := 23) dX5_forgetOldest_23 shp_35 b23 ?_
    refine j_aload_n (pc := 24) dX5_forgetOldest_24 rfl ?_
    refine s_getr (pc := 25) dX5_forgetOldest_25 fl_X5_13 shp_34 rfl ?_
    refine j_iload_n (pc := 28) dX5_forgetOldest_28 rfl ?_
    refine j_iconst (pc := 29) (v := 1) dX5_forgetOldest_29 (by decide) ?_
    refine j_isub (pc := 30) dX5_forgetOldest_30 ?_
    refine j_aload_n (pc := 31) dX5_forgetOldest_31 rfl ?_
    refine s_getr (pc := 32) dX5_forgetOldest_32 fl_X5_13 shp_34 rfl ?_
    refine j_iload_n (pc := 35) dX5_forgetOldest_35 rfl ?_
    have b36 := H.1
    replace H := H.2
    refine s_iald (pc := 36) (ar σ 36 x1.toNatClampNeg) dX5_forgetOldest_36 shp_36 b36 rfl ?_
    have b37 := H.1
    replace H := H.2
    refine s_iast (pc := 37) dX5_forgetOldest_37 shp_36 b37 ?_
    refine j_aload_n (pc := 38) dX5_forgetOldest_38 rfl ?_
    refine s_getr (pc := 39) dX5_forgetOldest_39 fl_X5_16 shp_34 rfl ?_
    refine j_iload_n (pc := 42) dX5_forgetOldest_42 rfl ?_
    refine j_iconst (pc := 43) (v := 1) dX5_forgetOldest_43 (by decide) ?_
    refine j_isub (pc := 44) dX5_forgetOldest_44 ?_
    refine j_aload_n (pc := 45) dX5_forgetOldest_45 rfl ?_
    refine s_getr (pc := 46) dX5_forgetOldest_46 fl_X5_16 shp_34 rfl ?_
    refine j_iload_n (pc := 49) dX5_forgetOldest_49 rfl ?_
    have b50 := H.1
    replace H := H.2
    refine s_iald (pc := 50) (ar σ 37 x1.toNatClampNeg) dX5_forgetOldest_50 shp_37 b50 rfl ?_
    have b51 := H.1
    replace H := H.2
    refine s_iast (pc := 51) dX5_forgetOldest_51 shp_37 b51 ?_
    refine j_aload_n (pc := 52) dX5_forgetOldest_52 rfl ?_
    refine s_getr (pc := 53) dX5_forgetOldest_53 fl_X5_19 shp_34 rfl ?_
    refine j_iload_n (pc := 56) dX5_forgetOldest_56 rfl ?_
    refine j_iconst (pc := 57) (v := 1) dX5_forgetOldest_57 (by decide) ?_
    refine j_isub (pc := 58) dX5_forgetOldest_58 ?_
    refine j_aload_n (pc := 59) dX5_forgetOldest_59 rfl ?_
    refine s_getr (pc := 60) dX5_forgetOldest_60 fl_X5_19 shp_34 rfl ?_
    refine j_iload_n (pc := 63) dX5_forgetOldest_63 rfl ?_
    have b64 := H.1
    replace H := H.2
    refine s_iald (pc := 64) (ar σ 38 x1.toNatClampNeg) dX5_forgetOldest_64 shp_38 b64 rfl ?_
    have b65 := H.1
    replace H := H.2
    refine s_iast (pc := 65) dX5_forgetOldest_65 shp_38 b65 ?_
    refine j_iinc (pc := 66) (k := 1) (v := x1 + 1) (lv1 := [(1, .int (x1 + 1)), (0, .ref 34)]) dX5_forgetOldest_66 rfl rfl (Nat.le_of_ble_eq_true rfl) rfl ?_
    refine j_goto (pc := 69) (t := 2) dX5_forgetOldest_69 (by decide) ?_
    refine j_sub [1, 0] rfl ?_
    exact H
set_option maxRecDepth 20000 in
theorem b_X5_write_0 {l : Launch} {g : am_G} {d : Nat} {σ : am_S} {k : am_S → Prop}  {x1 x2 x3 x4 : Int32} (hd : 1 ≤ d) (H : ((rg σ 2180 < 40 → (vp_in (rg σ 2180) 40 ∧ (vp_in (rg σ 2180) 40 ∧ (vp_in (rg σ 2180) 40 ∧ (vp_in (rg σ 2180) 40 ∧ k (sR (sR (sA (sA (sA (sA σ 35 ((rg σ 2180).toNatClampNeg) x1) 36 ((rg σ 2180).toNatClampNeg) x2) 37 ((rg σ 2180).toNatClampNeg) x3) 38 ((rg σ 2180).toNatClampNeg) x4) 2180 ((rg σ 2180) + 1)) 2181 0)))))) ∧ (¬ rg σ 2180 < 40 → CV l g M_X5_forgetOldest (d - 1) [.ref 34] σ (fun σ1 => (vp_in (rg σ1 2180) 40 ∧ (vp_in (rg σ1 2180) 40 ∧ (vp_in (rg σ1 2180) 40 ∧ (vp_in (rg σ1 2180) 40 ∧ k (sR (sR (sA (sA (sA (sA σ1 35 ((rg σ1 2180).toNatClampNeg) x1) 36 ((rg σ1 2180).toNatClampNeg) x2) 37 ((rg σ1 2180).toNatClampNeg) x3) 38 ((rg σ1 2180).toNatClampNeg) x4) 2180 ((rg σ1 2180) + 1)) 2181 0))))))))) : CV l g M_X5_write d [.ref 34, .int x1, .int x2, .int x3, .int x4] σ k := by
  show J l g (M_X5_write, d, 0, 0) 0 [(0, .ref 34), (1, .int x1), (2, .int x2), (3, .int x3), (4, .int x4)] [] (hp σ) 0 0 (kV k)
  refine j_aload_n (pc := 0) dX5_write_0 rfl ?_
  refine s_geti (pc := 1) 2180 (rg σ 2180) dX5_write_1 fl_X5_22 shp_34 rfl rfl rfl ?_
  refine j_bipush (pc := 4) (v := 40) dX5_write_4 (by decide) ?_
  refine j_icmp_lt (pc := 6) (t := 13) dX5_write_6 (by decide) (fun c6 => ?_) (fun c6 => ?_)
  · replace H := H.1 c6
    refine j_aload_n (pc := 13) dX5_write_13 rfl ?_
    refine s_getr (pc := 14) dX5_write_14 fl_X5_9 shp_34 rfl ?_
    refine j_aload_n (pc := 17) dX5_write_17 rfl ?_
    refine s_geti (pc := 18) 2180 (rg σ 2180) dX5_write_18 fl_X5_22 shp_34 rfl rfl rfl ?_
    refine j_iload_n (pc := 21) dX5_write_21 rfl ?_
    have b22 := H.1
    replace H := H.2
    refine s_iast (pc := 22) dX5_write_22 shp_35 b22 ?_
    refine j_aload_n (pc := 23) dX5_write_23 rfl ?_
    refine s_getr (pc := 24) dX5_write_24 fl_X5_13 shp_34 rfl ?_
    refine j_aload_n (pc := 27) dX5_write_27 rfl ?_
    refine s_geti (pc := 28) 2180 (rg σ 2180) dX5_write_28 fl_X5_22 shp_34 rfl rfl rfl ?_
    refine j_iload_n (pc := 31) dX5_write_31 rfl ?_
    have b32 := H.1
    replace H := H.2
    refine s_iast (pc := 32) dX5_write_32 shp_36 b32 ?_
    refine j_aload_n (pc := 33) dX5_write_33 rfl ?_
    refine s_getr (pc := 34) dX5_write_34 fl_X5_16 shp_34 rfl ?_
    refine j_aload_n (pc := 37) dX5_write_37 rfl ?_
    refine s_geti (pc := 38) 2180 (rg σ 2180) dX5_write_38 fl_X5_22 shp_34 rfl rfl rfl ?_
    refine j_iload_n (pc := 41) dX5_write_41 rfl ?_
    have b42 := H.1
    replace H := H.2
    refine s_iast (pc := 42) dX5_write_42 shp_37 b42 ?_
    refine j_aload_n (pc := 43) dX5_write_43 rfl ?_
    refine s_getr (pc := 44) dX5_write_44 fl_X5_19 shp_34 rfl ?_
    refine j_aload_n (pc := 47) dX5_write_47 rfl ?_
    refine s_geti (pc := 48) 2180 (rg σ 2180) dX5_write_48 fl_X5_22 shp_34 rfl rfl rfl ?_
    refine j_iload (pc := 51) dX5_write_51 rfl ?_
    have b53 := H.1
    replace H := H.2
    refine s_iast (pc := 53) dX5_write_53 shp_38 b53 ?_
    refine j_aload_n (pc := 54) dX5_write_54 rfl ?_
    refine j_dup (pc := 55) dX5_write_55 rfl ?_
    refine s_geti (pc := 56) 2180 (rg σ 2180) dX5_write_56 fl_X5_22 shp_34 rfl rfl rfl ?_
    refine j_iconst (pc := 59) (v := 1) dX5_write_59 (by decide) ?_
    refine j_iadd (pc := 60) dX5_write_60 ?_
    refine s_put (pc := 61) 2180 dX5_write_61 fl_X5_22 shp_34 rfl rfl fp_5_4 rfl rfl ?_
    refine j_aload_n (pc := 64) dX5_write_64 rfl ?_
    refine j_iconst (pc := 65) (v := 0) dX5_write_65 (by decide) ?_
    refine s_put (pc := 66) 2181 dX5_write_66 fl_X5_26 shp_34 rfl rfl fp_5_5 rfl rfl ?_
    exact s_vret (pc := 69) dX5_write_69 rfl H
  · replace H := H.2 c6
    refine j_aload_n (pc := 9) dX5_write_9 rfl ?_
    refine s_callV_v (pc := 10) (M1 := M_X5_forgetOldest) (n := 0) (as := []) (a := 34) (st := []) dX5_write_10 G_X5_forgetOldest wm_X5_29 (by decide +kernel) rfl (Nat.le_of_ble_eq_true rfl) shp_34 rfl (by show 1 ≤ d; omega) (Nat.le_of_ble_eq_true rfl) (Nat.zero_le _) (Nat.zero_le _) ?_
    refine CV.mono H (fun σ1 H => ?_)
    refine j_aload_n (pc := 13) dX5_write_13 rfl ?_
    refine s_getr (pc := 14) dX5_write_14 fl_X5_9 shp_34 rfl ?_
    refine j_aload_n (pc := 17) dX5_write_17 rfl ?_
    refine s_geti (pc := 18) 2180 (rg σ1 2180) dX5_write_18 fl_X5_22 shp_34 rfl rfl rfl ?_
    refine j_iload_n (pc := 21) dX5_write_21 rfl ?_
    have b22 := H.1
    replace H := H.2
    refine s_iast (pc := 22) dX5_write_22 shp_35 b22 ?_
    refine j_aload_n (pc := 23) dX5_write_23 rfl ?_
    refine s_getr (pc := 24) dX5_write_24 fl_X5_13 shp_34 rfl ?_
    refine j_aload_n (pc := 27) dX5_write_27 rfl ?_
    refine s_geti (pc := 28) 2180 (rg σ1 2180) dX5_write_28 fl_X5_22 shp_34 rfl rfl rfl ?_
    refine j_iload_n (pc := 31) dX5_write_31 rfl ?_
    have b32 := H.1
    replace H := H.2
    refine s_iast (pc := 32) dX5_write_32 shp_36 b32 ?_
    refine j_aload_n (pc := 33) dX5_write_33 rfl ?_
    refine s_getr (pc := 34) dX5_write_34 fl_X5_16 shp_34 rfl ?_
    refine j_aload_n (pc := 37) dX5_write_37 rfl ?_
    refine s_geti (pc := 38) 2180 (rg σ1 2180) dX5_write_38 fl_X5_22 shp_34 rfl rfl rfl ?_
    refine j_iload_n (pc := 41) dX5_write_41 rfl ?_
    have b42 := H.1
    replace H := H.2
    refine s_iast (pc := 42) dX5_write_42 shp_37 b42 ?_
    refine j_aload_n (pc := 43) dX5_write_43 rfl ?_
    refine s_getr (pc := 44) dX5_write_44 fl_X5_19 shp_34 rfl ?_
    refine j_aload_n (pc := 47) dX5_write_47 rfl ?_
    refine s_geti (pc := 48) 2180 (rg σ1 2180) dX5_write_48 fl_X5_22 shp_34 rfl rfl rfl ?_
    refine j_iload (pc := 51) dX5_write_51 rfl ?_
    have b53 := H.1
    replace H := H.2
    refine s_iast (pc := 53) dX5_write_53 shp_38 b53 ?_
    refine j_aload_n (pc := 54) dX5_write_54 rfl ?_
    refine j_dup (pc := 55) dX5_write_55 rfl ?_
    refine s_geti (pc := 56) 2180 (rg σ1 2180) dX5_write_56 fl_X5_22 shp_34 rfl rfl rfl ?_
    refine j_iconst (pc := 59) (v := 1) dX5_write_59 (by decide) ?_
    refine j_iadd (pc := 60) dX5_write_60 ?_
    refine s_put (pc := 61) 2180 dX5_write_61 fl_X5_22 shp_34 rfl rfl fp_5_4 rfl rfl ?_
    refine j_aload_n (pc := 64) dX5_write_64 rfl ?_
    refine j_iconst (pc := 65) (v := 0) dX5_write_65 (by decide) ?_
    refine s_put (pc := 66) 2181 dX5_write_66 fl_X5_26 shp_34 rfl rfl fp_5_5 rfl rfl ?_
    exact s_vret (pc := 69) dX5_write_69 rfl H
set_option maxRecDepth 20000 in
theorem b_X5_takeBack_0 {l : Launch} {g : am_G} {d : Nat} {σ : am_S} {k : am_S → Prop}   (hd : 1 ≤ d) (H : ((rg σ 2180 ≤ 0 → k σ) ∧ (¬ rg σ 2180 ≤ 0 → (vp_in ((rg σ 2180) - 1) 40 ∧ (vp_in ((rg σ 2180) - 1) 40 ∧ (vp_in ((rg σ 2180) - 1) 40 ∧ CV l g M_X2_setNumber (d - 1) [.ref 1, .int (ar σ 35 (((rg σ 2180) - 1).toNatClampNeg)), .int (ar σ 36 (((rg σ 2180) - 1).toNatClampNeg)), .int (ar σ 37 (((rg σ 2180) - 1).toNatClampNeg))] (sR (sR σ 2180 ((rg σ 2180) - 1)) 2181 ((rg σ 2181) + 1)) (fun σ1 => k σ1))))))) : CV l g M_X5_takeBack d [.ref 34, .ref 1] σ k := by
  show J l g (M_X5_takeBack, d, 0, 0) 0 [(0, .ref 34), (1, .ref 1)] [] (hp σ) 0 0 (kV k)
  refine j_aload_n (pc := 0) dX5_takeBack_0 rfl ?_
  refine s_geti (pc := 1) 2180 (rg σ 2180) dX5_takeBack_1 fl_X5_22 shp_34 rfl rfl rfl ?_
  refine j_if_le (pc := 4) (t := 58) dX5_takeBack_4 (by decide) (fun c4 => ?_) (fun c4 => ?_)
  · replace H := H.1 c4
    exact s_vret (pc := 58) dX5_takeBack_58 rfl H
  · replace H := H.2 c4
    refine j_aload_n (pc := 7) dX5_takeBack_7 rfl ?_
    refine j_dup (pc := 8) dX5_takeBack_8 rfl ?_
    refine s_geti (pc := 9) 2180 (rg σ 2180) dX5_takeBack_9 fl_X5_22 shp_34 rfl rfl rfl ?_
    refine j_iconst (pc := 12) (v := 1) dX5_takeBack_12 (by decide) ?_
    refine j_isub (pc := 13) dX5_takeBack_13 ?_
    refine s_put (pc := 14) 2180 dX5_takeBack_14 fl_X5_22 shp_34 rfl rfl fp_5_4 rfl rfl ?_
    refine j_aload_n (pc := 17) dX5_takeBack_17 rfl ?_
    refine j_dup (pc := 18) dX5_takeBack_18 rfl ?_
    refine s_geti (pc := 19) 2181 (rg σ 2181) dX5_takeBack_19 fl_X5_26 shp_34 rfl rfl rfl ?_
    refine j_iconst (pc := 22) (v := 1) dX5_takeBack_22 (by decide) ?_
    refine j_iadd (pc := 23) dX5_takeBack_23 ?_
    refine s_put (pc := 24) 2181 dX5_takeBack_24 fl_X5_26 shp_34 rfl rfl fp_5_5 rfl rfl ?_
    refine j_aload_n (pc := 27) dX5_takeBack_27 rfl ?_
    refine j_aload_n (pc := 28) dX5_takeBack_28 rfl ?_
    refine s_getr (pc := 29) dX5_takeBack_29 fl_X5_9 shp_34 rfl ?_
    refine j_aload_n (pc := 32) dX5_takeBack_32 rfl ?_
    refine s_geti (pc := 33) 2180 ((rg σ 2180) - 1) dX5_takeBack_33 fl_X5_22 shp_34 rfl rfl rfl ?_
    have b36 := H.1
    replace H := H.2
    refine s_iald (pc := 36) (ar σ 35 (((rg σ 2180) - 1).toNatClampNeg)) dX5_takeBack_36 shp_35 b36 rfl ?_
    refine j_aload_n (pc := 37) dX5_takeBack_37 rfl ?_
    refine s_getr (pc := 38) dX5_takeBack_38 fl_X5_13 shp_34 rfl ?_
    refine j_aload_n (pc := 41) dX5_takeBack_41 rfl ?_
    refine s_geti (pc := 42) 2180 ((rg σ 2180) - 1) dX5_takeBack_42 fl_X5_22 shp_34 rfl rfl rfl ?_
    have b45 := H.1
    replace H := H.2
    refine s_iald (pc := 45) (ar σ 36 (((rg σ 2180) - 1).toNatClampNeg)) dX5_takeBack_45 shp_36 b45 rfl ?_
    refine j_aload_n (pc := 46) dX5_takeBack_46 rfl ?_
    refine s_getr (pc := 47) dX5_takeBack_47 fl_X5_16 shp_34 rfl ?_
    refine j_aload_n (pc := 50) dX5_takeBack_50 rfl ?_
    refine s_geti (pc := 51) 2180 ((rg σ 2180) - 1) dX5_takeBack_51 fl_X5_22 shp_34 rfl rfl rfl ?_
    have b54 := H.1
    replace H := H.2
    refine s_iald (pc := 54) (ar σ 37 (((rg σ 2180) - 1).toNatClampNeg)) dX5_takeBack_54 shp_37 b54 rfl ?_
    refine s_callV_v (pc := 55) (M1 := M_X2_setNumber) (n := 3) (as := [.int (ar σ 35 (((rg σ 2180) - 1).toNatClampNeg)), .int (ar σ 36 (((rg σ 2180) - 1).toNatClampNeg)), .int (ar σ 37 (((rg σ 2180) - 1).toNatClampNeg))]) (a := 1) (st := []) dX5_takeBack_55 G_X2_setNumber wm_X5_32 (by decide +kernel) rfl (Nat.le_of_ble_eq_true rfl) shp_1 rfl (by show 1 ≤ d; omega) (Nat.le_of_ble_eq_true rfl) (Nat.zero_le _) (Nat.zero_le _) ?_
    refine CV.mono H (fun σ1 H => ?_)
    exact s_vret (pc := 58) dX5_takeBack_58 rfl H
set_option maxRecDepth 20000 in
theorem b_X5_doAgain_0 {l : Launch} {g : am_G} {d : Nat} {σ : am_S} {k : am_S → Prop}   (hd : 1 ≤ d) (H : ((rg σ 2181 ≤ 0 → k σ) ∧ (¬ rg σ 2181 ≤ 0 → ((40 ≤ rg σ 2180 → k σ) ∧ (¬ 40 ≤ rg σ 2180 → (vp_in (rg σ 2180) 40 ∧ (vp_in (rg σ 2180) 40 ∧ (vp_in (rg σ 2180) 40 ∧ CV l g M_X2_setNumber (d - 1) [.ref 1, .int (ar σ 35 ((rg σ 2180).toNatClampNeg)), .int (ar σ 36 ((rg σ 2180).toNatClampNeg)), .int (ar σ 38 ((rg σ 2180).toNatClampNeg))] σ (fun σ1 => k (sR (sR σ1 2180 ((rg σ1 2180) + 1)) 2181 ((rg σ1 2181) - 1))))))))))) : CV l g M_X5_doAgain d [.ref 34, .ref 1] σ k := by
  show J l g (M_X5_doAgain, d, 0, 0) 0 [(0, .ref 34), (1, .ref 1)] [] (hp σ) 0 0 (kV k)
  refine j_aload_n (pc := 0) dX5_doAgain_0 rfl ?_
  refine s_geti (pc := 1) 2181 (rg σ 2181) dX5_doAgain_1 fl_X5_26 shp_34 rfl rfl rfl ?_
  refine j_if_le (pc := 4) (t := 67) dX5_doAgain_4 (by decide) (fun c4 => ?_) (fun c4 => ?_)
  · replace H := H.1 c4
    exact s_vret (pc := 67) dX5_doAgain_67 rfl H
  · replace H := H.2 c4
    refine j_aload_n (pc := 7) dX5_doAgain_7 rfl ?_
    refine s_geti (pc := 8) 2180 (rg σ 2180) dX5_doAgain_8 fl_X5_22 shp_34 rfl rfl rfl ?_
    refine j_bipush (pc := 11) (v := 40) dX5_doAgain_11 (by decide) ?_
    refine j_icmp_ge (pc := 13) (t := 67) dX5_doAgain_13 (by decide) (fun c13 => ?_) (fun c13 => ?_)
    · replace H := H.1 c13
      exact s_vret (pc := 67) dX5_doAgain_67 rfl H
    · replace H := H.2 c13
      refine j_aload_n (pc := 16) dX5_doAgain_16 rfl ?_
      refine j_aload_n (pc := 17) dX5_doAgain_17 rfl ?_
      refine s_getr (pc := 18) dX5_doAgain_18 fl_X5_9 shp_34 rfl ?_
      refine j_aload_n (pc := 21) dX5_doAgain_21 rfl ?_
      refine s_geti (pc := 22) 2180 (rg σ 2180) dX5_doAgain_22 fl_X5_22 shp_34 rfl rfl rfl ?_
      have b25 := H.1
      replace H := H.2
      refine s_iald (pc := 25) (ar σ 35 ((rg σ 2180).toNatClampNeg)) dX5_doAgain_25 shp_35 b25 rfl ?_
      refine j_aload_n (pc := 26) dX5_doAgain_26 rfl ?_
      refine s_getr (pc := 27) dX5_doAgain_27 fl_X5_13 shp_34 rfl ?_
      refine j_aload_n (pc := 30) dX5_doAgain_30 rfl ?_
      refine s_geti (pc := 31) 2180 (rg σ 2180) dX5_doAgain_31 fl_X5_22 shp_34 rfl rfl rfl ?_
      have b34 := H.1
      replace H := H.2
      refine s_iald (pc := 34) (ar σ 36 ((rg σ 2180).toNatClampNeg)) dX5_doAgain_34 shp_36 b34 rfl ?_
      refine j_aload_n (pc := 35) dX5_doAgain_35 rfl ?_
      refine s_getr (pc := 36) dX5_doAgain_36 fl_X5_19 shp_34 rfl ?_
      refine j_aload_n (pc := 39) dX5_doAgain_39 rfl ?_
      refine s_geti (pc := 40) 2180 (rg σ 2180) dX5_doAgain_40 fl_X5_22 shp_34 rfl rfl rfl ?_
      have b43 := H.1
      replace H := H.2
      refine s_iald (pc := 43) (ar σ 38 ((rg σ 2180).toNatClampNeg)) dX5_doAgain_43 shp_38 b43 rfl ?_
      refine s_callV_v (pc := 44) (M1 := M_X2_setNumber) (n := 3) (as := [.int (ar σ 35 ((rg σ 2180).toNatClampNeg)), .int (ar σ 36 ((rg σ 2180).toNatClampNeg)), .int (ar σ 38 ((rg σ 2180).toNatClampNeg))]) (a := 1) (st := []) dX5_doAgain_44 G_X2_setNumber wm_X5_32 (by decide +kernel) rfl (Nat.le_of_ble_eq_true rfl) shp_1 rfl (by show 1 ≤ d; omega) (Nat.le_of_ble_eq_true rfl) (Nat.zero_le _) (Nat.zero_le _) ?_
      refine CV.mono H (fun σ1 H => ?_)
      refine j_aload_n (pc := 47) dX5_doAgain_47 rfl ?_
      refine j_dup (pc := 48) dX5_doAgain_48 rfl ?_
      refine s_geti (pc := 49) 2180 (rg σ1 2180) dX5_doAgain_49 fl_X5_22 shp_34 rfl rfl rfl ?_
      refine j_iconst (pc := 52) (v := 1) dX5_doAgain_52 (by decide) ?_
      refine j_iadd (pc := 53) dX5_doAgain_53 ?_
      refine s_put (pc := 54) 2180 dX5_doAgain_54 fl_X5_22 shp_34 rfl rfl fp_5_4 rfl rfl ?_
      refine j_aload_n (pc := 57) dX5_doAgain_57 rfl ?_
      refine j_dup (pc := 58) dX5_doAgain_58 rfl ?_
      refine s_geti (pc := 59) 2181 (rg σ1 2181) dX5_doAgain_59 fl_X5_26 shp_34 rfl rfl rfl ?_
      refine j_iconst (pc := 62) (v := 1) dX5_doAgain_62 (by decide) ?_
      refine j_isub (pc := 63) dX5_doAgain_63 ?_
      refine s_put (pc := 64) 2181 dX5_doAgain_64 fl_X5_26 shp_34 rfl rfl fp_5_5 rfl rfl ?_
      exact s_vret (pc := 67) dX5_doAgain_67 rfl H
set_option maxRecDepth 20000 in
theorem b_X6_look_0 {l : Launch} {g : am_G} {d : Nat} {σ : am_S} {k : am_S → Prop}  {x1 x2 x3 : Int32} (H : JV l g M_X6_look d 3 [(0, .ref 14), (1, .int x1), (2, .int x2), (3, .int x3), (4, .int 0)] [] σ k) : CV l g M_X6_look d [.ref 14, .int x1, .int x2, .int x3] σ k := by
  show J l g (M_X6_look, d, 0, 0) 0 [(0, .ref 14), (1, .int x1), (2, .int x2), (3, .int x3)] [] (hp σ) 0 0 (kV k)
  refine j_iconst (pc := 0) (v := 0) dX6_look_0 (by decide) ?_
  refine j_istore (pc := 1) (lv1 := [(4, .int 0), (0, .ref 14), (1, .int x1), (2, .int x2), (3, .int x3)]) dX6_look_1 (Nat.le_of_ble_eq_true rfl) rfl ?_
  refine j_sub [1, 2, 3, 4, 0] rfl ?_
  exact H
set_option maxRecDepth 20000 in
theorem b_X6_look_3 {l : Launch} {g : am_G} {d : Nat} {σ : am_S} {k : am_S → Prop}  {x1 x2 x3 x4 : Int32} (hd : 1 ≤ d) (H : ((rg σ 66 ≤ x4 → JV l g M_X6_look d 42 [(0, .ref 14), (1, .int x1), (2, .int x2), (3, .int x3), (4, .int 0)] [] σ k) ∧ (¬ rg σ 66 ≤ x4 → CI l g M_X2_height (d - 1) [.ref 1, .int x4, .int x2, .int x1] σ (fun r1 σ1 => (vp_in x4 7 ∧ JV l g M_X6_look d 3 [(0, .ref 14), (1, .int x1), (2, .int x2), (3, .int x3), (4, .int (x4 + 1))] [] (sA σ1 17 x4.toNatClampNeg r1) k))))) : JV l g M_X6_look d 3 [(0, .ref 14), (1, .int x1), (2, .int x2), (3, .int x3), (4, .int x4)] [] σ k := by
  show J l g (M_X6_look, d, 0, 0) 3 [(0, .ref 14), (1, .int x1), (2, .int x2), (3, .int x3), (4, .int x4)] [] (hp σ) 0 0 (kV k)
  refine j_iload (pc := 3) dX6_look_3 rfl ?_
  refine j_aload_n (pc := 5) dX6_look_5 rfl ?_
  refine s_getr (pc := 6) dX6_look_6 fl_X6_24 shp_14 rfl ?_
  refine s_geti (pc := 9) 66 (rg σ 66) dX6_look_9 fl_X6_32 shp_1 rfl rfl rfl ?_
  refine j_icmp_ge (pc := 12) (t := 39) dX6_look_12 (by decide) (fun c12 => ?_) (fun c12 => ?_)
  · replace H := H.1 c12
    refine j_iconst (pc := 39) (v := 0) dX6_look_39 (by decide) ?_
    refine j_istore (pc := 40) (lv1 := [(4, .int 0), (0, .ref 14), (1, .int x1), (2, .int x2), (3, .int x3)]) dX6_look_40 (Nat.le_of_ble_eq_true rfl) rfl ?_
    refine j_sub [1, 2, 3, 4, 0] rfl ?_
    exact H
  · replace H := H.2 c12
    refine j_aload_n (pc := 15) dX6_look_15 rfl ?_
    refine s_getr (pc := 16) dX6_look_16 fl_X6_18 shp_14 rfl ?_
    refine j_iload (pc := 19) dX6_look_19 rfl ?_
    refine j_aload_n (pc := 21) dX6_look_21 rfl ?_
    refine s_getr (pc := 22) dX6_look_22 fl_X6_24 shp_14 rfl ?_
    refine j_iload (pc := 25) dX6_look_25 rfl ?_
    refine j_iload_n (pc := 27) dX6_look_27 rfl ?_
    refine j_iload_n (pc := 28) dX6_look_28 rfl ?_
    refine s_callV_i (pc := 29) (M1 := M_X2_height) (n := 3) (as := [.int x4, .int x2, .int x1]) (a := 1) (st := [.int x4, .ref 17]) dX6_look_29 G_X2_height wm_X6_38 (by decide +kernel) rfl (Nat.le_of_ble_eq_true rfl) shp_1 rfl (by show 1 ≤ d; omega) (Nat.le_of_ble_eq_true rfl) (Nat.zero_le _) (Nat.zero_le _) ?_
    refine CI.mono H (fun r1 σ1 H => ?_)
    have b32 := H.1
    replace H := H.2
    refine s_iast (pc := 32) dX6_look_32 shp_17 b32 ?_
    refine j_iinc (pc := 33) (k := 4) (v := x4 + 1) (lv1 := [(4, .int (x4 + 1)), (0, .ref 14), (1, .int x1), (2, .int x2), (3, .int x3)]) dX6_look_33 rfl rfl (Nat.le_of_ble_eq_true rfl) rfl ?_
    refine j_goto (pc := 36) (t := 3) dX6_look_36 (by decide) ?_
    refine j_sub [1, 2, 3, 4, 0] rfl ?_
    exact H
set_option maxRecDepth 20000 in
theorem b_X6_look_42 {l : Launch} {g : am_G} {d : Nat} {σ : am_S} {k : am_S → Prop}  {x1 x2 x3 x4 : Int32} (H : ((rg σ 65 ≤ x4 → k σ) ∧ (¬ rg σ 65 ≤ x4 → (((x3 >>> (x4 &&& 31)) &&& 1 = 0 → (vp_in x4 5 ∧ (vp_in x4 5 ∧ (vp_in x4 5 ∧ (vp_in x4 5 ∧ JV l g M_X6_look d 42 [(0, .ref 14), (1, .int x1), (2, .int x2), (3, .int x3), (4, .int (x4 + 1))] [] (sA (sA σ 15 x4.toNatClampNeg (ar σ 2 x4.toNatClampNeg)) 16 x4.toNatClampNeg (ar σ 3 x4.toNatClampNeg)) k))))) ∧ (¬ (x3 >>> (x4 &&& 31)) &&& 1 = 0 → (vp_in x4 5 ∧ (vp_in x4 5 ∧ (vp_in x4 5 ∧ (vp_in x4 5 ∧ JV l g M_X6_look d 42 [(0, .ref 14), (1, .int x1), (2, .int x2), (3, .int x3), (4, .int (x4 + 1))] [] (sA (sA σ 15 x4.toNatClampNeg (ar σ 3 x4.toNatClampNeg)) 16 x4.toNatClampNeg (ar σ 2 x4.toNatClampNeg)) k))))))))) : JV l g M_X6_look d 42 [(0, .ref 14), (1, .int x1), (2, .int x2), (3, .int x3), (4, .int x4)] [] σ k := by
  show J l g (M_X6_look, d, 0, 0) 42 [(0, .ref 14), (1, .int x1), (2, .int x2), (3, .int x3), (4, .int x4)] [] (hp σ) 0 0 (kV k)
  refine j_iload (pc := 42) dX6_look_42 rfl ?_
  refine j_aload_n (pc := 44) dX6_look_44 rfl ?_
  refine s_getr (pc := 45) dX6_look_45 fl_X6_24 shp_14 rfl ?_
  refine s_geti (pc := 48) 65 (rg σ 65) dX6_look_48 fl_X6_41 shp_1 rfl rfl rfl ?_
  refine j_icmp_ge (pc := 51) (t := 146) dX6_look_51 (by decide) (fun c51 => ?_) (fun c51 => ?_)
  · replace H := H.1 c51
    exact s_vret (pc := 146) dX6_look_146 rfl H
  · replace H := H.2 c51
    refine j_iload_n (pc := 54) dX6_look_54 rfl ?_
    refine j_iload (pc := 55) dX6_look_55 rfl ?_
    refine j_ishr (pc := 57) dX6_look_57 ?_
    refine j_iconst (pc := 58) (v := 1) dX6_look_58 (by decide) ?_
    refine j_iand (pc := 59) dX6_look_59 ?_
    refine j_if_eq (pc := 60) (t := 67) dX6_look_60 (by decide) (fun c60 => ?_) (fun c60 => ?_)
    · replace H := H.1 c60
      refine j_iconst (pc := 67) (v := 0) dX6_look_67 (by decide) ?_
      refine j_istore (pc := 68) (lv1 := [(5, .int 0), (0, .ref 14), (1, .int x1), (2, .int x2), (3, .int x3), (4, .int x4)]) dX6_look_68 (Nat.le_of_ble_eq_true rfl) rfl ?_
      refine j_aload_n (pc := 70) dX6_look_70 rfl ?_
      refine s_getr (pc := 71) dX6_look_71 fl_X6_9 shp_14 rfl ?_
      refine j_iload (pc := 74) dX6_look_74 rfl ?_
      refine j_iload (pc := 76) dX6_look_76 rfl ?_
      refine j_if_eq (pc := 78) (t := 94) dX6_look_78 (by decide) (fun _ => ?_) (fun q => absurd q (by decide))
      refine j_aload_n (pc := 94) dX6_look_94 rfl ?_
      refine s_getr (pc := 95) dX6_look_95 fl_X6_24 shp_14 rfl ?_
      refine s_getr (pc := 98) dX6_look_98 fl_X6_45 shp_1 rfl ?_
      refine j_iload (pc := 101) dX6_look_101 rfl ?_
      have b103 := H.1
      replace H := H.2
      refine s_iald (pc := 103) (ar σ 2 x4.toNatClampNeg) dX6_look_103 shp_2 b103 rfl ?_
      have b104 := H.1
      replace H := H.2
      refine s_iast (pc := 104) dX6_look_104 shp_15 b104 ?_
      refine j_aload_n (pc := 105) dX6_look_105 rfl ?_
      refine s_getr (pc := 106) dX6_look_106 fl_X6_15 shp_14 rfl ?_
      refine j_iload (pc := 109) dX6_look_109 rfl ?_
      refine j_iload (pc := 111) dX6_look_111 rfl ?_
      refine j_if_eq (pc := 113) (t := 129) dX6_look_113 (by decide) (fun _ => ?_) (fun q => absurd q (by decide))
      refine j_aload_n (pc := 129) dX6_look_129 rfl ?_
      refine s_getr (pc := 130) dX6_look_130 fl_X6_24 shp_14 rfl ?_
      refine s_getr (pc := 133) dX6_look_133 fl_X6_44 shp_1 rfl ?_
      refine j_iload (pc := 136) dX6_look_136 rfl ?_
      have b138 := H.1
      replace H := H.2
      refine s_iald (pc := 138) (ar σ 3 x4.toNatClampNeg) dX6_look_138 shp_3 b138 rfl ?_
      have b139 := H.1
      replace H := H.2
      refine s_iast (pc := 139) dX6_look_139 shp_16 b139 ?_
      refine j_iinc (pc := 140) (k := 5) (v := x4 + 1) (lv1 := [(4, .int (x4 + 1)), (5, .int 0), (0, .ref 14), (1, .int x1), (2, .int x2), (3, .int x3)]) dX6_look_140 rfl rfl (Nat.le_of_ble_eq_true rfl) rfl ?_
      refine j_goto (pc := 143) (t := 42) dX6_look_143 (by decide) ?_
      refine j_sub [2, 3, 4, 5, 0] rfl ?_
      exact H
    · replace H := H.2 c60
      refine j_iconst (pc := 63) (v := 1) dX6_look_63 (by decide) ?_
      refine j_goto (pc := 64) (t := 68) dX6_look_64 (by decide) ?_
      refine j_istore (pc := 68) (lv1 := [(5, .int 1), (0, .ref 14), (1, .int x1), (2, .int x2), (3, .int x3), (4, .int x4)]) dX6_look_68 (Nat.le_of_ble_eq_true rfl) rfl ?_
      refine j_aload_n (pc := 70) dX6_look_70 rfl ?_
      refine s_getr (pc := 71) dX6_look_71 fl_X6_9 shp_14 rfl ?_
      refine j_iload (pc := 74) dX6_look_74 rfl ?_
      refine j_iload (pc := 76) dX6_look_76 rfl ?_
      refine j_if_eq (pc := 78) (t := 94) dX6_look_78 (by decide) (fun q => absurd q (by decide)) (fun _ => ?_)
      refine j_aload_n (pc := 81) dX6_look_81 rfl ?_
      refine s_getr (pc := 82) dX6_look_82 fl_X6_24 shp_14 rfl ?_
      refine s_getr (pc := 85) dX6_look_85 fl_X6_44 shp_1 rfl ?_
      refine j_iload (pc := 88) dX6_look_88 rfl ?_
      have b90 := H.1
      replace H := H.2
      refine s_iald (pc := 90) (ar σ 3 x4.toNatClampNeg) dX6_look_90 shp_3 b90 rfl ?_
      refine j_goto (pc := 91) (t := 104) dX6_look_91 (by decide) ?_
      have b104 := H.1
      replace H := H.2
      refine s_iast (pc := 104) dX6_look_104 shp_15 b104 ?_
      refine j_aload_n (pc := 105) dX6_look_105 rfl ?_
      refine s_getr (pc := 106) dX6_look_106 fl_X6_15 shp_14 rfl ?_
      refine j_iload (pc := 109) dX6_look_109 rfl ?_
      refine j_iload (pc := 111) dX6_look_111 rfl ?_
      refine j_if_eq (pc := 113) (t := 129) dX6_look_113 (by decide) (fun q => absurd q (by decide)) (fun _ => ?_)
      refine j_aload_n (pc := 116) dX6_look_116 rfl ?_
      refine s_getr (pc := 117) dX6_look_117 fl_X6_24 shp_14 rfl ?_
      refine s_getr (pc := 120) dX6_look_120 fl_X6_45 shp_1 rfl ?_
      refine j_iload (pc := 123) dX6_look_123 rfl ?_
      have b125 := H.1
      replace H := H.2
      refine s_iald (pc := 125) (ar σ 2 x4.toNatClampNeg) dX6_look_125 shp_2 b125 rfl ?_
      refine j_goto (pc := 126) (t := 139) dX6_look_126 (by decide) ?_
      have b139 := H.1
      replace H := H.2
      refine s_iast (pc := 139) dX6_look_139 shp_16 b139 ?_
      refine j_iinc (pc := 140) (k := 5) (v := x4 + 1) (lv1 := [(4, .int (x4 + 1)), (5, .int 1), (0, .ref 14), (1, .int x1), (2, .int x2), (3, .int x3)]) dX6_look_140 rfl rfl (Nat.le_of_ble_eq_true rfl) rfl ?_
      refine j_goto (pc := 143) (t := 42) dX6_look_143 (by decide) ?_
      refine j_sub [2, 3, 4, 5, 0] rfl ?_
      exact H
set_option maxRecDepth 20000 in
theorem b_X6_isLawful_0 {l : Launch} {g : am_G} {d : Nat} {σ : am_S} {k : Int32 → am_S → Prop}  {x1 x2 x3 : Int32} (hd : 1 ≤ d) (H : (vp_in x2 7 ∧ (vp_in x3 7 ∧ (vp_in x1 5 ∧ (((¬ rg σ 705 ≤ 0) → (vp_in x1 5 ∧ (vp_in x1 5 ∧ CI l g M_X4_value (d - 1) [.ref 11, .int (ar σ 17 x2.toNatClampNeg), .int (ar σ 17 x3.toNatClampNeg), .int x1, .int (ar σ 4 x1.toNatClampNeg), .int (ar σ 15 x1.toNatClampNeg), .int (ar σ 16 x1.toNatClampNeg)] σ (fun r2 σ2 => ((r2 = 0 → k 0 σ2) ∧ (¬ r2 = 0 → k 1 σ2)))))) ∧ (¬ (¬ rg σ 705 ≤ 0) → ((¬ ar σ 4 x1.toNatClampNeg = 0 → ((¬ ar σ 4 x1.toNatClampNeg = 1 → ((ar σ 17 x2.toNatClampNeg < ar σ 17 x3.toNatClampNeg → k 0 σ) ∧ (¬ ar σ 17 x2.toNatClampNeg < ar σ 17 x3.toNatClampNeg → k 1 σ))) ∧ (ar σ 4 x1.toNatClampNeg = 1 → ((ar σ 17 x3.toNatClampNeg ≤ ar σ 17 x2.toNatClampNeg → k 0 σ) ∧ (¬ ar σ 17 x3.toNatClampNeg ≤ ar σ 17 x2.toNatClampNeg → k 1 σ))))) ∧ (ar σ 4 x1.toNatClampNeg = 0 → ((ar σ 17 x2.toNatClampNeg ≤ ar σ 17 x3.toNatClampNeg → k 0 σ) ∧ (¬ ar σ 17 x2.toNatClampNeg ≤ ar σ 17 x3.toNatClampNeg → k 1 σ)))))))))) : CI l g M_X6_isLawful d [.ref 14, .int x1, .int x2, .int x3] σ k := by
  show J l g (M_X6_isLawful, d, 0, 0) 0 [(0, .ref 14), (1, .int x1), (2, .int x2), (3, .int x3)] [] (hp σ) 0 0 (kI k)
  refine j_aload_n (pc := 0) dX6_isLawful_0 rfl ?_
  refine s_getr (pc := 1) dX6_isLawful_1 fl_X6_18 shp_14 rfl ?_
  refine j_iload_n (pc := 4) dX6_isLawful_4 rfl ?_
  have b5 := H.1
  replace H := H.2
  refine s_iald (pc := 5) (ar σ 17 x2.toNatClampNeg) dX6_isLawful_5 shp_17 b5 rfl ?_
  refine j_istore (pc := 6) (lv1 := [(4, .int (ar σ 17 x2.toNatClampNeg)), (0, .ref 14), (1, .int x1), (2, .int x2), (3, .int x3)]) dX6_isLawful_6 (Nat.le_of_ble_eq_true rfl) rfl ?_
  refine j_aload_n (pc := 8) dX6_isLawful_8 rfl ?_
  refine s_getr (pc := 9) dX6_isLawful_9 fl_X6_18 shp_14 rfl ?_
  refine j_iload_n (pc := 12) dX6_isLawful_12 rfl ?_
  have b13 := H.1
  replace H := H.2
  refine s_iald (pc := 13) (ar σ 17 x3.toNatClampNeg) dX6_isLawful_13 shp_17 b13 rfl ?_
  refine j_istore (pc := 14) (lv1 := [(5, .int (ar σ 17 x3.toNatClampNeg)), (4, .int (ar σ 17 x2.toNatClampNeg)), (0, .ref 14), (1, .int x1), (2, .int x2), (3, .int x3)]) dX6_isLawful_14 (Nat.le_of_ble_eq_true rfl) rfl ?_
  refine j_aload_n (pc := 16) dX6_isLawful_16 rfl ?_
  refine s_getr (pc := 17) dX6_isLawful_17 fl_X6_24 shp_14 rfl ?_
  refine s_getr (pc := 20) dX6_isLawful_20 fl_X6_58 shp_1 rfl ?_
  refine j_iload_n (pc := 23) dX6_isLawful_23 rfl ?_
  have b24 := H.1
  replace H := H.2
  refine s_iald (pc := 24) (ar σ 4 x1.toNatClampNeg) dX6_isLawful_24 shp_4 b24 rfl ?_
  refine j_istore (pc := 25) (lv1 := [(6, .int (ar σ 4 x1.toNatClampNeg)), (5, .int (ar σ 17 x3.toNatClampNeg)), (4, .int (ar σ 17 x2.toNatClampNeg)), (0, .ref 14), (1, .int x1), (2, .int x2), (3, .int x3)]) dX6_isLawful_25 (Nat.le_of_ble_eq_true rfl) rfl ?_
  refine j_aload_n (pc := 27) dX6_isLawful_27 rfl ?_
  refine s_getr (pc := 28) dX6_isLawful_28 fl_X6_28 shp_14 rfl ?_
  refine s_callV_i (pc := 31) (M1 := M_X4_isTold) (n := 0) (as := []) (a := 11) (st := []) dX6_isLawful_31 G_X4_isTold wm_X6_61 (by decide +kernel) rfl (Nat.le_of_ble_eq_true rfl) shp_11 rfl (by show 1 ≤ d; omega) (Nat.le_of_ble_eq_true rfl) (Nat.zero_le _) (Nat.zero_le _) ?_
  refine C_X4_isTold (d := d - 1) (by omega) ⟨fun c31 => ?_, fun c31 => ?_⟩
  · replace H := H.1 c31
    refine j_if_eq (pc := 34) (t := 72) dX6_isLawful_34 (by decide) (fun q => absurd q (by decide)) (fun _ => ?_)
    refine j_aload_n (pc := 37) dX6_isLawful_37 rfl ?_
    refine s_getr (pc := 38) dX6_isLawful_38 fl_X6_28 shp_14 rfl ?_
    refine j_iload (pc := 41) dX6_isLawful_41 rfl ?_
    refine j_iload (pc := 43) dX6_isLawful_43 rfl ?_
    refine j_iload_n (pc := 45) dX6_isLawful_45 rfl ?_
    refine j_iload (pc := 46) dX6_isLawful_46 rfl ?_
    refine j_aload_n (pc := 48) dX6_isLawful_48 rfl ?_
    refine s_getr (pc := 49) dX6_isLawful_49 fl_X6_9 shp_14 rfl ?_
    refine j_iload_n (pc := 52) dX6_isLawful_52 rfl ?_
    have b53 := H.1
    replace H := H.2
    refine s_iald (pc := 53) (ar σ 15 x1.toNatClampNeg) dX6_isLawful_53 shp_15 b53 rfl ?_
    refine j_aload_n (pc := 54) dX6_isLawful_54 rfl ?_
    refine s_getr (pc := 55) dX6_isLawful_55 fl_X6_15 shp_14 rfl ?_
    refine j_iload_n (pc := 58) dX6_isLawful_58 rfl ?_
    have b59 := H.1
    replace H := H.2
    refine s_iald (pc := 59) (ar σ 16 x1.toNatClampNeg) dX6_isLawful_59 shp_16 b59 rfl ?_
    refine s_callV_i (pc := 60) (M1 := M_X4_value) (n := 6) (as := [.int (ar σ 17 x2.toNatClampNeg), .int (ar σ 17 x3.toNatClampNeg), .int x1, .int (ar σ 4 x1.toNatClampNeg), .int (ar σ 15 x1.toNatClampNeg), .int (ar σ 16 x1.toNatClampNeg)]) (a := 11) (st := []) dX6_isLawful_60 G_X4_value wm_X6_67 (by decide +kernel) rfl (Nat.le_of_ble_eq_true rfl) shp_11 rfl (by show 1 ≤ d; omega) (Nat.le_of_ble_eq_true rfl) (Nat.zero_le _) (Nat.zero_le _) ?_
    refine CI.mono H (fun r2 σ2 H => ?_)
    refine j_if_eq (pc := 63) (t := 70) dX6_isLawful_63 (by decide) (fun c63 => ?_) (fun c63 => ?_)
    · replace H := H.1 c63
      refine j_iconst (pc := 70) (v := 0) dX6_isLawful_70 (by decide) ?_
      exact s_iretz (pc := 71) dX6_isLawful_71 rfl rfl H
    · replace H := H.2 c63
      refine j_iconst (pc := 66) (v := 1) dX6_isLawful_66 (by decide) ?_
      refine j_goto (pc := 67) (t := 71) dX6_isLawful_67 (by decide) ?_
      exact s_iretz (pc := 71) dX6_isLawful_71 rfl rfl H
  · replace H := H.2 c31
    refine j_if_eq (pc := 34) (t := 72) dX6_isLawful_34 (by decide) (fun _ => ?_) (fun q => absurd q (by decide))
    refine j_iload (pc := 72) dX6_isLawful_72 rfl ?_
    refine j_if_ne (pc := 74) (t := 90) dX6_isLawful_74 (by decide) (fun c74 => ?_) (fun c74 => ?_)
    · replace H := H.1 c74
      refine j_iload (pc := 90) dX6_isLawful_90 rfl ?_
      refine j_iconst (pc := 92) (v := 1) dX6_isLawful_92 (by decide) ?_
      refine j_icmp_ne (pc := 93) (t := 111) dX6_isLawful_93 (by decide) (fun c93 => ?_) (fun c93 => ?_)
      · replace H := H.1 c93
        refine j_iload (pc := 111) dX6_isLawful_111 rfl ?_
        refine j_iload (pc := 113) dX6_isLawful_113 rfl ?_
        refine j_icmp_lt (pc := 115) (t := 122) dX6_isLawful_115 (by decide) (fun c115 => ?_) (fun c115 => ?_)
        · replace H := H.1 c115
          refine j_iconst (pc := 122) (v := 0) dX6_isLawful_122 (by decide) ?_
          exact s_iretz (pc := 123) dX6_isLawful_123 rfl rfl H
        · replace H := H.2 c115
          refine j_iconst (pc := 118) (v := 1) dX6_isLawful_118 (by decide) ?_
          refine j_goto (pc := 119) (t := 123) dX6_isLawful_119 (by decide) ?_
          exact s_iretz (pc := 123) dX6_isLawful_123 rfl rfl H
      · replace H := H.2 c93
        refine j_iload (pc := 96) dX6_isLawful_96 rfl ?_
        refine j_iload (pc := 98) dX6_isLawful_98 rfl ?_
        refine j_icmp_ge (pc := 100) (t := 107) dX6_isLawful_100 (by decide) (fun c100 => ?_) (fun c100 => ?_)
        · replace H := H.1 c100
          refine j_iconst (pc := 107) (v := 0) dX6_isLawful_107 (by decide) ?_
          refine j_goto (pc := 108) (t := 123) dX6_isLawful_108 (by decide) ?_
          exact s_iretz (pc := 123) dX6_isLawful_123 rfl rfl H
        · replace H := H.2 c100
          refine j_iconst (pc := 103) (v := 1) dX6_isLawful_103 (by decide) ?_
          refine j_goto (pc := 104) (t := 123) dX6_isLawful_104 (by decide) ?_
          exact s_iretz (pc := 123) dX6_isLawful_123 rfl rfl H
    · replace H := H.2 c74
      refine j_iload (pc := 77) dX6_isLawful_77 rfl ?_
      refine j_iload (pc := 79) dX6_isLawful_79 rfl ?_
      refine j_icmp_le (pc := 81) (t := 88) dX6_isLawful_81 (by decide) (fun c81 => ?_) (fun c81 => ?_)
      · replace H := H.1 c81
        refine j_iconst (pc := 88) (v := 0) dX6_isLawful_88 (by decide) ?_
        exact s_iretz (pc := 89) dX6_isLawful_89 rfl rfl H
      · replace H := H.2 c81
        refine j_iconst (pc := 84) (v := 1) dX6_isLawful_84 (by decide) ?_
        refine j_goto (pc := 85) (t := 89) dX6_isLawful_85 (by decide) ?_
        exact s_iretz (pc := 89) dX6_isLawful_89 rfl rfl H
set_option maxRecDepth 20000 in
theorem b_X6_partnersOf_0 {l : Launch} {g : am_G} {d : Nat} {σ : am_S} {k : Int32 → am_S → Prop}  {x1 x2 : Int32} (H : JI l g M_X6_partnersOf d 5 [(0, .ref 14), (1, .int x1), (2, .int x2), (3, .int 0), (4, .int 0)] [] σ k) : CI l g M_X6_partnersOf d [.ref 14, .int x1, .int x2] σ k := by
  show J l g (M_X6_partnersOf, d, 0, 0) 0 [(0, .ref 14), (1, .int x1), (2, .int x2)] [] (hp σ) 0 0 (kI k)
  refine j_iconst (pc := 0) (v := 0) dX6_partnersOf_0 (by decide) ?_
  refine j_istore_n (pc := 1) (lv1 := [(3, .int 0), (0, .ref 14), (1, .int x1), (2, .int x2)]) dX6_partnersOf_1 (Nat.le_of_ble_eq_true rfl) rfl ?_
  refine j_iconst (pc := 2) (v := 0) dX6_partnersOf_2 (by decide) ?_
  refine j_istore (pc := 3) (lv1 := [(4, .int 0), (3, .int 0), (0, .ref 14), (1, .int x1), (2, .int x2)]) dX6_partnersOf_3 (Nat.le_of_ble_eq_true rfl) rfl ?_
  refine j_sub [2, 3, 4, 1, 0] rfl ?_
  exact H
set_option maxRecDepth 20000 in
theorem b_X6_partnersOf_5 {l : Launch} {g : am_G} {d : Nat} {σ : am_S} {k : Int32 → am_S → Prop}  {x1 x2 x3 x4 : Int32} (hd : 1 ≤ d) (H : ((rg σ 66 ≤ x4 → k x3 σ) ∧ (¬ rg σ 66 ≤ x4 → ((x4 = x2 → JI l g M_X6_partnersOf d 5 [(0, .ref 14), (1, .int x1), (2, .int x2), (3, .int x3), (4, .int (x4 + 1))] [] σ k) ∧ (¬ x4 = x2 → CI l g M_X6_isLawful (d - 1) [.ref 14, .int x1, .int x2, .int x4] σ (fun r1 σ1 => ((r1 = 0 → JI l g M_X6_partnersOf d 5 [(0, .ref 14), (1, .int x1), (2, .int x2), (3, .int x3), (4, .int (x4 + 1))] [] σ1 k) ∧ (¬ r1 = 0 → JI l g M_X6_partnersOf d 5 [(0, .ref 14), (1, .int x1), (2, .int x2), (3, .int (x3 ||| ((1 : Int32) <<< (x4 &&& 31)))), (4, .int (x4 + 1))] [] σ1 k)))))))) : JI l g M_X6_partnersOf d 5 [(0, .ref 14), (1, .int x1), (2, .int x2), (3, .int x3), (4, .int x4)] [] σ k := by
  show J l g (M_X6_partnersOf, d, 0, 0) 5 [(0, .ref 14), (1, .int x1), (2, .int x2), (3, .int x3), (4, .int x4)] [] (hp σ) 0 0 (kI k)
  refine j_iload (pc := 5) dX6_partnersOf_5 rfl ?_
  refine j_aload_n (pc := 7) dX6_partnersOf_7 rfl ?_
  refine s_getr (pc := 8) dX6_partnersOf_8 fl_X6_24 shp_14 rfl ?_
  refine s_geti (pc := 11) 66 (rg σ 66) dX6_partnersOf_11 fl_X6_32 shp_1 rfl rfl rfl ?_
  refine j_icmp_ge (pc := 14) (t := 47) dX6_partnersOf_14 (by decide) (fun c14 => ?_) (fun c14 => ?_)
  · replace H := H.1 c14
    refine j_iload_n (pc := 47) dX6_partnersOf_47 rfl ?_
    exact s_ireti (pc := 48) dX6_partnersOf_48 rfl H
  · replace H := H.2 c14
    refine j_iload (pc := 17) dX6_partnersOf_17 rfl ?_
    refine j_iload_n (pc := 19) dX6_partnersOf_19 rfl ?_
    refine j_icmp_eq (pc := 20) (t := 41) dX6_partnersOf_20 (by decide) (fun c20 => ?_) (fun c20 => ?_)
    · replace H := H.1 c20
      refine j_iinc (pc := 41) (k := 4) (v := x4 + 1) (lv1 := [(4, .int (x4 + 1)), (0, .ref 14), (1, .int x1), (2, .int x2), (3, .int x3)]) dX6_partnersOf_41 rfl rfl (Nat.le_of_ble_eq_true rfl) rfl ?_
      refine j_goto (pc := 44) (t := 5) dX6_partnersOf_44 (by decide) ?_
      refine j_sub [1, 2, 3, 4, 0] rfl ?_
      exact H
    · replace H := H.2 c20
      refine j_aload_n (pc := 23) dX6_partnersOf_23 rfl ?_
      refine j_iload_n (pc := 24) dX6_partnersOf_24 rfl ?_
      refine j_iload_n (pc := 25) dX6_partnersOf_25 rfl ?_
      refine j_iload (pc := 26) dX6_partnersOf_26 rfl ?_
      refine s_callV_i (pc := 28) (M1 := M_X6_isLawful) (n := 3) (as := [.int x1, .int x2, .int x4]) (a := 14) (st := []) dX6_partnersOf_28 G_X6_isLawful wm_X6_54 (by decide +kernel) rfl (Nat.le_of_ble_eq_true rfl) shp_14 rfl (by show 1 ≤ d; omega) (Nat.le_of_ble_eq_true rfl) (Nat.zero_le _) (Nat.zero_le _) ?_
      refine CI.mono H (fun r1 σ1 H => ?_)
      refine j_if_eq (pc := 31) (t := 41) dX6_partnersOf_31 (by decide) (fun c31 => ?_) (fun c31 => ?_)
      · replace H := H.1 c31
        refine j_iinc (pc := 41) (k := 4) (v := x4 + 1) (lv1 := [(4, .int (x4 + 1)), (0, .ref 14), (1, .int x1), (2, .int x2), (3, .int x3)]) dX6_partnersOf_41 rfl rfl (Nat.le_of_ble_eq_true rfl) rfl ?_
        refine j_goto (pc := 44) (t := 5) dX6_partnersOf_44 (by decide) ?_
        refine j_sub [1, 2, 3, 4, 0] rfl ?_
        exact H
      · replace H := H.2 c31
        refine j_iload_n (pc := 34) dX6_partnersOf_34 rfl ?_
        refine j_iconst (pc := 35) (v := 1) dX6_partnersOf_35 (by decide) ?_
        refine j_iload (pc := 36) dX6_partnersOf_36 rfl ?_
        refine j_ishl (pc := 38) dX6_partnersOf_38 ?_
        refine j_ior (pc := 39) dX6_partnersOf_39 ?_
        refine j_istore_n (pc := 40) (lv1 := [(3, .int (x3 ||| ((1 : Int32) <<< (x4 &&& 31)))), (0, .ref 14), (1, .int x1), (2, .int x2), (4, .int x4)]) dX6_partnersOf_40 (Nat.le_of_ble_eq_true rfl) rfl ?_
        refine j_iinc (pc := 41) (k := 4) (v := x4 + 1) (lv1 := [(4, .int (x4 + 1)), (3, .int (x3 ||| ((1 : Int32) <<< (x4 &&& 31)))), (0, .ref 14), (1, .int x1), (2, .int x2)]) dX6_partnersOf_41 rfl rfl (Nat.le_of_ble_eq_true rfl) rfl ?_
        refine j_goto (pc := 44) (t := 5) dX6_partnersOf_44 (by decide) ?_
        refine j_sub [2, 3, 4, 1, 0] rfl ?_
        exact H
set_option maxRecDepth 20000 in
theorem b_X6_weigh_0 {l : Launch} {g : am_G} {d : Nat} {σ : am_S} {k : am_S → Prop}  {x1 x2 x3 : Int32} (hd : 1 ≤ d) (H : CV l g M_X6_look (d - 1) [.ref 14, .int x1, .int x2, .int x3] σ (fun σ1 => JV l g M_X6_weigh d 10 [(0, .ref 14), (1, .int x1), (2, .int x2), (3, .int x3), (4, .int 0)] [] σ1 k)) : CV l g M_X6_weigh d [.ref 14, .int x1, .int x2, .int x3] σ k := by
  show J l g (M_X6_weigh, d, 0, 0) 0 [(0, .ref 14), (1, .int x1), (2, .int x2), (3, .int x3)] [] (hp σ) 0 0 (kV k)
  refine j_aload_n (pc := 0) dX6_weigh_0 rfl ?_
  refine j_iload_n (pc := 1) dX6_weigh_1 rfl ?_
  refine j_iload_n (pc := 2) dX6_weigh_2 rfl ?_
  refine j_iload_n (pc := 3) dX6_weigh_3 rfl ?_
  refine s_callV_v (pc := 4) (M1 := M_X6_look) (n := 3) (as := [.int x1, .int x2, .int x3]) (a := 14) (st := []) dX6_weigh_4 G_X6_look wm_X6_46 (by decide +kernel) rfl (Nat.le_of_ble_eq_true rfl) shp_14 rfl (by show 1 ≤ d; omega) (Nat.le_of_ble_eq_true rfl) (Nat.zero_le _) (Nat.zero_le _) ?_
  refine CV.mono H (fun σ1 H => ?_)
  refine j_iconst (pc := 7) (v := 0) dX6_weigh_7 (by decide) ?_
  refine j_istore (pc := 8) (lv1 := [(4, .int 0), (0, .ref 14), (1, .int x1), (2, .int x2), (3, .int x3)]) dX6_weigh_8 (Nat.le_of_ble_eq_true rfl) rfl ?_
  refine j_sub [1, 2, 3, 4, 0] rfl ?_
  exact H
set_option maxRecDepth 20000 in
theorem b_X6_weigh_10 {l : Launch} {g : am_G} {d : Nat} {σ : am_S} {k : am_S → Prop}  {x1 x2 x3 x4 : Int32} (H : ((rg σ 65 ≤ x4 → k σ) ∧ (¬ rg σ 65 ≤ x4 → JV l g M_X6_weigh d 25 [(0, .ref 14), (1, .int x1), (2, .int x2), (3, .int x3), (4, .int x4), (5, .int 0)] [] σ k))) : JV l g M_X6_weigh d 10 [(0, .ref 14), (1, .int x1), (2, .int x2), (3, .int x3), (4, .int x4)] [] σ k := by
  show J l g (M_X6_weigh, d, 0, 0) 10 [(0, .ref 14), (1, .int x1), (2, .int x2), (3, .int x3), (4, .int x4)] [] (hp σ) 0 0 (kV k)
  refine j_iload (pc := 10) dX6_weigh_10 rfl ?_
  refine j_aload_n (pc := 12) dX6_weigh_12 rfl ?_
  refine s_getr (pc := 13) dX6_weigh_13 fl_X6_24 shp_14 rfl ?_
  refine s_geti (pc := 16) 65 (rg σ 65) dX6_weigh_16 fl_X6_41 shp_1 rfl rfl rfl ?_
  refine j_icmp_ge (pc := 19) (t := 70) dX6_weigh_19 (by decide) (fun c19 => ?_) (fun c19 => ?_)
  · replace H := H.1 c19
    exact s_vret (pc := 70) dX6_weigh_70 rfl H
  · replace H := H.2 c19
    refine j_iconst (pc := 22) (v := 0) dX6_weigh_22 (by decide) ?_
    refine j_istore (pc := 23) (lv1 := [(5, .int 0), (0, .ref 14), (1, .int x1), (2, .int x2), (3, .int x3), (4, .int x4)]) dX6_weigh_23 (Nat.le_of_ble_eq_true rfl) rfl ?_
    refine j_sub [1, 2, 3, 4, 5, 0] rfl ?_
    exact H
set_option maxRecDepth 20000 in
theorem b_X6_weigh_25 {l : Launch} {g : am_G} {d : Nat} {σ : am_S} {k : am_S → Prop}  {x1 x2 x3 x4 x5 : Int32} (hd : 1 ≤ d) (H : ((rg σ 66 ≤ x5 → JV l g M_X6_weigh d 10 [(0, .ref 14), (1, .int x1), (2, .int x2), (3, .int x3), (4, .int (x4 + 1))] [] σ k) ∧ (¬ rg σ 66 ≤ x5 → CI l g M_X6_partnersOf (d - 1) [.ref 14, .int x4, .int x5] σ (fun r1 σ1 => (vp_in ((x4 * 7) + x5) 35 ∧ JV l g M_X6_weigh d 25 [(0, .ref 14), (1, .int x1), (2, .int x2), (3, .int x3), (4, .int x4), (5, .int (x5 + 1))] [] (sA σ1 18 (((x4 * 7) + x5).toNatClampNeg) r1) k))))) : JV l g M_X6_weigh d 25 [(0, .ref 14), (1, .int x1), (2, .int x2), (3, .int x3), (4, .int x4), (5, .int x5)] [] σ k := by
  show J l g (M_X6_weigh, d, 0, 0) 25 [(0, .ref 14), (1, .int x1), (2, .int x2), (3, .int x3), (4, .int x4), (5, .int x5)] [] (hp σ) 0 0 (kV k)
  refine j_iload (pc := 25) dX6_weigh_25 rfl ?_
  refine j_aload_n (pc := 27) dX6_weigh_27 rfl ?_
  refine s_getr (pc := 28) dX6_weigh_28 fl_X6_24 shp_14 rfl ?_
  refine s_geti (pc := 31) 66 (rg σ 66) dX6_weigh_31 fl_X6_32 shp_1 rfl rfl rfl ?_
  refine j_icmp_ge (pc := 34) (t := 64) dX6_weigh_34 (by decide) (fun c34 => ?_) (fun c34 => ?_)
  · replace H := H.1 c34
    refine j_iinc (pc := 64) (k := 4) (v := x4 + 1) (lv1 := [(4, .int (x4 + 1)), (0, .ref 14), (1, .int x1), (2, .int x2), (3, .int x3), (5, .int x5)]) dX6_weigh_64 rfl rfl (Nat.le_of_ble_eq_true rfl) rfl ?_
    refine j_goto (pc := 67) (t := 10) dX6_weigh_67 (by decide) ?_
    refine j_sub [1, 2, 3, 4, 0] rfl ?_
    exact H
  · replace H := H.2 c34
    refine j_aload_n (pc := 37) dX6_weigh_37 rfl ?_
    refine s_getr (pc := 38) dX6_weigh_38 fl_X6_21 shp_14 rfl ?_
    refine j_iload (pc := 41) dX6_weigh_41 rfl ?_
    refine j_bipush (pc := 43) (v := 7) dX6_weigh_43 (by decide) ?_
    refine j_imul (pc := 45) dX6_weigh_45 ?_
    refine j_iload (pc := 46) dX6_weigh_46 rfl ?_
    refine j_iadd (pc := 48) dX6_weigh_48 ?_
    refine j_aload_n (pc := 49) dX6_weigh_49 rfl ?_
    refine j_iload (pc := 50) dX6_weigh_50 rfl ?_
    refine j_iload (pc := 52) dX6_weigh_52 rfl ?_
    refine s_callV_i (pc := 54) (M1 := M_X6_partnersOf) (n := 2) (as := [.int x4, .int x5]) (a := 14) (st := [.int ((x4 * 7) + x5), .ref 18]) dX6_weigh_54 G_X6_partnersOf wm_X6_50 (by decide +kernel) rfl (Nat.le_of_ble_eq_true rfl) shp_14 rfl (by show 1 ≤ d; omega) (Nat.le_of_ble_eq_true rfl) (Nat.zero_le _) (Nat.zero_le _) ?_
    refine CI.mono H (fun r1 σ1 H => ?_)
    have b57 := H.1
    replace H := H.2
    refine s_iast (pc := 57) dX6_weigh_57 shp_18 b57 ?_
    refine j_iinc (pc := 58) (k := 5) (v := x5 + 1) (lv1 := [(5, .int (x5 + 1)), (0, .ref 14), (1, .int x1), (2, .int x2), (3, .int x3), (4, .int x4)]) dX6_weigh_58 rfl rfl (Nat.le_of_ble_eq_true rfl) rfl ?_
    refine j_goto (pc := 61) (t := 25) dX6_weigh_61 (by decide) ?_
    refine j_sub [1, 2, 3, 4, 5, 0] rfl ?_
    exact H
set_option maxRecDepth 20000 in
theorem b_X6_onlyWith_0 {l : Launch} {g : am_G} {d : Nat} {σ : am_S} {k : am_S → Prop}  {x1 : Int32} (H : JV l g M_X6_onlyWith d 2 [(0, .ref 14), (1, .int x1), (2, .int 0)] [] σ k) : CV l g M_X6_onlyWith d [.ref 14, .int x1] σ k := by
  show J l g (M_X6_onlyWith, d, 0, 0) 0 [(0, .ref 14), (1, .int x1)] [] (hp σ) 0 0 (kV k)
  refine j_iconst (pc := 0) (v := 0) dX6_onlyWith_0 (by decide) ?_
  refine j_istore_n (pc := 1) (lv1 := [(2, .int 0), (0, .ref 14), (1, .int x1)]) dX6_onlyWith_1 (Nat.le_of_ble_eq_true rfl) rfl ?_
  refine j_sub [1, 2, 0] rfl ?_
  exact H
set_option maxRecDepth 20000 in
theorem b_X6_onlyWith_2 {l : Launch} {g : am_G} {d : Nat} {σ : am_S} {k : am_S → Prop}  {x1 x2 : Int32} (H : ((rg σ 65 ≤ x2 → k σ) ∧ (¬ rg σ 65 ≤ x2 → JV l g M_X6_onlyWith d 15 [(0, .ref 14), (1, .int x1), (2, .int x2), (3, .int 0)] [] σ k))) : JV l g M_X6_onlyWith d 2 [(0, .ref 14), (1, .int x1), (2, .int x2)] [] σ k := by
  show J l g (M_X6_onlyWith, d, 0, 0) 2 [(0, .ref 14), (1, .int x1), (2, .int x2)] [] (hp σ) 0 0 (kV k)
  refine j_iload_n (pc := 2) dX6_onlyWith_2 rfl ?_
  refine j_aload_n (pc := 3) dX6_onlyWith_3 rfl ?_
  refine s_getr (pc := 4) dX6_onlyWith_4 fl_X6_24 shp_14 rfl ?_
  refine s_geti (pc := 7) 65 (rg σ 65) dX6_onlyWith_7 fl_X6_41 shp_1 rfl rfl rfl ?_
  refine j_icmp_ge (pc := 10) (t := 60) dX6_onlyWith_10 (by decide) (fun c10 => ?_) (fun c10 => ?_)
  · replace H := H.1 c10
    exact s_vret (pc := 60) dX6_onlyWith_60 rfl H
  · replace H := H.2 c10
    refine j_iconst (pc := 13) (v := 0) dX6_onlyWith_13 (by decide) ?_
    refine j_istore_n (pc := 14) (lv1 := [(3, .int 0), (0, .ref 14), (1, .int x1), (2, .int x2)]) dX6_onlyWith_14 (Nat.le_of_ble_eq_true rfl) rfl ?_
    refine j_sub [1, 2, 3, 0] rfl ?_
    exact H
set_option maxRecDepth 20000 in
theorem b_X6_onlyWith_15 {l : Launch} {g : am_G} {d : Nat} {σ : am_S} {k : am_S → Prop}  {x1 x2 x3 : Int32} (H : ((rg σ 66 ≤ x3 → JV l g M_X6_onlyWith d 2 [(0, .ref 14), (1, .int x1), (2, .int (x2 + 1))] [] σ k) ∧ (¬ rg σ 66 ≤ x3 → ((x3 = x1 → JV l g M_X6_onlyWith d 15 [(0, .ref 14), (1, .int x1), (2, .int x2), (3, .int (x3 + 1))] [] σ k) ∧ (¬ x3 = x1 → (vp_in ((x2 * 7) + x3) 35 ∧ (vp_in ((x2 * 7) + x3) 35 ∧ JV l g M_X6_onlyWith d 15 [(0, .ref 14), (1, .int x1), (2, .int x2), (3, .int (x3 + 1))] [] (sA σ 18 (((x2 * 7) + x3).toNatClampNeg) ((ar σ 18 (((x2 * 7) + x3).toNatClampNeg)) &&& ((1 : Int32) <<< (x1 &&& 31)))) k))))))) : JV l g M_X6_onlyWith d 15 [(0, .ref 14), (1, .int x1), (2, .int x2), (3, .int x3)] [] σ k := by
  show J l g (M_X6_onlyWith, d, 0, 0) 15 [(0, .ref 14), (1, .int x1), (2, .int x2), (3, .int x3)] [] (hp σ) 0 0 (kV k)
  refine j_iload_n (pc := 15) dX6_onlyWith_15 rfl ?_
  refine j_aload_n (pc := 16) dX6_onlyWith_16 rfl ?_
  refine s_getr (pc := 17) dX6_onlyWith_17 fl_X6_24 shp_14 rfl ?_
  refine s_geti (pc := 20) 66 (rg σ 66) dX6_onlyWith_20 fl_X6_32 shp_1 rfl rfl rfl ?_
  refine j_icmp_ge (pc := 23) (t := 54) dX6_onlyWith_23 (by decide) (fun c23 => ?_) (fun c23 => ?_)
  · replace H := H.1 c23
    refine j_iinc (pc := 54) (k := 2) (v := x2 + 1) (lv1 := [(2, .int (x2 + 1)), (0, .ref 14), (1, .int x1), (3, .int x3)]) dX6_onlyWith_54 rfl rfl (Nat.le_of_ble_eq_true rfl) rfl ?_
    refine j_goto (pc := 57) (t := 2) dX6_onlyWith_57 (by decide) ?_
    refine j_sub [1, 2, 0] rfl ?_
    exact H
  · replace H := H.2 c23
    refine j_iload_n (pc := 26) dX6_onlyWith_26 rfl ?_
    refine j_iload_n (pc := 27) dX6_onlyWith_27 rfl ?_
    refine j_icmp_eq (pc := 28) (t := 48) dX6_onlyWith_28 (by decide) (fun c28 => ?_) (fun c28 => ?_)
    · replace H := H.1 c28
      refine j_iinc (pc := 48) (k := 3) (v := x3 + 1) (lv1 := [(3, .int (x3 + 1)), (0, .ref 14), (1, .int x1), (2, .int x2)]) dX6_onlyWith_48 rfl rfl (Nat.le_of_ble_eq_true rfl) rfl ?_
      refine j_goto (pc := 51) (t := 15) dX6_onlyWith_51 (by decide) ?_
      refine j_sub [1, 2, 3, 0] rfl ?_
      exact H
    · replace H := H.2 c28
      refine j_aload_n (pc := 31) dX6_onlyWith_31 rfl ?_
      refine s_getr (pc := 32) dX6_onlyWith_32 fl_X6_21 shp_14 rfl ?_
      refine j_iload_n (pc := 35) dX6_onlyWith_35 rfl ?_
      refine j_bipush (pc := 36) (v := 7) dX6_onlyWith_36 (by decide) ?_
      refine j_imul (pc := 38) dX6_onlyWith_38 ?_
      refine j_iload_n (pc := 39) dX6_onlyWith_39 rfl ?_
      refine j_iadd (pc := 40) dX6_onlyWith_40 ?_
      refine j_dup2 (pc := 41) dX6_onlyWith_41 rfl rfl ?_
      have b42 := H.1
      replace H := H.2
      refine s_iald (pc := 42) (ar σ 18 (((x2 * 7) + x3).toNatClampNeg)) dX6_onlyWith_42 shp_18 b42 rfl ?_
      refine j_iconst (pc := 43) (v := 1) dX6_onlyWith_43 (by decide) ?_
      refine j_iload_n (pc := 44) dX6_onlyWith_44 rfl ?_
      refine j_ishl (pc := 45) dX6_onlyWith_45 ?_
      refine j_iand (pc := 46) dX6_onlyWith_46 ?_
      have b47 := H.1
      replace H := H.2
      refine s_iast (pc := 47) dX6_onlyWith_47 shp_18 b47 ?_
      refine j_iinc (pc := 48) (k := 3) (v := x3 + 1) (lv1 := [(3, .int (x3 + 1)), (0, .ref 14), (1, .int x1), (2, .int x2)]) dX6_onlyWith_48 rfl rfl (Nat.le_of_ble_eq_true rfl) rfl ?_
      refine j_goto (pc := 51) (t := 15) dX6_onlyWith_51 (by decide) ?_
      refine j_sub [1, 2, 3, 0] rfl ?_
      exact H
set_option maxRecDepth 20000 in
theorem b_X6_mayBe_0 {l : Launch} {g : am_G} {d : Nat} {σ : am_S} {k : Int32 → am_S → Prop}  {x1 x2 x3 x4 : Int32} (hd : 1 ≤ d) (H : (((¬ x2 < 0 ∧ ¬ rg σ 65 ≤ x2) → (((¬ x3 < 0 ∧ ¬ rg σ 66 ≤ x3) → (((¬ x4 < 0 ∧ ¬ rg σ 66 ≤ x4) → ((¬ x3 = x4 → (vp_in x2 5 ∧ ((¬ (x1 >>> ((2 * x3) &&& 31)) &&& 3 = ar σ 15 x2.toNatClampNeg → k 0 σ) ∧ ((x1 >>> ((2 * x3) &&& 31)) &&& 3 = ar σ 15 x2.toNatClampNeg → (vp_in x2 5 ∧ ((¬ (x1 >>> ((2 * x4) &&& 31)) &&& 3 = ar σ 16 x2.toNatClampNeg → k 0 σ) ∧ ((x1 >>> ((2 * x4) &&& 31)) &&& 3 = ar σ 16 x2.toNatClampNeg → CI l g M_X6_isLawful (d - 1) [.ref 14, .int x2, .int x3, .int x4] σ (fun r4 σ4 => ((r4 = 0 → k 0 σ4) ∧ (¬ r4 = 0 → k 1 σ4)))))))))) ∧ (x3 = x4 → k 0 σ))) ∧ (¬ (¬ x4 < 0 ∧ ¬ rg σ 66 ≤ x4) → k 0 σ))) ∧ (¬ (¬ x3 < 0 ∧ ¬ rg σ 66 ≤ x3) → k 0 σ))) ∧ (¬ (¬ x2 < 0 ∧ ¬ rg σ 65 ≤ x2) → k 0 σ))) : CI l g M_X6_mayBe d [.ref 14, .int x1, .int x2, .int x3, .int x4] σ k := by
  show J l g (M_X6_mayBe, d, 0, 0) 0 [(0, .ref 14), (1, .int x1), (2, .int x2), (3, .int x3), (4, .int x4)] [] (hp σ) 0 0 (kI k)
  refine j_aload_n (pc := 0) dX6_mayBe_0 rfl ?_
  refine s_getr (pc := 1) dX6_mayBe_1 fl_X6_24 shp_14 rfl ?_
  refine j_iload_n (pc := 4) dX6_mayBe_4 rfl ?_
  refine s_callV_i (pc := 5) (M1 := M_X2_hasDoor) (n := 1) (as := [.int x2]) (a := 1) (st := []) dX6_mayBe_5 G_X2_hasDoor wm_X6_71 (by decide +kernel) rfl (Nat.le_of_ble_eq_true rfl) shp_1 rfl (by show 1 ≤ d; omega) (Nat.le_of_ble_eq_true rfl) (Nat.zero_le _) (Nat.zero_le _) ?_
  refine C_X2_hasDoor (d := d - 1) (by omega) ⟨fun c5 => ?_, fun c5 => ?_⟩
  · replace H := H.1 c5
    refine j_if_eq (pc := 8) (t := 40) dX6_mayBe_8 (by decide) (fun q => absurd q (by decide)) (fun _ => ?_)
    refine j_aload_n (pc := 11) dX6_mayBe_11 rfl ?_
    refine s_getr (pc := 12) dX6_mayBe_12 fl_X6_24 shp_14 rfl ?_
    refine j_iload_n (pc := 15) dX6_mayBe_15 rfl ?_
    refine s_callV_i (pc := 16) (M1 := M_X2_hasPerson) (n := 1) (as := [.int x3]) (a := 1) (st := []) dX6_mayBe_16 G_X2_hasPerson wm_X6_75 (by decide +kernel) rfl (Nat.le_of_ble_eq_true rfl) shp_1 rfl (by show 1 ≤ d; omega) (Nat.le_of_ble_eq_true rfl) (Nat.zero_le _) (Nat.zero_le _) ?_
    refine C_X2_hasPerson (d := d - 1) (by omega) ⟨fun c16 => ?_, fun c16 => ?_⟩
    · replace H := H.1 c16
      refine j_if_eq (pc := 19) (t := 40) dX6_mayBe_19 (by decide) (fun q => absurd q (by decide)) (fun _ => ?_)
      refine j_aload_n (pc := 22) dX6_mayBe_22 rfl ?_
      refine s_getr (pc := 23) dX6_mayBe_23 fl_X6_24 shp_14 rfl ?_
      refine j_iload (pc := 26) dX6_mayBe_26 rfl ?_
      refine s_callV_i (pc := 28) (M1 := M_X2_hasPerson) (n := 1) (as := [.int x4]) (a := 1) (st := []) dX6_mayBe_28 G_X2_hasPerson wm_X6_75 (by decide +kernel) rfl (Nat.le_of_ble_eq_true rfl) shp_1 rfl (by show 1 ≤ d; omega) (Nat.le_of_ble_eq_true rfl) (Nat.zero_le _) (Nat.zero_le _) ?_
      refine C_X2_hasPerson (d := d - 1) (by omega) ⟨fun c28 => ?_, fun c28 => ?_⟩
      · replace H := H.1 c28
        refine j_if_eq (pc := 31) (t := 40) dX6_mayBe_31 (by decide) (fun q => absurd q (by decide)) (fun _ => ?_)
        refine j_iload_n (pc := 34) dX6_mayBe_34 rfl ?_
        refine j_iload (pc := 35) dX6_mayBe_35 rfl ?_
        refine j_icmp_ne (pc := 37) (t := 42) dX6_mayBe_37 (by decide) (fun c37 => ?_) (fun c37 => ?_)
        · replace H := H.1 c37
          refine j_iload_n (pc := 42) dX6_mayBe_42 rfl ?_
          refine j_iload_n (pc := 43) dX6_mayBe_43 rfl ?_
          refine s_callSN_i (pc := 44) (M1 := M_X11_roomIn) (n := 2) (as := [.int x1, .int x3]) (st := []) "SmallerOut" dX6_mayBe_44 G_X11_roomIn wn_X6_78 nn_X6_78 (by decide +kernel) rfl (Nat.le_of_ble_eq_true rfl) (by show 1 ≤ d; omega) (Nat.le_of_ble_eq_true rfl) ?_
          refine C_X11_roomIn (d := d - 1) (by omega) ?_
          refine j_aload_n (pc := 47) dX6_mayBe_47 rfl ?_
          refine s_getr (pc := 48) dX6_mayBe_48 fl_X6_9 shp_14 rfl ?_
          refine j_iload_n (pc := 51) dX6_mayBe_51 rfl ?_
          have b52 := H.1
          replace H := H.2
          refine s_iald (pc := 52) (ar σ 15 x2.toNatClampNeg) dX6_mayBe_52 shp_15 b52 rfl ?_
          refine j_icmp_ne (pc := 53) (t := 86) dX6_mayBe_53 (by decide) (fun c53 => ?_) (fun c53 => ?_)
          · replace H := H.1 c53
            refine j_iconst (pc := 86) (v := 0) dX6_mayBe_86 (by decide) ?_
            exact s_iretz (pc := 87) dX6_mayBe_87 rfl rfl H
          · replace H := H.2 c53
            refine j_iload_n (pc := 56) dX6_mayBe_56 rfl ?_
            refine j_iload (pc := 57) dX6_mayBe_57 rfl ?_
            refine s_callSN_i (pc := 59) (M1 := M_X11_roomIn) (n := 2) (as := [.int x1, .int x4]) (st := []) "SmallerOut" dX6_mayBe_59 G_X11_roomIn wn_X6_78 nn_X6_78 (by decide +kernel) rfl (Nat.le_of_ble_eq_true rfl) (by show 1 ≤ d; omega) (Nat.le_of_ble_eq_true rfl) ?_
            refine C_X11_roomIn (d := d - 1) (by omega) ?_
            refine j_aload_n (pc := 62) dX6_mayBe_62 rfl ?_
            refine s_getr (pc := 63) dX6_mayBe_63 fl_X6_15 shp_14 rfl ?_
            refine j_iload_n (pc := 66) dX6_mayBe_66 rfl ?_
            have b67 := H.1
            replace H := H.2
            refine s_iald (pc := 67) (ar σ 16 x2.toNatClampNeg) dX6_mayBe_67 shp_16 b67 rfl ?_
            refine j_icmp_ne (pc := 68) (t := 86) dX6_mayBe_68 (by decide) (fun c68 => ?_) (fun c68 => ?_)
            · replace H := H.1 c68
              refine j_iconst (pc := 86) (v := 0) dX6_mayBe_86 (by decide) ?_
              exact s_iretz (pc := 87) dX6_mayBe_87 rfl rfl H
            · replace H := H.2 c68
              refine j_aload_n (pc := 71) dX6_mayBe_71 rfl ?_
              refine j_iload_n (pc := 72) dX6_mayBe_72 rfl ?_
              refine j_iload_n (pc := 73) dX6_mayBe_73 rfl ?_
              refine j_iload (pc := 74) dX6_mayBe_74 rfl ?_
              refine s_callV_i (pc := 76) (M1 := M_X6_isLawful) (n := 3) (as := [.int x2, .int x3, .int x4]) (a := 14) (st := []) dX6_mayBe_76 G_X6_isLawful wm_X6_54 (by decide +kernel) rfl (Nat.le_of_ble_eq_true rfl) shp_14 rfl (by show 1 ≤ d; omega) (Nat.le_of_ble_eq_true rfl) (Nat.zero_le _) (Nat.zero_le _) ?_
              refine CI.mono H (fun r4 σ4 H => ?_)
              refine j_if_eq (pc := 79) (t := 86) dX6_mayBe_79 (by decide) (fun c79 => ?_) (fun c79 => ?_)
              · replace H := H.1 c79
                refine j_iconst (pc := 86) (v := 0) dX6_mayBe_86 (by decide) ?_
                exact s_iretz (pc := 87) dX6_mayBe_87 rfl rfl H
              · replace H := H.2 c79
                refine j_iconst (pc := 82) (v := 1) dX6_mayBe_82 (by decide) ?_
                refine j_goto (pc := 83) (t := 87) dX6_mayBe_83 (by decide) ?_
                exact s_iretz (pc := 87) dX6_mayBe_87 rfl rfl H
        · replace H := H.2 c37
          refine j_iconst (pc := 40) (v := 0) dX6_mayBe_40 (by decide) ?_
          exact s_iretz (pc := 41) dX6_mayBe_41 rfl rfl H
      · replace H := H.2 c28
        refine j_if_eq (pc := 31) (t := 40) dX6_mayBe_31 (by decide) (fun _ => ?_) (fun q => absurd q (by decide))
        refine j_iconst (pc := 40) (v := 0) dX6_mayBe_40 (by decide) ?_
        exact s_iretz (pc := 41) dX6_mayBe_41 rfl rfl H
    · replace H := H.2 c16
      refine j_if_eq (pc := 19) (t := 40) dX6_mayBe_19 (by decide) (fun _ => ?_) (fun q => absurd q (by decide))
      refine j_iconst (pc := 40) (v := 0) dX6_mayBe_40 (by decide) ?_
      exact s_iretz (pc := 41) dX6_mayBe_41 rfl rfl H
  · replace H := H.2 c5
    refine j_if_eq (pc := 8) (t := 40) dX6_mayBe_8 (by decide) (fun _ => ?_) (fun q => absurd q (by decide))
    refine j_iconst (pc := 40) (v := 0) dX6_mayBe_40 (by decide) ?_
    exact s_iretz (pc := 41) dX6_mayBe_41 rfl rfl H
set_option maxRecDepth 20000 in
theorem b_X7_forget_0 {l : Launch} {g : am_G} {d : Nat} {σ : am_S} {k : am_S → Prop}   (H : JV l g M_X7_forget d 2 [(0, .ref 19), (1, .int 0)] [] σ k) : CV l g M_X7_forget d [.ref 19] σ k := by
  show J l g (M_X7_forget, d, 0, 0) 0 [(0, .ref 19)] [] (hp σ) 0 0 (kV k)
  refine j_iconst (pc := 0) (v := 0) dX7_forget_0 (by decide) ?_
  refine j_istore_n (pc := 1) (lv1 := [(1, .int 0), (0, .ref 19)]) dX7_forget_1 (Nat.le_of_ble_eq_true rfl) rfl ?_
  refine j_sub [1, 0] rfl ?_
  exact H
set_option maxRecDepth 20000 in
theorem b_X7_forget_2 {l : Launch} {g : am_G} {d : Nat} {σ : am_S} {k : am_S → Prop}  {x1 : Int32} (H : ((2048 ≤ x1 → k (sR σ 1224 0)) ∧ (¬ 2048 ≤ x1 → (vp_in x1 2048 ∧ JV l g M_X7_forget d 2 [(0, .ref 19), (1, .int (x1 + 1))] [] (sA σ 30 x1.toNatClampNeg 0) k)))) : JV l g M_X7_forget d 2 [(0, .ref 19), (1, .int x1)] [] σ k := by
  show J l g (M_X7_forget, d, 0, 0) 2 [(0, .ref 19), (1, .int x1)] [] (hp σ) 0 0 (kV k)
  refine j_iload_n (pc := 2) dX7_forget_2 rfl ?_
  refine j_sipush (pc := 3) (v := 2048) dX7_forget_3 (by decide) ?_
  refine j_icmp_ge (pc := 6) (t := 22) dX7_forget_6 (by decide) (fun c6 => ?_) (fun c6 => ?_)
  · replace H := H.1 c6
    refine j_aload_n (pc := 22) dX7_forget_22 rfl ?_
    refine j_iconst (pc := 23) (v := 0) dX7_forget_23 (by decide) ?_
    refine s_put (pc := 24) 1224 dX7_forget_24 fl_X7_40 shp_19 rfl rfl fp_7_8 rfl rfl ?_
    exact s_vret (pc := 27) dX7_forget_27 rfl H
  · replace H := H.2 c6
    refine j_aload_n (pc := 9) dX7_forget_9 rfl ?_
    refine s_getr (pc := 10) dX7_forget_10 fl_X7_37 shp_19 rfl ?_
    refine j_iload_n (pc := 13) dX7_forget_13 rfl ?_
    refine j_iconst (pc := 14) (v := 0) dX7_forget_14 (by decide) ?_
    have b15 := H.1
    replace H := H.2
    refine s_iast (pc := 15) dX7_forget_15 shp_30 b15 ?_
    refine j_iinc (pc := 16) (k := 1) (v := x1 + 1) (lv1 := [(1, .int (x1 + 1)), (0, .ref 19)]) dX7_forget_16 rfl rfl (Nat.le_of_ble_eq_true rfl) rfl ?_
    refine j_goto (pc := 19) (t := 2) dX7_forget_19 (by decide) ?_
    refine j_sub [1, 0] rfl ?_
    exact H
set_option maxRecDepth 20000 in
theorem b_X7_slotOf_0 {l : Launch} {g : am_G} {d : Nat} {σ : am_S} {k : Int32 → am_S → Prop}  {x1 : Int32} (H : (∀ x2_1 : Int32, x2_1 = ((x1 * (-1640531535)).toUInt32 >>> ((21 : Int32).toUInt32 &&& Int32.toUInt32 31)).toInt32 → JI l g M_X7_slotOf d 10 [(0, .ref 19), (1, .int x1), (2, .int x2_1), (3, .int 1)] [] σ k)) : CI l g M_X7_slotOf d [.ref 19, .int x1] σ k := by
  show J l g (M_X7_slotOf, d, 0, 0) 0 [(0, .ref 19), (1, .int x1)] [] (hp σ) 0 0 (kI k)
  refine j_iload_n (pc := 0) dX7_slotOf_0 rfl ?_
  refine j_ldc (pc := 1) dX7_slotOf_1 wk_X7_75 ?_
  refine j_imul (pc := 3) dX7_slotOf_3 ?_
  refine j_bipush (pc := 4) (v := 21) dX7_slotOf_4 (by decide) ?_
  refine j_iushr (pc := 6) dX7_slotOf_6 ?_
  refine j_topi (fun x2_1 ex2_1 => ?_)
  replace H := H x2_1 ex2_1
  refine j_istore_n (pc := 7) (lv1 := [(2, .int x2_1), (0, .ref 19), (1, .int x1)]) dX7_slotOf_7 (Nat.le_of_ble_eq_true rfl) rfl ?_
  refine j_iconst (pc := 8) (v := 1) dX7_slotOf_8 (by decide) ?_
  refine j_istore_n (pc := 9) (lv1 := [(3, .int 1), (2, .int x2_1), (0, .ref 19), (1, .int x1)]) dX7_slotOf_9 (Nat.le_of_ble_eq_true rfl) rfl ?_
  refine j_sub [2, 3, 1, 0] rfl ?_
  exact H
set_option maxRecDepth 20000 in
theorem b_X7_slotOf_10 {l : Launch} {g : am_G} {d : Nat} {σ : am_S} {k : Int32 → am_S → Prop}  {x1 x2 x3 : Int32} (H : ((2048 ≤ x3 → k x2 σ) ∧ (¬ 2048 ≤ x3 → (vp_in x2 2048 ∧ ((ar σ 30 x2.toNatClampNeg = 0 → k x2 σ) ∧ (¬ ar σ 30 x2.toNatClampNeg = 0 → (vp_in x2 2048 ∧ (vp_in ((ar σ 30 x2.toNatClampNeg) - 1) 630 ∧ ((ar σ 24 (((ar σ 30 x2.toNatClampNeg) - 1).toNatClampNeg) = x1 → k x2 σ) ∧ (¬ ar σ 24 (((ar σ 30 x2.toNatClampNeg) - 1).toNatClampNeg) = x1 → JI l g M_X7_slotOf d 10 [(0, .ref 19), (1, .int x1), (2, .int ((x2 + 1) &&& 2047)), (3, .int (x3 + 1))] [] σ k)))))))))) : JI l g M_X7_slotOf d 10 [(0, .ref 19), (1, .int x1), (2, .int x2), (3, .int x3)] [] σ k := by
  show J l g (M_X7_slotOf, d, 0, 0) 10 [(0, .ref 19), (1, .int x1), (2, .int x2), (3, .int x3)] [] (hp σ) 0 0 (kI k)
  refine j_iload_n (pc := 10) dX7_slotOf_10 rfl ?_
  refine j_sipush (pc := 11) (v := 2048) dX7_slotOf_11 (by decide) ?_
  refine j_icmp_ge (pc := 14) (t := 57) dX7_slotOf_14 (by decide) (fun c14 => ?_) (fun c14 => ?_)
  · replace H := H.1 c14
    refine j_iload_n (pc := 57) dX7_slotOf_57 rfl ?_
    exact s_ireti (pc := 58) dX7_slotOf_58 rfl H
  · replace H := H.2 c14
    refine j_aload_n (pc := 17) dX7_slotOf_17 rfl ?_
    refine s_getr (pc := 18) dX7_slotOf_18 fl_X7_37 shp_19 rfl ?_
    refine j_iload_n (pc := 21) dX7_slotOf_21 rfl ?_
    have b22 := H.1
    replace H := H.2
    refine s_iald (pc := 22) (ar σ 30 x2.toNatClampNeg) dX7_slotOf_22 shp_30 b22 rfl ?_
    refine j_if_eq (pc := 23) (t := 57) dX7_slotOf_23 (by decide) (fun c23 => ?_) (fun c23 => ?_)
    · replace H := H.1 c23
      refine j_iload_n (pc := 57) dX7_slotOf_57 rfl ?_
      exact s_ireti (pc := 58) dX7_slotOf_58 rfl H
    · replace H := H.2 c23
      refine j_aload_n (pc := 26) dX7_slotOf_26 rfl ?_
      refine s_getr (pc := 27) dX7_slotOf_27 fl_X7_18 shp_19 rfl ?_
      refine j_aload_n (pc := 30) dX7_slotOf_30 rfl ?_
      refine s_getr (pc := 31) dX7_slotOf_31 fl_X7_37 shp_19 rfl ?_
      refine j_iload_n (pc := 34) dX7_slotOf_34 rfl ?_
      have b35 := H.1
      replace H := H.2
      refine s_iald (pc := 35) (ar σ 30 x2.toNatClampNeg) dX7_slotOf_35 shp_30 b35 rfl ?_
      refine j_iconst (pc := 36) (v := 1) dX7_slotOf_36 (by decide) ?_
      refine j_isub (pc := 37) dX7_slotOf_37 ?_
      have b38 := H.1
      replace H := H.2
      refine s_iald (pc := 38) (ar σ 24 (((ar σ 30 x2.toNatClampNeg) - 1).toNatClampNeg)) dX7_slotOf_38 shp_24 b38 rfl ?_
      refine j_iload_n (pc := 39) dX7_slotOf_39 rfl ?_
      refine j_icmp_eq (pc := 40) (t := 57) dX7_slotOf_40 (by decide) (fun c40 => ?_) (fun c40 => ?_)
      · replace H := H.1 c40
        refine j_iload_n (pc := 57) dX7_slotOf_57 rfl ?_
        exact s_ireti (pc := 58) dX7_slotOf_58 rfl H
      · replace H := H.2 c40
        refine j_iload_n (pc := 43) dX7_slotOf_43 rfl ?_
        refine j_iconst (pc := 44) (v := 1) dX7_slotOf_44 (by decide) ?_
        refine j_iadd (pc := 45) dX7_slotOf_45 ?_
        refine j_sipush (pc := 46) (v := 2047) dX7_slotOf_46 (by decide) ?_
        refine j_iand (pc := 49) dX7_slotOf_49 ?_
        refine j_istore_n (pc := 50) (lv1 := [(2, .int ((x2 + 1) &&& 2047)), (0, .ref 19), (1, .int x1), (3, .int x3)]) dX7_slotOf_50 (Nat.le_of_ble_eq_true rfl) rfl ?_
        refine j_iinc (pc := 51) (k := 3) (v := x3 + 1) (lv1 := [(3, .int (x3 + 1)), (2, .int ((x2 + 1) &&& 2047)), (0, .ref 19), (1, .int x1)]) dX7_slotOf_51 rfl rfl (Nat.le_of_ble_eq_true rfl) rfl ?_
        refine j_goto (pc := 54) (t := 10) dX7_slotOf_54 (by decide) ?_
        refine j_sub [2, 3, 1, 0] rfl ?_
        exact H
set_option maxRecDepth 20000 in
theorem b_X7_note_0 {l : Launch} {g : am_G} {d : Nat} {σ : am_S} {k : Int32 → am_S → Prop}  {x1 x2 x3 : Int32} (hd : 1 ≤ d) (H : ((rg σ 1224 < 630 → (vp_in (rg σ 1224) 630 ∧ (vp_in (rg σ 1224) 630 ∧ (vp_in (rg σ 1224) 630 ∧ CI l g M_X7_slotOf (d - 1) [.ref 19, .int x1] (sR (sA (sA (sA σ 24 ((rg σ 1224).toNatClampNeg) x1) 25 ((rg σ 1224).toNatClampNeg) x2) 26 ((rg σ 1224).toNatClampNeg) x3) 1224 ((rg σ 1224) + 1)) (fun r1 σ1 => (vp_in r1 2048 ∧ k 1 (sA σ1 30 r1.toNatClampNeg (rg σ1 1224)))))))) ∧ (¬ rg σ 1224 < 630 → k 0 σ))) : CI l g M_X7_note d [.ref 19, .int x1, .int x2, .int x3] σ k := by
  show J l g (M_X7_note, d, 0, 0) 0 [(0, .ref 19), (1, .int x1), (2, .int x2), (3, .int x3)] [] (hp σ) 0 0 (kI k)
  refine j_aload_n (pc := 0) dX7_note_0 rfl ?_
  refine s_geti (pc := 1) 1224 (rg σ 1224) dX7_note_1 fl_X7_40 shp_19 rfl rfl rfl ?_
  refine j_sipush (pc := 4) (v := 630) dX7_note_4 (by decide) ?_
  refine j_icmp_lt (pc := 7) (t := 12) dX7_note_7 (by decide) (fun c7 => ?_) (fun c7 => ?_)
  · replace H := H.1 c7
    refine j_aload_n (pc := 12) dX7_note_12 rfl ?_
    refine s_getr (pc := 13) dX7_note_13 fl_X7_18 shp_19 rfl ?_
    refine j_aload_n (pc := 16) dX7_note_16 rfl ?_
    refine s_geti (pc := 17) 1224 (rg σ 1224) dX7_note_17 fl_X7_40 shp_19 rfl rfl rfl ?_
    refine j_iload_n (pc := 20) dX7_note_20 rfl ?_
    have b21 := H.1
    replace H := H.2
    refine s_iast (pc := 21) dX7_note_21 shp_24 b21 ?_
    refine j_aload_n (pc := 22) dX7_note_22 rfl ?_
    refine s_getr (pc := 23) dX7_note_23 fl_X7_22 shp_19 rfl ?_
    refine j_aload_n (pc := 26) dX7_note_26 rfl ?_
    refine s_geti (pc := 27) 1224 (rg σ 1224) dX7_note_27 fl_X7_40 shp_19 rfl rfl rfl ?_
    refine j_iload_n (pc := 30) dX7_note_30 rfl ?_
    have b31 := H.1
    replace H := H.2
    refine s_iast (pc := 31) dX7_note_31 shp_25 b31 ?_
    refine j_aload_n (pc := 32) dX7_note_32 rfl ?_
    refine s_getr (pc := 33) dX7_note_33 fl_X7_25 shp_19 rfl ?_
    refine j_aload_n (pc := 36) dX7_note_36 rfl ?_
    refine s_geti (pc := 37) 1224 (rg σ 1224) dX7_note_37 fl_X7_40 shp_19 rfl rfl rfl ?_
    refine j_iload_n (pc := 40) dX7_note_40 rfl ?_
    have b41 := H.1
    replace H := H.2
    refine s_iast (pc := 41) dX7_note_41 shp_26 b41 ?_
    refine j_aload_n (pc := 42) dX7_note_42 rfl ?_
    refine j_dup (pc := 43) dX7_note_43 rfl ?_
    refine s_geti (pc := 44) 1224 (rg σ 1224) dX7_note_44 fl_X7_40 shp_19 rfl rfl rfl ?_
    refine j_iconst (pc := 47) (v := 1) dX7_note_47 (by decide) ?_
    refine j_iadd (pc := 48) dX7_note_48 ?_
    refine s_put (pc := 49) 1224 dX7_note_49 fl_X7_40 shp_19 rfl rfl fp_7_8 rfl rfl ?_
    refine j_aload_n (pc := 52) dX7_note_52 rfl ?_
    refine s_getr (pc := 53) dX7_note_53 fl_X7_37 shp_19 rfl ?_
    refine j_aload_n (pc := 56) dX7_note_56 rfl ?_
    refine j_iload_n (pc := 57) dX7_note_57 rfl ?_
    refine s_callV_i (pc := 58) (M1 := M_X7_slotOf) (n := 1) (as := [.int x1]) (a := 19) (st := [.ref 30]) dX7_note_58 G_X7_slotOf wm_X7_72 (by decide +kernel) rfl (Nat.le_of_ble_eq_true rfl) shp_19 rfl (by show 1 ≤ d; omega) (Nat.le_of_ble_eq_true rfl) (Nat.zero_le _) (Nat.zero_le _) ?_
    refine CI.mono H (fun r1 σ1 H => ?_)
    refine j_aload_n (pc := 61) dX7_note_61 rfl ?_
    refine s_geti (pc := 62) 1224 (rg σ1 1224) dX7_note_62 fl_X7_40 shp_19 rfl rfl rfl ?_
    have b65 := H.1
    replace H := H.2
    refine s_iast (pc := 65) dX7_note_65 shp_30 b65 ?_
    refine j_iconst (pc := 66) (v := 1) dX7_note_66 (by decide) ?_
    exact s_iretz (pc := 67) dX7_note_67 rfl rfl H
  · replace H := H.2 c7
    refine j_iconst (pc := 10) (v := 0) dX7_note_10 (by decide) ?_
    exact s_iretz (pc := 11) dX7_note_11 rfl rfl H
set_option maxRecDepth 20000 in
theorem b_X7_placeOf_0 {l : Launch} {g : am_G} {d : Nat} {σ : am_S} {k : Int32 → am_S → Prop}  {x1 : Int32} (hd : 1 ≤ d) (H : CI l g M_X7_slotOf (d - 1) [.ref 19, .int x1] σ (fun r1 σ1 => (vp_in r1 2048 ∧ k ((ar σ1 30 r1.toNatClampNeg) - 1) σ1))) : CI l g M_X7_placeOf d [.ref 19, .int x1] σ k := by
  show J l g (M_X7_placeOf, d, 0, 0) 0 [(0, .ref 19), (1, .int x1)] [] (hp σ) 0 0 (kI k)
  refine j_aload_n (pc := 0) dX7_placeOf_0 rfl ?_
  refine s_getr (pc := 1) dX7_placeOf_1 fl_X7_37 shp_19 rfl ?_
  refine j_aload_n (pc := 4) dX7_placeOf_4 rfl ?_
  refine j_iload_n (pc := 5) dX7_placeOf_5 rfl ?_
  refine s_callV_i (pc := 6) (M1 := M_X7_slotOf) (n := 1) (as := [.int x1]) (a := 19) (st := [.ref 30]) dX7_placeOf_6 G_X7_slotOf wm_X7_72 (by decide +kernel) rfl (Nat.le_of_ble_eq_true rfl) shp_19 rfl (by show 1 ≤ d; omega) (Nat.le_of_ble_eq_true rfl) (Nat.zero_le _) (Nat.zero_le _) ?_
  refine CI.mono H (fun r1 σ1 H => ?_)
  have b9 := H.1
  replace H := H.2
  refine s_iald (pc := 9) (ar σ1 30 r1.toNatClampNeg) dX7_placeOf_9 shp_30 b9 rfl ?_
  refine j_iconst (pc := 10) (v := 1) dX7_placeOf_10 (by decide) ?_
  refine j_isub (pc := 11) dX7_placeOf_11 ?_
  exact s_ireti (pc := 12) dX7_placeOf_12 rfl H
set_option maxRecDepth 20000 in
theorem b_X7_find_0 {l : Launch} {g : am_G} {d : Nat} {σ : am_S} {k : Int32 → am_S → Prop}  {x2 x3 x4 : Int32} (hd : 1 ≤ d) (H : CV l g M_X7_forget (d - 1) [.ref 19] σ (fun σ1 => CI l g M_X7_note (d - 1) [.ref 19, .int x2, .int 0, .int 0] σ1 (fun r2 σ2 => ((¬ x2 &&& x3 = x4 → JI l g M_X7_find d 25 [(0, .ref 19), (1, .ref 14), (2, .int x2), (3, .int x3), (4, .int x4), (5, .int 0)] [] σ2 k) ∧ (x2 &&& x3 = x4 → k 0 σ2))))) : CI l g M_X7_find d [.ref 19, .ref 14, .int x2, .int x3, .int x4] σ k := by
  show J l g (M_X7_find, d, 0, 0) 0 [(0, .ref 19), (1, .ref 14), (2, .int x2), (3, .int x3), (4, .int x4)] [] (hp σ) 0 0 (kI k)
  refine j_aload_n (pc := 0) dX7_find_0 rfl ?_
  refine s_callV_v (pc := 1) (M1 := M_X7_forget) (n := 0) (as := []) (a := 19) (st := []) dX7_find_1 G_X7_forget wm_X7_48 (by decide +kernel) rfl (Nat.le_of_ble_eq_true rfl) shp_19 rfl (by show 1 ≤ d; omega) (Nat.le_of_ble_eq_true rfl) (Nat.zero_le _) (Nat.zero_le _) ?_
  refine CV.mono H (fun σ1 H => ?_)
  refine j_aload_n (pc := 4) dX7_find_4 rfl ?_
  refine j_iload_n (pc := 5) dX7_find_5 rfl ?_
  refine j_iconst (pc := 6) (v := 0) dX7_find_6 (by decide) ?_
  refine j_iconst (pc := 7) (v := 0) dX7_find_7 (by decide) ?_
  refine s_callV_i (pc := 8) (M1 := M_X7_note) (n := 3) (as := [.int x2, .int 0, .int 0]) (a := 19) (st := []) dX7_find_8 G_X7_note wm_X7_51 (by decide +kernel) rfl (Nat.le_of_ble_eq_true rfl) shp_19 rfl (by show 1 ≤ d; omega) (Nat.le_of_ble_eq_true rfl) (Nat.zero_le _) (Nat.zero_le _) ?_
  refine CI.mono H (fun r2 σ2 H => ?_)
  refine j_pop (pc := 11) dX7_find_11 rfl ?_
  refine j_iload_n (pc := 12) dX7_find_12 rfl ?_
  refine j_iload_n (pc := 13) dX7_find_13 rfl ?_
  refine j_iand (pc := 14) dX7_find_14 ?_
  refine j_iload (pc := 15) dX7_find_15 rfl ?_
  refine j_icmp_ne (pc := 17) (t := 22) dX7_find_17 (by decide) (fun c17 => ?_) (fun c17 => ?_)
  · replace H := H.1 c17
    refine j_iconst (pc := 22) (v := 0) dX7_find_22 (by decide) ?_
    refine j_istore (pc := 23) (lv1 := [(5, .int 0), (0, .ref 19), (1, .ref 14), (2, .int x2), (3, .int x3), (4, .int x4)]) dX7_find_23 (Nat.le_of_ble_eq_true rfl) rfl ?_
    refine j_sub [1, 2, 3, 4, 5, 0] rfl ?_
    exact H
  · replace H := H.2 c17
    refine j_iconst (pc := 20) (v := 0) dX7_find_20 (by decide) ?_
    exact s_ireti (pc := 21) dX7_find_21 rfl H
set_option maxRecDepth 20000 in
theorem b_X7_find_25 {l : Launch} {g : am_G} {d : Nat} {σ : am_S} {k : Int32 → am_S → Prop}  {x2 x3 x4 x5 : Int32} (hd : 1 ≤ d) (H : ((rg σ 1224 ≤ x5 → k (-1) σ) ∧ (¬ rg σ 1224 ≤ x5 → ((630 ≤ x5 → k (-1) σ) ∧ (¬ 630 ≤ x5 → (vp_in x5 630 ∧ CV l g M_X9_list (d - 1) [.ref 20, .ref 14, .int (ar σ 24 x5.toNatClampNeg)] σ (fun σ1 => JI l g M_X7_find d 60 [(0, .ref 19), (1, .ref 14), (2, .int x2), (3, .int x3), (4, .int x4), (5, .int x5), (6, .int 0)] [] σ1 k))))))) : JI l g M_X7_find d 25 [(0, .ref 19), (1, .ref 14), (2, .int x2), (3, .int x3), (4, .int x4), (5, .int x5)] [] σ k := by
  show J l g (M_X7_find, d, 0, 0) 25 [(0, .ref 19), (1, .ref 14), (2, .int x2), (3, .int x3), (4, .int x4), (5, .int x5)] [] (hp σ) 0 0 (kI k)
  refine j_iload (pc := 25) dX7_find_25 rfl ?_
  refine j_aload_n (pc := 27) dX7_find_27 rfl ?_
  refine s_geti (pc := 28) 1224 (rg σ 1224) dX7_find_28 fl_X7_40 shp_19 rfl rfl rfl ?_
  refine j_icmp_ge (pc := 31) (t := 164) dX7_find_31 (by decide) (fun c31 => ?_) (fun c31 => ?_)
  · replace H := H.1 c31
    refine j_iconst (pc := 164) (v := -1) dX7_find_164 (by decide) ?_
    exact s_ireti (pc := 165) dX7_find_165 rfl H
  · replace H := H.2 c31
    refine j_iload (pc := 34) dX7_find_34 rfl ?_
    refine j_sipush (pc := 36) (v := 630) dX7_find_36 (by decide) ?_
    refine j_icmp_ge (pc := 39) (t := 164) dX7_find_39 (by decide) (fun c39 => ?_) (fun c39 => ?_)
    · replace H := H.1 c39
      refine j_iconst (pc := 164) (v := -1) dX7_find_164 (by decide) ?_
      exact s_ireti (pc := 165) dX7_find_165 rfl H
    · replace H := H.2 c39
      refine j_aload_n (pc := 42) dX7_find_42 rfl ?_
      refine s_getr (pc := 43) dX7_find_43 fl_X7_14 shp_19 rfl ?_
      refine j_aload_n (pc := 46) dX7_find_46 rfl ?_
      refine j_aload_n (pc := 47) dX7_find_47 rfl ?_
      refine s_getr (pc := 48) dX7_find_48 fl_X7_18 shp_19 rfl ?_
      refine j_iload (pc := 51) dX7_find_51 rfl ?_
      have b53 := H.1
      replace H := H.2
      refine s_iald (pc := 53) (ar σ 24 x5.toNatClampNeg) dX7_find_53 shp_24 b53 rfl ?_
      refine s_callV_v (pc := 54) (M1 := M_X9_list) (n := 2) (as := [.ref 14, .int (ar σ 24 x5.toNatClampNeg)]) (a := 20) (st := []) dX7_find_54 G_X9_list wm_X7_55 (by decide +kernel) rfl (Nat.le_of_ble_eq_true rfl) shp_20 rfl (by show 1 ≤ d; omega) (Nat.le_of_ble_eq_true rfl) (Nat.zero_le _) (Nat.zero_le _) ?_
      refine CV.mono H (fun σ1 H => ?_)
      refine j_iconst (pc := 57) (v := 0) dX7_find_57 (by decide) ?_
      refine j_istore (pc := 58) (lv1 := [(6, .int 0), (0, .ref 19), (1, .ref 14), (2, .int x2), (3, .int x3), (4, .int x4), (5, .int x5)]) dX7_find_58 (Nat.le_of_ble_eq_true rfl) rfl ?_
      refine j_sub [1, 2, 3, 4, 5, 6, 0] rfl ?_
      exact H
set_option maxRecDepth 20000 in
theorem b_X7_find_60 {l : Launch} {g : am_G} {d : Nat} {σ : am_S} {k : Int32 → am_S → Prop}  {x2 x3 x4 x5 x6 : Int32} (hd : 1 ≤ d) (H : ((rg σ 1283 ≤ x6 → JI l g M_X7_find d 25 [(0, .ref 19), (1, .ref 14), (2, .int x2), (3, .int x3), (4, .int x4), (5, .int (x5 + 1))] [] σ k) ∧ (¬ rg σ 1283 ≤ x6 → (vp_in x6 60 ∧ CI l g M_X7_placeOf (d - 1) [.ref 19, .int (ar σ 22 x6.toNatClampNeg)] σ (fun r1 σ1 => ((0 ≤ r1 → JI l g M_X7_find d 60 [(0, .ref 19), (1, .ref 14), (2, .int x2), (3, .int x3), (4, .int x4), (5, .int x5), (6, .int (x6 + 1))] [] σ1 k) ∧ (¬ 0 ≤ r1 → (vp_in x5 630 ∧ ((¬ x5 = 0 → (vp_in x5 630 ∧ CI l g M_X7_note (d - 1) [.ref 19, .int (ar σ 22 x6.toNatClampNeg), .int ((ar σ1 25 x5.toNatClampNeg) + 1), .int (ar σ1 26 x5.toNatClampNeg)] σ1 (fun r2 σ2 => ((r2 = 0 → JI l g M_X7_find d 60 [(0, .ref 19), (1, .ref 14), (2, .int x2), (3, .int x3), (4, .int x4), (5, .int x5), (6, .int (x6 + 1))] [] σ2 k) ∧ (¬ r2 = 0 → ((¬ (ar σ 22 x6.toNatClampNeg) &&& x3 = x4 → JI l g M_X7_find d 60 [(0, .ref 19), (1, .ref 14), (2, .int x2), (3, .int x3), (4, .int x4), (5, .int x5), (6, .int (x6 + 1))] [] σ2 k) ∧ ((ar σ 22 x6.toNatClampNeg) &&& x3 = x4 → k ((rg σ2 1224) - 1) σ2))))))) ∧ (x5 = 0 → (vp_in x6 60 ∧ CI l g M_X7_note (d - 1) [.ref 19, .int (ar σ 22 x6.toNatClampNeg), .int ((ar σ1 25 x5.toNatClampNeg) + 1), .int (ar σ1 21 x6.toNatClampNeg)] σ1 (fun r3 σ3 => ((r3 = 0 → JI l g M_X7_find d 60 [(0, .ref 19), (1, .ref 14), (2, .int x2), (3, .int x3), (4, .int x4), (5, .int x5), (6, .int (x6 + 1))] [] σ3 k) ∧ (¬ r3 = 0 → ((¬ (ar σ 22 x6.toNatClampNeg) &&& x3 = x4 → JI l g M_X7_find d 60 [(0, .ref 19), (1, .ref 14), (2, .int x2), (3, .int x3), (4, .int x4), (5, .int x5), (6, .int (x6 + 1))] [] σ3 k) ∧ ((ar σ 22 x6.toNatClampNeg) &&& x3 = x4 → k ((rg σ3 1224) - 1) σ3)))))))))))))))) : JI l g M_X7_find d 60 [(0, .ref 19), (1, .ref 14), (2, .int x2), (3, .int x3), (4, .int x4), (5, .int x5), (6, .int x6)] [] σ k := by
  show J l g (M_X7_find, d, 0, 0) 60 [(0, .ref 19), (1, .ref 14), (2, .int x2), (3, .int x3), (4, .int x4), (5, .int x5), (6, .int x6)] [] (hp σ) 0 0 (kI k)
  refine j_iload (pc := 60) dX7_find_60 rfl ?_
  refine j_aload_n (pc := 62) dX7_find_62 rfl ?_
  refine s_getr (pc := 63) dX7_find_63 fl_X7_14 shp_19 rfl ?_
  refine s_geti (pc := 66) 1283 (rg σ 1283) dX7_find_66 fl_X7_59 shp_20 rfl rfl rfl ?_
  refine j_icmp_ge (pc := 69) (t := 158) dX7_find_69 (by decide) (fun c69 => ?_) (fun c69 => ?_)
  · replace H := H.1 c69
    refine j_iinc (pc := 158) (k := 5) (v := x5 + 1) (lv1 := [(5, .int (x5 + 1)), (0, .ref 19), (1, .ref 14), (2, .int x2), (3, .int x3), (4, .int x4), (6, .int x6)]) dX7_find_158 rfl rfl (Nat.le_of_ble_eq_true rfl) rfl ?_
    refine j_goto (pc := 161) (t := 25) dX7_find_161 (by decide) ?_
    refine j_sub [1, 2, 3, 4, 5, 0] rfl ?_
    exact H
  · replace H := H.2 c69
    refine j_aload_n (pc := 72) dX7_find_72 rfl ?_
    refine s_getr (pc := 73) dX7_find_73 fl_X7_14 shp_19 rfl ?_
    refine s_getr (pc := 76) dX7_find_76 fl_X7_62 shp_20 rfl ?_
    refine j_iload (pc := 79) dX7_find_79 rfl ?_
    have b81 := H.1
    replace H := H.2
    refine s_iald (pc := 81) (ar σ 22 x6.toNatClampNeg) dX7_find_81 shp_22 b81 rfl ?_
    refine j_istore (pc := 82) (lv1 := [(7, .int (ar σ 22 x6.toNatClampNeg)), (0, .ref 19), (1, .ref 14), (2, .int x2), (3, .int x3), (4, .int x4), (5, .int x5), (6, .int x6)]) dX7_find_82 (Nat.le_of_ble_eq_true rfl) rfl ?_
    refine j_aload_n (pc := 84) dX7_find_84 rfl ?_
    refine j_iload (pc := 85) dX7_find_85 rfl ?_
    refine s_callV_i (pc := 87) (M1 := M_X7_placeOf) (n := 1) (as := [.int (ar σ 22 x6.toNatClampNeg)]) (a := 19) (st := []) dX7_find_87 G_X7_placeOf wm_X7_65 (by decide +kernel) rfl (Nat.le_of_ble_eq_true rfl) shp_19 rfl (by show 1 ≤ d; omega) (Nat.le_of_ble_eq_true rfl) (Nat.zero_le _) (Nat.zero_le _) ?_
    refine CI.mono H (fun r1 σ1 H => ?_)
    refine j_if_ge (pc := 90) (t := 152) dX7_find_90 (by decide) (fun c90 => ?_) (fun c90 => ?_)
    · replace H := H.1 c90
      refine j_iinc (pc := 152) (k := 7) (v := x6 + 1) (lv1 := [(6, .int (x6 + 1)), (7, .int (ar σ 22 x6.toNatClampNeg)), (0, .ref 19), (1, .ref 14), (2, .int x2), (3, .int x3), (4, .int x4), (5, .int x5)]) dX7_find_152 rfl rfl (Nat.le_of_ble_eq_true rfl) rfl ?_
      refine j_goto (pc := 155) (t := 60) dX7_find_155 (by decide) ?_
      refine j_sub [2, 3, 4, 5, 6, 7, 0] rfl ?_
      exact H
    · replace H := H.2 c90
      refine j_aload_n (pc := 93) dX7_find_93 rfl ?_
      refine j_iload (pc := 94) dX7_find_94 rfl ?_
      refine j_aload_n (pc := 96) dX7_find_96 rfl ?_
      refine s_getr (pc := 97) dX7_find_97 fl_X7_22 shp_19 rfl ?_
      refine j_iload (pc := 100) dX7_find_100 rfl ?_
      have b102 := H.1
      replace H := H.2
      refine s_iald (pc := 102) (ar σ1 25 x5.toNatClampNeg) dX7_find_102 shp_25 b102 rfl ?_
      refine j_iconst (pc := 103) (v := 1) dX7_find_103 (by decide) ?_
      refine j_iadd (pc := 104) dX7_find_104 ?_
      refine j_iload (pc := 105) dX7_find_105 rfl ?_
      refine j_if_ne (pc := 107) (t := 123) dX7_find_107 (by decide) (fun c107 => ?_) (fun c107 => ?_)
      · replace H := H.1 c107
        refine j_aload_n (pc := 123) dX7_find_123 rfl ?_
        refine s_getr (pc := 124) dX7_find_124 fl_X7_25 shp_19 rfl ?_
        refine j_iload (pc := 127) dX7_find_127 rfl ?_
        have b129 := H.1
        replace H := H.2
        refine s_iald (pc := 129) (ar σ1 26 x5.toNatClampNeg) dX7_find_129 shp_26 b129 rfl ?_
        refine s_callV_i (pc := 130) (M1 := M_X7_note) (n := 3) (as := [.int (ar σ 22 x6.toNatClampNeg), .int ((ar σ1 25 x5.toNatClampNeg) + 1), .int (ar σ1 26 x5.toNatClampNeg)]) (a := 19) (st := []) dX7_find_130 G_X7_note wm_X7_51 (by decide +kernel) rfl (Nat.le_of_ble_eq_true rfl) shp_19 rfl (by show 1 ≤ d; omega) (Nat.le_of_ble_eq_true rfl) (Nat.zero_le _) (Nat.zero_le _) ?_
        refine CI.mono H (fun r2 σ2 H => ?_)
        refine j_if_eq (pc := 133) (t := 152) dX7_find_133 (by decide) (fun c133 => ?_) (fun c133 => ?_)
        · replace H := H.1 c133
          refine j_iinc (pc := 152) (k := 7) (v := x6 + 1) (lv1 := [(6, .int (x6 + 1)), (7, .int (ar σ 22 x6.toNatClampNeg)), (0, .ref 19), (1, .ref 14), (2, .int x2), (3, .int x3), (4, .int x4), (5, .int x5)]) dX7_find_152 rfl rfl (Nat.le_of_ble_eq_true rfl) rfl ?_
          refine j_goto (pc := 155) (t := 60) dX7_find_155 (by decide) ?_
          refine j_sub [2, 3, 4, 5, 6, 7, 0] rfl ?_
          exact H
        · replace H := H.2 c133
          refine j_iload (pc := 136) dX7_find_136 rfl ?_
          refine j_iload_n (pc := 138) dX7_find_138 rfl ?_
          refine j_iand (pc := 139) dX7_find_139 ?_
          refine j_iload (pc := 140) dX7_find_140 rfl ?_
          refine j_icmp_ne (pc := 142) (t := 152) dX7_find_142 (by decide) (fun c142 => ?_) (fun c142 => ?_)
          · replace H := H.1 c142
            refine j_iinc (pc := 152) (k := 7) (v := x6 + 1) (lv1 := [(6, .int (x6 + 1)), (7, .int (ar σ 22 x6.toNatClampNeg)), (0, .ref 19), (1, .ref 14), (2, .int x2), (3, .int x3), (4, .int x4), (5, .int x5)]) dX7_find_152 rfl rfl (Nat.le_of_ble_eq_true rfl) rfl ?_
            refine j_goto (pc := 155) (t := 60) dX7_find_155 (by decide) ?_
            refine j_sub [2, 3, 4, 5, 6, 7, 0] rfl ?_
            exact H
          · replace H := H.2 c142
            refine j_aload_n (pc := 145) dX7_find_145 rfl ?_
            refine s_geti (pc := 146) 1224 (rg σ2 1224) dX7_find_146 fl_X7_40 shp_19 rfl rfl rfl ?_
            refine j_iconst (pc := 149) (v := 1) dX7_find_149 (by decide) ?_
            refine j_isub (pc := 150) dX7_find_150 ?_
            exact s_ireti (pc := 151) dX7_find_151 rfl H
      · replace H := H.2 c107
        refine j_aload_n (pc := 110) dX7_find_110 rfl ?_
        refine s_getr (pc := 111) dX7_find_111 fl_X7_14 shp_19 rfl ?_
        refine s_getr (pc := 114) dX7_find_114 fl_X7_69 shp_20 rfl ?_
        refine j_iload (pc := 117) dX7_find_117 rfl ?_
        have b119 := H.1
        replace H := H.2
        refine s_iald (pc := 119) (ar σ1 21 x6.toNatClampNeg) dX7_find_119 shp_21 b119 rfl ?_
        refine j_goto (pc := 120) (t := 130) dX7_find_120 (by decide) ?_
        refine s_callV_i (pc := 130) (M1 := M_X7_note) (n := 3) (as := [.int (ar σ 22 x6.toNatClampNeg), .int ((ar σ1 25 x5.toNatClampNeg) + 1), .int (ar σ1 21 x6.toNatClampNeg)]) (a := 19) (st := []) dX7_find_130 G_X7_note wm_X7_51 (by decide +kernel) rfl (Nat.le_of_ble_eq_true rfl) shp_19 rfl (by show 1 ≤ d; omega) (Nat.le_of_ble_eq_true rfl) (Nat.zero_le _) (Nat.zero_le _) ?_
        refine CI.mono H (fun r3 σ3 H => ?_)
        refine j_if_eq (pc := 133) (t := 152) dX7_find_133 (by decide) (fun c133 => ?_) (fun c133 => ?_)
        · replace H := H.1 c133
          refine j_iinc (pc := 152) (k := 7) (v := x6 + 1) (lv1 := [(6, .int (x6 + 1)), (7, .int (ar σ 22 x6.toNatClampNeg)), (0, .ref 19), (1, .ref 14), (2, .int x2), (3, .int x3), (4, .int x4), (5, .int x5)]) dX7_find_152 rfl rfl (Nat.le_of_ble_eq_true rfl) rfl ?_
          refine j_goto (pc := 155) (t := 60) dX7_find_155 (by decide) ?_
          refine j_sub [2, 3, 4, 5, 6, 7, 0] rfl ?_
          exact H
        · replace H := H.2 c133
          refine j_iload (pc := 136) dX7_find_136 rfl ?_
          refine j_iload_n (pc := 138) dX7_find_138 rfl ?_
          refine j_iand (pc := 139) dX7_find_139 ?_
          refine j_iload (pc := 140) dX7_find_140 rfl ?_
          refine j_icmp_ne (pc := 142) (t := 152) dX7_find_142 (by decide) (fun c142 => ?_) (fun c142 => ?_)
          · replace H := H.1 c142
            refine j_iinc (pc := 152) (k := 7) (v := x6 + 1) (lv1 := [(6, .int (x6 + 1)), (7, .int (ar σ 22 x6.toNatClampNeg)), (0, .ref 19), (1, .ref 14), (2, .int x2), (3, .int x3), (4, .int x4), (5, .int x5)]) dX7_find_152 rfl rfl (Nat.le_of_ble_eq_true rfl) rfl ?_
            refine j_goto (pc := 155) (t := 60) dX7_find_155 (by decide) ?_
            refine j_sub [2, 3, 4, 5, 6, 7, 0] rfl ?_
            exact H
          · replace H := H.2 c142
            refine j_aload_n (pc := 145) dX7_find_145 rfl ?_
            refine s_geti (pc := 146) 1224 (rg σ3 1224) dX7_find_146 fl_X7_40 shp_19 rfl rfl rfl ?_
            refine j_iconst (pc := 149) (v := 1) dX7_find_149 (by decide) ?_
            refine j_isub (pc := 150) dX7_find_150 ?_
            exact s_ireti (pc := 151) dX7_find_151 rfl H
set_option maxRecDepth 20000 in
theorem b_X7_spreadOut_0 {l : Launch} {g : am_G} {d : Nat} {σ : am_S} {k : am_S → Prop}  {x2 : Int32} (hd : 1 ≤ d) (H : CI l g M_X7_find (d - 1) [.ref 19, .ref 14, .int x2, .int 0, .int 1] σ (fun r1 σ1 => k σ1)) : CV l g M_X7_spreadOut d [.ref 19, .ref 14, .int x2] σ k := by
  show J l g (M_X7_spreadOut, d, 0, 0) 0 [(0, .ref 19), (1, .ref 14), (2, .int x2)] [] (hp σ) 0 0 (kV k)
  refine j_aload_n (pc := 0) dX7_spreadOut_0 rfl ?_
  refine j_aload_n (pc := 1) dX7_spreadOut_1 rfl ?_
  refine j_iload_n (pc := 2) dX7_spreadOut_2 rfl ?_
  refine j_iconst (pc := 3) (v := 0) dX7_spreadOut_3 (by decide) ?_
  refine j_iconst (pc := 4) (v := 1) dX7_spreadOut_4 (by decide) ?_
  refine s_callV_i (pc := 5) (M1 := M_X7_find) (n := 4) (as := [.ref 14, .int x2, .int 0, .int 1]) (a := 19) (st := []) dX7_spreadOut_5 G_X7_find wm_X7_44 (by decide +kernel) rfl (Nat.le_of_ble_eq_true rfl) shp_19 rfl (by show 1 ≤ d; omega) (Nat.le_of_ble_eq_true rfl) (Nat.zero_le _) (Nat.zero_le _) ?_
  refine CI.mono H (fun r1 σ1 H => ?_)
  refine j_pop (pc := 8) dX7_spreadOut_8 rfl ?_
  exact s_vret (pc := 9) dX7_spreadOut_9 rfl H
set_option maxRecDepth 20000 in
theorem b_X7_fewestTill_0 {l : Launch} {g : am_G} {d : Nat} {σ : am_S} {k : Int32 → am_S → Prop}  {x2 x3 x4 : Int32} (hd : 1 ≤ d) (H : CI l g M_X7_find (d - 1) [.ref 19, .ref 14, .int x2, .int x3, .int x4] σ (fun r1 σ1 => ((0 ≤ r1 → (vp_in r1 630 ∧ k (ar σ1 25 r1.toNatClampNeg) σ1)) ∧ (¬ 0 ≤ r1 → k (-2) σ1)))) : CI l g M_X7_fewestTill d [.ref 19, .ref 14, .int x2, .int x3, .int x4] σ k := by
  show J l g (M_X7_fewestTill, d, 0, 0) 0 [(0, .ref 19), (1, .ref 14), (2, .int x2), (3, .int x3), (4, .int x4)] [] (hp σ) 0 0 (kI k)
  refine j_aload_n (pc := 0) dX7_fewestTill_0 rfl ?_
  refine j_aload_n (pc := 1) dX7_fewestTill_1 rfl ?_
  refine j_iload_n (pc := 2) dX7_fewestTill_2 rfl ?_
  refine j_iload_n (pc := 3) dX7_fewestTill_3 rfl ?_
  refine j_iload (pc := 4) dX7_fewestTill_4 rfl ?_
  refine s_callV_i (pc := 6) (M1 := M_X7_find) (n := 4) (as := [.ref 14, .int x2, .int x3, .int x4]) (a := 19) (st := []) dX7_fewestTill_6 G_X7_find wm_X7_44 (by decide +kernel) rfl (Nat.le_of_ble_eq_true rfl) shp_19 rfl (by show 1 ≤ d; omega) (Nat.le_of_ble_eq_true rfl) (Nat.zero_le _) (Nat.zero_le _) ?_
  refine CI.mono H (fun r1 σ1 H => ?_)
  refine j_istore (pc := 9) (lv1 := [(5, .int r1), (0, .ref 19), (1, .ref 14), (2, .int x2), (3, .int x3), (4, .int x4)]) dX7_fewestTill_9 (Nat.le_of_ble_eq_true rfl) rfl ?_
  refine j_iload (pc := 11) dX7_fewestTill_11 rfl ?_
  refine j_if_ge (pc := 13) (t := 21) dX7_fewestTill_13 (by decide) (fun c13 => ?_) (fun c13 => ?_)
  · replace H := H.1 c13
    refine j_aload_n (pc := 21) dX7_fewestTill_21 rfl ?_
    refine s_getr (pc := 22) dX7_fewestTill_22 fl_X7_22 shp_19 rfl ?_
    refine j_iload (pc := 25) dX7_fewestTill_25 rfl ?_
    have b27 := H.1
    replace H := H.2
    refine s_iald (pc := 27) (ar σ1 25 r1.toNatClampNeg) dX7_fewestTill_27 shp_25 b27 rfl ?_
    exact s_ireti (pc := 28) dX7_fewestTill_28 rfl H
  · replace H := H.2 c13
    refine j_bipush (pc := 16) (v := -2) dX7_fewestTill_16 (by decide) ?_
    refine j_goto (pc := 18) (t := 28) dX7_fewestTill_18 (by decide) ?_
    exact s_ireti (pc := 28) dX7_fewestTill_28 rfl H
set_option maxRecDepth 20000 in
theorem b_X7_rests_0 {l : Launch} {g : am_G} {d : Nat} {σ : am_S} {k : Int32 → am_S → Prop}   (H : JI l g M_X7_rests d 4 [(0, .ref 19), (1, .ref 14), (2, .int 0), (3, .int 0)] [] σ k) : CI l g M_X7_rests d [.ref 19, .ref 14] σ k := by
  show J l g (M_X7_rests, d, 0, 0) 0 [(0, .ref 19), (1, .ref 14)] [] (hp σ) 0 0 (kI k)
  refine j_iconst (pc := 0) (v := 0) dX7_rests_0 (by decide) ?_
  refine j_istore_n (pc := 1) (lv1 := [(2, .int 0), (0, .ref 19), (1, .ref 14)]) dX7_rests_1 (Nat.le_of_ble_eq_true rfl) rfl ?_
  refine j_iconst (pc := 2) (v := 0) dX7_rests_2 (by decide) ?_
  refine j_istore_n (pc := 3) (lv1 := [(3, .int 0), (2, .int 0), (0, .ref 19), (1, .ref 14)]) dX7_rests_3 (Nat.le_of_ble_eq_true rfl) rfl ?_
  refine j_sub [2, 3, 1, 0] rfl ?_
  exact H
set_option maxRecDepth 20000 in
theorem b_X7_rests_4 {l : Launch} {g : am_G} {d : Nat} {σ : am_S} {k : Int32 → am_S → Prop}  {x2 x3 : Int32} (hd : 1 ≤ d) (H : ((rg σ 1224 ≤ x3 → k x2 σ) ∧ (¬ rg σ 1224 ≤ x3 → (vp_in x3 630 ∧ CV l g M_X9_list (d - 1) [.ref 20, .ref 14, .int (ar σ 24 x3.toNatClampNeg)] σ (fun σ1 => ((¬ rg σ1 1283 = 0 → JI l g M_X7_rests d 4 [(0, .ref 19), (1, .ref 14), (2, .int x2), (3, .int (x3 + 1))] [] σ1 k) ∧ (rg σ1 1283 = 0 → JI l g M_X7_rests d 4 [(0, .ref 19), (1, .ref 14), (2, .int (x2 + 1)), (3, .int (x3 + 1))] [] σ1 k))))))) : JI l g M_X7_rests d 4 [(0, .ref 19), (1, .ref 14), (2, .int x2), (3, .int x3)] [] σ k := by
  show J l g (M_X7_rests, d, 0, 0) 4 [(0, .ref 19), (1, .ref 14), (2, .int x2), (3, .int x3)] [] (hp σ) 0 0 (kI k)
  refine j_iload_n (pc := 4) dX7_rests_4 rfl ?_
  refine j_aload_n (pc := 5) dX7_rests_5 rfl ?_
  refine s_geti (pc := 6) 1224 (rg σ 1224) dX7_rests_6 fl_X7_40 shp_19 rfl rfl rfl ?_
  refine j_icmp_ge (pc := 9) (t := 45) dX7_rests_9 (by decide) (fun c9 => ?_) (fun c9 => ?_)
  · replace H := H.1 c9
    refine j_iload_n (pc := 45) dX7_rests_45 rfl ?_
    exact s_ireti (pc := 46) dX7_rests_46 rfl H
  · replace H := H.2 c9
    refine j_aload_n (pc := 12) dX7_rests_12 rfl ?_
    refine s_getr (pc := 13) dX7_rests_13 fl_X7_14 shp_19 rfl ?_
    refine j_aload_n (pc := 16) dX7_rests_16 rfl ?_
    refine j_aload_n (pc := 17) dX7_rests_17 rfl ?_
    refine s_getr (pc := 18) dX7_rests_18 fl_X7_18 shp_19 rfl ?_
    refine j_iload_n (pc := 21) dX7_rests_21 rfl ?_
    have b22 := H.1
    replace H := H.2
    refine s_iald (pc := 22) (ar σ 24 x3.toNatClampNeg) dX7_rests_22 shp_24 b22 rfl ?_
    refine s_callV_v (pc := 23) (M1 := M_X9_list) (n := 2) (as := [.ref 14, .int (ar σ 24 x3.toNatClampNeg)]) (a := 20) (st := []) dX7_rests_23 G_X9_list wm_X7_55 (by decide +kernel) rfl (Nat.le_of_ble_eq_true rfl) shp_20 rfl (by show 1 ≤ d; omega) (Nat.le_of_ble_eq_true rfl) (Nat.zero_le _) (Nat.zero_le _) ?_
    refine CV.mono H (fun σ1 H => ?_)
    refine j_aload_n (pc := 26) dX7_rests_26 rfl ?_
    refine s_getr (pc := 27) dX7_rests_27 fl_X7_14 shp_19 rfl ?_
    refine s_geti (pc := 30) 1283 (rg σ1 1283) dX7_rests_30 fl_X7_59 shp_20 rfl rfl rfl ?_
    refine j_if_ne (pc := 33) (t := 39) dX7_rests_33 (by decide) (fun c33 => ?_) (fun c33 => ?_)
    · replace H := H.1 c33
      refine j_iinc (pc := 39) (k := 3) (v := x3 + 1) (lv1 := [(3, .int (x3 + 1)), (0, .ref 19), (1, .ref 14), (2, .int x2)]) dX7_rests_39 rfl rfl (Nat.le_of_ble_eq_true rfl) rfl ?_
      refine j_goto (pc := 42) (t := 4) dX7_rests_42 (by decide) ?_
      refine j_sub [1, 2, 3, 0] rfl ?_
      exact H
    · replace H := H.2 c33
      refine j_iinc (pc := 36) (k := 2) (v := x2 + 1) (lv1 := [(2, .int (x2 + 1)), (0, .ref 19), (1, .ref 14), (3, .int x3)]) dX7_rests_36 rfl rfl (Nat.le_of_ble_eq_true rfl) rfl ?_
      refine j_iinc (pc := 39) (k := 3) (v := x3 + 1) (lv1 := [(3, .int (x3 + 1)), (2, .int (x2 + 1)), (0, .ref 19), (1, .ref 14)]) dX7_rests_39 rfl rfl (Nat.le_of_ble_eq_true rfl) rfl ?_
      refine j_goto (pc := 42) (t := 4) dX7_rests_42 (by decide) ?_
      refine j_sub [2, 3, 1, 0] rfl ?_
      exact H
set_option maxRecDepth 20000 in
theorem b_X7_countWays_0 {l : Launch} {g : am_G} {d : Nat} {σ : am_S} {k : am_S → Prop}   (H : JV l g M_X7_countWays d 2 [(0, .ref 19), (1, .ref 14), (2, .int 0)] [] σ k) : CV l g M_X7_countWays d [.ref 19, .ref 14] σ k := by
  show J l g (M_X7_countWays, d, 0, 0) 0 [(0, .ref 19), (1, .ref 14)] [] (hp σ) 0 0 (kV k)
  refine j_iconst (pc := 0) (v := 0) dX7_countWays_0 (by decide) ?_
  refine j_istore_n (pc := 1) (lv1 := [(2, .int 0), (0, .ref 19), (1, .ref 14)]) dX7_countWays_1 (Nat.le_of_ble_eq_true rfl) rfl ?_
  refine j_sub [1, 2, 0] rfl ?_
  exact H
set_option maxRecDepth 20000 in
theorem b_X7_countWays_2 {l : Launch} {g : am_G} {d : Nat} {σ : am_S} {k : am_S → Prop}  {x2 : Int32} (H : ((rg σ 1224 ≤ x2 → JV l g M_X7_countWays d 32 [(0, .ref 19), (1, .ref 14), (2, .int 0)] [] σ k) ∧ (¬ rg σ 1224 ≤ x2 → (vp_in x2 630 ∧ (vp_in x2 630 ∧ JV l g M_X7_countWays d 2 [(0, .ref 19), (1, .ref 14), (2, .int (x2 + 1))] [] (sA (sA σ 27 x2.toNatClampNeg 0) 28 x2.toNatClampNeg 0) k))))) : JV l g M_X7_countWays d 2 [(0, .ref 19), (1, .ref 14), (2, .int x2)] [] σ k := by
  show J l g (M_X7_countWays, d, 0, 0) 2 [(0, .ref 19), (1, .ref 14), (2, .int x2)] [] (hp σ) 0 0 (kV k)
  refine j_iload_n (pc := 2) dX7_countWays_2 rfl ?_
  refine j_aload_n (pc := 3) dX7_countWays_3 rfl ?_
  refine s_geti (pc := 4) 1224 (rg σ 1224) dX7_countWays_4 fl_X7_40 shp_19 rfl rfl rfl ?_
  refine j_icmp_ge (pc := 7) (t := 30) dX7_countWays_7 (by decide) (fun c7 => ?_) (fun c7 => ?_)
  · replace H := H.1 c7
    refine j_iconst (pc := 30) (v := 0) dX7_countWays_30 (by decide) ?_
    refine j_istore_n (pc := 31) (lv1 := [(2, .int 0), (0, .ref 19), (1, .ref 14)]) dX7_countWays_31 (Nat.le_of_ble_eq_true rfl) rfl ?_
    refine j_sub [1, 2, 0] rfl ?_
    exact H
  · replace H := H.2 c7
    refine j_aload_n (pc := 10) dX7_countWays_10 rfl ?_
    refine s_getr (pc := 11) dX7_countWays_11 fl_X7_28 shp_19 rfl ?_
    refine j_iload_n (pc := 14) dX7_countWays_14 rfl ?_
    refine j_iconst (pc := 15) (v := 0) dX7_countWays_15 (by decide) ?_
    have b16 := H.1
    replace H := H.2
    refine s_iast (pc := 16) dX7_countWays_16 shp_27 b16 ?_
    refine j_aload_n (pc := 17) dX7_countWays_17 rfl ?_
    refine s_getr (pc := 18) dX7_countWays_18 fl_X7_31 shp_19 rfl ?_
    refine j_iload_n (pc := 21) dX7_countWays_21 rfl ?_
    refine j_iconst (pc := 22) (v := 0) dX7_countWays_22 (by decide) ?_
    have b23 := H.1
    replace H := H.2
    refine s_iast (pc := 23) dX7_countWays_23 shp_28 b23 ?_
    refine j_iinc (pc := 24) (k := 2) (v := x2 + 1) (lv1 := [(2, .int (x2 + 1)), (0, .ref 19), (1, .ref 14)]) dX7_countWays_24 rfl rfl (Nat.le_of_ble_eq_true rfl) rfl ?_
    refine j_goto (pc := 27) (t := 2) dX7_countWays_27 (by decide) ?_
    refine j_sub [1, 2, 0] rfl ?_
    exact H
set_option maxRecDepth 20000 in
theorem b_X7_countWays_32 {l : Launch} {g : am_G} {d : Nat} {σ : am_S} {k : am_S → Prop}  {x2 : Int32} (hd : 1 ≤ d) (H : ((rg σ 1224 ≤ x2 → k σ) ∧ (¬ rg σ 1224 ≤ x2 → (vp_in x2 630 ∧ CV l g M_X9_list (d - 1) [.ref 20, .ref 14, .int (ar σ 24 x2.toNatClampNeg)] σ (fun σ1 => JV l g M_X7_countWays d 56 [(0, .ref 19), (1, .ref 14), (2, .int x2), (3, .int 0)] [] σ1 k))))) : JV l g M_X7_countWays d 32 [(0, .ref 19), (1, .ref 14), (2, .int x2)] [] σ k := by
  show J l g (M_X7_countWays, d, 0, 0) 32 [(0, .ref 19), (1, .ref 14), (2, .int x2)] [] (hp σ) 0 0 (kV k)
  refine j_iload_n (pc := 32) dX7_countWays_32 rfl ?_
  refine j_aload_n (pc := 33) dX7_countWays_33 rfl ?_
  refine s_geti (pc := 34) 1224 (rg σ 1224) dX7_countWays_34 fl_X7_40 shp_19 rfl rfl rfl ?_
  refine j_icmp_ge (pc := 37) (t := 110) dX7_countWays_37 (by decide) (fun c37 => ?_) (fun c37 => ?_)
  · replace H := H.1 c37
    exact s_vret (pc := 110) dX7_countWays_110 rfl H
  · replace H := H.2 c37
    refine j_aload_n (pc := 40) dX7_countWays_40 rfl ?_
    refine s_getr (pc := 41) dX7_countWays_41 fl_X7_14 shp_19 rfl ?_
    refine j_aload_n (pc := 44) dX7_countWays_44 rfl ?_
    refine j_aload_n (pc := 45) dX7_countWays_45 rfl ?_
    refine s_getr (pc := 46) dX7_countWays_46 fl_X7_18 shp_19 rfl ?_
    refine j_iload_n (pc := 49) dX7_countWays_49 rfl ?_
    have b50 := H.1
    replace H := H.2
    refine s_iald (pc := 50) (ar σ 24 x2.toNatClampNeg) dX7_countWays_50 shp_24 b50 rfl ?_
    refine s_callV_v (pc := 51) (M1 := M_X9_list) (n := 2) (as := [.ref 14, .int (ar σ 24 x2.toNatClampNeg)]) (a := 20) (st := []) dX7_countWays_51 G_X9_list wm_X7_55 (by decide +kernel) rfl (Nat.le_of_ble_eq_true rfl) shp_20 rfl (by show 1 ≤ d; omega) (Nat.le_of_ble_eq_true rfl) (Nat.zero_le _) (Nat.zero_le _) ?_
    refine CV.mono H (fun σ1 H => ?_)
    refine j_iconst (pc := 54) (v := 0) dX7_countWays_54 (by decide) ?_
    refine j_istore_n (pc := 55) (lv1 := [(3, .int 0), (0, .ref 19), (1, .ref 14), (2, .int x2)]) dX7_countWays_55 (Nat.le_of_ble_eq_true rfl) rfl ?_
    refine j_sub [1, 2, 3, 0] rfl ?_
    exact H
set_option maxRecDepth 20000 in
theorem b_X7_countWays_56 {l : Launch} {g : am_G} {d : Nat} {σ : am_S} {k : am_S → Prop}  {x2 x3 : Int32} (hd : 1 ≤ d) (H : ((rg σ 1283 ≤ x3 → JV l g M_X7_countWays d 32 [(0, .ref 19), (1, .ref 14), (2, .int (x2 + 1))] [] σ k) ∧ (¬ rg σ 1283 ≤ x3 → (vp_in x3 60 ∧ CI l g M_X7_placeOf (d - 1) [.ref 19, .int (ar σ 22 x3.toNatClampNeg)] σ (fun r1 σ1 => ((r1 < 0 → JV l g M_X7_countWays d 56 [(0, .ref 19), (1, .ref 14), (2, .int x2), (3, .int (x3 + 1))] [] σ1 k) ∧ (¬ r1 < 0 → (vp_in r1 630 ∧ (vp_in r1 630 ∧ JV l g M_X7_countWays d 56 [(0, .ref 19), (1, .ref 14), (2, .int x2), (3, .int (x3 + 1))] [] (sA σ1 27 r1.toNatClampNeg ((ar σ1 27 r1.toNatClampNeg) + 1)) k))))))))) : JV l g M_X7_countWays d 56 [(0, .ref 19), (1, .ref 14), (2, .int x2), (3, .int x3)] [] σ k := by
  show J l g (M_X7_countWays, d, 0, 0) 56 [(0, .ref 19), (1, .ref 14), (2, .int x2), (3, .int x3)] [] (hp σ) 0 0 (kV k)
  refine j_iload_n (pc := 56) dX7_countWays_56 rfl ?_
  refine j_aload_n (pc := 57) dX7_countWays_57 rfl ?_
  refine s_getr (pc := 58) dX7_countWays_58 fl_X7_14 shp_19 rfl ?_
  refine s_geti (pc := 61) 1283 (rg σ 1283) dX7_countWays_61 fl_X7_59 shp_20 rfl rfl rfl ?_
  refine j_icmp_ge (pc := 64) (t := 104) dX7_countWays_64 (by decide) (fun c64 => ?_) (fun c64 => ?_)
  · replace H := H.1 c64
    refine j_iinc (pc := 104) (k := 2) (v := x2 + 1) (lv1 := [(2, .int (x2 + 1)), (0, .ref 19), (1, .ref 14), (3, .int x3)]) dX7_countWays_104 rfl rfl (Nat.le_of_ble_eq_true rfl) rfl ?_
    refine j_goto (pc := 107) (t := 32) dX7_countWays_107 (by decide) ?_
    refine j_sub [1, 2, 0] rfl ?_
    exact H
  · replace H := H.2 c64
    refine j_aload_n (pc := 67) dX7_countWays_67 rfl ?_
    refine j_aload_n (pc := 68) dX7_countWays_68 rfl ?_
    refine s_getr (pc := 69) dX7_countWays_69 fl_X7_14 shp_19 rfl ?_
    refine s_getr (pc := 72) dX7_countWays_72 fl_X7_62 shp_20 rfl ?_
    refine j_iload_n (pc := 75) dX7_countWays_75 rfl ?_
    have b76 := H.1
    replace H := H.2
    refine s_iald (pc := 76) (ar σ 22 x3.toNatClampNeg) dX7_countWays_76 shp_22 b76 rfl ?_
    refine s_callV_i (pc := 77) (M1 := M_X7_placeOf) (n := 1) (as := [.int (ar σ 22 x3.toNatClampNeg)]) (a := 19) (st := []) dX7_countWays_77 G_X7_placeOf wm_X7_65 (by decide +kernel) rfl (Nat.le_of_ble_eq_true rfl) shp_19 rfl (by show 1 ≤ d; omega) (Nat.le_of_ble_eq_true rfl) (Nat.zero_le _) (Nat.zero_le _) ?_
    refine CI.mono H (fun r1 σ1 H => ?_)
    refine j_istore (pc := 80) (lv1 := [(4, .int r1), (0, .ref 19), (1, .ref 14), (2, .int x2), (3, .int x3)]) dX7_countWays_80 (Nat.le_of_ble_eq_true rfl) rfl ?_
    refine j_iload (pc := 82) dX7_countWays_82 rfl ?_
    refine j_if_lt (pc := 84) (t := 98) dX7_countWays_84 (by decide) (fun c84 => ?_) (fun c84 => ?_)
    · replace H := H.1 c84
      refine j_iinc (pc := 98) (k := 4) (v := x3 + 1) (lv1 := [(3, .int (x3 + 1)), (4, .int r1), (0, .ref 19), (1, .ref 14), (2, .int x2)]) dX7_countWays_98 rfl rfl (Nat.le_of_ble_eq_true rfl) rfl ?_
      refine j_goto (pc := 101) (t := 56) dX7_countWays_101 (by decide) ?_
      refine j_sub [2, 3, 4, 0] rfl ?_
      exact H
    · replace H := H.2 c84
      refine j_aload_n (pc := 87) dX7_countWays_87 rfl ?_
      refine s_getr (pc := 88) dX7_countWays_88 fl_X7_28 shp_19 rfl ?_
      refine j_iload (pc := 91) dX7_countWays_91 rfl ?_
      refine j_dup2 (pc := 93) dX7_countWays_93 rfl rfl ?_
      have b94 := H.1
      replace H := H.2
      refine s_iald (pc := 94) (ar σ1 27 r1.toNatClampNeg) dX7_countWays_94 shp_27 b94 rfl ?_
      refine j_iconst (pc := 95) (v := 1) dX7_countWays_95 (by decide) ?_
      refine j_iadd (pc := 96) dX7_countWays_96 ?_
      have b97 := H.1
      replace H := H.2
      refine s_iast (pc := 97) dX7_countWays_97 shp_27 b97 ?_
      refine j_iinc (pc := 98) (k := 4) (v := x3 + 1) (lv1 := [(3, .int (x3 + 1)), (4, .int r1), (0, .ref 19), (1, .ref 14), (2, .int x2)]) dX7_countWays_98 rfl rfl (Nat.le_of_ble_eq_true rfl) rfl ?_
      refine j_goto (pc := 101) (t := 56) dX7_countWays_101 (by decide) ?_
      refine j_sub [2, 3, 4, 0] rfl ?_
      exact H
set_option maxRecDepth 20000 in
theorem b_X7_longest_0 {l : Launch} {g : am_G} {d : Nat} {σ : am_S} {k : Int32 → am_S → Prop}   (hd : 1 ≤ d) (H : CV l g M_X7_countWays (d - 1) [.ref 19, .ref 14] σ (fun σ1 => ((¬ ar σ1 27 0 = 0 → JI l g M_X7_longest d 30 [(0, .ref 19), (1, .ref 14), (2, .int 0), (3, .int 0), (4, .int 0)] [] σ1 k) ∧ (ar σ1 27 0 = 0 → JI l g M_X7_longest d 30 [(0, .ref 19), (1, .ref 14), (2, .int 1), (3, .int 0), (4, .int 0)] [] (sA σ1 29 0 0) k)))) : CI l g M_X7_longest d [.ref 19, .ref 14] σ k := by
  show J l g (M_X7_longest, d, 0, 0) 0 [(0, .ref 19), (1, .ref 14)] [] (hp σ) 0 0 (kI k)
  refine j_aload_n (pc := 0) dX7_longest_0 rfl ?_
  refine j_aload_n (pc := 1) dX7_longest_1 rfl ?_
  refine s_callV_v (pc := 2) (M1 := M_X7_countWays) (n := 1) (as := [.ref 14]) (a := 19) (st := []) dX7_longest_2 G_X7_countWays wm_X7_76 (by decide +kernel) rfl (Nat.le_of_ble_eq_true rfl) shp_19 rfl (by show 1 ≤ d; omega) (Nat.le_of_ble_eq_true rfl) (Nat.zero_le _) (Nat.zero_le _) ?_
  refine CV.mono H (fun σ1 H => ?_)
  refine j_iconst (pc := 5) (v := 0) dX7_longest_5 (by decide) ?_
  refine j_istore_n (pc := 6) (lv1 := [(2, .int 0), (0, .ref 19), (1, .ref 14)]) dX7_longest_6 (Nat.le_of_ble_eq_true rfl) rfl ?_
  refine j_aload_n (pc := 7) dX7_longest_7 rfl ?_
  refine s_getr (pc := 8) dX7_longest_8 fl_X7_28 shp_19 rfl ?_
  refine j_iconst (pc := 11) (v := 0) dX7_longest_11 (by decide) ?_
  refine s_iald (pc := 12) (ar σ1 27 0) dX7_longest_12 shp_27 (by unfold vp_in; decide) rfl ?_
  refine j_if_ne (pc := 13) (t := 25) dX7_longest_13 (by decide) (fun c13 => ?_) (fun c13 => ?_)
  · replace H := H.1 c13
    refine j_iconst (pc := 25) (v := 0) dX7_longest_25 (by decide) ?_
    refine j_istore_n (pc := 26) (lv1 := [(3, .int 0), (2, .int 0), (0, .ref 19), (1, .ref 14)]) dX7_longest_26 (Nat.le_of_ble_eq_true rfl) rfl ?_
    refine j_iconst (pc := 27) (v := 0) dX7_longest_27 (by decide) ?_
    refine j_istore (pc := 28) (lv1 := [(4, .int 0), (3, .int 0), (2, .int 0), (0, .ref 19), (1, .ref 14)]) dX7_longest_28 (Nat.le_of_ble_eq_true rfl) rfl ?_
    refine j_sub [3, 4, 2, 1, 0] rfl ?_
    exact H
  · replace H := H.2 c13
    refine j_aload_n (pc := 16) dX7_longest_16 rfl ?_
    refine s_getr (pc := 17) dX7_longest_17 fl_X7_34 shp_19 rfl ?_
    refine j_iconst (pc := 20) (v := 0) dX7_longest_20 (by decide) ?_
    refine j_iconst (pc := 21) (v := 0) dX7_longest_21 (by decide) ?_
    refine s_iast (pc := 22) dX7_longest_22 shp_29 (by unfold vp_in; decide) ?_
    refine j_iconst (pc := 23) (v := 1) dX7_longest_23 (by decide) ?_
    refine j_istore_n (pc := 24) (lv1 := [(2, .int 1), (0, .ref 19), (1, .ref 14)]) dX7_longest_24 (Nat.le_of_ble_eq_true rfl) rfl ?_
    refine j_iconst (pc := 25) (v := 0) dX7_longest_25 (by decide) ?_
    refine j_istore_n (pc := 26) (lv1 := [(3, .int 0), (2, .int 1), (0, .ref 19), (1, .ref 14)]) dX7_longest_26 (Nat.le_of_ble_eq_true rfl) rfl ?_
    refine j_iconst (pc := 27) (v := 0) dX7_longest_27 (by decide) ?_
    refine j_istore (pc := 28) (lv1 := [(4, .int 0), (3, .int 0), (2, .int 1), (0, .ref 19), (1, .ref 14)]) dX7_longest_28 (Nat.le_of_ble_eq_true rfl) rfl ?_
    refine j_sub [3, 4, 2, 1, 0] rfl ?_
    exact H
set_option maxRecDepth 20000 in
theorem b_X7_longest_30 {l : Launch} {g : am_G} {d : Nat} {σ : am_S} {k : Int32 → am_S → Prop}  {x2 x3 x4 : Int32} (hd : 1 ≤ d) (H : ((x2 ≤ x4 → ((rg σ 1224 ≤ x2 → k x3 σ) ∧ (¬ rg σ 1224 ≤ x2 → k (-2) σ))) ∧ (¬ x2 ≤ x4 → ((630 ≤ x4 → ((rg σ 1224 ≤ x2 → k x3 σ) ∧ (¬ rg σ 1224 ≤ x2 → k (-2) σ))) ∧ (¬ 630 ≤ x4 → (vp_in x4 630 ∧ (vp_in (ar σ 29 x4.toNatClampNeg) 630 ∧ (∀ x3_1 : Int32, x3_1 = (if x3 < (ar σ 28 ((ar σ 29 x4.toNatClampNeg).toNatClampNeg)) then (ar σ 28 ((ar σ 29 x4.toNatClampNeg).toNatClampNeg)) else x3) → (vp_in (ar σ 29 x4.toNatClampNeg) 630 ∧ CV l g M_X9_list (d - 1) [.ref 20, .ref 14, .int (ar σ 24 ((ar σ 29 x4.toNatClampNeg).toNatClampNeg))] σ (fun σ2 => JI l g M_X7_longest d 83 [(0, .ref 19), (1, .ref 14), (2, .int x2), (3, .int x3_1), (4, .int x4), (5, .int (ar σ 29 x4.toNatClampNeg)), (6, .int 0)] [] σ2 k)))))))))) : JI l g M_X7_longest d 30 [(0, .ref 19), (1, .ref 14), (2, .int x2), (3, .int x3), (4, .int x4)] [] σ k := by
  show J l g (M_X7_longest, d, 0, 0) 30 [(0, .ref 19), (1, .ref 14), (2, .int x2), (3, .int x3), (4, .int x4)] [] (hp σ) 0 0 (kI k)
  refine j_iload (pc := 30) dX7_longest_30 rfl ?_
  refine j_iload_n (pc := 32) dX7_longest_32 rfl ?_
  refine j_icmp_ge (pc := 33) (t := 196) dX7_longest_33 (by decide) (fun c33 => ?_) (fun c33 => ?_)
  · replace H := H.1 c33
    refine j_iload_n (pc := 196) dX7_longest_196 rfl ?_
    refine j_aload_n (pc := 197) dX7_longest_197 rfl ?_
    refine s_geti (pc := 198) 1224 (rg σ 1224) dX7_longest_198 fl_X7_40 shp_19 rfl rfl rfl ?_
    refine j_icmp_ge (pc := 201) (t := 209) dX7_longest_201 (by decide) (fun c201 => ?_) (fun c201 => ?_)
    · replace H := H.1 c201
      refine j_iload_n (pc := 209) dX7_longest_209 rfl ?_
      exact s_ireti (pc := 210) dX7_longest_210 rfl H
    · replace H := H.2 c201
      refine j_bipush (pc := 204) (v := -2) dX7_longest_204 (by decide) ?_
      refine j_goto (pc := 206) (t := 210) dX7_longest_206 (by decide) ?_
      exact s_ireti (pc := 210) dX7_longest_210 rfl H
  · replace H := H.2 c33
    refine j_iload (pc := 36) dX7_longest_36 rfl ?_
    refine j_sipush (pc := 38) (v := 630) dX7_longest_38 (by decide) ?_
    refine j_icmp_ge (pc := 41) (t := 196) dX7_longest_41 (by decide) (fun c41 => ?_) (fun c41 => ?_)
    · replace H := H.1 c41
      refine j_iload_n (pc := 196) dX7_longest_196 rfl ?_
      refine j_aload_n (pc := 197) dX7_longest_197 rfl ?_
      refine s_geti (pc := 198) 1224 (rg σ 1224) dX7_longest_198 fl_X7_40 shp_19 rfl rfl rfl ?_
      refine j_icmp_ge (pc := 201) (t := 209) dX7_longest_201 (by decide) (fun c201 => ?_) (fun c201 => ?_)
      · replace H := H.1 c201
        refine j_iload_n (pc := 209) dX7_longest_209 rfl ?_
        exact s_ireti (pc := 210) dX7_longest_210 rfl H
      · replace H := H.2 c201
        refine j_bipush (pc := 204) (v := -2) dX7_longest_204 (by decide) ?_
        refine j_goto (pc := 206) (t := 210) dX7_longest_206 (by decide) ?_
        exact s_ireti (pc := 210) dX7_longest_210 rfl H
    · replace H := H.2 c41
      refine j_aload_n (pc := 44) dX7_longest_44 rfl ?_
      refine s_getr (pc := 45) dX7_longest_45 fl_X7_34 shp_19 rfl ?_
      refine j_iload (pc := 48) dX7_longest_48 rfl ?_
      have b50 := H.1
      replace H := H.2
      refine s_iald (pc := 50) (ar σ 29 x4.toNatClampNeg) dX7_longest_50 shp_29 b50 rfl ?_
      refine j_istore (pc := 51) (lv1 := [(5, .int (ar σ 29 x4.toNatClampNeg)), (0, .ref 19), (1, .ref 14), (2, .int x2), (3, .int x3), (4, .int x4)]) dX7_longest_51 (Nat.le_of_ble_eq_true rfl) rfl ?_
      refine j_iload_n (pc := 53) dX7_longest_53 rfl ?_
      refine j_aload_n (pc := 54) dX7_longest_54 rfl ?_
      refine s_getr (pc := 55) dX7_longest_55 fl_X7_31 shp_19 rfl ?_
      refine j_iload (pc := 58) dX7_longest_58 rfl ?_
      have b60 := H.1
      replace H := H.2
      refine s_iald (pc := 60) (ar σ 28 ((ar σ 29 x4.toNatClampNeg).toNatClampNeg)) dX7_longest_60 shp_28 b60 rfl ?_
      refine j_max (pc := 61) dX7_longest_61 wm_X7_80 (by omega) (Nat.le_of_ble_eq_true rfl) ?_
      refine j_topi (fun x3_1 ex3_1 => ?_)
      replace H := H x3_1 ex3_1
      refine j_istore_n (pc := 64) (lv1 := [(3, .int x3_1), (5, .int (ar σ 29 x4.toNatClampNeg)), (0, .ref 19), (1, .ref 14), (2, .int x2), (4, .int x4)]) dX7_longest_64 (Nat.le_of_ble_eq_true rfl) rfl ?_
      refine j_aload_n (pc := 65) dX7_longest_65 rfl ?_
      refine s_getr (pc := 66) dX7_longest_66 fl_X7_14 shp_19 rfl ?_
      refine j_aload_n (pc := 69) dX7_longest_69 rfl ?_
      refine j_aload_n (pc := 70) dX7_longest_70 rfl ?_
      refine s_getr (pc := 71) dX7_longest_71 fl_X7_18 shp_19 rfl ?_
      refine j_iload (pc := 74) dX7_longest_74 rfl ?_
      have b76 := H.1
      replace H := H.2
      refine s_iald (pc := 76) (ar σ 24 ((ar σ 29 x4.toNatClampNeg).toNatClampNeg)) dX7_longest_76 shp_24 b76 rfl ?_
      refine s_callV_v (pc := 77) (M1 := M_X9_list) (n := 2) (as := [.ref 14, .int (ar σ 24 ((ar σ 29 x4.toNatClampNeg).toNatClampNeg))]) (a := 20) (st := []) dX7_longest_77 G_X9_list wm_X7_55 (by decide +kernel) rfl (Nat.le_of_ble_eq_true rfl) shp_20 rfl (by show 1 ≤ d; omega) (Nat.le_of_ble_eq_true rfl) (Nat.zero_le _) (Nat.zero_le _) ?_
      refine CV.mono H (fun σ2 H => ?_)
      refine j_iconst (pc := 80) (v := 0) dX7_longest_80 (by decide) ?_
      refine j_istore (pc := 81) (lv1 := [(6, .int 0), (3, .int x3_1), (5, .int (ar σ 29 x4.toNatClampNeg)), (0, .ref 19), (1, .ref 14), (2, .int x2), (4, .int x4)]) dX7_longest_81 (Nat.le_of_ble_eq_true rfl) rfl ?_
      refine j_sub [3, 4, 5, 1, 6, 2, 0] rfl ?_
      exact H
set_option maxRecDepth 20000 in
theorem b_X7_longest_83 {l : Launch} {g : am_G} {d : Nat} {σ : am_S} {k : Int32 → am_S → Prop}  {x2 x3 x4 x5 x6 : Int32} (hd : 1 ≤ d) (H : ((rg σ 1283 ≤ x6 → JI l g M_X7_longest d 30 [(0, .ref 19), (1, .ref 14), (2, .int x2), (3, .int x3), (4, .int (x4 + 1))] [] σ k) ∧ (¬ rg σ 1283 ≤ x6 → (vp_in x6 60 ∧ CI l g M_X7_placeOf (d - 1) [.ref 19, .int (ar σ 22 x6.toNatClampNeg)] σ (fun r1 σ1 => ((0 ≤ r1 → (vp_in r1 630 ∧ (vp_in x5 630 ∧ (vp_in r1 630 ∧ (vp_in r1 630 ∧ (vp_in r1 630 ∧ (vp_in r1 630 ∧ ((¬ ar (sA (sA σ1 28 r1.toNatClampNeg (if (ar σ1 28 r1.toNatClampNeg) < ((ar σ1 28 x5.toNatClampNeg) + 1) then ((ar σ1 28 x5.toNatClampNeg) + 1) else (ar σ1 28 r1.toNatClampNeg))) 27 r1.toNatClampNeg ((ar σ1 27 r1.toNatClampNeg) - 1)) 27 r1.toNatClampNeg = 0 → JI l g M_X7_longest d 83 [(0, .ref 19), (1, .ref 14), (2, .int x2), (3, .int x3), (4, .int x4), (5, .int x5), (6, .int (x6 + 1))] [] (sA (sA σ1 28 r1.toNatClampNeg (if (ar σ1 28 r1.toNatClampNeg) < ((ar σ1 28 x5.toNatClampNeg) + 1) then ((ar σ1 28 x5.toNatClampNeg) + 1) else (ar σ1 28 r1.toNatClampNeg))) 27 r1.toNatClampNeg ((ar σ1 27 r1.toNatClampNeg) - 1)) k) ∧ (ar (sA (sA σ1 28 r1.toNatClampNeg (if (ar σ1 28 r1.toNatClampNeg) < ((ar σ1 28 x5.toNatClampNeg) + 1) then ((ar σ1 28 x5.toNatClampNeg) + 1) else (ar σ1 28 r1.toNatClampNeg))) 27 r1.toNatClampNeg ((ar σ1 27 r1.toNatClampNeg) - 1)) 27 r1.toNatClampNeg = 0 → ((630 ≤ x2 → JI l g M_X7_longest d 83 [(0, .ref 19), (1, .ref 14), (2, .int x2), (3, .int x3), (4, .int x4), (5, .int x5), (6, .int (x6 + 1))] [] (sA (sA σ1 28 r1.toNatClampNeg (if (ar σ1 28 r1.toNatClampNeg) < ((ar σ1 28 x5.toNatClampNeg) + 1) then ((ar σ1 28 x5.toNatClampNeg) + 1) else (ar σ1 28 r1.toNatClampNeg))) 27 r1.toNatClampNeg ((ar σ1 27 r1.toNatClampNeg) - 1)) k) ∧ (¬ 630 ≤ x2 → (vp_in x2 630 ∧ JI l g M_X7_longest d 83 [(0, .ref 19), (1, .ref 14), (2, .int (x2 + 1)), (3, .int x3), (4, .int x4), (5, .int x5), (6, .int (x6 + 1))] [] (sA (sA (sA σ1 28 r1.toNatClampNeg (if (ar σ1 28 r1.toNatClampNeg) < ((ar σ1 28 x5.toNatClampNeg) + 1) then ((ar σ1 28 x5.toNatClampNeg) + 1) else (ar σ1 28 r1.toNatClampNeg))) 27 r1.toNatClampNeg ((ar σ1 27 r1.toNatClampNeg) - 1)) 29 x2.toNatClampNeg r1) k)))))))))))) ∧ (¬ 0 ≤ r1 → JI l g M_X7_longest d 83 [(0, .ref 19), (1, .ref 14), (2, .int x2), (3, .int x3), (4, .int x4), (5, .int x5), (6, .int (x6 + 1))] [] σ1 k))))))) : JI l g M_X7_longest d 83 [(0, .ref 19), (1, .ref 14), (2, .int x2), (3, .int x3), (4, .int x4), (5, .int x5), (6, .int x6)] [] σ k := by
  show J l g (M_X7_longest, d, 0, 0) 83 [(0, .ref 19), (1, .ref 14), (2, .int x2), (3, .int x3), (4, .int x4), (5, .int x5), (6, .int x6)] [] (hp σ) 0 0 (kI k)
  refine j_iload (pc := 83) dX7_longest_83 rfl ?_
  refine j_aload_n (pc := 85) dX7_longest_85 rfl ?_
  refine s_getr (pc := 86) dX7_longest_86 fl_X7_14 shp_19 rfl ?_
  refine s_geti (pc := 89) 1283 (rg σ 1283) dX7_longest_89 fl_X7_59 shp_20 rfl rfl rfl ?_
  refine j_icmp_ge (pc := 92) (t := 190) dX7_longest_92 (by decide) (fun c92 => ?_) (fun c92 => ?_)
  · replace H := H.1 c92
    refine j_iinc (pc := 190) (k := 4) (v := x4 + 1) (lv1 := [(4, .int (x4 + 1)), (0, .ref 19), (1, .ref 14), (2, .int x2), (3, .int x3), (5, .int x5), (6, .int x6)]) dX7_longest_190 rfl rfl (Nat.le_of_ble_eq_true rfl) rfl ?_
    refine j_goto (pc := 193) (t := 30) dX7_longest_193 (by decide) ?_
    refine j_sub [1, 2, 3, 4, 0] rfl ?_
    exact H
  · replace H := H.2 c92
    refine j_aload_n (pc := 95) dX7_longest_95 rfl ?_
    refine j_aload_n (pc := 96) dX7_longest_96 rfl ?_
    refine s_getr (pc := 97) dX7_longest_97 fl_X7_14 shp_19 rfl ?_
    refine s_getr (pc := 100) dX7_longest_100 fl_X7_62 shp_20 rfl ?_
    refine j_iload (pc := 103) dX7_longest_103 rfl ?_
    have b105 := H.1
    replace H := H.2
    refine s_iald (pc := 105) (ar σ 22 x6.toNatClampNeg) dX7_longest_105 shp_22 b105 rfl ?_
    refine s_callV_i (pc := 106) (M1 := M_X7_placeOf) (n := 1) (as := [.int (ar σ 22 x6.toNatClampNeg)]) (a := 19) (st := []) dX7_longest_106 G_X7_placeOf wm_X7_65 (by decide +kernel) rfl (Nat.le_of_ble_eq_true rfl) shp_19 rfl (by show 1 ≤ d; omega) (Nat.le_of_ble_eq_true rfl) (Nat.zero_le _) (Nat.zero_le _) ?_
    refine CI.mono H (fun r1 σ1 H => ?_)
    refine j_istore (pc := 109) (lv1 := [(7, .int r1), (0, .ref 19), (1, .ref 14), (2, .int x2), (3, .int x3), (4, .int x4), (5, .int x5), (6, .int x6)]) dX7_longest_109 (Nat.le_of_ble_eq_true rfl) rfl ?_
    refine j_iload (pc := 111) dX7_longest_111 rfl ?_
    refine j_if_ge (pc := 113) (t := 119) dX7_longest_113 (by decide) (fun c113 => ?_) (fun c113 => ?_)
    · replace H := H.1 c113
      refine j_aload_n (pc := 119) dX7_longest_119 rfl ?_
      refine s_getr (pc := 120) dX7_longest_120 fl_X7_31 shp_19 rfl ?_
      refine j_iload (pc := 123) dX7_longest_123 rfl ?_
      refine j_aload_n (pc := 125) dX7_longest_125 rfl ?_
      refine s_getr (pc := 126) dX7_longest_126 fl_X7_31 shp_19 rfl ?_
      refine j_iload (pc := 129) dX7_longest_129 rfl ?_
      have b131 := H.1
      replace H := H.2
      refine s_iald (pc := 131) (ar σ1 28 r1.toNatClampNeg) dX7_longest_131 shp_28 b131 rfl ?_
      refine j_aload_n (pc := 132) dX7_longest_132 rfl ?_
      refine s_getr (pc := 133) dX7_longest_133 fl_X7_31 shp_19 rfl ?_
      refine j_iload (pc := 136) dX7_longest_136 rfl ?_
      have b138 := H.1
      replace H := H.2
      refine s_iald (pc := 138) (ar σ1 28 x5.toNatClampNeg) dX7_longest_138 shp_28 b138 rfl ?_
      refine j_iconst (pc := 139) (v := 1) dX7_longest_139 (by decide) ?_
      refine j_iadd (pc := 140) dX7_longest_140 ?_
      refine j_max (pc := 141) dX7_longest_141 wm_X7_80 (by omega) (Nat.le_of_ble_eq_true rfl) ?_
      have b144 := H.1
      replace H := H.2
      refine s_iast (pc := 144) dX7_longest_144 shp_28 b144 ?_
      refine j_aload_n (pc := 145) dX7_longest_145 rfl ?_
      refine s_getr (pc := 146) dX7_longest_146 fl_X7_28 shp_19 rfl ?_
      refine j_iload (pc := 149) dX7_longest_149 rfl ?_
      refine j_dup2 (pc := 151) dX7_longest_151 rfl rfl ?_
      have b152 := H.1
      replace H := H.2
      refine s_iald (pc := 152) (ar σ1 27 r1.toNatClampNeg) dX7_longest_152 shp_27 b152 rfl ?_
      refine j_iconst (pc := 153) (v := 1) dX7_longest_153 (by decide) ?_
      refine j_isub (pc := 154) dX7_longest_154 ?_
      have b155 := H.1
      replace H := H.2
      refine s_iast (pc := 155) dX7_longest_155 shp_27 b155 ?_
      refine j_aload_n (pc := 156) dX7_longest_156 rfl ?_
      refine s_getr (pc := 157) dX7_longest_157 fl_X7_28 shp_19 rfl ?_
      refine j_iload (pc := 160) dX7_longest_160 rfl ?_
      have b162 := H.1
      replace H := H.2
      refine s_iald (pc := 162) (ar (sA (sA σ1 28 r1.toNatClampNeg (if (ar σ1 28 r1.toNatClampNeg) < ((ar σ1 28 x5.toNatClampNeg) + 1) then ((ar σ1 28 x5.toNatClampNeg) + 1) else (ar σ1 28 r1.toNatClampNeg))) 27 r1.toNatClampNeg ((ar σ1 27 r1.toNatClampNeg) - 1)) 27 r1.toNatClampNeg) dX7_longest_162 shp_27 b162 rfl ?_
      refine j_if_ne (pc := 163) (t := 184) dX7_longest_163 (by decide) (fun c163 => ?_) (fun c163 => ?_)
      · replace H := H.1 c163
        refine j_iinc (pc := 184) (k := 7) (v := x6 + 1) (lv1 := [(6, .int (x6 + 1)), (7, .int r1), (0, .ref 19), (1, .ref 14), (2, .int x2), (3, .int x3), (4, .int x4), (5, .int x5)]) dX7_longest_184 rfl rfl (Nat.le_of_ble_eq_true rfl) rfl ?_
        refine j_goto (pc := 187) (t := 83) dX7_longest_187 (by decide) ?_
        refine j_sub [2, 3, 4, 5, 6, 7, 0] rfl ?_
        exact H
      · replace H := H.2 c163
        refine j_iload_n (pc := 166) dX7_longest_166 rfl ?_
        refine j_sipush (pc := 167) (v := 630) dX7_longest_167 (by decide) ?_
        refine j_icmp_ge (pc := 170) (t := 184) dX7_longest_170 (by decide) (fun c170 => ?_) (fun c170 => ?_)
        · replace H := H.1 c170
          refine j_iinc (pc := 184) (k := 7) (v := x6 + 1) (lv1 := [(6, .int (x6 + 1)), (7, .int r1), (0, .ref 19), (1, .ref 14), (2, .int x2), (3, .int x3), (4, .int x4), (5, .int x5)]) dX7_longest_184 rfl rfl (Nat.le_of_ble_eq_true rfl) rfl ?_
          refine j_goto (pc := 187) (t := 83) dX7_longest_187 (by decide) ?_
          refine j_sub [2, 3, 4, 5, 6, 7, 0] rfl ?_
          exact H
        · replace H := H.2 c170
          refine j_aload_n (pc := 173) dX7_longest_173 rfl ?_
          refine s_getr (pc := 174) dX7_longest_174 fl_X7_34 shp_19 rfl ?_
          refine j_iload_n (pc := 177) dX7_longest_177 rfl ?_
          refine j_iload (pc := 178) dX7_longest_178 rfl ?_
          have b180 := H.1
          replace H := H.2
          refine s_iast (pc := 180) dX7_longest_180 shp_29 b180 ?_
          refine j_iinc (pc := 181) (k := 3) (v := x2 + 1) (lv1 := [(2, .int (x2 + 1)), (7, .int r1), (0, .ref 19), (1, .ref 14), (3, .int x3), (4, .int x4), (5, .int x5), (6, .int x6)]) dX7_longest_181 rfl rfl (Nat.le_of_ble_eq_true rfl) rfl ?_
          refine j_iinc (pc := 184) (k := 7) (v := x6 + 1) (lv1 := [(6, .int (x6 + 1)), (2, .int (x2 + 1)), (7, .int r1), (0, .ref 19), (1, .ref 14), (3, .int x3), (4, .int x4), (5, .int x5)]) dX7_longest_184 rfl rfl (Nat.le_of_ble_eq_true rfl) rfl ?_
          refine j_goto (pc := 187) (t := 83) dX7_longest_187 (by decide) ?_
          refine j_sub [3, 4, 1, 5, 6, 7, 0] rfl ?_
          exact H
    · replace H := H.2 c113
      refine j_goto (pc := 116) (t := 184) dX7_longest_116 (by decide) ?_
      refine j_iinc (pc := 184) (k := 7) (v := x6 + 1) (lv1 := [(6, .int (x6 + 1)), (7, .int r1), (0, .ref 19), (1, .ref 14), (2, .int x2), (3, .int x3), (4, .int x4), (5, .int x5)]) dX7_longest_184 rfl rfl (Nat.le_of_ble_eq_true rfl) rfl ?_
      refine j_goto (pc := 187) (t := 83) dX7_longest_187 (by decide) ?_
      refine j_sub [2, 3, 4, 5, 6, 7, 0] rfl ?_
      exact H
