/-! what each stretch of the program does (laid by program) -/
set_option maxRecDepth 20000 in
theorem C_X8_isEmpty {l : Launch} {g : am_G} {d : Nat} {σ : am_S} {k : Int32 → am_S → Prop} {k0 : Nat}  (hk0 : k0 < 6) (hd : 0 ≤ d) (H : ((rg σ (64 * (43 + 2 * k0) + 0) = (-1) ∧ rg σ (64 * (43 + 2 * k0) + 1) = (-1)) → k 1 σ) ∧ (¬ (rg σ (64 * (43 + 2 * k0) + 0) = (-1) ∧ rg σ (64 * (43 + 2 * k0) + 1) = (-1)) → k 0 σ)) : CI l g M_X8_isEmpty d [.ref (43 + 2 * k0)] σ k := by
  show J l g (M_X8_isEmpty, d, 0, 0) 0 [(0, .ref (43 + 2 * k0))] [] (hp σ) 0 0 (kI k)
  refine j_aload_n (pc := 0) dX8_isEmpty_0 rfl ?_
  refine s_geti (pc := 1) (64 * (43 + 2 * k0) + 0) (rg σ (64 * (43 + 2 * k0) + 0)) dX8_isEmpty_1 fl_X8_9 (shp_s hk0) rfl rfl rfl ?_
  refine j_iconst (pc := 4) (v := -1) dX8_isEmpty_4 (by decide) ?_
  refine j_icmp_ne (pc := 5) (t := 20) dX8_isEmpty_5 (by decide) (fun c5 => ?_) (fun c5 => ?_)
  · skip
    refine j_iconst (pc := 20) (v := 0) dX8_isEmpty_20 (by decide) ?_
    exact s_iretz (pc := 21) dX8_isEmpty_21 rfl rfl (H.2 (fun q => c5 (q.1)))
  · skip
    refine j_aload_n (pc := 8) dX8_isEmpty_8 rfl ?_
    refine s_geti (pc := 9) (64 * (43 + 2 * k0) + 1) (rg σ (64 * (43 + 2 * k0) + 1)) dX8_isEmpty_9 fl_X8_15 (shp_s hk0) rfl rfl rfl ?_
    refine j_iconst (pc := 12) (v := -1) dX8_isEmpty_12 (by decide) ?_
    refine j_icmp_ne (pc := 13) (t := 20) dX8_isEmpty_13 (by decide) (fun c13 => ?_) (fun c13 => ?_)
    · skip
      refine j_iconst (pc := 20) (v := 0) dX8_isEmpty_20 (by decide) ?_
      exact s_iretz (pc := 21) dX8_isEmpty_21 rfl rfl (H.2 (fun q => c13 (q.2)))
    · skip
      refine j_iconst (pc := 16) (v := 1) dX8_isEmpty_16 (by decide) ?_
      refine j_goto (pc := 17) (t := 21) dX8_isEmpty_17 (by decide) ?_
      exact s_iretz (pc := 21) dX8_isEmpty_21 rfl rfl (H.1 ⟨c5, c13⟩)
set_option maxRecDepth 20000 in
theorem b_X8_rowRefusal_0 {l : Launch} {g : am_G} {d : Nat} {σ : am_S} {k : Int32 → am_S → Prop} {k0 : Nat}  (hk0 : k0 < 6) (hd : 1 ≤ d) (H : (((rg σ (64 * (43 + 2 * k0) + 0) = (-1) ∧ rg σ (64 * (43 + 2 * k0) + 1) = (-1)) → k (-11) σ) ∧ (¬ (rg σ (64 * (43 + 2 * k0) + 0) = (-1) ∧ rg σ (64 * (43 + 2 * k0) + 1) = (-1)) → ((¬ rg σ (64 * (43 + 2 * k0) + 1) = (-1) → k 0 σ) ∧ (rg σ (64 * (43 + 2 * k0) + 1) = (-1) → k (-12) σ))))) : CI l g M_X8_rowRefusal d [.ref (43 + 2 * k0)] σ k := by
  show J l g (M_X8_rowRefusal, d, 0, 0) 0 [(0, .ref (43 + 2 * k0))] [] (hp σ) 0 0 (kI k)
  refine j_aload_n (pc := 0) dX8_rowRefusal_0 rfl ?_
  refine s_callV_i (pc := 1) (M1 := M_X8_isEmpty) (n := 0) (as := []) (a := 43 + 2 * k0) (st := []) dX8_rowRefusal_1 G_X8_isEmpty wm_X8_25 (by decide +kernel) rfl (Nat.le_of_ble_eq_true rfl) (shp_s hk0) rfl (by show 1 ≤ d; omega) (Nat.le_of_ble_eq_true rfl) (Nat.zero_le _) (Nat.zero_le _) ?_
  refine C_X8_isEmpty hk0 (d := d - 1) (by omega) ⟨fun c1 => ?_, fun c1 => ?_⟩
  · replace H := H.1 c1
    refine j_if_eq (pc := 4) (t := 10) dX8_rowRefusal_4 (by decide) (fun q => absurd q (by decide)) (fun _ => ?_)
    refine j_bipush (pc := 7) (v := -11) dX8_rowRefusal_7 (by decide) ?_
    exact s_ireti (pc := 9) dX8_rowRefusal_9 rfl H
  · replace H := H.2 c1
    refine j_if_eq (pc := 4) (t := 10) dX8_rowRefusal_4 (by decide) (fun _ => ?_) (fun q => absurd q (by decide))
    refine j_aload_n (pc := 10) dX8_rowRefusal_10 rfl ?_
    refine s_geti (pc := 11) (64 * (43 + 2 * k0) + 1) (rg σ (64 * (43 + 2 * k0) + 1)) dX8_rowRefusal_11 fl_X8_15 (shp_s hk0) rfl rfl rfl ?_
    refine j_iconst (pc := 14) (v := -1) dX8_rowRefusal_14 (by decide) ?_
    refine j_icmp_ne (pc := 15) (t := 23) dX8_rowRefusal_15 (by decide) (fun c15 => ?_) (fun c15 => ?_)
    · replace H := H.1 c15
      refine j_iconst (pc := 23) (v := 0) dX8_rowRefusal_23 (by decide) ?_
      exact s_ireti (pc := 24) dX8_rowRefusal_24 rfl H
    · replace H := H.2 c15
      refine j_bipush (pc := 18) (v := -12) dX8_rowRefusal_18 (by decide) ?_
      refine j_goto (pc := 20) (t := 24) dX8_rowRefusal_20 (by decide) ?_
      exact s_ireti (pc := 24) dX8_rowRefusal_24 rfl H
set_option maxRecDepth 20000 in
theorem b_X8_bytesRefusal_0 {l : Launch} {g : am_G} {d : Nat} {σ : am_S} {k : Int32 → am_S → Prop} {k0 : Nat}  (hk0 : k0 < 6) (hd : 1 ≤ d) (H : CI l g M_X8_rowRefusal (d - 1) [.ref (43 + 2 * k0)] σ (fun r1 σ1 => ((¬ r1 = 0 → k r1 σ1) ∧ (r1 = 0 → ((rg σ1 (64 * (43 + 2 * k0) + 1) = 0 → k r1 σ1) ∧ (¬ rg σ1 (64 * (43 + 2 * k0) + 1) = 0 → k (-12) σ1)))))) : CI l g M_X8_bytesRefusal d [.ref (43 + 2 * k0)] σ k := by
  show J l g (M_X8_bytesRefusal, d, 0, 0) 0 [(0, .ref (43 + 2 * k0))] [] (hp σ) 0 0 (kI k)
  refine j_aload_n (pc := 0) dX8_bytesRefusal_0 rfl ?_
  refine s_callV_i (pc := 1) (M1 := M_X8_rowRefusal) (n := 0) (as := []) (a := 43 + 2 * k0) (st := []) dX8_bytesRefusal_1 G_X8_rowRefusal wm_X8_29 (by decide +kernel) rfl (Nat.le_of_ble_eq_true rfl) (shp_s hk0) rfl (by show 1 ≤ d; omega) (Nat.le_of_ble_eq_true rfl) (Nat.zero_le _) (Nat.zero_le _) ?_
  refine CI.mono H (fun r1 σ1 H => ?_)
  refine j_istore_n (pc := 4) (lv1 := [(1, .int r1), (0, .ref (43 + 2 * k0))]) dX8_bytesRefusal_4 (Nat.le_of_ble_eq_true rfl) rfl ?_
  refine j_iload_n (pc := 5) dX8_bytesRefusal_5 rfl ?_
  refine j_if_ne (pc := 6) (t := 21) dX8_bytesRefusal_6 (by decide) (fun c6 => ?_) (fun c6 => ?_)
  · replace H := H.1 c6
    refine j_iload_n (pc := 21) dX8_bytesRefusal_21 rfl ?_
    exact s_ireti (pc := 22) dX8_bytesRefusal_22 rfl H
  · replace H := H.2 c6
    refine j_aload_n (pc := 9) dX8_bytesRefusal_9 rfl ?_
    refine s_geti (pc := 10) (64 * (43 + 2 * k0) + 1) (rg σ1 (64 * (43 + 2 * k0) + 1)) dX8_bytesRefusal_10 fl_X8_15 (shp_s hk0) rfl rfl rfl ?_
    refine j_if_eq (pc := 13) (t := 21) dX8_bytesRefusal_13 (by decide) (fun c13 => ?_) (fun c13 => ?_)
    · replace H := H.1 c13
      refine j_iload_n (pc := 21) dX8_bytesRefusal_21 rfl ?_
      exact s_ireti (pc := 22) dX8_bytesRefusal_22 rfl H
    · replace H := H.2 c13
      refine j_bipush (pc := 16) (v := -12) dX8_bytesRefusal_16 (by decide) ?_
      refine j_goto (pc := 18) (t := 22) dX8_bytesRefusal_18 (by decide) ?_
      exact s_ireti (pc := 22) dX8_bytesRefusal_22 rfl H
set_option maxRecDepth 20000 in
theorem b_X8_holdBody_0 {l : Launch} {g : am_G} {d : Nat} {σ : am_S} {k : am_S → Prop} {k0 : Nat} {x1 : Int32} (hk0 : k0 < 6) (H : k (sR (sR (sR σ (64 * (43 + 2 * k0) + 0) x1) (64 * (43 + 2 * k0) + 1) (-1)) (64 * (43 + 2 * k0) + 2) 0)) : CV l g M_X8_holdBody d [.ref (43 + 2 * k0), .int x1] σ k := by
  show J l g (M_X8_holdBody, d, 0, 0) 0 [(0, .ref (43 + 2 * k0)), (1, .int x1)] [] (hp σ) 0 0 (kV k)
  refine j_aload_n (pc := 0) dX8_holdBody_0 rfl ?_
  refine j_iload_n (pc := 1) dX8_holdBody_1 rfl ?_
  refine s_put (pc := 2) (64 * (43 + 2 * k0) + 0) dX8_holdBody_2 fl_X8_9 (shp_s hk0) rfl rfl fp_8_0 rfl rfl ?_
  refine j_aload_n (pc := 5) dX8_holdBody_5 rfl ?_
  refine j_iconst (pc := 6) (v := -1) dX8_holdBody_6 (by decide) ?_
  refine s_put (pc := 7) (64 * (43 + 2 * k0) + 1) dX8_holdBody_7 fl_X8_15 (shp_s hk0) rfl rfl fp_8_1 rfl rfl ?_
  refine j_aload_n (pc := 10) dX8_holdBody_10 rfl ?_
  refine j_iconst (pc := 11) (v := 0) dX8_holdBody_11 (by decide) ?_
  refine s_put (pc := 12) (64 * (43 + 2 * k0) + 2) dX8_holdBody_12 fl_X8_18 (shp_s hk0) rfl rfl fp_8_2 rfl rfl ?_
  exact s_vret (pc := 15) dX8_holdBody_15 rfl H
set_option maxRecDepth 20000 in
theorem b_X8_holdRow_0 {l : Launch} {g : am_G} {d : Nat} {σ : am_S} {k : am_S → Prop} {k0 : Nat} {x1 x2 : Int32} (hk0 : k0 < 6) (hd : 1 ≤ d) (H : JV l g M_X8_holdRow d 22 [(0, .ref (43 + 2 * k0)), (1, .int x1), (2, .int x2), (3, .int 0)] [] (sR (sR (sR σ (64 * (43 + 2 * k0) + 0) (-1)) (64 * (43 + 2 * k0) + 1) x1) (64 * (43 + 2 * k0) + 2) (if 60 < x2 then 60 else x2)) k) : CV l g M_X8_holdRow d [.ref (43 + 2 * k0), .int x1, .int x2] σ k := by
  show J l g (M_X8_holdRow, d, 0, 0) 0 [(0, .ref (43 + 2 * k0)), (1, .int x1), (2, .int x2)] [] (hp σ) 0 0 (kV k)
  refine j_aload_n (pc := 0) dX8_holdRow_0 rfl ?_
  refine j_iconst (pc := 1) (v := -1) dX8_holdRow_1 (by decide) ?_
  refine s_put (pc := 2) (64 * (43 + 2 * k0) + 0) dX8_holdRow_2 fl_X8_9 (shp_s hk0) rfl rfl fp_8_0 rfl rfl ?_
  refine j_aload_n (pc := 5) dX8_holdRow_5 rfl ?_
  refine j_iload_n (pc := 6) dX8_holdRow_6 rfl ?_
  refine s_put (pc := 7) (64 * (43 + 2 * k0) + 1) dX8_holdRow_7 fl_X8_15 (shp_s hk0) rfl rfl fp_8_1 rfl rfl ?_
  refine j_aload_n (pc := 10) dX8_holdRow_10 rfl ?_
  refine j_iload_n (pc := 11) dX8_holdRow_11 rfl ?_
  refine j_bipush (pc := 12) (v := 60) dX8_holdRow_12 (by decide) ?_
  refine j_min (pc := 14) dX8_holdRow_14 wm_X8_33 (by omega) (Nat.le_of_ble_eq_true rfl) ?_
  refine s_put (pc := 17) (64 * (43 + 2 * k0) + 2) dX8_holdRow_17 fl_X8_18 (shp_s hk0) rfl rfl fp_8_2 rfl rfl ?_
  refine j_iconst (pc := 20) (v := 0) dX8_holdRow_20 (by decide) ?_
  refine j_istore_n (pc := 21) (lv1 := [(3, .int 0), (0, .ref (43 + 2 * k0)), (1, .int x1), (2, .int x2)]) dX8_holdRow_21 (Nat.le_of_ble_eq_true rfl) rfl ?_
  refine j_sub [1, 2, 3, 0] rfl ?_
  exact H
set_option maxRecDepth 20000 in
theorem b_X8_holdRow_22 {l : Launch} {g : am_G} {d : Nat} {σ : am_S} {k : am_S → Prop} {k0 : Nat} {x1 x2 x3 : Int32} (hk0 : k0 < 6) (H : ((rg σ (64 * (43 + 2 * k0) + 2) ≤ x3 → k σ) ∧ (¬ rg σ (64 * (43 + 2 * k0) + 2) ≤ x3 → (vp_in x3 60 ∧ JV l g M_X8_holdRow d 22 [(0, .ref (43 + 2 * k0)), (1, .int x1), (2, .int x2), (3, .int (x3 + 1))] [] (sL σ (44 + 2 * k0) x3.toNatClampNeg 0) k)))) : JV l g M_X8_holdRow d 22 [(0, .ref (43 + 2 * k0)), (1, .int x1), (2, .int x2), (3, .int x3)] [] σ k := by
  show J l g (M_X8_holdRow, d, 0, 0) 22 [(0, .ref (43 + 2 * k0)), (1, .int x1), (2, .int x2), (3, .int x3)] [] (hp σ) 0 0 (kV k)
  refine j_iload_n (pc := 22) dX8_holdRow_22 rfl ?_
  refine j_aload_n (pc := 23) dX8_holdRow_23 rfl ?_
  refine s_geti (pc := 24) (64 * (43 + 2 * k0) + 2) (rg σ (64 * (43 + 2 * k0) + 2)) dX8_holdRow_24 fl_X8_18 (shp_s hk0) rfl rfl rfl ?_
  refine j_icmp_ge (pc := 27) (t := 43) dX8_holdRow_27 (by decide) (fun c27 => ?_) (fun c27 => ?_)
  · replace H := H.1 c27
    exact s_vret (pc := 43) dX8_holdRow_43 rfl H
  · replace H := H.2 c27
    refine j_aload_n (pc := 30) dX8_holdRow_30 rfl ?_
    refine s_getr (pc := 31) dX8_holdRow_31 fl_X8_21 (shp_s hk0) rfl ?_
    refine j_iload_n (pc := 34) dX8_holdRow_34 rfl ?_
    refine j_lconst (pc := 35) (v := 0) dX8_holdRow_35 (by decide) ?_
    have b36 := H.1
    replace H := H.2
    refine s_last (pc := 36) dX8_holdRow_36 (shp_e hk0) b36 ?_
    refine j_iinc (pc := 37) (k := 3) (v := x3 + 1) (lv1 := [(3, .int (x3 + 1)), (0, .ref (43 + 2 * k0)), (1, .int x1), (2, .int x2)]) dX8_holdRow_37 rfl rfl (Nat.le_of_ble_eq_true rfl) rfl ?_
    refine j_goto (pc := 40) (t := 22) dX8_holdRow_40 (by decide) ?_
    refine j_sub [1, 2, 3, 0] rfl ?_
    exact H
set_option maxRecDepth 20000 in
theorem C_X8_hasPart {l : Launch} {g : am_G} {d : Nat} {σ : am_S} {k : Int32 → am_S → Prop} {k0 : Nat} {x1 x2 : Int32} (hk0 : k0 < 6) (hd : 0 ≤ d) (H : ((¬ x1 < 0 ∧ ¬ x2 < 0 ∧ ¬ rg σ (64 * (43 + 2 * k0) + 2) < x1 ∧ ¬ (rg σ (64 * (43 + 2 * k0) + 2)) - x1 < x2) → k 1 σ) ∧ (¬ (¬ x1 < 0 ∧ ¬ x2 < 0 ∧ ¬ rg σ (64 * (43 + 2 * k0) + 2) < x1 ∧ ¬ (rg σ (64 * (43 + 2 * k0) + 2)) - x1 < x2) → k 0 σ)) : CI l g M_X8_hasPart d [.ref (43 + 2 * k0), .int x1, .int x2] σ k := by
  show J l g (M_X8_hasPart, d, 0, 0) 0 [(0, .ref (43 + 2 * k0)), (1, .int x1), (2, .int x2)] [] (hp σ) 0 0 (kI k)
  refine j_iload_n (pc := 0) dX8_hasPart_0 rfl ?_
  refine j_if_lt (pc := 1) (t := 30) dX8_hasPart_1 (by decide) (fun c1 => ?_) (fun c1 => ?_)
  · skip
    refine j_iconst (pc := 30) (v := 0) dX8_hasPart_30 (by decide) ?_
    exact s_iretz (pc := 31) dX8_hasPart_31 rfl rfl (H.2 (fun q => (q.1) c1))
  · skip
    refine j_iload_n (pc := 4) dX8_hasPart_4 rfl ?_
    refine j_if_lt (pc := 5) (t := 30) dX8_hasPart_5 (by decide) (fun c5 => ?_) (fun c5 => ?_)
    · skip
      refine j_iconst (pc := 30) (v := 0) dX8_hasPart_30 (by decide) ?_
      exact s_iretz (pc := 31) dX8_hasPart_31 rfl rfl (H.2 (fun q => (q.2.1) c5))
    · skip
      refine j_iload_n (pc := 8) dX8_hasPart_8 rfl ?_
      refine j_aload_n (pc := 9) dX8_hasPart_9 rfl ?_
      refine s_geti (pc := 10) (64 * (43 + 2 * k0) + 2) (rg σ (64 * (43 + 2 * k0) + 2)) dX8_hasPart_10 fl_X8_18 (shp_s hk0) rfl rfl rfl ?_
      refine j_icmp_gt (pc := 13) (t := 30) dX8_hasPart_13 (by decide) (fun c13 => ?_) (fun c13 => ?_)
      · skip
        refine j_iconst (pc := 30) (v := 0) dX8_hasPart_30 (by decide) ?_
        exact s_iretz (pc := 31) dX8_hasPart_31 rfl rfl (H.2 (fun q => (q.2.2.1) c13))
      · skip
        refine j_iload_n (pc := 16) dX8_hasPart_16 rfl ?_
        refine j_aload_n (pc := 17) dX8_hasPart_17 rfl ?_
        refine s_geti (pc := 18) (64 * (43 + 2 * k0) + 2) (rg σ (64 * (43 + 2 * k0) + 2)) dX8_hasPart_18 fl_X8_18 (shp_s hk0) rfl rfl rfl ?_
        refine j_iload_n (pc := 21) dX8_hasPart_21 rfl ?_
        refine j_isub (pc := 22) dX8_hasPart_22 ?_
        refine j_icmp_gt (pc := 23) (t := 30) dX8_hasPart_23 (by decide) (fun c23 => ?_) (fun c23 => ?_)
        · skip
          refine j_iconst (pc := 30) (v := 0) dX8_hasPart_30 (by decide) ?_
          exact s_iretz (pc := 31) dX8_hasPart_31 rfl rfl (H.2 (fun q => (q.2.2.2) c23))
        · skip
          refine j_iconst (pc := 26) (v := 1) dX8_hasPart_26 (by decide) ?_
          refine j_goto (pc := 27) (t := 31) dX8_hasPart_27 (by decide) ?_
          exact s_iretz (pc := 31) dX8_hasPart_31 rfl rfl (H.1 ⟨c1, c5, c13, c23⟩)
set_option maxRecDepth 20000 in
theorem b_X8_at_0 {l : Launch} {g : am_G} {d : Nat} {σ : am_S} {k : Int64 → am_S → Prop} {k0 : Nat} {x1 : Int32} (hk0 : k0 < 6) (H : ((x1 < 0 → k 0 σ) ∧ (¬ x1 < 0 → ((rg σ (64 * (43 + 2 * k0) + 2) ≤ x1 → k 0 σ) ∧ (¬ rg σ (64 * (43 + 2 * k0) + 2) ≤ x1 → (vp_in x1 60 ∧ k (lr σ (44 + 2 * k0) x1.toNatClampNeg) σ)))))) : CL l g M_X8_at d [.ref (43 + 2 * k0), .int x1] σ k := by
  show J l g (M_X8_at, d, 0, 0) 0 [(0, .ref (43 + 2 * k0)), (1, .int x1)] [] (hp σ) 0 0 (kL k)
  refine j_iload_n (pc := 0) dX8_at_0 rfl ?_
  refine j_if_lt (pc := 1) (t := 21) dX8_at_1 (by decide) (fun c1 => ?_) (fun c1 => ?_)
  · replace H := H.1 c1
    refine j_lconst (pc := 21) (v := 0) dX8_at_21 (by decide) ?_
    exact s_lret (pc := 22) dX8_at_22 rfl H
  · replace H := H.2 c1
    refine j_iload_n (pc := 4) dX8_at_4 rfl ?_
    refine j_aload_n (pc := 5) dX8_at_5 rfl ?_
    refine s_geti (pc := 6) (64 * (43 + 2 * k0) + 2) (rg σ (64 * (43 + 2 * k0) + 2)) dX8_at_6 fl_X8_18 (shp_s hk0) rfl rfl rfl ?_
    refine j_icmp_ge (pc := 9) (t := 21) dX8_at_9 (by decide) (fun c9 => ?_) (fun c9 => ?_)
    · replace H := H.1 c9
      refine j_lconst (pc := 21) (v := 0) dX8_at_21 (by decide) ?_
      exact s_lret (pc := 22) dX8_at_22 rfl H
    · replace H := H.2 c9
      refine j_aload_n (pc := 12) dX8_at_12 rfl ?_
      refine s_getr (pc := 13) dX8_at_13 fl_X8_21 (shp_s hk0) rfl ?_
      refine j_iload_n (pc := 16) dX8_at_16 rfl ?_
      have b17 := H.1
      replace H := H.2
      refine s_lald (pc := 17) (lr σ (44 + 2 * k0) x1.toNatClampNeg) dX8_at_17 (shp_e hk0) b17 rfl ?_
      refine j_goto (pc := 18) (t := 22) dX8_at_18 (by decide) ?_
      exact s_lret (pc := 22) dX8_at_22 rfl H
set_option maxRecDepth 20000 in
theorem b_X8_narrowed_0 {l : Launch} {g : am_G} {d : Nat} {σ : am_S} {k : Int64 → am_S → Prop} {k0 : Nat} {x1 : Int64} (hk0 : k0 < 6) (H : ((((rg σ (64 * (43 + 2 * k0) + 1)).toInt < 0 ∨ 3 < (rg σ (64 * (43 + 2 * k0) + 1)).toInt) → ((lg_cmp x1 0 = 0 → k 0 σ) ∧ (¬ lg_cmp x1 0 = 0 → k 1 σ))) ∧ (rg σ (64 * (43 + 2 * k0) + 1) = 0 → k x1.toInt32.toInt8.toInt32.toInt64 σ) ∧ (rg σ (64 * (43 + 2 * k0) + 1) = 1 → k x1.toInt32.toInt16.toInt32.toInt64 σ) ∧ (rg σ (64 * (43 + 2 * k0) + 1) = 2 → k x1.toInt32.toInt64 σ) ∧ (rg σ (64 * (43 + 2 * k0) + 1) = 3 → k x1 σ))) : CL l g M_X8_narrowed d [.ref (43 + 2 * k0), .long x1] σ k := by
  show J l g (M_X8_narrowed, d, 0, 0) 0 [(0, .ref (43 + 2 * k0)), (1, .long x1)] [] (hp σ) 0 0 (kL k)
  refine j_aload_n (pc := 0) dX8_narrowed_0 rfl ?_
  refine s_geti (pc := 1) (64 * (43 + 2 * k0) + 1) (rg σ (64 * (43 + 2 * k0) + 1)) dX8_narrowed_1 fl_X8_15 (shp_s hk0) rfl rfl rfl ?_
  rcases sw_cases (rg σ (64 * (43 + 2 * k0) + 1)) 0 3 with c4 | c4
  · replace H := H.1 c4
    refine j_tableOut (pc := 4) (t := 52) dX8_narrowed_4 c4 (by decide) ?_
    refine j_lload_n (pc := 52) dX8_narrowed_52 rfl ?_
    refine j_lconst (pc := 53) (v := 0) dX8_narrowed_53 (by decide) ?_
    refine j_lcmp (pc := 54) dX8_narrowed_54 ?_
    refine j_if_eq (pc := 55) (t := 62) dX8_narrowed_55 (by decide) (fun c55 => ?_) (fun c55 => ?_)
    · replace H := H.1 c55
      refine j_lconst (pc := 62) (v := 0) dX8_narrowed_62 (by decide) ?_
      exact s_lret (pc := 63) dX8_narrowed_63 rfl H
    · replace H := H.2 c55
      refine j_lconst (pc := 58) (v := 1) dX8_narrowed_58 (by decide) ?_
      refine j_goto (pc := 59) (t := 63) dX8_narrowed_59 (by decide) ?_
      exact s_lret (pc := 63) dX8_narrowed_63 rfl H
  · replace H := H.2
    by_cases c4_0 : rg σ (64 * (43 + 2 * k0) + 1) = 0
    · replace H := H.1 c4_0
      refine j_tableIn (pc := 4) (t := 36) (off := 32) dX8_narrowed_4 (by rw [c4_0]; decide) (by rw [c4_0]; decide) (by rw [c4_0]; rfl) (by decide) ?_
      refine j_lload_n (pc := 36) dX8_narrowed_36 rfl ?_
      refine j_l2i (pc := 37) dX8_narrowed_37 ?_
      refine j_i2b (pc := 38) dX8_narrowed_38 ?_
      refine j_i2l (pc := 39) dX8_narrowed_39 ?_
      exact s_lret (pc := 40) dX8_narrowed_40 rfl H
    by_cases c4_1 : rg σ (64 * (43 + 2 * k0) + 1) = 1
    · replace H := H.2.1 c4_1
      refine j_tableIn (pc := 4) (t := 41) (off := 37) dX8_narrowed_4 (by rw [c4_1]; decide) (by rw [c4_1]; decide) (by rw [c4_1]; rfl) (by decide) ?_
      refine j_lload_n (pc := 41) dX8_narrowed_41 rfl ?_
      refine j_l2i (pc := 42) dX8_narrowed_42 ?_
      refine j_i2s (pc := 43) dX8_narrowed_43 ?_
      refine j_i2l (pc := 44) dX8_narrowed_44 ?_
      exact s_lret (pc := 45) dX8_narrowed_45 rfl H
    by_cases c4_2 : rg σ (64 * (43 + 2 * k0) + 1) = 2
    · replace H := H.2.2.1 c4_2
      refine j_tableIn (pc := 4) (t := 46) (off := 42) dX8_narrowed_4 (by rw [c4_2]; decide) (by rw [c4_2]; decide) (by rw [c4_2]; rfl) (by decide) ?_
      refine j_lload_n (pc := 46) dX8_narrowed_46 rfl ?_
      refine j_l2i (pc := 47) dX8_narrowed_47 ?_
      refine j_i2l (pc := 48) dX8_narrowed_48 ?_
      exact s_lret (pc := 49) dX8_narrowed_49 rfl H
    by_cases c4_3 : rg σ (64 * (43 + 2 * k0) + 1) = 3
    · replace H := H.2.2.2 c4_3
      refine j_tableIn (pc := 4) (t := 50) (off := 46) dX8_narrowed_4 (by rw [c4_3]; decide) (by rw [c4_3]; decide) (by rw [c4_3]; rfl) (by decide) ?_
      refine j_lload_n (pc := 50) dX8_narrowed_50 rfl ?_
      exact s_lret (pc := 51) dX8_narrowed_51 rfl H
    exact (sw_end_0_3 c4 c4_0 c4_1 c4_2 c4_3).elim
set_option maxRecDepth 20000 in
theorem b_X8_set_0 {l : Launch} {g : am_G} {d : Nat} {σ : am_S} {k : am_S → Prop} {k0 : Nat} {x1 : Int32} {x2 : Int64} (hk0 : k0 < 6) (hd : 1 ≤ d) (H : ((x1 < 0 → k σ) ∧ (¬ x1 < 0 → ((rg σ (64 * (43 + 2 * k0) + 2) ≤ x1 → k σ) ∧ (¬ rg σ (64 * (43 + 2 * k0) + 2) ≤ x1 → CL l g M_X8_narrowed (d - 1) [.ref (43 + 2 * k0), .long x2] σ (fun r1 σ1 => (vp_in x1 60 ∧ k (sL σ1 (44 + 2 * k0) x1.toNatClampNeg r1)))))))) : CV l g M_X8_set d [.ref (43 + 2 * k0), .int x1, .long x2] σ k := by
  show J l g (M_X8_set, d, 0, 0) 0 [(0, .ref (43 + 2 * k0)), (1, .int x1), (2, .long x2)] [] (hp σ) 0 0 (kV k)
  refine j_iload_n (pc := 0) dX8_set_0 rfl ?_
  refine j_if_lt (pc := 1) (t := 23) dX8_set_1 (by decide) (fun c1 => ?_) (fun c1 => ?_)
  · replace H := H.1 c1
    exact s_vret (pc := 23) dX8_set_23 rfl H
  · replace H := H.2 c1
    refine j_iload_n (pc := 4) dX8_set_4 rfl ?_
    refine j_aload_n (pc := 5) dX8_set_5 rfl ?_
    refine s_geti (pc := 6) (64 * (43 + 2 * k0) + 2) (rg σ (64 * (43 + 2 * k0) + 2)) dX8_set_6 fl_X8_18 (shp_s hk0) rfl rfl rfl ?_
    refine j_icmp_ge (pc := 9) (t := 23) dX8_set_9 (by decide) (fun c9 => ?_) (fun c9 => ?_)
    · replace H := H.1 c9
      exact s_vret (pc := 23) dX8_set_23 rfl H
    · replace H := H.2 c9
      refine j_aload_n (pc := 12) dX8_set_12 rfl ?_
      refine s_getr (pc := 13) dX8_set_13 fl_X8_21 (shp_s hk0) rfl ?_
      refine j_iload_n (pc := 16) dX8_set_16 rfl ?_
      refine j_aload_n (pc := 17) dX8_set_17 rfl ?_
      refine j_lload_n (pc := 18) dX8_set_18 rfl ?_
      refine s_callV_l (pc := 19) (M1 := M_X8_narrowed) (n := 1) (as := [.long x2]) (a := 43 + 2 * k0) (st := [.int x1, .ref (44 + 2 * k0)]) dX8_set_19 G_X8_narrowed wm_X8_39 (by decide +kernel) rfl (Nat.le_of_ble_eq_true rfl) (shp_s hk0) rfl (by show 1 ≤ d; omega) (Nat.le_of_ble_eq_true rfl) (Nat.zero_le _) (Nat.zero_le _) ?_
      refine CL.mono H (fun r1 σ1 H => ?_)
      have b22 := H.1
      replace H := H.2
      refine s_last (pc := 22) dX8_set_22 (shp_e hk0) b22 ?_
      exact s_vret (pc := 23) dX8_set_23 rfl H
set_option maxRecDepth 20000 in
theorem b_X10_take_0 {l : Launch} {g : am_G} {d : Nat} {σ : am_S} {k : Int32 → am_S → Prop}  {x1 : Int32} (H : ((rg σ 513 < 120 → (vp_in (rg σ 513) 120 ∧ k 1 (sR (sA σ 9 ((rg σ 513).toNatClampNeg) x1) 513 ((rg σ 513) + 1)))) ∧ (¬ rg σ 513 < 120 → k 0 σ))) : CI l g M_X10_take d [.ref 8, .int x1] σ k := by
  show J l g (M_X10_take, d, 0, 0) 0 [(0, .ref 8), (1, .int x1)] [] (hp σ) 0 0 (kI k)
  refine j_aload_n (pc := 0) dX10_take_0 rfl ?_
  refine s_geti (pc := 1) 513 (rg σ 513) dX10_take_1 fl_X10_13 shp_8 rfl rfl rfl ?_
  refine j_bipush (pc := 4) (v := 120) dX10_take_4 (by decide) ?_
  refine j_icmp_lt (pc := 6) (t := 11) dX10_take_6 (by decide) (fun c6 => ?_) (fun c6 => ?_)
  · replace H := H.1 c6
    refine j_aload_n (pc := 11) dX10_take_11 rfl ?_
    refine s_getr (pc := 12) dX10_take_12 fl_X10_9 shp_8 rfl ?_
    refine j_aload_n (pc := 15) dX10_take_15 rfl ?_
    refine s_geti (pc := 16) 513 (rg σ 513) dX10_take_16 fl_X10_13 shp_8 rfl rfl rfl ?_
    refine j_iload_n (pc := 19) dX10_take_19 rfl ?_
    have b20 := H.1
    replace H := H.2
    refine s_iast (pc := 20) dX10_take_20 shp_9 b20 ?_
    refine j_aload_n (pc := 21) dX10_take_21 rfl ?_
    refine j_dup (pc := 22) dX10_take_22 rfl ?_
    refine s_geti (pc := 23) 513 (rg σ 513) dX10_take_23 fl_X10_13 shp_8 rfl rfl rfl ?_
    refine j_iconst (pc := 26) (v := 1) dX10_take_26 (by decide) ?_
    refine j_iadd (pc := 27) dX10_take_27 ?_
    refine s_put (pc := 28) 513 dX10_take_28 fl_X10_13 shp_8 rfl rfl fp_10_1 rfl rfl ?_
    refine j_iconst (pc := 31) (v := 1) dX10_take_31 (by decide) ?_
    exact s_iretz (pc := 32) dX10_take_32 rfl rfl H
  · replace H := H.2 c6
    refine j_iconst (pc := 9) (v := 0) dX10_take_9 (by decide) ?_
    exact s_iretz (pc := 10) dX10_take_10 rfl rfl H
set_option maxRecDepth 20000 in
theorem b_X10_next_0 {l : Launch} {g : am_G} {d : Nat} {σ : am_S} {k : Int32 → am_S → Prop}   (H : ((0 ≤ rg σ 517 → k (-1) σ) ∧ (¬ 0 ≤ rg σ 517 → ((rg σ 513 ≤ rg σ 516 → k (-1) σ) ∧ (¬ rg σ 513 ≤ rg σ 516 → (vp_in (rg σ 516) 120 ∧ k (ar σ 9 ((rg σ 516).toNatClampNeg)) σ)))))) : CI l g M_X10_next d [.ref 8] σ k := by
  show J l g (M_X10_next, d, 0, 0) 0 [(0, .ref 8)] [] (hp σ) 0 0 (kI k)
  refine j_aload_n (pc := 0) dX10_next_0 rfl ?_
  refine s_geti (pc := 1) 517 (rg σ 517) dX10_next_1 fl_X10_26 shp_8 rfl rfl rfl ?_
  refine j_if_ge (pc := 4) (t := 30) dX10_next_4 (by decide) (fun c4 => ?_) (fun c4 => ?_)
  · replace H := H.1 c4
    refine j_iconst (pc := 30) (v := -1) dX10_next_30 (by decide) ?_
    exact s_ireti (pc := 31) dX10_next_31 rfl H
  · replace H := H.2 c4
    refine j_aload_n (pc := 7) dX10_next_7 rfl ?_
    refine s_geti (pc := 8) 516 (rg σ 516) dX10_next_8 fl_X10_23 shp_8 rfl rfl rfl ?_
    refine j_aload_n (pc := 11) dX10_next_11 rfl ?_
    refine s_geti (pc := 12) 513 (rg σ 513) dX10_next_12 fl_X10_13 shp_8 rfl rfl rfl ?_
    refine j_icmp_ge (pc := 15) (t := 30) dX10_next_15 (by decide) (fun c15 => ?_) (fun c15 => ?_)
    · replace H := H.1 c15
      refine j_iconst (pc := 30) (v := -1) dX10_next_30 (by decide) ?_
      exact s_ireti (pc := 31) dX10_next_31 rfl H
    · replace H := H.2 c15
      refine j_aload_n (pc := 18) dX10_next_18 rfl ?_
      refine s_getr (pc := 19) dX10_next_19 fl_X10_9 shp_8 rfl ?_
      refine j_aload_n (pc := 22) dX10_next_22 rfl ?_
      refine s_geti (pc := 23) 516 (rg σ 516) dX10_next_23 fl_X10_23 shp_8 rfl rfl rfl ?_
      have b26 := H.1
      replace H := H.2
      refine s_iald (pc := 26) (ar σ 9 ((rg σ 516).toNatClampNeg)) dX10_next_26 shp_9 b26 rfl ?_
      refine j_goto (pc := 27) (t := 31) dX10_next_27 (by decide) ?_
      exact s_ireti (pc := 31) dX10_next_31 rfl H
set_option maxRecDepth 20000 in
theorem C_X10_isDigit {l : Launch} {g : am_G} {d : Nat} {σ : am_S} {k : Int32 → am_S → Prop}  {x0 : Int32} (hd : 0 ≤ d) (H : ((¬ x0 < 48 ∧ ¬ 57 < x0) → k 1 σ) ∧ (¬ (¬ x0 < 48 ∧ ¬ 57 < x0) → k 0 σ)) : CI l g M_X10_isDigit d [.int x0] σ k := by
  show J l g (M_X10_isDigit, d, 0, 0) 0 [(0, .int x0)] [] (hp σ) 0 0 (kI k)
  refine j_iload_n (pc := 0) dX10_isDigit_0 rfl ?_
  refine j_bipush (pc := 1) (v := 48) dX10_isDigit_1 (by decide) ?_
  refine j_icmp_lt (pc := 3) (t := 16) dX10_isDigit_3 (by decide) (fun c3 => ?_) (fun c3 => ?_)
  · skip
    refine j_iconst (pc := 16) (v := 0) dX10_isDigit_16 (by decide) ?_
    exact s_iretz (pc := 17) dX10_isDigit_17 rfl rfl (H.2 (fun q => (q.1) c3))
  · skip
    refine j_iload_n (pc := 6) dX10_isDigit_6 rfl ?_
    refine j_bipush (pc := 7) (v := 57) dX10_isDigit_7 (by decide) ?_
    refine j_icmp_gt (pc := 9) (t := 16) dX10_isDigit_9 (by decide) (fun c9 => ?_) (fun c9 => ?_)
    · skip
      refine j_iconst (pc := 16) (v := 0) dX10_isDigit_16 (by decide) ?_
      exact s_iretz (pc := 17) dX10_isDigit_17 rfl rfl (H.2 (fun q => (q.2) c9))
    · skip
      refine j_iconst (pc := 12) (v := 1) dX10_isDigit_12 (by decide) ?_
      refine j_goto (pc := 13) (t := 17) dX10_isDigit_13 (by decide) ?_
      exact s_iretz (pc := 17) dX10_isDigit_17 rfl rfl (H.1 ⟨c3, c9⟩)
set_option maxRecDepth 20000 in
theorem b_X10_write_0 {l : Launch} {g : am_G} {d : Nat} {σ : am_S} {k : am_S → Prop}  {x1 : Int32} (H : ((121 ≤ rg σ 515 → k σ) ∧ (¬ 121 ≤ rg σ 515 → (vp_in (rg σ 515) 121 ∧ k (sR (sA σ 10 ((rg σ 515).toNatClampNeg) x1) 515 ((rg σ 515) + 1)))))) : CV l g M_X10_write d [.ref 8, .int x1] σ k := by
  show J l g (M_X10_write, d, 0, 0) 0 [(0, .ref 8), (1, .int x1)] [] (hp σ) 0 0 (kV k)
  refine j_aload_n (pc := 0) dX10_write_0 rfl ?_
  refine s_geti (pc := 1) 515 (rg σ 515) dX10_write_1 fl_X10_20 shp_8 rfl rfl rfl ?_
  refine j_bipush (pc := 4) (v := 121) dX10_write_4 (by decide) ?_
  refine j_icmp_ge (pc := 6) (t := 29) dX10_write_6 (by decide) (fun c6 => ?_) (fun c6 => ?_)
  · replace H := H.1 c6
    exact s_vret (pc := 29) dX10_write_29 rfl H
  · replace H := H.2 c6
    refine j_aload_n (pc := 9) dX10_write_9 rfl ?_
    refine s_getr (pc := 10) dX10_write_10 fl_X10_17 shp_8 rfl ?_
    refine j_aload_n (pc := 13) dX10_write_13 rfl ?_
    refine s_geti (pc := 14) 515 (rg σ 515) dX10_write_14 fl_X10_20 shp_8 rfl rfl rfl ?_
    refine j_iload_n (pc := 17) dX10_write_17 rfl ?_
    have b18 := H.1
    replace H := H.2
    refine s_iast (pc := 18) dX10_write_18 shp_10 b18 ?_
    refine j_aload_n (pc := 19) dX10_write_19 rfl ?_
    refine j_dup (pc := 20) dX10_write_20 rfl ?_
    refine s_geti (pc := 21) 515 (rg σ 515) dX10_write_21 fl_X10_20 shp_8 rfl rfl rfl ?_
    refine j_iconst (pc := 24) (v := 1) dX10_write_24 (by decide) ?_
    refine j_iadd (pc := 25) dX10_write_25 ?_
    refine s_put (pc := 26) 515 dX10_write_26 fl_X10_20 shp_8 rfl rfl fp_10_3 rfl rfl ?_
    exact s_vret (pc := 29) dX10_write_29 rfl H
set_option maxRecDepth 20000 in
theorem b_X10_number_0 {l : Launch} {g : am_G} {d : Nat} {σ : am_S} {k : am_S → Prop}   (H : JV l g M_X10_number d 4 [(0, .ref 8), (1, .int 0), (2, .int 0)] [] σ k) : CV l g M_X10_number d [.ref 8] σ k := by
  show J l g (M_X10_number, d, 0, 0) 0 [(0, .ref 8)] [] (hp σ) 0 0 (kV k)
  refine j_iconst (pc := 0) (v := 0) dX10_number_0 (by decide) ?_
  refine j_istore_n (pc := 1) (lv1 := [(1, .int 0), (0, .ref 8)]) dX10_number_1 (Nat.le_of_ble_eq_true rfl) rfl ?_
  refine j_iconst (pc := 2) (v := 0) dX10_number_2 (by decide) ?_
  refine j_istore_n (pc := 3) (lv1 := [(2, .int 0), (1, .int 0), (0, .ref 8)]) dX10_number_3 (Nat.le_of_ble_eq_true rfl) rfl ?_
  refine j_sub [2, 1, 0] rfl ?_
  exact H
set_option maxRecDepth 20000 in
theorem b_X10_number_4 {l : Launch} {g : am_G} {d : Nat} {σ : am_S} {k : am_S → Prop}  {x1 x2 : Int32} (hd : 1 ≤ d) (H : ((4 ≤ x2 → CV l g M_X10_write (d - 1) [.ref 8, .int x1] σ (fun σ1 => k σ1)) ∧ (¬ 4 ≤ x2 → CI l g M_X10_next (d - 1) [.ref 8] σ (fun r2 σ2 => (((¬ r2 < 48 ∧ ¬ 57 < r2) → CI l g M_X10_next (d - 1) [.ref 8] σ2 (fun r4 σ4 => JV l g M_X10_number d 4 [(0, .ref 8), (1, .int (((10 * x1) + r4) - 48)), (2, .int (x2 + 1))] [] (sR σ4 516 ((rg σ4 516) + 1)) k)) ∧ (¬ (¬ r2 < 48 ∧ ¬ 57 < r2) → CV l g M_X10_write (d - 1) [.ref 8, .int x1] σ2 (fun σ5 => k σ5))))))) : JV l g M_X10_number d 4 [(0, .ref 8), (1, .int x1), (2, .int x2)] [] σ k := by
  show J l g (M_X10_number, d, 0, 0) 4 [(0, .ref 8), (1, .int x1), (2, .int x2)] [] (hp σ) 0 0 (kV k)
  refine j_iload_n (pc := 4) dX10_number_4 rfl ?_
  refine j_iconst (pc := 5) (v := 4) dX10_number_5 (by decide) ?_
  refine j_icmp_ge (pc := 6) (t := 48) dX10_number_6 (by decide) (fun c6 => ?_) (fun c6 => ?_)
  · replace H := H.1 c6
    refine j_aload_n (pc := 48) dX10_number_48 rfl ?_
    refine j_iload_n (pc := 49) dX10_number_49 rfl ?_
    refine s_callV_v (pc := 50) (M1 := M_X10_write) (n := 1) (as := [.int x1]) (a := 8) (st := []) dX10_number_50 G_X10_write wm_X10_43 (by decide +kernel) rfl (Nat.le_of_ble_eq_true rfl) shp_8 rfl (by show 1 ≤ d; omega) (Nat.le_of_ble_eq_true rfl) (Nat.zero_le _) (Nat.zero_le _) ?_
    refine CV.mono H (fun σ1 H => ?_)
    exact s_vret (pc := 53) dX10_number_53 rfl H
  · replace H := H.2 c6
    refine j_aload_n (pc := 9) dX10_number_9 rfl ?_
    refine s_callV_i (pc := 10) (M1 := M_X10_next) (n := 0) (as := []) (a := 8) (st := []) dX10_number_10 G_X10_next wm_X10_32 (by decide +kernel) rfl (Nat.le_of_ble_eq_true rfl) shp_8 rfl (by show 1 ≤ d; omega) (Nat.le_of_ble_eq_true rfl) (Nat.zero_le _) (Nat.zero_le _) ?_
    refine CI.mono H (fun r2 σ2 H => ?_)
    refine s_callS_i (pc := 13) (M1 := M_X10_isDigit) (n := 1) (as := [.int r2]) (st := []) dX10_number_13 G_X10_isDigit wm_X10_54 (by decide +kernel) rfl (Nat.le_of_ble_eq_true rfl) (by show 1 ≤ d; omega) (Nat.le_of_ble_eq_true rfl) ?_
    refine C_X10_isDigit (d := d - 1) (by omega) ⟨fun c13 => ?_, fun c13 => ?_⟩
    · replace H := H.1 c13
      refine j_if_eq (pc := 16) (t := 48) dX10_number_16 (by decide) (fun q => absurd q (by decide)) (fun _ => ?_)
      refine j_bipush (pc := 19) (v := 10) dX10_number_19 (by decide) ?_
      refine j_iload_n (pc := 21) dX10_number_21 rfl ?_
      refine j_imul (pc := 22) dX10_number_22 ?_
      refine j_aload_n (pc := 23) dX10_number_23 rfl ?_
      refine s_callV_i (pc := 24) (M1 := M_X10_next) (n := 0) (as := []) (a := 8) (st := [.int (10 * x1)]) dX10_number_24 G_X10_next wm_X10_32 (by decide +kernel) rfl (Nat.le_of_ble_eq_true rfl) shp_8 rfl (by show 1 ≤ d; omega) (Nat.le_of_ble_eq_true rfl) (Nat.zero_le _) (Nat.zero_le _) ?_
      refine CI.mono H (fun r4 σ4 H => ?_)
      refine j_iadd (pc := 27) dX10_number_27 ?_
      refine j_bipush (pc := 28) (v := 48) dX10_number_28 (by decide) ?_
      refine j_isub (pc := 30) dX10_number_30 ?_
      refine j_istore_n (pc := 31) (lv1 := [(1, .int (((10 * x1) + r4) - 48)), (0, .ref 8), (2, .int x2)]) dX10_number_31 (Nat.le_of_ble_eq_true rfl) rfl ?_
      refine j_aload_n (pc := 32) dX10_number_32 rfl ?_
      refine j_dup (pc := 33) dX10_number_33 rfl ?_
      refine s_geti (pc := 34) 516 (rg σ4 516) dX10_number_34 fl_X10_23 shp_8 rfl rfl rfl ?_
      refine j_iconst (pc := 37) (v := 1) dX10_number_37 (by decide) ?_
      refine j_iadd (pc := 38) dX10_number_38 ?_
      refine s_put (pc := 39) 516 dX10_number_39 fl_X10_23 shp_8 rfl rfl fp_10_4 rfl rfl ?_
      refine j_iinc (pc := 42) (k := 2) (v := x2 + 1) (lv1 := [(2, .int (x2 + 1)), (1, .int (((10 * x1) + r4) - 48)), (0, .ref 8)]) dX10_number_42 rfl rfl (Nat.le_of_ble_eq_true rfl) rfl ?_
      refine j_goto (pc := 45) (t := 4) dX10_number_45 (by decide) ?_
      refine j_sub [2, 1, 0] rfl ?_
      exact H
    · replace H := H.2 c13
      refine j_if_eq (pc := 16) (t := 48) dX10_number_16 (by decide) (fun _ => ?_) (fun q => absurd q (by decide))
      refine j_aload_n (pc := 48) dX10_number_48 rfl ?_
      refine j_iload_n (pc := 49) dX10_number_49 rfl ?_
      refine s_callV_v (pc := 50) (M1 := M_X10_write) (n := 1) (as := [.int x1]) (a := 8) (st := []) dX10_number_50 G_X10_write wm_X10_43 (by decide +kernel) rfl (Nat.le_of_ble_eq_true rfl) shp_8 rfl (by show 1 ≤ d; omega) (Nat.le_of_ble_eq_true rfl) (Nat.zero_le _) (Nat.zero_le _) ?_
      refine CV.mono H (fun σ5 H => ?_)
      exact s_vret (pc := 53) dX10_number_53 rfl H
set_option maxRecDepth 20000 in
theorem C_X10_isName {l : Launch} {g : am_G} {d : Nat} {σ : am_S} {k : Int32 → am_S → Prop}  {x0 : Int32} (hd : 0 ≤ d) (H : ((¬ (¬ x0 = 97 ∧ ¬ x0 = 98 ∧ ¬ x0 = 100 ∧ ¬ x0 = 107 ∧ ¬ x0 = 105 ∧ ¬ x0 = 106)) → k 1 σ) ∧ (¬ (¬ (¬ x0 = 97 ∧ ¬ x0 = 98 ∧ ¬ x0 = 100 ∧ ¬ x0 = 107 ∧ ¬ x0 = 105 ∧ ¬ x0 = 106)) → k 0 σ)) : CI l g M_X10_isName d [.int x0] σ k := by
  show J l g (M_X10_isName, d, 0, 0) 0 [(0, .int x0)] [] (hp σ) 0 0 (kI k)
  refine j_iload_n (pc := 0) dX10_isName_0 rfl ?_
  refine j_bipush (pc := 1) (v := 97) dX10_isName_1 (by decide) ?_
  refine j_icmp_eq (pc := 3) (t := 36) dX10_isName_3 (by decide) (fun c3 => ?_) (fun c3 => ?_)
  · skip
    refine j_iconst (pc := 36) (v := 1) dX10_isName_36 (by decide) ?_
    refine j_goto (pc := 37) (t := 41) dX10_isName_37 (by decide) ?_
    exact s_iretz (pc := 41) dX10_isName_41 rfl rfl (H.1 (fun q => (q.1) c3))
  · skip
    refine j_iload_n (pc := 6) dX10_isName_6 rfl ?_
    refine j_bipush (pc := 7) (v := 98) dX10_isName_7 (by decide) ?_
    refine j_icmp_eq (pc := 9) (t := 36) dX10_isName_9 (by decide) (fun c9 => ?_) (fun c9 => ?_)
    · skip
      refine j_iconst (pc := 36) (v := 1) dX10_isName_36 (by decide) ?_
      refine j_goto (pc := 37) (t := 41) dX10_isName_37 (by decide) ?_
      exact s_iretz (pc := 41) dX10_isName_41 rfl rfl (H.1 (fun q => (q.2.1) c9))
    · skip
      refine j_iload_n (pc := 12) dX10_isName_12 rfl ?_
      refine j_bipush (pc := 13) (v := 100) dX10_isName_13 (by decide) ?_
      refine j_icmp_eq (pc := 15) (t := 36) dX10_isName_15 (by decide) (fun c15 => ?_) (fun c15 => ?_)
      · skip
        refine j_iconst (pc := 36) (v := 1) dX10_isName_36 (by decide) ?_
        refine j_goto (pc := 37) (t := 41) dX10_isName_37 (by decide) ?_
        exact s_iretz (pc := 41) dX10_isName_41 rfl rfl (H.1 (fun q => (q.2.2.1) c15))
      · skip
        refine j_iload_n (pc := 18) dX10_isName_18 rfl ?_
        refine j_bipush (pc := 19) (v := 107) dX10_isName_19 (by decide) ?_
        refine j_icmp_eq (pc := 21) (t := 36) dX10_isName_21 (by decide) (fun c21 => ?_) (fun c21 => ?_)
        · skip
          refine j_iconst (pc := 36) (v := 1) dX10_isName_36 (by decide) ?_
          refine j_goto (pc := 37) (t := 41) dX10_isName_37 (by decide) ?_
          exact s_iretz (pc := 41) dX10_isName_41 rfl rfl (H.1 (fun q => (q.2.2.2.1) c21))
        · skip
          refine j_iload_n (pc := 24) dX10_isName_24 rfl ?_
          refine j_bipush (pc := 25) (v := 105) dX10_isName_25 (by decide) ?_
          refine j_icmp_eq (pc := 27) (t := 36) dX10_isName_27 (by decide) (fun c27 => ?_) (fun c27 => ?_)
          · skip
            refine j_iconst (pc := 36) (v := 1) dX10_isName_36 (by decide) ?_
            refine j_goto (pc := 37) (t := 41) dX10_isName_37 (by decide) ?_
            exact s_iretz (pc := 41) dX10_isName_41 rfl rfl (H.1 (fun q => (q.2.2.2.2.1) c27))
          · skip
            refine j_iload_n (pc := 30) dX10_isName_30 rfl ?_
            refine j_bipush (pc := 31) (v := 106) dX10_isName_31 (by decide) ?_
            refine j_icmp_ne (pc := 33) (t := 40) dX10_isName_33 (by decide) (fun c33 => ?_) (fun c33 => ?_)
            · skip
              refine j_iconst (pc := 40) (v := 0) dX10_isName_40 (by decide) ?_
              exact s_iretz (pc := 41) dX10_isName_41 rfl rfl (H.2 (fun q => q ⟨c3, c9, c15, c21, c27, c33⟩))
            · skip
              refine j_iconst (pc := 36) (v := 1) dX10_isName_36 (by decide) ?_
              refine j_goto (pc := 37) (t := 41) dX10_isName_37 (by decide) ?_
              exact s_iretz (pc := 41) dX10_isName_41 rfl rfl (H.1 (fun q => (q.2.2.2.2.2) c33))
set_option maxRecDepth 20000 in
theorem b_X10_fail_0 {l : Launch} {g : am_G} {d : Nat} {σ : am_S} {k : am_S → Prop}   (H : ((0 ≤ rg σ 517 → k σ) ∧ (¬ 0 ≤ rg σ 517 → k (sR σ 517 (rg σ 516))))) : CV l g M_X10_fail d [.ref 8] σ k := by
  show J l g (M_X10_fail, d, 0, 0) 0 [(0, .ref 8)] [] (hp σ) 0 0 (kV k)
  refine j_aload_n (pc := 0) dX10_fail_0 rfl ?_
  refine s_geti (pc := 1) 517 (rg σ 517) dX10_fail_1 fl_X10_26 shp_8 rfl rfl rfl ?_
  refine j_if_ge (pc := 4) (t := 15) dX10_fail_4 (by decide) (fun c4 => ?_) (fun c4 => ?_)
  · replace H := H.1 c4
    exact s_vret (pc := 15) dX10_fail_15 rfl H
  · replace H := H.2 c4
    refine j_aload_n (pc := 7) dX10_fail_7 rfl ?_
    refine j_aload_n (pc := 8) dX10_fail_8 rfl ?_
    refine s_geti (pc := 9) 516 (rg σ 516) dX10_fail_9 fl_X10_23 shp_8 rfl rfl rfl ?_
    refine s_put (pc := 12) 517 dX10_fail_12 fl_X10_26 shp_8 rfl rfl fp_10_5 rfl rfl ?_
    exact s_vret (pc := 15) dX10_fail_15 rfl H
set_option maxRecDepth 20000 in
theorem b_X10_operand_0 {l : Launch} {g : am_G} {d : Nat} {σ : am_S} {k : am_S → Prop}  {x1 : Int32} (hd : 1 ≤ d) (H : CI l g M_X10_next (d - 1) [.ref 8] σ (fun r1 σ1 => (((¬ r1 < 48 ∧ ¬ 57 < r1) → CV l g M_X10_number (d - 1) [.ref 8] σ1 (fun σ3 => k σ3)) ∧ (¬ (¬ r1 < 48 ∧ ¬ 57 < r1) → (((¬ (¬ r1 = 97 ∧ ¬ r1 = 98 ∧ ¬ r1 = 100 ∧ ¬ r1 = 107 ∧ ¬ r1 = 105 ∧ ¬ r1 = 106)) → CV l g M_X10_write (d - 1) [.ref 8, .int (-r1)] (sR σ1 516 ((rg σ1 516) + 1)) (fun σ5 => k σ5)) ∧ (¬ (¬ (¬ r1 = 97 ∧ ¬ r1 = 98 ∧ ¬ r1 = 100 ∧ ¬ r1 = 107 ∧ ¬ r1 = 105 ∧ ¬ r1 = 106)) → ((x1 < 6 → ((r1 = 33 → CV l g M_X10_operand (d - 1) [.ref 8, .int (x1 + 1)] (sR σ1 516 ((rg σ1 516) + 1)) (fun σ6 => ((¬ r1 = 33 → CV l g M_X10_write (d - 1) [.ref 8, .int (-126)] σ6 (fun σ7 => k σ7)) ∧ (r1 = 33 → CV l g M_X10_write (d - 1) [.ref 8, .int (-33)] σ6 (fun σ8 => k σ8))))) ∧ (¬ r1 = 33 → ((¬ r1 = 45 → ((¬ r1 = 40 → CV l g M_X10_fail (d - 1) [.ref 8] σ1 (fun σ9 => k σ9)) ∧ (r1 = 40 → CV l g M_X10_level (d - 1) [.ref 8, .int 0, .int (x1 + 1)] (sR σ1 516 ((rg σ1 516) + 1)) (fun σ10 => CI l g M_X10_next (d - 1) [.ref 8] σ10 (fun r11 σ11 => ((¬ r11 = 41 → CV l g M_X10_fail (d - 1) [.ref 8] σ11 (fun σ12 => k σ12)) ∧ (r11 = 41 → k (sR σ11 516 ((rg σ11 516) + 1))))))))) ∧ (r1 = 45 → CV l g M_X10_operand (d - 1) [.ref 8, .int (x1 + 1)] (sR σ1 516 ((rg σ1 516) + 1)) (fun σ13 => ((¬ r1 = 33 → CV l g M_X10_write (d - 1) [.ref 8, .int (-126)] σ13 (fun σ14 => k σ14)) ∧ (r1 = 33 → CV l g M_X10_write (d - 1) [.ref 8, .int (-33)] σ13 (fun σ15 => k σ15))))))))) ∧ (¬ x1 < 6 → CV l g M_X10_fail (d - 1) [.ref 8] σ1 (fun σ16 => k σ16))))))))) : CV l g M_X10_operand d [.ref 8, .int x1] σ k := by
  show J l g (M_X10_operand, d, 0, 0) 0 [(0, .ref 8), (1, .int x1)] [] (hp σ) 0 0 (kV k)
  refine j_aload_n (pc := 0) dX10_operand_0 rfl ?_
  refine s_callV_i (pc := 1) (M1 := M_X10_next) (n := 0) (as := []) (a := 8) (st := []) dX10_operand_1 G_X10_next wm_X10_32 (by decide +kernel) rfl (Nat.le_of_ble_eq_true rfl) shp_8 rfl (by show 1 ≤ d; omega) (Nat.le_of_ble_eq_true rfl) (Nat.zero_le _) (Nat.zero_le _) ?_
  refine CI.mono H (fun r1 σ1 H => ?_)
  refine j_istore_n (pc := 4) (lv1 := [(2, .int r1), (0, .ref 8), (1, .int x1)]) dX10_operand_4 (Nat.le_of_ble_eq_true rfl) rfl ?_
  refine j_iload_n (pc := 5) dX10_operand_5 rfl ?_
  refine s_callS_i (pc := 6) (M1 := M_X10_isDigit) (n := 1) (as := [.int r1]) (st := []) dX10_operand_6 G_X10_isDigit wm_X10_54 (by decide +kernel) rfl (Nat.le_of_ble_eq_true rfl) (by show 1 ≤ d; omega) (Nat.le_of_ble_eq_true rfl) ?_
  refine C_X10_isDigit (d := d - 1) (by omega) ⟨fun c6 => ?_, fun c6 => ?_⟩
  · replace H := H.1 c6
    refine j_if_eq (pc := 9) (t := 19) dX10_operand_9 (by decide) (fun q => absurd q (by decide)) (fun _ => ?_)
    refine j_aload_n (pc := 12) dX10_operand_12 rfl ?_
    refine s_callV_v (pc := 13) (M1 := M_X10_number) (n := 0) (as := []) (a := 8) (st := []) dX10_operand_13 G_X10_number wm_X10_58 (by decide +kernel) rfl (Nat.le_of_ble_eq_true rfl) shp_8 rfl (by show 1 ≤ d; omega) (Nat.le_of_ble_eq_true rfl) (Nat.zero_le _) (Nat.zero_le _) ?_
    refine CV.mono H (fun σ3 H => ?_)
    refine j_goto (pc := 16) (t := 164) dX10_operand_16 (by decide) ?_
    exact s_vret (pc := 164) dX10_operand_164 rfl H
  · replace H := H.2 c6
    refine j_if_eq (pc := 9) (t := 19) dX10_operand_9 (by decide) (fun _ => ?_) (fun q => absurd q (by decide))
    refine j_iload_n (pc := 19) dX10_operand_19 rfl ?_
    refine s_callS_i (pc := 20) (M1 := M_X10_isName) (n := 1) (as := [.int r1]) (st := []) dX10_operand_20 G_X10_isName wm_X10_61 (by decide +kernel) rfl (Nat.le_of_ble_eq_true rfl) (by show 1 ≤ d; omega) (Nat.le_of_ble_eq_true rfl) ?_
    refine C_X10_isName (d := d - 1) (by omega) ⟨fun c20 => ?_, fun c20 => ?_⟩
    · replace H := H.1 c20
      refine j_if_eq (pc := 23) (t := 45) dX10_operand_23 (by decide) (fun q => absurd q (by decide)) (fun _ => ?_)
      refine j_aload_n (pc := 26) dX10_operand_26 rfl ?_
      refine j_dup (pc := 27) dX10_operand_27 rfl ?_
      refine s_geti (pc := 28) 516 (rg σ1 516) dX10_operand_28 fl_X10_23 shp_8 rfl rfl rfl ?_
      refine j_iconst (pc := 31) (v := 1) dX10_operand_31 (by decide) ?_
      refine j_iadd (pc := 32) dX10_operand_32 ?_
      refine s_put (pc := 33) 516 dX10_operand_33 fl_X10_23 shp_8 rfl rfl fp_10_4 rfl rfl ?_
      refine j_aload_n (pc := 36) dX10_operand_36 rfl ?_
      refine j_iload_n (pc := 37) dX10_operand_37 rfl ?_
      refine j_ineg (pc := 38) dX10_operand_38 ?_
      refine s_callV_v (pc := 39) (M1 := M_X10_write) (n := 1) (as := [.int (-r1)]) (a := 8) (st := []) dX10_operand_39 G_X10_write wm_X10_43 (by decide +kernel) rfl (Nat.le_of_ble_eq_true rfl) shp_8 rfl (by show 1 ≤ d; omega) (Nat.le_of_ble_eq_true rfl) (Nat.zero_le _) (Nat.zero_le _) ?_
      refine CV.mono H (fun σ5 H => ?_)
      refine j_goto (pc := 42) (t := 164) dX10_operand_42 (by decide) ?_
      exact s_vret (pc := 164) dX10_operand_164 rfl H
    · replace H := H.2 c20
      refine j_if_eq (pc := 23) (t := 45) dX10_operand_23 (by decide) (fun _ => ?_) (fun q => absurd q (by decide))
      refine j_iload_n (pc := 45) dX10_operand_45 rfl ?_
      refine j_bipush (pc := 46) (v := 6) dX10_operand_46 (by decide) ?_
      refine j_icmp_lt (pc := 48) (t := 58) dX10_operand_48 (by decide) (fun c48 => ?_) (fun c48 => ?_)
      · replace H := H.1 c48
        refine j_iload_n (pc := 58) dX10_operand_58 rfl ?_
        refine j_bipush (pc := 59) (v := 33) dX10_operand_59 (by decide) ?_
        refine j_icmp_eq (pc := 61) (t := 70) dX10_operand_61 (by decide) (fun c61 => ?_) (fun c61 => ?_)
        · replace H := H.1 c61
          refine j_aload_n (pc := 70) dX10_operand_70 rfl ?_
          refine j_dup (pc := 71) dX10_operand_71 rfl ?_
          refine s_geti (pc := 72) 516 (rg σ1 516) dX10_operand_72 fl_X10_23 shp_8 rfl rfl rfl ?_
          refine j_iconst (pc := 75) (v := 1) dX10_operand_75 (by decide) ?_
          refine j_iadd (pc := 76) dX10_operand_76 ?_
          refine s_put (pc := 77) 516 dX10_operand_77 fl_X10_23 shp_8 rfl rfl fp_10_4 rfl rfl ?_
          refine j_aload_n (pc := 80) dX10_operand_80 rfl ?_
          refine j_iload_n (pc := 81) dX10_operand_81 rfl ?_
          refine j_iconst (pc := 82) (v := 1) dX10_operand_82 (by decide) ?_
          refine j_iadd (pc := 83) dX10_operand_83 ?_
          refine s_callV_v (pc := 84) (M1 := M_X10_operand) (n := 1) (as := [.int (x1 + 1)]) (a := 8) (st := []) dX10_operand_84 G_X10_operand wm_X10_47 (by decide +kernel) rfl (Nat.le_of_ble_eq_true rfl) shp_8 rfl (by show 1 ≤ d; omega) (Nat.le_of_ble_eq_true rfl) (Nat.zero_le _) (Nat.zero_le _) ?_
          refine CV.mono H (fun σ6 H => ?_)
          refine j_aload_n (pc := 87) dX10_operand_87 rfl ?_
          refine j_iload_n (pc := 88) dX10_operand_88 rfl ?_
          refine j_bipush (pc := 89) (v := 33) dX10_operand_89 (by decide) ?_
          refine j_icmp_ne (pc := 91) (t := 99) dX10_operand_91 (by decide) (fun c91 => ?_) (fun c91 => ?_)
          · replace H := H.1 c91
            refine j_bipush (pc := 99) (v := -126) dX10_operand_99 (by decide) ?_
            refine s_callV_v (pc := 101) (M1 := M_X10_write) (n := 1) (as := [.int (-126)]) (a := 8) (st := []) dX10_operand_101 G_X10_write wm_X10_43 (by decide +kernel) rfl (Nat.le_of_ble_eq_true rfl) shp_8 rfl (by show 1 ≤ d; omega) (Nat.le_of_ble_eq_true rfl) (Nat.zero_le _) (Nat.zero_le _) ?_
            refine CV.mono H (fun σ7 H => ?_)
            refine j_goto (pc := 104) (t := 164) dX10_operand_104 (by decide) ?_
            exact s_vret (pc := 164) dX10_operand_164 rfl H
          · replace H := H.2 c91
            refine j_bipush (pc := 94) (v := -33) dX10_operand_94 (by decide) ?_
            refine j_goto (pc := 96) (t := 101) dX10_operand_96 (by decide) ?_
            refine s_callV_v (pc := 101) (M1 := M_X10_write) (n := 1) (as := [.int (-33)]) (a := 8) (st := []) dX10_operand_101 G_X10_write wm_X10_43 (by decide +kernel) rfl (Nat.le_of_ble_eq_true rfl) shp_8 rfl (by show 1 ≤ d; omega) (Nat.le_of_ble_eq_true rfl) (Nat.zero_le _) (Nat.zero_le _) ?_
            refine CV.mono H (fun σ8 H => ?_)
            refine j_goto (pc := 104) (t := 164) dX10_operand_104 (by decide) ?_
            exact s_vret (pc := 164) dX10_operand_164 rfl H
        · replace H := H.2 c61
          refine j_iload_n (pc := 64) dX10_operand_64 rfl ?_
          refine j_bipush (pc := 65) (v := 45) dX10_operand_65 (by decide) ?_
          refine j_icmp_ne (pc := 67) (t := 107) dX10_operand_67 (by decide) (fun c67 => ?_) (fun c67 => ?_)
          · replace H := H.1 c67
            refine j_iload_n (pc := 107) dX10_operand_107 rfl ?_
            refine j_bipush (pc := 108) (v := 40) dX10_operand_108 (by decide) ?_
            refine j_icmp_ne (pc := 110) (t := 160) dX10_operand_110 (by decide) (fun c110 => ?_) (fun c110 => ?_)
            · replace H := H.1 c110
              refine j_aload_n (pc := 160) dX10_operand_160 rfl ?_
              refine s_callV_v (pc := 161) (M1 := M_X10_fail) (n := 0) (as := []) (a := 8) (st := []) dX10_operand_161 G_X10_fail wm_X10_36 (by decide +kernel) rfl (Nat.le_of_ble_eq_true rfl) shp_8 rfl (by show 1 ≤ d; omega) (Nat.le_of_ble_eq_true rfl) (Nat.zero_le _) (Nat.zero_le _) ?_
              refine CV.mono H (fun σ9 H => ?_)
              exact s_vret (pc := 164) dX10_operand_164 rfl H
            · replace H := H.2 c110
              refine j_aload_n (pc := 113) dX10_operand_113 rfl ?_
              refine j_dup (pc := 114) dX10_operand_114 rfl ?_
              refine s_geti (pc := 115) 516 (rg σ1 516) dX10_operand_115 fl_X10_23 shp_8 rfl rfl rfl ?_
              refine j_iconst (pc := 118) (v := 1) dX10_operand_118 (by decide) ?_
              refine j_iadd (pc := 119) dX10_operand_119 ?_
              refine s_put (pc := 120) 516 dX10_operand_120 fl_X10_23 shp_8 rfl rfl fp_10_4 rfl rfl ?_
              refine j_aload_n (pc := 123) dX10_operand_123 rfl ?_
              refine j_iconst (pc := 124) (v := 0) dX10_operand_124 (by decide) ?_
              refine j_iload_n (pc := 125) dX10_operand_125 rfl ?_
              refine j_iconst (pc := 126) (v := 1) dX10_operand_126 (by decide) ?_
              refine j_iadd (pc := 127) dX10_operand_127 ?_
              refine s_callV_v (pc := 128) (M1 := M_X10_level) (n := 2) (as := [.int 0, .int (x1 + 1)]) (a := 8) (st := []) dX10_operand_128 G_X10_level wm_X10_39 (by decide +kernel) rfl (Nat.le_of_ble_eq_true rfl) shp_8 rfl (by show 1 ≤ d; omega) (Nat.le_of_ble_eq_true rfl) (Nat.zero_le _) (Nat.zero_le _) ?_
              refine CV.mono H (fun σ10 H => ?_)
              refine j_aload_n (pc := 131) dX10_operand_131 rfl ?_
              refine s_callV_i (pc := 132) (M1 := M_X10_next) (n := 0) (as := []) (a := 8) (st := []) dX10_operand_132 G_X10_next wm_X10_32 (by decide +kernel) rfl (Nat.le_of_ble_eq_true rfl) shp_8 rfl (by show 1 ≤ d; omega) (Nat.le_of_ble_eq_true rfl) (Nat.zero_le _) (Nat.zero_le _) ?_
              refine CI.mono H (fun r11 σ11 H => ?_)
              refine j_bipush (pc := 135) (v := 41) dX10_operand_135 (by decide) ?_
              refine j_icmp_ne (pc := 137) (t := 153) dX10_operand_137 (by decide) (fun c137 => ?_) (fun c137 => ?_)
              · replace H := H.1 c137
                refine j_aload_n (pc := 153) dX10_operand_153 rfl ?_
                refine s_callV_v (pc := 154) (M1 := M_X10_fail) (n := 0) (as := []) (a := 8) (st := []) dX10_operand_154 G_X10_fail wm_X10_36 (by decide +kernel) rfl (Nat.le_of_ble_eq_true rfl) shp_8 rfl (by show 1 ≤ d; omega) (Nat.le_of_ble_eq_true rfl) (Nat.zero_le _) (Nat.zero_le _) ?_
                refine CV.mono H (fun σ12 H => ?_)
                refine j_goto (pc := 157) (t := 164) dX10_operand_157 (by decide) ?_
                exact s_vret (pc := 164) dX10_operand_164 rfl H
              · replace H := H.2 c137
                refine j_aload_n (pc := 140) dX10_operand_140 rfl ?_
                refine j_dup (pc := 141) dX10_operand_141 rfl ?_
                refine s_geti (pc := 142) 516 (rg σ11 516) dX10_operand_142 fl_X10_23 shp_8 rfl rfl rfl ?_
                refine j_iconst (pc := 145) (v := 1) dX10_operand_145 (by decide) ?_
                refine j_iadd (pc := 146) dX10_operand_146 ?_
                refine s_put (pc := 147) 516 dX10_operand_147 fl_X10_23 shp_8 rfl rfl fp_10_4 rfl rfl ?_
                refine j_goto (pc := 150) (t := 164) dX10_operand_150 (by decide) ?_
                exact s_vret (pc := 164) dX10_operand_164 rfl H
          · replace H := H.2 c67
            refine j_aload_n (pc := 70) dX10_operand_70 rfl ?_
            refine j_dup (pc := 71) dX10_operand_71 rfl ?_
            refine s_geti (pc := 72) 516 (rg σ1 516) dX10_operand_72 fl_X10_23 shp_8 rfl rfl rfl ?_
            refine j_iconst (pc := 75) (v := 1) dX10_operand_75 (by decide) ?_
            refine j_iadd (pc := 76) dX10_operand_76 ?_
            refine s_put (pc := 77) 516 dX10_operand_77 fl_X10_23 shp_8 rfl rfl fp_10_4 rfl rfl ?_
            refine j_aload_n (pc := 80) dX10_operand_80 rfl ?_
            refine j_iload_n (pc := 81) dX10_operand_81 rfl ?_
            refine j_iconst (pc := 82) (v := 1) dX10_operand_82 (by decide) ?_
            refine j_iadd (pc := 83) dX10_operand_83 ?_
            refine s_callV_v (pc := 84) (M1 := M_X10_operand) (n := 1) (as := [.int (x1 + 1)]) (a := 8) (st := []) dX10_operand_84 G_X10_operand wm_X10_47 (by decide +kernel) rfl (Nat.le_of_ble_eq_true rfl) shp_8 rfl (by show 1 ≤ d; omega) (Nat.le_of_ble_eq_true rfl) (Nat.zero_le _) (Nat.zero_le _) ?_
            refine CV.mono H (fun σ13 H => ?_)
            refine j_aload_n (pc := 87) dX10_operand_87 rfl ?_
            refine j_iload_n (pc := 88) dX10_operand_88 rfl ?_
            refine j_bipush (pc := 89) (v := 33) dX10_operand_89 (by decide) ?_
            refine j_icmp_ne (pc := 91) (t := 99) dX10_operand_91 (by decide) (fun c91 => ?_) (fun c91 => ?_)
            · replace H := H.1 c91
              refine j_bipush (pc := 99) (v := -126) dX10_operand_99 (by decide) ?_
              refine s_callV_v (pc := 101) (M1 := M_X10_write) (n := 1) (as := [.int (-126)]) (a := 8) (st := []) dX10_operand_101 G_X10_write wm_X10_43 (by decide +kernel) rfl (Nat.le_of_ble_eq_true rfl) shp_8 rfl (by show 1 ≤ d; omega) (Nat.le_of_ble_eq_true rfl) (Nat.zero_le _) (Nat.zero_le _) ?_
              refine CV.mono H (fun σ14 H => ?_)
              refine j_goto (pc := 104) (t := 164) dX10_operand_104 (by decide) ?_
              exact s_vret (pc := 164) dX10_operand_164 rfl H
            · replace H := H.2 c91
              refine j_bipush (pc := 94) (v := -33) dX10_operand_94 (by decide) ?_
              refine j_goto (pc := 96) (t := 101) dX10_operand_96 (by decide) ?_
              refine s_callV_v (pc := 101) (M1 := M_X10_write) (n := 1) (as := [.int (-33)]) (a := 8) (st := []) dX10_operand_101 G_X10_write wm_X10_43 (by decide +kernel) rfl (Nat.le_of_ble_eq_true rfl) shp_8 rfl (by show 1 ≤ d; omega) (Nat.le_of_ble_eq_true rfl) (Nat.zero_le _) (Nat.zero_le _) ?_
              refine CV.mono H (fun σ15 H => ?_)
              refine j_goto (pc := 104) (t := 164) dX10_operand_104 (by decide) ?_
              exact s_vret (pc := 164) dX10_operand_164 rfl H
      · replace H := H.2 c48
        refine j_aload_n (pc := 51) dX10_operand_51 rfl ?_
        refine s_callV_v (pc := 52) (M1 := M_X10_fail) (n := 0) (as := []) (a := 8) (st := []) dX10_operand_52 G_X10_fail wm_X10_36 (by decide +kernel) rfl (Nat.le_of_ble_eq_true rfl) shp_8 rfl (by show 1 ≤ d; omega) (Nat.le_of_ble_eq_true rfl) (Nat.zero_le _) (Nat.zero_le _) ?_
        refine CV.mono H (fun σ16 H => ?_)
        refine j_goto (pc := 55) (t := 164) dX10_operand_55 (by decide) ?_
        exact s_vret (pc := 164) dX10_operand_164 rfl H
set_option maxRecDepth 20000 in
theorem b_X10_isJoint_0 {l : Launch} {g : am_G} {d : Nat} {σ : am_S} {k : Int32 → am_S → Prop}  {x0 x1 : Int32} (H : (((x1.toInt < 0 ∨ 3 < x1.toInt) → ((x0 = 42 → k 1 σ) ∧ (¬ x0 = 42 → ((x0 = 47 → k 1 σ) ∧ (¬ x0 = 47 → ((¬ x0 = 37 → k 0 σ) ∧ (x0 = 37 → k 1 σ))))))) ∧ (x1 = 0 → ((¬ x0 = 124 → k 0 σ) ∧ (x0 = 124 → k 1 σ))) ∧ (x1 = 1 → ((¬ x0 = 38 → k 0 σ) ∧ (x0 = 38 → k 1 σ))) ∧ (x1 = 2 → ((x0 = 60 → k 1 σ) ∧ (¬ x0 = 60 → ((x0 = 61 → k 1 σ) ∧ (¬ x0 = 61 → ((¬ x0 = 62 → k 0 σ) ∧ (x0 = 62 → k 1 σ))))))) ∧ (x1 = 3 → ((x0 = 43 → k 1 σ) ∧ (¬ x0 = 43 → ((¬ x0 = 45 → k 0 σ) ∧ (x0 = 45 → k 1 σ))))))) : CI l g M_X10_isJoint d [.int x0, .int x1] σ k := by
  show J l g (M_X10_isJoint, d, 0, 0) 0 [(0, .int x0), (1, .int x1)] [] (hp σ) 0 0 (kI k)
  refine j_iload_n (pc := 0) dX10_isJoint_0 rfl ?_
  rcases sw_cases x1 0 3 with c1 | c1
  · replace H := H.1 c1
    refine j_tableOut (pc := 1) (t := 98) dX10_isJoint_1 c1 (by decide) ?_
    refine j_iload_n (pc := 98) dX10_isJoint_98 rfl ?_
    refine j_bipush (pc := 99) (v := 42) dX10_isJoint_99 (by decide) ?_
    refine j_icmp_eq (pc := 101) (t := 116) dX10_isJoint_101 (by decide) (fun c101 => ?_) (fun c101 => ?_)
    · replace H := H.1 c101
      refine j_iconst (pc := 116) (v := 1) dX10_isJoint_116 (by decide) ?_
      refine j_goto (pc := 117) (t := 121) dX10_isJoint_117 (by decide) ?_
      exact s_iretz (pc := 121) dX10_isJoint_121 rfl rfl H
    · replace H := H.2 c101
      refine j_iload_n (pc := 104) dX10_isJoint_104 rfl ?_
      refine j_bipush (pc := 105) (v := 47) dX10_isJoint_105 (by decide) ?_
      refine j_icmp_eq (pc := 107) (t := 116) dX10_isJoint_107 (by decide) (fun c107 => ?_) (fun c107 => ?_)
      · replace H := H.1 c107
        refine j_iconst (pc := 116) (v := 1) dX10_isJoint_116 (by decide) ?_
        refine j_goto (pc := 117) (t := 121) dX10_isJoint_117 (by decide) ?_
        exact s_iretz (pc := 121) dX10_isJoint_121 rfl rfl H
      · replace H := H.2 c107
        refine j_iload_n (pc := 110) dX10_isJoint_110 rfl ?_
        refine j_bipush (pc := 111) (v := 37) dX10_isJoint_111 (by decide) ?_
        refine j_icmp_ne (pc := 113) (t := 120) dX10_isJoint_113 (by decide) (fun c113 => ?_) (fun c113 => ?_)
        · replace H := H.1 c113
          refine j_iconst (pc := 120) (v := 0) dX10_isJoint_120 (by decide) ?_
          exact s_iretz (pc := 121) dX10_isJoint_121 rfl rfl H
        · replace H := H.2 c113
          refine j_iconst (pc := 116) (v := 1) dX10_isJoint_116 (by decide) ?_
          refine j_goto (pc := 117) (t := 121) dX10_isJoint_117 (by decide) ?_
          exact s_iretz (pc := 121) dX10_isJoint_121 rfl rfl H
  · replace H := H.2
    by_cases c1_0 : x1 = 0
    · replace H := H.1 c1_0
      refine j_tableIn (pc := 1) (t := 32) (off := 31) dX10_isJoint_1 (by rw [c1_0]; decide) (by rw [c1_0]; decide) (by rw [c1_0]; rfl) (by decide) ?_
      refine j_iload_n (pc := 32) dX10_isJoint_32 rfl ?_
      refine j_bipush (pc := 33) (v := 124) dX10_isJoint_33 (by decide) ?_
      refine j_icmp_ne (pc := 35) (t := 42) dX10_isJoint_35 (by decide) (fun c35 => ?_) (fun c35 => ?_)
      · replace H := H.1 c35
        refine j_iconst (pc := 42) (v := 0) dX10_isJoint_42 (by decide) ?_
        exact s_iretz (pc := 43) dX10_isJoint_43 rfl rfl H
      · replace H := H.2 c35
        refine j_iconst (pc := 38) (v := 1) dX10_isJoint_38 (by decide) ?_
        refine j_goto (pc := 39) (t := 43) dX10_isJoint_39 (by decide) ?_
        exact s_iretz (pc := 43) dX10_isJoint_43 rfl rfl H
    by_cases c1_1 : x1 = 1
    · replace H := H.2.1 c1_1
      refine j_tableIn (pc := 1) (t := 44) (off := 43) dX10_isJoint_1 (by rw [c1_1]; decide) (by rw [c1_1]; decide) (by rw [c1_1]; rfl) (by decide) ?_
      refine j_iload_n (pc := 44) dX10_isJoint_44 rfl ?_
      refine j_bipush (pc := 45) (v := 38) dX10_isJoint_45 (by decide) ?_
      refine j_icmp_ne (pc := 47) (t := 54) dX10_isJoint_47 (by decide) (fun c47 => ?_) (fun c47 => ?_)
      · replace H := H.1 c47
        refine j_iconst (pc := 54) (v := 0) dX10_isJoint_54 (by decide) ?_
        exact s_iretz (pc := 55) dX10_isJoint_55 rfl rfl H
      · replace H := H.2 c47
        refine j_iconst (pc := 50) (v := 1) dX10_isJoint_50 (by decide) ?_
        refine j_goto (pc := 51) (t := 55) dX10_isJoint_51 (by decide) ?_
        exact s_iretz (pc := 55) dX10_isJoint_55 rfl rfl H
    by_cases c1_2 : x1 = 2
    · replace H := H.2.2.1 c1_2
      refine j_tableIn (pc := 1) (t := 56) (off := 55) dX10_isJoint_1 (by rw [c1_2]; decide) (by rw [c1_2]; decide) (by rw [c1_2]; rfl) (by decide) ?_
      refine j_iload_n (pc := 56) dX10_isJoint_56 rfl ?_
      refine j_bipush (pc := 57) (v := 60) dX10_isJoint_57 (by decide) ?_
      refine j_icmp_eq (pc := 59) (t := 74) dX10_isJoint_59 (by decide) (fun c59 => ?_) (fun c59 => ?_)
      · replace H := H.1 c59
        refine j_iconst (pc := 74) (v := 1) dX10_isJoint_74 (by decide) ?_
        refine j_goto (pc := 75) (t := 79) dX10_isJoint_75 (by decide) ?_
        exact s_iretz (pc := 79) dX10_isJoint_79 rfl rfl H
      · replace H := H.2 c59
        refine j_iload_n (pc := 62) dX10_isJoint_62 rfl ?_
        refine j_bipush (pc := 63) (v := 61) dX10_isJoint_63 (by decide) ?_
        refine j_icmp_eq (pc := 65) (t := 74) dX10_isJoint_65 (by decide) (fun c65 => ?_) (fun c65 => ?_)
        · replace H := H.1 c65
          refine j_iconst (pc := 74) (v := 1) dX10_isJoint_74 (by decide) ?_
          refine j_goto (pc := 75) (t := 79) dX10_isJoint_75 (by decide) ?_
          exact s_iretz (pc := 79) dX10_isJoint_79 rfl rfl H
        · replace H := H.2 c65
          refine j_iload_n (pc := 68) dX10_isJoint_68 rfl ?_
          refine j_bipush (pc := 69) (v := 62) dX10_isJoint_69 (by decide) ?_
          refine j_icmp_ne (pc := 71) (t := 78) dX10_isJoint_71 (by decide) (fun c71 => ?_) (fun c71 => ?_)
          · replace H := H.1 c71
            refine j_iconst (pc := 78) (v := 0) dX10_isJoint_78 (by decide) ?_
            exact s_iretz (pc := 79) dX10_isJoint_79 rfl rfl H
          · replace H := H.2 c71
            refine j_iconst (pc := 74) (v := 1) dX10_isJoint_74 (by decide) ?_
            refine j_goto (pc := 75) (t := 79) dX10_isJoint_75 (by decide) ?_
            exact s_iretz (pc := 79) dX10_isJoint_79 rfl rfl H
    by_cases c1_3 : x1 = 3
    · replace H := H.2.2.2 c1_3
      refine j_tableIn (pc := 1) (t := 80) (off := 79) dX10_isJoint_1 (by rw [c1_3]; decide) (by rw [c1_3]; decide) (by rw [c1_3]; rfl) (by decide) ?_
      refine j_iload_n (pc := 80) dX10_isJoint_80 rfl ?_
      refine j_bipush (pc := 81) (v := 43) dX10_isJoint_81 (by decide) ?_
      refine j_icmp_eq (pc := 83) (t := 92) dX10_isJoint_83 (by decide) (fun c83 => ?_) (fun c83 => ?_)
      · replace H := H.1 c83
        refine j_iconst (pc := 92) (v := 1) dX10_isJoint_92 (by decide) ?_
        refine j_goto (pc := 93) (t := 97) dX10_isJoint_93 (by decide) ?_
        exact s_iretz (pc := 97) dX10_isJoint_97 rfl rfl H
      · replace H := H.2 c83
        refine j_iload_n (pc := 86) dX10_isJoint_86 rfl ?_
        refine j_bipush (pc := 87) (v := 45) dX10_isJoint_87 (by decide) ?_
        refine j_icmp_ne (pc := 89) (t := 96) dX10_isJoint_89 (by decide) (fun c89 => ?_) (fun c89 => ?_)
        · replace H := H.1 c89
          refine j_iconst (pc := 96) (v := 0) dX10_isJoint_96 (by decide) ?_
          exact s_iretz (pc := 97) dX10_isJoint_97 rfl rfl H
        · replace H := H.2 c89
          refine j_iconst (pc := 92) (v := 1) dX10_isJoint_92 (by decide) ?_
          refine j_goto (pc := 93) (t := 97) dX10_isJoint_93 (by decide) ?_
          exact s_iretz (pc := 97) dX10_isJoint_97 rfl rfl H
    exact (sw_end_0_3 c1 c1_0 c1_1 c1_2 c1_3).elim
set_option maxRecDepth 20000 in
theorem b_X10_level_0 {l : Launch} {g : am_G} {d : Nat} {σ : am_S} {k : am_S → Prop}  {x1 x2 : Int32} (hd : 1 ≤ d) (H : ((x1 < 5 → CV l g M_X10_level (d - 1) [.ref 8, .int (x1 + 1), .int x2] σ (fun σ1 => JV l g M_X10_level d 21 [(0, .ref 8), (1, .int x1), (2, .int x2), (3, .int 0)] [] σ1 k)) ∧ (¬ x1 < 5 → CV l g M_X10_operand (d - 1) [.ref 8, .int x2] σ (fun σ2 => k σ2)))) : CV l g M_X10_level d [.ref 8, .int x1, .int x2] σ k := by
  show J l g (M_X10_level, d, 0, 0) 0 [(0, .ref 8), (1, .int x1), (2, .int x2)] [] (hp σ) 0 0 (kV k)
  refine j_iload_n (pc := 0) dX10_level_0 rfl ?_
  refine j_iconst (pc := 1) (v := 5) dX10_level_1 (by decide) ?_
  refine j_icmp_lt (pc := 2) (t := 11) dX10_level_2 (by decide) (fun c2 => ?_) (fun c2 => ?_)
  · replace H := H.1 c2
    refine j_aload_n (pc := 11) dX10_level_11 rfl ?_
    refine j_iload_n (pc := 12) dX10_level_12 rfl ?_
    refine j_iconst (pc := 13) (v := 1) dX10_level_13 (by decide) ?_
    refine j_iadd (pc := 14) dX10_level_14 ?_
    refine j_iload_n (pc := 15) dX10_level_15 rfl ?_
    refine s_callV_v (pc := 16) (M1 := M_X10_level) (n := 2) (as := [.int (x1 + 1), .int x2]) (a := 8) (st := []) dX10_level_16 G_X10_level wm_X10_39 (by decide +kernel) rfl (Nat.le_of_ble_eq_true rfl) shp_8 rfl (by show 1 ≤ d; omega) (Nat.le_of_ble_eq_true rfl) (Nat.zero_le _) (Nat.zero_le _) ?_
    refine CV.mono H (fun σ1 H => ?_)
    refine j_iconst (pc := 19) (v := 0) dX10_level_19 (by decide) ?_
    refine j_istore_n (pc := 20) (lv1 := [(3, .int 0), (0, .ref 8), (1, .int x1), (2, .int x2)]) dX10_level_20 (Nat.le_of_ble_eq_true rfl) rfl ?_
    refine j_sub [1, 2, 3, 0] rfl ?_
    exact H
  · replace H := H.2 c2
    refine j_aload_n (pc := 5) dX10_level_5 rfl ?_
    refine j_iload_n (pc := 6) dX10_level_6 rfl ?_
    refine s_callV_v (pc := 7) (M1 := M_X10_operand) (n := 1) (as := [.int x2]) (a := 8) (st := []) dX10_level_7 G_X10_operand wm_X10_47 (by decide +kernel) rfl (Nat.le_of_ble_eq_true rfl) shp_8 rfl (by show 1 ≤ d; omega) (Nat.le_of_ble_eq_true rfl) (Nat.zero_le _) (Nat.zero_le _) ?_
    refine CV.mono H (fun σ2 H => ?_)
    exact s_vret (pc := 10) dX10_level_10 rfl H
set_option maxRecDepth 20000 in
theorem b_X10_level_21 {l : Launch} {g : am_G} {d : Nat} {σ : am_S} {k : am_S → Prop}  {x1 x2 x3 : Int32} (hd : 1 ≤ d) (H : ((120 ≤ x3 → k σ) ∧ (¬ 120 ≤ x3 → CI l g M_X10_next (d - 1) [.ref 8] σ (fun r1 σ1 => CI l g M_X10_isJoint (d - 1) [.int r1, .int x1] σ1 (fun r2 σ2 => ((r2 = 0 → k σ2) ∧ (¬ r2 = 0 → CI l g M_X10_next (d - 1) [.ref 8] σ2 (fun r3 σ3 => CV l g M_X10_level (d - 1) [.ref 8, .int (x1 + 1), .int x2] (sR σ3 516 ((rg σ3 516) + 1)) (fun σ4 => CV l g M_X10_write (d - 1) [.ref 8, .int (-r3)] σ4 (fun σ5 => ((¬ x1 = 2 → JV l g M_X10_level d 21 [(0, .ref 8), (1, .int x1), (2, .int x2), (3, .int (x3 + 1))] [] σ5 k) ∧ (x1 = 2 → k σ5)))))))))))) : JV l g M_X10_level d 21 [(0, .ref 8), (1, .int x1), (2, .int x2), (3, .int x3)] [] σ k := by
  show J l g (M_X10_level, d, 0, 0) 21 [(0, .ref 8), (1, .int x1), (2, .int x2), (3, .int x3)] [] (hp σ) 0 0 (kV k)
  refine j_iload_n (pc := 21) dX10_level_21 rfl ?_
  refine j_bipush (pc := 22) (v := 120) dX10_level_22 (by decide) ?_
  refine j_icmp_ge (pc := 24) (t := 81) dX10_level_24 (by decide) (fun c24 => ?_) (fun c24 => ?_)
  · replace H := H.1 c24
    exact s_vret (pc := 81) dX10_level_81 rfl H
  · replace H := H.2 c24
    refine j_aload_n (pc := 27) dX10_level_27 rfl ?_
    refine s_callV_i (pc := 28) (M1 := M_X10_next) (n := 0) (as := []) (a := 8) (st := []) dX10_level_28 G_X10_next wm_X10_32 (by decide +kernel) rfl (Nat.le_of_ble_eq_true rfl) shp_8 rfl (by show 1 ≤ d; omega) (Nat.le_of_ble_eq_true rfl) (Nat.zero_le _) (Nat.zero_le _) ?_
    refine CI.mono H (fun r1 σ1 H => ?_)
    refine j_iload_n (pc := 31) dX10_level_31 rfl ?_
    refine s_callS_i (pc := 32) (M1 := M_X10_isJoint) (n := 2) (as := [.int r1, .int x1]) (st := []) dX10_level_32 G_X10_isJoint wm_X10_50 (by decide +kernel) rfl (Nat.le_of_ble_eq_true rfl) (by show 1 ≤ d; omega) (Nat.le_of_ble_eq_true rfl) ?_
    refine CI.mono H (fun r2 σ2 H => ?_)
    refine j_if_eq (pc := 35) (t := 81) dX10_level_35 (by decide) (fun c35 => ?_) (fun c35 => ?_)
    · replace H := H.1 c35
      exact s_vret (pc := 81) dX10_level_81 rfl H
    · replace H := H.2 c35
      refine j_aload_n (pc := 38) dX10_level_38 rfl ?_
      refine s_callV_i (pc := 39) (M1 := M_X10_next) (n := 0) (as := []) (a := 8) (st := []) dX10_level_39 G_X10_next wm_X10_32 (by decide +kernel) rfl (Nat.le_of_ble_eq_true rfl) shp_8 rfl (by show 1 ≤ d; omega) (Nat.le_of_ble_eq_true rfl) (Nat.zero_le _) (Nat.zero_le _) ?_
      refine CI.mono H (fun r3 σ3 H => ?_)
      refine j_istore (pc := 42) (lv1 := [(4, .int r3), (0, .ref 8), (1, .int x1), (2, .int x2), (3, .int x3)]) dX10_level_42 (Nat.le_of_ble_eq_true rfl) rfl ?_
      refine j_aload_n (pc := 44) dX10_level_44 rfl ?_
      refine j_dup (pc := 45) dX10_level_45 rfl ?_
      refine s_geti (pc := 46) 516 (rg σ3 516) dX10_level_46 fl_X10_23 shp_8 rfl rfl rfl ?_
      refine j_iconst (pc := 49) (v := 1) dX10_level_49 (by decide) ?_
      refine j_iadd (pc := 50) dX10_level_50 ?_
      refine s_put (pc := 51) 516 dX10_level_51 fl_X10_23 shp_8 rfl rfl fp_10_4 rfl rfl ?_
      refine j_aload_n (pc := 54) dX10_level_54 rfl ?_
      refine j_iload_n (pc := 55) dX10_level_55 rfl ?_
      refine j_iconst (pc := 56) (v := 1) dX10_level_56 (by decide) ?_
      refine j_iadd (pc := 57) dX10_level_57 ?_
      refine j_iload_n (pc := 58) dX10_level_58 rfl ?_
      refine s_callV_v (pc := 59) (M1 := M_X10_level) (n := 2) (as := [.int (x1 + 1), .int x2]) (a := 8) (st := []) dX10_level_59 G_X10_level wm_X10_39 (by decide +kernel) rfl (Nat.le_of_ble_eq_true rfl) shp_8 rfl (by show 1 ≤ d; omega) (Nat.le_of_ble_eq_true rfl) (Nat.zero_le _) (Nat.zero_le _) ?_
      refine CV.mono H (fun σ4 H => ?_)
      refine j_aload_n (pc := 62) dX10_level_62 rfl ?_
      refine j_iload (pc := 63) dX10_level_63 rfl ?_
      refine j_ineg (pc := 65) dX10_level_65 ?_
      refine s_callV_v (pc := 66) (M1 := M_X10_write) (n := 1) (as := [.int (-r3)]) (a := 8) (st := []) dX10_level_66 G_X10_write wm_X10_43 (by decide +kernel) rfl (Nat.le_of_ble_eq_true rfl) shp_8 rfl (by show 1 ≤ d; omega) (Nat.le_of_ble_eq_true rfl) (Nat.zero_le _) (Nat.zero_le _) ?_
      refine CV.mono H (fun σ5 H => ?_)
      refine j_iload_n (pc := 69) dX10_level_69 rfl ?_
      refine j_iconst (pc := 70) (v := 2) dX10_level_70 (by decide) ?_
      refine j_icmp_ne (pc := 71) (t := 75) dX10_level_71 (by decide) (fun c71 => ?_) (fun c71 => ?_)
      · replace H := H.1 c71
        refine j_iinc (pc := 75) (k := 4) (v := x3 + 1) (lv1 := [(3, .int (x3 + 1)), (4, .int r3), (0, .ref 8), (1, .int x1), (2, .int x2)]) dX10_level_75 rfl rfl (Nat.le_of_ble_eq_true rfl) rfl ?_
        refine j_goto (pc := 78) (t := 21) dX10_level_78 (by decide) ?_
        refine j_sub [2, 3, 4, 0] rfl ?_
        exact H
      · replace H := H.2 c71
        exact s_vret (pc := 74) dX10_level_74 rfl H
set_option maxRecDepth 20000 in
theorem b_X10_line_0 {l : Launch} {g : am_G} {d : Nat} {σ : am_S} {k : am_S → Prop}   (hd : 1 ≤ d) (H : CV l g M_X10_level (d - 1) [.ref 8, .int 0, .int 0] σ (fun σ1 => CI l g M_X10_next (d - 1) [.ref 8] σ1 (fun r2 σ2 => ((¬ r2 = 63 → CV l g M_X10_write (d - 1) [.ref 8, .int (-59)] σ2 (fun σ3 => k σ3)) ∧ (r2 = 63 → CV l g M_X10_write (d - 1) [.ref 8, .int (-63)] (sR σ2 516 ((rg σ2 516) + 1)) (fun σ4 => CV l g M_X10_level (d - 1) [.ref 8, .int 0, .int 0] σ4 (fun σ5 => CV l g M_X10_write (d - 1) [.ref 8, .int (-59)] σ5 (fun σ6 => k σ6)))))))) : CV l g M_X10_line d [.ref 8] σ k := by
  show J l g (M_X10_line, d, 0, 0) 0 [(0, .ref 8)] [] (hp σ) 0 0 (kV k)
  refine j_aload_n (pc := 0) dX10_line_0 rfl ?_
  refine j_iconst (pc := 1) (v := 0) dX10_line_1 (by decide) ?_
  refine j_iconst (pc := 2) (v := 0) dX10_line_2 (by decide) ?_
  refine s_callV_v (pc := 3) (M1 := M_X10_level) (n := 2) (as := [.int 0, .int 0]) (a := 8) (st := []) dX10_line_3 G_X10_level wm_X10_39 (by decide +kernel) rfl (Nat.le_of_ble_eq_true rfl) shp_8 rfl (by show 1 ≤ d; omega) (Nat.le_of_ble_eq_true rfl) (Nat.zero_le _) (Nat.zero_le _) ?_
  refine CV.mono H (fun σ1 H => ?_)
  refine j_aload_n (pc := 6) dX10_line_6 rfl ?_
  refine s_callV_i (pc := 7) (M1 := M_X10_next) (n := 0) (as := []) (a := 8) (st := []) dX10_line_7 G_X10_next wm_X10_32 (by decide +kernel) rfl (Nat.le_of_ble_eq_true rfl) shp_8 rfl (by show 1 ≤ d; omega) (Nat.le_of_ble_eq_true rfl) (Nat.zero_le _) (Nat.zero_le _) ?_
  refine CI.mono H (fun r2 σ2 H => ?_)
  refine j_bipush (pc := 10) (v := 63) dX10_line_10 (by decide) ?_
  refine j_icmp_ne (pc := 12) (t := 37) dX10_line_12 (by decide) (fun c12 => ?_) (fun c12 => ?_)
  · replace H := H.1 c12
    refine j_aload_n (pc := 37) dX10_line_37 rfl ?_
    refine j_bipush (pc := 38) (v := -59) dX10_line_38 (by decide) ?_
    refine s_callV_v (pc := 40) (M1 := M_X10_write) (n := 1) (as := [.int (-59)]) (a := 8) (st := []) dX10_line_40 G_X10_write wm_X10_43 (by decide +kernel) rfl (Nat.le_of_ble_eq_true rfl) shp_8 rfl (by show 1 ≤ d; omega) (Nat.le_of_ble_eq_true rfl) (Nat.zero_le _) (Nat.zero_le _) ?_
    refine CV.mono H (fun σ3 H => ?_)
    exact s_vret (pc := 43) dX10_line_43 rfl H
  · replace H := H.2 c12
    refine j_aload_n (pc := 15) dX10_line_15 rfl ?_
    refine j_dup (pc := 16) dX10_line_16 rfl ?_
    refine s_geti (pc := 17) 516 (rg σ2 516) dX10_line_17 fl_X10_23 shp_8 rfl rfl rfl ?_
    refine j_iconst (pc := 20) (v := 1) dX10_line_20 (by decide) ?_
    refine j_iadd (pc := 21) dX10_line_21 ?_
    refine s_put (pc := 22) 516 dX10_line_22 fl_X10_23 shp_8 rfl rfl fp_10_4 rfl rfl ?_
    refine j_aload_n (pc := 25) dX10_line_25 rfl ?_
    refine j_bipush (pc := 26) (v := -63) dX10_line_26 (by decide) ?_
    refine s_callV_v (pc := 28) (M1 := M_X10_write) (n := 1) (as := [.int (-63)]) (a := 8) (st := []) dX10_line_28 G_X10_write wm_X10_43 (by decide +kernel) rfl (Nat.le_of_ble_eq_true rfl) shp_8 rfl (by show 1 ≤ d; omega) (Nat.le_of_ble_eq_true rfl) (Nat.zero_le _) (Nat.zero_le _) ?_
    refine CV.mono H (fun σ4 H => ?_)
    refine j_aload_n (pc := 31) dX10_line_31 rfl ?_
    refine j_iconst (pc := 32) (v := 0) dX10_line_32 (by decide) ?_
    refine j_iconst (pc := 33) (v := 0) dX10_line_33 (by decide) ?_
    refine s_callV_v (pc := 34) (M1 := M_X10_level) (n := 2) (as := [.int 0, .int 0]) (a := 8) (st := []) dX10_line_34 G_X10_level wm_X10_39 (by decide +kernel) rfl (Nat.le_of_ble_eq_true rfl) shp_8 rfl (by show 1 ≤ d; omega) (Nat.le_of_ble_eq_true rfl) (Nat.zero_le _) (Nat.zero_le _) ?_
    refine CV.mono H (fun σ5 H => ?_)
    refine j_aload_n (pc := 37) dX10_line_37 rfl ?_
    refine j_bipush (pc := 38) (v := -59) dX10_line_38 (by decide) ?_
    refine s_callV_v (pc := 40) (M1 := M_X10_write) (n := 1) (as := [.int (-59)]) (a := 8) (st := []) dX10_line_40 G_X10_write wm_X10_43 (by decide +kernel) rfl (Nat.le_of_ble_eq_true rfl) shp_8 rfl (by show 1 ≤ d; omega) (Nat.le_of_ble_eq_true rfl) (Nat.zero_le _) (Nat.zero_le _) ?_
    refine CV.mono H (fun σ6 H => ?_)
    exact s_vret (pc := 43) dX10_line_43 rfl H
set_option maxRecDepth 20000 in
theorem b_X10_read_0 {l : Launch} {g : am_G} {d : Nat} {σ : am_S} {k : Int32 → am_S → Prop}   (hd : 1 ≤ d) (H : CV l g M_X10_line (d - 1) [.ref 8] (sR (sR (sR σ 516 0) 517 (-1)) 515 0) (fun σ1 => JI l g M_X10_read d 21 [(0, .ref 8), (1, .int 1)] [] σ1 k)) : CI l g M_X10_read d [.ref 8] σ k := by
  show J l g (M_X10_read, d, 0, 0) 0 [(0, .ref 8)] [] (hp σ) 0 0 (kI k)
  refine j_aload_n (pc := 0) dX10_read_0 rfl ?_
  refine j_iconst (pc := 1) (v := 0) dX10_read_1 (by decide) ?_
  refine s_put (pc := 2) 516 dX10_read_2 fl_X10_23 shp_8 rfl rfl fp_10_4 rfl rfl ?_
  refine j_aload_n (pc := 5) dX10_read_5 rfl ?_
  refine j_iconst (pc := 6) (v := -1) dX10_read_6 (by decide) ?_
  refine s_put (pc := 7) 517 dX10_read_7 fl_X10_26 shp_8 rfl rfl fp_10_5 rfl rfl ?_
  refine j_aload_n (pc := 10) dX10_read_10 rfl ?_
  refine j_iconst (pc := 11) (v := 0) dX10_read_11 (by decide) ?_
  refine s_put (pc := 12) 515 dX10_read_12 fl_X10_20 shp_8 rfl rfl fp_10_3 rfl rfl ?_
  refine j_aload_n (pc := 15) dX10_read_15 rfl ?_
  refine s_callV_v (pc := 16) (M1 := M_X10_line) (n := 0) (as := []) (a := 8) (st := []) dX10_read_16 G_X10_line wm_X10_29 (by decide +kernel) rfl (Nat.le_of_ble_eq_true rfl) shp_8 rfl (by show 1 ≤ d; omega) (Nat.le_of_ble_eq_true rfl) (Nat.zero_le _) (Nat.zero_le _) ?_
  refine CV.mono H (fun σ1 H => ?_)
  refine j_iconst (pc := 19) (v := 1) dX10_read_19 (by decide) ?_
  refine j_istore_n (pc := 20) (lv1 := [(1, .int 1), (0, .ref 8)]) dX10_read_20 (Nat.le_of_ble_eq_true rfl) rfl ?_
  refine j_sub [1, 0] rfl ?_
  exact H
set_option maxRecDepth 20000 in
theorem b_X10_read_21 {l : Launch} {g : am_G} {d : Nat} {σ : am_S} {k : Int32 → am_S → Prop}  {x1 : Int32} (hd : 1 ≤ d) (H : ((120 ≤ x1 → ((rg σ 513 ≤ rg σ 516 → k (rg σ 517) σ) ∧ (¬ rg σ 513 ≤ rg σ 516 → CV l g M_X10_fail (d - 1) [.ref 8] σ (fun σ1 => k (rg σ1 517) σ1)))) ∧ (¬ 120 ≤ x1 → CI l g M_X10_next (d - 1) [.ref 8] σ (fun r2 σ2 => ((¬ r2 = 59 → ((rg σ2 513 ≤ rg σ2 516 → k (rg σ2 517) σ2) ∧ (¬ rg σ2 513 ≤ rg σ2 516 → CV l g M_X10_fail (d - 1) [.ref 8] σ2 (fun σ3 => k (rg σ3 517) σ3)))) ∧ (r2 = 59 → CV l g M_X10_line (d - 1) [.ref 8] (sR σ2 516 ((rg σ2 516) + 1)) (fun σ4 => JI l g M_X10_read d 21 [(0, .ref 8), (1, .int (x1 + 1))] [] σ4 k))))))) : JI l g M_X10_read d 21 [(0, .ref 8), (1, .int x1)] [] σ k := by
  show J l g (M_X10_read, d, 0, 0) 21 [(0, .ref 8), (1, .int x1)] [] (hp σ) 0 0 (kI k)
  refine j_iload_n (pc := 21) dX10_read_21 rfl ?_
  refine j_bipush (pc := 22) (v := 120) dX10_read_22 (by decide) ?_
  refine j_icmp_ge (pc := 24) (t := 56) dX10_read_24 (by decide) (fun c24 => ?_) (fun c24 => ?_)
  · replace H := H.1 c24
    refine j_aload_n (pc := 56) dX10_read_56 rfl ?_
    refine s_geti (pc := 57) 516 (rg σ 516) dX10_read_57 fl_X10_23 shp_8 rfl rfl rfl ?_
    refine j_aload_n (pc := 60) dX10_read_60 rfl ?_
    refine s_geti (pc := 61) 513 (rg σ 513) dX10_read_61 fl_X10_13 shp_8 rfl rfl rfl ?_
    refine j_icmp_ge (pc := 64) (t := 71) dX10_read_64 (by decide) (fun c64 => ?_) (fun c64 => ?_)
    · replace H := H.1 c64
      refine j_aload_n (pc := 71) dX10_read_71 rfl ?_
      refine s_geti (pc := 72) 517 (rg σ 517) dX10_read_72 fl_X10_26 shp_8 rfl rfl rfl ?_
      exact s_ireti (pc := 75) dX10_read_75 rfl H
    · replace H := H.2 c64
      refine j_aload_n (pc := 67) dX10_read_67 rfl ?_
      refine s_callV_v (pc := 68) (M1 := M_X10_fail) (n := 0) (as := []) (a := 8) (st := []) dX10_read_68 G_X10_fail wm_X10_36 (by decide +kernel) rfl (Nat.le_of_ble_eq_true rfl) shp_8 rfl (by show 1 ≤ d; omega) (Nat.le_of_ble_eq_true rfl) (Nat.zero_le _) (Nat.zero_le _) ?_
      refine CV.mono H (fun σ1 H => ?_)
      refine j_aload_n (pc := 71) dX10_read_71 rfl ?_
      refine s_geti (pc := 72) 517 (rg σ1 517) dX10_read_72 fl_X10_26 shp_8 rfl rfl rfl ?_
      exact s_ireti (pc := 75) dX10_read_75 rfl H
  · replace H := H.2 c24
    refine j_aload_n (pc := 27) dX10_read_27 rfl ?_
    refine s_callV_i (pc := 28) (M1 := M_X10_next) (n := 0) (as := []) (a := 8) (st := []) dX10_read_28 G_X10_next wm_X10_32 (by decide +kernel) rfl (Nat.le_of_ble_eq_true rfl) shp_8 rfl (by show 1 ≤ d; omega) (Nat.le_of_ble_eq_true rfl) (Nat.zero_le _) (Nat.zero_le _) ?_
    refine CI.mono H (fun r2 σ2 H => ?_)
    refine j_bipush (pc := 31) (v := 59) dX10_read_31 (by decide) ?_
    refine j_icmp_ne (pc := 33) (t := 56) dX10_read_33 (by decide) (fun c33 => ?_) (fun c33 => ?_)
    · replace H := H.1 c33
      refine j_aload_n (pc := 56) dX10_read_56 rfl ?_
      refine s_geti (pc := 57) 516 (rg σ2 516) dX10_read_57 fl_X10_23 shp_8 rfl rfl rfl ?_
      refine j_aload_n (pc := 60) dX10_read_60 rfl ?_
      refine s_geti (pc := 61) 513 (rg σ2 513) dX10_read_61 fl_X10_13 shp_8 rfl rfl rfl ?_
      refine j_icmp_ge (pc := 64) (t := 71) dX10_read_64 (by decide) (fun c64 => ?_) (fun c64 => ?_)
      · replace H := H.1 c64
        refine j_aload_n (pc := 71) dX10_read_71 rfl ?_
        refine s_geti (pc := 72) 517 (rg σ2 517) dX10_read_72 fl_X10_26 shp_8 rfl rfl rfl ?_
        exact s_ireti (pc := 75) dX10_read_75 rfl H
      · replace H := H.2 c64
        refine j_aload_n (pc := 67) dX10_read_67 rfl ?_
        refine s_callV_v (pc := 68) (M1 := M_X10_fail) (n := 0) (as := []) (a := 8) (st := []) dX10_read_68 G_X10_fail wm_X10_36 (by decide +kernel) rfl (Nat.le_of_ble_eq_true rfl) shp_8 rfl (by show 1 ≤ d; omega) (Nat.le_of_ble_eq_true rfl) (Nat.zero_le _) (Nat.zero_le _) ?_
        refine CV.mono H (fun σ3 H => ?_)
        refine j_aload_n (pc := 71) dX10_read_71 rfl ?_
        refine s_geti (pc := 72) 517 (rg σ3 517) dX10_read_72 fl_X10_26 shp_8 rfl rfl rfl ?_
        exact s_ireti (pc := 75) dX10_read_75 rfl H
    · replace H := H.2 c33
      refine j_aload_n (pc := 36) dX10_read_36 rfl ?_
      refine j_dup (pc := 37) dX10_read_37 rfl ?_
      refine s_geti (pc := 38) 516 (rg σ2 516) dX10_read_38 fl_X10_23 shp_8 rfl rfl rfl ?_
      refine j_iconst (pc := 41) (v := 1) dX10_read_41 (by decide) ?_
      refine j_iadd (pc := 42) dX10_read_42 ?_
      refine s_put (pc := 43) 516 dX10_read_43 fl_X10_23 shp_8 rfl rfl fp_10_4 rfl rfl ?_
      refine j_aload_n (pc := 46) dX10_read_46 rfl ?_
      refine s_callV_v (pc := 47) (M1 := M_X10_line) (n := 0) (as := []) (a := 8) (st := []) dX10_read_47 G_X10_line wm_X10_29 (by decide +kernel) rfl (Nat.le_of_ble_eq_true rfl) shp_8 rfl (by show 1 ≤ d; omega) (Nat.le_of_ble_eq_true rfl) (Nat.zero_le _) (Nat.zero_le _) ?_
      refine CV.mono H (fun σ4 H => ?_)
      refine j_iinc (pc := 50) (k := 1) (v := x1 + 1) (lv1 := [(1, .int (x1 + 1)), (0, .ref 8)]) dX10_read_50 rfl rfl (Nat.le_of_ble_eq_true rfl) rfl ?_
      refine j_goto (pc := 53) (t := 21) dX10_read_53 (by decide) ?_
      refine j_sub [1, 0] rfl ?_
      exact H
set_option maxRecDepth 20000 in
theorem b_X11_room_0 {l : Launch} {g : am_G} {d : Nat} {σ : am_S} {k : Int32 → am_S → Prop}   (H : ((rg σ 64 < 4 → k (((rg σ 64) + 1) - 1) (sR σ 64 ((rg σ 64) + 1))) ∧ (¬ rg σ 64 < 4 → k (-3) σ))) : CI l g M_X11_room d [.ref 0] σ k := by
  show J l g (M_X11_room, d, 0, 0) 0 [(0, .ref 0)] [] (hp σ) 0 0 (kI k)
  refine j_aload_n (pc := 0) dX11_room_0 rfl ?_
  refine s_getr (pc := 1) dX11_room_1 fl_X11_10 shp_0 rfl ?_
  refine s_geti (pc := 4) 64 (rg σ 64) dX11_room_4 fl_X11_88 shp_1 rfl rfl rfl ?_
  refine j_iconst (pc := 7) (v := 4) dX11_room_7 (by decide) ?_
  refine j_icmp_lt (pc := 8) (t := 14) dX11_room_8 (by decide) (fun c8 => ?_) (fun c8 => ?_)
  · replace H := H.1 c8
    refine j_aload_n (pc := 14) dX11_room_14 rfl ?_
    refine s_getr (pc := 15) dX11_room_15 fl_X11_10 shp_0 rfl ?_
    refine j_dup (pc := 18) dX11_room_18 rfl ?_
    refine s_geti (pc := 19) 64 (rg σ 64) dX11_room_19 fl_X11_88 shp_1 rfl rfl rfl ?_
    refine j_iconst (pc := 22) (v := 1) dX11_room_22 (by decide) ?_
    refine j_iadd (pc := 23) dX11_room_23 ?_
    refine s_put (pc := 24) 64 dX11_room_24 fl_X11_88 shp_1 rfl rfl fp_2_0 rfl rfl ?_
    refine j_aload_n (pc := 27) dX11_room_27 rfl ?_
    refine s_getr (pc := 28) dX11_room_28 fl_X11_10 shp_0 rfl ?_
    refine s_geti (pc := 31) 64 ((rg σ 64) + 1) dX11_room_31 fl_X11_88 shp_1 rfl rfl rfl ?_
    refine j_iconst (pc := 34) (v := 1) dX11_room_34 (by decide) ?_
    refine j_isub (pc := 35) dX11_room_35 ?_
    exact s_ireti (pc := 36) dX11_room_36 rfl H
  · replace H := H.2 c8
    refine j_bipush (pc := 11) (v := -3) dX11_room_11 (by decide) ?_
    exact s_ireti (pc := 13) dX11_room_13 rfl H
set_option maxRecDepth 20000 in
theorem b_X11_door_0 {l : Launch} {g : am_G} {d : Nat} {σ : am_S} {k : Int32 → am_S → Prop}  {x1 x2 : Int32} (hd : 1 ≤ d) (H : (((¬ x1 / 10 < 0 ∧ ¬ rg σ 64 ≤ x1 / 10) → (((¬ x1 - x1 / 10 * 10 < 0 ∧ ¬ rg σ 64 ≤ x1 - x1 / 10 * 10) → ((x1 / 10 = x1 - x1 / 10 * 10 → k (-1) σ) ∧ (¬ x1 / 10 = x1 - x1 / 10 * 10 → ((x2 < 0 → k (-1) σ) ∧ (¬ x2 < 0 → ((x2 < 3 → CI l g M_X2_addDoor (d - 1) [.ref 1, .int (x1 / 10), .int (x1 - x1 / 10 * 10), .int x2] σ (fun r3 σ3 => k r3 σ3)) ∧ (¬ x2 < 3 → k (-1) σ))))))) ∧ (¬ (¬ x1 - x1 / 10 * 10 < 0 ∧ ¬ rg σ 64 ≤ x1 - x1 / 10 * 10) → k (-1) σ))) ∧ (¬ (¬ x1 / 10 < 0 ∧ ¬ rg σ 64 ≤ x1 / 10) → k (-1) σ))) : CI l g M_X11_door d [.ref 0, .int x1, .int x2] σ k := by
  show J l g (M_X11_door, d, 0, 0) 0 [(0, .ref 0), (1, .int x1), (2, .int x2)] [] (hp σ) 0 0 (kI k)
  refine j_iload_n (pc := 0) dX11_door_0 rfl ?_
  refine j_bipush (pc := 1) (v := 10) dX11_door_1 (by decide) ?_
  refine j_idiv (pc := 3) dX11_door_3 (by decide) ?_
  refine j_istore_n (pc := 4) (lv1 := [(3, .int (x1 / 10)), (0, .ref 0), (1, .int x1), (2, .int x2)]) dX11_door_4 (Nat.le_of_ble_eq_true rfl) rfl ?_
  refine j_iload_n (pc := 5) dX11_door_5 rfl ?_
  refine j_bipush (pc := 6) (v := 10) dX11_door_6 (by decide) ?_
  refine j_irem (pc := 8) dX11_door_8 (by decide) ?_
  refine j_istore (pc := 9) (lv1 := [(4, .int (x1 - x1 / 10 * 10)), (3, .int (x1 / 10)), (0, .ref 0), (1, .int x1), (2, .int x2)]) dX11_door_9 (Nat.le_of_ble_eq_true rfl) rfl ?_
  refine j_aload_n (pc := 11) dX11_door_11 rfl ?_
  refine s_getr (pc := 12) dX11_door_12 fl_X11_10 shp_0 rfl ?_
  refine j_iload_n (pc := 15) dX11_door_15 rfl ?_
  refine s_callV_i (pc := 16) (M1 := M_X2_hasRoom) (n := 1) (as := [.int (x1 / 10)]) (a := 1) (st := []) dX11_door_16 G_X2_hasRoom wm_X11_91 (by decide +kernel) rfl (Nat.le_of_ble_eq_true rfl) shp_1 rfl (by show 1 ≤ d; omega) (Nat.le_of_ble_eq_true rfl) (Nat.zero_le _) (Nat.zero_le _) ?_
  refine C_X2_hasRoom (d := d - 1) (by omega) ⟨fun c16 => ?_, fun c16 => ?_⟩
  · replace H := H.1 c16
    refine j_if_eq (pc := 19) (t := 49) dX11_door_19 (by decide) (fun q => absurd q (by decide)) (fun _ => ?_)
    refine j_aload_n (pc := 22) dX11_door_22 rfl ?_
    refine s_getr (pc := 23) dX11_door_23 fl_X11_10 shp_0 rfl ?_
    refine j_iload (pc := 26) dX11_door_26 rfl ?_
    refine s_callV_i (pc := 28) (M1 := M_X2_hasRoom) (n := 1) (as := [.int (x1 - x1 / 10 * 10)]) (a := 1) (st := []) dX11_door_28 G_X2_hasRoom wm_X11_91 (by decide +kernel) rfl (Nat.le_of_ble_eq_true rfl) shp_1 rfl (by show 1 ≤ d; omega) (Nat.le_of_ble_eq_true rfl) (Nat.zero_le _) (Nat.zero_le _) ?_
    refine C_X2_hasRoom (d := d - 1) (by omega) ⟨fun c28 => ?_, fun c28 => ?_⟩
    · replace H := H.1 c28
      refine j_if_eq (pc := 31) (t := 49) dX11_door_31 (by decide) (fun q => absurd q (by decide)) (fun _ => ?_)
      refine j_iload_n (pc := 34) dX11_door_34 rfl ?_
      refine j_iload (pc := 35) dX11_door_35 rfl ?_
      refine j_icmp_eq (pc := 37) (t := 49) dX11_door_37 (by decide) (fun c37 => ?_) (fun c37 => ?_)
      · replace H := H.1 c37
        refine j_iconst (pc := 49) (v := -1) dX11_door_49 (by decide) ?_
        exact s_ireti (pc := 50) dX11_door_50 rfl H
      · replace H := H.2 c37
        refine j_iload_n (pc := 40) dX11_door_40 rfl ?_
        refine j_if_lt (pc := 41) (t := 49) dX11_door_41 (by decide) (fun c41 => ?_) (fun c41 => ?_)
        · replace H := H.1 c41
          refine j_iconst (pc := 49) (v := -1) dX11_door_49 (by decide) ?_
          exact s_ireti (pc := 50) dX11_door_50 rfl H
        · replace H := H.2 c41
          refine j_iload_n (pc := 44) dX11_door_44 rfl ?_
          refine j_iconst (pc := 45) (v := 3) dX11_door_45 (by decide) ?_
          refine j_icmp_lt (pc := 46) (t := 51) dX11_door_46 (by decide) (fun c46 => ?_) (fun c46 => ?_)
          · replace H := H.1 c46
            refine j_aload_n (pc := 51) dX11_door_51 rfl ?_
            refine s_getr (pc := 52) dX11_door_52 fl_X11_10 shp_0 rfl ?_
            refine j_iload_n (pc := 55) dX11_door_55 rfl ?_
            refine j_iload (pc := 56) dX11_door_56 rfl ?_
            refine j_iload_n (pc := 58) dX11_door_58 rfl ?_
            refine s_callV_i (pc := 59) (M1 := M_X2_addDoor) (n := 3) (as := [.int (x1 / 10), .int (x1 - x1 / 10 * 10), .int x2]) (a := 1) (st := []) dX11_door_59 G_X2_addDoor wm_X11_95 (by decide +kernel) rfl (Nat.le_of_ble_eq_true rfl) shp_1 rfl (by show 1 ≤ d; omega) (Nat.le_of_ble_eq_true rfl) (Nat.zero_le _) (Nat.zero_le _) ?_
            refine CI.mono H (fun r3 σ3 H => ?_)
            exact s_ireti (pc := 62) dX11_door_62 rfl H
          · replace H := H.2 c46
            refine j_iconst (pc := 49) (v := -1) dX11_door_49 (by decide) ?_
            exact s_ireti (pc := 50) dX11_door_50 rfl H
    · replace H := H.2 c28
      refine j_if_eq (pc := 31) (t := 49) dX11_door_31 (by decide) (fun _ => ?_) (fun q => absurd q (by decide))
      refine j_iconst (pc := 49) (v := -1) dX11_door_49 (by decide) ?_
      exact s_ireti (pc := 50) dX11_door_50 rfl H
  · replace H := H.2 c16
    refine j_if_eq (pc := 19) (t := 49) dX11_door_19 (by decide) (fun _ => ?_) (fun q => absurd q (by decide))
    refine j_iconst (pc := 49) (v := -1) dX11_door_49 (by decide) ?_
    exact s_ireti (pc := 50) dX11_door_50 rfl H
set_option maxRecDepth 20000 in
theorem b_X11_person_0 {l : Launch} {g : am_G} {d : Nat} {σ : am_S} {k : Int32 → am_S → Prop}  {x1 x2 : Int32} (hd : 1 ≤ d) (H : CI l g M_X2_canCome (d - 1) [.ref 1, .int x1, .int x2] σ (fun r1 σ1 => ((¬ r1 = 0 → CI l g M_X2_addPerson (d - 1) [.ref 1, .int x1, .int x2] σ1 (fun r2 σ2 => k r2 σ2)) ∧ (r1 = 0 → k (-1) σ1)))) : CI l g M_X11_person d [.ref 0, .int x1, .int x2] σ k := by
  show J l g (M_X11_person, d, 0, 0) 0 [(0, .ref 0), (1, .int x1), (2, .int x2)] [] (hp σ) 0 0 (kI k)
  refine j_aload_n (pc := 0) dX11_person_0 rfl ?_
  refine s_getr (pc := 1) dX11_person_1 fl_X11_10 shp_0 rfl ?_
  refine j_iload_n (pc := 4) dX11_person_4 rfl ?_
  refine j_iload_n (pc := 5) dX11_person_5 rfl ?_
  refine s_callV_i (pc := 6) (M1 := M_X2_canCome) (n := 2) (as := [.int x1, .int x2]) (a := 1) (st := []) dX11_person_6 G_X2_canCome wm_X11_99 (by decide +kernel) rfl (Nat.le_of_ble_eq_true rfl) shp_1 rfl (by show 1 ≤ d; omega) (Nat.le_of_ble_eq_true rfl) (Nat.zero_le _) (Nat.zero_le _) ?_
  refine CI.mono H (fun r1 σ1 H => ?_)
  refine j_if_ne (pc := 9) (t := 14) dX11_person_9 (by decide) (fun c9 => ?_) (fun c9 => ?_)
  · replace H := H.1 c9
    refine j_aload_n (pc := 14) dX11_person_14 rfl ?_
    refine s_getr (pc := 15) dX11_person_15 fl_X11_10 shp_0 rfl ?_
    refine j_iload_n (pc := 18) dX11_person_18 rfl ?_
    refine j_iload_n (pc := 19) dX11_person_19 rfl ?_
    refine s_callV_i (pc := 20) (M1 := M_X2_addPerson) (n := 2) (as := [.int x1, .int x2]) (a := 1) (st := []) dX11_person_20 G_X2_addPerson wm_X11_103 (by decide +kernel) rfl (Nat.le_of_ble_eq_true rfl) shp_1 rfl (by show 1 ≤ d; omega) (Nat.le_of_ble_eq_true rfl) (Nat.zero_le _) (Nat.zero_le _) ?_
    refine CI.mono H (fun r2 σ2 H => ?_)
    exact s_ireti (pc := 23) dX11_person_23 rfl H
  · replace H := H.2 c9
    refine j_iconst (pc := 12) (v := -1) dX11_person_12 (by decide) ?_
    exact s_ireti (pc := 13) dX11_person_13 rfl H
set_option maxRecDepth 20000 in
theorem C_X11_isShelf {l : Launch} {g : am_G} {d : Nat} {σ : am_S} {k : Int32 → am_S → Prop}  {x0 : Int32} (hd : 0 ≤ d) (H : ((¬ x0 < 0 ∧ ¬ 6 ≤ x0) → k 1 σ) ∧ (¬ (¬ x0 < 0 ∧ ¬ 6 ≤ x0) → k 0 σ)) : CI l g M_X11_isShelf d [.int x0] σ k := by
  show J l g (M_X11_isShelf, d, 0, 0) 0 [(0, .int x0)] [] (hp σ) 0 0 (kI k)
  refine j_iload_n (pc := 0) dX11_isShelf_0 rfl ?_
  refine j_if_lt (pc := 1) (t := 14) dX11_isShelf_1 (by decide) (fun c1 => ?_) (fun c1 => ?_)
  · skip
    refine j_iconst (pc := 14) (v := 0) dX11_isShelf_14 (by decide) ?_
    exact s_iretz (pc := 15) dX11_isShelf_15 rfl rfl (H.2 (fun q => (q.1) c1))
  · skip
    refine j_iload_n (pc := 4) dX11_isShelf_4 rfl ?_
    refine j_bipush (pc := 5) (v := 6) dX11_isShelf_5 (by decide) ?_
    refine j_icmp_ge (pc := 7) (t := 14) dX11_isShelf_7 (by decide) (fun c7 => ?_) (fun c7 => ?_)
    · skip
      refine j_iconst (pc := 14) (v := 0) dX11_isShelf_14 (by decide) ?_
      exact s_iretz (pc := 15) dX11_isShelf_15 rfl rfl (H.2 (fun q => (q.2) c7))
    · skip
      refine j_iconst (pc := 10) (v := 1) dX11_isShelf_10 (by decide) ?_
      refine j_goto (pc := 11) (t := 15) dX11_isShelf_11 (by decide) ?_
      exact s_iretz (pc := 15) dX11_isShelf_15 rfl rfl (H.1 ⟨c1, c7⟩)
set_option maxRecDepth 20000 in
theorem b_X11_people_0 {l : Launch} {g : am_G} {d : Nat} {σ : am_S} {k : Int32 → am_S → Prop}  {x1 x2 x3 : Int32} (hd : 1 ≤ d) (H : (((¬ x1 < 0 ∧ ¬ 6 ≤ x1) → ((x3 < 1 → k (-1) σ) ∧ (¬ x3 < 1 → ((x3 ≤ 7 → (vp_in x1 6 ∧ (((rg σ (64 * (43 + 2 * x1.toNatClampNeg) + 0) = (-1) ∧ rg σ (64 * (43 + 2 * x1.toNatClampNeg) + 1) = (-1)) → k 0 σ) ∧ (¬ (rg σ (64 * (43 + 2 * x1.toNatClampNeg) + 0) = (-1) ∧ rg σ (64 * (43 + 2 * x1.toNatClampNeg) + 1) = (-1)) → CI l g M_X8_bytesRefusal (d - 1) [.ref (43 + 2 * x1.toNatClampNeg)] σ (fun r3 σ3 => ((r3 = 0 → ((0 ≤ x2 → JI l g M_X11_people d 58 [(0, .ref 0), (1, .int x1), (2, .int x2), (3, .int x3), (4, .ref (43 + 2 * x1.toNatClampNeg)), (5, .int 0)] [] σ3 k) ∧ (¬ 0 ≤ x2 → k 0 σ3))) ∧ (¬ r3 = 0 → k (-12) σ3))))))) ∧ (¬ x3 ≤ 7 → k (-1) σ))))) ∧ (¬ (¬ x1 < 0 ∧ ¬ 6 ≤ x1) → k (-1) σ))) : CI l g M_X11_people d [.ref 0, .int x1, .int x2, .int x3] σ k := by
  show J l g (M_X11_people, d, 0, 0) 0 [(0, .ref 0), (1, .int x1), (2, .int x2), (3, .int x3)] [] (hp σ) 0 0 (kI k)
  refine j_iload_n (pc := 0) dX11_people_0 rfl ?_
  refine s_callS_i (pc := 1) (M1 := M_X11_isShelf) (n := 1) (as := [.int x1]) (st := []) dX11_people_1 G_X11_isShelf wm_X11_107 (by decide +kernel) rfl (Nat.le_of_ble_eq_true rfl) (by show 1 ≤ d; omega) (Nat.le_of_ble_eq_true rfl) ?_
  refine C_X11_isShelf (d := d - 1) (by omega) ⟨fun c1 => ?_, fun c1 => ?_⟩
  · replace H := H.1 c1
    refine j_if_eq (pc := 4) (t := 18) dX11_people_4 (by decide) (fun q => absurd q (by decide)) (fun _ => ?_)
    refine j_iload_n (pc := 7) dX11_people_7 rfl ?_
    refine j_iconst (pc := 8) (v := 1) dX11_people_8 (by decide) ?_
    refine j_icmp_lt (pc := 9) (t := 18) dX11_people_9 (by decide) (fun c9 => ?_) (fun c9 => ?_)
    · replace H := H.1 c9
      refine j_iconst (pc := 18) (v := -1) dX11_people_18 (by decide) ?_
      exact s_ireti (pc := 19) dX11_people_19 rfl H
    · replace H := H.2 c9
      refine j_iload_n (pc := 12) dX11_people_12 rfl ?_
      refine j_bipush (pc := 13) (v := 7) dX11_people_13 (by decide) ?_
      refine j_icmp_le (pc := 15) (t := 20) dX11_people_15 (by decide) (fun c15 => ?_) (fun c15 => ?_)
      · replace H := H.1 c15
        refine j_aload_n (pc := 20) dX11_people_20 rfl ?_
        refine s_getr (pc := 21) dX11_people_21 fl_X11_76 shp_0 rfl ?_
        refine j_iload_n (pc := 24) dX11_people_24 rfl ?_
        have b25 := H.1
        replace H := H.2
        refine s_aald (pc := 25) (b := 43 + 2 * x1.toNatClampNeg) dX11_people_25 shp_42 b25 (shelf_at (in_lt b25)) ?_
        refine j_astore (pc := 26) (lv1 := [(4, .ref (43 + 2 * x1.toNatClampNeg)), (0, .ref 0), (1, .int x1), (2, .int x2), (3, .int x3)]) dX11_people_26 (Nat.le_of_ble_eq_true rfl) rfl ?_
        refine j_aload (pc := 28) dX11_people_28 rfl ?_
        refine s_callV_i (pc := 30) (M1 := M_X8_isEmpty) (n := 0) (as := []) (a := 43 + 2 * x1.toNatClampNeg) (st := []) dX11_people_30 G_X8_isEmpty wm_X11_110 (by decide +kernel) rfl (Nat.le_of_ble_eq_true rfl) (shp_s (in_lt b25)) rfl (by show 1 ≤ d; omega) (Nat.le_of_ble_eq_true rfl) (Nat.zero_le _) (Nat.zero_le _) ?_
        refine C_X8_isEmpty (in_lt b25) (d := d - 1) (by omega) ⟨fun c30 => ?_, fun c30 => ?_⟩
        · replace H := H.1 c30
          refine j_if_eq (pc := 33) (t := 38) dX11_people_33 (by decide) (fun q => absurd q (by decide)) (fun _ => ?_)
          refine j_iconst (pc := 36) (v := 0) dX11_people_36 (by decide) ?_
          exact s_ireti (pc := 37) dX11_people_37 rfl H
        · replace H := H.2 c30
          refine j_if_eq (pc := 33) (t := 38) dX11_people_33 (by decide) (fun _ => ?_) (fun q => absurd q (by decide))
          refine j_aload (pc := 38) dX11_people_38 rfl ?_
          refine s_callV_i (pc := 40) (M1 := M_X8_bytesRefusal) (n := 0) (as := []) (a := 43 + 2 * x1.toNatClampNeg) (st := []) dX11_people_40 G_X8_bytesRefusal wm_X11_114 (by decide +kernel) rfl (Nat.le_of_ble_eq_true rfl) (shp_s (in_lt b25)) rfl (by show 1 ≤ d; omega) (Nat.le_of_ble_eq_true rfl) (Nat.zero_le _) (Nat.zero_le _) ?_
          refine CI.mono H (fun r3 σ3 H => ?_)
          refine j_if_eq (pc := 43) (t := 49) dX11_people_43 (by decide) (fun c43 => ?_) (fun c43 => ?_)
          · replace H := H.1 c43
            refine j_iload_n (pc := 49) dX11_people_49 rfl ?_
            refine j_if_ge (pc := 50) (t := 55) dX11_people_50 (by decide) (fun c50 => ?_) (fun c50 => ?_)
            · replace H := H.1 c50
              refine j_iconst (pc := 55) (v := 0) dX11_people_55 (by decide) ?_
              refine j_istore (pc := 56) (lv1 := [(5, .int 0), (4, .ref (43 + 2 * x1.toNatClampNeg)), (0, .ref 0), (1, .int x1), (2, .int x2), (3, .int x3)]) dX11_people_56 (Nat.le_of_ble_eq_true rfl) rfl ?_
              refine j_sub [2, 3, 4, 5, 1, 0] rfl ?_
              exact H
            · replace H := H.2 c50
              refine j_iconst (pc := 53) (v := 0) dX11_people_53 (by decide) ?_
              exact s_ireti (pc := 54) dX11_people_54 rfl H
          · replace H := H.2 c43
            refine j_bipush (pc := 46) (v := -12) dX11_people_46 (by decide) ?_
            exact s_ireti (pc := 48) dX11_people_48 rfl H
      · replace H := H.2 c15
        refine j_iconst (pc := 18) (v := -1) dX11_people_18 (by decide) ?_
        exact s_ireti (pc := 19) dX11_people_19 rfl H
  · replace H := H.2 c1
    refine j_if_eq (pc := 4) (t := 18) dX11_people_4 (by decide) (fun _ => ?_) (fun q => absurd q (by decide))
    refine j_iconst (pc := 18) (v := -1) dX11_people_18 (by decide) ?_
    exact s_ireti (pc := 19) dX11_people_19 rfl H
set_option maxRecDepth 20000 in
theorem b_X11_people_58 {l : Launch} {g : am_G} {d : Nat} {σ : am_S} {k : Int32 → am_S → Prop} {k4 : Nat} {x1 x2 x3 x5 : Int32} (hk4 : k4 < 6) (hd : 1 ≤ d) (H : ((x3 ≤ x5 → k x5 σ) ∧ (¬ x3 ≤ x5 → (((rg σ (64 * (43 + 2 * k4) + 2)) - x2 < (2 * x5) + 2 → k x5 σ) ∧ (¬ (rg σ (64 * (43 + 2 * k4) + 2)) - x2 < (2 * x5) + 2 → ((7 ≤ rg σ 66 → k x5 σ) ∧ (¬ 7 ≤ rg σ 66 → CL l g M_X8_at (d - 1) [.ref (43 + 2 * k4), .int (x2 + (2 * x5))] σ (fun r1 σ1 => CL l g M_X8_at (d - 1) [.ref (43 + 2 * k4), .int ((x2 + (2 * x5)) + 1)] σ1 (fun r2 σ2 => CI l g M_X2_canCome (d - 1) [.ref 1, .int r1.toInt32, .int r2.toInt32] σ2 (fun r3 σ3 => ((¬ r3 = 0 → CI l g M_X2_addPerson (d - 1) [.ref 1, .int r1.toInt32, .int r2.toInt32] σ3 (fun r4 σ4 => JI l g M_X11_people d 58 [(0, .ref 0), (1, .int x1), (2, .int x2), (3, .int x3), (4, .ref (43 + 2 * k4)), (5, .int (x5 + 1))] [] σ4 k)) ∧ (r3 = 0 → k x5 σ3)))))))))))) : JI l g M_X11_people d 58 [(0, .ref 0), (1, .int x1), (2, .int x2), (3, .int x3), (4, .ref (43 + 2 * k4)), (5, .int x5)] [] σ k := by
  show J l g (M_X11_people, d, 0, 0) 58 [(0, .ref 0), (1, .int x1), (2, .int x2), (3, .int x3), (4, .ref (43 + 2 * k4)), (5, .int x5)] [] (hp σ) 0 0 (kI k)
  refine j_iload (pc := 58) dX11_people_58 rfl ?_
  refine j_iload_n (pc := 60) dX11_people_60 rfl ?_
  refine j_icmp_ge (pc := 61) (t := 157) dX11_people_61 (by decide) (fun c61 => ?_) (fun c61 => ?_)
  · replace H := H.1 c61
    refine j_iload (pc := 157) dX11_people_157 rfl ?_
    exact s_ireti (pc := 159) dX11_people_159 rfl H
  · replace H := H.2 c61
    refine j_aload (pc := 64) dX11_people_64 rfl ?_
    refine s_geti (pc := 66) (64 * (43 + 2 * k4) + 2) (rg σ (64 * (43 + 2 * k4) + 2)) dX11_people_66 fl_X11_118 (shp_s hk4) rfl rfl rfl ?_
    refine j_iload_n (pc := 69) dX11_people_69 rfl ?_
    refine j_isub (pc := 70) dX11_people_70 ?_
    refine j_iconst (pc := 71) (v := 2) dX11_people_71 (by decide) ?_
    refine j_iload (pc := 72) dX11_people_72 rfl ?_
    refine j_imul (pc := 74) dX11_people_74 ?_
    refine j_iconst (pc := 75) (v := 2) dX11_people_75 (by decide) ?_
    refine j_iadd (pc := 76) dX11_people_76 ?_
    refine j_icmp_lt (pc := 77) (t := 157) dX11_people_77 (by decide) (fun c77 => ?_) (fun c77 => ?_)
    · replace H := H.1 c77
      refine j_iload (pc := 157) dX11_people_157 rfl ?_
      exact s_ireti (pc := 159) dX11_people_159 rfl H
    · replace H := H.2 c77
      refine j_aload_n (pc := 80) dX11_people_80 rfl ?_
      refine s_getr (pc := 81) dX11_people_81 fl_X11_10 shp_0 rfl ?_
      refine s_geti (pc := 84) 66 (rg σ 66) dX11_people_84 fl_X11_121 shp_1 rfl rfl rfl ?_
      refine j_bipush (pc := 87) (v := 7) dX11_people_87 (by decide) ?_
      refine j_icmp_ge (pc := 89) (t := 157) dX11_people_89 (by decide) (fun c89 => ?_) (fun c89 => ?_)
      · replace H := H.1 c89
        refine j_iload (pc := 157) dX11_people_157 rfl ?_
        exact s_ireti (pc := 159) dX11_people_159 rfl H
      · replace H := H.2 c89
        refine j_aload (pc := 92) dX11_people_92 rfl ?_
        refine j_iload_n (pc := 94) dX11_people_94 rfl ?_
        refine j_iconst (pc := 95) (v := 2) dX11_people_95 (by decide) ?_
        refine j_iload (pc := 96) dX11_people_96 rfl ?_
        refine j_imul (pc := 98) dX11_people_98 ?_
        refine j_iadd (pc := 99) dX11_people_99 ?_
        refine s_callV_l (pc := 100) (M1 := M_X8_at) (n := 1) (as := [.int (x2 + (2 * x5))]) (a := 43 + 2 * k4) (st := []) dX11_people_100 G_X8_at wm_X11_124 (by decide +kernel) rfl (Nat.le_of_ble_eq_true rfl) (shp_s hk4) rfl (by show 1 ≤ d; omega) (Nat.le_of_ble_eq_true rfl) (Nat.zero_le _) (Nat.zero_le _) ?_
        refine CL.mono H (fun r1 σ1 H => ?_)
        refine j_l2i (pc := 103) dX11_people_103 ?_
        refine j_istore (pc := 104) (lv1 := [(6, .int r1.toInt32), (0, .ref 0), (1, .int x1), (2, .int x2), (3, .int x3), (4, .ref (43 + 2 * k4)), (5, .int x5)]) dX11_people_104 (Nat.le_of_ble_eq_true rfl) rfl ?_
        refine j_aload (pc := 106) dX11_people_106 rfl ?_
        refine j_iload_n (pc := 108) dX11_people_108 rfl ?_
        refine j_iconst (pc := 109) (v := 2) dX11_people_109 (by decide) ?_
        refine j_iload (pc := 110) dX11_people_110 rfl ?_
        refine j_imul (pc := 112) dX11_people_112 ?_
        refine j_iadd (pc := 113) dX11_people_113 ?_
        refine j_iconst (pc := 114) (v := 1) dX11_people_114 (by decide) ?_
        refine j_iadd (pc := 115) dX11_people_115 ?_
        refine s_callV_l (pc := 116) (M1 := M_X8_at) (n := 1) (as := [.int ((x2 + (2 * x5)) + 1)]) (a := 43 + 2 * k4) (st := []) dX11_people_116 G_X8_at wm_X11_124 (by decide +kernel) rfl (Nat.le_of_ble_eq_true rfl) (shp_s hk4) rfl (by show 1 ≤ d; omega) (Nat.le_of_ble_eq_true rfl) (Nat.zero_le _) (Nat.zero_le _) ?_
        refine CL.mono H (fun r2 σ2 H => ?_)
        refine j_l2i (pc := 119) dX11_people_119 ?_
        refine j_istore (pc := 120) (lv1 := [(7, .int r2.toInt32), (6, .int r1.toInt32), (0, .ref 0), (1, .int x1), (2, .int x2), (3, .int x3), (4, .ref (43 + 2 * k4)), (5, .int x5)]) dX11_people_120 (Nat.le_of_ble_eq_true rfl) rfl ?_
        refine j_aload_n (pc := 122) dX11_people_122 rfl ?_
        refine s_getr (pc := 123) dX11_people_123 fl_X11_10 shp_0 rfl ?_
        refine j_iload (pc := 126) dX11_people_126 rfl ?_
        refine j_iload (pc := 128) dX11_people_128 rfl ?_
        refine s_callV_i (pc := 130) (M1 := M_X2_canCome) (n := 2) (as := [.int r1.toInt32, .int r2.toInt32]) (a := 1) (st := []) dX11_people_130 G_X2_canCome wm_X11_99 (by decide +kernel) rfl (Nat.le_of_ble_eq_true rfl) shp_1 rfl (by show 1 ≤ d; omega) (Nat.le_of_ble_eq_true rfl) (Nat.zero_le _) (Nat.zero_le _) ?_
        refine CI.mono H (fun r3 σ3 H => ?_)
        refine j_if_ne (pc := 133) (t := 139) dX11_people_133 (by decide) (fun c133 => ?_) (fun c133 => ?_)
        · replace H := H.1 c133
          refine j_aload_n (pc := 139) dX11_people_139 rfl ?_
          refine s_getr (pc := 140) dX11_people_140 fl_X11_10 shp_0 rfl ?_
          refine j_iload (pc := 143) dX11_people_143 rfl ?_
          refine j_iload (pc := 145) dX11_people_145 rfl ?_
          refine s_callV_i (pc := 147) (M1 := M_X2_addPerson) (n := 2) (as := [.int r1.toInt32, .int r2.toInt32]) (a := 1) (st := []) dX11_people_147 G_X2_addPerson wm_X11_103 (by decide +kernel) rfl (Nat.le_of_ble_eq_true rfl) shp_1 rfl (by show 1 ≤ d; omega) (Nat.le_of_ble_eq_true rfl) (Nat.zero_le _) (Nat.zero_le _) ?_
          refine CI.mono H (fun r4 σ4 H => ?_)
          refine j_pop (pc := 150) dX11_people_150 rfl ?_
          refine j_iinc (pc := 151) (k := 7) (v := x5 + 1) (lv1 := [(5, .int (x5 + 1)), (7, .int r2.toInt32), (6, .int r1.toInt32), (0, .ref 0), (1, .int x1), (2, .int x2), (3, .int x3), (4, .ref (43 + 2 * k4))]) dX11_people_151 rfl rfl (Nat.le_of_ble_eq_true rfl) rfl ?_
          refine j_goto (pc := 154) (t := 58) dX11_people_154 (by decide) ?_
          refine j_sub [3, 4, 5, 6, 7, 0] rfl ?_
          exact H
        · replace H := H.2 c133
          refine j_goto (pc := 136) (t := 157) dX11_people_136 (by decide) ?_
          refine j_iload (pc := 157) dX11_people_157 rfl ?_
          exact s_ireti (pc := 159) dX11_people_159 rfl H
set_option maxRecDepth 20000 in
theorem b_X11_mend_0 {l : Launch} {g : am_G} {d : Nat} {σ : am_S} {k : Int32 → am_S → Prop}  {x1 x2 x3 : Int32} (hd : 1 ≤ d) (H : CI l g M_X2_number (d - 1) [.ref 1, .int x1, .int x2] σ (fun r1 σ1 => ((r1 < 0 → k (-1) σ1) ∧ (¬ r1 < 0 → CI l g M_X2_canBecome (d - 1) [.int x2, .int x3] σ1 (fun r2 σ2 => ((¬ r2 = 0 → ((x3 = r1 → k r1 σ2) ∧ (¬ x3 = r1 → CV l g M_X2_setNumber (d - 1) [.ref 1, .int x1, .int x2, .int x3] σ2 (fun σ3 => CV l g M_X5_write (d - 1) [.ref 34, .int x1, .int x2, .int r1, .int x3] σ3 (fun σ4 => k r1 σ4))))) ∧ (r2 = 0 → k (-1) σ2))))))) : CI l g M_X11_mend d [.ref 0, .int x1, .int x2, .int x3] σ k := by
  show J l g (M_X11_mend, d, 0, 0) 0 [(0, .ref 0), (1, .int x1), (2, .int x2), (3, .int x3)] [] (hp σ) 0 0 (kI k)
  refine j_aload_n (pc := 0) dX11_mend_0 rfl ?_
  refine s_getr (pc := 1) dX11_mend_1 fl_X11_10 shp_0 rfl ?_
  refine j_iload_n (pc := 4) dX11_mend_4 rfl ?_
  refine j_iload_n (pc := 5) dX11_mend_5 rfl ?_
  refine s_callV_i (pc := 6) (M1 := M_X2_number) (n := 2) (as := [.int x1, .int x2]) (a := 1) (st := []) dX11_mend_6 G_X2_number wm_X11_128 (by decide +kernel) rfl (Nat.le_of_ble_eq_true rfl) shp_1 rfl (by show 1 ≤ d; omega) (Nat.le_of_ble_eq_true rfl) (Nat.zero_le _) (Nat.zero_le _) ?_
  refine CI.mono H (fun r1 σ1 H => ?_)
  refine j_istore (pc := 9) (lv1 := [(4, .int r1), (0, .ref 0), (1, .int x1), (2, .int x2), (3, .int x3)]) dX11_mend_9 (Nat.le_of_ble_eq_true rfl) rfl ?_
  refine j_iload (pc := 11) dX11_mend_11 rfl ?_
  refine j_if_lt (pc := 13) (t := 24) dX11_mend_13 (by decide) (fun c13 => ?_) (fun c13 => ?_)
  · replace H := H.1 c13
    refine j_iconst (pc := 24) (v := -1) dX11_mend_24 (by decide) ?_
    exact s_ireti (pc := 25) dX11_mend_25 rfl H
  · replace H := H.2 c13
    refine j_iload_n (pc := 16) dX11_mend_16 rfl ?_
    refine j_iload_n (pc := 17) dX11_mend_17 rfl ?_
    refine s_callS_i (pc := 18) (M1 := M_X2_canBecome) (n := 2) (as := [.int x2, .int x3]) (st := []) dX11_mend_18 G_X2_canBecome wm_X11_131 (by decide +kernel) rfl (Nat.le_of_ble_eq_true rfl) (by show 1 ≤ d; omega) (Nat.le_of_ble_eq_true rfl) ?_
    refine CI.mono H (fun r2 σ2 H => ?_)
    refine j_if_ne (pc := 21) (t := 26) dX11_mend_21 (by decide) (fun c21 => ?_) (fun c21 => ?_)
    · replace H := H.1 c21
      refine j_iload_n (pc := 26) dX11_mend_26 rfl ?_
      refine j_iload (pc := 27) dX11_mend_27 rfl ?_
      refine j_icmp_eq (pc := 29) (t := 54) dX11_mend_29 (by decide) (fun c29 => ?_) (fun c29 => ?_)
      · replace H := H.1 c29
        refine j_iload (pc := 54) dX11_mend_54 rfl ?_
        exact s_ireti (pc := 56) dX11_mend_56 rfl H
      · replace H := H.2 c29
        refine j_aload_n (pc := 32) dX11_mend_32 rfl ?_
        refine s_getr (pc := 33) dX11_mend_33 fl_X11_10 shp_0 rfl ?_
        refine j_iload_n (pc := 36) dX11_mend_36 rfl ?_
        refine j_iload_n (pc := 37) dX11_mend_37 rfl ?_
        refine j_iload_n (pc := 38) dX11_mend_38 rfl ?_
        refine s_callV_v (pc := 39) (M1 := M_X2_setNumber) (n := 3) (as := [.int x1, .int x2, .int x3]) (a := 1) (st := []) dX11_mend_39 G_X2_setNumber wm_X11_134 (by decide +kernel) rfl (Nat.le_of_ble_eq_true rfl) shp_1 rfl (by show 1 ≤ d; omega) (Nat.le_of_ble_eq_true rfl) (Nat.zero_le _) (Nat.zero_le _) ?_
        refine CV.mono H (fun σ3 H => ?_)
        refine j_aload_n (pc := 42) dX11_mend_42 rfl ?_
        refine s_getr (pc := 43) dX11_mend_43 fl_X11_63 shp_0 rfl ?_
        refine j_iload_n (pc := 46) dX11_mend_46 rfl ?_
        refine j_iload_n (pc := 47) dX11_mend_47 rfl ?_
        refine j_iload (pc := 48) dX11_mend_48 rfl ?_
        refine j_iload_n (pc := 50) dX11_mend_50 rfl ?_
        refine s_callV_v (pc := 51) (M1 := M_X5_write) (n := 4) (as := [.int x1, .int x2, .int r1, .int x3]) (a := 34) (st := []) dX11_mend_51 G_X5_write wm_X11_138 (by decide +kernel) rfl (Nat.le_of_ble_eq_true rfl) shp_34 rfl (by show 1 ≤ d; omega) (Nat.le_of_ble_eq_true rfl) (Nat.zero_le _) (Nat.zero_le _) ?_
        refine CV.mono H (fun σ4 H => ?_)
        refine j_iload (pc := 54) dX11_mend_54 rfl ?_
        exact s_ireti (pc := 56) dX11_mend_56 rfl H
    · replace H := H.2 c21
      refine j_iconst (pc := 24) (v := -1) dX11_mend_24 (by decide) ?_
      exact s_ireti (pc := 25) dX11_mend_25 rfl H
set_option maxRecDepth 20000 in
theorem b_X11_wear_0 {l : Launch} {g : am_G} {d : Nat} {σ : am_S} {k : Int32 → am_S → Prop}  {x1 : Int32} (hd : 1 ≤ d) (H : ((x1 = (-1) → k (rg σ 67) (sR σ 67 x1)) ∧ (¬ x1 = (-1) → (((¬ x1 < 0 ∧ ¬ rg σ 66 ≤ x1) → k (rg σ 67) (sR σ 67 x1)) ∧ (¬ (¬ x1 < 0 ∧ ¬ rg σ 66 ≤ x1) → k (-2000000000) σ))))) : CI l g M_X11_wear d [.ref 0, .int x1] σ k := by
  show J l g (M_X11_wear, d, 0, 0) 0 [(0, .ref 0), (1, .int x1)] [] (hp σ) 0 0 (kI k)
  refine j_iload_n (pc := 0) dX11_wear_0 rfl ?_
  refine j_iconst (pc := 1) (v := -1) dX11_wear_1 (by decide) ?_
  refine j_icmp_eq (pc := 2) (t := 19) dX11_wear_2 (by decide) (fun c2 => ?_) (fun c2 => ?_)
  · replace H := H.1 c2
    refine j_aload_n (pc := 19) dX11_wear_19 rfl ?_
    refine s_getr (pc := 20) dX11_wear_20 fl_X11_10 shp_0 rfl ?_
    refine s_geti (pc := 23) 67 (rg σ 67) dX11_wear_23 fl_X11_146 shp_1 rfl rfl rfl ?_
    refine j_istore_n (pc := 26) (lv1 := [(2, .int (rg σ 67)), (0, .ref 0), (1, .int x1)]) dX11_wear_26 (Nat.le_of_ble_eq_true rfl) rfl ?_
    refine j_aload_n (pc := 27) dX11_wear_27 rfl ?_
    refine s_getr (pc := 28) dX11_wear_28 fl_X11_10 shp_0 rfl ?_
    refine j_iload_n (pc := 31) dX11_wear_31 rfl ?_
    refine s_put (pc := 32) 67 dX11_wear_32 fl_X11_146 shp_1 rfl rfl fp_2_3 rfl rfl ?_
    refine j_iload_n (pc := 35) dX11_wear_35 rfl ?_
    exact s_ireti (pc := 36) dX11_wear_36 rfl H
  · replace H := H.2 c2
    refine j_aload_n (pc := 5) dX11_wear_5 rfl ?_
    refine s_getr (pc := 6) dX11_wear_6 fl_X11_10 shp_0 rfl ?_
    refine j_iload_n (pc := 9) dX11_wear_9 rfl ?_
    refine s_callV_i (pc := 10) (M1 := M_X2_hasPerson) (n := 1) (as := [.int x1]) (a := 1) (st := []) dX11_wear_10 G_X2_hasPerson wm_X11_142 (by decide +kernel) rfl (Nat.le_of_ble_eq_true rfl) shp_1 rfl (by show 1 ≤ d; omega) (Nat.le_of_ble_eq_true rfl) (Nat.zero_le _) (Nat.zero_le _) ?_
    refine C_X2_hasPerson (d := d - 1) (by omega) ⟨fun c10 => ?_, fun c10 => ?_⟩
    · replace H := H.1 c10
      refine j_if_ne (pc := 13) (t := 19) dX11_wear_13 (by decide) (fun _ => ?_) (fun q => absurd q (by decide))
      refine j_aload_n (pc := 19) dX11_wear_19 rfl ?_
      refine s_getr (pc := 20) dX11_wear_20 fl_X11_10 shp_0 rfl ?_
      refine s_geti (pc := 23) 67 (rg σ 67) dX11_wear_23 fl_X11_146 shp_1 rfl rfl rfl ?_
      refine j_istore_n (pc := 26) (lv1 := [(2, .int (rg σ 67)), (0, .ref 0), (1, .int x1)]) dX11_wear_26 (Nat.le_of_ble_eq_true rfl) rfl ?_
      refine j_aload_n (pc := 27) dX11_wear_27 rfl ?_
      refine s_getr (pc := 28) dX11_wear_28 fl_X11_10 shp_0 rfl ?_
      refine j_iload_n (pc := 31) dX11_wear_31 rfl ?_
      refine s_put (pc := 32) 67 dX11_wear_32 fl_X11_146 shp_1 rfl rfl fp_2_3 rfl rfl ?_
      refine j_iload_n (pc := 35) dX11_wear_35 rfl ?_
      exact s_ireti (pc := 36) dX11_wear_36 rfl H
    · replace H := H.2 c10
      refine j_if_ne (pc := 13) (t := 19) dX11_wear_13 (by decide) (fun q => absurd q (by decide)) (fun _ => ?_)
      refine j_ldc (pc := 16) dX11_wear_16 wk_X11_145 ?_
      exact s_ireti (pc := 18) dX11_wear_18 rfl H
set_option maxRecDepth 20000 in
theorem b_X11_ofPerson_0 {l : Launch} {g : am_G} {d : Nat} {σ : am_S} {k : Int32 → am_S → Prop}  {x1 x2 : Int32} (hd : 1 ≤ d) (H : (((x2.toInt < 0 ∨ 2 < x2.toInt) → CI l g M_X2_height (d - 1) [.ref 1, .int x1, .int (rg σ 67), .int 0] σ (fun r1 σ1 => k r1 σ1)) ∧ (x2 = 0 → (vp_in x1 7 ∧ k (ar σ 5 x1.toNatClampNeg) σ)) ∧ (x2 = 1 → (vp_in x1 7 ∧ k (ar σ 7 x1.toNatClampNeg) σ)) ∧ (x2 = 2 → (vp_in x1 7 ∧ k (ar σ 6 x1.toNatClampNeg) σ)))) : CI l g M_X11_ofPerson d [.ref 0, .int x1, .int x2] σ k := by
  show J l g (M_X11_ofPerson, d, 0, 0) 0 [(0, .ref 0), (1, .int x1), (2, .int x2)] [] (hp σ) 0 0 (kI k)
  refine j_iload_n (pc := 0) dX11_ofPerson_0 rfl ?_
  rcases sw_cases x2 0 2 with c1 | c1
  · replace H := H.1 c1
    refine j_tableOut (pc := 1) (t := 58) dX11_ofPerson_1 c1 (by decide) ?_
    refine j_aload_n (pc := 58) dX11_ofPerson_58 rfl ?_
    refine s_getr (pc := 59) dX11_ofPerson_59 fl_X11_10 shp_0 rfl ?_
    refine j_iload_n (pc := 62) dX11_ofPerson_62 rfl ?_
    refine j_aload_n (pc := 63) dX11_ofPerson_63 rfl ?_
    refine s_getr (pc := 64) dX11_ofPerson_64 fl_X11_10 shp_0 rfl ?_
    refine s_geti (pc := 67) 67 (rg σ 67) dX11_ofPerson_67 fl_X11_146 shp_1 rfl rfl rfl ?_
    refine j_iconst (pc := 70) (v := 0) dX11_ofPerson_70 (by decide) ?_
    refine s_callV_i (pc := 71) (M1 := M_X2_height) (n := 3) (as := [.int x1, .int (rg σ 67), .int 0]) (a := 1) (st := []) dX11_ofPerson_71 G_X2_height wm_X11_175 (by decide +kernel) rfl (Nat.le_of_ble_eq_true rfl) shp_1 rfl (by show 1 ≤ d; omega) (Nat.le_of_ble_eq_true rfl) (Nat.zero_le _) (Nat.zero_le _) ?_
    refine CI.mono H (fun r1 σ1 H => ?_)
    exact s_ireti (pc := 74) dX11_ofPerson_74 rfl H
  · replace H := H.2
    by_cases c1_0 : x2 = 0
    · replace H := H.1 c1_0
      refine j_tableIn (pc := 1) (t := 28) (off := 27) dX11_ofPerson_1 (by rw [c1_0]; decide) (by rw [c1_0]; decide) (by rw [c1_0]; rfl) (by decide) ?_
      refine j_aload_n (pc := 28) dX11_ofPerson_28 rfl ?_
      refine s_getr (pc := 29) dX11_ofPerson_29 fl_X11_10 shp_0 rfl ?_
      refine s_getr (pc := 32) dX11_ofPerson_32 fl_X11_166 shp_1 rfl ?_
      refine j_iload_n (pc := 35) dX11_ofPerson_35 rfl ?_
      have b36 := H.1
      replace H := H.2
      refine s_iald (pc := 36) (ar σ 5 x1.toNatClampNeg) dX11_ofPerson_36 shp_5 b36 rfl ?_
      exact s_ireti (pc := 37) dX11_ofPerson_37 rfl H
    by_cases c1_1 : x2 = 1
    · replace H := H.2.1 c1_1
      refine j_tableIn (pc := 1) (t := 38) (off := 37) dX11_ofPerson_1 (by rw [c1_1]; decide) (by rw [c1_1]; decide) (by rw [c1_1]; rfl) (by decide) ?_
      refine j_aload_n (pc := 38) dX11_ofPerson_38 rfl ?_
      refine s_getr (pc := 39) dX11_ofPerson_39 fl_X11_10 shp_0 rfl ?_
      refine s_getr (pc := 42) dX11_ofPerson_42 fl_X11_169 shp_1 rfl ?_
      refine j_iload_n (pc := 45) dX11_ofPerson_45 rfl ?_
      have b46 := H.1
      replace H := H.2
      refine s_iald (pc := 46) (ar σ 7 x1.toNatClampNeg) dX11_ofPerson_46 shp_7 b46 rfl ?_
      exact s_ireti (pc := 47) dX11_ofPerson_47 rfl H
    by_cases c1_2 : x2 = 2
    · replace H := H.2.2 c1_2
      refine j_tableIn (pc := 1) (t := 48) (off := 47) dX11_ofPerson_1 (by rw [c1_2]; decide) (by rw [c1_2]; decide) (by rw [c1_2]; rfl) (by decide) ?_
      refine j_aload_n (pc := 48) dX11_ofPerson_48 rfl ?_
      refine s_getr (pc := 49) dX11_ofPerson_49 fl_X11_10 shp_0 rfl ?_
      refine s_getr (pc := 52) dX11_ofPerson_52 fl_X11_172 shp_1 rfl ?_
      refine j_iload_n (pc := 55) dX11_ofPerson_55 rfl ?_
      have b56 := H.1
      replace H := H.2
      refine s_iald (pc := 56) (ar σ 6 x1.toNatClampNeg) dX11_ofPerson_56 shp_6 b56 rfl ?_
      exact s_ireti (pc := 57) dX11_ofPerson_57 rfl H
    exact (sw_end_0_2 c1 c1_0 c1_1 c1_2).elim
set_option maxRecDepth 20000 in
theorem b_X11_of_0 {l : Launch} {g : am_G} {d : Nat} {σ : am_S} {k : Int32 → am_S → Prop}  {x1 x2 : Int32} (hd : 1 ≤ d) (H : ((x2 < 0 → (((¬ x2 = 10 ∧ ¬ x2 = 11 ∧ ¬ x2 = 20 ∧ ¬ x2 = 30) → k (-1) σ) ∧ (x2 = 10 → (((¬ x1 < 0 ∧ ¬ rg σ 65 ≤ x1) → (vp_in x1 5 ∧ (vp_in x1 5 ∧ k ((10 * (ar σ 2 x1.toNatClampNeg)) + (ar σ 3 x1.toNatClampNeg)) σ))) ∧ (¬ (¬ x1 < 0 ∧ ¬ rg σ 65 ≤ x1) → k (-1) σ))) ∧ (x2 = 11 → CI l g M_X2_number (d - 1) [.ref 1, .int x1, .int 2] σ (fun r2 σ2 => k r2 σ2)) ∧ (x2 = 20 → (((¬ x1 < 0 ∧ ¬ rg σ 64 ≤ x1) → CI l g M_X2_whoIn (d - 1) [.ref 1, .int x1] σ (fun r4 σ4 => k r4 σ4)) ∧ (¬ (¬ x1 < 0 ∧ ¬ rg σ 64 ≤ x1) → k (-1) σ))) ∧ (x2 = 30 → CI l g M_X2_number (d - 1) [.ref 1, .int x1, .int 3] σ (fun r5 σ5 => k r5 σ5)))) ∧ (¬ x2 < 0 → ((3 < x2 → (((¬ x2 = 10 ∧ ¬ x2 = 11 ∧ ¬ x2 = 20 ∧ ¬ x2 = 30) → k (-1) σ) ∧ (x2 = 10 → (((¬ x1 < 0 ∧ ¬ rg σ 65 ≤ x1) → (vp_in x1 5 ∧ (vp_in x1 5 ∧ k ((10 * (ar σ 2 x1.toNatClampNeg)) + (ar σ 3 x1.toNatClampNeg)) σ))) ∧ (¬ (¬ x1 < 0 ∧ ¬ rg σ 65 ≤ x1) → k (-1) σ))) ∧ (x2 = 11 → CI l g M_X2_number (d - 1) [.ref 1, .int x1, .int 2] σ (fun r7 σ7 => k r7 σ7)) ∧ (x2 = 20 → (((¬ x1 < 0 ∧ ¬ rg σ 64 ≤ x1) → CI l g M_X2_whoIn (d - 1) [.ref 1, .int x1] σ (fun r9 σ9 => k r9 σ9)) ∧ (¬ (¬ x1 < 0 ∧ ¬ rg σ 64 ≤ x1) → k (-1) σ))) ∧ (x2 = 30 → CI l g M_X2_number (d - 1) [.ref 1, .int x1, .int 3] σ (fun r10 σ10 => k r10 σ10)))) ∧ (¬ 3 < x2 → (((¬ x1 < 0 ∧ ¬ rg σ 66 ≤ x1) → CI l g M_X11_ofPerson (d - 1) [.ref 0, .int x1, .int x2] σ (fun r12 σ12 => k r12 σ12)) ∧ (¬ (¬ x1 < 0 ∧ ¬ rg σ 66 ≤ x1) → k (-1) σ))))))) : CI l g M_X11_of d [.ref 0, .int x1, .int x2] σ k := by
  show J l g (M_X11_of, d, 0, 0) 0 [(0, .ref 0), (1, .int x1), (2, .int x2)] [] (hp σ) 0 0 (kI k)
  refine j_iload_n (pc := 0) dX11_of_0 rfl ?_
  refine j_if_lt (pc := 1) (t := 31) dX11_of_1 (by decide) (fun c1 => ?_) (fun c1 => ?_)
  · replace H := H.1 c1
    refine j_iload_n (pc := 31) dX11_of_31 rfl ?_
    by_cases c32d : ¬ x2 = 10 ∧ ¬ x2 = 11 ∧ ¬ x2 = 20 ∧ ¬ x2 = 30
    · replace H := H.1 c32d
      refine j_lookup (pc := 32) (t := 158) (off := 126) dX11_of_32 (by decide) (by show Op.lookupswitch.offset [(10, 44), (11, 82), (20, 92), (30, 116)] _ _ = _; rw [lv_osw (k := 10) (c32d.1) (by decide), lv_osw (k := 11) (c32d.2.1) (by decide), lv_osw (k := 20) (c32d.2.2.1) (by decide), lv_osw (k := 30) (c32d.2.2.2) (by decide)]; rfl) (by decide) ?_
      refine j_iconst (pc := 158) (v := -1) dX11_of_158 (by decide) ?_
      exact s_ireti (pc := 159) dX11_of_159 rfl H
    · replace H := H.2
      by_cases c32_0 : x2 = 10
      · replace H := H.1 c32_0
        refine j_lookup (pc := 32) (t := 76) (off := 44) dX11_of_32 (by decide) (by rw [c32_0]; decide) (by decide) ?_
        refine j_aload_n (pc := 76) dX11_of_76 rfl ?_
        refine s_getr (pc := 77) dX11_of_77 fl_X11_10 shp_0 rfl ?_
        refine j_iload_n (pc := 80) dX11_of_80 rfl ?_
        refine s_callV_i (pc := 81) (M1 := M_X2_hasDoor) (n := 1) (as := [.int x1]) (a := 1) (st := []) dX11_of_81 G_X2_hasDoor wm_X11_152 (by decide +kernel) rfl (Nat.le_of_ble_eq_true rfl) shp_1 rfl (by show 1 ≤ d; omega) (Nat.le_of_ble_eq_true rfl) (Nat.zero_le _) (Nat.zero_le _) ?_
        refine C_X2_hasDoor (d := d - 1) (by omega) ⟨fun c81 => ?_, fun c81 => ?_⟩
        · replace H := H.1 c81
          refine j_if_eq (pc := 84) (t := 112) dX11_of_84 (by decide) (fun q => absurd q (by decide)) (fun _ => ?_)
          refine j_bipush (pc := 87) (v := 10) dX11_of_87 (by decide) ?_
          refine j_aload_n (pc := 89) dX11_of_89 rfl ?_
          refine s_getr (pc := 90) dX11_of_90 fl_X11_10 shp_0 rfl ?_
          refine s_getr (pc := 93) dX11_of_93 fl_X11_155 shp_1 rfl ?_
          refine j_iload_n (pc := 96) dX11_of_96 rfl ?_
          have b97 := H.1
          replace H := H.2
          refine s_iald (pc := 97) (ar σ 2 x1.toNatClampNeg) dX11_of_97 shp_2 b97 rfl ?_
          refine j_imul (pc := 98) dX11_of_98 ?_
          refine j_aload_n (pc := 99) dX11_of_99 rfl ?_
          refine s_getr (pc := 100) dX11_of_100 fl_X11_10 shp_0 rfl ?_
          refine s_getr (pc := 103) dX11_of_103 fl_X11_159 shp_1 rfl ?_
          refine j_iload_n (pc := 106) dX11_of_106 rfl ?_
          have b107 := H.1
          replace H := H.2
          refine s_iald (pc := 107) (ar σ 3 x1.toNatClampNeg) dX11_of_107 shp_3 b107 rfl ?_
          refine j_iadd (pc := 108) dX11_of_108 ?_
          refine j_goto (pc := 109) (t := 113) dX11_of_109 (by decide) ?_
          exact s_ireti (pc := 113) dX11_of_113 rfl H
        · replace H := H.2 c81
          refine j_if_eq (pc := 84) (t := 112) dX11_of_84 (by decide) (fun _ => ?_) (fun q => absurd q (by decide))
          refine j_iconst (pc := 112) (v := -1) dX11_of_112 (by decide) ?_
          exact s_ireti (pc := 113) dX11_of_113 rfl H
      by_cases c32_1 : x2 = 11
      · replace H := H.2.1 c32_1
        refine j_lookup (pc := 32) (t := 114) (off := 82) dX11_of_32 (by decide) (by rw [c32_1]; decide) (by decide) ?_
        refine j_aload_n (pc := 114) dX11_of_114 rfl ?_
        refine s_getr (pc := 115) dX11_of_115 fl_X11_10 shp_0 rfl ?_
        refine j_iload_n (pc := 118) dX11_of_118 rfl ?_
        refine j_iconst (pc := 119) (v := 2) dX11_of_119 (by decide) ?_
        refine s_callV_i (pc := 120) (M1 := M_X2_number) (n := 2) (as := [.int x1, .int 2]) (a := 1) (st := []) dX11_of_120 G_X2_number wm_X11_128 (by decide +kernel) rfl (Nat.le_of_ble_eq_true rfl) shp_1 rfl (by show 1 ≤ d; omega) (Nat.le_of_ble_eq_true rfl) (Nat.zero_le _) (Nat.zero_le _) ?_
        refine CI.mono H (fun r2 σ2 H => ?_)
        exact s_ireti (pc := 123) dX11_of_123 rfl H
      by_cases c32_2 : x2 = 20
      · replace H := H.2.2.1 c32_2
        refine j_lookup (pc := 32) (t := 124) (off := 92) dX11_of_32 (by decide) (by rw [c32_2]; decide) (by decide) ?_
        refine j_aload_n (pc := 124) dX11_of_124 rfl ?_
        refine s_getr (pc := 125) dX11_of_125 fl_X11_10 shp_0 rfl ?_
        refine j_iload_n (pc := 128) dX11_of_128 rfl ?_
        refine s_callV_i (pc := 129) (M1 := M_X2_hasRoom) (n := 1) (as := [.int x1]) (a := 1) (st := []) dX11_of_129 G_X2_hasRoom wm_X11_91 (by decide +kernel) rfl (Nat.le_of_ble_eq_true rfl) shp_1 rfl (by show 1 ≤ d; omega) (Nat.le_of_ble_eq_true rfl) (Nat.zero_le _) (Nat.zero_le _) ?_
        refine C_X2_hasRoom (d := d - 1) (by omega) ⟨fun c129 => ?_, fun c129 => ?_⟩
        · replace H := H.1 c129
          refine j_if_eq (pc := 132) (t := 146) dX11_of_132 (by decide) (fun q => absurd q (by decide)) (fun _ => ?_)
          refine j_aload_n (pc := 135) dX11_of_135 rfl ?_
          refine s_getr (pc := 136) dX11_of_136 fl_X11_10 shp_0 rfl ?_
          refine j_iload_n (pc := 139) dX11_of_139 rfl ?_
          refine s_callV_i (pc := 140) (M1 := M_X2_whoIn) (n := 1) (as := [.int x1]) (a := 1) (st := []) dX11_of_140 G_X2_whoIn wm_X11_162 (by decide +kernel) rfl (Nat.le_of_ble_eq_true rfl) shp_1 rfl (by show 1 ≤ d; omega) (Nat.le_of_ble_eq_true rfl) (Nat.zero_le _) (Nat.zero_le _) ?_
          refine CI.mono H (fun r4 σ4 H => ?_)
          refine j_goto (pc := 143) (t := 147) dX11_of_143 (by decide) ?_
          exact s_ireti (pc := 147) dX11_of_147 rfl H
        · replace H := H.2 c129
          refine j_if_eq (pc := 132) (t := 146) dX11_of_132 (by decide) (fun _ => ?_) (fun q => absurd q (by decide))
          refine j_iconst (pc := 146) (v := -1) dX11_of_146 (by decide) ?_
          exact s_ireti (pc := 147) dX11_of_147 rfl H
      by_cases c32_3 : x2 = 30
      · replace H := H.2.2.2 c32_3
        refine j_lookup (pc := 32) (t := 148) (off := 116) dX11_of_32 (by decide) (by rw [c32_3]; decide) (by decide) ?_
        refine j_aload_n (pc := 148) dX11_of_148 rfl ?_
        refine s_getr (pc := 149) dX11_of_149 fl_X11_10 shp_0 rfl ?_
        refine j_iload_n (pc := 152) dX11_of_152 rfl ?_
        refine j_iconst (pc := 153) (v := 3) dX11_of_153 (by decide) ?_
        refine s_callV_i (pc := 154) (M1 := M_X2_number) (n := 2) (as := [.int x1, .int 3]) (a := 1) (st := []) dX11_of_154 G_X2_number wm_X11_128 (by decide +kernel) rfl (Nat.le_of_ble_eq_true rfl) shp_1 rfl (by show 1 ≤ d; omega) (Nat.le_of_ble_eq_true rfl) (Nat.zero_le _) (Nat.zero_le _) ?_
        refine CI.mono H (fun r5 σ5 H => ?_)
        exact s_ireti (pc := 157) dX11_of_157 rfl H
      exact absurd ⟨c32_0, c32_1, c32_2, c32_3⟩ c32d
  · replace H := H.2 c1
    refine j_iload_n (pc := 4) dX11_of_4 rfl ?_
    refine j_iconst (pc := 5) (v := 3) dX11_of_5 (by decide) ?_
    refine j_icmp_gt (pc := 6) (t := 31) dX11_of_6 (by decide) (fun c6 => ?_) (fun c6 => ?_)
    · replace H := H.1 c6
      refine j_iload_n (pc := 31) dX11_of_31 rfl ?_
      by_cases c32d : ¬ x2 = 10 ∧ ¬ x2 = 11 ∧ ¬ x2 = 20 ∧ ¬ x2 = 30
      · replace H := H.1 c32d
        refine j_lookup (pc := 32) (t := 158) (off := 126) dX11_of_32 (by decide) (by show Op.lookupswitch.offset [(10, 44), (11, 82), (20, 92), (30, 116)] _ _ = _; rw [lv_osw (k := 10) (c32d.1) (by decide), lv_osw (k := 11) (c32d.2.1) (by decide), lv_osw (k := 20) (c32d.2.2.1) (by decide), lv_osw (k := 30) (c32d.2.2.2) (by decide)]; rfl) (by decide) ?_
        refine j_iconst (pc := 158) (v := -1) dX11_of_158 (by decide) ?_
        exact s_ireti (pc := 159) dX11_of_159 rfl H
      · replace H := H.2
        by_cases c32_0 : x2 = 10
        · replace H := H.1 c32_0
          refine j_lookup (pc := 32) (t := 76) (off := 44) dX11_of_32 (by decide) (by rw [c32_0]; decide) (by decide) ?_
          refine j_aload_n (pc := 76) dX11_of_76 rfl ?_
          refine s_getr (pc := 77) dX11_of_77 fl_X11_10 shp_0 rfl ?_
          refine j_iload_n (pc := 80) dX11_of_80 rfl ?_
          refine s_callV_i (pc := 81) (M1 := M_X2_hasDoor) (n := 1) (as := [.int x1]) (a := 1) (st := []) dX11_of_81 G_X2_hasDoor wm_X11_152 (by decide +kernel) rfl (Nat.le_of_ble_eq_true rfl) shp_1 rfl (by show 1 ≤ d; omega) (Nat.le_of_ble_eq_true rfl) (Nat.zero_le _) (Nat.zero_le _) ?_
          refine C_X2_hasDoor (d := d - 1) (by omega) ⟨fun c81 => ?_, fun c81 => ?_⟩
          · replace H := H.1 c81
            refine j_if_eq (pc := 84) (t := 112) dX11_of_84 (by decide) (fun q => absurd q (by decide)) (fun _ => ?_)
            refine j_bipush (pc := 87) (v := 10) dX11_of_87 (by decide) ?_
            refine j_aload_n (pc := 89) dX11_of_89 rfl ?_
            refine s_getr (pc := 90) dX11_of_90 fl_X11_10 shp_0 rfl ?_
            refine s_getr (pc := 93) dX11_of_93 fl_X11_155 shp_1 rfl ?_
            refine j_iload_n (pc := 96) dX11_of_96 rfl ?_
            have b97 := H.1
            replace H := H.2
            refine s_iald (pc := 97) (ar σ 2 x1.toNatClampNeg) dX11_of_97 shp_2 b97 rfl ?_
            refine j_imul (pc := 98) dX11_of_98 ?_
            refine j_aload_n (pc := 99) dX11_of_99 rfl ?_
            refine s_getr (pc := 100) dX11_of_100 fl_X11_10 shp_0 rfl ?_
            refine s_getr (pc := 103) dX11_of_103 fl_X11_159 shp_1 rfl ?_
            refine j_iload_n (pc := 106) dX11_of_106 rfl ?_
            have b107 := H.1
            replace H := H.2
            refine s_iald (pc := 107) (ar σ 3 x1.toNatClampNeg) dX11_of_107 shp_3 b107 rfl ?_
            refine j_iadd (pc := 108) dX11_of_108 ?_
            refine j_goto (pc := 109) (t := 113) dX11_of_109 (by decide) ?_
            exact s_ireti (pc := 113) dX11_of_113 rfl H
          · replace H := H.2 c81
            refine j_if_eq (pc := 84) (t := 112) dX11_of_84 (by decide) (fun _ => ?_) (fun q => absurd q (by decide))
            refine j_iconst (pc := 112) (v := -1) dX11_of_112 (by decide) ?_
            exact s_ireti (pc := 113) dX11_of_113 rfl H
        by_cases c32_1 : x2 = 11
        · replace H := H.2.1 c32_1
          refine j_lookup (pc := 32) (t := 114) (off := 82) dX11_of_32 (by decide) (by rw [c32_1]; decide) (by decide) ?_
          refine j_aload_n (pc := 114) dX11_of_114 rfl ?_
          refine s_getr (pc := 115) dX11_of_115 fl_X11_10 shp_0 rfl ?_
          refine j_iload_n (pc := 118) dX11_of_118 rfl ?_
          refine j_iconst (pc := 119) (v := 2) dX11_of_119 (by decide) ?_
          refine s_callV_i (pc := 120) (M1 := M_X2_number) (n := 2) (as := [.int x1, .int 2]) (a := 1) (st := []) dX11_of_120 G_X2_number wm_X11_128 (by decide +kernel) rfl (Nat.le_of_ble_eq_true rfl) shp_1 rfl (by show 1 ≤ d; omega) (Nat.le_of_ble_eq_true rfl) (Nat.zero_le _) (Nat.zero_le _) ?_
          refine CI.mono H (fun r7 σ7 H => ?_)
          exact s_ireti (pc := 123) dX11_of_123 rfl H
        by_cases c32_2 : x2 = 20
        · replace H := H.2.2.1 c32_2
          refine j_lookup (pc := 32) (t := 124) (off := 92) dX11_of_32 (by decide) (by rw [c32_2]; decide) (by decide) ?_
          refine j_aload_n (pc := 124) dX11_of_124 rfl ?_
          refine s_getr (pc := 125) dX11_of_125 fl_X11_10 shp_0 rfl ?_
          refine j_iload_n (pc := 128) dX11_of_128 rfl ?_
          refine s_callV_i (pc := 129) (M1 := M_X2_hasRoom) (n := 1) (as := [.int x1]) (a := 1) (st := []) dX11_of_129 G_X2_hasRoom wm_X11_91 (by decide +kernel) rfl (Nat.le_of_ble_eq_true rfl) shp_1 rfl (by show 1 ≤ d; omega) (Nat.le_of_ble_eq_true rfl) (Nat.zero_le _) (Nat.zero_le _) ?_
          refine C_X2_hasRoom (d := d - 1) (by omega) ⟨fun c129 => ?_, fun c129 => ?_⟩
          · replace H := H.1 c129
            refine j_if_eq (pc := 132) (t := 146) dX11_of_132 (by decide) (fun q => absurd q (by decide)) (fun _ => ?_)
            refine j_aload_n (pc := 135) dX11_of_135 rfl ?_
            refine s_getr (pc := 136) dX11_of_136 fl_X11_10 shp_0 rfl ?_
            refine j_iload_n (pc := 139) dX11_of_139 rfl ?_
            refine s_callV_i (pc := 140) (M1 := M_X2_whoIn) (n := 1) (as := [.int x1]) (a := 1) (st := []) dX11_of_140 G_X2_whoIn wm_X11_162 (by decide +kernel) rfl (Nat.le_of_ble_eq_true rfl) shp_1 rfl (by show 1 ≤ d; omega) (Nat.le_of_ble_eq_true rfl) (Nat.zero_le _) (Nat.zero_le _) ?_
            refine CI.mono H (fun r9 σ9 H => ?_)
            refine j_goto (pc := 143) (t := 147) dX11_of_143 (by decide) ?_
            exact s_ireti (pc := 147) dX11_of_147 rfl H
          · replace H := H.2 c129
            refine j_if_eq (pc := 132) (t := 146) dX11_of_132 (by decide) (fun _ => ?_) (fun q => absurd q (by decide))
            refine j_iconst (pc := 146) (v := -1) dX11_of_146 (by decide) ?_
            exact s_ireti (pc := 147) dX11_of_147 rfl H
        by_cases c32_3 : x2 = 30
        · replace H := H.2.2.2 c32_3
          refine j_lookup (pc := 32) (t := 148) (off := 116) dX11_of_32 (by decide) (by rw [c32_3]; decide) (by decide) ?_
          refine j_aload_n (pc := 148) dX11_of_148 rfl ?_
          refine s_getr (pc := 149) dX11_of_149 fl_X11_10 shp_0 rfl ?_
          refine j_iload_n (pc := 152) dX11_of_152 rfl ?_
          refine j_iconst (pc := 153) (v := 3) dX11_of_153 (by decide) ?_
          refine s_callV_i (pc := 154) (M1 := M_X2_number) (n := 2) (as := [.int x1, .int 3]) (a := 1) (st := []) dX11_of_154 G_X2_number wm_X11_128 (by decide +kernel) rfl (Nat.le_of_ble_eq_true rfl) shp_1 rfl (by show 1 ≤ d; omega) (Nat.le_of_ble_eq_true rfl) (Nat.zero_le _) (Nat.zero_le _) ?_
          refine CI.mono H (fun r10 σ10 H => ?_)
          exact s_ireti (pc := 157) dX11_of_157 rfl H
        exact absurd ⟨c32_0, c32_1, c32_2, c32_3⟩ c32d
    · replace H := H.2 c6
      refine j_aload_n (pc := 9) dX11_of_9 rfl ?_
      refine s_getr (pc := 10) dX11_of_10 fl_X11_10 shp_0 rfl ?_
      refine j_iload_n (pc := 13) dX11_of_13 rfl ?_
      refine s_callV_i (pc := 14) (M1 := M_X2_hasPerson) (n := 1) (as := [.int x1]) (a := 1) (st := []) dX11_of_14 G_X2_hasPerson wm_X11_142 (by decide +kernel) rfl (Nat.le_of_ble_eq_true rfl) shp_1 rfl (by show 1 ≤ d; omega) (Nat.le_of_ble_eq_true rfl) (Nat.zero_le _) (Nat.zero_le _) ?_
      refine C_X2_hasPerson (d := d - 1) (by omega) ⟨fun c14 => ?_, fun c14 => ?_⟩
      · replace H := H.1 c14
        refine j_if_eq (pc := 17) (t := 29) dX11_of_17 (by decide) (fun q => absurd q (by decide)) (fun _ => ?_)
        refine j_aload_n (pc := 20) dX11_of_20 rfl ?_
        refine j_iload_n (pc := 21) dX11_of_21 rfl ?_
        refine j_iload_n (pc := 22) dX11_of_22 rfl ?_
        refine s_callV_i (pc := 23) (M1 := M_X11_ofPerson) (n := 2) (as := [.int x1, .int x2]) (a := 0) (st := []) dX11_of_23 G_X11_ofPerson wm_X11_149 (by decide +kernel) rfl (Nat.le_of_ble_eq_true rfl) shp_0 rfl (by show 1 ≤ d; omega) (Nat.le_of_ble_eq_true rfl) (Nat.zero_le _) (Nat.zero_le _) ?_
        refine CI.mono H (fun r12 σ12 H => ?_)
        refine j_goto (pc := 26) (t := 30) dX11_of_26 (by decide) ?_
        exact s_ireti (pc := 30) dX11_of_30 rfl H
      · replace H := H.2 c14
        refine j_if_eq (pc := 17) (t := 29) dX11_of_17 (by decide) (fun _ => ?_) (fun q => absurd q (by decide))
        refine j_iconst (pc := 29) (v := -1) dX11_of_29 (by decide) ?_
        exact s_ireti (pc := 30) dX11_of_30 rfl H
set_option maxRecDepth 20000 in
theorem b_X11_feed_0 {l : Launch} {g : am_G} {d : Nat} {σ : am_S} {k : Int32 → am_S → Prop}  {x1 : Int32} (hd : 1 ≤ d) (H : ((x1 < 0 → k (-1) σ) ∧ (¬ x1 < 0 → ((x1 ≤ 255 → CI l g M_X10_take (d - 1) [.ref 8, .int x1] σ (fun r1 σ1 => ((r1 = 0 → k (-3) σ1) ∧ (¬ r1 = 0 → k (rg σ1 513) σ1)))) ∧ (¬ x1 ≤ 255 → k (-1) σ))))) : CI l g M_X11_feed d [.ref 0, .int x1] σ k := by
  show J l g (M_X11_feed, d, 0, 0) 0 [(0, .ref 0), (1, .int x1)] [] (hp σ) 0 0 (kI k)
  refine j_iload_n (pc := 0) dX11_feed_0 rfl ?_
  refine j_if_lt (pc := 1) (t := 11) dX11_feed_1 (by decide) (fun c1 => ?_) (fun c1 => ?_)
  · replace H := H.1 c1
    refine j_iconst (pc := 11) (v := -1) dX11_feed_11 (by decide) ?_
    exact s_ireti (pc := 12) dX11_feed_12 rfl H
  · replace H := H.2 c1
    refine j_iload_n (pc := 4) dX11_feed_4 rfl ?_
    refine j_sipush (pc := 5) (v := 255) dX11_feed_5 (by decide) ?_
    refine j_icmp_le (pc := 8) (t := 13) dX11_feed_8 (by decide) (fun c8 => ?_) (fun c8 => ?_)
    · replace H := H.1 c8
      refine j_aload_n (pc := 13) dX11_feed_13 rfl ?_
      refine s_getr (pc := 14) dX11_feed_14 fl_X11_19 shp_0 rfl ?_
      refine j_iload_n (pc := 17) dX11_feed_17 rfl ?_
      refine s_callV_i (pc := 18) (M1 := M_X10_take) (n := 1) (as := [.int x1]) (a := 8) (st := []) dX11_feed_18 G_X10_take wm_X11_178 (by decide +kernel) rfl (Nat.le_of_ble_eq_true rfl) shp_8 rfl (by show 1 ≤ d; omega) (Nat.le_of_ble_eq_true rfl) (Nat.zero_le _) (Nat.zero_le _) ?_
      refine CI.mono H (fun r1 σ1 H => ?_)
      refine j_if_eq (pc := 21) (t := 34) dX11_feed_21 (by decide) (fun c21 => ?_) (fun c21 => ?_)
      · replace H := H.1 c21
        refine j_bipush (pc := 34) (v := -3) dX11_feed_34 (by decide) ?_
        exact s_ireti (pc := 36) dX11_feed_36 rfl H
      · replace H := H.2 c21
        refine j_aload_n (pc := 24) dX11_feed_24 rfl ?_
        refine s_getr (pc := 25) dX11_feed_25 fl_X11_19 shp_0 rfl ?_
        refine s_geti (pc := 28) 513 (rg σ1 513) dX11_feed_28 fl_X11_181 shp_8 rfl rfl rfl ?_
        refine j_goto (pc := 31) (t := 36) dX11_feed_31 (by decide) ?_
        exact s_ireti (pc := 36) dX11_feed_36 rfl H
    · replace H := H.2 c8
      refine j_iconst (pc := 11) (v := -1) dX11_feed_11 (by decide) ?_
      exact s_ireti (pc := 12) dX11_feed_12 rfl H
set_option maxRecDepth 20000 in
theorem b_X11_law_0 {l : Launch} {g : am_G} {d : Nat} {σ : am_S} {k : Int32 → am_S → Prop}   (hd : 1 ≤ d) (H : CI l g M_X10_read (d - 1) [.ref 8] σ (fun r1 σ1 => ((r1 < 0 → CV l g M_X4_becomes (d - 1) [.ref 11, .ref 10, .int (rg σ1 515)] (sR σ1 513 0) (fun σ2 => k 1 σ2)) ∧ (¬ r1 < 0 → k ((-100) - r1) (sR σ1 513 0))))) : CI l g M_X11_law d [.ref 0] σ k := by
  show J l g (M_X11_law, d, 0, 0) 0 [(0, .ref 0)] [] (hp σ) 0 0 (kI k)
  refine j_aload_n (pc := 0) dX11_law_0 rfl ?_
  refine s_getr (pc := 1) dX11_law_1 fl_X11_19 shp_0 rfl ?_
  refine s_callV_i (pc := 4) (M1 := M_X10_read) (n := 0) (as := []) (a := 8) (st := []) dX11_law_4 G_X10_read wm_X11_182 (by decide +kernel) rfl (Nat.le_of_ble_eq_true rfl) shp_8 rfl (by show 1 ≤ d; omega) (Nat.le_of_ble_eq_true rfl) (Nat.zero_le _) (Nat.zero_le _) ?_
  refine CI.mono H (fun r1 σ1 H => ?_)
  refine j_istore_n (pc := 7) (lv1 := [(1, .int r1), (0, .ref 0)]) dX11_law_7 (Nat.le_of_ble_eq_true rfl) rfl ?_
  refine j_aload_n (pc := 8) dX11_law_8 rfl ?_
  refine s_getr (pc := 9) dX11_law_9 fl_X11_19 shp_0 rfl ?_
  refine j_iconst (pc := 12) (v := 0) dX11_law_12 (by decide) ?_
  refine s_put (pc := 13) 513 dX11_law_13 fl_X11_181 shp_8 rfl rfl fp_10_1 rfl rfl ?_
  refine j_iload_n (pc := 16) dX11_law_16 rfl ?_
  refine j_if_lt (pc := 17) (t := 25) dX11_law_17 (by decide) (fun c17 => ?_) (fun c17 => ?_)
  · replace H := H.1 c17
    refine j_aload_n (pc := 25) dX11_law_25 rfl ?_
    refine s_getr (pc := 26) dX11_law_26 fl_X11_26 shp_0 rfl ?_
    refine j_aload_n (pc := 29) dX11_law_29 rfl ?_
    refine s_getr (pc := 30) dX11_law_30 fl_X11_19 shp_0 rfl ?_
    refine s_getr (pc := 33) dX11_law_33 fl_X11_185 shp_8 rfl ?_
    refine j_aload_n (pc := 36) dX11_law_36 rfl ?_
    refine s_getr (pc := 37) dX11_law_37 fl_X11_19 shp_0 rfl ?_
    refine s_geti (pc := 40) 515 (rg σ1 515) dX11_law_40 fl_X11_188 shp_8 rfl rfl rfl ?_
    refine s_callV_v (pc := 43) (M1 := M_X4_becomes) (n := 2) (as := [.ref 10, .int (rg σ1 515)]) (a := 11) (st := []) dX11_law_43 G_X4_becomes wm_X11_191 (by decide +kernel) rfl (Nat.le_of_ble_eq_true rfl) shp_11 rfl (by show 1 ≤ d; omega) (Nat.le_of_ble_eq_true rfl) (Nat.zero_le _) (Nat.zero_le _) ?_
    refine CV.mono H (fun σ2 H => ?_)
    refine j_iconst (pc := 46) (v := 1) dX11_law_46 (by decide) ?_
    exact s_ireti (pc := 47) dX11_law_47 rfl H
  · replace H := H.2 c17
    refine j_bipush (pc := 20) (v := -100) dX11_law_20 (by decide) ?_
    refine j_iload_n (pc := 22) dX11_law_22 rfl ?_
    refine j_isub (pc := 23) dX11_law_23 ?_
    exact s_ireti (pc := 24) dX11_law_24 rfl H
set_option maxRecDepth 20000 in
theorem b_X11_may_0 {l : Launch} {g : am_G} {d : Nat} {σ : am_S} {k : Int32 → am_S → Prop}  {x1 x2 : Int32} (hd : 1 ≤ d) (H : (((¬ x1 < 0 ∧ ¬ rg σ 65 ≤ x1) → (((¬ x2 / 10 < 0 ∧ ¬ rg σ 66 ≤ x2 / 10) → (((¬ x2 - x2 / 10 * 10 < 0 ∧ ¬ rg σ 66 ≤ x2 - x2 / 10 * 10) → ((¬ x2 / 10 = x2 - x2 / 10 * 10 → CV l g M_X6_look (d - 1) [.ref 14, .int 0, .int (rg σ 67), .int 0] σ (fun σ4 => CI l g M_X2_arrangement (d - 1) [.ref 1] σ4 (fun r5 σ5 => CI l g M_X6_mayBe (d - 1) [.ref 14, .int r5, .int x1, .int (x2 / 10), .int (x2 - x2 / 10 * 10)] σ5 (fun r6 σ6 => ((r6 = 0 → k 0 σ6) ∧ (¬ r6 = 0 → k 1 σ6)))))) ∧ (x2 / 10 = x2 - x2 / 10 * 10 → k (-1) σ))) ∧ (¬ (¬ x2 - x2 / 10 * 10 < 0 ∧ ¬ rg σ 66 ≤ x2 - x2 / 10 * 10) → k (-1) σ))) ∧ (¬ (¬ x2 / 10 < 0 ∧ ¬ rg σ 66 ≤ x2 / 10) → k (-1) σ))) ∧ (¬ (¬ x1 < 0 ∧ ¬ rg σ 65 ≤ x1) → k (-1) σ))) : CI l g M_X11_may d [.ref 0, .int x1, .int x2] σ k := by
  show J l g (M_X11_may, d, 0, 0) 0 [(0, .ref 0), (1, .int x1), (2, .int x2)] [] (hp σ) 0 0 (kI k)
  refine j_iload_n (pc := 0) dX11_may_0 rfl ?_
  refine j_bipush (pc := 1) (v := 10) dX11_may_1 (by decide) ?_
  refine j_idiv (pc := 3) dX11_may_3 (by decide) ?_
  refine j_istore_n (pc := 4) (lv1 := [(3, .int (x2 / 10)), (0, .ref 0), (1, .int x1), (2, .int x2)]) dX11_may_4 (Nat.le_of_ble_eq_true rfl) rfl ?_
  refine j_iload_n (pc := 5) dX11_may_5 rfl ?_
  refine j_bipush (pc := 6) (v := 10) dX11_may_6 (by decide) ?_
  refine j_irem (pc := 8) dX11_may_8 (by decide) ?_
  refine j_istore (pc := 9) (lv1 := [(4, .int (x2 - x2 / 10 * 10)), (3, .int (x2 / 10)), (0, .ref 0), (1, .int x1), (2, .int x2)]) dX11_may_9 (Nat.le_of_ble_eq_true rfl) rfl ?_
  refine j_aload_n (pc := 11) dX11_may_11 rfl ?_
  refine s_getr (pc := 12) dX11_may_12 fl_X11_10 shp_0 rfl ?_
  refine j_iload_n (pc := 15) dX11_may_15 rfl ?_
  refine s_callV_i (pc := 16) (M1 := M_X2_hasDoor) (n := 1) (as := [.int x1]) (a := 1) (st := []) dX11_may_16 G_X2_hasDoor wm_X11_152 (by decide +kernel) rfl (Nat.le_of_ble_eq_true rfl) shp_1 rfl (by show 1 ≤ d; omega) (Nat.le_of_ble_eq_true rfl) (Nat.zero_le _) (Nat.zero_le _) ?_
  refine C_X2_hasDoor (d := d - 1) (by omega) ⟨fun c16 => ?_, fun c16 => ?_⟩
  · replace H := H.1 c16
    refine j_if_eq (pc := 19) (t := 51) dX11_may_19 (by decide) (fun q => absurd q (by decide)) (fun _ => ?_)
    refine j_aload_n (pc := 22) dX11_may_22 rfl ?_
    refine s_getr (pc := 23) dX11_may_23 fl_X11_10 shp_0 rfl ?_
    refine j_iload_n (pc := 26) dX11_may_26 rfl ?_
    refine s_callV_i (pc := 27) (M1 := M_X2_hasPerson) (n := 1) (as := [.int (x2 / 10)]) (a := 1) (st := []) dX11_may_27 G_X2_hasPerson wm_X11_142 (by decide +kernel) rfl (Nat.le_of_ble_eq_true rfl) shp_1 rfl (by show 1 ≤ d; omega) (Nat.le_of_ble_eq_true rfl) (Nat.zero_le _) (Nat.zero_le _) ?_
    refine C_X2_hasPerson (d := d - 1) (by omega) ⟨fun c27 => ?_, fun c27 => ?_⟩
    · replace H := H.1 c27
      refine j_if_eq (pc := 30) (t := 51) dX11_may_30 (by decide) (fun q => absurd q (by decide)) (fun _ => ?_)
      refine j_aload_n (pc := 33) dX11_may_33 rfl ?_
      refine s_getr (pc := 34) dX11_may_34 fl_X11_10 shp_0 rfl ?_
      refine j_iload (pc := 37) dX11_may_37 rfl ?_
      refine s_callV_i (pc := 39) (M1 := M_X2_hasPerson) (n := 1) (as := [.int (x2 - x2 / 10 * 10)]) (a := 1) (st := []) dX11_may_39 G_X2_hasPerson wm_X11_142 (by decide +kernel) rfl (Nat.le_of_ble_eq_true rfl) shp_1 rfl (by show 1 ≤ d; omega) (Nat.le_of_ble_eq_true rfl) (Nat.zero_le _) (Nat.zero_le _) ?_
      refine C_X2_hasPerson (d := d - 1) (by omega) ⟨fun c39 => ?_, fun c39 => ?_⟩
      · replace H := H.1 c39
        refine j_if_eq (pc := 42) (t := 51) dX11_may_42 (by decide) (fun q => absurd q (by decide)) (fun _ => ?_)
        refine j_iload_n (pc := 45) dX11_may_45 rfl ?_
        refine j_iload (pc := 46) dX11_may_46 rfl ?_
        refine j_icmp_ne (pc := 48) (t := 53) dX11_may_48 (by decide) (fun c48 => ?_) (fun c48 => ?_)
        · replace H := H.1 c48
          refine j_aload_n (pc := 53) dX11_may_53 rfl ?_
          refine s_getr (pc := 54) dX11_may_54 fl_X11_35 shp_0 rfl ?_
          refine j_iconst (pc := 57) (v := 0) dX11_may_57 (by decide) ?_
          refine j_aload_n (pc := 58) dX11_may_58 rfl ?_
          refine s_getr (pc := 59) dX11_may_59 fl_X11_10 shp_0 rfl ?_
          refine s_geti (pc := 62) 67 (rg σ 67) dX11_may_62 fl_X11_146 shp_1 rfl rfl rfl ?_
          refine j_iconst (pc := 65) (v := 0) dX11_may_65 (by decide) ?_
          refine s_callV_v (pc := 66) (M1 := M_X6_look) (n := 3) (as := [.int 0, .int (rg σ 67), .int 0]) (a := 14) (st := []) dX11_may_66 G_X6_look wm_X11_195 (by decide +kernel) rfl (Nat.le_of_ble_eq_true rfl) shp_14 rfl (by show 1 ≤ d; omega) (Nat.le_of_ble_eq_true rfl) (Nat.zero_le _) (Nat.zero_le _) ?_
          refine CV.mono H (fun σ4 H => ?_)
          refine j_aload_n (pc := 69) dX11_may_69 rfl ?_
          refine s_getr (pc := 70) dX11_may_70 fl_X11_35 shp_0 rfl ?_
          refine j_aload_n (pc := 73) dX11_may_73 rfl ?_
          refine s_getr (pc := 74) dX11_may_74 fl_X11_10 shp_0 rfl ?_
          refine s_callV_i (pc := 77) (M1 := M_X2_arrangement) (n := 0) (as := []) (a := 1) (st := [.ref 14]) dX11_may_77 G_X2_arrangement wm_X11_198 (by decide +kernel) rfl (Nat.le_of_ble_eq_true rfl) shp_1 rfl (by show 1 ≤ d; omega) (Nat.le_of_ble_eq_true rfl) (Nat.zero_le _) (Nat.zero_le _) ?_
          refine CI.mono H (fun r5 σ5 H => ?_)
          refine j_iload_n (pc := 80) dX11_may_80 rfl ?_
          refine j_iload_n (pc := 81) dX11_may_81 rfl ?_
          refine j_iload (pc := 82) dX11_may_82 rfl ?_
          refine s_callV_i (pc := 84) (M1 := M_X6_mayBe) (n := 4) (as := [.int r5, .int x1, .int (x2 / 10), .int (x2 - x2 / 10 * 10)]) (a := 14) (st := []) dX11_may_84 G_X6_mayBe wm_X11_201 (by decide +kernel) rfl (Nat.le_of_ble_eq_true rfl) shp_14 rfl (by show 1 ≤ d; omega) (Nat.le_of_ble_eq_true rfl) (Nat.zero_le _) (Nat.zero_le _) ?_
          refine CI.mono H (fun r6 σ6 H => ?_)
          refine j_if_eq (pc := 87) (t := 94) dX11_may_87 (by decide) (fun c87 => ?_) (fun c87 => ?_)
          · replace H := H.1 c87
            refine j_iconst (pc := 94) (v := 0) dX11_may_94 (by decide) ?_
            exact s_ireti (pc := 95) dX11_may_95 rfl H
          · replace H := H.2 c87
            refine j_iconst (pc := 90) (v := 1) dX11_may_90 (by decide) ?_
            refine j_goto (pc := 91) (t := 95) dX11_may_91 (by decide) ?_
            exact s_ireti (pc := 95) dX11_may_95 rfl H
        · replace H := H.2 c48
          refine j_iconst (pc := 51) (v := -1) dX11_may_51 (by decide) ?_
          exact s_ireti (pc := 52) dX11_may_52 rfl H
      · replace H := H.2 c39
        refine j_if_eq (pc := 42) (t := 51) dX11_may_42 (by decide) (fun _ => ?_) (fun q => absurd q (by decide))
        refine j_iconst (pc := 51) (v := -1) dX11_may_51 (by decide) ?_
        exact s_ireti (pc := 52) dX11_may_52 rfl H
    · replace H := H.2 c27
      refine j_if_eq (pc := 30) (t := 51) dX11_may_30 (by decide) (fun _ => ?_) (fun q => absurd q (by decide))
      refine j_iconst (pc := 51) (v := -1) dX11_may_51 (by decide) ?_
      exact s_ireti (pc := 52) dX11_may_52 rfl H
  · replace H := H.2 c16
    refine j_if_eq (pc := 19) (t := 51) dX11_may_19 (by decide) (fun _ => ?_) (fun q => absurd q (by decide))
    refine j_iconst (pc := 51) (v := -1) dX11_may_51 (by decide) ?_
    exact s_ireti (pc := 52) dX11_may_52 rfl H
set_option maxRecDepth 20000 in
theorem b_X11_changes_0 {l : Launch} {g : am_G} {d : Nat} {σ : am_S} {k : Int32 → am_S → Prop}  {x1 : Int32} (hd : 1 ≤ d) (H : (((-1) ≤ x1 → CV l g M_X6_weigh (d - 1) [.ref 14, .int 0, .int (rg σ 67), .int 0] σ (fun σ1 => CI l g M_X2_arrangement (d - 1) [.ref 1] σ1 (fun r2 σ2 => CV l g M_X9_list (d - 1) [.ref 20, .ref 14, .int r2] σ2 (fun σ3 => ((¬ x1 = (-1) → ((rg σ3 1283 ≤ x1 → k (-1) σ3) ∧ (¬ rg σ3 1283 ≤ x1 → (vp_in x1 60 ∧ k (ar σ3 21 x1.toNatClampNeg) σ3)))) ∧ (x1 = (-1) → k (rg σ3 1283) σ3)))))) ∧ (¬ (-1) ≤ x1 → k (-1) σ))) : CI l g M_X11_changes d [.ref 0, .int x1] σ k := by
  show J l g (M_X11_changes, d, 0, 0) 0 [(0, .ref 0), (1, .int x1)] [] (hp σ) 0 0 (kI k)
  refine j_iload_n (pc := 0) dX11_changes_0 rfl ?_
  refine j_iconst (pc := 1) (v := -1) dX11_changes_1 (by decide) ?_
  refine j_icmp_ge (pc := 2) (t := 7) dX11_changes_2 (by decide) (fun c2 => ?_) (fun c2 => ?_)
  · replace H := H.1 c2
    refine j_aload_n (pc := 7) dX11_changes_7 rfl ?_
    refine s_getr (pc := 8) dX11_changes_8 fl_X11_35 shp_0 rfl ?_
    refine j_iconst (pc := 11) (v := 0) dX11_changes_11 (by decide) ?_
    refine j_aload_n (pc := 12) dX11_changes_12 rfl ?_
    refine s_getr (pc := 13) dX11_changes_13 fl_X11_10 shp_0 rfl ?_
    refine s_geti (pc := 16) 67 (rg σ 67) dX11_changes_16 fl_X11_146 shp_1 rfl rfl rfl ?_
    refine j_iconst (pc := 19) (v := 0) dX11_changes_19 (by decide) ?_
    refine s_callV_v (pc := 20) (M1 := M_X6_weigh) (n := 3) (as := [.int 0, .int (rg σ 67), .int 0]) (a := 14) (st := []) dX11_changes_20 G_X6_weigh wm_X11_205 (by decide +kernel) rfl (Nat.le_of_ble_eq_true rfl) shp_14 rfl (by show 1 ≤ d; omega) (Nat.le_of_ble_eq_true rfl) (Nat.zero_le _) (Nat.zero_le _) ?_
    refine CV.mono H (fun σ1 H => ?_)
    refine j_aload_n (pc := 23) dX11_changes_23 rfl ?_
    refine s_getr (pc := 24) dX11_changes_24 fl_X11_42 shp_0 rfl ?_
    refine s_getr (pc := 27) dX11_changes_27 fl_X11_208 shp_19 rfl ?_
    refine j_astore_n (pc := 30) (lv1 := [(2, .ref 20), (0, .ref 0), (1, .int x1)]) dX11_changes_30 (Nat.le_of_ble_eq_true rfl) rfl ?_
    refine j_aload_n (pc := 31) dX11_changes_31 rfl ?_
    refine j_aload_n (pc := 32) dX11_changes_32 rfl ?_
    refine s_getr (pc := 33) dX11_changes_33 fl_X11_35 shp_0 rfl ?_
    refine j_aload_n (pc := 36) dX11_changes_36 rfl ?_
    refine s_getr (pc := 37) dX11_changes_37 fl_X11_10 shp_0 rfl ?_
    refine s_callV_i (pc := 40) (M1 := M_X2_arrangement) (n := 0) (as := []) (a := 1) (st := [.ref 14, .ref 20]) dX11_changes_40 G_X2_arrangement wm_X11_198 (by decide +kernel) rfl (Nat.le_of_ble_eq_true rfl) shp_1 rfl (by show 1 ≤ d; omega) (Nat.le_of_ble_eq_true rfl) (Nat.zero_le _) (Nat.zero_le _) ?_
    refine CI.mono H (fun r2 σ2 H => ?_)
    refine s_callV_v (pc := 43) (M1 := M_X9_list) (n := 2) (as := [.ref 14, .int r2]) (a := 20) (st := []) dX11_changes_43 G_X9_list wm_X11_212 (by decide +kernel) rfl (Nat.le_of_ble_eq_true rfl) shp_20 rfl (by show 1 ≤ d; omega) (Nat.le_of_ble_eq_true rfl) (Nat.zero_le _) (Nat.zero_le _) ?_
    refine CV.mono H (fun σ3 H => ?_)
    refine j_iload_n (pc := 46) dX11_changes_46 rfl ?_
    refine j_iconst (pc := 47) (v := -1) dX11_changes_47 (by decide) ?_
    refine j_icmp_ne (pc := 48) (t := 56) dX11_changes_48 (by decide) (fun c48 => ?_) (fun c48 => ?_)
    · replace H := H.1 c48
      refine j_iload_n (pc := 56) dX11_changes_56 rfl ?_
      refine j_aload_n (pc := 57) dX11_changes_57 rfl ?_
      refine s_geti (pc := 58) 1283 (rg σ3 1283) dX11_changes_58 fl_X11_218 shp_20 rfl rfl rfl ?_
      refine j_icmp_ge (pc := 61) (t := 73) dX11_changes_61 (by decide) (fun c61 => ?_) (fun c61 => ?_)
      · replace H := H.1 c61
        refine j_iconst (pc := 73) (v := -1) dX11_changes_73 (by decide) ?_
        exact s_ireti (pc := 74) dX11_changes_74 rfl H
      · replace H := H.2 c61
        refine j_aload_n (pc := 64) dX11_changes_64 rfl ?_
        refine s_getr (pc := 65) dX11_changes_65 fl_X11_221 shp_20 rfl ?_
        refine j_iload_n (pc := 68) dX11_changes_68 rfl ?_
        have b69 := H.1
        replace H := H.2
        refine s_iald (pc := 69) (ar σ3 21 x1.toNatClampNeg) dX11_changes_69 shp_21 b69 rfl ?_
        refine j_goto (pc := 70) (t := 74) dX11_changes_70 (by decide) ?_
        exact s_ireti (pc := 74) dX11_changes_74 rfl H
    · replace H := H.2 c48
      refine j_aload_n (pc := 51) dX11_changes_51 rfl ?_
      refine s_geti (pc := 52) 1283 (rg σ3 1283) dX11_changes_52 fl_X11_218 shp_20 rfl rfl rfl ?_
      exact s_ireti (pc := 55) dX11_changes_55 rfl H
  · replace H := H.2 c2
    refine j_iconst (pc := 5) (v := -1) dX11_changes_5 (by decide) ?_
    exact s_ireti (pc := 6) dX11_changes_6 rfl H
set_option maxRecDepth 20000 in
theorem b_X11_change_0 {l : Launch} {g : am_G} {d : Nat} {σ : am_S} {k : Int32 → am_S → Prop}  {x1 x2 : Int32} (hd : 1 ≤ d) (H : CI l g M_X11_may (d - 1) [.ref 0, .int x1, .int x2] σ (fun r1 σ1 => ((0 ≤ r1 → ((¬ r1 = 0 → (vp_in x1 5 ∧ (vp_in (x2 / 10) 7 ∧ (vp_in x1 5 ∧ (vp_in (x2 - x2 / 10 * 10) 7 ∧ k ((rg σ1 10) + 1) (sR (sR (sA (sA σ1 7 ((x2 / 10).toNatClampNeg) (ar σ1 3 x1.toNatClampNeg)) 7 ((x2 - x2 / 10 * 10).toNatClampNeg) (ar σ1 2 x1.toNatClampNeg)) 11 ((100 * x1) + x2)) 10 ((rg σ1 10) + 1))))))) ∧ (r1 = 0 → k (-2) σ1))) ∧ (¬ 0 ≤ r1 → k (-1) σ1)))) : CI l g M_X11_change d [.ref 0, .int x1, .int x2] σ k := by
  show J l g (M_X11_change, d, 0, 0) 0 [(0, .ref 0), (1, .int x1), (2, .int x2)] [] (hp σ) 0 0 (kI k)
  refine j_aload_n (pc := 0) dX11_change_0 rfl ?_
  refine j_iload_n (pc := 1) dX11_change_1 rfl ?_
  refine j_iload_n (pc := 2) dX11_change_2 rfl ?_
  refine s_callV_i (pc := 3) (M1 := M_X11_may) (n := 2) (as := [.int x1, .int x2]) (a := 0) (st := []) dX11_change_3 G_X11_may wm_X11_224 (by decide +kernel) rfl (Nat.le_of_ble_eq_true rfl) shp_0 rfl (by show 1 ≤ d; omega) (Nat.le_of_ble_eq_true rfl) (Nat.zero_le _) (Nat.zero_le _) ?_
  refine CI.mono H (fun r1 σ1 H => ?_)
  refine j_istore_n (pc := 6) (lv1 := [(3, .int r1), (0, .ref 0), (1, .int x1), (2, .int x2)]) dX11_change_6 (Nat.le_of_ble_eq_true rfl) rfl ?_
  refine j_iload_n (pc := 7) dX11_change_7 rfl ?_
  refine j_if_ge (pc := 8) (t := 13) dX11_change_8 (by decide) (fun c8 => ?_) (fun c8 => ?_)
  · replace H := H.1 c8
    refine j_iload_n (pc := 13) dX11_change_13 rfl ?_
    refine j_if_ne (pc := 14) (t := 20) dX11_change_14 (by decide) (fun c14 => ?_) (fun c14 => ?_)
    · replace H := H.1 c14
      refine j_aload_n (pc := 20) dX11_change_20 rfl ?_
      refine s_getr (pc := 21) dX11_change_21 fl_X11_10 shp_0 rfl ?_
      refine s_getr (pc := 24) dX11_change_24 fl_X11_169 shp_1 rfl ?_
      refine j_iload_n (pc := 27) dX11_change_27 rfl ?_
      refine j_bipush (pc := 28) (v := 10) dX11_change_28 (by decide) ?_
      refine j_idiv (pc := 30) dX11_change_30 (by decide) ?_
      refine j_aload_n (pc := 31) dX11_change_31 rfl ?_
      refine s_getr (pc := 32) dX11_change_32 fl_X11_10 shp_0 rfl ?_
      refine s_getr (pc := 35) dX11_change_35 fl_X11_159 shp_1 rfl ?_
      refine j_iload_n (pc := 38) dX11_change_38 rfl ?_
      have b39 := H.1
      replace H := H.2
      refine s_iald (pc := 39) (ar σ1 3 x1.toNatClampNeg) dX11_change_39 shp_3 b39 rfl ?_
      have b40 := H.1
      replace H := H.2
      refine s_iast (pc := 40) dX11_change_40 shp_7 b40 ?_
      refine j_aload_n (pc := 41) dX11_change_41 rfl ?_
      refine s_getr (pc := 42) dX11_change_42 fl_X11_10 shp_0 rfl ?_
      refine s_getr (pc := 45) dX11_change_45 fl_X11_169 shp_1 rfl ?_
      refine j_iload_n (pc := 48) dX11_change_48 rfl ?_
      refine j_bipush (pc := 49) (v := 10) dX11_change_49 (by decide) ?_
      refine j_irem (pc := 51) dX11_change_51 (by decide) ?_
      refine j_aload_n (pc := 52) dX11_change_52 rfl ?_
      refine s_getr (pc := 53) dX11_change_53 fl_X11_10 shp_0 rfl ?_
      refine s_getr (pc := 56) dX11_change_56 fl_X11_155 shp_1 rfl ?_
      refine j_iload_n (pc := 59) dX11_change_59 rfl ?_
      have b60 := H.1
      replace H := H.2
      refine s_iald (pc := 60) (ar σ1 2 x1.toNatClampNeg) dX11_change_60 shp_2 b60 rfl ?_
      have b61 := H.1
      replace H := H.2
      refine s_iast (pc := 61) dX11_change_61 shp_7 b61 ?_
      refine j_aload_n (pc := 62) dX11_change_62 rfl ?_
      refine j_bipush (pc := 63) (v := 100) dX11_change_63 (by decide) ?_
      refine j_iload_n (pc := 65) dX11_change_65 rfl ?_
      refine j_imul (pc := 66) dX11_change_66 ?_
      refine j_iload_n (pc := 67) dX11_change_67 rfl ?_
      refine j_iadd (pc := 68) dX11_change_68 ?_
      refine s_put (pc := 69) 11 dX11_change_69 fl_X11_84 shp_0 rfl rfl fp_11_11 rfl rfl ?_
      refine j_aload_n (pc := 72) dX11_change_72 rfl ?_
      refine j_dup (pc := 73) dX11_change_73 rfl ?_
      refine s_geti (pc := 74) 10 (rg σ1 10) dX11_change_74 fl_X11_80 shp_0 rfl rfl rfl ?_
      refine j_iconst (pc := 77) (v := 1) dX11_change_77 (by decide) ?_
      refine j_iadd (pc := 78) dX11_change_78 ?_
      refine s_put (pc := 79) 10 dX11_change_79 fl_X11_80 shp_0 rfl rfl fp_11_10 rfl rfl ?_
      refine j_aload_n (pc := 82) dX11_change_82 rfl ?_
      refine s_geti (pc := 83) 10 ((rg σ1 10) + 1) dX11_change_83 fl_X11_80 shp_0 rfl rfl rfl ?_
      exact s_ireti (pc := 86) dX11_change_86 rfl H
    · replace H := H.2 c14
      refine j_bipush (pc := 17) (v := -2) dX11_change_17 (by decide) ?_
      exact s_ireti (pc := 19) dX11_change_19 rfl H
  · replace H := H.2 c8
    refine j_iconst (pc := 11) (v := -1) dX11_change_11 (by decide) ?_
    exact s_ireti (pc := 12) dX11_change_12 rfl H
set_option maxRecDepth 20000 in
theorem b_X11_led_0 {l : Launch} {g : am_G} {d : Nat} {σ : am_S} {k : Int32 → am_S → Prop}  {x1 : Int32} (H : ((¬ x1 = 0 → ((x1 = 1 → ((¬ rg σ 10 = 0 → k (rg σ 11) σ) ∧ (rg σ 10 = 0 → k (-5) σ))) ∧ (¬ x1 = 1 → k (-1) σ))) ∧ (x1 = 0 → k (rg σ 10) σ))) : CI l g M_X11_led d [.ref 0, .int x1] σ k := by
  show J l g (M_X11_led, d, 0, 0) 0 [(0, .ref 0), (1, .int x1)] [] (hp σ) 0 0 (kI k)
  refine j_iload_n (pc := 0) dX11_led_0 rfl ?_
  refine j_if_ne (pc := 1) (t := 9) dX11_led_1 (by decide) (fun c1 => ?_) (fun c1 => ?_)
  · replace H := H.1 c1
    refine j_iload_n (pc := 9) dX11_led_9 rfl ?_
    refine j_iconst (pc := 10) (v := 1) dX11_led_10 (by decide) ?_
    refine j_icmp_eq (pc := 11) (t := 16) dX11_led_11 (by decide) (fun c11 => ?_) (fun c11 => ?_)
    · replace H := H.1 c11
      refine j_aload_n (pc := 16) dX11_led_16 rfl ?_
      refine s_geti (pc := 17) 10 (rg σ 10) dX11_led_17 fl_X11_80 shp_0 rfl rfl rfl ?_
      refine j_if_ne (pc := 20) (t := 28) dX11_led_20 (by decide) (fun c20 => ?_) (fun c20 => ?_)
      · replace H := H.1 c20
        refine j_aload_n (pc := 28) dX11_led_28 rfl ?_
        refine s_geti (pc := 29) 11 (rg σ 11) dX11_led_29 fl_X11_84 shp_0 rfl rfl rfl ?_
        exact s_ireti (pc := 32) dX11_led_32 rfl H
      · replace H := H.2 c20
        refine j_bipush (pc := 23) (v := -5) dX11_led_23 (by decide) ?_
        refine j_goto (pc := 25) (t := 32) dX11_led_25 (by decide) ?_
        exact s_ireti (pc := 32) dX11_led_32 rfl H
    · replace H := H.2 c11
      refine j_iconst (pc := 14) (v := -1) dX11_led_14 (by decide) ?_
      exact s_ireti (pc := 15) dX11_led_15 rfl H
  · replace H := H.2 c1
    refine j_aload_n (pc := 4) dX11_led_4 rfl ?_
    refine s_geti (pc := 5) 10 (rg σ 10) dX11_led_5 fl_X11_80 shp_0 rfl rfl rfl ?_
    exact s_ireti (pc := 8) dX11_led_8 rfl H
set_option maxRecDepth 20000 in
theorem b_X11_reach_0 {l : Launch} {g : am_G} {d : Nat} {σ : am_S} {k : Int32 → am_S → Prop}  {x1 : Int32} (hd : 1 ≤ d) (H : ((x1 < 0 → k (-1) σ) ∧ (¬ x1 < 0 → ((x1 ≤ 2 → CV l g M_X6_weigh (d - 1) [.ref 14, .int 0, .int (rg σ 67), .int 0] σ (fun σ1 => CI l g M_X2_arrangement (d - 1) [.ref 1] σ1 (fun r2 σ2 => CV l g M_X7_spreadOut (d - 1) [.ref 19, .ref 14, .int r2] σ2 (fun σ3 => ((¬ x1 = 0 → ((¬ x1 = 1 → CI l g M_X7_longest (d - 1) [.ref 19, .ref 14] σ3 (fun r4 σ4 => k r4 σ4)) ∧ (x1 = 1 → CI l g M_X7_rests (d - 1) [.ref 19, .ref 14] σ3 (fun r5 σ5 => k r5 σ5)))) ∧ (x1 = 0 → k (rg σ3 1224) σ3)))))) ∧ (¬ x1 ≤ 2 → k (-1) σ))))) : CI l g M_X11_reach d [.ref 0, .int x1] σ k := by
  show J l g (M_X11_reach, d, 0, 0) 0 [(0, .ref 0), (1, .int x1)] [] (hp σ) 0 0 (kI k)
  refine j_iload_n (pc := 0) dX11_reach_0 rfl ?_
  refine j_if_lt (pc := 1) (t := 9) dX11_reach_1 (by decide) (fun c1 => ?_) (fun c1 => ?_)
  · replace H := H.1 c1
    refine j_iconst (pc := 9) (v := -1) dX11_reach_9 (by decide) ?_
    exact s_ireti (pc := 10) dX11_reach_10 rfl H
  · replace H := H.2 c1
    refine j_iload_n (pc := 4) dX11_reach_4 rfl ?_
    refine j_iconst (pc := 5) (v := 2) dX11_reach_5 (by decide) ?_
    refine j_icmp_le (pc := 6) (t := 11) dX11_reach_6 (by decide) (fun c6 => ?_) (fun c6 => ?_)
    · replace H := H.1 c6
      refine j_aload_n (pc := 11) dX11_reach_11 rfl ?_
      refine s_getr (pc := 12) dX11_reach_12 fl_X11_35 shp_0 rfl ?_
      refine j_iconst (pc := 15) (v := 0) dX11_reach_15 (by decide) ?_
      refine j_aload_n (pc := 16) dX11_reach_16 rfl ?_
      refine s_getr (pc := 17) dX11_reach_17 fl_X11_10 shp_0 rfl ?_
      refine s_geti (pc := 20) 67 (rg σ 67) dX11_reach_20 fl_X11_146 shp_1 rfl rfl rfl ?_
      refine j_iconst (pc := 23) (v := 0) dX11_reach_23 (by decide) ?_
      refine s_callV_v (pc := 24) (M1 := M_X6_weigh) (n := 3) (as := [.int 0, .int (rg σ 67), .int 0]) (a := 14) (st := []) dX11_reach_24 G_X6_weigh wm_X11_205 (by decide +kernel) rfl (Nat.le_of_ble_eq_true rfl) shp_14 rfl (by show 1 ≤ d; omega) (Nat.le_of_ble_eq_true rfl) (Nat.zero_le _) (Nat.zero_le _) ?_
      refine CV.mono H (fun σ1 H => ?_)
      refine j_aload_n (pc := 27) dX11_reach_27 rfl ?_
      refine s_getr (pc := 28) dX11_reach_28 fl_X11_42 shp_0 rfl ?_
      refine j_aload_n (pc := 31) dX11_reach_31 rfl ?_
      refine s_getr (pc := 32) dX11_reach_32 fl_X11_35 shp_0 rfl ?_
      refine j_aload_n (pc := 35) dX11_reach_35 rfl ?_
      refine s_getr (pc := 36) dX11_reach_36 fl_X11_10 shp_0 rfl ?_
      refine s_callV_i (pc := 39) (M1 := M_X2_arrangement) (n := 0) (as := []) (a := 1) (st := [.ref 14, .ref 19]) dX11_reach_39 G_X2_arrangement wm_X11_198 (by decide +kernel) rfl (Nat.le_of_ble_eq_true rfl) shp_1 rfl (by show 1 ≤ d; omega) (Nat.le_of_ble_eq_true rfl) (Nat.zero_le _) (Nat.zero_le _) ?_
      refine CI.mono H (fun r2 σ2 H => ?_)
      refine s_callV_v (pc := 42) (M1 := M_X7_spreadOut) (n := 2) (as := [.ref 14, .int r2]) (a := 19) (st := []) dX11_reach_42 G_X7_spreadOut wm_X11_227 (by decide +kernel) rfl (Nat.le_of_ble_eq_true rfl) shp_19 rfl (by show 1 ≤ d; omega) (Nat.le_of_ble_eq_true rfl) (Nat.zero_le _) (Nat.zero_le _) ?_
      refine CV.mono H (fun σ3 H => ?_)
      refine j_iload_n (pc := 45) dX11_reach_45 rfl ?_
      refine j_if_ne (pc := 46) (t := 57) dX11_reach_46 (by decide) (fun c46 => ?_) (fun c46 => ?_)
      · replace H := H.1 c46
        refine j_iload_n (pc := 57) dX11_reach_57 rfl ?_
        refine j_iconst (pc := 58) (v := 1) dX11_reach_58 (by decide) ?_
        refine j_icmp_ne (pc := 59) (t := 76) dX11_reach_59 (by decide) (fun c59 => ?_) (fun c59 => ?_)
        · replace H := H.1 c59
          refine j_aload_n (pc := 76) dX11_reach_76 rfl ?_
          refine s_getr (pc := 77) dX11_reach_77 fl_X11_42 shp_0 rfl ?_
          refine j_aload_n (pc := 80) dX11_reach_80 rfl ?_
          refine s_getr (pc := 81) dX11_reach_81 fl_X11_35 shp_0 rfl ?_
          refine s_callV_i (pc := 84) (M1 := M_X7_longest) (n := 1) (as := [.ref 14]) (a := 19) (st := []) dX11_reach_84 G_X7_longest wm_X11_237 (by decide +kernel) rfl (Nat.le_of_ble_eq_true rfl) shp_19 rfl (by show 1 ≤ d; omega) (Nat.le_of_ble_eq_true rfl) (Nat.zero_le _) (Nat.zero_le _) ?_
          refine CI.mono H (fun r4 σ4 H => ?_)
          exact s_ireti (pc := 87) dX11_reach_87 rfl H
        · replace H := H.2 c59
          refine j_aload_n (pc := 62) dX11_reach_62 rfl ?_
          refine s_getr (pc := 63) dX11_reach_63 fl_X11_42 shp_0 rfl ?_
          refine j_aload_n (pc := 66) dX11_reach_66 rfl ?_
          refine s_getr (pc := 67) dX11_reach_67 fl_X11_35 shp_0 rfl ?_
          refine s_callV_i (pc := 70) (M1 := M_X7_rests) (n := 1) (as := [.ref 14]) (a := 19) (st := []) dX11_reach_70 G_X7_rests wm_X11_233 (by decide +kernel) rfl (Nat.le_of_ble_eq_true rfl) shp_19 rfl (by show 1 ≤ d; omega) (Nat.le_of_ble_eq_true rfl) (Nat.zero_le _) (Nat.zero_le _) ?_
          refine CI.mono H (fun r5 σ5 H => ?_)
          refine j_goto (pc := 73) (t := 87) dX11_reach_73 (by decide) ?_
          exact s_ireti (pc := 87) dX11_reach_87 rfl H
      · replace H := H.2 c46
        refine j_aload_n (pc := 49) dX11_reach_49 rfl ?_
        refine s_getr (pc := 50) dX11_reach_50 fl_X11_42 shp_0 rfl ?_
        refine s_geti (pc := 53) 1224 (rg σ3 1224) dX11_reach_53 fl_X11_230 shp_19 rfl rfl rfl ?_
        exact s_ireti (pc := 56) dX11_reach_56 rfl H
    · replace H := H.2 c6
      refine j_iconst (pc := 9) (v := -1) dX11_reach_9 (by decide) ?_
      exact s_ireti (pc := 10) dX11_reach_10 rfl H
set_option maxRecDepth 20000 in
theorem b_X11_canBe_0 {l : Launch} {g : am_G} {d : Nat} {σ : am_S} {k : Int32 → am_S → Prop}  {x1 : Int32} (hd : 1 ≤ d) (H : (((¬ x1 < 0 ∧ ¬ rg σ 66 ≤ x1) → CV l g M_X6_weigh (d - 1) [.ref 14, .int 0, .int (rg σ 67), .int 0] σ (fun σ2 => CI l g M_X2_arrangement (d - 1) [.ref 1] σ2 (fun r3 σ3 => CV l g M_X7_spreadOut (d - 1) [.ref 19, .ref 14, .int r3] σ3 (fun σ4 => JI l g M_X11_canBe d 51 [(0, .ref 0), (1, .int x1), (2, .int 0), (3, .int 0)] [] σ4 k)))) ∧ (¬ (¬ x1 < 0 ∧ ¬ rg σ 66 ≤ x1) → k (-1) σ))) : CI l g M_X11_canBe d [.ref 0, .int x1] σ k := by
  show J l g (M_X11_canBe, d, 0, 0) 0 [(0, .ref 0), (1, .int x1)] [] (hp σ) 0 0 (kI k)
  refine j_aload_n (pc := 0) dX11_canBe_0 rfl ?_
  refine s_getr (pc := 1) dX11_canBe_1 fl_X11_10 shp_0 rfl ?_
  refine j_iload_n (pc := 4) dX11_canBe_4 rfl ?_
  refine s_callV_i (pc := 5) (M1 := M_X2_hasPerson) (n := 1) (as := [.int x1]) (a := 1) (st := []) dX11_canBe_5 G_X2_hasPerson wm_X11_142 (by decide +kernel) rfl (Nat.le_of_ble_eq_true rfl) shp_1 rfl (by show 1 ≤ d; omega) (Nat.le_of_ble_eq_true rfl) (Nat.zero_le _) (Nat.zero_le _) ?_
  refine C_X2_hasPerson (d := d - 1) (by omega) ⟨fun c5 => ?_, fun c5 => ?_⟩
  · replace H := H.1 c5
    refine j_if_ne (pc := 8) (t := 13) dX11_canBe_8 (by decide) (fun _ => ?_) (fun q => absurd q (by decide))
    refine j_aload_n (pc := 13) dX11_canBe_13 rfl ?_
    refine s_getr (pc := 14) dX11_canBe_14 fl_X11_35 shp_0 rfl ?_
    refine j_iconst (pc := 17) (v := 0) dX11_canBe_17 (by decide) ?_
    refine j_aload_n (pc := 18) dX11_canBe_18 rfl ?_
    refine s_getr (pc := 19) dX11_canBe_19 fl_X11_10 shp_0 rfl ?_
    refine s_geti (pc := 22) 67 (rg σ 67) dX11_canBe_22 fl_X11_146 shp_1 rfl rfl rfl ?_
    refine j_iconst (pc := 25) (v := 0) dX11_canBe_25 (by decide) ?_
    refine s_callV_v (pc := 26) (M1 := M_X6_weigh) (n := 3) (as := [.int 0, .int (rg σ 67), .int 0]) (a := 14) (st := []) dX11_canBe_26 G_X6_weigh wm_X11_205 (by decide +kernel) rfl (Nat.le_of_ble_eq_true rfl) shp_14 rfl (by show 1 ≤ d; omega) (Nat.le_of_ble_eq_true rfl) (Nat.zero_le _) (Nat.zero_le _) ?_
    refine CV.mono H (fun σ2 H => ?_)
    refine j_aload_n (pc := 29) dX11_canBe_29 rfl ?_
    refine s_getr (pc := 30) dX11_canBe_30 fl_X11_42 shp_0 rfl ?_
    refine j_aload_n (pc := 33) dX11_canBe_33 rfl ?_
    refine s_getr (pc := 34) dX11_canBe_34 fl_X11_35 shp_0 rfl ?_
    refine j_aload_n (pc := 37) dX11_canBe_37 rfl ?_
    refine s_getr (pc := 38) dX11_canBe_38 fl_X11_10 shp_0 rfl ?_
    refine s_callV_i (pc := 41) (M1 := M_X2_arrangement) (n := 0) (as := []) (a := 1) (st := [.ref 14, .ref 19]) dX11_canBe_41 G_X2_arrangement wm_X11_198 (by decide +kernel) rfl (Nat.le_of_ble_eq_true rfl) shp_1 rfl (by show 1 ≤ d; omega) (Nat.le_of_ble_eq_true rfl) (Nat.zero_le _) (Nat.zero_le _) ?_
    refine CI.mono H (fun r3 σ3 H => ?_)
    refine s_callV_v (pc := 44) (M1 := M_X7_spreadOut) (n := 2) (as := [.ref 14, .int r3]) (a := 19) (st := []) dX11_canBe_44 G_X7_spreadOut wm_X11_227 (by decide +kernel) rfl (Nat.le_of_ble_eq_true rfl) shp_19 rfl (by show 1 ≤ d; omega) (Nat.le_of_ble_eq_true rfl) (Nat.zero_le _) (Nat.zero_le _) ?_
    refine CV.mono H (fun σ4 H => ?_)
    refine j_iconst (pc := 47) (v := 0) dX11_canBe_47 (by decide) ?_
    refine j_istore_n (pc := 48) (lv1 := [(2, .int 0), (0, .ref 0), (1, .int x1)]) dX11_canBe_48 (Nat.le_of_ble_eq_true rfl) rfl ?_
    refine j_iconst (pc := 49) (v := 0) dX11_canBe_49 (by decide) ?_
    refine j_istore_n (pc := 50) (lv1 := [(3, .int 0), (2, .int 0), (0, .ref 0), (1, .int x1)]) dX11_canBe_50 (Nat.le_of_ble_eq_true rfl) rfl ?_
    refine j_sub [2, 3, 1, 0] rfl ?_
    exact H
  · replace H := H.2 c5
    refine j_if_ne (pc := 8) (t := 13) dX11_canBe_8 (by decide) (fun q => absurd q (by decide)) (fun _ => ?_)
    refine j_iconst (pc := 11) (v := -1) dX11_canBe_11 (by decide) ?_
    exact s_ireti (pc := 12) dX11_canBe_12 rfl H
set_option maxRecDepth 20000 in
theorem b_X11_canBe_51 {l : Launch} {g : am_G} {d : Nat} {σ : am_S} {k : Int32 → am_S → Prop}  {x1 x2 x3 : Int32} (hd : 1 ≤ d) (H : ((rg σ 1224 ≤ x3 → k x2 σ) ∧ (¬ rg σ 1224 ≤ x3 → (vp_in x3 630 ∧ (∀ x2_1 : Int32, x2_1 = x2 ||| ((1 : Int32) <<< ((((ar σ 24 x3.toNatClampNeg) >>> ((2 * x1) &&& 31)) &&& 3) &&& 31)) → JI l g M_X11_canBe d 51 [(0, .ref 0), (1, .int x1), (2, .int x2_1), (3, .int (x3 + 1))] [] σ k))))) : JI l g M_X11_canBe d 51 [(0, .ref 0), (1, .int x1), (2, .int x2), (3, .int x3)] [] σ k := by
  show J l g (M_X11_canBe, d, 0, 0) 51 [(0, .ref 0), (1, .int x1), (2, .int x2), (3, .int x3)] [] (hp σ) 0 0 (kI k)
  refine j_iload_n (pc := 51) dX11_canBe_51 rfl ?_
  refine j_aload_n (pc := 52) dX11_canBe_52 rfl ?_
  refine s_getr (pc := 53) dX11_canBe_53 fl_X11_42 shp_0 rfl ?_
  refine s_geti (pc := 56) 1224 (rg σ 1224) dX11_canBe_56 fl_X11_230 shp_19 rfl rfl rfl ?_
  refine j_icmp_ge (pc := 59) (t := 86) dX11_canBe_59 (by decide) (fun c59 => ?_) (fun c59 => ?_)
  · replace H := H.1 c59
    refine j_iload_n (pc := 86) dX11_canBe_86 rfl ?_
    exact s_ireti (pc := 87) dX11_canBe_87 rfl H
  · replace H := H.2 c59
    refine j_iload_n (pc := 62) dX11_canBe_62 rfl ?_
    refine j_iconst (pc := 63) (v := 1) dX11_canBe_63 (by decide) ?_
    refine j_aload_n (pc := 64) dX11_canBe_64 rfl ?_
    refine s_getr (pc := 65) dX11_canBe_65 fl_X11_42 shp_0 rfl ?_
    refine s_getr (pc := 68) dX11_canBe_68 fl_X11_240 shp_19 rfl ?_
    refine j_iload_n (pc := 71) dX11_canBe_71 rfl ?_
    have b72 := H.1
    replace H := H.2
    refine s_iald (pc := 72) (ar σ 24 x3.toNatClampNeg) dX11_canBe_72 shp_24 b72 rfl ?_
    refine j_iload_n (pc := 73) dX11_canBe_73 rfl ?_
    refine s_callS_i (pc := 74) (M1 := M_X11_roomIn) (n := 2) (as := [.int (ar σ 24 x3.toNatClampNeg), .int x1]) (st := [.int 1, .int x2]) dX11_canBe_74 G_X11_roomIn wm_X11_243 (by decide +kernel) rfl (Nat.le_of_ble_eq_true rfl) (by show 1 ≤ d; omega) (Nat.le_of_ble_eq_true rfl) ?_
    refine C_X11_roomIn (d := d - 1) (by omega) ?_
    refine j_ishl (pc := 77) dX11_canBe_77 ?_
    refine j_ior (pc := 78) dX11_canBe_78 ?_
    refine j_topi (fun x2_1 ex2_1 => ?_)
    replace H := H x2_1 ex2_1
    refine j_istore_n (pc := 79) (lv1 := [(2, .int x2_1), (0, .ref 0), (1, .int x1), (3, .int x3)]) dX11_canBe_79 (Nat.le_of_ble_eq_true rfl) rfl ?_
    refine j_iinc (pc := 80) (k := 3) (v := x3 + 1) (lv1 := [(3, .int (x3 + 1)), (2, .int x2_1), (0, .ref 0), (1, .int x1)]) dX11_canBe_80 rfl rfl (Nat.le_of_ble_eq_true rfl) rfl ?_
    refine j_goto (pc := 83) (t := 51) dX11_canBe_83 (by decide) ?_
    refine j_sub [2, 3, 1, 0] rfl ?_
    exact H
set_option maxRecDepth 20000 in
theorem C_X11_isGoal {l : Launch} {g : am_G} {d : Nat} {σ : am_S} {k : Int32 → am_S → Prop}  {x1 x2 : Int32} (hd : 1 ≤ d) (H : ((¬ x1 ≤ 0 ∧ ¬ (1 : Int32) <<< ((rg σ 66) &&& 31) ≤ x1 ∧ (¬ x2 < 0 ∧ ¬ rg σ 64 ≤ x2)) → k 1 σ) ∧ (¬ (¬ x1 ≤ 0 ∧ ¬ (1 : Int32) <<< ((rg σ 66) &&& 31) ≤ x1 ∧ (¬ x2 < 0 ∧ ¬ rg σ 64 ≤ x2)) → k 0 σ)) : CI l g M_X11_isGoal d [.ref 0, .int x1, .int x2] σ k := by
  show J l g (M_X11_isGoal, d, 0, 0) 0 [(0, .ref 0), (1, .int x1), (2, .int x2)] [] (hp σ) 0 0 (kI k)
  refine j_iload_n (pc := 0) dX11_isGoal_0 rfl ?_
  refine j_if_le (pc := 1) (t := 32) dX11_isGoal_1 (by decide) (fun c1 => ?_) (fun c1 => ?_)
  · skip
    refine j_iconst (pc := 32) (v := 0) dX11_isGoal_32 (by decide) ?_
    exact s_iretz (pc := 33) dX11_isGoal_33 rfl rfl (H.2 (fun q => (q.1) c1))
  · skip
    refine j_iload_n (pc := 4) dX11_isGoal_4 rfl ?_
    refine j_iconst (pc := 5) (v := 1) dX11_isGoal_5 (by decide) ?_
    refine j_aload_n (pc := 6) dX11_isGoal_6 rfl ?_
    refine s_getr (pc := 7) dX11_isGoal_7 fl_X11_10 shp_0 rfl ?_
    refine s_geti (pc := 10) 66 (rg σ 66) dX11_isGoal_10 fl_X11_121 shp_1 rfl rfl rfl ?_
    refine j_ishl (pc := 13) dX11_isGoal_13 ?_
    refine j_icmp_ge (pc := 14) (t := 32) dX11_isGoal_14 (by decide) (fun c14 => ?_) (fun c14 => ?_)
    · skip
      refine j_iconst (pc := 32) (v := 0) dX11_isGoal_32 (by decide) ?_
      exact s_iretz (pc := 33) dX11_isGoal_33 rfl rfl (H.2 (fun q => (q.2.1) c14))
    · skip
      refine j_aload_n (pc := 17) dX11_isGoal_17 rfl ?_
      refine s_getr (pc := 18) dX11_isGoal_18 fl_X11_10 shp_0 rfl ?_
      refine j_iload_n (pc := 21) dX11_isGoal_21 rfl ?_
      refine s_callV_i (pc := 22) (M1 := M_X2_hasRoom) (n := 1) (as := [.int x2]) (a := 1) (st := []) dX11_isGoal_22 G_X2_hasRoom wm_X11_91 (by decide +kernel) rfl (Nat.le_of_ble_eq_true rfl) shp_1 rfl (by show 1 ≤ d; omega) (Nat.le_of_ble_eq_true rfl) (Nat.zero_le _) (Nat.zero_le _) ?_
      refine C_X2_hasRoom (d := d - 1) (by omega) ⟨fun c22 => ?_, fun c22 => ?_⟩
      · skip
        refine j_if_eq (pc := 25) (t := 32) dX11_isGoal_25 (by decide) (fun q => absurd q (by decide)) (fun _ => ?_)
        refine j_iconst (pc := 28) (v := 1) dX11_isGoal_28 (by decide) ?_
        refine j_goto (pc := 29) (t := 33) dX11_isGoal_29 (by decide) ?_
        exact s_iretz (pc := 33) dX11_isGoal_33 rfl rfl (H.1 ⟨c1, c14, c22⟩)
      · skip
        refine j_if_eq (pc := 25) (t := 32) dX11_isGoal_25 (by decide) (fun _ => ?_) (fun q => absurd q (by decide))
        refine j_iconst (pc := 32) (v := 0) dX11_isGoal_32 (by decide) ?_
        exact s_iretz (pc := 33) dX11_isGoal_33 rfl rfl (H.2 (fun q => c22 (q.2.2)))
