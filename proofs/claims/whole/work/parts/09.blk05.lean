/-! what each stretch of the program does (laid by program) -/
set_option maxRecDepth 20000 in
theorem C_X12_isPerson {l : Launch} {g : am_G} {d : Nat} {σ : am_S} {k : Int32 → am_S → Prop}  {x1 : Int32} (hd : 1 ≤ d) (H : (((¬ x1 < 0 ∧ ¬ (rg σ 3526) - 1 < x1)) → k 1 σ) ∧ (¬ ((¬ x1 < 0 ∧ ¬ (rg σ 3526) - 1 < x1)) → k 0 σ)) : CI l g M_X12_isPerson d [.ref 55, .int x1] σ k := by
  show J l g (M_X12_isPerson, d, 0, 0) 0 [(0, .ref 55), (1, .int x1)] [] (hp σ) 0 0 (kI k)
  refine j_iload_n (pc := 0) dX12_isPerson_0 rfl ?_
  refine j_iconst (pc := 1) (v := 0) dX12_isPerson_1 (by decide) ?_
  refine j_aload_n (pc := 2) dX12_isPerson_2 rfl ?_
  refine s_geti (pc := 3) 3526 (rg σ 3526) dX12_isPerson_3 fl_X12_121 shp_55 rfl rfl rfl ?_
  refine j_iconst (pc := 6) (v := 1) dX12_isPerson_6 (by decide) ?_
  refine j_isub (pc := 7) dX12_isPerson_7 ?_
  refine s_callS_i (pc := 8) (M1 := M_X12_in) (n := 3) (as := [.int x1, .int 0, .int ((rg σ 3526) - 1)]) (st := []) dX12_isPerson_8 G_X12_in wm_X12_114 (by decide +kernel) rfl (Nat.le_of_ble_eq_true rfl) (by show 1 ≤ d; omega) (Nat.le_of_ble_eq_true rfl) ?_
  refine C_X12_in (d := d - 1) (by omega) ⟨fun c8 => ?_, fun c8 => ?_⟩
  · skip
    exact s_iretz (pc := 11) dX12_isPerson_11 rfl rfl (H.1 c8)
  · skip
    exact s_iretz (pc := 11) dX12_isPerson_11 rfl rfl (H.2 (fun q => c8 (q)))
set_option maxRecDepth 20000 in
theorem C_X12_roomIn {l : Launch} {g : am_G} {d : Nat} {σ : am_S} {k : Int32 → am_S → Prop}  {x0 x1 : Int32} (hd : 0 ≤ d) (H : k ((x0 >>> ((2 * x1) &&& 31)) &&& 3) σ) : CI l g M_X12_roomIn d [.int x0, .int x1] σ k := by
  show J l g (M_X12_roomIn, d, 0, 0) 0 [(0, .int x0), (1, .int x1)] [] (hp σ) 0 0 (kI k)
  refine j_iload_n (pc := 0) dX12_roomIn_0 rfl ?_
  refine j_iconst (pc := 1) (v := 2) dX12_roomIn_1 (by decide) ?_
  refine j_iload_n (pc := 2) dX12_roomIn_2 rfl ?_
  refine j_imul (pc := 3) dX12_roomIn_3 ?_
  refine j_ishr (pc := 4) dX12_roomIn_4 ?_
  refine j_iconst (pc := 5) (v := 3) dX12_roomIn_5 (by decide) ?_
  refine j_iand (pc := 6) dX12_roomIn_6 ?_
  exact s_ireti (pc := 7) dX12_roomIn_7 rfl H
set_option maxRecDepth 20000 in
theorem C_X12_put1 {l : Launch} {g : am_G} {d : Nat} {σ : am_S} {k : Int32 → am_S → Prop}  {x0 x1 x2 : Int32} (hd : 0 ≤ d) (H : k ((x0 &&& (((3 : Int32) <<< ((2 * x1) &&& 31)) ^^^ (-1))) ||| (x2 <<< ((2 * x1) &&& 31))) σ) : CI l g M_X12_put1 d [.int x0, .int x1, .int x2] σ k := by
  show J l g (M_X12_put1, d, 0, 0) 0 [(0, .int x0), (1, .int x1), (2, .int x2)] [] (hp σ) 0 0 (kI k)
  refine j_iload_n (pc := 0) dX12_put1_0 rfl ?_
  refine j_iconst (pc := 1) (v := 3) dX12_put1_1 (by decide) ?_
  refine j_iconst (pc := 2) (v := 2) dX12_put1_2 (by decide) ?_
  refine j_iload_n (pc := 3) dX12_put1_3 rfl ?_
  refine j_imul (pc := 4) dX12_put1_4 ?_
  refine j_ishl (pc := 5) dX12_put1_5 ?_
  refine j_iconst (pc := 6) (v := -1) dX12_put1_6 (by decide) ?_
  refine j_ixor (pc := 7) dX12_put1_7 ?_
  refine j_iand (pc := 8) dX12_put1_8 ?_
  refine j_iload_n (pc := 9) dX12_put1_9 rfl ?_
  refine j_iconst (pc := 10) (v := 2) dX12_put1_10 (by decide) ?_
  refine j_iload_n (pc := 11) dX12_put1_11 rfl ?_
  refine j_imul (pc := 12) dX12_put1_12 ?_
  refine j_ishl (pc := 13) dX12_put1_13 ?_
  refine j_ior (pc := 14) dX12_put1_14 ?_
  exact s_ireti (pc := 15) dX12_put1_15 rfl H
set_option maxRecDepth 20000 in
theorem b_X12_room_0 {l : Launch} {g : am_G} {d : Nat} {σ : am_S} {k : Int32 → am_S → Prop}   (H : ((¬ rg σ 3521 = 4 → k (((rg σ 3521) + 1) - 1) (sR σ 3521 ((rg σ 3521) + 1))) ∧ (rg σ 3521 = 4 → k (-3) σ))) : CI l g M_X12_room d [.ref 55] σ k := by
  show J l g (M_X12_room, d, 0, 0) 0 [(0, .ref 55)] [] (hp σ) 0 0 (kI k)
  refine j_aload_n (pc := 0) dX12_room_0 rfl ?_
  refine s_geti (pc := 1) 3521 (rg σ 3521) dX12_room_1 fl_X12_111 shp_55 rfl rfl rfl ?_
  refine j_iconst (pc := 4) (v := 4) dX12_room_4 (by decide) ?_
  refine j_icmp_ne (pc := 5) (t := 11) dX12_room_5 (by decide) (fun c5 => ?_) (fun c5 => ?_)
  · replace H := H.1 c5
    refine j_aload_n (pc := 11) dX12_room_11 rfl ?_
    refine j_dup (pc := 12) dX12_room_12 rfl ?_
    refine s_geti (pc := 13) 3521 (rg σ 3521) dX12_room_13 fl_X12_111 shp_55 rfl rfl rfl ?_
    refine j_iconst (pc := 16) (v := 1) dX12_room_16 (by decide) ?_
    refine j_iadd (pc := 17) dX12_room_17 ?_
    refine s_put (pc := 18) 3521 dX12_room_18 fl_X12_111 shp_55 rfl rfl fp_12_1 rfl rfl ?_
    refine j_aload_n (pc := 21) dX12_room_21 rfl ?_
    refine s_geti (pc := 22) 3521 ((rg σ 3521) + 1) dX12_room_22 fl_X12_111 shp_55 rfl rfl rfl ?_
    refine j_iconst (pc := 25) (v := 1) dX12_room_25 (by decide) ?_
    refine j_isub (pc := 26) dX12_room_26 ?_
    exact s_ireti (pc := 27) dX12_room_27 rfl H
  · replace H := H.2 c5
    refine j_bipush (pc := 8) (v := -3) dX12_room_8 (by decide) ?_
    exact s_ireti (pc := 10) dX12_room_10 rfl H
set_option maxRecDepth 20000 in
theorem b_X12_door_0 {l : Launch} {g : am_G} {d : Nat} {σ : am_S} {k : Int32 → am_S → Prop}  {x1 x2 : Int32} (hd : 2 ≤ d) (H : ((x1 < 0 → k (-1) σ) ∧ (¬ x1 < 0 → ((((¬ x1 / 10 < 0 ∧ ¬ (rg σ 3521) - 1 < x1 / 10)) → ((((¬ x1 - x1 / 10 * 10 < 0 ∧ ¬ (rg σ 3521) - 1 < x1 - x1 / 10 * 10)) → ((x1 / 10 = x1 - x1 / 10 * 10 → k (-1) σ) ∧ (¬ x1 / 10 = x1 - x1 / 10 * 10 → (((¬ x2 < 0 ∧ ¬ 2 < x2) → ((¬ rg σ 3522 = 5 → (vp_in (rg σ 3522) 5 ∧ (vp_in (rg σ 3522) 5 ∧ (vp_in (rg σ 3522) 5 ∧ k (((rg σ 3522) + 1) - 1) (sR (sA (sA (sA σ 56 ((rg σ 3522).toNatClampNeg) (x1 / 10)) 57 ((rg σ 3522).toNatClampNeg) (x1 - x1 / 10 * 10)) 58 ((rg σ 3522).toNatClampNeg) x2) 3522 ((rg σ 3522) + 1)))))) ∧ (rg σ 3522 = 5 → k (-3) σ))) ∧ (¬ (¬ x2 < 0 ∧ ¬ 2 < x2) → k (-1) σ))))) ∧ (¬ ((¬ x1 - x1 / 10 * 10 < 0 ∧ ¬ (rg σ 3521) - 1 < x1 - x1 / 10 * 10)) → k (-1) σ))) ∧ (¬ ((¬ x1 / 10 < 0 ∧ ¬ (rg σ 3521) - 1 < x1 / 10)) → k (-1) σ))))) : CI l g M_X12_door d [.ref 55, .int x1, .int x2] σ k := by
  show J l g (M_X12_door, d, 0, 0) 0 [(0, .ref 55), (1, .int x1), (2, .int x2)] [] (hp σ) 0 0 (kI k)
  refine j_iload_n (pc := 0) dX12_door_0 rfl ?_
  refine j_if_lt (pc := 1) (t := 46) dX12_door_1 (by decide) (fun c1 => ?_) (fun c1 => ?_)
  · replace H := H.1 c1
    refine j_iconst (pc := 46) (v := -1) dX12_door_46 (by decide) ?_
    exact s_ireti (pc := 47) dX12_door_47 rfl H
  · replace H := H.2 c1
    refine j_aload_n (pc := 4) dX12_door_4 rfl ?_
    refine j_iload_n (pc := 5) dX12_door_5 rfl ?_
    refine j_bipush (pc := 6) (v := 10) dX12_door_6 (by decide) ?_
    refine j_idiv (pc := 8) dX12_door_8 (by decide) ?_
    refine s_callV_i (pc := 9) (M1 := M_X12_isRoom) (n := 1) (as := [.int (x1 / 10)]) (a := 55) (st := []) dX12_door_9 G_X12_isRoom wm_X12_124 (by decide +kernel) rfl (Nat.le_of_ble_eq_true rfl) shp_55 rfl (by show 1 ≤ d; omega) (Nat.le_of_ble_eq_true rfl) (Nat.zero_le _) (Nat.zero_le _) ?_
    refine C_X12_isRoom (d := d - 1) (by omega) ⟨fun c9 => ?_, fun c9 => ?_⟩
    · replace H := H.1 c9
      refine j_if_eq (pc := 12) (t := 46) dX12_door_12 (by decide) (fun q => absurd q (by decide)) (fun _ => ?_)
      refine j_aload_n (pc := 15) dX12_door_15 rfl ?_
      refine j_iload_n (pc := 16) dX12_door_16 rfl ?_
      refine j_bipush (pc := 17) (v := 10) dX12_door_17 (by decide) ?_
      refine j_irem (pc := 19) dX12_door_19 (by decide) ?_
      refine s_callV_i (pc := 20) (M1 := M_X12_isRoom) (n := 1) (as := [.int (x1 - x1 / 10 * 10)]) (a := 55) (st := []) dX12_door_20 G_X12_isRoom wm_X12_124 (by decide +kernel) rfl (Nat.le_of_ble_eq_true rfl) shp_55 rfl (by show 1 ≤ d; omega) (Nat.le_of_ble_eq_true rfl) (Nat.zero_le _) (Nat.zero_le _) ?_
      refine C_X12_isRoom (d := d - 1) (by omega) ⟨fun c20 => ?_, fun c20 => ?_⟩
      · replace H := H.1 c20
        refine j_if_eq (pc := 23) (t := 46) dX12_door_23 (by decide) (fun q => absurd q (by decide)) (fun _ => ?_)
        refine j_iload_n (pc := 26) dX12_door_26 rfl ?_
        refine j_bipush (pc := 27) (v := 10) dX12_door_27 (by decide) ?_
        refine j_idiv (pc := 29) dX12_door_29 (by decide) ?_
        refine j_iload_n (pc := 30) dX12_door_30 rfl ?_
        refine j_bipush (pc := 31) (v := 10) dX12_door_31 (by decide) ?_
        refine j_irem (pc := 33) dX12_door_33 (by decide) ?_
        refine j_icmp_eq (pc := 34) (t := 46) dX12_door_34 (by decide) (fun c34 => ?_) (fun c34 => ?_)
        · replace H := H.1 c34
          refine j_iconst (pc := 46) (v := -1) dX12_door_46 (by decide) ?_
          exact s_ireti (pc := 47) dX12_door_47 rfl H
        · replace H := H.2 c34
          refine j_iload_n (pc := 37) dX12_door_37 rfl ?_
          refine j_iconst (pc := 38) (v := 0) dX12_door_38 (by decide) ?_
          refine j_iconst (pc := 39) (v := 2) dX12_door_39 (by decide) ?_
          refine s_callS_i (pc := 40) (M1 := M_X12_in) (n := 3) (as := [.int x2, .int 0, .int 2]) (st := []) dX12_door_40 G_X12_in wm_X12_114 (by decide +kernel) rfl (Nat.le_of_ble_eq_true rfl) (by show 1 ≤ d; omega) (Nat.le_of_ble_eq_true rfl) ?_
          refine C_X12_in (d := d - 1) (by omega) ⟨fun c40 => ?_, fun c40 => ?_⟩
          · replace H := H.1 c40
            refine j_if_ne (pc := 43) (t := 48) dX12_door_43 (by decide) (fun _ => ?_) (fun q => absurd q (by decide))
            refine j_aload_n (pc := 48) dX12_door_48 rfl ?_
            refine s_geti (pc := 49) 3522 (rg σ 3522) dX12_door_49 fl_X12_118 shp_55 rfl rfl rfl ?_
            refine j_iconst (pc := 52) (v := 5) dX12_door_52 (by decide) ?_
            refine j_icmp_ne (pc := 53) (t := 59) dX12_door_53 (by decide) (fun c53 => ?_) (fun c53 => ?_)
            · replace H := H.1 c53
              refine j_aload_n (pc := 59) dX12_door_59 rfl ?_
              refine s_getr (pc := 60) dX12_door_60 fl_X12_7 shp_55 rfl ?_
              refine j_aload_n (pc := 63) dX12_door_63 rfl ?_
              refine s_geti (pc := 64) 3522 (rg σ 3522) dX12_door_64 fl_X12_118 shp_55 rfl rfl rfl ?_
              refine j_iload_n (pc := 67) dX12_door_67 rfl ?_
              refine j_bipush (pc := 68) (v := 10) dX12_door_68 (by decide) ?_
              refine j_idiv (pc := 70) dX12_door_70 (by decide) ?_
              have b71 := H.1
              replace H := H.2
              refine s_iast (pc := 71) dX12_door_71 shp_56 b71 ?_
              refine j_aload_n (pc := 72) dX12_door_72 rfl ?_
              refine s_getr (pc := 73) dX12_door_73 fl_X12_13 shp_55 rfl ?_
              refine j_aload_n (pc := 76) dX12_door_76 rfl ?_
              refine s_geti (pc := 77) 3522 (rg σ 3522) dX12_door_77 fl_X12_118 shp_55 rfl rfl rfl ?_
              refine j_iload_n (pc := 80) dX12_door_80 rfl ?_
              refine j_bipush (pc := 81) (v := 10) dX12_door_81 (by decide) ?_
              refine j_irem (pc := 83) dX12_door_83 (by decide) ?_
              have b84 := H.1
              replace H := H.2
              refine s_iast (pc := 84) dX12_door_84 shp_57 b84 ?_
              refine j_aload_n (pc := 85) dX12_door_85 rfl ?_
              refine s_getr (pc := 86) dX12_door_86 fl_X12_16 shp_55 rfl ?_
              refine j_aload_n (pc := 89) dX12_door_89 rfl ?_
              refine s_geti (pc := 90) 3522 (rg σ 3522) dX12_door_90 fl_X12_118 shp_55 rfl rfl rfl ?_
              refine j_iload_n (pc := 93) dX12_door_93 rfl ?_
              have b94 := H.1
              replace H := H.2
              refine s_iast (pc := 94) dX12_door_94 shp_58 b94 ?_
              refine j_aload_n (pc := 95) dX12_door_95 rfl ?_
              refine j_dup (pc := 96) dX12_door_96 rfl ?_
              refine s_geti (pc := 97) 3522 (rg σ 3522) dX12_door_97 fl_X12_118 shp_55 rfl rfl rfl ?_
              refine j_iconst (pc := 100) (v := 1) dX12_door_100 (by decide) ?_
              refine j_iadd (pc := 101) dX12_door_101 ?_
              refine s_put (pc := 102) 3522 dX12_door_102 fl_X12_118 shp_55 rfl rfl fp_12_2 rfl rfl ?_
              refine j_aload_n (pc := 105) dX12_door_105 rfl ?_
              refine s_geti (pc := 106) 3522 ((rg σ 3522) + 1) dX12_door_106 fl_X12_118 shp_55 rfl rfl rfl ?_
              refine j_iconst (pc := 109) (v := 1) dX12_door_109 (by decide) ?_
              refine j_isub (pc := 110) dX12_door_110 ?_
              exact s_ireti (pc := 111) dX12_door_111 rfl H
            · replace H := H.2 c53
              refine j_bipush (pc := 56) (v := -3) dX12_door_56 (by decide) ?_
              exact s_ireti (pc := 58) dX12_door_58 rfl H
          · replace H := H.2 c40
            refine j_if_ne (pc := 43) (t := 48) dX12_door_43 (by decide) (fun q => absurd q (by decide)) (fun _ => ?_)
            refine j_iconst (pc := 46) (v := -1) dX12_door_46 (by decide) ?_
            exact s_ireti (pc := 47) dX12_door_47 rfl H
      · replace H := H.2 c20
        refine j_if_eq (pc := 23) (t := 46) dX12_door_23 (by decide) (fun _ => ?_) (fun q => absurd q (by decide))
        refine j_iconst (pc := 46) (v := -1) dX12_door_46 (by decide) ?_
        exact s_ireti (pc := 47) dX12_door_47 rfl H
    · replace H := H.2 c9
      refine j_if_eq (pc := 12) (t := 46) dX12_door_12 (by decide) (fun _ => ?_) (fun q => absurd q (by decide))
      refine j_iconst (pc := 46) (v := -1) dX12_door_46 (by decide) ?_
      exact s_ireti (pc := 47) dX12_door_47 rfl H
set_option maxRecDepth 20000 in
theorem b_X12_addPerson_0 {l : Launch} {g : am_G} {d : Nat} {σ : am_S} {k : Int32 → am_S → Prop}  {x1 x2 : Int32} (hd : 1 ≤ d) (H : (vp_in (rg σ 3526) 7 ∧ (vp_in (rg σ 3526) 7 ∧ k (((rg σ 3526) + 1) - 1) (sR (sR (sA (sA σ 59 ((rg σ 3526).toNatClampNeg) x1) 60 ((rg σ 3526).toNatClampNeg) 0) 3529 (((rg σ 3529) &&& (((3 : Int32) <<< ((2 * (rg σ 3526)) &&& 31)) ^^^ (-1))) ||| (x2 <<< ((2 * (rg σ 3526)) &&& 31)))) 3526 ((rg σ 3526) + 1))))) : CI l g M_X12_addPerson d [.ref 55, .int x1, .int x2] σ k := by
  show J l g (M_X12_addPerson, d, 0, 0) 0 [(0, .ref 55), (1, .int x1), (2, .int x2)] [] (hp σ) 0 0 (kI k)
  refine j_aload_n (pc := 0) dX12_addPerson_0 rfl ?_
  refine s_getr (pc := 1) dX12_addPerson_1 fl_X12_19 shp_55 rfl ?_
  refine j_aload_n (pc := 4) dX12_addPerson_4 rfl ?_
  refine s_geti (pc := 5) 3526 (rg σ 3526) dX12_addPerson_5 fl_X12_121 shp_55 rfl rfl rfl ?_
  refine j_iload_n (pc := 8) dX12_addPerson_8 rfl ?_
  have b9 := H.1
  replace H := H.2
  refine s_iast (pc := 9) dX12_addPerson_9 shp_59 b9 ?_
  refine j_aload_n (pc := 10) dX12_addPerson_10 rfl ?_
  refine s_getr (pc := 11) dX12_addPerson_11 fl_X12_22 shp_55 rfl ?_
  refine j_aload_n (pc := 14) dX12_addPerson_14 rfl ?_
  refine s_geti (pc := 15) 3526 (rg σ 3526) dX12_addPerson_15 fl_X12_121 shp_55 rfl rfl rfl ?_
  refine j_iconst (pc := 18) (v := 0) dX12_addPerson_18 (by decide) ?_
  have b19 := H.1
  replace H := H.2
  refine s_iast (pc := 19) dX12_addPerson_19 shp_60 b19 ?_
  refine j_aload_n (pc := 20) dX12_addPerson_20 rfl ?_
  refine j_aload_n (pc := 21) dX12_addPerson_21 rfl ?_
  refine s_geti (pc := 22) 3529 (rg σ 3529) dX12_addPerson_22 fl_X12_128 shp_55 rfl rfl rfl ?_
  refine j_aload_n (pc := 25) dX12_addPerson_25 rfl ?_
  refine s_geti (pc := 26) 3526 (rg σ 3526) dX12_addPerson_26 fl_X12_121 shp_55 rfl rfl rfl ?_
  refine j_iload_n (pc := 29) dX12_addPerson_29 rfl ?_
  refine s_callS_i (pc := 30) (M1 := M_X12_put1) (n := 3) (as := [.int (rg σ 3529), .int (rg σ 3526), .int x2]) (st := [.ref 55]) dX12_addPerson_30 G_X12_put1 wm_X12_131 (by decide +kernel) rfl (Nat.le_of_ble_eq_true rfl) (by show 1 ≤ d; omega) (Nat.le_of_ble_eq_true rfl) ?_
  refine C_X12_put1 (d := d - 1) (by omega) ?_
  refine s_put (pc := 33) 3529 dX12_addPerson_33 fl_X12_128 shp_55 rfl rfl fp_12_9 rfl rfl ?_
  refine j_aload_n (pc := 36) dX12_addPerson_36 rfl ?_
  refine j_dup (pc := 37) dX12_addPerson_37 rfl ?_
  refine s_geti (pc := 38) 3526 (rg σ 3526) dX12_addPerson_38 fl_X12_121 shp_55 rfl rfl rfl ?_
  refine j_iconst (pc := 41) (v := 1) dX12_addPerson_41 (by decide) ?_
  refine j_iadd (pc := 42) dX12_addPerson_42 ?_
  refine s_put (pc := 43) 3526 dX12_addPerson_43 fl_X12_121 shp_55 rfl rfl fp_12_6 rfl rfl ?_
  refine j_aload_n (pc := 46) dX12_addPerson_46 rfl ?_
  refine s_geti (pc := 47) 3526 ((rg σ 3526) + 1) dX12_addPerson_47 fl_X12_121 shp_55 rfl rfl rfl ?_
  refine j_iconst (pc := 50) (v := 1) dX12_addPerson_50 (by decide) ?_
  refine j_isub (pc := 51) dX12_addPerson_51 ?_
  exact s_ireti (pc := 52) dX12_addPerson_52 rfl H
set_option maxRecDepth 20000 in
theorem b_X12_person_0 {l : Launch} {g : am_G} {d : Nat} {σ : am_S} {k : Int32 → am_S → Prop}  {x1 x2 : Int32} (hd : 2 ≤ d) (H : (((¬ x1 < 1 ∧ ¬ 99 < x1) → ((((¬ x2 < 0 ∧ ¬ (rg σ 3521) - 1 < x2)) → ((¬ rg σ 3526 = 7 → CI l g M_X12_addPerson (d - 1) [.ref 55, .int x1, .int x2] σ (fun r3 σ3 => k r3 σ3)) ∧ (rg σ 3526 = 7 → k (-3) σ))) ∧ (¬ ((¬ x2 < 0 ∧ ¬ (rg σ 3521) - 1 < x2)) → k (-1) σ))) ∧ (¬ (¬ x1 < 1 ∧ ¬ 99 < x1) → k (-1) σ))) : CI l g M_X12_person d [.ref 55, .int x1, .int x2] σ k := by
  show J l g (M_X12_person, d, 0, 0) 0 [(0, .ref 55), (1, .int x1), (2, .int x2)] [] (hp σ) 0 0 (kI k)
  refine j_iload_n (pc := 0) dX12_person_0 rfl ?_
  refine j_iconst (pc := 1) (v := 1) dX12_person_1 (by decide) ?_
  refine j_bipush (pc := 2) (v := 99) dX12_person_2 (by decide) ?_
  refine s_callS_i (pc := 4) (M1 := M_X12_in) (n := 3) (as := [.int x1, .int 1, .int 99]) (st := []) dX12_person_4 G_X12_in wm_X12_114 (by decide +kernel) rfl (Nat.le_of_ble_eq_true rfl) (by show 1 ≤ d; omega) (Nat.le_of_ble_eq_true rfl) ?_
  refine C_X12_in (d := d - 1) (by omega) ⟨fun c4 => ?_, fun c4 => ?_⟩
  · replace H := H.1 c4
    refine j_if_eq (pc := 7) (t := 18) dX12_person_7 (by decide) (fun q => absurd q (by decide)) (fun _ => ?_)
    refine j_aload_n (pc := 10) dX12_person_10 rfl ?_
    refine j_iload_n (pc := 11) dX12_person_11 rfl ?_
    refine s_callV_i (pc := 12) (M1 := M_X12_isRoom) (n := 1) (as := [.int x2]) (a := 55) (st := []) dX12_person_12 G_X12_isRoom wm_X12_124 (by decide +kernel) rfl (Nat.le_of_ble_eq_true rfl) shp_55 rfl (by show 1 ≤ d; omega) (Nat.le_of_ble_eq_true rfl) (Nat.zero_le _) (Nat.zero_le _) ?_
    refine C_X12_isRoom (d := d - 1) (by omega) ⟨fun c12 => ?_, fun c12 => ?_⟩
    · replace H := H.1 c12
      refine j_if_ne (pc := 15) (t := 20) dX12_person_15 (by decide) (fun _ => ?_) (fun q => absurd q (by decide))
      refine j_aload_n (pc := 20) dX12_person_20 rfl ?_
      refine s_geti (pc := 21) 3526 (rg σ 3526) dX12_person_21 fl_X12_121 shp_55 rfl rfl rfl ?_
      refine j_bipush (pc := 24) (v := 7) dX12_person_24 (by decide) ?_
      refine j_icmp_ne (pc := 26) (t := 34) dX12_person_26 (by decide) (fun c26 => ?_) (fun c26 => ?_)
      · replace H := H.1 c26
        refine j_aload_n (pc := 34) dX12_person_34 rfl ?_
        refine j_iload_n (pc := 35) dX12_person_35 rfl ?_
        refine j_iload_n (pc := 36) dX12_person_36 rfl ?_
        refine s_callV_i (pc := 37) (M1 := M_X12_addPerson) (n := 2) (as := [.int x1, .int x2]) (a := 55) (st := []) dX12_person_37 G_X12_addPerson wm_X12_135 (by decide +kernel) rfl (Nat.le_of_ble_eq_true rfl) shp_55 rfl (by show 1 ≤ d; omega) (Nat.le_of_ble_eq_true rfl) (Nat.zero_le _) (Nat.zero_le _) ?_
        refine CI.mono H (fun r3 σ3 H => ?_)
        exact s_ireti (pc := 40) dX12_person_40 rfl H
      · replace H := H.2 c26
        refine j_bipush (pc := 29) (v := -3) dX12_person_29 (by decide) ?_
        refine j_goto (pc := 31) (t := 40) dX12_person_31 (by decide) ?_
        exact s_ireti (pc := 40) dX12_person_40 rfl H
    · replace H := H.2 c12
      refine j_if_ne (pc := 15) (t := 20) dX12_person_15 (by decide) (fun q => absurd q (by decide)) (fun _ => ?_)
      refine j_iconst (pc := 18) (v := -1) dX12_person_18 (by decide) ?_
      exact s_ireti (pc := 19) dX12_person_19 rfl H
  · replace H := H.2 c4
    refine j_if_eq (pc := 7) (t := 18) dX12_person_7 (by decide) (fun _ => ?_) (fun q => absurd q (by decide))
    refine j_iconst (pc := 18) (v := -1) dX12_person_18 (by decide) ?_
    exact s_ireti (pc := 19) dX12_person_19 rfl H
set_option maxRecDepth 20000 in
theorem C_X12_isShelf {l : Launch} {g : am_G} {d : Nat} {σ : am_S} {k : Int32 → am_S → Prop}  {x0 : Int32} (hd : 1 ≤ d) (H : (((¬ x0 < 0 ∧ ¬ 5 < x0)) → k 1 σ) ∧ (¬ ((¬ x0 < 0 ∧ ¬ 5 < x0)) → k 0 σ)) : CI l g M_X12_isShelf d [.int x0] σ k := by
  show J l g (M_X12_isShelf, d, 0, 0) 0 [(0, .int x0)] [] (hp σ) 0 0 (kI k)
  refine j_iload_n (pc := 0) dX12_isShelf_0 rfl ?_
  refine j_iconst (pc := 1) (v := 0) dX12_isShelf_1 (by decide) ?_
  refine j_iconst (pc := 2) (v := 5) dX12_isShelf_2 (by decide) ?_
  refine s_callS_i (pc := 3) (M1 := M_X12_in) (n := 3) (as := [.int x0, .int 0, .int 5]) (st := []) dX12_isShelf_3 G_X12_in wm_X12_114 (by decide +kernel) rfl (Nat.le_of_ble_eq_true rfl) (by show 1 ≤ d; omega) (Nat.le_of_ble_eq_true rfl) ?_
  refine C_X12_in (d := d - 1) (by omega) ⟨fun c3 => ?_, fun c3 => ?_⟩
  · skip
    exact s_iretz (pc := 6) dX12_isShelf_6 rfl rfl (H.1 c3)
  · skip
    exact s_iretz (pc := 6) dX12_isShelf_6 rfl rfl (H.2 (fun q => c3 (q)))
set_option maxRecDepth 20000 in
theorem b_X12_people_0 {l : Launch} {g : am_G} {d : Nat} {σ : am_S} {k : Int32 → am_S → Prop}  {x1 x2 x3 : Int32} (hd : 2 ≤ d) (H : ((((¬ x1 < 0 ∧ ¬ 5 < x1)) → (((¬ x3 < 1 ∧ ¬ 7 < x3) → (vp_in x1 6 ∧ ((ar σ 81 x1.toNatClampNeg = (-1) → (vp_in x1 6 ∧ ((¬ ar σ 81 x1.toNatClampNeg = (-1) → JI l g M_X12_people d 58 [(0, .ref 55), (1, .int x1), (2, .int x2), (3, .int x3), (4, .int 0)] [] σ k) ∧ (ar σ 81 x1.toNatClampNeg = (-1) → k 0 σ)))) ∧ (¬ ar σ 81 x1.toNatClampNeg = (-1) → (vp_in x1 6 ∧ ((ar σ 81 x1.toNatClampNeg = (-2) → (vp_in x1 6 ∧ ((¬ ar σ 81 x1.toNatClampNeg = (-1) → JI l g M_X12_people d 58 [(0, .ref 55), (1, .int x1), (2, .int x2), (3, .int x3), (4, .int 0)] [] σ k) ∧ (ar σ 81 x1.toNatClampNeg = (-1) → k 0 σ)))) ∧ (¬ ar σ 81 x1.toNatClampNeg = (-2) → k (-12) σ))))))) ∧ (¬ (¬ x3 < 1 ∧ ¬ 7 < x3) → k (-1) σ))) ∧ (¬ ((¬ x1 < 0 ∧ ¬ 5 < x1)) → k (-1) σ))) : CI l g M_X12_people d [.ref 55, .int x1, .int x2, .int x3] σ k := by
  show J l g (M_X12_people, d, 0, 0) 0 [(0, .ref 55), (1, .int x1), (2, .int x2), (3, .int x3)] [] (hp σ) 0 0 (kI k)
  refine j_iload_n (pc := 0) dX12_people_0 rfl ?_
  refine s_callS_i (pc := 1) (M1 := M_X12_isShelf) (n := 1) (as := [.int x1]) (st := []) dX12_people_1 G_X12_isShelf wm_X12_139 (by decide +kernel) rfl (Nat.le_of_ble_eq_true rfl) (by show 1 ≤ d; omega) (Nat.le_of_ble_eq_true rfl) ?_
  refine C_X12_isShelf (d := d - 1) (by omega) ⟨fun c1 => ?_, fun c1 => ?_⟩
  · replace H := H.1 c1
    refine j_if_eq (pc := 4) (t := 17) dX12_people_4 (by decide) (fun q => absurd q (by decide)) (fun _ => ?_)
    refine j_iload_n (pc := 7) dX12_people_7 rfl ?_
    refine j_iconst (pc := 8) (v := 1) dX12_people_8 (by decide) ?_
    refine j_bipush (pc := 9) (v := 7) dX12_people_9 (by decide) ?_
    refine s_callS_i (pc := 11) (M1 := M_X12_in) (n := 3) (as := [.int x3, .int 1, .int 7]) (st := []) dX12_people_11 G_X12_in wm_X12_114 (by decide +kernel) rfl (Nat.le_of_ble_eq_true rfl) (by show 1 ≤ d; omega) (Nat.le_of_ble_eq_true rfl) ?_
    refine C_X12_in (d := d - 1) (by omega) ⟨fun c11 => ?_, fun c11 => ?_⟩
    · replace H := H.1 c11
      refine j_if_ne (pc := 14) (t := 19) dX12_people_14 (by decide) (fun _ => ?_) (fun q => absurd q (by decide))
      refine j_aload_n (pc := 19) dX12_people_19 rfl ?_
      refine s_getr (pc := 20) dX12_people_20 fl_X12_95 shp_55 rfl ?_
      refine j_iload_n (pc := 23) dX12_people_23 rfl ?_
      have b24 := H.1
      replace H := H.2
      refine s_iald (pc := 24) (ar σ 81 x1.toNatClampNeg) dX12_people_24 shp_81 b24 rfl ?_
      refine j_iconst (pc := 25) (v := -1) dX12_people_25 (by decide) ?_
      refine j_icmp_eq (pc := 26) (t := 43) dX12_people_26 (by decide) (fun c26 => ?_) (fun c26 => ?_)
      · replace H := H.1 c26
        refine j_aload_n (pc := 43) dX12_people_43 rfl ?_
        refine s_getr (pc := 44) dX12_people_44 fl_X12_95 shp_55 rfl ?_
        refine j_iload_n (pc := 47) dX12_people_47 rfl ?_
        have b48 := H.1
        replace H := H.2
        refine s_iald (pc := 48) (ar σ 81 x1.toNatClampNeg) dX12_people_48 shp_81 b48 rfl ?_
        refine j_iconst (pc := 49) (v := -1) dX12_people_49 (by decide) ?_
        refine j_icmp_ne (pc := 50) (t := 55) dX12_people_50 (by decide) (fun c50 => ?_) (fun c50 => ?_)
        · replace H := H.1 c50
          refine j_iconst (pc := 55) (v := 0) dX12_people_55 (by decide) ?_
          refine j_istore (pc := 56) (lv1 := [(4, .int 0), (0, .ref 55), (1, .int x1), (2, .int x2), (3, .int x3)]) dX12_people_56 (Nat.le_of_ble_eq_true rfl) rfl ?_
          refine j_sub [1, 2, 3, 4, 0] rfl ?_
          exact H
        · replace H := H.2 c50
          refine j_iconst (pc := 53) (v := 0) dX12_people_53 (by decide) ?_
          exact s_ireti (pc := 54) dX12_people_54 rfl H
      · replace H := H.2 c26
        refine j_aload_n (pc := 29) dX12_people_29 rfl ?_
        refine s_getr (pc := 30) dX12_people_30 fl_X12_95 shp_55 rfl ?_
        refine j_iload_n (pc := 33) dX12_people_33 rfl ?_
        have b34 := H.1
        replace H := H.2
        refine s_iald (pc := 34) (ar σ 81 x1.toNatClampNeg) dX12_people_34 shp_81 b34 rfl ?_
        refine j_bipush (pc := 35) (v := -2) dX12_people_35 (by decide) ?_
        refine j_icmp_eq (pc := 37) (t := 43) dX12_people_37 (by decide) (fun c37 => ?_) (fun c37 => ?_)
        · replace H := H.1 c37
          refine j_aload_n (pc := 43) dX12_people_43 rfl ?_
          refine s_getr (pc := 44) dX12_people_44 fl_X12_95 shp_55 rfl ?_
          refine j_iload_n (pc := 47) dX12_people_47 rfl ?_
          have b48 := H.1
          replace H := H.2
          refine s_iald (pc := 48) (ar σ 81 x1.toNatClampNeg) dX12_people_48 shp_81 b48 rfl ?_
          refine j_iconst (pc := 49) (v := -1) dX12_people_49 (by decide) ?_
          refine j_icmp_ne (pc := 50) (t := 55) dX12_people_50 (by decide) (fun c50 => ?_) (fun c50 => ?_)
          · replace H := H.1 c50
            refine j_iconst (pc := 55) (v := 0) dX12_people_55 (by decide) ?_
            refine j_istore (pc := 56) (lv1 := [(4, .int 0), (0, .ref 55), (1, .int x1), (2, .int x2), (3, .int x3)]) dX12_people_56 (Nat.le_of_ble_eq_true rfl) rfl ?_
            refine j_sub [1, 2, 3, 4, 0] rfl ?_
            exact H
          · replace H := H.2 c50
            refine j_iconst (pc := 53) (v := 0) dX12_people_53 (by decide) ?_
            exact s_ireti (pc := 54) dX12_people_54 rfl H
        · replace H := H.2 c37
          refine j_bipush (pc := 40) (v := -12) dX12_people_40 (by decide) ?_
          exact s_ireti (pc := 42) dX12_people_42 rfl H
    · replace H := H.2 c11
      refine j_if_ne (pc := 14) (t := 19) dX12_people_14 (by decide) (fun q => absurd q (by decide)) (fun _ => ?_)
      refine j_iconst (pc := 17) (v := -1) dX12_people_17 (by decide) ?_
      exact s_ireti (pc := 18) dX12_people_18 rfl H
  · replace H := H.2 c1
    refine j_if_eq (pc := 4) (t := 17) dX12_people_4 (by decide) (fun _ => ?_) (fun q => absurd q (by decide))
    refine j_iconst (pc := 17) (v := -1) dX12_people_17 (by decide) ?_
    exact s_ireti (pc := 18) dX12_people_18 rfl H
set_option maxRecDepth 20000 in
theorem b_X12_people_58 {l : Launch} {g : am_G} {d : Nat} {σ : am_S} {k : Int32 → am_S → Prop}  {x1 x2 x3 x4 : Int32} (hd : 2 ≤ d) (H : ((x3 ≤ x4 → k x3 σ) ∧ (¬ x3 ≤ x4 → ((lg_cmp (x2.toInt64 + ((2 * x4).toInt64)) 0 < 0 → k x4 σ) ∧ (¬ lg_cmp (x2.toInt64 + ((2 * x4).toInt64)) 0 < 0 → (vp_in x1 6 ∧ ((0 ≤ lg_cmp ((x2.toInt64 + ((2 * x4).toInt64)) + 1) ((ar σ 82 x1.toNatClampNeg).toInt64) → k x4 σ) ∧ (¬ 0 ≤ lg_cmp ((x2.toInt64 + ((2 * x4).toInt64)) + 1) ((ar σ 82 x1.toNatClampNeg).toInt64) → ((¬ rg σ 3526 = 7 → (vp_in ((60 * x1) + ((x2.toInt64 + ((2 * x4).toInt64)).toInt32)) 360 ∧ (((¬ (lr σ 83 (((60 * x1) + ((x2.toInt64 + ((2 * x4).toInt64)).toInt32)).toNatClampNeg)).toInt32 < 1 ∧ ¬ 99 < (lr σ 83 (((60 * x1) + ((x2.toInt64 + ((2 * x4).toInt64)).toInt32)).toNatClampNeg)).toInt32) → (vp_in (((60 * x1) + ((x2.toInt64 + ((2 * x4).toInt64)).toInt32)) + 1) 360 ∧ ((((¬ (lr σ 83 ((((60 * x1) + ((x2.toInt64 + ((2 * x4).toInt64)).toInt32)) + 1).toNatClampNeg)).toInt32 < 0 ∧ ¬ (rg σ 3521) - 1 < (lr σ 83 ((((60 * x1) + ((x2.toInt64 + ((2 * x4).toInt64)).toInt32)) + 1).toNatClampNeg)).toInt32)) → (vp_in ((60 * x1) + ((x2.toInt64 + ((2 * x4).toInt64)).toInt32)) 360 ∧ (vp_in (((60 * x1) + ((x2.toInt64 + ((2 * x4).toInt64)).toInt32)) + 1) 360 ∧ CI l g M_X12_addPerson (d - 1) [.ref 55, .int ((lr σ 83 (((60 * x1) + ((x2.toInt64 + ((2 * x4).toInt64)).toInt32)).toNatClampNeg)).toInt32), .int ((lr σ 83 ((((60 * x1) + ((x2.toInt64 + ((2 * x4).toInt64)).toInt32)) + 1).toNatClampNeg)).toInt32)] σ (fun r3 σ3 => JI l g M_X12_people d 58 [(0, .ref 55), (1, .int x1), (2, .int x2), (3, .int x3), (4, .int (x4 + 1))] [] σ3 k)))) ∧ (¬ ((¬ (lr σ 83 ((((60 * x1) + ((x2.toInt64 + ((2 * x4).toInt64)).toInt32)) + 1).toNatClampNeg)).toInt32 < 0 ∧ ¬ (rg σ 3521) - 1 < (lr σ 83 ((((60 * x1) + ((x2.toInt64 + ((2 * x4).toInt64)).toInt32)) + 1).toNatClampNeg)).toInt32)) → k x4 σ)))) ∧ (¬ (¬ (lr σ 83 (((60 * x1) + ((x2.toInt64 + ((2 * x4).toInt64)).toInt32)).toNatClampNeg)).toInt32 < 1 ∧ ¬ 99 < (lr σ 83 (((60 * x1) + ((x2.toInt64 + ((2 * x4).toInt64)).toInt32)).toNatClampNeg)).toInt32) → k x4 σ)))) ∧ (rg σ 3526 = 7 → k x4 σ)))))))))) : JI l g M_X12_people d 58 [(0, .ref 55), (1, .int x1), (2, .int x2), (3, .int x3), (4, .int x4)] [] σ k := by
  show J l g (M_X12_people, d, 0, 0) 58 [(0, .ref 55), (1, .int x1), (2, .int x2), (3, .int x3), (4, .int x4)] [] (hp σ) 0 0 (kI k)
  refine j_iload (pc := 58) dX12_people_58 rfl ?_
  refine j_iload_n (pc := 60) dX12_people_60 rfl ?_
  refine j_icmp_ge (pc := 61) (t := 184) dX12_people_61 (by decide) (fun c61 => ?_) (fun c61 => ?_)
  · replace H := H.1 c61
    refine j_iload_n (pc := 184) dX12_people_184 rfl ?_
    exact s_ireti (pc := 185) dX12_people_185 rfl H
  · replace H := H.2 c61
    refine j_iload_n (pc := 64) dX12_people_64 rfl ?_
    refine j_i2l (pc := 65) dX12_people_65 ?_
    refine j_iconst (pc := 66) (v := 2) dX12_people_66 (by decide) ?_
    refine j_iload (pc := 67) dX12_people_67 rfl ?_
    refine j_imul (pc := 69) dX12_people_69 ?_
    refine j_i2l (pc := 70) dX12_people_70 ?_
    refine j_ladd (pc := 71) dX12_people_71 ?_
    refine j_lstore (pc := 72) (lv1 := [(5, .long (x2.toInt64 + ((2 * x4).toInt64))), (0, .ref 55), (1, .int x1), (2, .int x2), (3, .int x3), (4, .int x4)]) dX12_people_72 (Nat.le_of_ble_eq_true rfl) rfl ?_
    refine j_lload (pc := 74) dX12_people_74 rfl ?_
    refine j_lconst (pc := 76) (v := 0) dX12_people_76 (by decide) ?_
    refine j_lcmp (pc := 77) dX12_people_77 ?_
    refine j_if_lt (pc := 78) (t := 105) dX12_people_78 (by decide) (fun c78 => ?_) (fun c78 => ?_)
    · replace H := H.1 c78
      refine j_iload (pc := 105) dX12_people_105 rfl ?_
      exact s_ireti (pc := 107) dX12_people_107 rfl H
    · replace H := H.2 c78
      refine j_lload (pc := 81) dX12_people_81 rfl ?_
      refine j_lconst (pc := 83) (v := 1) dX12_people_83 (by decide) ?_
      refine j_ladd (pc := 84) dX12_people_84 ?_
      refine j_aload_n (pc := 85) dX12_people_85 rfl ?_
      refine s_getr (pc := 86) dX12_people_86 fl_X12_98 shp_55 rfl ?_
      refine j_iload_n (pc := 89) dX12_people_89 rfl ?_
      have b90 := H.1
      replace H := H.2
      refine s_iald (pc := 90) (ar σ 82 x1.toNatClampNeg) dX12_people_90 shp_82 b90 rfl ?_
      refine j_i2l (pc := 91) dX12_people_91 ?_
      refine j_lcmp (pc := 92) dX12_people_92 ?_
      refine j_if_ge (pc := 93) (t := 105) dX12_people_93 (by decide) (fun c93 => ?_) (fun c93 => ?_)
      · replace H := H.1 c93
        refine j_iload (pc := 105) dX12_people_105 rfl ?_
        exact s_ireti (pc := 107) dX12_people_107 rfl H
      · replace H := H.2 c93
        refine j_aload_n (pc := 96) dX12_people_96 rfl ?_
        refine s_geti (pc := 97) 3526 (rg σ 3526) dX12_people_97 fl_X12_121 shp_55 rfl rfl rfl ?_
        refine j_bipush (pc := 100) (v := 7) dX12_people_100 (by decide) ?_
        refine j_icmp_ne (pc := 102) (t := 108) dX12_people_102 (by decide) (fun c102 => ?_) (fun c102 => ?_)
        · replace H := H.1 c102
          refine j_bipush (pc := 108) (v := 60) dX12_people_108 (by decide) ?_
          refine j_iload_n (pc := 110) dX12_people_110 rfl ?_
          refine j_imul (pc := 111) dX12_people_111 ?_
          refine j_lload (pc := 112) dX12_people_112 rfl ?_
          refine j_l2i (pc := 114) dX12_people_114 ?_
          refine j_iadd (pc := 115) dX12_people_115 ?_
          refine j_istore (pc := 116) (lv1 := [(7, .int ((60 * x1) + ((x2.toInt64 + ((2 * x4).toInt64)).toInt32))), (5, .long (x2.toInt64 + ((2 * x4).toInt64))), (0, .ref 55), (1, .int x1), (2, .int x2), (3, .int x3), (4, .int x4)]) dX12_people_116 (Nat.le_of_ble_eq_true rfl) rfl ?_
          refine j_aload_n (pc := 118) dX12_people_118 rfl ?_
          refine s_getr (pc := 119) dX12_people_119 fl_X12_101 shp_55 rfl ?_
          refine j_iload (pc := 122) dX12_people_122 rfl ?_
          have b124 := H.1
          replace H := H.2
          refine s_lald (pc := 124) (lr σ 83 (((60 * x1) + ((x2.toInt64 + ((2 * x4).toInt64)).toInt32)).toNatClampNeg)) dX12_people_124 shp_83 b124 rfl ?_
          refine j_l2i (pc := 125) dX12_people_125 ?_
          refine j_iconst (pc := 126) (v := 1) dX12_people_126 (by decide) ?_
          refine j_bipush (pc := 127) (v := 99) dX12_people_127 (by decide) ?_
          refine s_callS_i (pc := 129) (M1 := M_X12_in) (n := 3) (as := [.int ((lr σ 83 (((60 * x1) + ((x2.toInt64 + ((2 * x4).toInt64)).toInt32)).toNatClampNeg)).toInt32), .int 1, .int 99]) (st := []) dX12_people_129 G_X12_in wm_X12_114 (by decide +kernel) rfl (Nat.le_of_ble_eq_true rfl) (by show 1 ≤ d; omega) (Nat.le_of_ble_eq_true rfl) ?_
          refine C_X12_in (d := d - 1) (by omega) ⟨fun c129 => ?_, fun c129 => ?_⟩
          · replace H := H.1 c129
            refine j_if_eq (pc := 132) (t := 152) dX12_people_132 (by decide) (fun q => absurd q (by decide)) (fun _ => ?_)
            refine j_aload_n (pc := 135) dX12_people_135 rfl ?_
            refine j_aload_n (pc := 136) dX12_people_136 rfl ?_
            refine s_getr (pc := 137) dX12_people_137 fl_X12_101 shp_55 rfl ?_
            refine j_iload (pc := 140) dX12_people_140 rfl ?_
            refine j_iconst (pc := 142) (v := 1) dX12_people_142 (by decide) ?_
            refine j_iadd (pc := 143) dX12_people_143 ?_
            have b144 := H.1
            replace H := H.2
            refine s_lald (pc := 144) (lr σ 83 ((((60 * x1) + ((x2.toInt64 + ((2 * x4).toInt64)).toInt32)) + 1).toNatClampNeg)) dX12_people_144 shp_83 b144 rfl ?_
            refine j_l2i (pc := 145) dX12_people_145 ?_
            refine s_callV_i (pc := 146) (M1 := M_X12_isRoom) (n := 1) (as := [.int ((lr σ 83 ((((60 * x1) + ((x2.toInt64 + ((2 * x4).toInt64)).toInt32)) + 1).toNatClampNeg)).toInt32)]) (a := 55) (st := []) dX12_people_146 G_X12_isRoom wm_X12_124 (by decide +kernel) rfl (Nat.le_of_ble_eq_true rfl) shp_55 rfl (by show 1 ≤ d; omega) (Nat.le_of_ble_eq_true rfl) (Nat.zero_le _) (Nat.zero_le _) ?_
            refine C_X12_isRoom (d := d - 1) (by omega) ⟨fun c146 => ?_, fun c146 => ?_⟩
            · replace H := H.1 c146
              refine j_if_ne (pc := 149) (t := 155) dX12_people_149 (by decide) (fun _ => ?_) (fun q => absurd q (by decide))
              refine j_aload_n (pc := 155) dX12_people_155 rfl ?_
              refine j_aload_n (pc := 156) dX12_people_156 rfl ?_
              refine s_getr (pc := 157) dX12_people_157 fl_X12_101 shp_55 rfl ?_
              refine j_iload (pc := 160) dX12_people_160 rfl ?_
              have b162 := H.1
              replace H := H.2
              refine s_lald (pc := 162) (lr σ 83 (((60 * x1) + ((x2.toInt64 + ((2 * x4).toInt64)).toInt32)).toNatClampNeg)) dX12_people_162 shp_83 b162 rfl ?_
              refine j_l2i (pc := 163) dX12_people_163 ?_
              refine j_aload_n (pc := 164) dX12_people_164 rfl ?_
              refine s_getr (pc := 165) dX12_people_165 fl_X12_101 shp_55 rfl ?_
              refine j_iload (pc := 168) dX12_people_168 rfl ?_
              refine j_iconst (pc := 170) (v := 1) dX12_people_170 (by decide) ?_
              refine j_iadd (pc := 171) dX12_people_171 ?_
              have b172 := H.1
              replace H := H.2
              refine s_lald (pc := 172) (lr σ 83 ((((60 * x1) + ((x2.toInt64 + ((2 * x4).toInt64)).toInt32)) + 1).toNatClampNeg)) dX12_people_172 shp_83 b172 rfl ?_
              refine j_l2i (pc := 173) dX12_people_173 ?_
              refine s_callV_i (pc := 174) (M1 := M_X12_addPerson) (n := 2) (as := [.int ((lr σ 83 (((60 * x1) + ((x2.toInt64 + ((2 * x4).toInt64)).toInt32)).toNatClampNeg)).toInt32), .int ((lr σ 83 ((((60 * x1) + ((x2.toInt64 + ((2 * x4).toInt64)).toInt32)) + 1).toNatClampNeg)).toInt32)]) (a := 55) (st := []) dX12_people_174 G_X12_addPerson wm_X12_135 (by decide +kernel) rfl (Nat.le_of_ble_eq_true rfl) shp_55 rfl (by show 1 ≤ d; omega) (Nat.le_of_ble_eq_true rfl) (Nat.zero_le _) (Nat.zero_le _) ?_
              refine CI.mono H (fun r3 σ3 H => ?_)
              refine j_pop (pc := 177) dX12_people_177 rfl ?_
              refine j_iinc (pc := 178) (k := 6) (v := x4 + 1) (lv1 := [(4, .int (x4 + 1)), (7, .int ((60 * x1) + ((x2.toInt64 + ((2 * x4).toInt64)).toInt32))), (5, .long (x2.toInt64 + ((2 * x4).toInt64))), (0, .ref 55), (1, .int x1), (2, .int x2), (3, .int x3)]) dX12_people_178 rfl rfl (Nat.le_of_ble_eq_true rfl) rfl ?_
              refine j_goto (pc := 181) (t := 58) dX12_people_181 (by decide) ?_
              refine j_sub [3, 4, 5, 6, 0] rfl ?_
              exact H
            · replace H := H.2 c146
              refine j_if_ne (pc := 149) (t := 155) dX12_people_149 (by decide) (fun q => absurd q (by decide)) (fun _ => ?_)
              refine j_iload (pc := 152) dX12_people_152 rfl ?_
              exact s_ireti (pc := 154) dX12_people_154 rfl H
          · replace H := H.2 c129
            refine j_if_eq (pc := 132) (t := 152) dX12_people_132 (by decide) (fun _ => ?_) (fun q => absurd q (by decide))
            refine j_iload (pc := 152) dX12_people_152 rfl ?_
            exact s_ireti (pc := 154) dX12_people_154 rfl H
        · replace H := H.2 c102
          refine j_iload (pc := 105) dX12_people_105 rfl ?_
          exact s_ireti (pc := 107) dX12_people_107 rfl H
set_option maxRecDepth 20000 in
theorem b_X12_valueAt_0 {l : Launch} {g : am_G} {d : Nat} {σ : am_S} {k : Int32 → am_S → Prop}  {x1 x2 : Int32} (H : ((¬ x1 = 0 → ((¬ x1 = 1 → ((¬ x1 = 2 → k (rg σ 3531) σ) ∧ (x1 = 2 → (vp_in x2 5 ∧ k (ar σ 58 x2.toNatClampNeg) σ)))) ∧ (x1 = 1 → (vp_in x2 7 ∧ k (ar σ 60 x2.toNatClampNeg) σ)))) ∧ (x1 = 0 → (vp_in x2 7 ∧ k (ar σ 59 x2.toNatClampNeg) σ)))) : CI l g M_X12_valueAt d [.ref 55, .int x1, .int x2] σ k := by
  show J l g (M_X12_valueAt, d, 0, 0) 0 [(0, .ref 55), (1, .int x1), (2, .int x2)] [] (hp σ) 0 0 (kI k)
  refine j_iload_n (pc := 0) dX12_valueAt_0 rfl ?_
  refine j_if_ne (pc := 1) (t := 13) dX12_valueAt_1 (by decide) (fun c1 => ?_) (fun c1 => ?_)
  · replace H := H.1 c1
    refine j_iload_n (pc := 13) dX12_valueAt_13 rfl ?_
    refine j_iconst (pc := 14) (v := 1) dX12_valueAt_14 (by decide) ?_
    refine j_icmp_ne (pc := 15) (t := 27) dX12_valueAt_15 (by decide) (fun c15 => ?_) (fun c15 => ?_)
    · replace H := H.1 c15
      refine j_iload_n (pc := 27) dX12_valueAt_27 rfl ?_
      refine j_iconst (pc := 28) (v := 2) dX12_valueAt_28 (by decide) ?_
      refine j_icmp_ne (pc := 29) (t := 41) dX12_valueAt_29 (by decide) (fun c29 => ?_) (fun c29 => ?_)
      · replace H := H.1 c29
        refine j_aload_n (pc := 41) dX12_valueAt_41 rfl ?_
        refine s_geti (pc := 42) 3531 (rg σ 3531) dX12_valueAt_42 fl_X12_29 shp_55 rfl rfl rfl ?_
        exact s_ireti (pc := 45) dX12_valueAt_45 rfl H
      · replace H := H.2 c29
        refine j_aload_n (pc := 32) dX12_valueAt_32 rfl ?_
        refine s_getr (pc := 33) dX12_valueAt_33 fl_X12_16 shp_55 rfl ?_
        refine j_iload_n (pc := 36) dX12_valueAt_36 rfl ?_
        have b37 := H.1
        replace H := H.2
        refine s_iald (pc := 37) (ar σ 58 x2.toNatClampNeg) dX12_valueAt_37 shp_58 b37 rfl ?_
        refine j_goto (pc := 38) (t := 45) dX12_valueAt_38 (by decide) ?_
        exact s_ireti (pc := 45) dX12_valueAt_45 rfl H
    · replace H := H.2 c15
      refine j_aload_n (pc := 18) dX12_valueAt_18 rfl ?_
      refine s_getr (pc := 19) dX12_valueAt_19 fl_X12_22 shp_55 rfl ?_
      refine j_iload_n (pc := 22) dX12_valueAt_22 rfl ?_
      have b23 := H.1
      replace H := H.2
      refine s_iald (pc := 23) (ar σ 60 x2.toNatClampNeg) dX12_valueAt_23 shp_60 b23 rfl ?_
      refine j_goto (pc := 24) (t := 45) dX12_valueAt_24 (by decide) ?_
      exact s_ireti (pc := 45) dX12_valueAt_45 rfl H
  · replace H := H.2 c1
    refine j_aload_n (pc := 4) dX12_valueAt_4 rfl ?_
    refine s_getr (pc := 5) dX12_valueAt_5 fl_X12_19 shp_55 rfl ?_
    refine j_iload_n (pc := 8) dX12_valueAt_8 rfl ?_
    have b9 := H.1
    replace H := H.2
    refine s_iald (pc := 9) (ar σ 59 x2.toNatClampNeg) dX12_valueAt_9 shp_59 b9 rfl ?_
    refine j_goto (pc := 10) (t := 45) dX12_valueAt_10 (by decide) ?_
    exact s_ireti (pc := 45) dX12_valueAt_45 rfl H
set_option maxRecDepth 20000 in
theorem b_X12_lays_0 {l : Launch} {g : am_G} {d : Nat} {σ : am_S} {k : am_S → Prop}  {x1 x2 x3 : Int32} (H : ((¬ x1 = 0 → ((¬ x1 = 1 → ((¬ x1 = 2 → k (sR σ 3531 x3)) ∧ (x1 = 2 → (vp_in x2 5 ∧ k (sA σ 58 x2.toNatClampNeg x3))))) ∧ (x1 = 1 → (vp_in x2 7 ∧ k (sA σ 60 x2.toNatClampNeg x3))))) ∧ (x1 = 0 → (vp_in x2 7 ∧ k (sA σ 59 x2.toNatClampNeg x3))))) : CV l g M_X12_lays d [.ref 55, .int x1, .int x2, .int x3] σ k := by
  show J l g (M_X12_lays, d, 0, 0) 0 [(0, .ref 55), (1, .int x1), (2, .int x2), (3, .int x3)] [] (hp σ) 0 0 (kV k)
  refine j_iload_n (pc := 0) dX12_lays_0 rfl ?_
  refine j_if_ne (pc := 1) (t := 14) dX12_lays_1 (by decide) (fun c1 => ?_) (fun c1 => ?_)
  · replace H := H.1 c1
    refine j_iload_n (pc := 14) dX12_lays_14 rfl ?_
    refine j_iconst (pc := 15) (v := 1) dX12_lays_15 (by decide) ?_
    refine j_icmp_ne (pc := 16) (t := 29) dX12_lays_16 (by decide) (fun c16 => ?_) (fun c16 => ?_)
    · replace H := H.1 c16
      refine j_iload_n (pc := 29) dX12_lays_29 rfl ?_
      refine j_iconst (pc := 30) (v := 2) dX12_lays_30 (by decide) ?_
      refine j_icmp_ne (pc := 31) (t := 44) dX12_lays_31 (by decide) (fun c31 => ?_) (fun c31 => ?_)
      · replace H := H.1 c31
        refine j_aload_n (pc := 44) dX12_lays_44 rfl ?_
        refine j_iload_n (pc := 45) dX12_lays_45 rfl ?_
        refine s_put (pc := 46) 3531 dX12_lays_46 fl_X12_29 shp_55 rfl rfl fp_12_11 rfl rfl ?_
        exact s_vret (pc := 49) dX12_lays_49 rfl H
      · replace H := H.2 c31
        refine j_aload_n (pc := 34) dX12_lays_34 rfl ?_
        refine s_getr (pc := 35) dX12_lays_35 fl_X12_16 shp_55 rfl ?_
        refine j_iload_n (pc := 38) dX12_lays_38 rfl ?_
        refine j_iload_n (pc := 39) dX12_lays_39 rfl ?_
        have b40 := H.1
        replace H := H.2
        refine s_iast (pc := 40) dX12_lays_40 shp_58 b40 ?_
        refine j_goto (pc := 41) (t := 49) dX12_lays_41 (by decide) ?_
        exact s_vret (pc := 49) dX12_lays_49 rfl H
    · replace H := H.2 c16
      refine j_aload_n (pc := 19) dX12_lays_19 rfl ?_
      refine s_getr (pc := 20) dX12_lays_20 fl_X12_22 shp_55 rfl ?_
      refine j_iload_n (pc := 23) dX12_lays_23 rfl ?_
      refine j_iload_n (pc := 24) dX12_lays_24 rfl ?_
      have b25 := H.1
      replace H := H.2
      refine s_iast (pc := 25) dX12_lays_25 shp_60 b25 ?_
      refine j_goto (pc := 26) (t := 49) dX12_lays_26 (by decide) ?_
      exact s_vret (pc := 49) dX12_lays_49 rfl H
  · replace H := H.2 c1
    refine j_aload_n (pc := 4) dX12_lays_4 rfl ?_
    refine s_getr (pc := 5) dX12_lays_5 fl_X12_19 shp_55 rfl ?_
    refine j_iload_n (pc := 8) dX12_lays_8 rfl ?_
    refine j_iload_n (pc := 9) dX12_lays_9 rfl ?_
    have b10 := H.1
    replace H := H.2
    refine s_iast (pc := 10) dX12_lays_10 shp_59 b10 ?_
    refine j_goto (pc := 11) (t := 49) dX12_lays_11 (by decide) ?_
    exact s_vret (pc := 49) dX12_lays_49 rfl H
set_option maxRecDepth 20000 in
theorem b_X12_become_0 {l : Launch} {g : am_G} {d : Nat} {σ : am_S} {k : Int32 → am_S → Prop}  {x1 x2 x3 : Int32} (hd : 1 ≤ d) (H : CI l g M_X12_valueAt (d - 1) [.ref 55, .int x1, .int x2] σ (fun r1 σ1 => ((¬ r1 = x3 → ((¬ rg σ1 3532 = 40 → (vp_in (rg σ1 3532) 40 ∧ (vp_in (rg σ1 3532) 40 ∧ (vp_in (rg σ1 3532) 40 ∧ (vp_in (rg σ1 3532) 40 ∧ CV l g M_X12_lays (d - 1) [.ref 55, .int x1, .int x2, .int x3] (sR (sA (sA (sA (sA (sR σ1 3533 0) 61 ((rg σ1 3532).toNatClampNeg) x1) 62 ((rg σ1 3532).toNatClampNeg) x2) 63 ((rg σ1 3532).toNatClampNeg) r1) 64 ((rg σ1 3532).toNatClampNeg) x3) 3532 ((rg σ1 3532) + 1)) (fun σ2 => k r1 σ2)))))) ∧ (rg σ1 3532 = 40 → JI l g M_X12_become d 34 [(0, .ref 55), (1, .int x1), (2, .int x2), (3, .int x3), (4, .int r1), (5, .int 1)] [] (sR σ1 3533 0) k))) ∧ (r1 = x3 → k r1 σ1)))) : CI l g M_X12_become d [.ref 55, .int x1, .int x2, .int x3] σ k := by
  show J l g (M_X12_become, d, 0, 0) 0 [(0, .ref 55), (1, .int x1), (2, .int x2), (3, .int x3)] [] (hp σ) 0 0 (kI k)
  refine j_aload_n (pc := 0) dX12_become_0 rfl ?_
  refine j_iload_n (pc := 1) dX12_become_1 rfl ?_
  refine j_iload_n (pc := 2) dX12_become_2 rfl ?_
  refine s_callV_i (pc := 3) (M1 := M_X12_valueAt) (n := 2) (as := [.int x1, .int x2]) (a := 55) (st := []) dX12_become_3 G_X12_valueAt wm_X12_142 (by decide +kernel) rfl (Nat.le_of_ble_eq_true rfl) shp_55 rfl (by show 1 ≤ d; omega) (Nat.le_of_ble_eq_true rfl) (Nat.zero_le _) (Nat.zero_le _) ?_
  refine CI.mono H (fun r1 σ1 H => ?_)
  refine j_istore (pc := 6) (lv1 := [(4, .int r1), (0, .ref 55), (1, .int x1), (2, .int x2), (3, .int x3)]) dX12_become_6 (Nat.le_of_ble_eq_true rfl) rfl ?_
  refine j_iload (pc := 8) dX12_become_8 rfl ?_
  refine j_iload_n (pc := 10) dX12_become_10 rfl ?_
  refine j_icmp_ne (pc := 11) (t := 17) dX12_become_11 (by decide) (fun c11 => ?_) (fun c11 => ?_)
  · replace H := H.1 c11
    refine j_aload_n (pc := 17) dX12_become_17 rfl ?_
    refine j_iconst (pc := 18) (v := 0) dX12_become_18 (by decide) ?_
    refine s_put (pc := 19) 3533 dX12_become_19 fl_X12_145 shp_55 rfl rfl fp_12_13 rfl rfl ?_
    refine j_aload_n (pc := 22) dX12_become_22 rfl ?_
    refine s_geti (pc := 23) 3532 (rg σ1 3532) dX12_become_23 fl_X12_148 shp_55 rfl rfl rfl ?_
    refine j_bipush (pc := 26) (v := 40) dX12_become_26 (by decide) ?_
    refine j_icmp_ne (pc := 28) (t := 121) dX12_become_28 (by decide) (fun c28 => ?_) (fun c28 => ?_)
    · replace H := H.1 c28
      refine j_aload_n (pc := 121) dX12_become_121 rfl ?_
      refine s_getr (pc := 122) dX12_become_122 fl_X12_32 shp_55 rfl ?_
      refine j_aload_n (pc := 125) dX12_become_125 rfl ?_
      refine s_geti (pc := 126) 3532 (rg σ1 3532) dX12_become_126 fl_X12_148 shp_55 rfl rfl rfl ?_
      refine j_iload_n (pc := 129) dX12_become_129 rfl ?_
      have b130 := H.1
      replace H := H.2
      refine s_iast (pc := 130) dX12_become_130 shp_61 b130 ?_
      refine j_aload_n (pc := 131) dX12_become_131 rfl ?_
      refine s_getr (pc := 132) dX12_become_132 fl_X12_35 shp_55 rfl ?_
      refine j_aload_n (pc := 135) dX12_become_135 rfl ?_
      refine s_geti (pc := 136) 3532 (rg σ1 3532) dX12_become_136 fl_X12_148 shp_55 rfl rfl rfl ?_
      refine j_iload_n (pc := 139) dX12_become_139 rfl ?_
      have b140 := H.1
      replace H := H.2
      refine s_iast (pc := 140) dX12_become_140 shp_62 b140 ?_
      refine j_aload_n (pc := 141) dX12_become_141 rfl ?_
      refine s_getr (pc := 142) dX12_become_142 fl_X12_38 shp_55 rfl ?_
      refine j_aload_n (pc := 145) dX12_become_145 rfl ?_
      refine s_geti (pc := 146) 3532 (rg σ1 3532) dX12_become_146 fl_X12_148 shp_55 rfl rfl rfl ?_
      refine j_iload (pc := 149) dX12_become_149 rfl ?_
      have b151 := H.1
      replace H := H.2
      refine s_iast (pc := 151) dX12_become_151 shp_63 b151 ?_
      refine j_aload_n (pc := 152) dX12_become_152 rfl ?_
      refine s_getr (pc := 153) dX12_become_153 fl_X12_41 shp_55 rfl ?_
      refine j_aload_n (pc := 156) dX12_become_156 rfl ?_
      refine s_geti (pc := 157) 3532 (rg σ1 3532) dX12_become_157 fl_X12_148 shp_55 rfl rfl rfl ?_
      refine j_iload_n (pc := 160) dX12_become_160 rfl ?_
      have b161 := H.1
      replace H := H.2
      refine s_iast (pc := 161) dX12_become_161 shp_64 b161 ?_
      refine j_aload_n (pc := 162) dX12_become_162 rfl ?_
      refine j_dup (pc := 163) dX12_become_163 rfl ?_
      refine s_geti (pc := 164) 3532 (rg σ1 3532) dX12_become_164 fl_X12_148 shp_55 rfl rfl rfl ?_
      refine j_iconst (pc := 167) (v := 1) dX12_become_167 (by decide) ?_
      refine j_iadd (pc := 168) dX12_become_168 ?_
      refine s_put (pc := 169) 3532 dX12_become_169 fl_X12_148 shp_55 rfl rfl fp_12_12 rfl rfl ?_
      refine j_aload_n (pc := 172) dX12_become_172 rfl ?_
      refine j_iload_n (pc := 173) dX12_become_173 rfl ?_
      refine j_iload_n (pc := 174) dX12_become_174 rfl ?_
      refine j_iload_n (pc := 175) dX12_become_175 rfl ?_
      refine s_callV_v (pc := 176) (M1 := M_X12_lays) (n := 3) (as := [.int x1, .int x2, .int x3]) (a := 55) (st := []) dX12_become_176 G_X12_lays wm_X12_151 (by decide +kernel) rfl (Nat.le_of_ble_eq_true rfl) shp_55 rfl (by show 1 ≤ d; omega) (Nat.le_of_ble_eq_true rfl) (Nat.zero_le _) (Nat.zero_le _) ?_
      refine CV.mono H (fun σ2 H => ?_)
      refine j_iload (pc := 179) dX12_become_179 rfl ?_
      exact s_ireti (pc := 181) dX12_become_181 rfl H
    · replace H := H.2 c28
      refine j_iconst (pc := 31) (v := 1) dX12_become_31 (by decide) ?_
      refine j_istore (pc := 32) (lv1 := [(5, .int 1), (4, .int r1), (0, .ref 55), (1, .int x1), (2, .int x2), (3, .int x3)]) dX12_become_32 (Nat.le_of_ble_eq_true rfl) rfl ?_
      refine j_sub [2, 3, 4, 5, 1, 0] rfl ?_
      exact H
  · replace H := H.2 c11
    refine j_iload (pc := 14) dX12_become_14 rfl ?_
    exact s_ireti (pc := 16) dX12_become_16 rfl H
set_option maxRecDepth 20000 in
theorem b_X12_become_34 {l : Launch} {g : am_G} {d : Nat} {σ : am_S} {k : Int32 → am_S → Prop}  {x1 x2 x3 x4 x5 : Int32} (hd : 1 ≤ d) (H : ((40 ≤ x5 → (vp_in ((rg σ 3532) - 1) 40 ∧ (vp_in ((rg σ 3532) - 1) 40 ∧ (vp_in ((rg σ 3532) - 1) 40 ∧ (vp_in ((rg σ 3532) - 1) 40 ∧ CV l g M_X12_lays (d - 1) [.ref 55, .int x1, .int x2, .int x3] (sR (sA (sA (sA (sA (sR σ 3532 ((rg σ 3532) - 1)) 61 (((rg σ 3532) - 1).toNatClampNeg) x1) 62 (((rg σ 3532) - 1).toNatClampNeg) x2) 63 (((rg σ 3532) - 1).toNatClampNeg) x4) 64 (((rg σ 3532) - 1).toNatClampNeg) x3) 3532 (((rg σ 3532) - 1) + 1)) (fun σ1 => k x4 σ1)))))) ∧ (¬ 40 ≤ x5 → (vp_in x5 40 ∧ (vp_in (x5 - 1) 40 ∧ (vp_in x5 40 ∧ (vp_in (x5 - 1) 40 ∧ (vp_in x5 40 ∧ (vp_in (x5 - 1) 40 ∧ (vp_in x5 40 ∧ (vp_in (x5 - 1) 40 ∧ JI l g M_X12_become d 34 [(0, .ref 55), (1, .int x1), (2, .int x2), (3, .int x3), (4, .int x4), (5, .int (x5 + 1))] [] (sA (sA (sA (sA σ 61 ((x5 - 1).toNatClampNeg) (ar σ 61 x5.toNatClampNeg)) 62 ((x5 - 1).toNatClampNeg) (ar σ 62 x5.toNatClampNeg)) 63 ((x5 - 1).toNatClampNeg) (ar σ 63 x5.toNatClampNeg)) 64 ((x5 - 1).toNatClampNeg) (ar σ 64 x5.toNatClampNeg)) k))))))))))) : JI l g M_X12_become d 34 [(0, .ref 55), (1, .int x1), (2, .int x2), (3, .int x3), (4, .int x4), (5, .int x5)] [] σ k := by
  show J l g (M_X12_become, d, 0, 0) 34 [(0, .ref 55), (1, .int x1), (2, .int x2), (3, .int x3), (4, .int x4), (5, .int x5)] [] (hp σ) 0 0 (kI k)
  refine j_iload (pc := 34) dX12_become_34 rfl ?_
  refine j_bipush (pc := 36) (v := 40) dX12_become_36 (by decide) ?_
  refine j_icmp_ge (pc := 38) (t := 111) dX12_become_38 (by decide) (fun c38 => ?_) (fun c38 => ?_)
  · replace H := H.1 c38
    refine j_aload_n (pc := 111) dX12_become_111 rfl ?_
    refine j_dup (pc := 112) dX12_become_112 rfl ?_
    refine s_geti (pc := 113) 3532 (rg σ 3532) dX12_become_113 fl_X12_148 shp_55 rfl rfl rfl ?_
    refine j_iconst (pc := 116) (v := 1) dX12_become_116 (by decide) ?_
    refine j_isub (pc := 117) dX12_become_117 ?_
    refine s_put (pc := 118) 3532 dX12_become_118 fl_X12_148 shp_55 rfl rfl fp_12_12 rfl rfl ?_
    refine j_aload_n (pc := 121) dX12_become_121 rfl ?_
    refine s_getr (pc := 122) dX12_become_122 fl_X12_32 shp_55 rfl ?_
    refine j_aload_n (pc := 125) dX12_become_125 rfl ?_
    refine s_geti (pc := 126) 3532 ((rg σ 3532) - 1) dX12_become_126 fl_X12_148 shp_55 rfl rfl rfl ?_
    refine j_iload_n (pc := 129) dX12_become_129 rfl ?_
    have b130 := H.1
    replace H := H.2
    refine s_iast (pc := 130) dX12_become_130 shp_61 b130 ?_
    refine j_aload_n (pc := 131) dX12_become_131 rfl ?_
    refine s_getr (pc := 132) dX12_become_132 fl_X12_35 shp_55 rfl ?_
    refine j_aload_n (pc := 135) dX12_become_135 rfl ?_
    refine s_geti (pc := 136) 3532 ((rg σ 3532) - 1) dX12_become_136 fl_X12_148 shp_55 rfl rfl rfl ?_
    refine j_iload_n (pc := 139) dX12_become_139 rfl ?_
    have b140 := H.1
    replace H := H.2
    refine s_iast (pc := 140) dX12_become_140 shp_62 b140 ?_
    refine j_aload_n (pc := 141) dX12_become_141 rfl ?_
    refine s_getr (pc := 142) dX12_become_142 fl_X12_38 shp_55 rfl ?_
    refine j_aload_n (pc := 145) dX12_become_145 rfl ?_
    refine s_geti (pc := 146) 3532 ((rg σ 3532) - 1) dX12_become_146 fl_X12_148 shp_55 rfl rfl rfl ?_
    refine j_iload (pc := 149) dX12_become_149 rfl ?_
    have b151 := H.1
    replace H := H.2
    refine s_iast (pc := 151) dX12_become_151 shp_63 b151 ?_
    refine j_aload_n (pc := 152) dX12_become_152 rfl ?_
    refine s_getr (pc := 153) dX12_become_153 fl_X12_41 shp_55 rfl ?_
    refine j_aload_n (pc := 156) dX12_become_156 rfl ?_
    refine s_geti (pc := 157) 3532 ((rg σ 3532) - 1) dX12_become_157 fl_X12_148 shp_55 rfl rfl rfl ?_
    refine j_iload_n (pc := 160) dX12_become_160 rfl ?_
    have b161 := H.1
    replace H := H.2
    refine s_iast (pc := 161) dX12_become_161 shp_64 b161 ?_
    refine j_aload_n (pc := 162) dX12_become_162 rfl ?_
    refine j_dup (pc := 163) dX12_become_163 rfl ?_
    refine s_geti (pc := 164) 3532 ((rg σ 3532) - 1) dX12_become_164 fl_X12_148 shp_55 rfl rfl rfl ?_
    refine j_iconst (pc := 167) (v := 1) dX12_become_167 (by decide) ?_
    refine j_iadd (pc := 168) dX12_become_168 ?_
    refine s_put (pc := 169) 3532 dX12_become_169 fl_X12_148 shp_55 rfl rfl fp_12_12 rfl rfl ?_
    refine j_aload_n (pc := 172) dX12_become_172 rfl ?_
    refine j_iload_n (pc := 173) dX12_become_173 rfl ?_
    refine j_iload_n (pc := 174) dX12_become_174 rfl ?_
    refine j_iload_n (pc := 175) dX12_become_175 rfl ?_
    refine s_callV_v (pc := 176) (M1 := M_X12_lays) (n := 3) (as := [.int x1, .int x2, .int x3]) (a := 55) (st := []) dX12_become_176 G_X12_lays wm_X12_151 (by decide +kernel) rfl (Nat.le_of_ble_eq_true rfl) shp_55 rfl (by show 1 ≤ d; omega) (Nat.le_of_ble_eq_true rfl) (Nat.zero_le _) (Nat.zero_le _) ?_
    refine CV.mono H (fun σ1 H => ?_)
    refine j_iload (pc := 179) dX12_become_179 rfl ?_
    exact s_ireti (pc := 181) dX12_become_181 rfl H
  · replace H := H.2 c38
    refine j_aload_n (pc := 41) dX12_become_41 rfl ?_
    refine s_getr (pc := 42) dX12_become_42 fl_X12_32 shp_55 rfl ?_
    refine j_iload (pc := 45) dX12_become_45 rfl ?_
    refine j_iconst (pc := 47) (v := 1) dX12_become_47 (by decide) ?_
    refine j_isub (pc := 48) dX12_become_48 ?_
    refine j_aload_n (pc := 49) dX12_become_49 rfl ?_
    refine s_getr (pc := 50) dX12_become_50 fl_X12_32 shp_55 rfl ?_
    refine j_iload (pc := 53) dX12_become_53 rfl ?_
    have b55 := H.1
    replace H := H.2
    refine s_iald (pc := 55) (ar σ 61 x5.toNatClampNeg) dX12_become_55 shp_61 b55 rfl ?_
    have b56 := H.1
    replace H := H.2
    refine s_iast (pc := 56) dX12_become_56 shp_61 b56 ?_
    refine j_aload_n (pc := 57) dX12_become_57 rfl ?_
    refine s_getr (pc := 58) dX12_become_58 fl_X12_35 shp_55 rfl ?_
    refine j_iload (pc := 61) dX12_become_61 rfl ?_
    refine j_iconst (pc := 63) (v := 1) dX12_become_63 (by decide) ?_
    refine j_isub (pc := 64) dX12_become_64 ?_
    refine j_aload_n (pc := 65) dX12_become_65 rfl ?_
    refine s_getr (pc := 66) dX12_become_66 fl_X12_35 shp_55 rfl ?_
    refine j_iload (pc := 69) dX12_become_69 rfl ?_
    have b71 := H.1
    replace H := H.2
    refine s_iald (pc := 71) (ar σ 62 x5.toNatClampNeg) dX12_become_71 shp_62 b71 rfl ?_
    have b72 := H.1
    replace H := H.2
    refine s_iast (pc := 72) dX12_become_72 shp_62 b72 ?_
    refine j_aload_n (pc := 73) dX12_become_73 rfl ?_
    refine s_getr (pc := 74) dX12_become_74 fl_X12_38 shp_55 rfl ?_
    refine j_iload (pc := 77) dX12_become_77 rfl ?_
    refine j_iconst (pc := 79) (v := 1) dX12_become_79 (by decide) ?_
    refine j_isub (pc := 80) dX12_become_80 ?_
    refine j_aload_n (pc := 81) dX12_become_81 rfl ?_
    refine s_getr (pc := 82) dX12_become_82 fl_X12_38 shp_55 rfl ?_
    refine j_iload (pc := 85) dX12_become_85 rfl ?_
    have b87 := H.1
    replace H := H.2
    refine s_iald (pc := 87) (ar σ 63 x5.toNatClampNeg) dX12_become_87 shp_63 b87 rfl ?_
    have b88 := H.1
    replace H := H.2
    refine s_iast (pc := 88) dX12_become_88 shp_63 b88 ?_
    refine j_aload_n (pc := 89) dX12_become_89 rfl ?_
    refine s_getr (pc := 90) dX12_become_90 fl_X12_41 shp_55 rfl ?_
    refine j_iload (pc := 93) dX12_become_93 rfl ?_
    refine j_iconst (pc := 95) (v := 1) dX12_become_95 (by decide) ?_
    refine j_isub (pc := 96) dX12_become_96 ?_
    refine j_aload_n (pc := 97) dX12_become_97 rfl ?_
    refine s_getr (pc := 98) dX12_become_98 fl_X12_41 shp_55 rfl ?_
    refine j_iload (pc := 101) dX12_become_101 rfl ?_
    have b103 := H.1
    replace H := H.2
    refine s_iald (pc := 103) (ar σ 64 x5.toNatClampNeg) dX12_become_103 shp_64 b103 rfl ?_
    have b104 := H.1
    replace H := H.2
    refine s_iast (pc := 104) dX12_become_104 shp_64 b104 ?_
    refine j_iinc (pc := 105) (k := 5) (v := x5 + 1) (lv1 := [(5, .int (x5 + 1)), (0, .ref 55), (1, .int x1), (2, .int x2), (3, .int x3), (4, .int x4)]) dX12_become_105 rfl rfl (Nat.le_of_ble_eq_true rfl) rfl ?_
    refine j_goto (pc := 108) (t := 34) dX12_become_108 (by decide) ?_
    refine j_sub [1, 2, 3, 4, 5, 0] rfl ?_
    exact H
set_option maxRecDepth 20000 in
theorem b_X12_undo_0 {l : Launch} {g : am_G} {d : Nat} {σ : am_S} {k : Int32 → am_S → Prop}   (hd : 1 ≤ d) (H : ((¬ rg σ 3532 = 0 → (vp_in ((rg σ 3532) - 1) 40 ∧ (vp_in ((rg σ 3532) - 1) 40 ∧ (vp_in ((rg σ 3532) - 1) 40 ∧ CV l g M_X12_lays (d - 1) [.ref 55, .int (ar σ 61 (((rg σ 3532) - 1).toNatClampNeg)), .int (ar σ 62 (((rg σ 3532) - 1).toNatClampNeg)), .int (ar σ 63 (((rg σ 3532) - 1).toNatClampNeg))] (sR (sR σ 3532 ((rg σ 3532) - 1)) 3533 ((rg σ 3533) + 1)) (fun σ1 => k (rg σ1 3532) σ1))))) ∧ (rg σ 3532 = 0 → k (-5) σ))) : CI l g M_X12_undo d [.ref 55] σ k := by
  show J l g (M_X12_undo, d, 0, 0) 0 [(0, .ref 55)] [] (hp σ) 0 0 (kI k)
  refine j_aload_n (pc := 0) dX12_undo_0 rfl ?_
  refine s_geti (pc := 1) 3532 (rg σ 3532) dX12_undo_1 fl_X12_148 shp_55 rfl rfl rfl ?_
  refine j_if_ne (pc := 4) (t := 10) dX12_undo_4 (by decide) (fun c4 => ?_) (fun c4 => ?_)
  · replace H := H.1 c4
    refine j_aload_n (pc := 10) dX12_undo_10 rfl ?_
    refine j_dup (pc := 11) dX12_undo_11 rfl ?_
    refine s_geti (pc := 12) 3532 (rg σ 3532) dX12_undo_12 fl_X12_148 shp_55 rfl rfl rfl ?_
    refine j_iconst (pc := 15) (v := 1) dX12_undo_15 (by decide) ?_
    refine j_isub (pc := 16) dX12_undo_16 ?_
    refine s_put (pc := 17) 3532 dX12_undo_17 fl_X12_148 shp_55 rfl rfl fp_12_12 rfl rfl ?_
    refine j_aload_n (pc := 20) dX12_undo_20 rfl ?_
    refine j_dup (pc := 21) dX12_undo_21 rfl ?_
    refine s_geti (pc := 22) 3533 (rg σ 3533) dX12_undo_22 fl_X12_145 shp_55 rfl rfl rfl ?_
    refine j_iconst (pc := 25) (v := 1) dX12_undo_25 (by decide) ?_
    refine j_iadd (pc := 26) dX12_undo_26 ?_
    refine s_put (pc := 27) 3533 dX12_undo_27 fl_X12_145 shp_55 rfl rfl fp_12_13 rfl rfl ?_
    refine j_aload_n (pc := 30) dX12_undo_30 rfl ?_
    refine j_aload_n (pc := 31) dX12_undo_31 rfl ?_
    refine s_getr (pc := 32) dX12_undo_32 fl_X12_32 shp_55 rfl ?_
    refine j_aload_n (pc := 35) dX12_undo_35 rfl ?_
    refine s_geti (pc := 36) 3532 ((rg σ 3532) - 1) dX12_undo_36 fl_X12_148 shp_55 rfl rfl rfl ?_
    have b39 := H.1
    replace H := H.2
    refine s_iald (pc := 39) (ar σ 61 (((rg σ 3532) - 1).toNatClampNeg)) dX12_undo_39 shp_61 b39 rfl ?_
    refine j_aload_n (pc := 40) dX12_undo_40 rfl ?_
    refine s_getr (pc := 41) dX12_undo_41 fl_X12_35 shp_55 rfl ?_
    refine j_aload_n (pc := 44) dX12_undo_44 rfl ?_
    refine s_geti (pc := 45) 3532 ((rg σ 3532) - 1) dX12_undo_45 fl_X12_148 shp_55 rfl rfl rfl ?_
    have b48 := H.1
    replace H := H.2
    refine s_iald (pc := 48) (ar σ 62 (((rg σ 3532) - 1).toNatClampNeg)) dX12_undo_48 shp_62 b48 rfl ?_
    refine j_aload_n (pc := 49) dX12_undo_49 rfl ?_
    refine s_getr (pc := 50) dX12_undo_50 fl_X12_38 shp_55 rfl ?_
    refine j_aload_n (pc := 53) dX12_undo_53 rfl ?_
    refine s_geti (pc := 54) 3532 ((rg σ 3532) - 1) dX12_undo_54 fl_X12_148 shp_55 rfl rfl rfl ?_
    have b57 := H.1
    replace H := H.2
    refine s_iald (pc := 57) (ar σ 63 (((rg σ 3532) - 1).toNatClampNeg)) dX12_undo_57 shp_63 b57 rfl ?_
    refine s_callV_v (pc := 58) (M1 := M_X12_lays) (n := 3) (as := [.int (ar σ 61 (((rg σ 3532) - 1).toNatClampNeg)), .int (ar σ 62 (((rg σ 3532) - 1).toNatClampNeg)), .int (ar σ 63 (((rg σ 3532) - 1).toNatClampNeg))]) (a := 55) (st := []) dX12_undo_58 G_X12_lays wm_X12_151 (by decide +kernel) rfl (Nat.le_of_ble_eq_true rfl) shp_55 rfl (by show 1 ≤ d; omega) (Nat.le_of_ble_eq_true rfl) (Nat.zero_le _) (Nat.zero_le _) ?_
    refine CV.mono H (fun σ1 H => ?_)
    refine j_aload_n (pc := 61) dX12_undo_61 rfl ?_
    refine s_geti (pc := 62) 3532 (rg σ1 3532) dX12_undo_62 fl_X12_148 shp_55 rfl rfl rfl ?_
    exact s_ireti (pc := 65) dX12_undo_65 rfl H
  · replace H := H.2 c4
    refine j_bipush (pc := 7) (v := -5) dX12_undo_7 (by decide) ?_
    exact s_ireti (pc := 9) dX12_undo_9 rfl H
set_option maxRecDepth 20000 in
theorem b_X12_redo_0 {l : Launch} {g : am_G} {d : Nat} {σ : am_S} {k : Int32 → am_S → Prop}   (hd : 1 ≤ d) (H : ((¬ rg σ 3533 = 0 → (vp_in (rg σ 3532) 40 ∧ (vp_in (rg σ 3532) 40 ∧ (vp_in (rg σ 3532) 40 ∧ CV l g M_X12_lays (d - 1) [.ref 55, .int (ar σ 61 ((rg σ 3532).toNatClampNeg)), .int (ar σ 62 ((rg σ 3532).toNatClampNeg)), .int (ar σ 64 ((rg σ 3532).toNatClampNeg))] σ (fun σ1 => k ((rg σ1 3533) - 1) (sR (sR σ1 3532 ((rg σ1 3532) + 1)) 3533 ((rg σ1 3533) - 1))))))) ∧ (rg σ 3533 = 0 → k (-5) σ))) : CI l g M_X12_redo d [.ref 55] σ k := by
  show J l g (M_X12_redo, d, 0, 0) 0 [(0, .ref 55)] [] (hp σ) 0 0 (kI k)
  refine j_aload_n (pc := 0) dX12_redo_0 rfl ?_
  refine s_geti (pc := 1) 3533 (rg σ 3533) dX12_redo_1 fl_X12_145 shp_55 rfl rfl rfl ?_
  refine j_if_ne (pc := 4) (t := 10) dX12_redo_4 (by decide) (fun c4 => ?_) (fun c4 => ?_)
  · replace H := H.1 c4
    refine j_aload_n (pc := 10) dX12_redo_10 rfl ?_
    refine j_aload_n (pc := 11) dX12_redo_11 rfl ?_
    refine s_getr (pc := 12) dX12_redo_12 fl_X12_32 shp_55 rfl ?_
    refine j_aload_n (pc := 15) dX12_redo_15 rfl ?_
    refine s_geti (pc := 16) 3532 (rg σ 3532) dX12_redo_16 fl_X12_148 shp_55 rfl rfl rfl ?_
    have b19 := H.1
    replace H := H.2
    refine s_iald (pc := 19) (ar σ 61 ((rg σ 3532).toNatClampNeg)) dX12_redo_19 shp_61 b19 rfl ?_
    refine j_aload_n (pc := 20) dX12_redo_20 rfl ?_
    refine s_getr (pc := 21) dX12_redo_21 fl_X12_35 shp_55 rfl ?_
    refine j_aload_n (pc := 24) dX12_redo_24 rfl ?_
    refine s_geti (pc := 25) 3532 (rg σ 3532) dX12_redo_25 fl_X12_148 shp_55 rfl rfl rfl ?_
    have b28 := H.1
    replace H := H.2
    refine s_iald (pc := 28) (ar σ 62 ((rg σ 3532).toNatClampNeg)) dX12_redo_28 shp_62 b28 rfl ?_
    refine j_aload_n (pc := 29) dX12_redo_29 rfl ?_
    refine s_getr (pc := 30) dX12_redo_30 fl_X12_41 shp_55 rfl ?_
    refine j_aload_n (pc := 33) dX12_redo_33 rfl ?_
    refine s_geti (pc := 34) 3532 (rg σ 3532) dX12_redo_34 fl_X12_148 shp_55 rfl rfl rfl ?_
    have b37 := H.1
    replace H := H.2
    refine s_iald (pc := 37) (ar σ 64 ((rg σ 3532).toNatClampNeg)) dX12_redo_37 shp_64 b37 rfl ?_
    refine s_callV_v (pc := 38) (M1 := M_X12_lays) (n := 3) (as := [.int (ar σ 61 ((rg σ 3532).toNatClampNeg)), .int (ar σ 62 ((rg σ 3532).toNatClampNeg)), .int (ar σ 64 ((rg σ 3532).toNatClampNeg))]) (a := 55) (st := []) dX12_redo_38 G_X12_lays wm_X12_151 (by decide +kernel) rfl (Nat.le_of_ble_eq_true rfl) shp_55 rfl (by show 1 ≤ d; omega) (Nat.le_of_ble_eq_true rfl) (Nat.zero_le _) (Nat.zero_le _) ?_
    refine CV.mono H (fun σ1 H => ?_)
    refine j_aload_n (pc := 41) dX12_redo_41 rfl ?_
    refine j_dup (pc := 42) dX12_redo_42 rfl ?_
    refine s_geti (pc := 43) 3532 (rg σ1 3532) dX12_redo_43 fl_X12_148 shp_55 rfl rfl rfl ?_
    refine j_iconst (pc := 46) (v := 1) dX12_redo_46 (by decide) ?_
    refine j_iadd (pc := 47) dX12_redo_47 ?_
    refine s_put (pc := 48) 3532 dX12_redo_48 fl_X12_148 shp_55 rfl rfl fp_12_12 rfl rfl ?_
    refine j_aload_n (pc := 51) dX12_redo_51 rfl ?_
    refine j_dup (pc := 52) dX12_redo_52 rfl ?_
    refine s_geti (pc := 53) 3533 (rg σ1 3533) dX12_redo_53 fl_X12_145 shp_55 rfl rfl rfl ?_
    refine j_iconst (pc := 56) (v := 1) dX12_redo_56 (by decide) ?_
    refine j_isub (pc := 57) dX12_redo_57 ?_
    refine s_put (pc := 58) 3533 dX12_redo_58 fl_X12_145 shp_55 rfl rfl fp_12_13 rfl rfl ?_
    refine j_aload_n (pc := 61) dX12_redo_61 rfl ?_
    refine s_geti (pc := 62) 3533 ((rg σ1 3533) - 1) dX12_redo_62 fl_X12_145 shp_55 rfl rfl rfl ?_
    exact s_ireti (pc := 65) dX12_redo_65 rfl H
  · replace H := H.2 c4
    refine j_bipush (pc := 7) (v := -5) dX12_redo_7 (by decide) ?_
    exact s_ireti (pc := 9) dX12_redo_9 rfl H
set_option maxRecDepth 20000 in
theorem b_X12_mend_0 {l : Launch} {g : am_G} {d : Nat} {σ : am_S} {k : Int32 → am_S → Prop}  {x1 x2 x3 : Int32} (hd : 2 ≤ d) (H : (((x2.toInt < 0 ∨ 3 < x2.toInt) → k (-1) σ) ∧ (x2 = 0 → ((((¬ x1 < 0 ∧ ¬ (rg σ 3526) - 1 < x1)) → (((¬ x3 < 1 ∧ ¬ 99 < x3) → CI l g M_X12_become (d - 1) [.ref 55, .int 0, .int x1, .int x3] σ (fun r3 σ3 => k r3 σ3)) ∧ (¬ (¬ x3 < 1 ∧ ¬ 99 < x3) → k (-1) σ))) ∧ (¬ ((¬ x1 < 0 ∧ ¬ (rg σ 3526) - 1 < x1)) → k (-1) σ))) ∧ (x2 = 1 → ((((¬ x1 < 0 ∧ ¬ (rg σ 3526) - 1 < x1)) → (((¬ x3 < 0 ∧ ¬ 9 < x3) → CI l g M_X12_become (d - 1) [.ref 55, .int 1, .int x1, .int x3] σ (fun r6 σ6 => k r6 σ6)) ∧ (¬ (¬ x3 < 0 ∧ ¬ 9 < x3) → k (-1) σ))) ∧ (¬ ((¬ x1 < 0 ∧ ¬ (rg σ 3526) - 1 < x1)) → k (-1) σ))) ∧ (x2 = 2 → ((((¬ x1 < 0 ∧ ¬ (rg σ 3522) - 1 < x1)) → (((¬ x3 < 0 ∧ ¬ 2 < x3) → CI l g M_X12_become (d - 1) [.ref 55, .int 2, .int x1, .int x3] σ (fun r9 σ9 => k r9 σ9)) ∧ (¬ (¬ x3 < 0 ∧ ¬ 2 < x3) → k (-1) σ))) ∧ (¬ ((¬ x1 < 0 ∧ ¬ (rg σ 3522) - 1 < x1)) → k (-1) σ))) ∧ (x2 = 3 → ((¬ x1 = 0 → k (-1) σ) ∧ (x1 = 0 → (((¬ x3 < 0 ∧ ¬ 20 < x3) → CI l g M_X12_become (d - 1) [.ref 55, .int 3, .int 0, .int x3] σ (fun r11 σ11 => k r11 σ11)) ∧ (¬ (¬ x3 < 0 ∧ ¬ 20 < x3) → k (-1) σ))))))) : CI l g M_X12_mend d [.ref 55, .int x1, .int x2, .int x3] σ k := by
  show J l g (M_X12_mend, d, 0, 0) 0 [(0, .ref 55), (1, .int x1), (2, .int x2), (3, .int x3)] [] (hp σ) 0 0 (kI k)
  refine j_iload_n (pc := 0) dX12_mend_0 rfl ?_
  rcases sw_cases x2 0 3 with c1 | c1
  · replace H := H.1 c1
    refine j_tableOut (pc := 1) (t := 147) dX12_mend_1 c1 (by decide) ?_
    refine j_iconst (pc := 147) (v := -1) dX12_mend_147 (by decide) ?_
    exact s_ireti (pc := 148) dX12_mend_148 rfl H
  · replace H := H.2
    by_cases c1_0 : x2 = 0
    · replace H := H.1 c1_0
      refine j_tableIn (pc := 1) (t := 32) (off := 31) dX12_mend_1 (by rw [c1_0]; decide) (by rw [c1_0]; decide) (by rw [c1_0]; rfl) (by decide) ?_
      refine j_aload_n (pc := 32) dX12_mend_32 rfl ?_
      refine j_iload_n (pc := 33) dX12_mend_33 rfl ?_
      refine s_callV_i (pc := 34) (M1 := M_X12_isPerson) (n := 1) (as := [.int x1]) (a := 55) (st := []) dX12_mend_34 G_X12_isPerson wm_X12_155 (by decide +kernel) rfl (Nat.le_of_ble_eq_true rfl) shp_55 rfl (by show 1 ≤ d; omega) (Nat.le_of_ble_eq_true rfl) (Nat.zero_le _) (Nat.zero_le _) ?_
      refine C_X12_isPerson (d := d - 1) (by omega) ⟨fun c34 => ?_, fun c34 => ?_⟩
      · replace H := H.1 c34
        refine j_if_eq (pc := 37) (t := 60) dX12_mend_37 (by decide) (fun q => absurd q (by decide)) (fun _ => ?_)
        refine j_iload_n (pc := 40) dX12_mend_40 rfl ?_
        refine j_iconst (pc := 41) (v := 1) dX12_mend_41 (by decide) ?_
        refine j_bipush (pc := 42) (v := 99) dX12_mend_42 (by decide) ?_
        refine s_callS_i (pc := 44) (M1 := M_X12_in) (n := 3) (as := [.int x3, .int 1, .int 99]) (st := []) dX12_mend_44 G_X12_in wm_X12_114 (by decide +kernel) rfl (Nat.le_of_ble_eq_true rfl) (by show 1 ≤ d; omega) (Nat.le_of_ble_eq_true rfl) ?_
        refine C_X12_in (d := d - 1) (by omega) ⟨fun c44 => ?_, fun c44 => ?_⟩
        · replace H := H.1 c44
          refine j_if_eq (pc := 47) (t := 60) dX12_mend_47 (by decide) (fun q => absurd q (by decide)) (fun _ => ?_)
          refine j_aload_n (pc := 50) dX12_mend_50 rfl ?_
          refine j_iconst (pc := 51) (v := 0) dX12_mend_51 (by decide) ?_
          refine j_iload_n (pc := 52) dX12_mend_52 rfl ?_
          refine j_iload_n (pc := 53) dX12_mend_53 rfl ?_
          refine s_callV_i (pc := 54) (M1 := M_X12_become) (n := 3) (as := [.int 0, .int x1, .int x3]) (a := 55) (st := []) dX12_mend_54 G_X12_become wm_X12_158 (by decide +kernel) rfl (Nat.le_of_ble_eq_true rfl) shp_55 rfl (by show 1 ≤ d; omega) (Nat.le_of_ble_eq_true rfl) (Nat.zero_le _) (Nat.zero_le _) ?_
          refine CI.mono H (fun r3 σ3 H => ?_)
          refine j_goto (pc := 57) (t := 61) dX12_mend_57 (by decide) ?_
          exact s_ireti (pc := 61) dX12_mend_61 rfl H
        · replace H := H.2 c44
          refine j_if_eq (pc := 47) (t := 60) dX12_mend_47 (by decide) (fun _ => ?_) (fun q => absurd q (by decide))
          refine j_iconst (pc := 60) (v := -1) dX12_mend_60 (by decide) ?_
          exact s_ireti (pc := 61) dX12_mend_61 rfl H
      · replace H := H.2 c34
        refine j_if_eq (pc := 37) (t := 60) dX12_mend_37 (by decide) (fun _ => ?_) (fun q => absurd q (by decide))
        refine j_iconst (pc := 60) (v := -1) dX12_mend_60 (by decide) ?_
        exact s_ireti (pc := 61) dX12_mend_61 rfl H
    by_cases c1_1 : x2 = 1
    · replace H := H.2.1 c1_1
      refine j_tableIn (pc := 1) (t := 62) (off := 61) dX12_mend_1 (by rw [c1_1]; decide) (by rw [c1_1]; decide) (by rw [c1_1]; rfl) (by decide) ?_
      refine j_aload_n (pc := 62) dX12_mend_62 rfl ?_
      refine j_iload_n (pc := 63) dX12_mend_63 rfl ?_
      refine s_callV_i (pc := 64) (M1 := M_X12_isPerson) (n := 1) (as := [.int x1]) (a := 55) (st := []) dX12_mend_64 G_X12_isPerson wm_X12_155 (by decide +kernel) rfl (Nat.le_of_ble_eq_true rfl) shp_55 rfl (by show 1 ≤ d; omega) (Nat.le_of_ble_eq_true rfl) (Nat.zero_le _) (Nat.zero_le _) ?_
      refine C_X12_isPerson (d := d - 1) (by omega) ⟨fun c64 => ?_, fun c64 => ?_⟩
      · replace H := H.1 c64
        refine j_if_eq (pc := 67) (t := 90) dX12_mend_67 (by decide) (fun q => absurd q (by decide)) (fun _ => ?_)
        refine j_iload_n (pc := 70) dX12_mend_70 rfl ?_
        refine j_iconst (pc := 71) (v := 0) dX12_mend_71 (by decide) ?_
        refine j_bipush (pc := 72) (v := 9) dX12_mend_72 (by decide) ?_
        refine s_callS_i (pc := 74) (M1 := M_X12_in) (n := 3) (as := [.int x3, .int 0, .int 9]) (st := []) dX12_mend_74 G_X12_in wm_X12_114 (by decide +kernel) rfl (Nat.le_of_ble_eq_true rfl) (by show 1 ≤ d; omega) (Nat.le_of_ble_eq_true rfl) ?_
        refine C_X12_in (d := d - 1) (by omega) ⟨fun c74 => ?_, fun c74 => ?_⟩
        · replace H := H.1 c74
          refine j_if_eq (pc := 77) (t := 90) dX12_mend_77 (by decide) (fun q => absurd q (by decide)) (fun _ => ?_)
          refine j_aload_n (pc := 80) dX12_mend_80 rfl ?_
          refine j_iconst (pc := 81) (v := 1) dX12_mend_81 (by decide) ?_
          refine j_iload_n (pc := 82) dX12_mend_82 rfl ?_
          refine j_iload_n (pc := 83) dX12_mend_83 rfl ?_
          refine s_callV_i (pc := 84) (M1 := M_X12_become) (n := 3) (as := [.int 1, .int x1, .int x3]) (a := 55) (st := []) dX12_mend_84 G_X12_become wm_X12_158 (by decide +kernel) rfl (Nat.le_of_ble_eq_true rfl) shp_55 rfl (by show 1 ≤ d; omega) (Nat.le_of_ble_eq_true rfl) (Nat.zero_le _) (Nat.zero_le _) ?_
          refine CI.mono H (fun r6 σ6 H => ?_)
          refine j_goto (pc := 87) (t := 91) dX12_mend_87 (by decide) ?_
          exact s_ireti (pc := 91) dX12_mend_91 rfl H
        · replace H := H.2 c74
          refine j_if_eq (pc := 77) (t := 90) dX12_mend_77 (by decide) (fun _ => ?_) (fun q => absurd q (by decide))
          refine j_iconst (pc := 90) (v := -1) dX12_mend_90 (by decide) ?_
          exact s_ireti (pc := 91) dX12_mend_91 rfl H
      · replace H := H.2 c64
        refine j_if_eq (pc := 67) (t := 90) dX12_mend_67 (by decide) (fun _ => ?_) (fun q => absurd q (by decide))
        refine j_iconst (pc := 90) (v := -1) dX12_mend_90 (by decide) ?_
        exact s_ireti (pc := 91) dX12_mend_91 rfl H
    by_cases c1_2 : x2 = 2
    · replace H := H.2.2.1 c1_2
      refine j_tableIn (pc := 1) (t := 92) (off := 91) dX12_mend_1 (by rw [c1_2]; decide) (by rw [c1_2]; decide) (by rw [c1_2]; rfl) (by decide) ?_
      refine j_aload_n (pc := 92) dX12_mend_92 rfl ?_
      refine j_iload_n (pc := 93) dX12_mend_93 rfl ?_
      refine s_callV_i (pc := 94) (M1 := M_X12_isDoor) (n := 1) (as := [.int x1]) (a := 55) (st := []) dX12_mend_94 G_X12_isDoor wm_X12_161 (by decide +kernel) rfl (Nat.le_of_ble_eq_true rfl) shp_55 rfl (by show 1 ≤ d; omega) (Nat.le_of_ble_eq_true rfl) (Nat.zero_le _) (Nat.zero_le _) ?_
      refine C_X12_isDoor (d := d - 1) (by omega) ⟨fun c94 => ?_, fun c94 => ?_⟩
      · replace H := H.1 c94
        refine j_if_eq (pc := 97) (t := 119) dX12_mend_97 (by decide) (fun q => absurd q (by decide)) (fun _ => ?_)
        refine j_iload_n (pc := 100) dX12_mend_100 rfl ?_
        refine j_iconst (pc := 101) (v := 0) dX12_mend_101 (by decide) ?_
        refine j_iconst (pc := 102) (v := 2) dX12_mend_102 (by decide) ?_
        refine s_callS_i (pc := 103) (M1 := M_X12_in) (n := 3) (as := [.int x3, .int 0, .int 2]) (st := []) dX12_mend_103 G_X12_in wm_X12_114 (by decide +kernel) rfl (Nat.le_of_ble_eq_true rfl) (by show 1 ≤ d; omega) (Nat.le_of_ble_eq_true rfl) ?_
        refine C_X12_in (d := d - 1) (by omega) ⟨fun c103 => ?_, fun c103 => ?_⟩
        · replace H := H.1 c103
          refine j_if_eq (pc := 106) (t := 119) dX12_mend_106 (by decide) (fun q => absurd q (by decide)) (fun _ => ?_)
          refine j_aload_n (pc := 109) dX12_mend_109 rfl ?_
          refine j_iconst (pc := 110) (v := 2) dX12_mend_110 (by decide) ?_
          refine j_iload_n (pc := 111) dX12_mend_111 rfl ?_
          refine j_iload_n (pc := 112) dX12_mend_112 rfl ?_
          refine s_callV_i (pc := 113) (M1 := M_X12_become) (n := 3) (as := [.int 2, .int x1, .int x3]) (a := 55) (st := []) dX12_mend_113 G_X12_become wm_X12_158 (by decide +kernel) rfl (Nat.le_of_ble_eq_true rfl) shp_55 rfl (by show 1 ≤ d; omega) (Nat.le_of_ble_eq_true rfl) (Nat.zero_le _) (Nat.zero_le _) ?_
          refine CI.mono H (fun r9 σ9 H => ?_)
          refine j_goto (pc := 116) (t := 120) dX12_mend_116 (by decide) ?_
          exact s_ireti (pc := 120) dX12_mend_120 rfl H
        · replace H := H.2 c103
          refine j_if_eq (pc := 106) (t := 119) dX12_mend_106 (by decide) (fun _ => ?_) (fun q => absurd q (by decide))
          refine j_iconst (pc := 119) (v := -1) dX12_mend_119 (by decide) ?_
          exact s_ireti (pc := 120) dX12_mend_120 rfl H
      · replace H := H.2 c94
        refine j_if_eq (pc := 97) (t := 119) dX12_mend_97 (by decide) (fun _ => ?_) (fun q => absurd q (by decide))
        refine j_iconst (pc := 119) (v := -1) dX12_mend_119 (by decide) ?_
        exact s_ireti (pc := 120) dX12_mend_120 rfl H
    by_cases c1_3 : x2 = 3
    · replace H := H.2.2.2 c1_3
      refine j_tableIn (pc := 1) (t := 121) (off := 120) dX12_mend_1 (by rw [c1_3]; decide) (by rw [c1_3]; decide) (by rw [c1_3]; rfl) (by decide) ?_
      refine j_iload_n (pc := 121) dX12_mend_121 rfl ?_
      refine j_if_ne (pc := 122) (t := 145) dX12_mend_122 (by decide) (fun c122 => ?_) (fun c122 => ?_)
      · replace H := H.1 c122
        refine j_iconst (pc := 145) (v := -1) dX12_mend_145 (by decide) ?_
        exact s_ireti (pc := 146) dX12_mend_146 rfl H
      · replace H := H.2 c122
        refine j_iload_n (pc := 125) dX12_mend_125 rfl ?_
        refine j_iconst (pc := 126) (v := 0) dX12_mend_126 (by decide) ?_
        refine j_bipush (pc := 127) (v := 20) dX12_mend_127 (by decide) ?_
        refine s_callS_i (pc := 129) (M1 := M_X12_in) (n := 3) (as := [.int x3, .int 0, .int 20]) (st := []) dX12_mend_129 G_X12_in wm_X12_114 (by decide +kernel) rfl (Nat.le_of_ble_eq_true rfl) (by show 1 ≤ d; omega) (Nat.le_of_ble_eq_true rfl) ?_
        refine C_X12_in (d := d - 1) (by omega) ⟨fun c129 => ?_, fun c129 => ?_⟩
        · replace H := H.1 c129
          refine j_if_eq (pc := 132) (t := 145) dX12_mend_132 (by decide) (fun q => absurd q (by decide)) (fun _ => ?_)
          refine j_aload_n (pc := 135) dX12_mend_135 rfl ?_
          refine j_iconst (pc := 136) (v := 3) dX12_mend_136 (by decide) ?_
          refine j_iconst (pc := 137) (v := 0) dX12_mend_137 (by decide) ?_
          refine j_iload_n (pc := 138) dX12_mend_138 rfl ?_
          refine s_callV_i (pc := 139) (M1 := M_X12_become) (n := 3) (as := [.int 3, .int 0, .int x3]) (a := 55) (st := []) dX12_mend_139 G_X12_become wm_X12_158 (by decide +kernel) rfl (Nat.le_of_ble_eq_true rfl) shp_55 rfl (by show 1 ≤ d; omega) (Nat.le_of_ble_eq_true rfl) (Nat.zero_le _) (Nat.zero_le _) ?_
          refine CI.mono H (fun r11 σ11 H => ?_)
          refine j_goto (pc := 142) (t := 146) dX12_mend_142 (by decide) ?_
          exact s_ireti (pc := 146) dX12_mend_146 rfl H
        · replace H := H.2 c129
          refine j_if_eq (pc := 132) (t := 145) dX12_mend_132 (by decide) (fun _ => ?_) (fun q => absurd q (by decide))
          refine j_iconst (pc := 145) (v := -1) dX12_mend_145 (by decide) ?_
          exact s_ireti (pc := 146) dX12_mend_146 rfl H
    exact (sw_end_0_3 c1 c1_0 c1_1 c1_2 c1_3).elim
set_option maxRecDepth 20000 in
theorem b_X12_wear_0 {l : Launch} {g : am_G} {d : Nat} {σ : am_S} {k : Int32 → am_S → Prop}  {x1 : Int32} (hd : 2 ≤ d) (H : ((x1 = (-1) → k (rg σ 3530) (sR σ 3530 x1)) ∧ (¬ x1 = (-1) → ((((¬ x1 < 0 ∧ ¬ (rg σ 3526) - 1 < x1)) → k (rg σ 3530) (sR σ 3530 x1)) ∧ (¬ ((¬ x1 < 0 ∧ ¬ (rg σ 3526) - 1 < x1)) → k (-2000000000) σ))))) : CI l g M_X12_wear d [.ref 55, .int x1] σ k := by
  show J l g (M_X12_wear, d, 0, 0) 0 [(0, .ref 55), (1, .int x1)] [] (hp σ) 0 0 (kI k)
  refine j_iload_n (pc := 0) dX12_wear_0 rfl ?_
  refine j_iconst (pc := 1) (v := -1) dX12_wear_1 (by decide) ?_
  refine j_icmp_eq (pc := 2) (t := 16) dX12_wear_2 (by decide) (fun c2 => ?_) (fun c2 => ?_)
  · replace H := H.1 c2
    refine j_aload_n (pc := 16) dX12_wear_16 rfl ?_
    refine s_geti (pc := 17) 3530 (rg σ 3530) dX12_wear_17 fl_X12_25 shp_55 rfl rfl rfl ?_
    refine j_istore_n (pc := 20) (lv1 := [(2, .int (rg σ 3530)), (0, .ref 55), (1, .int x1)]) dX12_wear_20 (Nat.le_of_ble_eq_true rfl) rfl ?_
    refine j_aload_n (pc := 21) dX12_wear_21 rfl ?_
    refine j_iload_n (pc := 22) dX12_wear_22 rfl ?_
    refine s_put (pc := 23) 3530 dX12_wear_23 fl_X12_25 shp_55 rfl rfl fp_12_10 rfl rfl ?_
    refine j_iload_n (pc := 26) dX12_wear_26 rfl ?_
    exact s_ireti (pc := 27) dX12_wear_27 rfl H
  · replace H := H.2 c2
    refine j_aload_n (pc := 5) dX12_wear_5 rfl ?_
    refine j_iload_n (pc := 6) dX12_wear_6 rfl ?_
    refine s_callV_i (pc := 7) (M1 := M_X12_isPerson) (n := 1) (as := [.int x1]) (a := 55) (st := []) dX12_wear_7 G_X12_isPerson wm_X12_155 (by decide +kernel) rfl (Nat.le_of_ble_eq_true rfl) shp_55 rfl (by show 1 ≤ d; omega) (Nat.le_of_ble_eq_true rfl) (Nat.zero_le _) (Nat.zero_le _) ?_
    refine C_X12_isPerson (d := d - 1) (by omega) ⟨fun c7 => ?_, fun c7 => ?_⟩
    · replace H := H.1 c7
      refine j_if_ne (pc := 10) (t := 16) dX12_wear_10 (by decide) (fun _ => ?_) (fun q => absurd q (by decide))
      refine j_aload_n (pc := 16) dX12_wear_16 rfl ?_
      refine s_geti (pc := 17) 3530 (rg σ 3530) dX12_wear_17 fl_X12_25 shp_55 rfl rfl rfl ?_
      refine j_istore_n (pc := 20) (lv1 := [(2, .int (rg σ 3530)), (0, .ref 55), (1, .int x1)]) dX12_wear_20 (Nat.le_of_ble_eq_true rfl) rfl ?_
      refine j_aload_n (pc := 21) dX12_wear_21 rfl ?_
      refine j_iload_n (pc := 22) dX12_wear_22 rfl ?_
      refine s_put (pc := 23) 3530 dX12_wear_23 fl_X12_25 shp_55 rfl rfl fp_12_10 rfl rfl ?_
      refine j_iload_n (pc := 26) dX12_wear_26 rfl ?_
      exact s_ireti (pc := 27) dX12_wear_27 rfl H
    · replace H := H.2 c7
      refine j_if_ne (pc := 10) (t := 16) dX12_wear_10 (by decide) (fun q => absurd q (by decide)) (fun _ => ?_)
      refine j_ldc (pc := 13) dX12_wear_13 wk_X12_164 ?_
      exact s_ireti (pc := 15) dX12_wear_15 rfl H
set_option maxRecDepth 20000 in
theorem b_X12_whoIn_0 {l : Launch} {g : am_G} {d : Nat} {σ : am_S} {k : Int32 → am_S → Prop}  {x1 : Int32} (H : JI l g M_X12_whoIn d 4 [(0, .ref 55), (1, .int x1), (2, .int 0), (3, .int 0)] [] σ k) : CI l g M_X12_whoIn d [.ref 55, .int x1] σ k := by
  show J l g (M_X12_whoIn, d, 0, 0) 0 [(0, .ref 55), (1, .int x1)] [] (hp σ) 0 0 (kI k)
  refine j_iconst (pc := 0) (v := 0) dX12_whoIn_0 (by decide) ?_
  refine j_istore_n (pc := 1) (lv1 := [(2, .int 0), (0, .ref 55), (1, .int x1)]) dX12_whoIn_1 (Nat.le_of_ble_eq_true rfl) rfl ?_
  refine j_iconst (pc := 2) (v := 0) dX12_whoIn_2 (by decide) ?_
  refine j_istore_n (pc := 3) (lv1 := [(3, .int 0), (2, .int 0), (0, .ref 55), (1, .int x1)]) dX12_whoIn_3 (Nat.le_of_ble_eq_true rfl) rfl ?_
  refine j_sub [2, 3, 1, 0] rfl ?_
  exact H
set_option maxRecDepth 20000 in
theorem b_X12_whoIn_4 {l : Launch} {g : am_G} {d : Nat} {σ : am_S} {k : Int32 → am_S → Prop}  {x1 x2 x3 : Int32} (hd : 1 ≤ d) (H : ((rg σ 3526 ≤ x3 → k x2 σ) ∧ (¬ rg σ 3526 ≤ x3 → ((¬ ((rg σ 3529) >>> ((2 * x3) &&& 31)) &&& 3 = x1 → JI l g M_X12_whoIn d 4 [(0, .ref 55), (1, .int x1), (2, .int x2), (3, .int (x3 + 1))] [] σ k) ∧ (((rg σ 3529) >>> ((2 * x3) &&& 31)) &&& 3 = x1 → JI l g M_X12_whoIn d 4 [(0, .ref 55), (1, .int x1), (2, .int (x2 ||| ((1 : Int32) <<< (x3 &&& 31)))), (3, .int (x3 + 1))] [] σ k))))) : JI l g M_X12_whoIn d 4 [(0, .ref 55), (1, .int x1), (2, .int x2), (3, .int x3)] [] σ k := by
  show J l g (M_X12_whoIn, d, 0, 0) 4 [(0, .ref 55), (1, .int x1), (2, .int x2), (3, .int x3)] [] (hp σ) 0 0 (kI k)
  refine j_iload_n (pc := 4) dX12_whoIn_4 rfl ?_
  refine j_aload_n (pc := 5) dX12_whoIn_5 rfl ?_
  refine s_geti (pc := 6) 3526 (rg σ 3526) dX12_whoIn_6 fl_X12_121 shp_55 rfl rfl rfl ?_
  refine j_icmp_ge (pc := 9) (t := 36) dX12_whoIn_9 (by decide) (fun c9 => ?_) (fun c9 => ?_)
  · replace H := H.1 c9
    refine j_iload_n (pc := 36) dX12_whoIn_36 rfl ?_
    exact s_ireti (pc := 37) dX12_whoIn_37 rfl H
  · replace H := H.2 c9
    refine j_aload_n (pc := 12) dX12_whoIn_12 rfl ?_
    refine s_geti (pc := 13) 3529 (rg σ 3529) dX12_whoIn_13 fl_X12_128 shp_55 rfl rfl rfl ?_
    refine j_iload_n (pc := 16) dX12_whoIn_16 rfl ?_
    refine s_callS_i (pc := 17) (M1 := M_X12_roomIn) (n := 2) (as := [.int (rg σ 3529), .int x3]) (st := []) dX12_whoIn_17 G_X12_roomIn wm_X12_165 (by decide +kernel) rfl (Nat.le_of_ble_eq_true rfl) (by show 1 ≤ d; omega) (Nat.le_of_ble_eq_true rfl) ?_
    refine C_X12_roomIn (d := d - 1) (by omega) ?_
    refine j_iload_n (pc := 20) dX12_whoIn_20 rfl ?_
    refine j_icmp_ne (pc := 21) (t := 30) dX12_whoIn_21 (by decide) (fun c21 => ?_) (fun c21 => ?_)
    · replace H := H.1 c21
      refine j_iinc (pc := 30) (k := 3) (v := x3 + 1) (lv1 := [(3, .int (x3 + 1)), (0, .ref 55), (1, .int x1), (2, .int x2)]) dX12_whoIn_30 rfl rfl (Nat.le_of_ble_eq_true rfl) rfl ?_
      refine j_goto (pc := 33) (t := 4) dX12_whoIn_33 (by decide) ?_
      refine j_sub [1, 2, 3, 0] rfl ?_
      exact H
    · replace H := H.2 c21
      refine j_iload_n (pc := 24) dX12_whoIn_24 rfl ?_
      refine j_iconst (pc := 25) (v := 1) dX12_whoIn_25 (by decide) ?_
      refine j_iload_n (pc := 26) dX12_whoIn_26 rfl ?_
      refine j_ishl (pc := 27) dX12_whoIn_27 ?_
      refine j_ior (pc := 28) dX12_whoIn_28 ?_
      refine j_istore_n (pc := 29) (lv1 := [(2, .int (x2 ||| ((1 : Int32) <<< (x3 &&& 31)))), (0, .ref 55), (1, .int x1), (3, .int x3)]) dX12_whoIn_29 (Nat.le_of_ble_eq_true rfl) rfl ?_
      refine j_iinc (pc := 30) (k := 3) (v := x3 + 1) (lv1 := [(3, .int (x3 + 1)), (2, .int (x2 ||| ((1 : Int32) <<< (x3 &&& 31)))), (0, .ref 55), (1, .int x1)]) dX12_whoIn_30 rfl rfl (Nat.le_of_ble_eq_true rfl) rfl ?_
      refine j_goto (pc := 33) (t := 4) dX12_whoIn_33 (by decide) ?_
      refine j_sub [2, 3, 1, 0] rfl ?_
      exact H
set_option maxRecDepth 20000 in
theorem b_X12_height_0 {l : Launch} {g : am_G} {d : Nat} {σ : am_S} {k : Int32 → am_S → Prop}  {x1 x2 x3 : Int32} (H : (vp_in x1 7 ∧ (vp_in x1 7 ∧ ((¬ x1 = x2 → k (((ar σ 59 x1.toNatClampNeg) + (x3 * (ar σ 60 x1.toNatClampNeg))) + 0) σ) ∧ (x1 = x2 → k (((ar σ 59 x1.toNatClampNeg) + (x3 * (ar σ 60 x1.toNatClampNeg))) + (rg σ 3531)) σ))))) : CI l g M_X12_height d [.ref 55, .int x1, .int x2, .int x3] σ k := by
  show J l g (M_X12_height, d, 0, 0) 0 [(0, .ref 55), (1, .int x1), (2, .int x2), (3, .int x3)] [] (hp σ) 0 0 (kI k)
  refine j_aload_n (pc := 0) dX12_height_0 rfl ?_
  refine s_getr (pc := 1) dX12_height_1 fl_X12_19 shp_55 rfl ?_
  refine j_iload_n (pc := 4) dX12_height_4 rfl ?_
  have b5 := H.1
  replace H := H.2
  refine s_iald (pc := 5) (ar σ 59 x1.toNatClampNeg) dX12_height_5 shp_59 b5 rfl ?_
  refine j_iload_n (pc := 6) dX12_height_6 rfl ?_
  refine j_aload_n (pc := 7) dX12_height_7 rfl ?_
  refine s_getr (pc := 8) dX12_height_8 fl_X12_22 shp_55 rfl ?_
  refine j_iload_n (pc := 11) dX12_height_11 rfl ?_
  have b12 := H.1
  replace H := H.2
  refine s_iald (pc := 12) (ar σ 60 x1.toNatClampNeg) dX12_height_12 shp_60 b12 rfl ?_
  refine j_imul (pc := 13) dX12_height_13 ?_
  refine j_iadd (pc := 14) dX12_height_14 ?_
  refine j_iload_n (pc := 15) dX12_height_15 rfl ?_
  refine j_iload_n (pc := 16) dX12_height_16 rfl ?_
  refine j_icmp_ne (pc := 17) (t := 27) dX12_height_17 (by decide) (fun c17 => ?_) (fun c17 => ?_)
  · replace H := H.1 c17
    refine j_iconst (pc := 27) (v := 0) dX12_height_27 (by decide) ?_
    refine j_iadd (pc := 28) dX12_height_28 ?_
    exact s_ireti (pc := 29) dX12_height_29 rfl H
  · replace H := H.2 c17
    refine j_aload_n (pc := 20) dX12_height_20 rfl ?_
    refine s_geti (pc := 21) 3531 (rg σ 3531) dX12_height_21 fl_X12_29 shp_55 rfl rfl rfl ?_
    refine j_goto (pc := 24) (t := 28) dX12_height_24 (by decide) ?_
    refine j_iadd (pc := 28) dX12_height_28 ?_
    exact s_ireti (pc := 29) dX12_height_29 rfl H
set_option maxRecDepth 20000 in
theorem b_X12_of_0 {l : Launch} {g : am_G} {d : Nat} {σ : am_S} {k : Int32 → am_S → Prop}  {x1 x2 : Int32} (hd : 2 ≤ d) (H : (((¬ x2 < 0 ∧ ¬ 3 < x2) → ((((¬ x1 < 0 ∧ ¬ (rg σ 3526) - 1 < x1)) → ((¬ x2 = 0 → ((¬ x2 = 1 → ((¬ x2 = 2 → CI l g M_X12_height (d - 1) [.ref 55, .int x1, .int (rg σ 3530), .int 0] σ (fun r3 σ3 => k r3 σ3)) ∧ (x2 = 2 → (vp_in x1 7 ∧ k (ar σ 60 x1.toNatClampNeg) σ)))) ∧ (x2 = 1 → k (((rg σ 3529) >>> ((2 * x1) &&& 31)) &&& 3) σ))) ∧ (x2 = 0 → (vp_in x1 7 ∧ k (ar σ 59 x1.toNatClampNeg) σ)))) ∧ (¬ ((¬ x1 < 0 ∧ ¬ (rg σ 3526) - 1 < x1)) → k (-1) σ))) ∧ (¬ (¬ x2 < 0 ∧ ¬ 3 < x2) → (((¬ x2 < 10 ∧ ¬ 11 < x2) → ((((¬ x1 < 0 ∧ ¬ (rg σ 3522) - 1 < x1)) → ((¬ x2 = 10 → (vp_in x1 5 ∧ k (ar σ 58 x1.toNatClampNeg) σ)) ∧ (x2 = 10 → (vp_in x1 5 ∧ (vp_in x1 5 ∧ k ((10 * (ar σ 56 x1.toNatClampNeg)) + (ar σ 57 x1.toNatClampNeg)) σ))))) ∧ (¬ ((¬ x1 < 0 ∧ ¬ (rg σ 3522) - 1 < x1)) → k (-1) σ))) ∧ (¬ (¬ x2 < 10 ∧ ¬ 11 < x2) → ((¬ x2 = 20 → ((¬ x2 = 30 → k (-1) σ) ∧ (x2 = 30 → ((¬ x1 = 0 → k (-1) σ) ∧ (x1 = 0 → k (rg σ 3531) σ))))) ∧ (x2 = 20 → ((((¬ x1 < 0 ∧ ¬ (rg σ 3521) - 1 < x1)) → CI l g M_X12_whoIn (d - 1) [.ref 55, .int x1] σ (fun r7 σ7 => k r7 σ7)) ∧ (¬ ((¬ x1 < 0 ∧ ¬ (rg σ 3521) - 1 < x1)) → k (-1) σ))))))))) : CI l g M_X12_of d [.ref 55, .int x1, .int x2] σ k := by
  show J l g (M_X12_of, d, 0, 0) 0 [(0, .ref 55), (1, .int x1), (2, .int x2)] [] (hp σ) 0 0 (kI k)
  refine j_iload_n (pc := 0) dX12_of_0 rfl ?_
  refine j_iconst (pc := 1) (v := 0) dX12_of_1 (by decide) ?_
  refine j_iconst (pc := 2) (v := 3) dX12_of_2 (by decide) ?_
  refine s_callS_i (pc := 3) (M1 := M_X12_in) (n := 3) (as := [.int x2, .int 0, .int 3]) (st := []) dX12_of_3 G_X12_in wm_X12_114 (by decide +kernel) rfl (Nat.le_of_ble_eq_true rfl) (by show 1 ≤ d; omega) (Nat.le_of_ble_eq_true rfl) ?_
  refine C_X12_in (d := d - 1) (by omega) ⟨fun c3 => ?_, fun c3 => ?_⟩
  · replace H := H.1 c3
    refine j_if_eq (pc := 6) (t := 73) dX12_of_6 (by decide) (fun q => absurd q (by decide)) (fun _ => ?_)
    refine j_aload_n (pc := 9) dX12_of_9 rfl ?_
    refine j_iload_n (pc := 10) dX12_of_10 rfl ?_
    refine s_callV_i (pc := 11) (M1 := M_X12_isPerson) (n := 1) (as := [.int x1]) (a := 55) (st := []) dX12_of_11 G_X12_isPerson wm_X12_155 (by decide +kernel) rfl (Nat.le_of_ble_eq_true rfl) shp_55 rfl (by show 1 ≤ d; omega) (Nat.le_of_ble_eq_true rfl) (Nat.zero_le _) (Nat.zero_le _) ?_
    refine C_X12_isPerson (d := d - 1) (by omega) ⟨fun c11 => ?_, fun c11 => ?_⟩
    · replace H := H.1 c11
      refine j_if_ne (pc := 14) (t := 19) dX12_of_14 (by decide) (fun _ => ?_) (fun q => absurd q (by decide))
      refine j_iload_n (pc := 19) dX12_of_19 rfl ?_
      refine j_if_ne (pc := 20) (t := 32) dX12_of_20 (by decide) (fun c20 => ?_) (fun c20 => ?_)
      · replace H := H.1 c20
        refine j_iload_n (pc := 32) dX12_of_32 rfl ?_
        refine j_iconst (pc := 33) (v := 1) dX12_of_33 (by decide) ?_
        refine j_icmp_ne (pc := 34) (t := 48) dX12_of_34 (by decide) (fun c34 => ?_) (fun c34 => ?_)
        · replace H := H.1 c34
          refine j_iload_n (pc := 48) dX12_of_48 rfl ?_
          refine j_iconst (pc := 49) (v := 2) dX12_of_49 (by decide) ?_
          refine j_icmp_ne (pc := 50) (t := 62) dX12_of_50 (by decide) (fun c50 => ?_) (fun c50 => ?_)
          · replace H := H.1 c50
            refine j_aload_n (pc := 62) dX12_of_62 rfl ?_
            refine j_iload_n (pc := 63) dX12_of_63 rfl ?_
            refine j_aload_n (pc := 64) dX12_of_64 rfl ?_
            refine s_geti (pc := 65) 3530 (rg σ 3530) dX12_of_65 fl_X12_25 shp_55 rfl rfl rfl ?_
            refine j_iconst (pc := 68) (v := 0) dX12_of_68 (by decide) ?_
            refine s_callV_i (pc := 69) (M1 := M_X12_height) (n := 3) (as := [.int x1, .int (rg σ 3530), .int 0]) (a := 55) (st := []) dX12_of_69 G_X12_height wm_X12_168 (by decide +kernel) rfl (Nat.le_of_ble_eq_true rfl) shp_55 rfl (by show 1 ≤ d; omega) (Nat.le_of_ble_eq_true rfl) (Nat.zero_le _) (Nat.zero_le _) ?_
            refine CI.mono H (fun r3 σ3 H => ?_)
            exact s_ireti (pc := 72) dX12_of_72 rfl H
          · replace H := H.2 c50
            refine j_aload_n (pc := 53) dX12_of_53 rfl ?_
            refine s_getr (pc := 54) dX12_of_54 fl_X12_22 shp_55 rfl ?_
            refine j_iload_n (pc := 57) dX12_of_57 rfl ?_
            have b58 := H.1
            replace H := H.2
            refine s_iald (pc := 58) (ar σ 60 x1.toNatClampNeg) dX12_of_58 shp_60 b58 rfl ?_
            refine j_goto (pc := 59) (t := 72) dX12_of_59 (by decide) ?_
            exact s_ireti (pc := 72) dX12_of_72 rfl H
        · replace H := H.2 c34
          refine j_aload_n (pc := 37) dX12_of_37 rfl ?_
          refine s_geti (pc := 38) 3529 (rg σ 3529) dX12_of_38 fl_X12_128 shp_55 rfl rfl rfl ?_
          refine j_iload_n (pc := 41) dX12_of_41 rfl ?_
          refine s_callS_i (pc := 42) (M1 := M_X12_roomIn) (n := 2) (as := [.int (rg σ 3529), .int x1]) (st := []) dX12_of_42 G_X12_roomIn wm_X12_165 (by decide +kernel) rfl (Nat.le_of_ble_eq_true rfl) (by show 1 ≤ d; omega) (Nat.le_of_ble_eq_true rfl) ?_
          refine C_X12_roomIn (d := d - 1) (by omega) ?_
          refine j_goto (pc := 45) (t := 72) dX12_of_45 (by decide) ?_
          exact s_ireti (pc := 72) dX12_of_72 rfl H
      · replace H := H.2 c20
        refine j_aload_n (pc := 23) dX12_of_23 rfl ?_
        refine s_getr (pc := 24) dX12_of_24 fl_X12_19 shp_55 rfl ?_
        refine j_iload_n (pc := 27) dX12_of_27 rfl ?_
        have b28 := H.1
        replace H := H.2
        refine s_iald (pc := 28) (ar σ 59 x1.toNatClampNeg) dX12_of_28 shp_59 b28 rfl ?_
        refine j_goto (pc := 29) (t := 72) dX12_of_29 (by decide) ?_
        exact s_ireti (pc := 72) dX12_of_72 rfl H
    · replace H := H.2 c11
      refine j_if_ne (pc := 14) (t := 19) dX12_of_14 (by decide) (fun q => absurd q (by decide)) (fun _ => ?_)
      refine j_iconst (pc := 17) (v := -1) dX12_of_17 (by decide) ?_
      exact s_ireti (pc := 18) dX12_of_18 rfl H
  · replace H := H.2 c3
    refine j_if_eq (pc := 6) (t := 73) dX12_of_6 (by decide) (fun _ => ?_) (fun q => absurd q (by decide))
    refine j_iload_n (pc := 73) dX12_of_73 rfl ?_
    refine j_bipush (pc := 74) (v := 10) dX12_of_74 (by decide) ?_
    refine j_bipush (pc := 76) (v := 11) dX12_of_76 (by decide) ?_
    refine s_callS_i (pc := 78) (M1 := M_X12_in) (n := 3) (as := [.int x2, .int 10, .int 11]) (st := []) dX12_of_78 G_X12_in wm_X12_114 (by decide +kernel) rfl (Nat.le_of_ble_eq_true rfl) (by show 1 ≤ d; omega) (Nat.le_of_ble_eq_true rfl) ?_
    refine C_X12_in (d := d - 1) (by omega) ⟨fun c78 => ?_, fun c78 => ?_⟩
    · replace H := H.1 c78
      refine j_if_eq (pc := 81) (t := 128) dX12_of_81 (by decide) (fun q => absurd q (by decide)) (fun _ => ?_)
      refine j_aload_n (pc := 84) dX12_of_84 rfl ?_
      refine j_iload_n (pc := 85) dX12_of_85 rfl ?_
      refine s_callV_i (pc := 86) (M1 := M_X12_isDoor) (n := 1) (as := [.int x1]) (a := 55) (st := []) dX12_of_86 G_X12_isDoor wm_X12_161 (by decide +kernel) rfl (Nat.le_of_ble_eq_true rfl) shp_55 rfl (by show 1 ≤ d; omega) (Nat.le_of_ble_eq_true rfl) (Nat.zero_le _) (Nat.zero_le _) ?_
      refine C_X12_isDoor (d := d - 1) (by omega) ⟨fun c86 => ?_, fun c86 => ?_⟩
      · replace H := H.1 c86
        refine j_if_ne (pc := 89) (t := 96) dX12_of_89 (by decide) (fun _ => ?_) (fun q => absurd q (by decide))
        refine j_iload_n (pc := 96) dX12_of_96 rfl ?_
        refine j_bipush (pc := 97) (v := 10) dX12_of_97 (by decide) ?_
        refine j_icmp_ne (pc := 99) (t := 121) dX12_of_99 (by decide) (fun c99 => ?_) (fun c99 => ?_)
        · replace H := H.1 c99
          refine j_aload_n (pc := 121) dX12_of_121 rfl ?_
          refine s_getr (pc := 122) dX12_of_122 fl_X12_16 shp_55 rfl ?_
          refine j_iload_n (pc := 125) dX12_of_125 rfl ?_
          have b126 := H.1
          replace H := H.2
          refine s_iald (pc := 126) (ar σ 58 x1.toNatClampNeg) dX12_of_126 shp_58 b126 rfl ?_
          exact s_ireti (pc := 127) dX12_of_127 rfl H
        · replace H := H.2 c99
          refine j_bipush (pc := 102) (v := 10) dX12_of_102 (by decide) ?_
          refine j_aload_n (pc := 104) dX12_of_104 rfl ?_
          refine s_getr (pc := 105) dX12_of_105 fl_X12_7 shp_55 rfl ?_
          refine j_iload_n (pc := 108) dX12_of_108 rfl ?_
          have b109 := H.1
          replace H := H.2
          refine s_iald (pc := 109) (ar σ 56 x1.toNatClampNeg) dX12_of_109 shp_56 b109 rfl ?_
          refine j_imul (pc := 110) dX12_of_110 ?_
          refine j_aload_n (pc := 111) dX12_of_111 rfl ?_
          refine s_getr (pc := 112) dX12_of_112 fl_X12_13 shp_55 rfl ?_
          refine j_iload_n (pc := 115) dX12_of_115 rfl ?_
          have b116 := H.1
          replace H := H.2
          refine s_iald (pc := 116) (ar σ 57 x1.toNatClampNeg) dX12_of_116 shp_57 b116 rfl ?_
          refine j_iadd (pc := 117) dX12_of_117 ?_
          refine j_goto (pc := 118) (t := 127) dX12_of_118 (by decide) ?_
          exact s_ireti (pc := 127) dX12_of_127 rfl H
      · replace H := H.2 c86
        refine j_if_ne (pc := 89) (t := 96) dX12_of_89 (by decide) (fun q => absurd q (by decide)) (fun _ => ?_)
        refine j_iconst (pc := 92) (v := -1) dX12_of_92 (by decide) ?_
        refine j_goto (pc := 93) (t := 127) dX12_of_93 (by decide) ?_
        exact s_ireti (pc := 127) dX12_of_127 rfl H
    · replace H := H.2 c78
      refine j_if_eq (pc := 81) (t := 128) dX12_of_81 (by decide) (fun _ => ?_) (fun q => absurd q (by decide))
      refine j_iload_n (pc := 128) dX12_of_128 rfl ?_
      refine j_bipush (pc := 129) (v := 20) dX12_of_129 (by decide) ?_
      refine j_icmp_ne (pc := 131) (t := 152) dX12_of_131 (by decide) (fun c131 => ?_) (fun c131 => ?_)
      · replace H := H.1 c131
        refine j_iload_n (pc := 152) dX12_of_152 rfl ?_
        refine j_bipush (pc := 153) (v := 30) dX12_of_153 (by decide) ?_
        refine j_icmp_ne (pc := 155) (t := 169) dX12_of_155 (by decide) (fun c155 => ?_) (fun c155 => ?_)
        · replace H := H.1 c155
          refine j_iconst (pc := 169) (v := -1) dX12_of_169 (by decide) ?_
          exact s_ireti (pc := 170) dX12_of_170 rfl H
        · replace H := H.2 c155
          refine j_iload_n (pc := 158) dX12_of_158 rfl ?_
          refine j_if_ne (pc := 159) (t := 169) dX12_of_159 (by decide) (fun c159 => ?_) (fun c159 => ?_)
          · replace H := H.1 c159
            refine j_iconst (pc := 169) (v := -1) dX12_of_169 (by decide) ?_
            exact s_ireti (pc := 170) dX12_of_170 rfl H
          · replace H := H.2 c159
            refine j_aload_n (pc := 162) dX12_of_162 rfl ?_
            refine s_geti (pc := 163) 3531 (rg σ 3531) dX12_of_163 fl_X12_29 shp_55 rfl rfl rfl ?_
            refine j_goto (pc := 166) (t := 170) dX12_of_166 (by decide) ?_
            exact s_ireti (pc := 170) dX12_of_170 rfl H
      · replace H := H.2 c131
        refine j_aload_n (pc := 134) dX12_of_134 rfl ?_
        refine j_iload_n (pc := 135) dX12_of_135 rfl ?_
        refine s_callV_i (pc := 136) (M1 := M_X12_isRoom) (n := 1) (as := [.int x1]) (a := 55) (st := []) dX12_of_136 G_X12_isRoom wm_X12_124 (by decide +kernel) rfl (Nat.le_of_ble_eq_true rfl) shp_55 rfl (by show 1 ≤ d; omega) (Nat.le_of_ble_eq_true rfl) (Nat.zero_le _) (Nat.zero_le _) ?_
        refine C_X12_isRoom (d := d - 1) (by omega) ⟨fun c136 => ?_, fun c136 => ?_⟩
        · replace H := H.1 c136
          refine j_if_eq (pc := 139) (t := 150) dX12_of_139 (by decide) (fun q => absurd q (by decide)) (fun _ => ?_)
          refine j_aload_n (pc := 142) dX12_of_142 rfl ?_
          refine j_iload_n (pc := 143) dX12_of_143 rfl ?_
          refine s_callV_i (pc := 144) (M1 := M_X12_whoIn) (n := 1) (as := [.int x1]) (a := 55) (st := []) dX12_of_144 G_X12_whoIn wm_X12_171 (by decide +kernel) rfl (Nat.le_of_ble_eq_true rfl) shp_55 rfl (by show 1 ≤ d; omega) (Nat.le_of_ble_eq_true rfl) (Nat.zero_le _) (Nat.zero_le _) ?_
          refine CI.mono H (fun r7 σ7 H => ?_)
          refine j_goto (pc := 147) (t := 151) dX12_of_147 (by decide) ?_
          exact s_ireti (pc := 151) dX12_of_151 rfl H
        · replace H := H.2 c136
          refine j_if_eq (pc := 139) (t := 150) dX12_of_139 (by decide) (fun _ => ?_) (fun q => absurd q (by decide))
          refine j_iconst (pc := 150) (v := -1) dX12_of_150 (by decide) ?_
          exact s_ireti (pc := 151) dX12_of_151 rfl H
set_option maxRecDepth 20000 in
theorem b_X12_feed_0 {l : Launch} {g : am_G} {d : Nat} {σ : am_S} {k : Int32 → am_S → Prop}  {x1 : Int32} (hd : 1 ≤ d) (H : (((¬ x1 < 0 ∧ ¬ 255 < x1) → ((¬ rg σ 3539 = 120 → (vp_in (rg σ 3539) 120 ∧ k ((rg σ 3539) + 1) (sR (sA σ 65 ((rg σ 3539).toNatClampNeg) (vp_nar .byte x1.toInt8.toInt32)) 3539 ((rg σ 3539) + 1)))) ∧ (rg σ 3539 = 120 → k (-3) σ))) ∧ (¬ (¬ x1 < 0 ∧ ¬ 255 < x1) → k (-1) σ))) : CI l g M_X12_feed d [.ref 55, .int x1] σ k := by
  show J l g (M_X12_feed, d, 0, 0) 0 [(0, .ref 55), (1, .int x1)] [] (hp σ) 0 0 (kI k)
  refine j_iload_n (pc := 0) dX12_feed_0 rfl ?_
  refine j_iconst (pc := 1) (v := 0) dX12_feed_1 (by decide) ?_
  refine j_sipush (pc := 2) (v := 255) dX12_feed_2 (by decide) ?_
  refine s_callS_i (pc := 5) (M1 := M_X12_in) (n := 3) (as := [.int x1, .int 0, .int 255]) (st := []) dX12_feed_5 G_X12_in wm_X12_114 (by decide +kernel) rfl (Nat.le_of_ble_eq_true rfl) (by show 1 ≤ d; omega) (Nat.le_of_ble_eq_true rfl) ?_
  refine C_X12_in (d := d - 1) (by omega) ⟨fun c5 => ?_, fun c5 => ?_⟩
  · replace H := H.1 c5
    refine j_if_ne (pc := 8) (t := 13) dX12_feed_8 (by decide) (fun _ => ?_) (fun q => absurd q (by decide))
    refine j_aload_n (pc := 13) dX12_feed_13 rfl ?_
    refine s_geti (pc := 14) 3539 (rg σ 3539) dX12_feed_14 fl_X12_175 shp_55 rfl rfl rfl ?_
    refine j_bipush (pc := 17) (v := 120) dX12_feed_17 (by decide) ?_
    refine j_icmp_ne (pc := 19) (t := 25) dX12_feed_19 (by decide) (fun c19 => ?_) (fun c19 => ?_)
    · replace H := H.1 c19
      refine j_aload_n (pc := 25) dX12_feed_25 rfl ?_
      refine s_getr (pc := 26) dX12_feed_26 fl_X12_44 shp_55 rfl ?_
      refine j_aload_n (pc := 29) dX12_feed_29 rfl ?_
      refine s_geti (pc := 30) 3539 (rg σ 3539) dX12_feed_30 fl_X12_175 shp_55 rfl rfl rfl ?_
      refine j_iload_n (pc := 33) dX12_feed_33 rfl ?_
      refine j_i2b (pc := 34) dX12_feed_34 ?_
      have b35 := H.1
      replace H := H.2
      refine s_bast (pc := 35) dX12_feed_35 shp_65 b35 ?_
      refine j_aload_n (pc := 36) dX12_feed_36 rfl ?_
      refine j_dup (pc := 37) dX12_feed_37 rfl ?_
      refine s_geti (pc := 38) 3539 (rg σ 3539) dX12_feed_38 fl_X12_175 shp_55 rfl rfl rfl ?_
      refine j_iconst (pc := 41) (v := 1) dX12_feed_41 (by decide) ?_
      refine j_iadd (pc := 42) dX12_feed_42 ?_
      refine s_put (pc := 43) 3539 dX12_feed_43 fl_X12_175 shp_55 rfl rfl fp_12_19 rfl rfl ?_
      refine j_aload_n (pc := 46) dX12_feed_46 rfl ?_
      refine s_geti (pc := 47) 3539 ((rg σ 3539) + 1) dX12_feed_47 fl_X12_175 shp_55 rfl rfl rfl ?_
      exact s_ireti (pc := 50) dX12_feed_50 rfl H
    · replace H := H.2 c19
      refine j_bipush (pc := 22) (v := -3) dX12_feed_22 (by decide) ?_
      exact s_ireti (pc := 24) dX12_feed_24 rfl H
  · replace H := H.2 c5
    refine j_if_ne (pc := 8) (t := 13) dX12_feed_8 (by decide) (fun q => absurd q (by decide)) (fun _ => ?_)
    refine j_iconst (pc := 11) (v := -1) dX12_feed_11 (by decide) ?_
    exact s_ireti (pc := 12) dX12_feed_12 rfl H
set_option maxRecDepth 20000 in
theorem b_X12_look_0 {l : Launch} {g : am_G} {d : Nat} {σ : am_S} {k : Int32 → am_S → Prop}   (H : ((rg σ 3539 ≤ rg σ 3540 → k (-1) σ) ∧ (¬ rg σ 3539 ≤ rg σ 3540 → (vp_in (rg σ 3540) 120 ∧ k (ar σ 65 ((rg σ 3540).toNatClampNeg)) σ)))) : CI l g M_X12_look d [.ref 55] σ k := by
  show J l g (M_X12_look, d, 0, 0) 0 [(0, .ref 55)] [] (hp σ) 0 0 (kI k)
  refine j_aload_n (pc := 0) dX12_look_0 rfl ?_
  refine s_geti (pc := 1) 3540 (rg σ 3540) dX12_look_1 fl_X12_178 shp_55 rfl rfl rfl ?_
  refine j_aload_n (pc := 4) dX12_look_4 rfl ?_
  refine s_geti (pc := 5) 3539 (rg σ 3539) dX12_look_5 fl_X12_175 shp_55 rfl rfl rfl ?_
  refine j_icmp_ge (pc := 8) (t := 23) dX12_look_8 (by decide) (fun c8 => ?_) (fun c8 => ?_)
  · replace H := H.1 c8
    refine j_iconst (pc := 23) (v := -1) dX12_look_23 (by decide) ?_
    exact s_ireti (pc := 24) dX12_look_24 rfl H
  · replace H := H.2 c8
    refine j_aload_n (pc := 11) dX12_look_11 rfl ?_
    refine s_getr (pc := 12) dX12_look_12 fl_X12_44 shp_55 rfl ?_
    refine j_aload_n (pc := 15) dX12_look_15 rfl ?_
    refine s_geti (pc := 16) 3540 (rg σ 3540) dX12_look_16 fl_X12_178 shp_55 rfl rfl rfl ?_
    have b19 := H.1
    replace H := H.2
    refine s_bald (pc := 19) (ar σ 65 ((rg σ 3540).toNatClampNeg)) dX12_look_19 shp_65 b19 rfl ?_
    refine j_goto (pc := 20) (t := 24) dX12_look_20 (by decide) ?_
    exact s_ireti (pc := 24) dX12_look_24 rfl H
set_option maxRecDepth 20000 in
theorem b_X12_faulty_0 {l : Launch} {g : am_G} {d : Nat} {σ : am_S} {k : am_S → Prop}   (H : ((0 ≤ rg σ 3541 → k σ) ∧ (¬ 0 ≤ rg σ 3541 → k (sR σ 3541 (rg σ 3540))))) : CV l g M_X12_faulty d [.ref 55] σ k := by
  show J l g (M_X12_faulty, d, 0, 0) 0 [(0, .ref 55)] [] (hp σ) 0 0 (kV k)
  refine j_aload_n (pc := 0) dX12_faulty_0 rfl ?_
  refine s_geti (pc := 1) 3541 (rg σ 3541) dX12_faulty_1 fl_X12_181 shp_55 rfl rfl rfl ?_
  refine j_if_ge (pc := 4) (t := 15) dX12_faulty_4 (by decide) (fun c4 => ?_) (fun c4 => ?_)
  · replace H := H.1 c4
    exact s_vret (pc := 15) dX12_faulty_15 rfl H
  · replace H := H.2 c4
    refine j_aload_n (pc := 7) dX12_faulty_7 rfl ?_
    refine j_aload_n (pc := 8) dX12_faulty_8 rfl ?_
    refine s_geti (pc := 9) 3540 (rg σ 3540) dX12_faulty_9 fl_X12_178 shp_55 rfl rfl rfl ?_
    refine s_put (pc := 12) 3541 dX12_faulty_12 fl_X12_181 shp_55 rfl rfl fp_12_21 rfl rfl ?_
    exact s_vret (pc := 15) dX12_faulty_15 rfl H
set_option maxRecDepth 20000 in
theorem b_X12_addStep_0 {l : Launch} {g : am_G} {d : Nat} {σ : am_S} {k : am_S → Prop}  {x1 x2 : Int32} (H : (vp_in (130 + (rg σ 3543)) 260 ∧ (vp_in (130 + (rg σ 3543)) 260 ∧ k (sR (sA (sA σ 66 ((130 + (rg σ 3543)).toNatClampNeg) (vp_nar .byte x1.toInt8.toInt32)) 67 ((130 + (rg σ 3543)).toNatClampNeg) x2) 3543 ((rg σ 3543) + 1))))) : CV l g M_X12_addStep d [.ref 55, .int x1, .int x2] σ k := by
  show J l g (M_X12_addStep, d, 0, 0) 0 [(0, .ref 55), (1, .int x1), (2, .int x2)] [] (hp σ) 0 0 (kV k)
  refine j_aload_n (pc := 0) dX12_addStep_0 rfl ?_
  refine s_getr (pc := 1) dX12_addStep_1 fl_X12_48 shp_55 rfl ?_
  refine j_sipush (pc := 4) (v := 130) dX12_addStep_4 (by decide) ?_
  refine j_aload_n (pc := 7) dX12_addStep_7 rfl ?_
  refine s_geti (pc := 8) 3543 (rg σ 3543) dX12_addStep_8 fl_X12_184 shp_55 rfl rfl rfl ?_
  refine j_iadd (pc := 11) dX12_addStep_11 ?_
  refine j_iload_n (pc := 12) dX12_addStep_12 rfl ?_
  refine j_i2b (pc := 13) dX12_addStep_13 ?_
  have b14 := H.1
  replace H := H.2
  refine s_bast (pc := 14) dX12_addStep_14 shp_66 b14 ?_
  refine j_aload_n (pc := 15) dX12_addStep_15 rfl ?_
  refine s_getr (pc := 16) dX12_addStep_16 fl_X12_51 shp_55 rfl ?_
  refine j_sipush (pc := 19) (v := 130) dX12_addStep_19 (by decide) ?_
  refine j_aload_n (pc := 22) dX12_addStep_22 rfl ?_
  refine s_geti (pc := 23) 3543 (rg σ 3543) dX12_addStep_23 fl_X12_184 shp_55 rfl rfl rfl ?_
  refine j_iadd (pc := 26) dX12_addStep_26 ?_
  refine j_iload_n (pc := 27) dX12_addStep_27 rfl ?_
  have b28 := H.1
  replace H := H.2
  refine s_iast (pc := 28) dX12_addStep_28 shp_67 b28 ?_
  refine j_aload_n (pc := 29) dX12_addStep_29 rfl ?_
  refine j_dup (pc := 30) dX12_addStep_30 rfl ?_
  refine s_geti (pc := 31) 3543 (rg σ 3543) dX12_addStep_31 fl_X12_184 shp_55 rfl rfl rfl ?_
  refine j_iconst (pc := 34) (v := 1) dX12_addStep_34 (by decide) ?_
  refine j_iadd (pc := 35) dX12_addStep_35 ?_
  refine s_put (pc := 36) 3543 dX12_addStep_36 fl_X12_184 shp_55 rfl rfl fp_12_23 rfl rfl ?_
  exact s_vret (pc := 39) dX12_addStep_39 rfl H
set_option maxRecDepth 20000 in
theorem b_X12_nameOf_0 {l : Launch} {g : am_G} {d : Nat} {σ : am_S} {k : Int32 → am_S → Prop}  {x0 : Int32} (H : (((x0.toInt < 97 ∨ 107 < x0.toInt) → k (-1) σ) ∧ (x0 = 97 → k 0 σ) ∧ (x0 = 98 → k 1 σ) ∧ (x0 = 99 → k (-1) σ) ∧ (x0 = 100 → k 2 σ) ∧ (x0 = 101 → k (-1) σ) ∧ (x0 = 102 → k (-1) σ) ∧ (x0 = 103 → k (-1) σ) ∧ (x0 = 104 → k (-1) σ) ∧ (x0 = 105 → k 4 σ) ∧ (x0 = 106 → k 5 σ) ∧ (x0 = 107 → k 3 σ))) : CI l g M_X12_nameOf d [.int x0] σ k := by
  show J l g (M_X12_nameOf, d, 0, 0) 0 [(0, .int x0)] [] (hp σ) 0 0 (kI k)
  refine j_iload_n (pc := 0) dX12_nameOf_0 rfl ?_
  rcases sw_cases x0 97 107 with c1 | c1
  · replace H := H.1 c1
    refine j_tableOut (pc := 1) (t := 72) dX12_nameOf_1 c1 (by decide) ?_
    refine j_iconst (pc := 72) (v := -1) dX12_nameOf_72 (by decide) ?_
    exact s_ireti (pc := 73) dX12_nameOf_73 rfl H
  · replace H := H.2
    by_cases c1_0 : x0 = 97
    · replace H := H.1 c1_0
      refine j_tableIn (pc := 1) (t := 60) (off := 59) dX12_nameOf_1 (by rw [c1_0]; decide) (by rw [c1_0]; decide) (by rw [c1_0]; rfl) (by decide) ?_
      refine j_iconst (pc := 60) (v := 0) dX12_nameOf_60 (by decide) ?_
      exact s_ireti (pc := 61) dX12_nameOf_61 rfl H
    by_cases c1_1 : x0 = 98
    · replace H := H.2.1 c1_1
      refine j_tableIn (pc := 1) (t := 62) (off := 61) dX12_nameOf_1 (by rw [c1_1]; decide) (by rw [c1_1]; decide) (by rw [c1_1]; rfl) (by decide) ?_
      refine j_iconst (pc := 62) (v := 1) dX12_nameOf_62 (by decide) ?_
      exact s_ireti (pc := 63) dX12_nameOf_63 rfl H
    by_cases c1_2 : x0 = 99
    · replace H := H.2.2.1 c1_2
      refine j_tableIn (pc := 1) (t := 72) (off := 71) dX12_nameOf_1 (by rw [c1_2]; decide) (by rw [c1_2]; decide) (by rw [c1_2]; rfl) (by decide) ?_
      refine j_iconst (pc := 72) (v := -1) dX12_nameOf_72 (by decide) ?_
      exact s_ireti (pc := 73) dX12_nameOf_73 rfl H
    by_cases c1_3 : x0 = 100
    · replace H := H.2.2.2.1 c1_3
      refine j_tableIn (pc := 1) (t := 64) (off := 63) dX12_nameOf_1 (by rw [c1_3]; decide) (by rw [c1_3]; decide) (by rw [c1_3]; rfl) (by decide) ?_
      refine j_iconst (pc := 64) (v := 2) dX12_nameOf_64 (by decide) ?_
      exact s_ireti (pc := 65) dX12_nameOf_65 rfl H
    by_cases c1_4 : x0 = 101
    · replace H := H.2.2.2.2.1 c1_4
      refine j_tableIn (pc := 1) (t := 72) (off := 71) dX12_nameOf_1 (by rw [c1_4]; decide) (by rw [c1_4]; decide) (by rw [c1_4]; rfl) (by decide) ?_
      refine j_iconst (pc := 72) (v := -1) dX12_nameOf_72 (by decide) ?_
      exact s_ireti (pc := 73) dX12_nameOf_73 rfl H
    by_cases c1_5 : x0 = 102
    · replace H := H.2.2.2.2.2.1 c1_5
      refine j_tableIn (pc := 1) (t := 72) (off := 71) dX12_nameOf_1 (by rw [c1_5]; decide) (by rw [c1_5]; decide) (by rw [c1_5]; rfl) (by decide) ?_
      refine j_iconst (pc := 72) (v := -1) dX12_nameOf_72 (by decide) ?_
      exact s_ireti (pc := 73) dX12_nameOf_73 rfl H
    by_cases c1_6 : x0 = 103
    · replace H := H.2.2.2.2.2.2.1 c1_6
      refine j_tableIn (pc := 1) (t := 72) (off := 71) dX12_nameOf_1 (by rw [c1_6]; decide) (by rw [c1_6]; decide) (by rw [c1_6]; rfl) (by decide) ?_
      refine j_iconst (pc := 72) (v := -1) dX12_nameOf_72 (by decide) ?_
      exact s_ireti (pc := 73) dX12_nameOf_73 rfl H
    by_cases c1_7 : x0 = 104
    · replace H := H.2.2.2.2.2.2.2.1 c1_7
      refine j_tableIn (pc := 1) (t := 72) (off := 71) dX12_nameOf_1 (by rw [c1_7]; decide) (by rw [c1_7]; decide) (by rw [c1_7]; rfl) (by decide) ?_
      refine j_iconst (pc := 72) (v := -1) dX12_nameOf_72 (by decide) ?_
      exact s_ireti (pc := 73) dX12_nameOf_73 rfl H
    by_cases c1_8 : x0 = 105
    · replace H := H.2.2.2.2.2.2.2.2.1 c1_8
      refine j_tableIn (pc := 1) (t := 68) (off := 67) dX12_nameOf_1 (by rw [c1_8]; decide) (by rw [c1_8]; decide) (by rw [c1_8]; rfl) (by decide) ?_
      refine j_iconst (pc := 68) (v := 4) dX12_nameOf_68 (by decide) ?_
      exact s_ireti (pc := 69) dX12_nameOf_69 rfl H
    by_cases c1_9 : x0 = 106
    · replace H := H.2.2.2.2.2.2.2.2.2.1 c1_9
      refine j_tableIn (pc := 1) (t := 70) (off := 69) dX12_nameOf_1 (by rw [c1_9]; decide) (by rw [c1_9]; decide) (by rw [c1_9]; rfl) (by decide) ?_
      refine j_iconst (pc := 70) (v := 5) dX12_nameOf_70 (by decide) ?_
      exact s_ireti (pc := 71) dX12_nameOf_71 rfl H
    by_cases c1_10 : x0 = 107
    · replace H := H.2.2.2.2.2.2.2.2.2.2 c1_10
      refine j_tableIn (pc := 1) (t := 66) (off := 65) dX12_nameOf_1 (by rw [c1_10]; decide) (by rw [c1_10]; decide) (by rw [c1_10]; rfl) (by decide) ?_
      refine j_iconst (pc := 66) (v := 3) dX12_nameOf_66 (by decide) ?_
      exact s_ireti (pc := 67) dX12_nameOf_67 rfl H
    exact (sw_end_97_107 c1 c1_0 c1_1 c1_2 c1_3 c1_4 c1_5 c1_6 c1_7 c1_8 c1_9 c1_10).elim
set_option maxRecDepth 20000 in
theorem b_X12_opens_0 {l : Launch} {g : am_G} {d : Nat} {σ : am_S} {k : Int32 → am_S → Prop}   (hd : 1 ≤ d) (H : ((¬ rg σ 3542 = 6 → k 1 (sR (sR σ 3542 ((rg σ 3542) + 1)) 3540 ((rg σ 3540) + 1))) ∧ (rg σ 3542 = 6 → CV l g M_X12_faulty (d - 1) [.ref 55] σ (fun σ1 => k 0 σ1)))) : CI l g M_X12_opens d [.ref 55] σ k := by
  show J l g (M_X12_opens, d, 0, 0) 0 [(0, .ref 55)] [] (hp σ) 0 0 (kI k)
  refine j_aload_n (pc := 0) dX12_opens_0 rfl ?_
  refine s_geti (pc := 1) 3542 (rg σ 3542) dX12_opens_1 fl_X12_187 shp_55 rfl rfl rfl ?_
  refine j_bipush (pc := 4) (v := 6) dX12_opens_4 (by decide) ?_
  refine j_icmp_ne (pc := 6) (t := 15) dX12_opens_6 (by decide) (fun c6 => ?_) (fun c6 => ?_)
  · replace H := H.1 c6
    refine j_aload_n (pc := 15) dX12_opens_15 rfl ?_
    refine j_dup (pc := 16) dX12_opens_16 rfl ?_
    refine s_geti (pc := 17) 3542 (rg σ 3542) dX12_opens_17 fl_X12_187 shp_55 rfl rfl rfl ?_
    refine j_iconst (pc := 20) (v := 1) dX12_opens_20 (by decide) ?_
    refine j_iadd (pc := 21) dX12_opens_21 ?_
    refine s_put (pc := 22) 3542 dX12_opens_22 fl_X12_187 shp_55 rfl rfl fp_12_22 rfl rfl ?_
    refine j_aload_n (pc := 25) dX12_opens_25 rfl ?_
    refine j_dup (pc := 26) dX12_opens_26 rfl ?_
    refine s_geti (pc := 27) 3540 (rg σ 3540) dX12_opens_27 fl_X12_178 shp_55 rfl rfl rfl ?_
    refine j_iconst (pc := 30) (v := 1) dX12_opens_30 (by decide) ?_
    refine j_iadd (pc := 31) dX12_opens_31 ?_
    refine s_put (pc := 32) 3540 dX12_opens_32 fl_X12_178 shp_55 rfl rfl fp_12_20 rfl rfl ?_
    refine j_iconst (pc := 35) (v := 1) dX12_opens_35 (by decide) ?_
    exact s_iretz (pc := 36) dX12_opens_36 rfl rfl H
  · replace H := H.2 c6
    refine j_aload_n (pc := 9) dX12_opens_9 rfl ?_
    refine s_callV_v (pc := 10) (M1 := M_X12_faulty) (n := 0) (as := []) (a := 55) (st := []) dX12_opens_10 G_X12_faulty wm_X12_190 (by decide +kernel) rfl (Nat.le_of_ble_eq_true rfl) shp_55 rfl (by show 1 ≤ d; omega) (Nat.le_of_ble_eq_true rfl) (Nat.zero_le _) (Nat.zero_le _) ?_
    refine CV.mono H (fun σ1 H => ?_)
    refine j_iconst (pc := 13) (v := 0) dX12_opens_13 (by decide) ?_
    exact s_iretz (pc := 14) dX12_opens_14 rfl rfl H
set_option maxRecDepth 20000 in
theorem b_X12_figure_0 {l : Launch} {g : am_G} {d : Nat} {σ : am_S} {k : am_S → Prop}   (H : JV l g M_X12_figure d 4 [(0, .ref 55), (1, .int 0), (2, .int 0)] [] σ k) : CV l g M_X12_figure d [.ref 55] σ k := by
  show J l g (M_X12_figure, d, 0, 0) 0 [(0, .ref 55)] [] (hp σ) 0 0 (kV k)
  refine j_iconst (pc := 0) (v := 0) dX12_figure_0 (by decide) ?_
  refine j_istore_n (pc := 1) (lv1 := [(1, .int 0), (0, .ref 55)]) dX12_figure_1 (Nat.le_of_ble_eq_true rfl) rfl ?_
  refine j_iconst (pc := 2) (v := 0) dX12_figure_2 (by decide) ?_
  refine j_istore_n (pc := 3) (lv1 := [(2, .int 0), (1, .int 0), (0, .ref 55)]) dX12_figure_3 (Nat.le_of_ble_eq_true rfl) rfl ?_
  refine j_sub [2, 1, 0] rfl ?_
  exact H
set_option maxRecDepth 20000 in
theorem b_X12_figure_4 {l : Launch} {g : am_G} {d : Nat} {σ : am_S} {k : am_S → Prop}  {x1 x2 : Int32} (hd : 1 ≤ d) (H : ((4 ≤ x2 → ((x2 = 0 → CV l g M_X12_faulty (d - 1) [.ref 55] σ (fun σ1 => CV l g M_X12_addStep (d - 1) [.ref 55, .int 1, .int x1] σ1 (fun σ2 => k σ2))) ∧ (¬ x2 = 0 → CI l g M_X12_look (d - 1) [.ref 55] σ (fun r3 σ3 => (((¬ r3 < 48 ∧ ¬ 57 < r3) → CV l g M_X12_faulty (d - 1) [.ref 55] σ3 (fun σ5 => CV l g M_X12_addStep (d - 1) [.ref 55, .int 1, .int x1] σ5 (fun σ6 => k σ6))) ∧ (¬ (¬ r3 < 48 ∧ ¬ 57 < r3) → CV l g M_X12_addStep (d - 1) [.ref 55, .int 1, .int x1] σ3 (fun σ7 => k σ7))))))) ∧ (¬ 4 ≤ x2 → CI l g M_X12_look (d - 1) [.ref 55] σ (fun r8 σ8 => (((¬ r8 < 48 ∧ ¬ 57 < r8) → CI l g M_X12_look (d - 1) [.ref 55] σ8 (fun r10 σ10 => JV l g M_X12_figure d 4 [(0, .ref 55), (1, .int (((10 * x1) + r10) - 48)), (2, .int (x2 + 1))] [] (sR σ10 3540 ((rg σ10 3540) + 1)) k)) ∧ (¬ (¬ r8 < 48 ∧ ¬ 57 < r8) → ((x2 = 0 → CV l g M_X12_faulty (d - 1) [.ref 55] σ8 (fun σ11 => CV l g M_X12_addStep (d - 1) [.ref 55, .int 1, .int x1] σ11 (fun σ12 => k σ12))) ∧ (¬ x2 = 0 → CI l g M_X12_look (d - 1) [.ref 55] σ8 (fun r13 σ13 => (((¬ r13 < 48 ∧ ¬ 57 < r13) → CV l g M_X12_faulty (d - 1) [.ref 55] σ13 (fun σ15 => CV l g M_X12_addStep (d - 1) [.ref 55, .int 1, .int x1] σ15 (fun σ16 => k σ16))) ∧ (¬ (¬ r13 < 48 ∧ ¬ 57 < r13) → CV l g M_X12_addStep (d - 1) [.ref 55, .int 1, .int x1] σ13 (fun σ17 => k σ17)))))))))))) : JV l g M_X12_figure d 4 [(0, .ref 55), (1, .int x1), (2, .int x2)] [] σ k := by
  show J l g (M_X12_figure, d, 0, 0) 4 [(0, .ref 55), (1, .int x1), (2, .int x2)] [] (hp σ) 0 0 (kV k)
  refine j_iload_n (pc := 4) dX12_figure_4 rfl ?_
  refine j_iconst (pc := 5) (v := 4) dX12_figure_5 (by decide) ?_
  refine j_icmp_ge (pc := 6) (t := 52) dX12_figure_6 (by decide) (fun c6 => ?_) (fun c6 => ?_)
  · replace H := H.1 c6
    refine j_iload_n (pc := 52) dX12_figure_52 rfl ?_
    refine j_if_eq (pc := 53) (t := 70) dX12_figure_53 (by decide) (fun c53 => ?_) (fun c53 => ?_)
    · replace H := H.1 c53
      refine j_aload_n (pc := 70) dX12_figure_70 rfl ?_
      refine s_callV_v (pc := 71) (M1 := M_X12_faulty) (n := 0) (as := []) (a := 55) (st := []) dX12_figure_71 G_X12_faulty wm_X12_190 (by decide +kernel) rfl (Nat.le_of_ble_eq_true rfl) shp_55 rfl (by show 1 ≤ d; omega) (Nat.le_of_ble_eq_true rfl) (Nat.zero_le _) (Nat.zero_le _) ?_
      refine CV.mono H (fun σ1 H => ?_)
      refine j_aload_n (pc := 74) dX12_figure_74 rfl ?_
      refine j_iconst (pc := 75) (v := 1) dX12_figure_75 (by decide) ?_
      refine j_iload_n (pc := 76) dX12_figure_76 rfl ?_
      refine s_callV_v (pc := 77) (M1 := M_X12_addStep) (n := 2) (as := [.int 1, .int x1]) (a := 55) (st := []) dX12_figure_77 G_X12_addStep wm_X12_197 (by decide +kernel) rfl (Nat.le_of_ble_eq_true rfl) shp_55 rfl (by show 1 ≤ d; omega) (Nat.le_of_ble_eq_true rfl) (Nat.zero_le _) (Nat.zero_le _) ?_
      refine CV.mono H (fun σ2 H => ?_)
      exact s_vret (pc := 80) dX12_figure_80 rfl H
    · replace H := H.2 c53
      refine j_aload_n (pc := 56) dX12_figure_56 rfl ?_
      refine s_callV_i (pc := 57) (M1 := M_X12_look) (n := 0) (as := []) (a := 55) (st := []) dX12_figure_57 G_X12_look wm_X12_193 (by decide +kernel) rfl (Nat.le_of_ble_eq_true rfl) shp_55 rfl (by show 1 ≤ d; omega) (Nat.le_of_ble_eq_true rfl) (Nat.zero_le _) (Nat.zero_le _) ?_
      refine CI.mono H (fun r3 σ3 H => ?_)
      refine j_bipush (pc := 60) (v := 48) dX12_figure_60 (by decide) ?_
      refine j_bipush (pc := 62) (v := 57) dX12_figure_62 (by decide) ?_
      refine s_callS_i (pc := 64) (M1 := M_X12_in) (n := 3) (as := [.int r3, .int 48, .int 57]) (st := []) dX12_figure_64 G_X12_in wm_X12_114 (by decide +kernel) rfl (Nat.le_of_ble_eq_true rfl) (by show 1 ≤ d; omega) (Nat.le_of_ble_eq_true rfl) ?_
      refine C_X12_in (d := d - 1) (by omega) ⟨fun c64 => ?_, fun c64 => ?_⟩
      · replace H := H.1 c64
        refine j_if_eq (pc := 67) (t := 74) dX12_figure_67 (by decide) (fun q => absurd q (by decide)) (fun _ => ?_)
        refine j_aload_n (pc := 70) dX12_figure_70 rfl ?_
        refine s_callV_v (pc := 71) (M1 := M_X12_faulty) (n := 0) (as := []) (a := 55) (st := []) dX12_figure_71 G_X12_faulty wm_X12_190 (by decide +kernel) rfl (Nat.le_of_ble_eq_true rfl) shp_55 rfl (by show 1 ≤ d; omega) (Nat.le_of_ble_eq_true rfl) (Nat.zero_le _) (Nat.zero_le _) ?_
        refine CV.mono H (fun σ5 H => ?_)
        refine j_aload_n (pc := 74) dX12_figure_74 rfl ?_
        refine j_iconst (pc := 75) (v := 1) dX12_figure_75 (by decide) ?_
        refine j_iload_n (pc := 76) dX12_figure_76 rfl ?_
        refine s_callV_v (pc := 77) (M1 := M_X12_addStep) (n := 2) (as := [.int 1, .int x1]) (a := 55) (st := []) dX12_figure_77 G_X12_addStep wm_X12_197 (by decide +kernel) rfl (Nat.le_of_ble_eq_true rfl) shp_55 rfl (by show 1 ≤ d; omega) (Nat.le_of_ble_eq_true rfl) (Nat.zero_le _) (Nat.zero_le _) ?_
        refine CV.mono H (fun σ6 H => ?_)
        exact s_vret (pc := 80) dX12_figure_80 rfl H
      · replace H := H.2 c64
        refine j_if_eq (pc := 67) (t := 74) dX12_figure_67 (by decide) (fun _ => ?_) (fun q => absurd q (by decide))
        refine j_aload_n (pc := 74) dX12_figure_74 rfl ?_
        refine j_iconst (pc := 75) (v := 1) dX12_figure_75 (by decide) ?_
        refine j_iload_n (pc := 76) dX12_figure_76 rfl ?_
        refine s_callV_v (pc := 77) (M1 := M_X12_addStep) (n := 2) (as := [.int 1, .int x1]) (a := 55) (st := []) dX12_figure_77 G_X12_addStep wm_X12_197 (by decide +kernel) rfl (Nat.le_of_ble_eq_true rfl) shp_55 rfl (by show 1 ≤ d; omega) (Nat.le_of_ble_eq_true rfl) (Nat.zero_le _) (Nat.zero_le _) ?_
        refine CV.mono H (fun σ7 H => ?_)
        exact s_vret (pc := 80) dX12_figure_80 rfl H
  · replace H := H.2 c6
    refine j_aload_n (pc := 9) dX12_figure_9 rfl ?_
    refine s_callV_i (pc := 10) (M1 := M_X12_look) (n := 0) (as := []) (a := 55) (st := []) dX12_figure_10 G_X12_look wm_X12_193 (by decide +kernel) rfl (Nat.le_of_ble_eq_true rfl) shp_55 rfl (by show 1 ≤ d; omega) (Nat.le_of_ble_eq_true rfl) (Nat.zero_le _) (Nat.zero_le _) ?_
    refine CI.mono H (fun r8 σ8 H => ?_)
    refine j_bipush (pc := 13) (v := 48) dX12_figure_13 (by decide) ?_
    refine j_bipush (pc := 15) (v := 57) dX12_figure_15 (by decide) ?_
    refine s_callS_i (pc := 17) (M1 := M_X12_in) (n := 3) (as := [.int r8, .int 48, .int 57]) (st := []) dX12_figure_17 G_X12_in wm_X12_114 (by decide +kernel) rfl (Nat.le_of_ble_eq_true rfl) (by show 1 ≤ d; omega) (Nat.le_of_ble_eq_true rfl) ?_
    refine C_X12_in (d := d - 1) (by omega) ⟨fun c17 => ?_, fun c17 => ?_⟩
    · replace H := H.1 c17
      refine j_if_eq (pc := 20) (t := 52) dX12_figure_20 (by decide) (fun q => absurd q (by decide)) (fun _ => ?_)
      refine j_bipush (pc := 23) (v := 10) dX12_figure_23 (by decide) ?_
      refine j_iload_n (pc := 25) dX12_figure_25 rfl ?_
      refine j_imul (pc := 26) dX12_figure_26 ?_
      refine j_aload_n (pc := 27) dX12_figure_27 rfl ?_
      refine s_callV_i (pc := 28) (M1 := M_X12_look) (n := 0) (as := []) (a := 55) (st := [.int (10 * x1)]) dX12_figure_28 G_X12_look wm_X12_193 (by decide +kernel) rfl (Nat.le_of_ble_eq_true rfl) shp_55 rfl (by show 1 ≤ d; omega) (Nat.le_of_ble_eq_true rfl) (Nat.zero_le _) (Nat.zero_le _) ?_
      refine CI.mono H (fun r10 σ10 H => ?_)
      refine j_iadd (pc := 31) dX12_figure_31 ?_
      refine j_bipush (pc := 32) (v := 48) dX12_figure_32 (by decide) ?_
      refine j_isub (pc := 34) dX12_figure_34 ?_
      refine j_istore_n (pc := 35) (lv1 := [(1, .int (((10 * x1) + r10) - 48)), (0, .ref 55), (2, .int x2)]) dX12_figure_35 (Nat.le_of_ble_eq_true rfl) rfl ?_
      refine j_iinc (pc := 36) (k := 2) (v := x2 + 1) (lv1 := [(2, .int (x2 + 1)), (1, .int (((10 * x1) + r10) - 48)), (0, .ref 55)]) dX12_figure_36 rfl rfl (Nat.le_of_ble_eq_true rfl) rfl ?_
      refine j_aload_n (pc := 39) dX12_figure_39 rfl ?_
      refine j_dup (pc := 40) dX12_figure_40 rfl ?_
      refine s_geti (pc := 41) 3540 (rg σ10 3540) dX12_figure_41 fl_X12_178 shp_55 rfl rfl rfl ?_
      refine j_iconst (pc := 44) (v := 1) dX12_figure_44 (by decide) ?_
      refine j_iadd (pc := 45) dX12_figure_45 ?_
      refine s_put (pc := 46) 3540 dX12_figure_46 fl_X12_178 shp_55 rfl rfl fp_12_20 rfl rfl ?_
      refine j_goto (pc := 49) (t := 4) dX12_figure_49 (by decide) ?_
      refine j_sub [2, 1, 0] rfl ?_
      exact H
    · replace H := H.2 c17
      refine j_if_eq (pc := 20) (t := 52) dX12_figure_20 (by decide) (fun _ => ?_) (fun q => absurd q (by decide))
      refine j_iload_n (pc := 52) dX12_figure_52 rfl ?_
      refine j_if_eq (pc := 53) (t := 70) dX12_figure_53 (by decide) (fun c53 => ?_) (fun c53 => ?_)
      · replace H := H.1 c53
        refine j_aload_n (pc := 70) dX12_figure_70 rfl ?_
        refine s_callV_v (pc := 71) (M1 := M_X12_faulty) (n := 0) (as := []) (a := 55) (st := []) dX12_figure_71 G_X12_faulty wm_X12_190 (by decide +kernel) rfl (Nat.le_of_ble_eq_true rfl) shp_55 rfl (by show 1 ≤ d; omega) (Nat.le_of_ble_eq_true rfl) (Nat.zero_le _) (Nat.zero_le _) ?_
        refine CV.mono H (fun σ11 H => ?_)
        refine j_aload_n (pc := 74) dX12_figure_74 rfl ?_
        refine j_iconst (pc := 75) (v := 1) dX12_figure_75 (by decide) ?_
        refine j_iload_n (pc := 76) dX12_figure_76 rfl ?_
        refine s_callV_v (pc := 77) (M1 := M_X12_addStep) (n := 2) (as := [.int 1, .int x1]) (a := 55) (st := []) dX12_figure_77 G_X12_addStep wm_X12_197 (by decide +kernel) rfl (Nat.le_of_ble_eq_true rfl) shp_55 rfl (by show 1 ≤ d; omega) (Nat.le_of_ble_eq_true rfl) (Nat.zero_le _) (Nat.zero_le _) ?_
        refine CV.mono H (fun σ12 H => ?_)
        exact s_vret (pc := 80) dX12_figure_80 rfl H
      · replace H := H.2 c53
        refine j_aload_n (pc := 56) dX12_figure_56 rfl ?_
        refine s_callV_i (pc := 57) (M1 := M_X12_look) (n := 0) (as := []) (a := 55) (st := []) dX12_figure_57 G_X12_look wm_X12_193 (by decide +kernel) rfl (Nat.le_of_ble_eq_true rfl) shp_55 rfl (by show 1 ≤ d; omega) (Nat.le_of_ble_eq_true rfl) (Nat.zero_le _) (Nat.zero_le _) ?_
        refine CI.mono H (fun r13 σ13 H => ?_)
        refine j_bipush (pc := 60) (v := 48) dX12_figure_60 (by decide) ?_
        refine j_bipush (pc := 62) (v := 57) dX12_figure_62 (by decide) ?_
        refine s_callS_i (pc := 64) (M1 := M_X12_in) (n := 3) (as := [.int r13, .int 48, .int 57]) (st := []) dX12_figure_64 G_X12_in wm_X12_114 (by decide +kernel) rfl (Nat.le_of_ble_eq_true rfl) (by show 1 ≤ d; omega) (Nat.le_of_ble_eq_true rfl) ?_
        refine C_X12_in (d := d - 1) (by omega) ⟨fun c64 => ?_, fun c64 => ?_⟩
        · replace H := H.1 c64
          refine j_if_eq (pc := 67) (t := 74) dX12_figure_67 (by decide) (fun q => absurd q (by decide)) (fun _ => ?_)
          refine j_aload_n (pc := 70) dX12_figure_70 rfl ?_
          refine s_callV_v (pc := 71) (M1 := M_X12_faulty) (n := 0) (as := []) (a := 55) (st := []) dX12_figure_71 G_X12_faulty wm_X12_190 (by decide +kernel) rfl (Nat.le_of_ble_eq_true rfl) shp_55 rfl (by show 1 ≤ d; omega) (Nat.le_of_ble_eq_true rfl) (Nat.zero_le _) (Nat.zero_le _) ?_
          refine CV.mono H (fun σ15 H => ?_)
          refine j_aload_n (pc := 74) dX12_figure_74 rfl ?_
          refine j_iconst (pc := 75) (v := 1) dX12_figure_75 (by decide) ?_
          refine j_iload_n (pc := 76) dX12_figure_76 rfl ?_
          refine s_callV_v (pc := 77) (M1 := M_X12_addStep) (n := 2) (as := [.int 1, .int x1]) (a := 55) (st := []) dX12_figure_77 G_X12_addStep wm_X12_197 (by decide +kernel) rfl (Nat.le_of_ble_eq_true rfl) shp_55 rfl (by show 1 ≤ d; omega) (Nat.le_of_ble_eq_true rfl) (Nat.zero_le _) (Nat.zero_le _) ?_
          refine CV.mono H (fun σ16 H => ?_)
          exact s_vret (pc := 80) dX12_figure_80 rfl H
        · replace H := H.2 c64
          refine j_if_eq (pc := 67) (t := 74) dX12_figure_67 (by decide) (fun _ => ?_) (fun q => absurd q (by decide))
          refine j_aload_n (pc := 74) dX12_figure_74 rfl ?_
          refine j_iconst (pc := 75) (v := 1) dX12_figure_75 (by decide) ?_
          refine j_iload_n (pc := 76) dX12_figure_76 rfl ?_
          refine s_callV_v (pc := 77) (M1 := M_X12_addStep) (n := 2) (as := [.int 1, .int x1]) (a := 55) (st := []) dX12_figure_77 G_X12_addStep wm_X12_197 (by decide +kernel) rfl (Nat.le_of_ble_eq_true rfl) shp_55 rfl (by show 1 ≤ d; omega) (Nat.le_of_ble_eq_true rfl) (Nat.zero_le _) (Nat.zero_le _) ?_
          refine CV.mono H (fun σ17 H => ?_)
          exact s_vret (pc := 80) dX12_figure_80 rfl H
set_option maxRecDepth 20000 in
theorem b_X12_product_0 {l : Launch} {g : am_G} {d : Nat} {σ : am_S} {k : am_S → Prop}   (hd : 1 ≤ d) (H : CV l g M_X12_operand (d - 1) [.ref 55] σ (fun σ1 => JV l g M_X12_product d 4 [(0, .ref 55)] [] σ1 k)) : CV l g M_X12_product d [.ref 55] σ k := by
  show J l g (M_X12_product, d, 0, 0) 0 [(0, .ref 55)] [] (hp σ) 0 0 (kV k)
  refine j_aload_n (pc := 0) dX12_product_0 rfl ?_
  refine s_callV_v (pc := 1) (M1 := M_X12_operand) (n := 0) (as := []) (a := 55) (st := []) dX12_product_1 G_X12_operand wm_X12_208 (by decide +kernel) rfl (Nat.le_of_ble_eq_true rfl) shp_55 rfl (by show 1 ≤ d; omega) (Nat.le_of_ble_eq_true rfl) (Nat.zero_le _) (Nat.zero_le _) ?_
  refine CV.mono H (fun σ1 H => ?_)
  refine j_sub [0] rfl ?_
  exact H
set_option maxRecDepth 20000 in
theorem b_X12_product_4 {l : Launch} {g : am_G} {d : Nat} {σ : am_S} {k : am_S → Prop}   (hd : 1 ≤ d) (H : ((0 ≤ rg σ 3541 → k σ) ∧ (¬ 0 ≤ rg σ 3541 → CI l g M_X12_look (d - 1) [.ref 55] σ (fun r1 σ1 => ((r1 = 42 → CI l g M_X12_look (d - 1) [.ref 55] σ1 (fun r2 σ2 => CV l g M_X12_operand (d - 1) [.ref 55] (sR σ2 3540 ((rg σ2 3540) + 1)) (fun σ3 => CV l g M_X12_addStep (d - 1) [.ref 55, .int r2, .int 0] σ3 (fun σ4 => JV l g M_X12_product d 4 [(0, .ref 55)] [] σ4 k)))) ∧ (¬ r1 = 42 → CI l g M_X12_look (d - 1) [.ref 55] σ1 (fun r5 σ5 => ((r5 = 47 → CI l g M_X12_look (d - 1) [.ref 55] σ5 (fun r6 σ6 => CV l g M_X12_operand (d - 1) [.ref 55] (sR σ6 3540 ((rg σ6 3540) + 1)) (fun σ7 => CV l g M_X12_addStep (d - 1) [.ref 55, .int r6, .int 0] σ7 (fun σ8 => JV l g M_X12_product d 4 [(0, .ref 55)] [] σ8 k)))) ∧ (¬ r5 = 47 → CI l g M_X12_look (d - 1) [.ref 55] σ5 (fun r9 σ9 => ((¬ r9 = 37 → k σ9) ∧ (r9 = 37 → CI l g M_X12_look (d - 1) [.ref 55] σ9 (fun r10 σ10 => CV l g M_X12_operand (d - 1) [.ref 55] (sR σ10 3540 ((rg σ10 3540) + 1)) (fun σ11 => CV l g M_X12_addStep (d - 1) [.ref 55, .int r10, .int 0] σ11 (fun σ12 => JV l g M_X12_product d 4 [(0, .ref 55)] [] σ12 k))))))))))))))) : JV l g M_X12_product d 4 [(0, .ref 55)] [] σ k := by
  show J l g (M_X12_product, d, 0, 0) 4 [(0, .ref 55)] [] (hp σ) 0 0 (kV k)
  refine j_aload_n (pc := 4) dX12_product_4 rfl ?_
  refine s_geti (pc := 5) 3541 (rg σ 3541) dX12_product_5 fl_X12_181 shp_55 rfl rfl rfl ?_
  refine j_if_ge (pc := 8) (t := 66) dX12_product_8 (by decide) (fun c8 => ?_) (fun c8 => ?_)
  · replace H := H.1 c8
    exact s_vret (pc := 66) dX12_product_66 rfl H
  · replace H := H.2 c8
    refine j_aload_n (pc := 11) dX12_product_11 rfl ?_
    refine s_callV_i (pc := 12) (M1 := M_X12_look) (n := 0) (as := []) (a := 55) (st := []) dX12_product_12 G_X12_look wm_X12_193 (by decide +kernel) rfl (Nat.le_of_ble_eq_true rfl) shp_55 rfl (by show 1 ≤ d; omega) (Nat.le_of_ble_eq_true rfl) (Nat.zero_le _) (Nat.zero_le _) ?_
    refine CI.mono H (fun r1 σ1 H => ?_)
    refine j_bipush (pc := 15) (v := 42) dX12_product_15 (by decide) ?_
    refine j_icmp_eq (pc := 17) (t := 38) dX12_product_17 (by decide) (fun c17 => ?_) (fun c17 => ?_)
    · replace H := H.1 c17
      refine j_aload_n (pc := 38) dX12_product_38 rfl ?_
      refine s_callV_i (pc := 39) (M1 := M_X12_look) (n := 0) (as := []) (a := 55) (st := []) dX12_product_39 G_X12_look wm_X12_193 (by decide +kernel) rfl (Nat.le_of_ble_eq_true rfl) shp_55 rfl (by show 1 ≤ d; omega) (Nat.le_of_ble_eq_true rfl) (Nat.zero_le _) (Nat.zero_le _) ?_
      refine CI.mono H (fun r2 σ2 H => ?_)
      refine j_istore_n (pc := 42) (lv1 := [(1, .int r2), (0, .ref 55)]) dX12_product_42 (Nat.le_of_ble_eq_true rfl) rfl ?_
      refine j_aload_n (pc := 43) dX12_product_43 rfl ?_
      refine j_dup (pc := 44) dX12_product_44 rfl ?_
      refine s_geti (pc := 45) 3540 (rg σ2 3540) dX12_product_45 fl_X12_178 shp_55 rfl rfl rfl ?_
      refine j_iconst (pc := 48) (v := 1) dX12_product_48 (by decide) ?_
      refine j_iadd (pc := 49) dX12_product_49 ?_
      refine s_put (pc := 50) 3540 dX12_product_50 fl_X12_178 shp_55 rfl rfl fp_12_20 rfl rfl ?_
      refine j_aload_n (pc := 53) dX12_product_53 rfl ?_
      refine s_callV_v (pc := 54) (M1 := M_X12_operand) (n := 0) (as := []) (a := 55) (st := []) dX12_product_54 G_X12_operand wm_X12_208 (by decide +kernel) rfl (Nat.le_of_ble_eq_true rfl) shp_55 rfl (by show 1 ≤ d; omega) (Nat.le_of_ble_eq_true rfl) (Nat.zero_le _) (Nat.zero_le _) ?_
      refine CV.mono H (fun σ3 H => ?_)
      refine j_aload_n (pc := 57) dX12_product_57 rfl ?_
      refine j_iload_n (pc := 58) dX12_product_58 rfl ?_
      refine j_iconst (pc := 59) (v := 0) dX12_product_59 (by decide) ?_
      refine s_callV_v (pc := 60) (M1 := M_X12_addStep) (n := 2) (as := [.int r2, .int 0]) (a := 55) (st := []) dX12_product_60 G_X12_addStep wm_X12_197 (by decide +kernel) rfl (Nat.le_of_ble_eq_true rfl) shp_55 rfl (by show 1 ≤ d; omega) (Nat.le_of_ble_eq_true rfl) (Nat.zero_le _) (Nat.zero_le _) ?_
      refine CV.mono H (fun σ4 H => ?_)
      refine j_goto (pc := 63) (t := 4) dX12_product_63 (by decide) ?_
      refine j_sub [1] rfl ?_
      exact H
    · replace H := H.2 c17
      refine j_aload_n (pc := 20) dX12_product_20 rfl ?_
      refine s_callV_i (pc := 21) (M1 := M_X12_look) (n := 0) (as := []) (a := 55) (st := []) dX12_product_21 G_X12_look wm_X12_193 (by decide +kernel) rfl (Nat.le_of_ble_eq_true rfl) shp_55 rfl (by show 1 ≤ d; omega) (Nat.le_of_ble_eq_true rfl) (Nat.zero_le _) (Nat.zero_le _) ?_
      refine CI.mono H (fun r5 σ5 H => ?_)
      refine j_bipush (pc := 24) (v := 47) dX12_product_24 (by decide) ?_
      refine j_icmp_eq (pc := 26) (t := 38) dX12_product_26 (by decide) (fun c26 => ?_) (fun c26 => ?_)
      · replace H := H.1 c26
        refine j_aload_n (pc := 38) dX12_product_38 rfl ?_
        refine s_callV_i (pc := 39) (M1 := M_X12_look) (n := 0) (as := []) (a := 55) (st := []) dX12_product_39 G_X12_look wm_X12_193 (by decide +kernel) rfl (Nat.le_of_ble_eq_true rfl) shp_55 rfl (by show 1 ≤ d; omega) (Nat.le_of_ble_eq_true rfl) (Nat.zero_le _) (Nat.zero_le _) ?_
        refine CI.mono H (fun r6 σ6 H => ?_)
        refine j_istore_n (pc := 42) (lv1 := [(1, .int r6), (0, .ref 55)]) dX12_product_42 (Nat.le_of_ble_eq_true rfl) rfl ?_
        refine j_aload_n (pc := 43) dX12_product_43 rfl ?_
        refine j_dup (pc := 44) dX12_product_44 rfl ?_
        refine s_geti (pc := 45) 3540 (rg σ6 3540) dX12_product_45 fl_X12_178 shp_55 rfl rfl rfl ?_
        refine j_iconst (pc := 48) (v := 1) dX12_product_48 (by decide) ?_
        refine j_iadd (pc := 49) dX12_product_49 ?_
        refine s_put (pc := 50) 3540 dX12_product_50 fl_X12_178 shp_55 rfl rfl fp_12_20 rfl rfl ?_
        refine j_aload_n (pc := 53) dX12_product_53 rfl ?_
        refine s_callV_v (pc := 54) (M1 := M_X12_operand) (n := 0) (as := []) (a := 55) (st := []) dX12_product_54 G_X12_operand wm_X12_208 (by decide +kernel) rfl (Nat.le_of_ble_eq_true rfl) shp_55 rfl (by show 1 ≤ d; omega) (Nat.le_of_ble_eq_true rfl) (Nat.zero_le _) (Nat.zero_le _) ?_
        refine CV.mono H (fun σ7 H => ?_)
        refine j_aload_n (pc := 57) dX12_product_57 rfl ?_
        refine j_iload_n (pc := 58) dX12_product_58 rfl ?_
        refine j_iconst (pc := 59) (v := 0) dX12_product_59 (by decide) ?_
        refine s_callV_v (pc := 60) (M1 := M_X12_addStep) (n := 2) (as := [.int r6, .int 0]) (a := 55) (st := []) dX12_product_60 G_X12_addStep wm_X12_197 (by decide +kernel) rfl (Nat.le_of_ble_eq_true rfl) shp_55 rfl (by show 1 ≤ d; omega) (Nat.le_of_ble_eq_true rfl) (Nat.zero_le _) (Nat.zero_le _) ?_
        refine CV.mono H (fun σ8 H => ?_)
        refine j_goto (pc := 63) (t := 4) dX12_product_63 (by decide) ?_
        refine j_sub [1] rfl ?_
        exact H
      · replace H := H.2 c26
        refine j_aload_n (pc := 29) dX12_product_29 rfl ?_
        refine s_callV_i (pc := 30) (M1 := M_X12_look) (n := 0) (as := []) (a := 55) (st := []) dX12_product_30 G_X12_look wm_X12_193 (by decide +kernel) rfl (Nat.le_of_ble_eq_true rfl) shp_55 rfl (by show 1 ≤ d; omega) (Nat.le_of_ble_eq_true rfl) (Nat.zero_le _) (Nat.zero_le _) ?_
        refine CI.mono H (fun r9 σ9 H => ?_)
        refine j_bipush (pc := 33) (v := 37) dX12_product_33 (by decide) ?_
        refine j_icmp_ne (pc := 35) (t := 66) dX12_product_35 (by decide) (fun c35 => ?_) (fun c35 => ?_)
        · replace H := H.1 c35
          exact s_vret (pc := 66) dX12_product_66 rfl H
        · replace H := H.2 c35
          refine j_aload_n (pc := 38) dX12_product_38 rfl ?_
          refine s_callV_i (pc := 39) (M1 := M_X12_look) (n := 0) (as := []) (a := 55) (st := []) dX12_product_39 G_X12_look wm_X12_193 (by decide +kernel) rfl (Nat.le_of_ble_eq_true rfl) shp_55 rfl (by show 1 ≤ d; omega) (Nat.le_of_ble_eq_true rfl) (Nat.zero_le _) (Nat.zero_le _) ?_
          refine CI.mono H (fun r10 σ10 H => ?_)
          refine j_istore_n (pc := 42) (lv1 := [(1, .int r10), (0, .ref 55)]) dX12_product_42 (Nat.le_of_ble_eq_true rfl) rfl ?_
          refine j_aload_n (pc := 43) dX12_product_43 rfl ?_
          refine j_dup (pc := 44) dX12_product_44 rfl ?_
          refine s_geti (pc := 45) 3540 (rg σ10 3540) dX12_product_45 fl_X12_178 shp_55 rfl rfl rfl ?_
          refine j_iconst (pc := 48) (v := 1) dX12_product_48 (by decide) ?_
          refine j_iadd (pc := 49) dX12_product_49 ?_
          refine s_put (pc := 50) 3540 dX12_product_50 fl_X12_178 shp_55 rfl rfl fp_12_20 rfl rfl ?_
          refine j_aload_n (pc := 53) dX12_product_53 rfl ?_
          refine s_callV_v (pc := 54) (M1 := M_X12_operand) (n := 0) (as := []) (a := 55) (st := []) dX12_product_54 G_X12_operand wm_X12_208 (by decide +kernel) rfl (Nat.le_of_ble_eq_true rfl) shp_55 rfl (by show 1 ≤ d; omega) (Nat.le_of_ble_eq_true rfl) (Nat.zero_le _) (Nat.zero_le _) ?_
          refine CV.mono H (fun σ11 H => ?_)
          refine j_aload_n (pc := 57) dX12_product_57 rfl ?_
          refine j_iload_n (pc := 58) dX12_product_58 rfl ?_
          refine j_iconst (pc := 59) (v := 0) dX12_product_59 (by decide) ?_
          refine s_callV_v (pc := 60) (M1 := M_X12_addStep) (n := 2) (as := [.int r10, .int 0]) (a := 55) (st := []) dX12_product_60 G_X12_addStep wm_X12_197 (by decide +kernel) rfl (Nat.le_of_ble_eq_true rfl) shp_55 rfl (by show 1 ≤ d; omega) (Nat.le_of_ble_eq_true rfl) (Nat.zero_le _) (Nat.zero_le _) ?_
          refine CV.mono H (fun σ12 H => ?_)
          refine j_goto (pc := 63) (t := 4) dX12_product_63 (by decide) ?_
          refine j_sub [1] rfl ?_
          exact H
set_option maxRecDepth 20000 in
theorem b_X12_sum_0 {l : Launch} {g : am_G} {d : Nat} {σ : am_S} {k : am_S → Prop}   (hd : 1 ≤ d) (H : CV l g M_X12_product (d - 1) [.ref 55] σ (fun σ1 => JV l g M_X12_sum d 4 [(0, .ref 55)] [] σ1 k)) : CV l g M_X12_sum d [.ref 55] σ k := by
  show J l g (M_X12_sum, d, 0, 0) 0 [(0, .ref 55)] [] (hp σ) 0 0 (kV k)
  refine j_aload_n (pc := 0) dX12_sum_0 rfl ?_
  refine s_callV_v (pc := 1) (M1 := M_X12_product) (n := 0) (as := []) (a := 55) (st := []) dX12_sum_1 G_X12_product wm_X12_217 (by decide +kernel) rfl (Nat.le_of_ble_eq_true rfl) shp_55 rfl (by show 1 ≤ d; omega) (Nat.le_of_ble_eq_true rfl) (Nat.zero_le _) (Nat.zero_le _) ?_
  refine CV.mono H (fun σ1 H => ?_)
  refine j_sub [0] rfl ?_
  exact H
set_option maxRecDepth 20000 in
theorem b_X12_sum_4 {l : Launch} {g : am_G} {d : Nat} {σ : am_S} {k : am_S → Prop}   (hd : 1 ≤ d) (H : ((0 ≤ rg σ 3541 → k σ) ∧ (¬ 0 ≤ rg σ 3541 → CI l g M_X12_look (d - 1) [.ref 55] σ (fun r1 σ1 => ((r1 = 43 → CI l g M_X12_look (d - 1) [.ref 55] σ1 (fun r2 σ2 => CV l g M_X12_product (d - 1) [.ref 55] (sR σ2 3540 ((rg σ2 3540) + 1)) (fun σ3 => CV l g M_X12_addStep (d - 1) [.ref 55, .int r2, .int 0] σ3 (fun σ4 => JV l g M_X12_sum d 4 [(0, .ref 55)] [] σ4 k)))) ∧ (¬ r1 = 43 → CI l g M_X12_look (d - 1) [.ref 55] σ1 (fun r5 σ5 => ((¬ r5 = 45 → k σ5) ∧ (r5 = 45 → CI l g M_X12_look (d - 1) [.ref 55] σ5 (fun r6 σ6 => CV l g M_X12_product (d - 1) [.ref 55] (sR σ6 3540 ((rg σ6 3540) + 1)) (fun σ7 => CV l g M_X12_addStep (d - 1) [.ref 55, .int r6, .int 0] σ7 (fun σ8 => JV l g M_X12_sum d 4 [(0, .ref 55)] [] σ8 k)))))))))))) : JV l g M_X12_sum d 4 [(0, .ref 55)] [] σ k := by
  show J l g (M_X12_sum, d, 0, 0) 4 [(0, .ref 55)] [] (hp σ) 0 0 (kV k)
  refine j_aload_n (pc := 4) dX12_sum_4 rfl ?_
  refine s_geti (pc := 5) 3541 (rg σ 3541) dX12_sum_5 fl_X12_181 shp_55 rfl rfl rfl ?_
  refine j_if_ge (pc := 8) (t := 57) dX12_sum_8 (by decide) (fun c8 => ?_) (fun c8 => ?_)
  · replace H := H.1 c8
    exact s_vret (pc := 57) dX12_sum_57 rfl H
  · replace H := H.2 c8
    refine j_aload_n (pc := 11) dX12_sum_11 rfl ?_
    refine s_callV_i (pc := 12) (M1 := M_X12_look) (n := 0) (as := []) (a := 55) (st := []) dX12_sum_12 G_X12_look wm_X12_193 (by decide +kernel) rfl (Nat.le_of_ble_eq_true rfl) shp_55 rfl (by show 1 ≤ d; omega) (Nat.le_of_ble_eq_true rfl) (Nat.zero_le _) (Nat.zero_le _) ?_
    refine CI.mono H (fun r1 σ1 H => ?_)
    refine j_bipush (pc := 15) (v := 43) dX12_sum_15 (by decide) ?_
    refine j_icmp_eq (pc := 17) (t := 29) dX12_sum_17 (by decide) (fun c17 => ?_) (fun c17 => ?_)
    · replace H := H.1 c17
      refine j_aload_n (pc := 29) dX12_sum_29 rfl ?_
      refine s_callV_i (pc := 30) (M1 := M_X12_look) (n := 0) (as := []) (a := 55) (st := []) dX12_sum_30 G_X12_look wm_X12_193 (by decide +kernel) rfl (Nat.le_of_ble_eq_true rfl) shp_55 rfl (by show 1 ≤ d; omega) (Nat.le_of_ble_eq_true rfl) (Nat.zero_le _) (Nat.zero_le _) ?_
      refine CI.mono H (fun r2 σ2 H => ?_)
      refine j_istore_n (pc := 33) (lv1 := [(1, .int r2), (0, .ref 55)]) dX12_sum_33 (Nat.le_of_ble_eq_true rfl) rfl ?_
      refine j_aload_n (pc := 34) dX12_sum_34 rfl ?_
      refine j_dup (pc := 35) dX12_sum_35 rfl ?_
      refine s_geti (pc := 36) 3540 (rg σ2 3540) dX12_sum_36 fl_X12_178 shp_55 rfl rfl rfl ?_
      refine j_iconst (pc := 39) (v := 1) dX12_sum_39 (by decide) ?_
      refine j_iadd (pc := 40) dX12_sum_40 ?_
      refine s_put (pc := 41) 3540 dX12_sum_41 fl_X12_178 shp_55 rfl rfl fp_12_20 rfl rfl ?_
      refine j_aload_n (pc := 44) dX12_sum_44 rfl ?_
      refine s_callV_v (pc := 45) (M1 := M_X12_product) (n := 0) (as := []) (a := 55) (st := []) dX12_sum_45 G_X12_product wm_X12_217 (by decide +kernel) rfl (Nat.le_of_ble_eq_true rfl) shp_55 rfl (by show 1 ≤ d; omega) (Nat.le_of_ble_eq_true rfl) (Nat.zero_le _) (Nat.zero_le _) ?_
      refine CV.mono H (fun σ3 H => ?_)
      refine j_aload_n (pc := 48) dX12_sum_48 rfl ?_
      refine j_iload_n (pc := 49) dX12_sum_49 rfl ?_
      refine j_iconst (pc := 50) (v := 0) dX12_sum_50 (by decide) ?_
      refine s_callV_v (pc := 51) (M1 := M_X12_addStep) (n := 2) (as := [.int r2, .int 0]) (a := 55) (st := []) dX12_sum_51 G_X12_addStep wm_X12_197 (by decide +kernel) rfl (Nat.le_of_ble_eq_true rfl) shp_55 rfl (by show 1 ≤ d; omega) (Nat.le_of_ble_eq_true rfl) (Nat.zero_le _) (Nat.zero_le _) ?_
      refine CV.mono H (fun σ4 H => ?_)
      refine j_goto (pc := 54) (t := 4) dX12_sum_54 (by decide) ?_
      refine j_sub [1] rfl ?_
      exact H
    · replace H := H.2 c17
      refine j_aload_n (pc := 20) dX12_sum_20 rfl ?_
      refine s_callV_i (pc := 21) (M1 := M_X12_look) (n := 0) (as := []) (a := 55) (st := []) dX12_sum_21 G_X12_look wm_X12_193 (by decide +kernel) rfl (Nat.le_of_ble_eq_true rfl) shp_55 rfl (by show 1 ≤ d; omega) (Nat.le_of_ble_eq_true rfl) (Nat.zero_le _) (Nat.zero_le _) ?_
      refine CI.mono H (fun r5 σ5 H => ?_)
      refine j_bipush (pc := 24) (v := 45) dX12_sum_24 (by decide) ?_
      refine j_icmp_ne (pc := 26) (t := 57) dX12_sum_26 (by decide) (fun c26 => ?_) (fun c26 => ?_)
      · replace H := H.1 c26
        exact s_vret (pc := 57) dX12_sum_57 rfl H
      · replace H := H.2 c26
        refine j_aload_n (pc := 29) dX12_sum_29 rfl ?_
        refine s_callV_i (pc := 30) (M1 := M_X12_look) (n := 0) (as := []) (a := 55) (st := []) dX12_sum_30 G_X12_look wm_X12_193 (by decide +kernel) rfl (Nat.le_of_ble_eq_true rfl) shp_55 rfl (by show 1 ≤ d; omega) (Nat.le_of_ble_eq_true rfl) (Nat.zero_le _) (Nat.zero_le _) ?_
        refine CI.mono H (fun r6 σ6 H => ?_)
        refine j_istore_n (pc := 33) (lv1 := [(1, .int r6), (0, .ref 55)]) dX12_sum_33 (Nat.le_of_ble_eq_true rfl) rfl ?_
        refine j_aload_n (pc := 34) dX12_sum_34 rfl ?_
        refine j_dup (pc := 35) dX12_sum_35 rfl ?_
        refine s_geti (pc := 36) 3540 (rg σ6 3540) dX12_sum_36 fl_X12_178 shp_55 rfl rfl rfl ?_
        refine j_iconst (pc := 39) (v := 1) dX12_sum_39 (by decide) ?_
        refine j_iadd (pc := 40) dX12_sum_40 ?_
        refine s_put (pc := 41) 3540 dX12_sum_41 fl_X12_178 shp_55 rfl rfl fp_12_20 rfl rfl ?_
        refine j_aload_n (pc := 44) dX12_sum_44 rfl ?_
        refine s_callV_v (pc := 45) (M1 := M_X12_product) (n := 0) (as := []) (a := 55) (st := []) dX12_sum_45 G_X12_product wm_X12_217 (by decide +kernel) rfl (Nat.le_of_ble_eq_true rfl) shp_55 rfl (by show 1 ≤ d; omega) (Nat.le_of_ble_eq_true rfl) (Nat.zero_le _) (Nat.zero_le _) ?_
        refine CV.mono H (fun σ7 H => ?_)
        refine j_aload_n (pc := 48) dX12_sum_48 rfl ?_
        refine j_iload_n (pc := 49) dX12_sum_49 rfl ?_
        refine j_iconst (pc := 50) (v := 0) dX12_sum_50 (by decide) ?_
        refine s_callV_v (pc := 51) (M1 := M_X12_addStep) (n := 2) (as := [.int r6, .int 0]) (a := 55) (st := []) dX12_sum_51 G_X12_addStep wm_X12_197 (by decide +kernel) rfl (Nat.le_of_ble_eq_true rfl) shp_55 rfl (by show 1 ≤ d; omega) (Nat.le_of_ble_eq_true rfl) (Nat.zero_le _) (Nat.zero_le _) ?_
        refine CV.mono H (fun σ8 H => ?_)
        refine j_goto (pc := 54) (t := 4) dX12_sum_54 (by decide) ?_
        refine j_sub [1] rfl ?_
        exact H
set_option maxRecDepth 20000 in
theorem b_X12_compared_0 {l : Launch} {g : am_G} {d : Nat} {σ : am_S} {k : am_S → Prop}   (hd : 1 ≤ d) (H : CV l g M_X12_sum (d - 1) [.ref 55] σ (fun σ1 => CI l g M_X12_look (d - 1) [.ref 55] σ1 (fun r2 σ2 => ((0 ≤ rg σ2 3541 → k σ2) ∧ (¬ 0 ≤ rg σ2 3541 → ((r2 = 60 → CV l g M_X12_sum (d - 1) [.ref 55] (sR σ2 3540 ((rg σ2 3540) + 1)) (fun σ3 => CV l g M_X12_addStep (d - 1) [.ref 55, .int r2, .int 0] σ3 (fun σ4 => k σ4))) ∧ (¬ r2 = 60 → ((r2 = 61 → CV l g M_X12_sum (d - 1) [.ref 55] (sR σ2 3540 ((rg σ2 3540) + 1)) (fun σ5 => CV l g M_X12_addStep (d - 1) [.ref 55, .int r2, .int 0] σ5 (fun σ6 => k σ6))) ∧ (¬ r2 = 61 → ((r2 = 62 → CV l g M_X12_sum (d - 1) [.ref 55] (sR σ2 3540 ((rg σ2 3540) + 1)) (fun σ7 => CV l g M_X12_addStep (d - 1) [.ref 55, .int r2, .int 0] σ7 (fun σ8 => k σ8))) ∧ (¬ r2 = 62 → k σ2))))))))))) : CV l g M_X12_compared d [.ref 55] σ k := by
  show J l g (M_X12_compared, d, 0, 0) 0 [(0, .ref 55)] [] (hp σ) 0 0 (kV k)
  refine j_aload_n (pc := 0) dX12_compared_0 rfl ?_
  refine s_callV_v (pc := 1) (M1 := M_X12_sum) (n := 0) (as := []) (a := 55) (st := []) dX12_compared_1 G_X12_sum wm_X12_220 (by decide +kernel) rfl (Nat.le_of_ble_eq_true rfl) shp_55 rfl (by show 1 ≤ d; omega) (Nat.le_of_ble_eq_true rfl) (Nat.zero_le _) (Nat.zero_le _) ?_
  refine CV.mono H (fun σ1 H => ?_)
  refine j_aload_n (pc := 4) dX12_compared_4 rfl ?_
  refine s_callV_i (pc := 5) (M1 := M_X12_look) (n := 0) (as := []) (a := 55) (st := []) dX12_compared_5 G_X12_look wm_X12_193 (by decide +kernel) rfl (Nat.le_of_ble_eq_true rfl) shp_55 rfl (by show 1 ≤ d; omega) (Nat.le_of_ble_eq_true rfl) (Nat.zero_le _) (Nat.zero_le _) ?_
  refine CI.mono H (fun r2 σ2 H => ?_)
  refine j_istore_n (pc := 8) (lv1 := [(1, .int r2), (0, .ref 55)]) dX12_compared_8 (Nat.le_of_ble_eq_true rfl) rfl ?_
  refine j_aload_n (pc := 9) dX12_compared_9 rfl ?_
  refine s_geti (pc := 10) 3541 (rg σ2 3541) dX12_compared_10 fl_X12_181 shp_55 rfl rfl rfl ?_
  refine j_if_ge (pc := 13) (t := 34) dX12_compared_13 (by decide) (fun c13 => ?_) (fun c13 => ?_)
  · replace H := H.1 c13
    exact s_vret (pc := 34) dX12_compared_34 rfl H
  · replace H := H.2 c13
    refine j_iload_n (pc := 16) dX12_compared_16 rfl ?_
    refine j_bipush (pc := 17) (v := 60) dX12_compared_17 (by decide) ?_
    refine j_icmp_eq (pc := 19) (t := 35) dX12_compared_19 (by decide) (fun c19 => ?_) (fun c19 => ?_)
    · replace H := H.1 c19
      refine j_aload_n (pc := 35) dX12_compared_35 rfl ?_
      refine j_dup (pc := 36) dX12_compared_36 rfl ?_
      refine s_geti (pc := 37) 3540 (rg σ2 3540) dX12_compared_37 fl_X12_178 shp_55 rfl rfl rfl ?_
      refine j_iconst (pc := 40) (v := 1) dX12_compared_40 (by decide) ?_
      refine j_iadd (pc := 41) dX12_compared_41 ?_
      refine s_put (pc := 42) 3540 dX12_compared_42 fl_X12_178 shp_55 rfl rfl fp_12_20 rfl rfl ?_
      refine j_aload_n (pc := 45) dX12_compared_45 rfl ?_
      refine s_callV_v (pc := 46) (M1 := M_X12_sum) (n := 0) (as := []) (a := 55) (st := []) dX12_compared_46 G_X12_sum wm_X12_220 (by decide +kernel) rfl (Nat.le_of_ble_eq_true rfl) shp_55 rfl (by show 1 ≤ d; omega) (Nat.le_of_ble_eq_true rfl) (Nat.zero_le _) (Nat.zero_le _) ?_
      refine CV.mono H (fun σ3 H => ?_)
      refine j_aload_n (pc := 49) dX12_compared_49 rfl ?_
      refine j_iload_n (pc := 50) dX12_compared_50 rfl ?_
      refine j_iconst (pc := 51) (v := 0) dX12_compared_51 (by decide) ?_
      refine s_callV_v (pc := 52) (M1 := M_X12_addStep) (n := 2) (as := [.int r2, .int 0]) (a := 55) (st := []) dX12_compared_52 G_X12_addStep wm_X12_197 (by decide +kernel) rfl (Nat.le_of_ble_eq_true rfl) shp_55 rfl (by show 1 ≤ d; omega) (Nat.le_of_ble_eq_true rfl) (Nat.zero_le _) (Nat.zero_le _) ?_
      refine CV.mono H (fun σ4 H => ?_)
      exact s_vret (pc := 55) dX12_compared_55 rfl H
    · replace H := H.2 c19
      refine j_iload_n (pc := 22) dX12_compared_22 rfl ?_
      refine j_bipush (pc := 23) (v := 61) dX12_compared_23 (by decide) ?_
      refine j_icmp_eq (pc := 25) (t := 35) dX12_compared_25 (by decide) (fun c25 => ?_) (fun c25 => ?_)
      · replace H := H.1 c25
        refine j_aload_n (pc := 35) dX12_compared_35 rfl ?_
        refine j_dup (pc := 36) dX12_compared_36 rfl ?_
        refine s_geti (pc := 37) 3540 (rg σ2 3540) dX12_compared_37 fl_X12_178 shp_55 rfl rfl rfl ?_
        refine j_iconst (pc := 40) (v := 1) dX12_compared_40 (by decide) ?_
        refine j_iadd (pc := 41) dX12_compared_41 ?_
        refine s_put (pc := 42) 3540 dX12_compared_42 fl_X12_178 shp_55 rfl rfl fp_12_20 rfl rfl ?_
        refine j_aload_n (pc := 45) dX12_compared_45 rfl ?_
        refine s_callV_v (pc := 46) (M1 := M_X12_sum) (n := 0) (as := []) (a := 55) (st := []) dX12_compared_46 G_X12_sum wm_X12_220 (by decide +kernel) rfl (Nat.le_of_ble_eq_true rfl) shp_55 rfl (by show 1 ≤ d; omega) (Nat.le_of_ble_eq_true rfl) (Nat.zero_le _) (Nat.zero_le _) ?_
        refine CV.mono H (fun σ5 H => ?_)
        refine j_aload_n (pc := 49) dX12_compared_49 rfl ?_
        refine j_iload_n (pc := 50) dX12_compared_50 rfl ?_
        refine j_iconst (pc := 51) (v := 0) dX12_compared_51 (by decide) ?_
        refine s_callV_v (pc := 52) (M1 := M_X12_addStep) (n := 2) (as := [.int r2, .int 0]) (a := 55) (st := []) dX12_compared_52 G_X12_addStep wm_X12_197 (by decide +kernel) rfl (Nat.le_of_ble_eq_true rfl) shp_55 rfl (by show 1 ≤ d; omega) (Nat.le_of_ble_eq_true rfl) (Nat.zero_le _) (Nat.zero_le _) ?_
        refine CV.mono H (fun σ6 H => ?_)
        exact s_vret (pc := 55) dX12_compared_55 rfl H
      · replace H := H.2 c25
        refine j_iload_n (pc := 28) dX12_compared_28 rfl ?_
        refine j_bipush (pc := 29) (v := 62) dX12_compared_29 (by decide) ?_
        refine j_icmp_eq (pc := 31) (t := 35) dX12_compared_31 (by decide) (fun c31 => ?_) (fun c31 => ?_)
        · replace H := H.1 c31
          refine j_aload_n (pc := 35) dX12_compared_35 rfl ?_
          refine j_dup (pc := 36) dX12_compared_36 rfl ?_
          refine s_geti (pc := 37) 3540 (rg σ2 3540) dX12_compared_37 fl_X12_178 shp_55 rfl rfl rfl ?_
          refine j_iconst (pc := 40) (v := 1) dX12_compared_40 (by decide) ?_
          refine j_iadd (pc := 41) dX12_compared_41 ?_
          refine s_put (pc := 42) 3540 dX12_compared_42 fl_X12_178 shp_55 rfl rfl fp_12_20 rfl rfl ?_
          refine j_aload_n (pc := 45) dX12_compared_45 rfl ?_
          refine s_callV_v (pc := 46) (M1 := M_X12_sum) (n := 0) (as := []) (a := 55) (st := []) dX12_compared_46 G_X12_sum wm_X12_220 (by decide +kernel) rfl (Nat.le_of_ble_eq_true rfl) shp_55 rfl (by show 1 ≤ d; omega) (Nat.le_of_ble_eq_true rfl) (Nat.zero_le _) (Nat.zero_le _) ?_
          refine CV.mono H (fun σ7 H => ?_)
          refine j_aload_n (pc := 49) dX12_compared_49 rfl ?_
          refine j_iload_n (pc := 50) dX12_compared_50 rfl ?_
          refine j_iconst (pc := 51) (v := 0) dX12_compared_51 (by decide) ?_
          refine s_callV_v (pc := 52) (M1 := M_X12_addStep) (n := 2) (as := [.int r2, .int 0]) (a := 55) (st := []) dX12_compared_52 G_X12_addStep wm_X12_197 (by decide +kernel) rfl (Nat.le_of_ble_eq_true rfl) shp_55 rfl (by show 1 ≤ d; omega) (Nat.le_of_ble_eq_true rfl) (Nat.zero_le _) (Nat.zero_le _) ?_
          refine CV.mono H (fun σ8 H => ?_)
          exact s_vret (pc := 55) dX12_compared_55 rfl H
        · replace H := H.2 c31
          exact s_vret (pc := 34) dX12_compared_34 rfl H
set_option maxRecDepth 20000 in
theorem b_X12_both_0 {l : Launch} {g : am_G} {d : Nat} {σ : am_S} {k : am_S → Prop}   (hd : 1 ≤ d) (H : CV l g M_X12_compared (d - 1) [.ref 55] σ (fun σ1 => JV l g M_X12_both d 4 [(0, .ref 55)] [] σ1 k)) : CV l g M_X12_both d [.ref 55] σ k := by
  show J l g (M_X12_both, d, 0, 0) 0 [(0, .ref 55)] [] (hp σ) 0 0 (kV k)
  refine j_aload_n (pc := 0) dX12_both_0 rfl ?_
  refine s_callV_v (pc := 1) (M1 := M_X12_compared) (n := 0) (as := []) (a := 55) (st := []) dX12_both_1 G_X12_compared wm_X12_223 (by decide +kernel) rfl (Nat.le_of_ble_eq_true rfl) shp_55 rfl (by show 1 ≤ d; omega) (Nat.le_of_ble_eq_true rfl) (Nat.zero_le _) (Nat.zero_le _) ?_
  refine CV.mono H (fun σ1 H => ?_)
  refine j_sub [0] rfl ?_
  exact H
set_option maxRecDepth 20000 in
theorem b_X12_both_4 {l : Launch} {g : am_G} {d : Nat} {σ : am_S} {k : am_S → Prop}   (hd : 1 ≤ d) (H : ((0 ≤ rg σ 3541 → k σ) ∧ (¬ 0 ≤ rg σ 3541 → CI l g M_X12_look (d - 1) [.ref 55] σ (fun r1 σ1 => ((¬ r1 = 38 → k σ1) ∧ (r1 = 38 → CV l g M_X12_compared (d - 1) [.ref 55] (sR σ1 3540 ((rg σ1 3540) + 1)) (fun σ2 => CV l g M_X12_addStep (d - 1) [.ref 55, .int 38, .int 0] σ2 (fun σ3 => JV l g M_X12_both d 4 [(0, .ref 55)] [] σ3 k)))))))) : JV l g M_X12_both d 4 [(0, .ref 55)] [] σ k := by
  show J l g (M_X12_both, d, 0, 0) 4 [(0, .ref 55)] [] (hp σ) 0 0 (kV k)
  refine j_aload_n (pc := 4) dX12_both_4 rfl ?_
  refine s_geti (pc := 5) 3541 (rg σ 3541) dX12_both_5 fl_X12_181 shp_55 rfl rfl rfl ?_
  refine j_if_ge (pc := 8) (t := 44) dX12_both_8 (by decide) (fun c8 => ?_) (fun c8 => ?_)
  · replace H := H.1 c8
    exact s_vret (pc := 44) dX12_both_44 rfl H
  · replace H := H.2 c8
    refine j_aload_n (pc := 11) dX12_both_11 rfl ?_
    refine s_callV_i (pc := 12) (M1 := M_X12_look) (n := 0) (as := []) (a := 55) (st := []) dX12_both_12 G_X12_look wm_X12_193 (by decide +kernel) rfl (Nat.le_of_ble_eq_true rfl) shp_55 rfl (by show 1 ≤ d; omega) (Nat.le_of_ble_eq_true rfl) (Nat.zero_le _) (Nat.zero_le _) ?_
    refine CI.mono H (fun r1 σ1 H => ?_)
    refine j_bipush (pc := 15) (v := 38) dX12_both_15 (by decide) ?_
    refine j_icmp_ne (pc := 17) (t := 44) dX12_both_17 (by decide) (fun c17 => ?_) (fun c17 => ?_)
    · replace H := H.1 c17
      exact s_vret (pc := 44) dX12_both_44 rfl H
    · replace H := H.2 c17
      refine j_aload_n (pc := 20) dX12_both_20 rfl ?_
      refine j_dup (pc := 21) dX12_both_21 rfl ?_
      refine s_geti (pc := 22) 3540 (rg σ1 3540) dX12_both_22 fl_X12_178 shp_55 rfl rfl rfl ?_
      refine j_iconst (pc := 25) (v := 1) dX12_both_25 (by decide) ?_
      refine j_iadd (pc := 26) dX12_both_26 ?_
      refine s_put (pc := 27) 3540 dX12_both_27 fl_X12_178 shp_55 rfl rfl fp_12_20 rfl rfl ?_
      refine j_aload_n (pc := 30) dX12_both_30 rfl ?_
      refine s_callV_v (pc := 31) (M1 := M_X12_compared) (n := 0) (as := []) (a := 55) (st := []) dX12_both_31 G_X12_compared wm_X12_223 (by decide +kernel) rfl (Nat.le_of_ble_eq_true rfl) shp_55 rfl (by show 1 ≤ d; omega) (Nat.le_of_ble_eq_true rfl) (Nat.zero_le _) (Nat.zero_le _) ?_
      refine CV.mono H (fun σ2 H => ?_)
      refine j_aload_n (pc := 34) dX12_both_34 rfl ?_
      refine j_bipush (pc := 35) (v := 38) dX12_both_35 (by decide) ?_
      refine j_iconst (pc := 37) (v := 0) dX12_both_37 (by decide) ?_
      refine s_callV_v (pc := 38) (M1 := M_X12_addStep) (n := 2) (as := [.int 38, .int 0]) (a := 55) (st := []) dX12_both_38 G_X12_addStep wm_X12_197 (by decide +kernel) rfl (Nat.le_of_ble_eq_true rfl) shp_55 rfl (by show 1 ≤ d; omega) (Nat.le_of_ble_eq_true rfl) (Nat.zero_le _) (Nat.zero_le _) ?_
      refine CV.mono H (fun σ3 H => ?_)
      refine j_goto (pc := 41) (t := 4) dX12_both_41 (by decide) ?_
      refine j_sub [0] rfl ?_
      exact H
set_option maxRecDepth 20000 in
theorem b_X12_either_0 {l : Launch} {g : am_G} {d : Nat} {σ : am_S} {k : am_S → Prop}   (hd : 1 ≤ d) (H : CV l g M_X12_both (d - 1) [.ref 55] σ (fun σ1 => JV l g M_X12_either d 4 [(0, .ref 55)] [] σ1 k)) : CV l g M_X12_either d [.ref 55] σ k := by
  show J l g (M_X12_either, d, 0, 0) 0 [(0, .ref 55)] [] (hp σ) 0 0 (kV k)
  refine j_aload_n (pc := 0) dX12_either_0 rfl ?_
  refine s_callV_v (pc := 1) (M1 := M_X12_both) (n := 0) (as := []) (a := 55) (st := []) dX12_either_1 G_X12_both wm_X12_226 (by decide +kernel) rfl (Nat.le_of_ble_eq_true rfl) shp_55 rfl (by show 1 ≤ d; omega) (Nat.le_of_ble_eq_true rfl) (Nat.zero_le _) (Nat.zero_le _) ?_
  refine CV.mono H (fun σ1 H => ?_)
  refine j_sub [0] rfl ?_
  exact H
set_option maxRecDepth 20000 in
theorem b_X12_either_4 {l : Launch} {g : am_G} {d : Nat} {σ : am_S} {k : am_S → Prop}   (hd : 1 ≤ d) (H : ((0 ≤ rg σ 3541 → k σ) ∧ (¬ 0 ≤ rg σ 3541 → CI l g M_X12_look (d - 1) [.ref 55] σ (fun r1 σ1 => ((¬ r1 = 124 → k σ1) ∧ (r1 = 124 → CV l g M_X12_both (d - 1) [.ref 55] (sR σ1 3540 ((rg σ1 3540) + 1)) (fun σ2 => CV l g M_X12_addStep (d - 1) [.ref 55, .int 124, .int 0] σ2 (fun σ3 => JV l g M_X12_either d 4 [(0, .ref 55)] [] σ3 k)))))))) : JV l g M_X12_either d 4 [(0, .ref 55)] [] σ k := by
  show J l g (M_X12_either, d, 0, 0) 4 [(0, .ref 55)] [] (hp σ) 0 0 (kV k)
  refine j_aload_n (pc := 4) dX12_either_4 rfl ?_
  refine s_geti (pc := 5) 3541 (rg σ 3541) dX12_either_5 fl_X12_181 shp_55 rfl rfl rfl ?_
  refine j_if_ge (pc := 8) (t := 44) dX12_either_8 (by decide) (fun c8 => ?_) (fun c8 => ?_)
  · replace H := H.1 c8
    exact s_vret (pc := 44) dX12_either_44 rfl H
  · replace H := H.2 c8
    refine j_aload_n (pc := 11) dX12_either_11 rfl ?_
    refine s_callV_i (pc := 12) (M1 := M_X12_look) (n := 0) (as := []) (a := 55) (st := []) dX12_either_12 G_X12_look wm_X12_193 (by decide +kernel) rfl (Nat.le_of_ble_eq_true rfl) shp_55 rfl (by show 1 ≤ d; omega) (Nat.le_of_ble_eq_true rfl) (Nat.zero_le _) (Nat.zero_le _) ?_
    refine CI.mono H (fun r1 σ1 H => ?_)
    refine j_bipush (pc := 15) (v := 124) dX12_either_15 (by decide) ?_
    refine j_icmp_ne (pc := 17) (t := 44) dX12_either_17 (by decide) (fun c17 => ?_) (fun c17 => ?_)
    · replace H := H.1 c17
      exact s_vret (pc := 44) dX12_either_44 rfl H
    · replace H := H.2 c17
      refine j_aload_n (pc := 20) dX12_either_20 rfl ?_
      refine j_dup (pc := 21) dX12_either_21 rfl ?_
      refine s_geti (pc := 22) 3540 (rg σ1 3540) dX12_either_22 fl_X12_178 shp_55 rfl rfl rfl ?_
      refine j_iconst (pc := 25) (v := 1) dX12_either_25 (by decide) ?_
      refine j_iadd (pc := 26) dX12_either_26 ?_
      refine s_put (pc := 27) 3540 dX12_either_27 fl_X12_178 shp_55 rfl rfl fp_12_20 rfl rfl ?_
      refine j_aload_n (pc := 30) dX12_either_30 rfl ?_
      refine s_callV_v (pc := 31) (M1 := M_X12_both) (n := 0) (as := []) (a := 55) (st := []) dX12_either_31 G_X12_both wm_X12_226 (by decide +kernel) rfl (Nat.le_of_ble_eq_true rfl) shp_55 rfl (by show 1 ≤ d; omega) (Nat.le_of_ble_eq_true rfl) (Nat.zero_le _) (Nat.zero_le _) ?_
      refine CV.mono H (fun σ2 H => ?_)
      refine j_aload_n (pc := 34) dX12_either_34 rfl ?_
      refine j_bipush (pc := 35) (v := 124) dX12_either_35 (by decide) ?_
      refine j_iconst (pc := 37) (v := 0) dX12_either_37 (by decide) ?_
      refine s_callV_v (pc := 38) (M1 := M_X12_addStep) (n := 2) (as := [.int 124, .int 0]) (a := 55) (st := []) dX12_either_38 G_X12_addStep wm_X12_197 (by decide +kernel) rfl (Nat.le_of_ble_eq_true rfl) shp_55 rfl (by show 1 ≤ d; omega) (Nat.le_of_ble_eq_true rfl) (Nat.zero_le _) (Nat.zero_le _) ?_
      refine CV.mono H (fun σ3 H => ?_)
      refine j_goto (pc := 41) (t := 4) dX12_either_41 (by decide) ?_
      refine j_sub [0] rfl ?_
      exact H
set_option maxRecDepth 20000 in
theorem b_X12_operand_0 {l : Launch} {g : am_G} {d : Nat} {σ : am_S} {k : am_S → Prop}   (hd : 1 ≤ d) (H : CI l g M_X12_look (d - 1) [.ref 55] σ (fun r1 σ1 => CI l g M_X12_nameOf (d - 1) [.int r1] σ1 (fun r2 σ2 => ((r2 < 0 → ((r1 = 33 → CI l g M_X12_opens (d - 1) [.ref 55] σ2 (fun r3 σ3 => ((¬ r3 = 0 → CV l g M_X12_operand (d - 1) [.ref 55] σ3 (fun σ4 => ((¬ r1 = 33 → CV l g M_X12_addStep (d - 1) [.ref 55, .int 4, .int 0] (sR σ4 3542 ((rg σ4 3542) - 1)) (fun σ5 => k σ5)) ∧ (r1 = 33 → CV l g M_X12_addStep (d - 1) [.ref 55, .int 3, .int 0] (sR σ4 3542 ((rg σ4 3542) - 1)) (fun σ6 => k σ6))))) ∧ (r3 = 0 → k σ3)))) ∧ (¬ r1 = 33 → ((¬ r1 = 45 → ((¬ r1 = 40 → CV l g M_X12_figure (d - 1) [.ref 55] σ2 (fun σ7 => k σ7)) ∧ (r1 = 40 → CI l g M_X12_opens (d - 1) [.ref 55] σ2 (fun r8 σ8 => ((¬ r8 = 0 → CV l g M_X12_either (d - 1) [.ref 55] σ8 (fun σ9 => ((rg σ9 3541 < 0 → CI l g M_X12_look (d - 1) [.ref 55] σ9 (fun r10 σ10 => ((r10 = 41 → k (sR (sR σ10 3540 ((rg σ10 3540) + 1)) 3542 ((rg σ10 3542) - 1))) ∧ (¬ r10 = 41 → CV l g M_X12_faulty (d - 1) [.ref 55] σ10 (fun σ11 => k σ11))))) ∧ (¬ rg σ9 3541 < 0 → k σ9)))) ∧ (r8 = 0 → k σ8)))))) ∧ (r1 = 45 → CI l g M_X12_opens (d - 1) [.ref 55] σ2 (fun r12 σ12 => ((¬ r12 = 0 → CV l g M_X12_operand (d - 1) [.ref 55] σ12 (fun σ13 => ((¬ r1 = 33 → CV l g M_X12_addStep (d - 1) [.ref 55, .int 4, .int 0] (sR σ13 3542 ((rg σ13 3542) - 1)) (fun σ14 => k σ14)) ∧ (r1 = 33 → CV l g M_X12_addStep (d - 1) [.ref 55, .int 3, .int 0] (sR σ13 3542 ((rg σ13 3542) - 1)) (fun σ15 => k σ15))))) ∧ (r12 = 0 → k σ12)))))))) ∧ (¬ r2 < 0 → CI l g M_X12_nameOf (d - 1) [.int r1] σ2 (fun r16 σ16 => CV l g M_X12_addStep (d - 1) [.ref 55, .int 2, .int r16] σ16 (fun σ17 => k (sR σ17 3540 ((rg σ17 3540) + 1))))))))) : CV l g M_X12_operand d [.ref 55] σ k := by
  show J l g (M_X12_operand, d, 0, 0) 0 [(0, .ref 55)] [] (hp σ) 0 0 (kV k)
  refine j_aload_n (pc := 0) dX12_operand_0 rfl ?_
  refine s_callV_i (pc := 1) (M1 := M_X12_look) (n := 0) (as := []) (a := 55) (st := []) dX12_operand_1 G_X12_look wm_X12_193 (by decide +kernel) rfl (Nat.le_of_ble_eq_true rfl) shp_55 rfl (by show 1 ≤ d; omega) (Nat.le_of_ble_eq_true rfl) (Nat.zero_le _) (Nat.zero_le _) ?_
  refine CI.mono H (fun r1 σ1 H => ?_)
  refine j_istore_n (pc := 4) (lv1 := [(1, .int r1), (0, .ref 55)]) dX12_operand_4 (Nat.le_of_ble_eq_true rfl) rfl ?_
  refine j_iload_n (pc := 5) dX12_operand_5 rfl ?_
  refine s_callS_i (pc := 6) (M1 := M_X12_nameOf) (n := 1) (as := [.int r1]) (st := []) dX12_operand_6 G_X12_nameOf wm_X12_201 (by decide +kernel) rfl (Nat.le_of_ble_eq_true rfl) (by show 1 ≤ d; omega) (Nat.le_of_ble_eq_true rfl) ?_
  refine CI.mono H (fun r2 σ2 H => ?_)
  refine j_if_lt (pc := 9) (t := 34) dX12_operand_9 (by decide) (fun c9 => ?_) (fun c9 => ?_)
  · replace H := H.1 c9
    refine j_iload_n (pc := 34) dX12_operand_34 rfl ?_
    refine j_bipush (pc := 35) (v := 33) dX12_operand_35 (by decide) ?_
    refine j_icmp_eq (pc := 37) (t := 46) dX12_operand_37 (by decide) (fun c37 => ?_) (fun c37 => ?_)
    · replace H := H.1 c37
      refine j_aload_n (pc := 46) dX12_operand_46 rfl ?_
      refine s_callV_i (pc := 47) (M1 := M_X12_opens) (n := 0) (as := []) (a := 55) (st := []) dX12_operand_47 G_X12_opens wm_X12_204 (by decide +kernel) rfl (Nat.le_of_ble_eq_true rfl) shp_55 rfl (by show 1 ≤ d; omega) (Nat.le_of_ble_eq_true rfl) (Nat.zero_le _) (Nat.zero_le _) ?_
      refine CI.mono H (fun r3 σ3 H => ?_)
      refine j_if_ne (pc := 50) (t := 54) dX12_operand_50 (by decide) (fun c50 => ?_) (fun c50 => ?_)
      · replace H := H.1 c50
        refine j_aload_n (pc := 54) dX12_operand_54 rfl ?_
        refine s_callV_v (pc := 55) (M1 := M_X12_operand) (n := 0) (as := []) (a := 55) (st := []) dX12_operand_55 G_X12_operand wm_X12_208 (by decide +kernel) rfl (Nat.le_of_ble_eq_true rfl) shp_55 rfl (by show 1 ≤ d; omega) (Nat.le_of_ble_eq_true rfl) (Nat.zero_le _) (Nat.zero_le _) ?_
        refine CV.mono H (fun σ4 H => ?_)
        refine j_aload_n (pc := 58) dX12_operand_58 rfl ?_
        refine j_dup (pc := 59) dX12_operand_59 rfl ?_
        refine s_geti (pc := 60) 3542 (rg σ4 3542) dX12_operand_60 fl_X12_187 shp_55 rfl rfl rfl ?_
        refine j_iconst (pc := 63) (v := 1) dX12_operand_63 (by decide) ?_
        refine j_isub (pc := 64) dX12_operand_64 ?_
        refine s_put (pc := 65) 3542 dX12_operand_65 fl_X12_187 shp_55 rfl rfl fp_12_22 rfl rfl ?_
        refine j_aload_n (pc := 68) dX12_operand_68 rfl ?_
        refine j_iload_n (pc := 69) dX12_operand_69 rfl ?_
        refine j_bipush (pc := 70) (v := 33) dX12_operand_70 (by decide) ?_
        refine j_icmp_ne (pc := 72) (t := 79) dX12_operand_72 (by decide) (fun c72 => ?_) (fun c72 => ?_)
        · replace H := H.1 c72
          refine j_iconst (pc := 79) (v := 4) dX12_operand_79 (by decide) ?_
          refine j_iconst (pc := 80) (v := 0) dX12_operand_80 (by decide) ?_
          refine s_callV_v (pc := 81) (M1 := M_X12_addStep) (n := 2) (as := [.int 4, .int 0]) (a := 55) (st := []) dX12_operand_81 G_X12_addStep wm_X12_197 (by decide +kernel) rfl (Nat.le_of_ble_eq_true rfl) shp_55 rfl (by show 1 ≤ d; omega) (Nat.le_of_ble_eq_true rfl) (Nat.zero_le _) (Nat.zero_le _) ?_
          refine CV.mono H (fun σ5 H => ?_)
          refine j_goto (pc := 84) (t := 154) dX12_operand_84 (by decide) ?_
          exact s_vret (pc := 154) dX12_operand_154 rfl H
        · replace H := H.2 c72
          refine j_iconst (pc := 75) (v := 3) dX12_operand_75 (by decide) ?_
          refine j_goto (pc := 76) (t := 80) dX12_operand_76 (by decide) ?_
          refine j_iconst (pc := 80) (v := 0) dX12_operand_80 (by decide) ?_
          refine s_callV_v (pc := 81) (M1 := M_X12_addStep) (n := 2) (as := [.int 3, .int 0]) (a := 55) (st := []) dX12_operand_81 G_X12_addStep wm_X12_197 (by decide +kernel) rfl (Nat.le_of_ble_eq_true rfl) shp_55 rfl (by show 1 ≤ d; omega) (Nat.le_of_ble_eq_true rfl) (Nat.zero_le _) (Nat.zero_le _) ?_
          refine CV.mono H (fun σ6 H => ?_)
          refine j_goto (pc := 84) (t := 154) dX12_operand_84 (by decide) ?_
          exact s_vret (pc := 154) dX12_operand_154 rfl H
      · replace H := H.2 c50
        exact s_vret (pc := 53) dX12_operand_53 rfl H
    · replace H := H.2 c37
      refine j_iload_n (pc := 40) dX12_operand_40 rfl ?_
      refine j_bipush (pc := 41) (v := 45) dX12_operand_41 (by decide) ?_
      refine j_icmp_ne (pc := 43) (t := 87) dX12_operand_43 (by decide) (fun c43 => ?_) (fun c43 => ?_)
      · replace H := H.1 c43
        refine j_iload_n (pc := 87) dX12_operand_87 rfl ?_
        refine j_bipush (pc := 88) (v := 40) dX12_operand_88 (by decide) ?_
        refine j_icmp_ne (pc := 90) (t := 150) dX12_operand_90 (by decide) (fun c90 => ?_) (fun c90 => ?_)
        · replace H := H.1 c90
          refine j_aload_n (pc := 150) dX12_operand_150 rfl ?_
          refine s_callV_v (pc := 151) (M1 := M_X12_figure) (n := 0) (as := []) (a := 55) (st := []) dX12_operand_151 G_X12_figure wm_X12_214 (by decide +kernel) rfl (Nat.le_of_ble_eq_true rfl) shp_55 rfl (by show 1 ≤ d; omega) (Nat.le_of_ble_eq_true rfl) (Nat.zero_le _) (Nat.zero_le _) ?_
          refine CV.mono H (fun σ7 H => ?_)
          exact s_vret (pc := 154) dX12_operand_154 rfl H
        · replace H := H.2 c90
          refine j_aload_n (pc := 93) dX12_operand_93 rfl ?_
          refine s_callV_i (pc := 94) (M1 := M_X12_opens) (n := 0) (as := []) (a := 55) (st := []) dX12_operand_94 G_X12_opens wm_X12_204 (by decide +kernel) rfl (Nat.le_of_ble_eq_true rfl) shp_55 rfl (by show 1 ≤ d; omega) (Nat.le_of_ble_eq_true rfl) (Nat.zero_le _) (Nat.zero_le _) ?_
          refine CI.mono H (fun r8 σ8 H => ?_)
          refine j_if_ne (pc := 97) (t := 101) dX12_operand_97 (by decide) (fun c97 => ?_) (fun c97 => ?_)
          · replace H := H.1 c97
            refine j_aload_n (pc := 101) dX12_operand_101 rfl ?_
            refine s_callV_v (pc := 102) (M1 := M_X12_either) (n := 0) (as := []) (a := 55) (st := []) dX12_operand_102 G_X12_either wm_X12_211 (by decide +kernel) rfl (Nat.le_of_ble_eq_true rfl) shp_55 rfl (by show 1 ≤ d; omega) (Nat.le_of_ble_eq_true rfl) (Nat.zero_le _) (Nat.zero_le _) ?_
            refine CV.mono H (fun σ9 H => ?_)
            refine j_aload_n (pc := 105) dX12_operand_105 rfl ?_
            refine s_geti (pc := 106) 3541 (rg σ9 3541) dX12_operand_106 fl_X12_181 shp_55 rfl rfl rfl ?_
            refine j_if_lt (pc := 109) (t := 113) dX12_operand_109 (by decide) (fun c109 => ?_) (fun c109 => ?_)
            · replace H := H.1 c109
              refine j_aload_n (pc := 113) dX12_operand_113 rfl ?_
              refine s_callV_i (pc := 114) (M1 := M_X12_look) (n := 0) (as := []) (a := 55) (st := []) dX12_operand_114 G_X12_look wm_X12_193 (by decide +kernel) rfl (Nat.le_of_ble_eq_true rfl) shp_55 rfl (by show 1 ≤ d; omega) (Nat.le_of_ble_eq_true rfl) (Nat.zero_le _) (Nat.zero_le _) ?_
              refine CI.mono H (fun r10 σ10 H => ?_)
              refine j_bipush (pc := 117) (v := 41) dX12_operand_117 (by decide) ?_
              refine j_icmp_eq (pc := 119) (t := 127) dX12_operand_119 (by decide) (fun c119 => ?_) (fun c119 => ?_)
              · replace H := H.1 c119
                refine j_aload_n (pc := 127) dX12_operand_127 rfl ?_
                refine j_dup (pc := 128) dX12_operand_128 rfl ?_
                refine s_geti (pc := 129) 3540 (rg σ10 3540) dX12_operand_129 fl_X12_178 shp_55 rfl rfl rfl ?_
                refine j_iconst (pc := 132) (v := 1) dX12_operand_132 (by decide) ?_
                refine j_iadd (pc := 133) dX12_operand_133 ?_
                refine s_put (pc := 134) 3540 dX12_operand_134 fl_X12_178 shp_55 rfl rfl fp_12_20 rfl rfl ?_
                refine j_aload_n (pc := 137) dX12_operand_137 rfl ?_
                refine j_dup (pc := 138) dX12_operand_138 rfl ?_
                refine s_geti (pc := 139) 3542 (rg σ10 3542) dX12_operand_139 fl_X12_187 shp_55 rfl rfl rfl ?_
                refine j_iconst (pc := 142) (v := 1) dX12_operand_142 (by decide) ?_
                refine j_isub (pc := 143) dX12_operand_143 ?_
                refine s_put (pc := 144) 3542 dX12_operand_144 fl_X12_187 shp_55 rfl rfl fp_12_22 rfl rfl ?_
                refine j_goto (pc := 147) (t := 154) dX12_operand_147 (by decide) ?_
                exact s_vret (pc := 154) dX12_operand_154 rfl H
              · replace H := H.2 c119
                refine j_aload_n (pc := 122) dX12_operand_122 rfl ?_
                refine s_callV_v (pc := 123) (M1 := M_X12_faulty) (n := 0) (as := []) (a := 55) (st := []) dX12_operand_123 G_X12_faulty wm_X12_190 (by decide +kernel) rfl (Nat.le_of_ble_eq_true rfl) shp_55 rfl (by show 1 ≤ d; omega) (Nat.le_of_ble_eq_true rfl) (Nat.zero_le _) (Nat.zero_le _) ?_
                refine CV.mono H (fun σ11 H => ?_)
                exact s_vret (pc := 126) dX12_operand_126 rfl H
            · replace H := H.2 c109
              exact s_vret (pc := 112) dX12_operand_112 rfl H
          · replace H := H.2 c97
            exact s_vret (pc := 100) dX12_operand_100 rfl H
      · replace H := H.2 c43
        refine j_aload_n (pc := 46) dX12_operand_46 rfl ?_
        refine s_callV_i (pc := 47) (M1 := M_X12_opens) (n := 0) (as := []) (a := 55) (st := []) dX12_operand_47 G_X12_opens wm_X12_204 (by decide +kernel) rfl (Nat.le_of_ble_eq_true rfl) shp_55 rfl (by show 1 ≤ d; omega) (Nat.le_of_ble_eq_true rfl) (Nat.zero_le _) (Nat.zero_le _) ?_
        refine CI.mono H (fun r12 σ12 H => ?_)
        refine j_if_ne (pc := 50) (t := 54) dX12_operand_50 (by decide) (fun c50 => ?_) (fun c50 => ?_)
        · replace H := H.1 c50
          refine j_aload_n (pc := 54) dX12_operand_54 rfl ?_
          refine s_callV_v (pc := 55) (M1 := M_X12_operand) (n := 0) (as := []) (a := 55) (st := []) dX12_operand_55 G_X12_operand wm_X12_208 (by decide +kernel) rfl (Nat.le_of_ble_eq_true rfl) shp_55 rfl (by show 1 ≤ d; omega) (Nat.le_of_ble_eq_true rfl) (Nat.zero_le _) (Nat.zero_le _) ?_
          refine CV.mono H (fun σ13 H => ?_)
          refine j_aload_n (pc := 58) dX12_operand_58 rfl ?_
          refine j_dup (pc := 59) dX12_operand_59 rfl ?_
          refine s_geti (pc := 60) 3542 (rg σ13 3542) dX12_operand_60 fl_X12_187 shp_55 rfl rfl rfl ?_
          refine j_iconst (pc := 63) (v := 1) dX12_operand_63 (by decide) ?_
          refine j_isub (pc := 64) dX12_operand_64 ?_
          refine s_put (pc := 65) 3542 dX12_operand_65 fl_X12_187 shp_55 rfl rfl fp_12_22 rfl rfl ?_
          refine j_aload_n (pc := 68) dX12_operand_68 rfl ?_
          refine j_iload_n (pc := 69) dX12_operand_69 rfl ?_
          refine j_bipush (pc := 70) (v := 33) dX12_operand_70 (by decide) ?_
          refine j_icmp_ne (pc := 72) (t := 79) dX12_operand_72 (by decide) (fun c72 => ?_) (fun c72 => ?_)
          · replace H := H.1 c72
            refine j_iconst (pc := 79) (v := 4) dX12_operand_79 (by decide) ?_
            refine j_iconst (pc := 80) (v := 0) dX12_operand_80 (by decide) ?_
            refine s_callV_v (pc := 81) (M1 := M_X12_addStep) (n := 2) (as := [.int 4, .int 0]) (a := 55) (st := []) dX12_operand_81 G_X12_addStep wm_X12_197 (by decide +kernel) rfl (Nat.le_of_ble_eq_true rfl) shp_55 rfl (by show 1 ≤ d; omega) (Nat.le_of_ble_eq_true rfl) (Nat.zero_le _) (Nat.zero_le _) ?_
            refine CV.mono H (fun σ14 H => ?_)
            refine j_goto (pc := 84) (t := 154) dX12_operand_84 (by decide) ?_
            exact s_vret (pc := 154) dX12_operand_154 rfl H
          · replace H := H.2 c72
            refine j_iconst (pc := 75) (v := 3) dX12_operand_75 (by decide) ?_
            refine j_goto (pc := 76) (t := 80) dX12_operand_76 (by decide) ?_
            refine j_iconst (pc := 80) (v := 0) dX12_operand_80 (by decide) ?_
            refine s_callV_v (pc := 81) (M1 := M_X12_addStep) (n := 2) (as := [.int 3, .int 0]) (a := 55) (st := []) dX12_operand_81 G_X12_addStep wm_X12_197 (by decide +kernel) rfl (Nat.le_of_ble_eq_true rfl) shp_55 rfl (by show 1 ≤ d; omega) (Nat.le_of_ble_eq_true rfl) (Nat.zero_le _) (Nat.zero_le _) ?_
            refine CV.mono H (fun σ15 H => ?_)
            refine j_goto (pc := 84) (t := 154) dX12_operand_84 (by decide) ?_
            exact s_vret (pc := 154) dX12_operand_154 rfl H
        · replace H := H.2 c50
          exact s_vret (pc := 53) dX12_operand_53 rfl H
  · replace H := H.2 c9
    refine j_aload_n (pc := 12) dX12_operand_12 rfl ?_
    refine j_iconst (pc := 13) (v := 2) dX12_operand_13 (by decide) ?_
    refine j_iload_n (pc := 14) dX12_operand_14 rfl ?_
    refine s_callS_i (pc := 15) (M1 := M_X12_nameOf) (n := 1) (as := [.int r1]) (st := [.int 2, .ref 55]) dX12_operand_15 G_X12_nameOf wm_X12_201 (by decide +kernel) rfl (Nat.le_of_ble_eq_true rfl) (by show 1 ≤ d; omega) (Nat.le_of_ble_eq_true rfl) ?_
    refine CI.mono H (fun r16 σ16 H => ?_)
    refine s_callV_v (pc := 18) (M1 := M_X12_addStep) (n := 2) (as := [.int 2, .int r16]) (a := 55) (st := []) dX12_operand_18 G_X12_addStep wm_X12_197 (by decide +kernel) rfl (Nat.le_of_ble_eq_true rfl) shp_55 rfl (by show 1 ≤ d; omega) (Nat.le_of_ble_eq_true rfl) (Nat.zero_le _) (Nat.zero_le _) ?_
    refine CV.mono H (fun σ17 H => ?_)
    refine j_aload_n (pc := 21) dX12_operand_21 rfl ?_
    refine j_dup (pc := 22) dX12_operand_22 rfl ?_
    refine s_geti (pc := 23) 3540 (rg σ17 3540) dX12_operand_23 fl_X12_178 shp_55 rfl rfl rfl ?_
    refine j_iconst (pc := 26) (v := 1) dX12_operand_26 (by decide) ?_
    refine j_iadd (pc := 27) dX12_operand_27 ?_
    refine s_put (pc := 28) 3540 dX12_operand_28 fl_X12_178 shp_55 rfl rfl fp_12_20 rfl rfl ?_
    refine j_goto (pc := 31) (t := 154) dX12_operand_31 (by decide) ?_
    exact s_vret (pc := 154) dX12_operand_154 rfl H
