/-! helper rows of the trees -/
theorem shp_0 : am_shp[0]? = some (.inl (11, [some 1, some 8, some 11, some 14, some 19, some 31, some 32, some 34, some 39, some 42, none, none])) := rfl
theorem shp_1 : am_shp[1]? = some (.inl (2, [none, none, none, none, none, some 2, some 3, some 4, some 5, some 6, some 7])) := rfl
theorem shp_2 : am_shp[2]? = some (.inr (.int, 5, [])) := rfl
theorem shp_3 : am_shp[3]? = some (.inr (.int, 5, [])) := rfl
theorem shp_4 : am_shp[4]? = some (.inr (.int, 5, [])) := rfl
theorem shp_5 : am_shp[5]? = some (.inr (.int, 7, [])) := rfl
theorem shp_6 : am_shp[6]? = some (.inr (.int, 7, [])) := rfl
theorem shp_7 : am_shp[7]? = some (.inr (.int, 7, [])) := rfl
theorem shp_8 : am_shp[8]? = some (.inl (10, [some 9, none, some 10, none, none, none])) := rfl
theorem shp_9 : am_shp[9]? = some (.inr (.int, 120, [])) := rfl
theorem shp_10 : am_shp[10]? = some (.inr (.int, 121, [])) := rfl
theorem shp_11 : am_shp[11]? = some (.inl (4, [some 12, none, some 13, none])) := rfl
theorem shp_12 : am_shp[12]? = some (.inr (.int, 121, [])) := rfl
theorem shp_13 : am_shp[13]? = some (.inr (.int, 121, [])) := rfl
theorem shp_14 : am_shp[14]? = some (.inl (6, [some 1, some 11, some 15, some 16, some 17, some 18])) := rfl
theorem shp_15 : am_shp[15]? = some (.inr (.int, 5, [])) := rfl
theorem shp_16 : am_shp[16]? = some (.inr (.int, 5, [])) := rfl
theorem shp_17 : am_shp[17]? = some (.inr (.int, 7, [])) := rfl
theorem shp_18 : am_shp[18]? = some (.inr (.int, 35, [])) := rfl
theorem shp_19 : am_shp[19]? = some (.inl (7, [some 20, some 24, some 25, some 26, some 27, some 28, some 29, some 30, none])) := rfl
theorem shp_20 : am_shp[20]? = some (.inl (9, [some 21, some 22, some 23, none])) := rfl
theorem shp_21 : am_shp[21]? = some (.inr (.int, 60, [])) := rfl
theorem shp_22 : am_shp[22]? = some (.inr (.int, 60, [])) := rfl
theorem shp_23 : am_shp[23]? = some (.inr (.int, 4, [])) := rfl
theorem shp_24 : am_shp[24]? = some (.inr (.int, 630, [])) := rfl
theorem shp_25 : am_shp[25]? = some (.inr (.int, 630, [])) := rfl
theorem shp_26 : am_shp[26]? = some (.inr (.int, 630, [])) := rfl
theorem shp_27 : am_shp[27]? = some (.inr (.int, 630, [])) := rfl
theorem shp_28 : am_shp[28]? = some (.inr (.int, 630, [])) := rfl
theorem shp_29 : am_shp[29]? = some (.inr (.int, 630, [])) := rfl
theorem shp_30 : am_shp[30]? = some (.inr (.int, 2048, [])) := rfl
theorem shp_31 : am_shp[31]? = some (.inl (1, [none, none, none, none])) := rfl
theorem shp_32 : am_shp[32]? = some (.inl (3, [some 33, none, none, none])) := rfl
theorem shp_33 : am_shp[33]? = some (.inr (.int, 7, [])) := rfl
theorem shp_34 : am_shp[34]? = some (.inl (5, [some 35, some 36, some 37, some 38, none, none])) := rfl
theorem shp_35 : am_shp[35]? = some (.inr (.int, 40, [])) := rfl
theorem shp_36 : am_shp[36]? = some (.inr (.int, 40, [])) := rfl
theorem shp_37 : am_shp[37]? = some (.inr (.int, 40, [])) := rfl
theorem shp_38 : am_shp[38]? = some (.inr (.int, 40, [])) := rfl
theorem shp_39 : am_shp[39]? = some (.inl (0, [some 40, none, some 41, none, none])) := rfl
theorem shp_40 : am_shp[40]? = some (.inr (.int, 50, [])) := rfl
theorem shp_41 : am_shp[41]? = some (.inr (.int, 24, [])) := rfl
theorem shp_42 : am_shp[42]? = some (.inr (.object "SmallerOut$Shelf", 6, [43, 45, 47, 49, 51, 53])) := rfl
theorem shp_43 : am_shp[43]? = some (.inl (8, [none, none, none, some 44])) := rfl
theorem shp_44 : am_shp[44]? = some (.inr (.long, 60, [])) := rfl
theorem shp_45 : am_shp[45]? = some (.inl (8, [none, none, none, some 46])) := rfl
theorem shp_46 : am_shp[46]? = some (.inr (.long, 60, [])) := rfl
theorem shp_47 : am_shp[47]? = some (.inl (8, [none, none, none, some 48])) := rfl
theorem shp_48 : am_shp[48]? = some (.inr (.long, 60, [])) := rfl
theorem shp_49 : am_shp[49]? = some (.inl (8, [none, none, none, some 50])) := rfl
theorem shp_50 : am_shp[50]? = some (.inr (.long, 60, [])) := rfl
theorem shp_51 : am_shp[51]? = some (.inl (8, [none, none, none, some 52])) := rfl
theorem shp_52 : am_shp[52]? = some (.inr (.long, 60, [])) := rfl
theorem shp_53 : am_shp[53]? = some (.inl (8, [none, none, none, some 54])) := rfl
theorem shp_54 : am_shp[54]? = some (.inr (.long, 60, [])) := rfl
theorem shp_55 : am_shp[55]? = some (.inl (12, [none, none, none, some 56, some 57, some 58, none, some 59, some 60, none, none, none, none, none, some 61, some 62, some 63, some 64, some 65, none, none, none, none, none, some 66, some 67, some 68, some 69, some 70, some 71, some 72, none, some 73, some 74, some 75, none, none, some 76, some 77, some 78, none, none, none, none, none, none, none, none, none, none, some 79, none, some 80, some 81, some 82, some 83, some 84])) := rfl
theorem shp_56 : am_shp[56]? = some (.inr (.int, 5, [])) := rfl
theorem shp_57 : am_shp[57]? = some (.inr (.int, 5, [])) := rfl
theorem shp_58 : am_shp[58]? = some (.inr (.int, 5, [])) := rfl
theorem shp_59 : am_shp[59]? = some (.inr (.int, 7, [])) := rfl
theorem shp_60 : am_shp[60]? = some (.inr (.int, 7, [])) := rfl
theorem shp_61 : am_shp[61]? = some (.inr (.int, 40, [])) := rfl
theorem shp_62 : am_shp[62]? = some (.inr (.int, 40, [])) := rfl
theorem shp_63 : am_shp[63]? = some (.inr (.int, 40, [])) := rfl
theorem shp_64 : am_shp[64]? = some (.inr (.int, 40, [])) := rfl
theorem shp_65 : am_shp[65]? = some (.inr (.byte, 120, [])) := rfl
theorem shp_66 : am_shp[66]? = some (.inr (.byte, 260, [])) := rfl
theorem shp_67 : am_shp[67]? = some (.inr (.int, 260, [])) := rfl
theorem shp_68 : am_shp[68]? = some (.inr (.int, 2, [])) := rfl
theorem shp_69 : am_shp[69]? = some (.inr (.short, 122, [])) := rfl
theorem shp_70 : am_shp[70]? = some (.inr (.short, 122, [])) := rfl
theorem shp_71 : am_shp[71]? = some (.inr (.int, 6, [])) := rfl
theorem shp_72 : am_shp[72]? = some (.inr (.int, 130, [])) := rfl
theorem shp_73 : am_shp[73]? = some (.inr (.boolean, 245, [])) := rfl
theorem shp_74 : am_shp[74]? = some (.inr (.int, 5, [])) := rfl
theorem shp_75 : am_shp[75]? = some (.inr (.int, 5, [])) := rfl
theorem shp_76 : am_shp[76]? = some (.inr (.short, 16384, [])) := rfl
theorem shp_77 : am_shp[77]? = some (.inr (.short, 16384, [])) := rfl
theorem shp_78 : am_shp[78]? = some (.inr (.byte, 16384, [])) := rfl
theorem shp_79 : am_shp[79]? = some (.inr (.int, 50, [])) := rfl
theorem shp_80 : am_shp[80]? = some (.inr (.int, 24, [])) := rfl
theorem shp_81 : am_shp[81]? = some (.inr (.int, 6, [])) := rfl
theorem shp_82 : am_shp[82]? = some (.inr (.int, 6, [])) := rfl
theorem shp_83 : am_shp[83]? = some (.inr (.long, 360, [])) := rfl
theorem shp_84 : am_shp[84]? = some (.inr (.long, 60, [])) := rfl
theorem shp_s {k : Nat} (h : k < 6) : am_shp[43 + 2 * k]? = some (.inl (8, [none, none, none, some (44 + 2 * k)])) := by
  match k, h with
  | 0, _ => rfl
  | 1, _ => rfl
  | 2, _ => rfl
  | 3, _ => rfl
  | 4, _ => rfl
  | 5, _ => rfl
  | n + 6, h => omega
theorem shp_e {k : Nat} (h : k < 6) : am_shp[44 + 2 * k]? = some (.inr (.long, 60, [])) := by
  match k, h with
  | 0, _ => rfl
  | 1, _ => rfl
  | 2, _ => rfl
  | 3, _ => rfl
  | 4, _ => rfl
  | 5, _ => rfl
  | n + 6, h => omega
theorem shelf_at {k : Nat} (h : k < 6) : ([43, 45, 47, 49, 51, 53] : List Nat)[k]? = some (43 + 2 * k) := by
  match k, h with
  | 0, _ => rfl
  | 1, _ => rfl
  | 2, _ => rfl
  | 3, _ => rfl
  | 4, _ => rfl
  | 5, _ => rfl
  | n + 6, h => omega
theorem in_lt {i : Int32} {n : Nat} (h : vp_in i n) : i.toNatClampNeg < n := Nat.not_le.mp fun q => h (Or.inr q)
theorem nar01 {i : Int32} (h : i = 0 ∨ i = 1) : narrow .boolean (.int i) = .int i := by
  rcases h with rfl | rfl <;> rfl
theorem sw_cases (x : Int32) (lo hi : Int) : (x.toInt < lo ∨ hi < x.toInt) ∨ ¬ (x.toInt < lo ∨ hi < x.toInt) := by
  omega
theorem ne_toInt {x k : Int32} {a : Int} (h : ¬ x = k) (hk : k.toInt = a) : x.toInt ≠ a := fun e => h (Int32.toInt_inj.mp (e.trans hk.symm))
section SubJ
variable {l : Launch} {g : am_G} {x : am_X} {pc : Nat} {lv : List (Nat × Value)} {st : List Value} {h : am_H} {u w : Nat} {K : Option Value → am_H → Prop}
theorem am_lv_pick (g : am_G) (lv : List (Nat × Value)) (ks : List Nat) : lv_pick (am_lv g lv) ks = am_lv g (lv_pick lv ks) := by
  unfold lv_pick am_lv
  rw [List.map_filterMap]
  congr 1
  funext k
  rw [List.getElem?_map]
theorem j_sub {lv1 : List (Nat × Value)} (ks : List Nat) (hl : lv_pick lv ks = lv1) (k : J l g x pc lv1 st h u w K) : J l g x pc lv st h u w K :=
  fun p e R s m args below meth c Q H locs ls F I hv hr => k p e R s m args below meth c Q H locs ls F I (lv_sub hv ks (by rw [am_lv_pick, hl])) hr
theorem j_topi {a : Int32} (k : ∀ y : Int32, y = a → J l g x pc lv (.int y :: st) h u w K) : J l g x pc lv (.int a :: st) h u w K := k a rfl
theorem j_topl {a : Int64} (k : ∀ y : Int64, y = a → J l g x pc lv (.long y :: st) h u w K) : J l g x pc lv (.long a :: st) h u w K := k a rfl
end SubJ
theorem sw_end_0_3 {x : Int32} (h : ¬ (x.toInt < 0 ∨ 3 < x.toInt)) (h0 : ¬ x = 0) (h1 : ¬ x = 1) (h2 : ¬ x = 2) (h3 : ¬ x = 3) : False := by
  have e0 := ne_toInt h0 (a := 0) (by decide)
  have e1 := ne_toInt h1 (a := 1) (by decide)
  have e2 := ne_toInt h2 (a := 2) (by decide)
  have e3 := ne_toInt h3 (a := 3) (by decide)
  omega
theorem sw_end_97_107 {x : Int32} (h : ¬ (x.toInt < 97 ∨ 107 < x.toInt)) (h97 : ¬ x = 97) (h98 : ¬ x = 98) (h99 : ¬ x = 99) (h100 : ¬ x = 100) (h101 : ¬ x = 101) (h102 : ¬ x = 102) (h103 : ¬ x = 103) (h104 : ¬ x = 104) (h105 : ¬ x = 105) (h106 : ¬ x = 106) (h107 : ¬ x = 107) : False := by
  have e97 := ne_toInt h97 (a := 97) (by decide)
  have e98 := ne_toInt h98 (a := 98) (by decide)
  have e99 := ne_toInt h99 (a := 99) (by decide)
  have e100 := ne_toInt h100 (a := 100) (by decide)
  have e101 := ne_toInt h101 (a := 101) (by decide)
  have e102 := ne_toInt h102 (a := 102) (by decide)
  have e103 := ne_toInt h103 (a := 103) (by decide)
  have e104 := ne_toInt h104 (a := 104) (by decide)
  have e105 := ne_toInt h105 (a := 105) (by decide)
  have e106 := ne_toInt h106 (a := 106) (by decide)
  have e107 := ne_toInt h107 (a := 107) (by decide)
  omega
theorem sw_end_0_6 {x : Int32} (h : ¬ (x.toInt < 0 ∨ 6 < x.toInt)) (h0 : ¬ x = 0) (h1 : ¬ x = 1) (h2 : ¬ x = 2) (h3 : ¬ x = 3) (h4 : ¬ x = 4) (h5 : ¬ x = 5) (h6 : ¬ x = 6) : False := by
  have e0 := ne_toInt h0 (a := 0) (by decide)
  have e1 := ne_toInt h1 (a := 1) (by decide)
  have e2 := ne_toInt h2 (a := 2) (by decide)
  have e3 := ne_toInt h3 (a := 3) (by decide)
  have e4 := ne_toInt h4 (a := 4) (by decide)
  have e5 := ne_toInt h5 (a := 5) (by decide)
  have e6 := ne_toInt h6 (a := 6) (by decide)
  omega
theorem sw_end_0_2 {x : Int32} (h : ¬ (x.toInt < 0 ∨ 2 < x.toInt)) (h0 : ¬ x = 0) (h1 : ¬ x = 1) (h2 : ¬ x = 2) : False := by
  have e0 := ne_toInt h0 (a := 0) (by decide)
  have e1 := ne_toInt h1 (a := 1) (by decide)
  have e2 := ne_toInt h2 (a := 2) (by decide)
  omega
theorem sw_end_37_62 {x : Int32} (h : ¬ (x.toInt < 37 ∨ 62 < x.toInt)) (h37 : ¬ x = 37) (h38 : ¬ x = 38) (h39 : ¬ x = 39) (h40 : ¬ x = 40) (h41 : ¬ x = 41) (h42 : ¬ x = 42) (h43 : ¬ x = 43) (h44 : ¬ x = 44) (h45 : ¬ x = 45) (h46 : ¬ x = 46) (h47 : ¬ x = 47) (h48 : ¬ x = 48) (h49 : ¬ x = 49) (h50 : ¬ x = 50) (h51 : ¬ x = 51) (h52 : ¬ x = 52) (h53 : ¬ x = 53) (h54 : ¬ x = 54) (h55 : ¬ x = 55) (h56 : ¬ x = 56) (h57 : ¬ x = 57) (h58 : ¬ x = 58) (h59 : ¬ x = 59) (h60 : ¬ x = 60) (h61 : ¬ x = 61) (h62 : ¬ x = 62) : False := by
  have e37 := ne_toInt h37 (a := 37) (by decide)
  have e38 := ne_toInt h38 (a := 38) (by decide)
  have e39 := ne_toInt h39 (a := 39) (by decide)
  have e40 := ne_toInt h40 (a := 40) (by decide)
  have e41 := ne_toInt h41 (a := 41) (by decide)
  have e42 := ne_toInt h42 (a := 42) (by decide)
  have e43 := ne_toInt h43 (a := 43) (by decide)
  have e44 := ne_toInt h44 (a := 44) (by decide)
  have e45 := ne_toInt h45 (a := 45) (by decide)
  have e46 := ne_toInt h46 (a := 46) (by decide)
  have e47 := ne_toInt h47 (a := 47) (by decide)
  have e48 := ne_toInt h48 (a := 48) (by decide)
  have e49 := ne_toInt h49 (a := 49) (by decide)
  have e50 := ne_toInt h50 (a := 50) (by decide)
  have e51 := ne_toInt h51 (a := 51) (by decide)
  have e52 := ne_toInt h52 (a := 52) (by decide)
  have e53 := ne_toInt h53 (a := 53) (by decide)
  have e54 := ne_toInt h54 (a := 54) (by decide)
  have e55 := ne_toInt h55 (a := 55) (by decide)
  have e56 := ne_toInt h56 (a := 56) (by decide)
  have e57 := ne_toInt h57 (a := 57) (by decide)
  have e58 := ne_toInt h58 (a := 58) (by decide)
  have e59 := ne_toInt h59 (a := 59) (by decide)
  have e60 := ne_toInt h60 (a := 60) (by decide)
  have e61 := ne_toInt h61 (a := 61) (by decide)
  have e62 := ne_toInt h62 (a := 62) (by decide)
  omega
