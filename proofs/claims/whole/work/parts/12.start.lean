/-! the start: what the law makes, and what the Statement gives -/
def σ_0 : am_S := (fun j => if j = 67 then (-1) else if j = 68 then 5 else if j = 517 then (-1) else if j = 1987 then (-2) else if j = 2050 then (-1) else if j = 2752 then (-1) else if j = 2753 then (-1) else if j = 2880 then (-1) else if j = 2881 then (-1) else if j = 3008 then (-1) else if j = 3009 then (-1) else if j = 3136 then (-1) else if j = 3137 then (-1) else if j = 3264 then (-1) else if j = 3265 then (-1) else if j = 3392 then (-1) else if j = 3393 then (-1) else if j = 3530 then (-1) else if j = 3531 then 5 else 0, fun a => if a = 81 then upd (upd (upd (upd (upd (upd (fun _ => 0) 0 (-1)) 1 (-1)) 2 (-1)) 3 (-1)) 4 (-1)) 5 (-1) else fun _ => 0, fun _ _ => 0)
def go_i {α β : Type} (f : Nat → α → β) : Nat → List α → List β
  | _, [] => []
  | a, s :: t => f a s :: go_i f (a + 1) t
theorem go_mapIdx {α β : Type} : ∀ (l : List α) (f : Nat → α → β) (n : Nat), l.mapIdx (fun k => f (n + k)) = go_i f n l
  | [], _, _ => rfl
  | a :: t, f, n => by
    rw [List.mapIdx_cons]
    show f (n + 0) a :: _ = f n a :: go_i f (n + 1) t
    rw [← go_mapIdx t f (n + 1)]
    congr 2
    funext k
    rw [Nat.add_assoc, Nat.add_comm 1 k]
theorem go_mapIdx0 {α β : Type} (l : List α) (f : Nat → α → β) : l.mapIdx f = go_i f 0 l := by
  rw [← go_mapIdx]
  congr 1
  funext k
  rw [Nat.zero_add]
theorem sh42 : (va_up (va_up (va_up (va_up (va_up (va_up (fun _ => none) 0 (some 43)) 1 (some 45)) 2 (some 47)) 3 (some 49)) 4 (some 51)) 5 (some 53) : Nat → Option Nat) = (fun j => ([43, 45, 47, 49, 51, 53] : List Nat)[j]?) := by
  funext j
  match j with
  | 0 => rfl
  | 1 => rfl
  | 2 => rfl
  | 3 => rfl
  | 4 => rfl
  | 5 => rfl
  | n + 6 => simp [va_up]
def am_cell2 (σ : am_S) (a : Nat) (s : am_Sh) : am_E := match s with
  | .inl (ci, fl) => .inr (ci, go_i (am_fv σ a) 0 fl)
  | .inr q => am_cell σ a (.inr q)
theorem am_cell2_eq (σ : am_S) : am_cell σ = am_cell2 σ := by
  funext a s
  match s with
  | .inl (ci, fl) =>
    show Sum.inr (ci, fl.mapIdx (am_fv σ a)) = Sum.inr (ci, go_i (am_fv σ a) 0 fl)
    rw [go_mapIdx0]
  | .inr q => rfl
theorem hp_go (σ : am_S) : hp σ = go_i (am_cell2 σ) 0 am_shp := by
  rw [hp_eq, go_mapIdx0, am_cell2_eq]
set_option maxRecDepth 100000 in
theorem h_0 : (h_C ++ [.inr (12, [.int 0, .int 0, .int 0, .ref 56, .ref 57, .ref 58, .int 0, .ref 59, .ref 60, .int 0, .int (-1), .int 5, .int 0, .int 0, .ref 61, .ref 62, .ref 63, .ref 64, .ref 65, .int 0, .int 0, .int 0, .int 0, .int 0, .ref 66, .ref 67, .ref 68, .ref 69, .ref 70, .ref 71, .ref 72, .int 0, .ref 73, .ref 74, .ref 75, .int 0, .int 0, .ref 76, .ref 77, .ref 78, .int 0, .int 0, .int 0, .int 0, .int 0, .int 0, .int 0, .int 0, .int 0, .int 0, .ref 79, .int 0, .ref 80, .ref 81, .ref 82, .ref 83, .ref 84]), .inl (.int, 5, .inl (fun _ => 0)), .inl (.int, 5, .inl (fun _ => 0)), .inl (.int, 5, .inl (fun _ => 0)), .inl (.int, 7, .inl (fun _ => 0)), .inl (.int, 7, .inl (fun _ => 0)), .inl (.int, 40, .inl (fun _ => 0)), .inl (.int, 40, .inl (fun _ => 0)), .inl (.int, 40, .inl (fun _ => 0)), .inl (.int, 40, .inl (fun _ => 0)), .inl (.byte, 120, .inl (fun _ => 0)), .inl (.byte, 260, .inl (fun _ => 0)), .inl (.int, 260, .inl (fun _ => 0)), .inl (.int, 2, .inl (fun _ => 0)), .inl (.short, 122, .inl (fun _ => 0)), .inl (.short, 122, .inl (fun _ => 0)), .inl (.int, 6, .inl (fun _ => 0)), .inl (.int, 130, .inl (fun _ => 0)), .inl (.boolean, 245, .inl (fun _ => 0)), .inl (.int, 5, .inl (fun _ => 0)), .inl (.int, 5, .inl (fun _ => 0)), .inl (.short, 16384, .inl (fun _ => 0)), .inl (.short, 16384, .inl (fun _ => 0)), .inl (.byte, 16384, .inl (fun _ => 0)), .inl (.int, 50, .inl (fun _ => 0)), .inl (.int, 24, .inl (fun _ => 0)), .inl (.int, 6, .inl (upd (upd (upd (upd (upd (upd (fun _ => 0) 0 (-1)) 1 (-1)) 2 (-1)) 3 (-1)) 4 (-1)) 5 (-1))), .inl (.int, 6, .inl (fun _ => 0)), .inl (.long, 360, .inr (.inl (fun _ => 0))), .inl (.long, 60, .inr (.inl (fun _ => 0)))] : am_H) = hp σ_0 := by
  rw [hp_go]
  unfold h_C
  rw [sh42]
  rfl
set_option maxRecDepth 100000 in
set_option maxHeartbeats 4000000 in
theorem law_J {l : Launch} {g : am_G} {k : Int32 → am_S → Prop} (H : JW l g 1000 18 [(0, .ref 1000), (1, .ref 0), (2, .ref 55), (3, .int 0)] [] σ_0 k) : J l g (M_L_law, 1000, 85, 58406) 0 [(0, .ref 1000)] [] [] 0 0 (kI k) := by
  refine j_new (pc := 0) (ci := 11) (fs := [.null, .null, .null, .null, .null, .null, .null, .null, .null, .null, .int 0, .int 0]) dL_law_0 rfl K_11 tyX11 tyX11_ok wc_L_7 (by decide +kernel) rfl (Nat.le_of_ble_eq_true rfl) (Nat.le_of_ble_eq_true rfl) (Nat.le_of_ble_eq_true rfl) ?_
  refine j_dup (pc := 3) dL_law_3 rfl ?_
  refine j_callI (pc := 4) (M1 := M_X11_init) (cm := 54) (sm := 7213) (n := 0) (as := []) (a := 0) (st := [.ref 0]) "" dL_law_4 (ct_X11_init_0 (d := 1000 - 1) (by omega)) G_X11_init rfl rfl wi_X11_init ni_L_9 (by decide +kernel) rfl (Nat.le_of_ble_eq_true rfl) (Nat.le_of_ble_eq_true rfl) (Nat.le_of_ble_eq_true rfl) (Nat.le_of_ble_eq_true rfl) (Nat.le_of_ble_eq_true rfl) ?_
  rintro v h1 ⟨rfl, rfl⟩
  refine ⟨rfl, ?_⟩
  refine j_heap (h1 := h_C) rfl ?_
  refine j_astore_n (pc := 7) (lv1 := [(1, .ref 0), (0, .ref 1000)]) dL_law_7 (Nat.le_of_ble_eq_true rfl) rfl ?_
  refine j_new (pc := 8) (ci := 12) (fs := [.int 0, .int 0, .int 0, .null, .null, .null, .int 0, .null, .null, .int 0, .int 0, .int 0, .int 0, .int 0, .null, .null, .null, .null, .null, .int 0, .int 0, .int 0, .int 0, .int 0, .null, .null, .null, .null, .null, .null, .null, .int 0, .null, .null, .null, .int 0, .int 0, .null, .null, .null, .int 0, .int 0, .int 0, .int 0, .int 0, .int 0, .int 0, .int 0, .int 0, .int 0, .null, .int 0, .null, .null, .null, .null, .null]) dL_law_8 rfl K_12 tyX12 tyX12_ok wc_L_10 (by decide +kernel) rfl (Nat.le_of_ble_eq_true rfl) (Nat.le_of_ble_eq_true rfl) (Nat.le_of_ble_eq_true rfl) ?_
  refine j_dup (pc := 11) dL_law_11 rfl ?_
  refine j_callI (pc := 12) (M1 := M_X12_init) (cm := 29) (sm := 51124) (n := 0) (as := []) (a := 55) (st := [.ref 55]) "" dL_law_12 (ct_X12_init_0 (d := 1000 - 1) (by omega)) G_X12_init rfl rfl wi_X12_init ni_L_12 (by decide +kernel) rfl (Nat.le_of_ble_eq_true rfl) (Nat.le_of_ble_eq_true rfl) (Nat.le_of_ble_eq_true rfl) (Nat.le_of_ble_eq_true rfl) (Nat.le_of_ble_eq_true rfl) ?_
  rintro v h1 ⟨rfl, rfl⟩
  refine ⟨rfl, ?_⟩
  refine j_heap (h1 := hp σ_0) h_0 ?_
  refine j_astore_n (pc := 15) (lv1 := [(2, .ref 55), (1, .ref 0), (0, .ref 1000)]) dL_law_15 (Nat.le_of_ble_eq_true rfl) rfl ?_
  refine j_iconst (pc := 16) (v := 0) dL_law_16 (by decide) ?_
  refine j_istore_n (pc := 17) (lv1 := [(3, .int 0), (2, .ref 55), (1, .ref 0), (0, .ref 1000)]) dL_law_17 (Nat.le_of_ble_eq_true rfl) rfl ?_
  refine j_sub [3, 2, 1, 0] rfl ?_
  exact H
theorem st_ABOVE {s : State} {b : Nat} {A : Nat → Prop} (hg : (Jvm.Cond.and given_1 narrow_1).before #[Value.ref b] s = true) (hts : ∀ w ∈ lw_tbl, w.before #[Value.ref b] s = true) (hA : ∀ a : Nat, a < s.heap.size → ¬ A a) : ∃ t : Nat, va_Z "SmallerOut$Acts" "ABOVE" "[I" (.ref t) A s s.heap ∧ va_T .int t 8 (fun j => .int (am_above j)) A s s.heap := by
  have hs := flat_of_before _ hg
  obtain ⟨t, h1, h2⟩ := va_Tof (tm := .static "SmallerOut$Acts" "ABOVE" "[I") (ty := .int) (N := 8) (f := fun j => .int (am_above j)) (A := A) (by decide) (hs _ (by decide +kernel)) (Cond.eq_int (hs (.eq (.length (.static "SmallerOut$Acts" "ABOVE" "[I")) (.int 8)) (by decide +kernel)) rfl) (by
    intro j hj
    match j, hj with
    | 0, _ => exact Cond.eq_int (n := (-1)) (hs (.eq (.elem (.static "SmallerOut$Acts" "ABOVE" "[I") (.int 0)) (.int (-1))) (by decide +kernel)) rfl
    | 1, _ => exact Cond.eq_int (n := 0) (hs (.eq (.elem (.static "SmallerOut$Acts" "ABOVE" "[I") (.int 1)) (.int 0)) (by decide +kernel)) rfl
    | 2, _ => exact Cond.eq_int (n := 0) (hs (.eq (.elem (.static "SmallerOut$Acts" "ABOVE" "[I") (.int 2)) (.int 0)) (by decide +kernel)) rfl
    | 3, _ => exact Cond.eq_int (n := 2) (hs (.eq (.elem (.static "SmallerOut$Acts" "ABOVE" "[I") (.int 3)) (.int 2)) (by decide +kernel)) rfl
    | 4, _ => exact Cond.eq_int (n := 1) (hs (.eq (.elem (.static "SmallerOut$Acts" "ABOVE" "[I") (.int 4)) (.int 1)) (by decide +kernel)) rfl
    | 5, _ => exact Cond.eq_int (n := 3) (hs (.eq (.elem (.static "SmallerOut$Acts" "ABOVE" "[I") (.int 5)) (.int 3)) (by decide +kernel)) rfl
    | 6, _ => exact Cond.eq_int (n := 0) (hs (.eq (.elem (.static "SmallerOut$Acts" "ABOVE" "[I") (.int 6)) (.int 0)) (by decide +kernel)) rfl
    | 7, _ => exact Cond.eq_int (n := 6) (hs (.eq (.elem (.static "SmallerOut$Acts" "ABOVE" "[I") (.int 7)) (.int 6)) (by decide +kernel)) rfl
    | n + 8, h => omega) hA
  exact ⟨t, va_Zref (hts _ (List.mem_of_getElem? (i := 921) (by decide +kernel))) (hts _ (List.mem_of_getElem? (i := 96) (by decide +kernel))) h1 hA, h2⟩
theorem st_OWN {s : State} {b : Nat} {A : Nat → Prop} (hg : (Jvm.Cond.and given_1 narrow_1).before #[Value.ref b] s = true) (hts : ∀ w ∈ lw_tbl, w.before #[Value.ref b] s = true) (hA : ∀ a : Nat, a < s.heap.size → ¬ A a) : ∃ t : Nat, va_Z "SmallerOut$Acts" "OWN" "[I" (.ref t) A s s.heap ∧ va_T .int t 32 (fun j => .int (am_own j)) A s s.heap := by
  have hs := flat_of_before _ hg
  obtain ⟨t, h1, h2⟩ := va_Tof (tm := .static "SmallerOut$Acts" "OWN" "[I") (ty := .int) (N := 32) (f := fun j => .int (am_own j)) (A := A) (by decide) (hs _ (by decide +kernel)) (Cond.eq_int (hs (.eq (.length (.static "SmallerOut$Acts" "OWN" "[I")) (.int 32)) (by decide +kernel)) rfl) (by
    intro j hj
    match j, hj with
    | 0, _ => exact Cond.eq_int (n := 1) (hs (.eq (.elem (.static "SmallerOut$Acts" "OWN" "[I") (.int 0)) (.int 1)) (by decide +kernel)) rfl
    | 1, _ => exact Cond.eq_int (n := 10) (hs (.eq (.elem (.static "SmallerOut$Acts" "OWN" "[I") (.int 1)) (.int 10)) (by decide +kernel)) rfl
    | 2, _ => exact Cond.eq_int (n := 11) (hs (.eq (.elem (.static "SmallerOut$Acts" "OWN" "[I") (.int 2)) (.int 11)) (by decide +kernel)) rfl
    | 3, _ => exact Cond.eq_int (n := 2) (hs (.eq (.elem (.static "SmallerOut$Acts" "OWN" "[I") (.int 3)) (.int 2)) (by decide +kernel)) rfl
    | 4, _ => exact Cond.eq_int (n := 20) (hs (.eq (.elem (.static "SmallerOut$Acts" "OWN" "[I") (.int 4)) (.int 20)) (by decide +kernel)) rfl
    | 5, _ => exact Cond.eq_int (n := 0) (hs (.eq (.elem (.static "SmallerOut$Acts" "OWN" "[I") (.int 5)) (.int 0)) (by decide +kernel)) rfl
    | 6, _ => exact Cond.eq_int (n := 0) (hs (.eq (.elem (.static "SmallerOut$Acts" "OWN" "[I") (.int 6)) (.int 0)) (by decide +kernel)) rfl
    | 7, _ => exact Cond.eq_int (n := 0) (hs (.eq (.elem (.static "SmallerOut$Acts" "OWN" "[I") (.int 7)) (.int 0)) (by decide +kernel)) rfl
    | 8, _ => exact Cond.eq_int (n := 0) (hs (.eq (.elem (.static "SmallerOut$Acts" "OWN" "[I") (.int 8)) (.int 0)) (by decide +kernel)) rfl
    | 9, _ => exact Cond.eq_int (n := 30) (hs (.eq (.elem (.static "SmallerOut$Acts" "OWN" "[I") (.int 9)) (.int 30)) (by decide +kernel)) rfl
    | 10, _ => exact Cond.eq_int (n := 0) (hs (.eq (.elem (.static "SmallerOut$Acts" "OWN" "[I") (.int 10)) (.int 0)) (by decide +kernel)) rfl
    | 11, _ => exact Cond.eq_int (n := 0) (hs (.eq (.elem (.static "SmallerOut$Acts" "OWN" "[I") (.int 11)) (.int 0)) (by decide +kernel)) rfl
    | 12, _ => exact Cond.eq_int (n := 0) (hs (.eq (.elem (.static "SmallerOut$Acts" "OWN" "[I") (.int 12)) (.int 0)) (by decide +kernel)) rfl
    | 13, _ => exact Cond.eq_int (n := 41) (hs (.eq (.elem (.static "SmallerOut$Acts" "OWN" "[I") (.int 13)) (.int 41)) (by decide +kernel)) rfl
    | 14, _ => exact Cond.eq_int (n := 40) (hs (.eq (.elem (.static "SmallerOut$Acts" "OWN" "[I") (.int 14)) (.int 40)) (by decide +kernel)) rfl
    | 15, _ => exact Cond.eq_int (n := 0) (hs (.eq (.elem (.static "SmallerOut$Acts" "OWN" "[I") (.int 15)) (.int 0)) (by decide +kernel)) rfl
    | 16, _ => exact Cond.eq_int (n := 0) (hs (.eq (.elem (.static "SmallerOut$Acts" "OWN" "[I") (.int 16)) (.int 0)) (by decide +kernel)) rfl
    | 17, _ => exact Cond.eq_int (n := 0) (hs (.eq (.elem (.static "SmallerOut$Acts" "OWN" "[I") (.int 17)) (.int 0)) (by decide +kernel)) rfl
    | 18, _ => exact Cond.eq_int (n := 0) (hs (.eq (.elem (.static "SmallerOut$Acts" "OWN" "[I") (.int 18)) (.int 0)) (by decide +kernel)) rfl
    | 19, _ => exact Cond.eq_int (n := 50) (hs (.eq (.elem (.static "SmallerOut$Acts" "OWN" "[I") (.int 19)) (.int 50)) (by decide +kernel)) rfl
    | 20, _ => exact Cond.eq_int (n := 0) (hs (.eq (.elem (.static "SmallerOut$Acts" "OWN" "[I") (.int 20)) (.int 0)) (by decide +kernel)) rfl
    | 21, _ => exact Cond.eq_int (n := 0) (hs (.eq (.elem (.static "SmallerOut$Acts" "OWN" "[I") (.int 21)) (.int 0)) (by decide +kernel)) rfl
    | 22, _ => exact Cond.eq_int (n := 60) (hs (.eq (.elem (.static "SmallerOut$Acts" "OWN" "[I") (.int 22)) (.int 60)) (by decide +kernel)) rfl
    | 23, _ => exact Cond.eq_int (n := 61) (hs (.eq (.elem (.static "SmallerOut$Acts" "OWN" "[I") (.int 23)) (.int 61)) (by decide +kernel)) rfl
    | 24, _ => exact Cond.eq_int (n := 70) (hs (.eq (.elem (.static "SmallerOut$Acts" "OWN" "[I") (.int 24)) (.int 70)) (by decide +kernel)) rfl
    | 25, _ => exact Cond.eq_int (n := 0) (hs (.eq (.elem (.static "SmallerOut$Acts" "OWN" "[I") (.int 25)) (.int 0)) (by decide +kernel)) rfl
    | 26, _ => exact Cond.eq_int (n := 0) (hs (.eq (.elem (.static "SmallerOut$Acts" "OWN" "[I") (.int 26)) (.int 0)) (by decide +kernel)) rfl
    | 27, _ => exact Cond.eq_int (n := 0) (hs (.eq (.elem (.static "SmallerOut$Acts" "OWN" "[I") (.int 27)) (.int 0)) (by decide +kernel)) rfl
    | 28, _ => exact Cond.eq_int (n := 81) (hs (.eq (.elem (.static "SmallerOut$Acts" "OWN" "[I") (.int 28)) (.int 81)) (by decide +kernel)) rfl
    | 29, _ => exact Cond.eq_int (n := 80) (hs (.eq (.elem (.static "SmallerOut$Acts" "OWN" "[I") (.int 29)) (.int 80)) (by decide +kernel)) rfl
    | 30, _ => exact Cond.eq_int (n := 0) (hs (.eq (.elem (.static "SmallerOut$Acts" "OWN" "[I") (.int 30)) (.int 0)) (by decide +kernel)) rfl
    | 31, _ => exact Cond.eq_int (n := 0) (hs (.eq (.elem (.static "SmallerOut$Acts" "OWN" "[I") (.int 31)) (.int 0)) (by decide +kernel)) rfl
    | n + 32, h => omega) hA
  exact ⟨t, va_Zref (hts _ (List.mem_of_getElem? (i := 919) (by decide +kernel))) (hts _ (List.mem_of_getElem? (i := 96) (by decide +kernel))) h1 hA, h2⟩
theorem st_Amb {s : State} {b L : Nat} {xs : Nat → Int32} (hg : (Jvm.Cond.and given_1 narrow_1).before #[Value.ref b] s = true) (hts : ∀ w ∈ lw_tbl, w.before #[Value.ref b] s = true) (hX : va_X b L xs s s.heap) (hb : b < s.heap.size) : ∃ g : am_G, am_B g = s.heap.size ∧ am_ad g 1000 = b ∧ g.2.2.2 = (L, xs) ∧ am_Amb g s := by
  have hAW : ∀ w ∈ am_AW, w.before #[Value.ref b] s = true := fun w hw => hts w (List.mem_filter.mp hw).1
  have hA : ∀ a : Nat, a < s.heap.size → ¬ (fun q : Nat => s.heap.size ≤ q) a := fun a h => Nat.not_le.mpr h
  obtain ⟨c0, iS0, hKn0⟩ := u_known (C := RX0) (T := TX0) (N := 5) (n := 5) hAW K_0.1 (hts _ (List.mem_of_getElem? (i := 385) (by decide +kernel)))
  obtain ⟨c1, iS1, hKn1⟩ := u_known (C := RX1) (T := TX1) (N := 4) (n := 4) hAW K_1.1 (hts _ (List.mem_of_getElem? (i := 317) (by decide +kernel)))
  obtain ⟨c2, iS2, hKn2⟩ := u_known (C := RX2) (T := TX2) (N := 11) (n := 11) hAW K_2.1 (hts _ (List.mem_of_getElem? (i := 111) (by decide +kernel)))
  obtain ⟨c3, iS3, hKn3⟩ := u_known (C := RX3) (T := TX3) (N := 4) (n := 4) hAW K_3.1 (hts _ (List.mem_of_getElem? (i := 339) (by decide +kernel)))
  obtain ⟨c4, iS4, hKn4⟩ := u_known (C := RX4) (T := TX4) (N := 4) (n := 4) hAW K_4.1 (hts _ (List.mem_of_getElem? (i := 201) (by decide +kernel)))
  obtain ⟨c5, iS5, hKn5⟩ := u_known (C := RX5) (T := TX5) (N := 6) (n := 6) hAW K_5.1 (hts _ (List.mem_of_getElem? (i := 358) (by decide +kernel)))
  obtain ⟨c6, iS6, hKn6⟩ := u_known (C := RX6) (T := TX6) (N := 6) (n := 6) hAW K_6.1 (hts _ (List.mem_of_getElem? (i := 220) (by decide +kernel)))
  obtain ⟨c7, iS7, hKn7⟩ := u_known (C := RX7) (T := TX7) (N := 9) (n := 9) hAW K_7.1 (hts _ (List.mem_of_getElem? (i := 253) (by decide +kernel)))
  obtain ⟨c8, iS8, hKn8⟩ := u_known (C := RX8) (T := TX8) (N := 4) (n := 4) hAW K_8.1 (hts _ (List.mem_of_getElem? (i := 411) (by decide +kernel)))
  obtain ⟨c9, iS9, hKn9⟩ := u_known (C := RX9) (T := TX9) (N := 4) (n := 4) hAW K_9.1 (hts _ (List.mem_of_getElem? (i := 259) (by decide +kernel)))
  obtain ⟨c10, iS10, hKn10⟩ := u_known (C := RX10) (T := TX10) (N := 6) (n := 6) hAW K_10.1 (hts _ (List.mem_of_getElem? (i := 173) (by decide +kernel)))
  obtain ⟨c11, iS11, hKn11⟩ := u_known (C := RX11) (T := TX11) (N := 12) (n := 12) hAW K_11.1 (hts _ (List.mem_of_getElem? (i := 103) (by decide +kernel)))
  obtain ⟨c12, iS12, hKn12⟩ := u_known (C := RX12) (T := TX12) (N := 57) (n := 57) hAW K_12.1 (hts _ (List.mem_of_getElem? (i := 1012) (by decide +kernel)))
  obtain ⟨dC, dI, hKc⟩ : ∃ (dC : Nat → ClassId) (dI : Nat → Nat → Nat), ∀ (k : Nat) (q : vw_C), am_cl[k]? = some q → u_Kn s q.1 q.2.1 q.2.2 (dC k) (dI k) := by
    refine ⟨fun k => if k = 0 then c0 else if k = 1 then c1 else if k = 2 then c2 else if k = 3 then c3 else if k = 4 then c4 else if k = 5 then c5 else if k = 6 then c6 else if k = 7 then c7 else if k = 8 then c8 else if k = 9 then c9 else if k = 10 then c10 else if k = 11 then c11 else c12, fun k => if k = 0 then iS0 else if k = 1 then iS1 else if k = 2 then iS2 else if k = 3 then iS3 else if k = 4 then iS4 else if k = 5 then iS5 else if k = 6 then iS6 else if k = 7 then iS7 else if k = 8 then iS8 else if k = 9 then iS9 else if k = 10 then iS10 else if k = 11 then iS11 else iS12, ?_⟩
    intro k q hq
    match k, hq with
    | 0, hq => cases hq; exact hKn0
    | 1, hq => cases hq; exact hKn1
    | 2, hq => cases hq; exact hKn2
    | 3, hq => cases hq; exact hKn3
    | 4, hq => cases hq; exact hKn4
    | 5, hq => cases hq; exact hKn5
    | 6, hq => cases hq; exact hKn6
    | 7, hq => cases hq; exact hKn7
    | 8, hq => cases hq; exact hKn8
    | 9, hq => cases hq; exact hKn9
    | 10, hq => cases hq; exact hKn10
    | 11, hq => cases hq; exact hKn11
    | 12, hq => cases hq; exact hKn12
    | k + 13, hq => simp [am_cl] at hq
  obtain ⟨aint, kint, qint, fint, gint, eint⟩ := Cond.arrayClass_spec (hts _ (List.mem_of_getElem? (i := 171) (by decide +kernel)) : (Cond.arrayClass .int).before #[Value.ref b] s = true)
  obtain ⟨abyte, kbyte, qbyte, fbyte, gbyte, ebyte⟩ := Cond.arrayClass_spec (hts _ (List.mem_of_getElem? (i := 1188) (by decide +kernel)) : (Cond.arrayClass .byte).before #[Value.ref b] s = true)
  obtain ⟨ashort, kshort, qshort, fshort, gshort, eshort⟩ := Cond.arrayClass_spec (hts _ (List.mem_of_getElem? (i := 1189) (by decide +kernel)) : (Cond.arrayClass .short).before #[Value.ref b] s = true)
  obtain ⟨along, klong, qlong, flong, glong, elong⟩ := Cond.arrayClass_spec (hts _ (List.mem_of_getElem? (i := 433) (by decide +kernel)) : (Cond.arrayClass .long).before #[Value.ref b] s = true)
  obtain ⟨aboolean, kboolean, qboolean, fboolean, gboolean, eboolean⟩ := Cond.arrayClass_spec (hts _ (List.mem_of_getElem? (i := 1190) (by decide +kernel)) : (Cond.arrayClass .boolean).before #[Value.ref b] s = true)
  have hover : va_AO "SmallerOut$Shelf" s := va_AO.of (hts _ (List.mem_of_getElem? (i := 410) (by decide +kernel)))
  obtain ⟨compS, aS, kS, f1S, f2S, f3S, f4S, f5S⟩ := Cond.arrayOver_spec hover
  obtain ⟨t1, hZ1, hT1⟩ := st_ABOVE (A := fun q => s.heap.size ≤ q) hg hts hA
  obtain ⟨t2, hZ2, hT2⟩ := st_OWN (A := fun q => s.heap.size ≤ q) hg hts hA
  refine ⟨((dC, dI), fun ty => match ty with | .int => aint | .byte => abyte | .short => ashort | .long => along | .boolean => aboolean | _ => aS, (s.heap.size, b, t1, t2), L, xs), rfl, rfl, rfl, ?_⟩
  refine ⟨?_, hover, ⟨hKc, ?_⟩, hZ1, hZ2, hT1, hT2, hX, hb, Nat.le_refl _⟩
  · intro w hw
    have h1 := List.mem_filter.mp hw
    refine va_Nw.of ?_ (hts w ?_)
    · have h2 := h1.2
      cases w <;> first | (cases h2; done) | rfl
    · exact List.mem_append_right _ h1.1
  · intro k q hq
    match k, hq with
    | 0, hq => cases hq; exact ⟨fun N z => ⟨(fun k h => by cases h), kint, gint, qint, eint⟩, fint⟩
    | 1, hq => cases hq; exact ⟨fun N z => ⟨(fun k h => by cases h), kbyte, gbyte, qbyte, ebyte⟩, fbyte⟩
    | 2, hq => cases hq; exact ⟨fun N z => ⟨(fun k h => by cases h), kshort, gshort, qshort, eshort⟩, fshort⟩
    | 3, hq => cases hq; exact ⟨fun N z => ⟨(fun k h => by cases h), klong, glong, qlong, elong⟩, flong⟩
    | 4, hq => cases hq; exact ⟨fun N z => ⟨(fun k h => by cases h), kboolean, gboolean, qboolean, eboolean⟩, fboolean⟩
    | 5, hq => cases hq; exact ⟨fun N z => ⟨(fun k h => by cases h), kS, f3S, compS, f4S⟩, kS, compS, f3S, f4S, f1S, f5S⟩
    | k + 6, hq => simp [am_tys] at hq
