/-! the longest evening of the reference; the pair -/
theorem nar_tab : ∀ m : Fin 128, vp_nar .byte (nI m.val).toInt8.toInt32 = nI m.val := by decide +kernel
theorem nar_bN {m : Nat} (h : m < 128) : vp_nar .byte (nI m).toInt8.toInt32 = nI m := nar_tab ⟨m, h⟩
theorem nar_0 : vp_nar .byte 0 = 0 ∧ vp_nar .short 0 = 0 := by decide
section LongM
variable {l : Launch} {g : am_G} {σ0 : am_S} {W : Wd} {a0 : Nat}
theorem MF_cd {G : Nat → Bool} {σ : am_S} (h : MF G σ (bf0 W a0)) {i : Nat} (hi : i < (cds W a0).length) : ar σ 77 i = nI (cdN (cds W a0) i) := by
  obtain ⟨e, h1, h2⟩ := cds_en hi
  have := h.2.1 i e h1
  rw [h2] at this
  exact this.1
theorem MF_len {G : Nat → Bool} {σ : am_S} (h : MF G σ (bf0 W a0)) : rg σ 3560 = nI (cds W a0).length := by
  unfold cds
  rw [List.length_map]
  exact h.1
theorem m_rs51 {d : Nat} {x1 : Int32} {k1 : Int32 → am_S → Prop} (hd : 4 ≤ d) (hW : wd_ok W) (hM : WM W σ0) (ha : a0 < 4 ^ W.2.1) (h60 : rg σ0 3560 = nI (cds W a0).length) (h77 : ∀ i, i < (cds W a0).length → ar σ0 77 i = nI (cdN (cds W a0) i)) (H : k1 (nI (rsN W (cds W a0) (cds W a0).length)) σ0) : ∀ (m h : Nat), h + m = (cds W a0).length →
    JI l g M_X12_reach d 51 [(0, .ref 55), (1, .int x1), (2, .int (nI (rsN W (cds W a0) h))), (3, .int (nI h))] [] σ0 k1
  | 0, h, e => by
    have e : h = (cds W a0).length := by omega
    have l630 := (cds_len hW ha).2
    refine b_X12_reach_51 (by omega) ?_
    rw [h60, e]
    exact ⟨fun _ => H, fun q => absurd ((len (by omega) (by omega)).mpr (Nat.le_refl _)) q⟩
  | m + 1, h, e => by
    have l630 := (cds_len hW ha).2
    have hh : h < (cds W a0).length := by omega
    have rl := rsN_le (W := W) (C := cds W a0) h
    refine b_X12_reach_51 (by omega) ?_
    rw [h60, nI_clamp (n := h) (by omega), h77 h hh, nI_1 h, nI_1 (rsN W (cds W a0) h)]
    have nx := m_rs51 (d := d) (x1 := x1) hd hW hM ha h60 h77 H m (h + 1) (by omega)
    unfold rsN at nx
    refine ⟨fun q => absurd ((len (by omega) (by omega)).mp q) (by omega), fun _ => ⟨vp_in_nI (by omega) (by omega), m_rest (by omega) hW hM (cdN_lt hW ha hh) ?_⟩⟩
    by_cases em : mvs W (cdN (cds W a0) h) = []
    · rw [if_pos em] at nx ⊢
      exact ⟨fun v => absurd v (by decide), fun _ => nx⟩
    · rw [if_neg em, Nat.add_zero] at nx
      rw [if_neg em]
      exact ⟨fun _ => nx, fun v => absurd rfl v⟩
def gP (W : Wd) (a0 h : Nat) (t : Tr) : Nat := pos (cds W a0) (nxt W.2.1 (cdN (cds W a0) h) t)
/-- the edges counted so far -/
def PH (W : Wd) (a0 h z : Nat) (pre : List Tr) (σ0 σ : am_S) : Prop := Fr [] [76, 78] σ0 σ ∧ (∀ i, i < (cds W a0).length → ar σ 78 (cdN (cds W a0) i) = nI (dg (cN W (cds W a0) i) (List.range h) + (pre.map (gP W a0 h)).count i)) ∧ ∀ i, i < (cds W a0).length → i < z → ar σ 76 (cdN (cds W a0) i) = 0
theorem m_lg48 {d h : Nat} {k1 : Int32 → am_S → Prop} (hd : 3 ≤ d) (hW : wd_ok W) (hM : WM W σ0) (ha : a0 < 4 ^ W.2.1) (hh : h < (cds W a0).length) (H : ∀ τ, PH W a0 h (h + 1) (mvs W (cdN (cds W a0) h)) σ0 τ → JI l g M_X12_longest d 24 [(0, .ref 55), (1, .int (nI (h + 1)))] [] τ k1) (σ : am_S) (hc : PH W a0 h (h + 1) [] σ0 σ) :
    JI l g M_X12_longest d 48 [(0, .ref 55), (1, .int (nI h)), (2, .int (nI (cdN (cds W a0) h))), (3, .int (nI 0))] [] σ k1 := by
  have h5 := hW.1.1
  have h7 := hW.1.2
  have l630 := (cds_len hW ha).2
  have hcd := cdN_lt hW ha hh
  have r22 : ∀ {s : am_S} {pre : List Tr}, PH W a0 h (h + 1) pre σ0 s → rg s 3522 = nI W.1 := fun hI => (hI.1.R 3522 rfl).trans hM.1.1
  have r26 : ∀ {s : am_S} {pre : List Tr}, PH W a0 h (h + 1) pre σ0 s → rg s 3526 = nI W.2.1 := fun hI => (hI.1.R 3526 rfl).trans hM.1.2
  refine trip_loop (W := W) (a := cdN (cds W a0) h)
    (fun D s => JI l g M_X12_longest d 48 [(0, .ref 55), (1, .int (nI h)), (2, .int (nI (cdN (cds W a0) h))), (3, .int (nI D))] [] s k1)
    (fun D p s => JI l g M_X12_longest d 59 [(0, .ref 55), (1, .int (nI h)), (2, .int (nI (cdN (cds W a0) h))), (3, .int (nI D)), (4, .int (nI p))] [] s k1)
    (fun D p q s => JI l g M_X12_longest d 71 [(0, .ref 55), (1, .int (nI h)), (2, .int (nI (cdN (cds W a0) h))), (3, .int (nI D)), (4, .int (nI p)), (5, .int (nI q))] [] s k1)
    (fun pre s => PH W a0 h (h + 1) pre σ0 s) ?_ ?_ ?_ ?_ ?_ ?_ σ hc
  · intro D pre s hD hI hj
    refine b_X12_longest_48 ?_
    rw [r22 hI]
    exact ⟨fun z => absurd ((len (by omega) (by omega)).mp z) (by omega), fun _ => hj⟩
  · intro D pre s hD hI hj
    refine b_X12_longest_59 ?_
    rw [r26 hI, nI_1]
    exact ⟨fun _ => hj, fun z => absurd ((len (by omega) (by omega)).mpr (Nat.le_refl W.2.1)) z⟩
  · intro D p pre s hD hp hI hj
    refine b_X12_longest_59 ?_
    rw [r26 hI]
    exact ⟨fun z => absurd ((len (by omega) (by omega)).mp z) (by omega), fun _ => hj⟩
  · intro D p pre s hD hp hI hj
    refine b_X12_longest_71 (by omega) ?_
    rw [r26 hI, nI_1 p]
    exact ⟨fun _ => hj, fun z => absurd ((len (by omega) (by omega)).mpr (Nat.le_refl W.2.1)) z⟩
  · intro D p q pre s hD hp hq hI
    have hMs := hM.fr hI.1 rfl rfl
    constructor
    · intro hcb hs hn
      obtain ⟨suf, hs⟩ := hs
      have htm : (D, p, q) ∈ mvs W (cdN (cds W a0) h) := by
        rw [← hs]
        exact List.mem_append_right _ List.mem_cons_self
      have pl := pos_lt hW ha hh htm
      have pcd := cdN_pos hW ha hh htm
      have nl : nxt W.2.1 (cdN (cds W a0) h) (D, p, q) < 16384 := lt7 h7 swp_lt
      have few := in_few hW ha pl (h + 1) (by omega)
      rw [List.range_succ, dg_app, dg_one] at few
      have c1 : (pre.map (gP W a0 h)).count (gP W a0 h (D, p, q)) + 1 ≤ cN W (cds W a0) (gP W a0 h (D, p, q)) h := by
        have e : scs W (cds W a0) h = pre.map (gP W a0 h) ++ gP W a0 h (D, p, q) :: suf.map (gP W a0 h) := by
          unfold scs
          rw [← hs, List.map_append, List.map_cons]
          rfl
        unfold cN
        rw [e, List.count_append, List.count_cons]
        simp
      have few : dg (cN W (cds W a0) (gP W a0 h (D, p, q))) (List.range h) + cN W (cds W a0) (gP W a0 h (D, p, q)) h ≤ 60 := few
      have pl : gP W a0 h (D, p, q) < (cds W a0).length := pl
      have pcd : cdN (cds W a0) (gP W a0 h (D, p, q)) = nxt W.2.1 (cdN (cds W a0) h) (D, p, q) := pcd
      have sw := i_swM h7 hcd hp hq
      have sw : _ = nI (nxt W.2.1 (cdN (cds W a0) h) (D, p, q)) := sw
      have e78 := hI.2.1 _ pl
      rw [pcd] at e78
      refine b_X12_longest_71 (by omega) ?_
      rw [r26 hI, nI_1 q, sw, nI_clamp (n := nxt W.2.1 (cdN (cds W a0) h) (D, p, q)) (by omega)]
      have vN : vp_in (nI (nxt W.2.1 (cdN (cds W a0) h) (D, p, q))) 16384 := vp_in_nI nl (by omega)
      refine ⟨fun z => absurd ((len (by omega) (by omega)).mp z) (by omega), fun _ => m_can (by omega) hW hMs hcd hD hp hq (fun _ => ⟨fun z => absurd z (by decide), fun _ => ⟨vN, vN, ?_⟩⟩) (fun z => by rw [hcb] at z; cases z)⟩
      rw [e78, nI_1, nar_bN (by omega)]
      refine hn _ ⟨(hI.1.wA).mono (by simp) (by simp), fun i hi => ?_, fun i hi hz => ?_⟩
      · rw [List.map_append, List.map_singleton, count1, ar_sA]
        by_cases e : i = gP W a0 h (D, p, q)
        · rw [e, if_pos ⟨rfl, pcd⟩, if_pos rfl, Nat.add_assoc]
        · rw [if_neg (fun w => e (cdN_inj hW ha hi pl (w.2.trans pcd.symm))), if_neg (fun w => e w.symm), Nat.add_zero]
          exact hI.2.1 i hi
      · rw [ar_sA, if_neg (fun w => absurd w.1 (by decide))]
        exact hI.2.2 i hi hz
    · intro hcb hn
      refine b_X12_longest_71 (by omega) ?_
      rw [r26 hI, nI_1 q]
      exact ⟨fun z => absurd ((len (by omega) (by omega)).mp z) (by omega), fun _ => m_can (by omega) hW hMs hcd hD hp hq (fun z => by rw [hcb] at z; cases z) (fun _ => ⟨fun _ => hn s hI, fun z => absurd rfl z⟩)⟩
  · intro s hI
    refine b_X12_longest_48 ?_
    rw [r22 hI, nI_1]
    exact ⟨fun _ => H s hI, fun z => absurd ((len (by omega) (by omega)).mpr (Nat.le_refl W.1)) z⟩
theorem m_lg24 {d : Nat} {k1 : Int32 → am_S → Prop} (hd : 3 ≤ d) (hW : wd_ok W) (hM : WM W σ0) (ha : a0 < 4 ^ W.2.1) (h60 : rg σ0 3560 = nI (cds W a0).length) (h77 : ∀ i, i < (cds W a0).length → ar σ0 77 i = nI (cdN (cds W a0) i)) (e29 : rg σ0 3529 = nI a0)
    (H : ∀ τ, PH W a0 (cds W a0).length (cds W a0).length [] σ0 τ → (vp_in (rg τ 3529) 16384 ∧ ((¬ ar τ 78 ((rg τ 3529).toNatClampNeg) = 0 → JI l g M_X12_longest d 177 [(0, .ref 55), (1, .int (rg τ 3560)), (2, .int 0), (3, .int 0)] [] (sR τ 3560 0) k1) ∧ (ar τ 78 ((rg τ 3529).toNatClampNeg) = 0 → JI l g M_X12_longest d 177 [(0, .ref 55), (1, .int (rg τ 3560)), (2, .int 0), (3, .int 0)] [] (sR (sA (sR τ 3560 0) 77 0 (vp_nar .short ((rg τ 3529).toInt16.toInt32))) 3560 1) k1)))) :
    ∀ (m h : Nat) (σ : am_S), h + m = (cds W a0).length → PH W a0 h h [] σ0 σ → JI l g M_X12_longest d 24 [(0, .ref 55), (1, .int (nI h))] [] σ k1
  | 0, h, σ, e, hc => by
    have e : h = (cds W a0).length := by omega
    have l630 := (cds_len hW ha).2
    rw [e] at hc
    have HH := H σ hc
    refine b_X12_longest_24 ⟨fun _ => HH, fun q => ?_⟩
    rw [hc.1.R 3560 rfl, h60, e] at q
    exact absurd ((len (by omega) (by omega)).mpr (Nat.le_refl _)) q
  | m + 1, h, σ, e, hc => by
    have l630 := (cds_len hW ha).2
    have h7 := hW.1.2
    have hh : h < (cds W a0).length := by omega
    have cl := lt7 h7 (cdN_lt hW ha hh)
    refine b_X12_longest_24 ⟨fun q => ?_, fun _ => ?_⟩
    · rw [hc.1.R 3560 rfl, h60] at q
      exact absurd ((len (by omega) (by omega)).mp q) (by omega)
    · rw [nI_clamp (n := h) (by omega), hc.1.A 77 rfl, h77 h hh, nI_clamp (n := cdN (cds W a0) h) (by omega), nar_0.2]
      refine ⟨vp_in_nI (by omega) (by omega), vp_in_nI cl (by omega), m_lg48 hd hW hM ha hh (fun τ hτ => m_lg24 hd hW hM ha h60 h77 e29 H m (h + 1) τ (by omega) ⟨hτ.1, fun i hi => ?_, hτ.2.2⟩) _ ⟨(hc.1.wA).mono (by simp) (by simp), fun i hi => ?_, fun i hi hz => ?_⟩⟩
      · rw [List.range_succ, dg_app, dg_one]
        exact hτ.2.1 i hi
      · rw [ar_sA, if_neg (fun w => absurd w.1 (by decide))]
        exact hc.2.1 i hi
      · rw [ar_sA]
        by_cases c : i = h
        · rw [if_pos ⟨rfl, by rw [c]⟩]
        · rw [if_neg (fun w => c (cdN_inj hW ha hi hh w.2))]
          exact hc.2.2 i hi (by omega)
theorem m_lg2 {d : Nat} {k1 : Int32 → am_S → Prop} (hW : wd_ok W) (ha : a0 < 4 ^ W.2.1) (H : ∀ τ, PH W a0 0 0 [] σ0 τ → JI l g M_X12_longest d 24 [(0, .ref 55), (1, .int (nI 0))] [] τ k1) : ∀ (m x : Nat) (σ : am_S), x + m = 16384 → Fr [] [78] σ0 σ → (∀ c, c < x → ar σ 78 c = 0) → JI l g M_X12_longest d 2 [(0, .ref 55), (1, .int (nI x))] [] σ k1
  | 0, x, σ, e, fr, hz => by
    have e : x = 16384 := by omega
    subst e
    refine b_X12_longest_2 ⟨fun _ => H σ ⟨fr.mono (by simp) (by simp), fun i hi => ?_, fun i _ h => absurd h (Nat.not_lt_zero i)⟩, fun q => absurd (by decide) q⟩
    rw [hz _ (lt7 hW.1.2 (cdN_lt hW ha hi))]
    unfold dg
    simp
    rfl
  | m + 1, x, σ, e, fr, hz => by
    refine b_X12_longest_2 ?_
    rw [nI_clamp (n := x) (by omega), nI_1, nar_0.1]
    refine ⟨fun q => absurd ((len (a := 16384) (by omega) (by omega)).mp q) (by omega), fun _ => ⟨vp_in_nI (by omega) (by omega), m_lg2 hW ha H m (x + 1) _ (by omega) ((fr.wA).mono (by simp) (by simp)) (fun c hc => ?_)⟩⟩
    rw [ar_sA]
    by_cases e1 : c = x
    · rw [if_pos ⟨rfl, e1⟩]
    · rw [if_neg (fun w => e1 w.2)]
      exact hz c (by omega)
def KMl (C : List Nat) (σ : am_S) (s : KS) : Prop := (∀ i, i < C.length → ar σ 78 (cdN C i) = nI (s.2.1 i) ∧ ar σ 76 (cdN C i) = nI (s.2.2 i)) ∧ (∀ k x, s.1[k]? = some x → ar σ 77 k = nI (cdN C x)) ∧ rg σ 3560 = nI s.1.length
theorem m_leads {d h q : Nat} {C : List Nat} {σ : am_S} {s : KS} {k1 : am_S → Prop} (hh : h < C.length) (hq : q < C.length) (inj : ∀ j, j < C.length → cdN C j = cdN C q → j = q) (c1 : cdN C h < 16384) (c2 : cdN C q < 16384) (w1 : 1 ≤ s.2.1 q) (w2 : s.2.1 q ≤ 60) (p1 : s.2.2 h ≤ 700) (p2 : s.2.2 q ≤ 700) (sl : s.1.length < 630) (hc : KMl C σ s)
    (H : ∀ τ, Fr [3560] [76, 77, 78] σ τ → KMl C τ (k1E h s q) → k1 τ) : CV l g M_X12_leads d [.ref 55, .int (nI (cdN C h)), .int (nI (cdN C q))] σ k1 := by
  have v1 : vp_in (nI (cdN C h)) 16384 := vp_in_nI c1 (by omega)
  have v2 : vp_in (nI (cdN C q)) 16384 := vp_in_nI c2 (by omega)
  have vS : vp_in (nI s.1.length) 16384 := vp_in_nI (by omega) (by omega)
  have e1 : nI (s.2.1 q) - 1 = nI (s.2.1 q - 1) := by
    have := nI_pred (s.2.1 q - 1)
    rw [show s.2.1 q - 1 + 1 = s.2.1 q by omega] at this
    exact this
  have x78 : ∀ (υ : am_S) (v : Int32), ar (sA υ 78 (cdN C q) v) 78 (cdN C q) = v := fun υ v => by rw [ar_sA, if_pos ⟨rfl, rfl⟩]
  refine b_X12_leads_0 ?_
  rw [nI_clamp (n := cdN C h) (by omega), nI_clamp (n := cdN C q) (by omega), (hc.1 h hh).2, (hc.1 q hq).2, (hc.1 q hq).1, hc.2.2, e1, nI_1 (s.2.2 h), nar_bN (by omega), nar_sN (m := s.2.2 h + 1) (by omega), nar_sN (m := cdN C q) (by omega), nI_clamp (n := s.1.length) (by omega), nI_1 s.1.length, x78, x78]
  have kk : ∀ υ, (∀ j, ar υ 78 j = if j = cdN C q then nI (s.2.1 q - 1) else ar σ 78 j) → (∀ j, j < C.length → ar υ 76 (cdN C j) = if j = q then nI (max (s.2.2 q) (s.2.2 h + 1)) else ar σ 76 (cdN C j)) → (∀ k x, (k1E h s q).1[k]? = some x → ar υ 77 k = nI (cdN C x)) → rg υ 3560 = nI (k1E h s q).1.length → KMl C υ (k1E h s q) := by
    intro υ u78 u76 u77 u60
    refine ⟨fun i hi => ?_, u77, u60⟩
    rw [u78, u76 i hi]
    show _ = nI (upN s.2.1 q (s.2.1 q - 1) i) ∧ _ = nI (upN s.2.2 q (max (s.2.2 q) (s.2.2 h + 1)) i)
    unfold upN
    by_cases e : i = q
    · rw [if_pos (by rw [e]), if_pos e, if_pos e, if_pos e]
      exact ⟨rfl, rfl⟩
    · rw [if_neg (fun w => e (inj i hi w)), if_neg e, if_neg e, if_neg e]
      exact hc.1 i hi
  have S1 : ¬ s.2.1 q - 1 = 0 → (k1E h s q).1 = s.1 := fun z => if_neg z
  have S2 : s.2.1 q - 1 = 0 → (k1E h s q).1 = s.1 ++ [q] := fun z => if_pos z
  have le0 : nI (s.2.1 q - 1) ≤ 0 ↔ s.2.1 q - 1 = 0 := by
    have := len (a := s.2.1 q - 1) (b := 0) (by omega) (by omega)
    rw [show (nI 0 : Int32) = 0 from rfl] at this
    rw [this]
    omega
  have app77 : ∀ υ, s.2.1 q - 1 = 0 → (∀ j, ar υ 77 j = if j = s.1.length then nI (cdN C q) else ar σ 77 j) → ∀ k x, (k1E h s q).1[k]? = some x → ar υ 77 k = nI (cdN C x) := by
    intro υ z u k x hx
    rw [S2 z] at hx
    rw [u]
    by_cases c : k < s.1.length
    · rw [List.getElem?_append_left c] at hx
      rw [if_neg (by omega)]
      exact hc.2.1 k x hx
    · have c3 : k = s.1.length := by
        have := (List.getElem?_eq_some_iff.mp hx).1
        simp at this
        omega
      rw [c3, List.getElem?_append_right (Nat.le_refl _), Nat.sub_self] at hx
      cases hx
      rw [if_pos c3]
  have same77 : ∀ υ, ¬ s.2.1 q - 1 = 0 → (∀ j, ar υ 77 j = ar σ 77 j) → ∀ k x, (k1E h s q).1[k]? = some x → ar υ 77 k = nI (cdN C x) := by
    intro υ z u k x hx
    rw [S1 z] at hx
    rw [u]
    exact hc.2.1 k x hx
  refine ⟨v1, v2, fun z => ⟨v2, v2, v2, fun y => ⟨vS, ?_⟩, fun y => ?_⟩, fun z => ⟨v1, v2, v2, v2, v2, fun y => ⟨vS, ?_⟩, fun y => ?_⟩⟩
  · have z2 : s.2.2 h + 1 ≤ s.2.2 q := (len (by omega) (by omega)).mp z
    have y2 := le0.mp y
    refine H _ ((Fr.rf.wA.wA.wR).mono (by simp) (by simp)) (kk _ (fun j => by simp [ar_sA, ar_sR]) (fun j hj => ?_) (app77 _ y2 (fun j => by simp [ar_sA, ar_sR])) ?_)
    · rw [Nat.max_eq_left (by omega), ar_sR, ar_sA, if_neg (fun w => absurd w.1 (by decide)), ar_sA, if_neg (fun w => absurd w.1 (by decide))]
      by_cases e : j = q
      · rw [if_pos e, e]
        exact (hc.1 q hq).2
      · rw [if_neg e]
    · rw [rg_sR, if_pos rfl, S2 y2, List.length_append]
      rfl
  · have z2 : s.2.2 h + 1 ≤ s.2.2 q := (len (by omega) (by omega)).mp z
    have y2 := fun w => y (le0.mpr w)
    refine H _ ((Fr.rf.wA).mono (by simp) (by simp)) (kk _ (fun j => by simp [ar_sA]) (fun j hj => ?_) (same77 _ y2 (fun j => by simp [ar_sA])) ?_)
    · rw [Nat.max_eq_left (by omega), ar_sA, if_neg (fun w => absurd w.1 (by decide))]
      by_cases e : j = q
      · rw [if_pos e, e]
        exact (hc.1 q hq).2
      · rw [if_neg e]
    · rw [rg_sA, S1 y2]
      exact hc.2.2
  · have z2 : ¬ s.2.2 h + 1 ≤ s.2.2 q := fun w => z ((len (by omega) (by omega)).mpr w)
    have y2 := le0.mp y
    refine H _ ((Fr.rf.wA.wA.wA.wR).mono (by simp) (by simp)) (kk _ (fun j => by simp [ar_sA, ar_sR]) (fun j hj => ?_) (app77 _ y2 (fun j => by simp [ar_sA, ar_sR])) ?_)
    · rw [Nat.max_eq_right (by omega), ar_sR, ar_sA, if_neg (fun w => absurd w.1 (by decide)), ar_sA, if_neg (fun w => absurd w.1 (by decide)), ar_sA]
      by_cases e : j = q
      · rw [if_pos e, if_pos ⟨rfl, by rw [e]⟩]
      · rw [if_neg e, if_neg (fun w => e (inj j hj w.2))]
    · rw [rg_sR, if_pos rfl, S2 y2, List.length_append]
      rfl
  · have z2 : ¬ s.2.2 h + 1 ≤ s.2.2 q := fun w => z ((len (by omega) (by omega)).mpr w)
    have y2 := fun w => y (le0.mpr w)
    refine H _ ((Fr.rf.wA.wA).mono (by simp) (by simp)) (kk _ (fun j => by simp [ar_sA]) (fun j hj => ?_) (same77 _ y2 (fun j => by simp [ar_sA])) ?_)
    · rw [Nat.max_eq_right (by omega), ar_sA, if_neg (fun w => absurd w.1 (by decide)), ar_sA]
      by_cases e : j = q
      · rw [if_pos e, if_pos ⟨rfl, by rw [e]⟩]
      · rw [if_neg e, if_neg (fun w => e (inj j hj w.2))]
    · rw [rg_sA, rg_sA, S1 y2]
      exact hc.2.2
def KMS (W : Wd) (a0 : Nat) (σ0 σ : am_S) (s : KS) : Prop := Fr [3560] [76, 77, 78] σ0 σ ∧ KMl (cds W a0) σ s
theorem m_kh215 {d h p : Nat} {x1 x2 : Int32} {k1 : Int32 → am_S → Prop} (hd : 3 ≤ d) (hW : wd_ok W) (hM : WM W σ0) (ha : a0 < 4 ^ W.2.1) (hh : h < (cds W a0).length) {s0 : KS}
    (H : ∀ τ, KMS W a0 σ0 τ ((scs W (cds W a0) h).foldl (k1E h) s0) → KI W (cds W a0) p (scs W (cds W a0) h) ((scs W (cds W a0) h).foldl (k1E h) s0) → ((scs W (cds W a0) h).foldl (k1E h) s0).1[p]? = some h → JI l g M_X12_longest d 177 [(0, .ref 55), (1, .int x1), (2, .int x2), (3, .int (nI (p + 1)))] [] τ k1) (σ : am_S) (hK : KI W (cds W a0) p [] s0) (hp : s0.1[p]? = some h) (hc : KMS W a0 σ0 σ s0) :
    JI l g M_X12_longest d 215 [(0, .ref 55), (1, .int x1), (2, .int x2), (3, .int (nI p)), (4, .int (nI (cdN (cds W a0) h))), (5, .int (nI 0))] [] σ k1 := by
  have h5 := hW.1.1
  have h7 := hW.1.2
  have l630 := (cds_len hW ha).2
  have hcd := cdN_lt hW ha hh
  have r22 : ∀ {s : am_S} {t : KS}, KMS W a0 σ0 s t → rg s 3522 = nI W.1 := fun hI => (hI.1.R 3522 rfl).trans hM.1.1
  have r26 : ∀ {s : am_S} {t : KS}, KMS W a0 σ0 s t → rg s 3526 = nI W.2.1 := fun hI => (hI.1.R 3526 rfl).trans hM.1.2
  have esc : scs W (cds W a0) h = (mvs W (cdN (cds W a0) h)).map (gP W a0 h) := rfl
  refine trip_loop (W := W) (a := cdN (cds W a0) h)
    (fun D s => JI l g M_X12_longest d 215 [(0, .ref 55), (1, .int x1), (2, .int x2), (3, .int (nI p)), (4, .int (nI (cdN (cds W a0) h))), (5, .int (nI D))] [] s k1)
    (fun D P s => JI l g M_X12_longest d 227 [(0, .ref 55), (1, .int x1), (2, .int x2), (3, .int (nI p)), (4, .int (nI (cdN (cds W a0) h))), (5, .int (nI D)), (6, .int (nI P))] [] s k1)
    (fun D P Q s => JI l g M_X12_longest d 239 [(0, .ref 55), (1, .int x1), (2, .int x2), (3, .int (nI p)), (4, .int (nI (cdN (cds W a0) h))), (5, .int (nI D)), (6, .int (nI P)), (7, .int (nI Q))] [] s k1)
    (fun pre s => KMS W a0 σ0 s ((pre.map (gP W a0 h)).foldl (k1E h) s0) ∧ KI W (cds W a0) p (pre.map (gP W a0 h)) ((pre.map (gP W a0 h)).foldl (k1E h) s0) ∧ ((pre.map (gP W a0 h)).foldl (k1E h) s0).1[p]? = some h)
    ?_ ?_ ?_ ?_ ?_ ?_ σ ⟨hc, hK, hp⟩
  · intro D pre s hD hI hj
    refine b_X12_longest_215 ?_
    rw [r22 hI.1]
    exact ⟨fun z => absurd ((len (by omega) (by omega)).mp z) (by omega), fun _ => hj⟩
  · intro D pre s hD hI hj
    refine b_X12_longest_227 ?_
    rw [r26 hI.1, nI_1]
    exact ⟨fun _ => hj, fun z => absurd ((len (by omega) (by omega)).mpr (Nat.le_refl W.2.1)) z⟩
  · intro D P pre s hD hP hI hj
    refine b_X12_longest_227 ?_
    rw [r26 hI.1]
    exact ⟨fun z => absurd ((len (by omega) (by omega)).mp z) (by omega), fun _ => hj⟩
  · intro D P pre s hD hP hI hj
    refine b_X12_longest_239 (by omega) ?_
    rw [r26 hI.1, nI_1 P]
    exact ⟨fun _ => hj, fun z => absurd ((len (by omega) (by omega)).mpr (Nat.le_refl W.2.1)) z⟩
  · intro D P Q pre s hD hP hQ hI
    have hMs := hM.fr hI.1.1 rfl rfl
    have r26s := r26 hI.1
    constructor
    · intro hcb hs hn
      obtain ⟨suf, hs⟩ := hs
      have htm : (D, P, Q) ∈ mvs W (cdN (cds W a0) h) := by
        rw [← hs]
        exact List.mem_append_right _ List.mem_cons_self
      have pl : gP W a0 h (D, P, Q) < (cds W a0).length := pos_lt hW ha hh htm
      have pcd : cdN (cds W a0) (gP W a0 h (D, P, Q)) = nxt W.2.1 (cdN (cds W a0) h) (D, P, Q) := cdN_pos hW ha hh htm
      have nl : nxt W.2.1 (cdN (cds W a0) h) (D, P, Q) < 16384 := lt7 h7 swp_lt
      have e : scs W (cds W a0) h = pre.map (gP W a0 h) ++ gP W a0 h (D, P, Q) :: suf.map (gP W a0 h) := by
        rw [esc, ← hs, List.map_append, List.map_cons]
      have em : (pre ++ [(D, P, Q)]).map (gP W a0 h) = pre.map (gP W a0 h) ++ [gP W a0 h (D, P, Q)] := by simp
      rw [em, List.foldl_append] at hn
      have wi := in_few hW ha pl (cds W a0).length (Nat.le_refl _)
      obtain ⟨hI1, hI2, hI3⟩ := hI
      generalize (pre.map (gP W a0 h)).foldl (k1E h) s0 = t at hI1 hI2 hI3 hn r26s
      obtain ⟨w1, w2, w3, w4, w5, w6⟩ := KI.edge hI3 e pl hI2
      have eK := hI2.2.1 _ pl
      have pt1 := hI2.2.2.1 _ pl
      have b1 : (if pre.map (gP W a0 h) = [] then 0 else 1) ≤ 1 := by split <;> omega
      have plen : p < t.1.length := (List.getElem?_eq_some_iff.mp hI3).1
      have sw : _ = nI (nxt W.2.1 (cdN (cds W a0) h) (D, P, Q)) := i_swM h7 hcd hP hQ
      refine b_X12_longest_239 (by omega) ?_
      rw [r26s, nI_1 Q, sw, ← pcd]
      refine ⟨fun z => absurd ((len (by omega) (by omega)).mp z) (by omega), fun _ => m_can (by omega) hW hMs hcd hD hP hQ (fun _ => ⟨fun z => absurd z (by decide), fun _ => ?_⟩) (fun z => by rw [hcb] at z; cases z)⟩
      refine m_leads hh pl (fun j hj ej => cdN_inj hW ha hj pl ej) (lt7 h7 hcd) (by rw [pcd]; exact nl) w1 (by omega) (by omega) (by omega) (by omega) hI1.2 (fun τ fτ hτ => hn τ ⟨⟨(hI1.1.tr fτ).mono (by simp) (by simp), hτ⟩, w4, w5⟩)
    · intro hcb hn
      refine b_X12_longest_239 (by omega) ?_
      rw [r26s, nI_1 Q]
      exact ⟨fun z => absurd ((len (by omega) (by omega)).mp z) (by omega), fun _ => m_can (by omega) hW hMs hcd hD hP hQ (fun z => by rw [hcb] at z; cases z) (fun _ => ⟨fun _ => hn s hI, fun z => absurd rfl z⟩)⟩
  · intro s hI
    refine b_X12_longest_215 ?_
    rw [r22 hI.1, nI_1]
    exact ⟨fun _ => H s hI.1 hI.2.1 hI.2.2, fun z => absurd ((len (by omega) (by omega)).mpr (Nat.le_refl W.1)) z⟩
theorem m_kh177 {d : Nat} {k1 : Int32 → am_S → Prop} (hd : 4 ≤ d) (hW : wd_ok W) (hM : WM W σ0) (ha : a0 < 4 ^ W.2.1) : ∀ (f p most : Nat) (σ : am_S) (s : KS), 631 ≤ f + p → p ≤ s.1.length → most ≤ p → KI W (cds W a0) p [] s → KMS W a0 σ0 σ s → (∀ τ, Fr [3560] [76, 77, 78] σ0 τ → k1 (kAns (cds W a0).length (kRun W (cds W a0) f p s most)) τ) →
    JI l g M_X12_longest d 177 [(0, .ref 55), (1, .int (nI (cds W a0).length)), (2, .int (nI most)), (3, .int (nI p))] [] σ k1
  | 0, p, most, σ, s, hf, hp, hm, hK, hc, H => by
    have l630 := (cds_len hW ha).2
    have := nodup_le (L := s.1) (M := List.range (cds W a0).length) hK.1.1 (fun x hx => List.mem_range.mpr (hK.1.2.1 x hx))
    rw [List.length_range] at this
    omega
  | f + 1, p, most, σ, s, hf, hp, hm, hK, hc, H => by
    have h7 := hW.1.2
    have l630 := (cds_len hW ha).2
    have sl := nodup_le (L := s.1) (M := List.range (cds W a0).length) hK.1.1 (fun x hx => List.mem_range.mpr (hK.1.2.1 x hx))
    rw [List.length_range] at sl
    refine b_X12_longest_177 ?_
    rw [hc.2.2.2]
    unfold kRun at H
    refine ⟨fun q => ?_, fun q => ?_⟩
    · have q2 : s.1.length ≤ p := (len (by omega) (by omega)).mp q
      rw [List.getElem?_eq_none q2] at H
      have H : ∀ τ, Fr [3560] [76, 77, 78] σ0 τ → k1 (if s.1.length < (cds W a0).length then -2 else nI most) τ := H
      have := H σ hc.1
      refine ⟨fun z => ?_, fun z => ?_⟩
      · rw [if_neg (by have := (len (a := (cds W a0).length) (b := s.1.length) (by omega) (by omega)).mp z; omega)] at this
        exact this
      · rw [if_pos (by
          rcases Nat.lt_or_ge s.1.length (cds W a0).length with w | w
          · exact w
          · exact absurd ((len (a := (cds W a0).length) (b := s.1.length) (by omega) (by omega)).mpr w) z)] at this
        exact this
    · have q2 : p < s.1.length := by
        rcases Nat.lt_or_ge p s.1.length with w | w
        · exact w
        · exact absurd ((len (by omega) (by omega)).mpr w) q
      have e1 := List.getElem?_eq_getElem q2
      generalize s.1[p] = h at e1
      rw [e1] at H
      have H : ∀ τ, Fr [3560] [76, 77, 78] σ0 τ → k1 (kAns (cds W a0).length (kRun W (cds W a0) f (p + 1) ((scs W (cds W a0) h).foldl (k1E h) s) (max most (s.2.2 h)))) τ := H
      have hh := hK.1.2.1 h (List.mem_of_getElem? e1)
      have ph := hK.2.2.2 h e1
      have hcl := lt7 h7 (cdN_lt hW ha hh)
      have vc : vp_in (nI (cdN (cds W a0) h)) 16384 := vp_in_nI hcl (by omega)
      rw [nI_clamp (n := p) (by omega), hc.2.2.1 p h e1, nI_clamp (n := cdN (cds W a0) h) (by omega), (hc.2.1 h hh).2]
      have go : JI l g M_X12_longest d 215 [(0, .ref 55), (1, .int (nI (cds W a0).length)), (2, .int (nI (max most (s.2.2 h)))), (3, .int (nI p)), (4, .int (nI (cdN (cds W a0) h))), (5, .int (nI 0))] [] σ k1 := by
        refine m_kh215 (σ0 := σ0) (p := p) (s0 := s) (by omega) hW hM ha hh (fun υ hυ hKυ eυ => ?_) σ hK e1 hc
        refine m_kh177 hd hW hM ha f (p + 1) (max most (s.2.2 h)) υ _ (by omega) ?_ (by omega) (KI.next eυ hKυ) hυ H
        exact (List.getElem?_eq_some_iff.mp eυ).1
      refine ⟨vp_in_nI (by omega) (by omega), vc, fun z => ?_, fun z => ⟨vc, ?_⟩⟩
      · have z2 : s.2.2 h ≤ most := (len (by omega) (by omega)).mp z
        rw [Nat.max_eq_left z2] at go
        exact go
      · have z2 : ¬ s.2.2 h ≤ most := fun w => z ((len (by omega) (by omega)).mpr w)
        rw [Nat.max_eq_right (by omega)] at go
        exact go
theorem m_longest {d : Nat} {k1 : Int32 → am_S → Prop} (hd : 5 ≤ d) (hW : wd_ok W) (hM : WM W σ0) (ha : a0 < 4 ^ W.2.1) (h60 : rg σ0 3560 = nI (cds W a0).length) (h77 : ∀ i, i < (cds W a0).length → ar σ0 77 i = nI (cdN (cds W a0) i)) (e29 : rg σ0 3529 = nI a0) (H : ∀ τ, Fr [3560] [76, 77, 78] σ0 τ → k1 (kAns (cds W a0).length (kRun W (cds W a0) 700 0 (k0S W (cds W a0)) 0)) τ) : CI l g M_X12_longest d [.ref 55] σ0 k1 := by
  obtain ⟨c0, ea⟩ := cds_pos hW ha
  have few := in_few hW ha c0 (cds W a0).length (Nat.le_refl _)
  have K0 := k0_KI (W := W) c0
  have al := lt7 hW.1.2 ha
  refine b_X12_longest_0 (m_lg2 hW ha (fun τ1 h1 => m_lg24 (by omega) hW hM ha h60 h77 e29 (fun τ hτ => ?_) (cds W a0).length 0 τ1 (Nat.zero_add _) h1) 16384 0 σ0 (Nat.zero_add _) (Fr.rf.mono (by simp) (by simp)) (fun c hc => absurd hc (Nat.not_lt_zero c)))
  have e78 : ∀ i, i < (cds W a0).length → ar τ 78 (cdN (cds W a0) i) = nI (dg (cN W (cds W a0) i) (List.range (cds W a0).length)) := hτ.2.1
  have e76 : ∀ i, i < (cds W a0).length → ar τ 76 (cdN (cds W a0) i) = 0 := fun i hi => hτ.2.2 i hi hi
  have e780 := e78 0 c0
  rw [ea] at e780
  rw [hτ.1.R 3529 rfl, e29, hτ.1.R 3560 rfl, h60, nI_clamp (n := a0) (by omega), e780, nar_sN (m := a0) (by omega)]
  refine ⟨vp_in_nI al (by omega), fun z => ?_, fun z => ?_⟩
  · have z2 : ¬ dg (cN W (cds W a0) 0) (List.range (cds W a0).length) = 0 := fun w => z (by rw [w]; rfl)
    have eS : (k0S W (cds W a0)).1 = [] := if_neg z2
    refine m_kh177 (σ0 := σ0) (d := d) (by omega) hW hM ha 700 0 0 (sR τ 3560 0) (k0S W (cds W a0)) (by omega) (Nat.zero_le _) (Nat.le_refl _) K0 ⟨(hτ.1.wR).mono (by simp) (by simp), fun i hi => ⟨e78 i hi, e76 i hi⟩, (fun k x hx => by rw [eS] at hx; cases hx), ?_⟩ H
    rw [eS]
    rfl
  · have z2 : dg (cN W (cds W a0) 0) (List.range (cds W a0).length) = 0 := nI_inj (b := 0) (by omega) (by omega) z
    have eS : (k0S W (cds W a0)).1 = [0] := if_pos z2
    refine m_kh177 (σ0 := σ0) (d := d) (by omega) hW hM ha 700 0 0 (sR (sA (sR τ 3560 0) 77 0 (nI a0)) 3560 1) (k0S W (cds W a0)) (by omega) (Nat.zero_le _) (Nat.le_refl _) K0 ⟨(hτ.1.wR.wA.wR).mono (by simp) (by simp), fun i hi => ?_, fun k x hx => ?_, ?_⟩ H
    · rw [ar_sR, ar_sA, if_neg (fun w => absurd w.1 (by decide)), ar_sA, if_neg (fun w => absurd w.1 (by decide))]
      exact ⟨e78 i hi, e76 i hi⟩
    · rw [eS] at hx
      match k, hx with
      | 0, hx =>
        cases hx
        rw [ar_sR, ar_sA, if_pos ⟨rfl, rfl⟩, ea]
      | k + 1, hx => cases hx
    · rw [eS]
      rfl
end LongM
section PReach
variable {l : Launch} {g : am_G} {d : Nat} {σ : am_S}
theorem P_reach (hd : 300 ≤ d) (hR : R σ) (x1 : Int32) : PP l g d M_X11_reach M_X12_reach [.int x1] σ := by
  intro K hk
  have old := hR
  obtain ⟨nr, nd, n, pl, nt, dn, un, nb, nq, hRR⟩ := hR
  have hH := hRR.1
  have hF := hRR.2.2.2.2.2.2.2.2
  obtain ⟨o, hL⟩ := R_tl_of hRR.2.2.2.2.2.2.2.1
  obtain ⟨H1, H2, H3⟩ := hH.1
  have hW : wd_ok (wld σ o nd n 0 (rg σ 67) 0) := wld_ok hH.W
  have ha := a_lt hH
  have hB := bf0_BI hW ha
  have c012 : (¬ x1 < 0 ∧ ¬ 2 < x1) ↔ (¬ x1 < 0 ∧ x1 ≤ 2) := by grind
  have bad : ¬ (¬ x1 < 0 ∧ x1 ≤ 2) → CI l g M_X12_reach d [.ref 55, .int x1] σ (fun r2 σ2 => K (-1) r2 σ2) := fun hno => b_X12_reach_0 (by omega) ⟨fun z => absurd (c012.mp z) hno, fun _ => hk _ _ old⟩
  refine b_X11_reach_0 (by omega) ⟨fun c => bad (fun q => q.1 c), fun c => ⟨fun c2 => ?_, fun c2 => bad (fun q => c2 q.2)⟩⟩
  refine c_weigh (tn := 0) (by omega) hH.W hL (by omega) (fun τ hτ hC => ?_)
  have hRR1 := R_srch hRR (hτ.1.mono (by decide) (by decide)) (hF.fr hτ.1 rfl rfl)
  refine c_arr hRR1.1 (c_spread (W := wld σ o nd n 0 (rg σ 67) 0) (by omega) hW hC hRR1.2.2.2.2.2.2.2.2 ha (fun υ hυ => ?_))
  have fr : Fr SRg SAr σ υ := (hτ.1.tr hυ.1).mono (by decide) (by decide)
  have hFυ := hυ.2.RF H3 hB
  -- the reference, from any state behind this one
  have ref : ∀ (ω : am_S) (K2 : Int32 → am_S → Prop), Fr SRg SAr σ ω → R_F ω → ((x1 = 0 → ∀ ζ, R ζ → K2 (nI (cds (wld σ o nd n 0 (rg σ 67) 0) (enc pl n)).length) ζ) ∧ (x1 = 2 → ∀ ζ, R ζ → K2 (kAns (cds (wld σ o nd n 0 (rg σ 67) 0) (enc pl n)).length (kRun (wld σ o nd n 0 (rg σ 67) 0) (cds (wld σ o nd n 0 (rg σ 67) 0) (enc pl n)) 700 0 (k0S (wld σ o nd n 0 (rg σ 67) 0) (cds (wld σ o nd n 0 (rg σ 67) 0) (enc pl n))) 0)) ζ) ∧ (¬ x1 = 0 → ¬ x1 = 2 → ∀ ζ, R ζ → K2 (nI (rsN (wld σ o nd n 0 (rg σ 67) 0) (cds (wld σ o nd n 0 (rg σ 67) 0) (enc pl n)) (cds (wld σ o nd n 0 (rg σ 67) 0) (enc pl n)).length)) ζ)) → CI l g M_X12_reach d [.ref 55, .int x1] ω K2 := by
    rintro ω K2 fω hFω ⟨k0, k2, k1⟩
    have hRR2 := R_srch hRR fω hFω
    refine b_X12_reach_0 (by omega) ⟨fun _ => ?_, fun z => absurd (c012.mpr ⟨c, c2⟩) z⟩
    refine m_now (by omega) hRR2.1.W (R_tl.fr fω rfl rfl hL) (fun ψ fψ hM => ?_)
    rw [wld_fr fω rfl rfl, fω.R 67 rfl] at hM
    have hRR3 := R_srch hRR2 (fψ.mono (by decide) (by decide)) (hFω.fr fψ rfl rfl)
    refine m_spread (W := wld σ o nd n 0 (rg σ 67) 0) (by omega) hW hM ha hRR3.1.2.2.2.2.2.2.2.2.2 (fun ζ fζ hMF => ?_)
    have hRR4 := R_srch hRR3 (fζ.mono (by decide) (by decide)) (hRR3.2.2.2.2.2.2.2.2.fr fζ rfl rfl)
    have hMζ := hM.fr fζ rfl rfl
    have e60 := MF_len hMF
    refine ⟨fun n0 => ⟨fun n2 => ?_, fun e2 => ?_⟩, fun e0 => ?_⟩
    · exact m_rs51 (by omega) hW hMζ ha e60 (fun i hi => MF_cd hMF hi) (k1 n0 n2 ζ hRR4.R) (cds (wld σ o nd n 0 (rg σ 67) 0) (enc pl n)).length 0 (Nat.zero_add _)
    · exact m_longest (by omega) hW hMζ ha e60 (fun i hi => MF_cd hMF hi) hRR4.1.2.2.2.2.2.2.2.2.2 (fun χ fχ => k2 e2 χ (R_srch hRR4 (fχ.mono (by decide) (by decide)) (hRR4.2.2.2.2.2.2.2.2.fr fχ rfl rfl)).R)
    · rw [e60]
      exact k0 e0 ζ hRR4.R
  refine ⟨fun n0 => ⟨fun n1 => ?_, fun e1 => ?_⟩, fun e0 => ?_⟩
  · have e2 : x1 = 2 := by
      clear ref bad
      obtain ⟨j, hj, e⟩ := (cC (n := 3) (x := x1) 2 rfl (by omega)).mp (c012.mpr ⟨c, c2⟩)
      match j, hj with
      | 0, _ => exact absurd e n0
      | 1, _ => exact absurd e n1
      | 2, _ => exact e
      | j + 3, h => omega
    refine c_longest (W := wld σ o nd n 0 (rg σ 67) 0) (by omega) hW (hC.fr hυ.1 rfl rfl) ha hυ.2 (fun ω fω => ?_)
    refine ref ω _ ((fr.tr fω).mono (by decide) (by decide)) (hFυ.fr fω rfl rfl) ⟨fun z => absurd z n0, fun _ ζ hζ => hk _ _ hζ, fun _ z => absurd e2 z⟩
  · refine b_X7_rests_0 (c_rests (W := wld σ o nd n 0 (rg σ 67) 0) (σ0 := υ) (by omega) hW (hC.fr hυ.1 rfl rfl) ha hυ.2 (fun ω fω => ?_) (cds (wld σ o nd n 0 (rg σ 67) 0) (enc pl n)).length 0 υ (Nat.zero_add _) (Fr.rf.mono (by simp) (by simp)))
    refine ref ω _ ((fr.tr fω).mono (by decide) (by decide)) (hFυ.fr fω rfl rfl) ⟨fun z => absurd z n0, fun z => ?_, fun _ _ ζ hζ => hk _ _ hζ⟩
    rw [e1] at z
    exact absurd z (by decide)
  · rw [CS_len hυ.2]
    refine ref υ _ fr hFυ ⟨fun _ ζ hζ => hk _ _ hζ, fun z => ?_, fun z => absurd e0 z⟩
    rw [e0] at z
    exact absurd z (by decide)
end PReach
