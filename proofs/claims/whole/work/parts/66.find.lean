/-! the class's search -/
def CS (σ : am_S) (L : List En) : Prop := rg σ 1224 = nI L.length ∧ (∀ i e, L[i]? = some e → ar σ 24 i = nI e.1 ∧ ar σ 25 i = nI e.2.1 ∧ ar σ 26 i = nI e.2.2) ∧ slot_ok σ (L.map (·.1))
theorem CS.fr {rs as : List Nat} {σ τ : am_S} {L : List En} (h : Fr rs as σ τ) (hc : ([1224] : List Nat).all (fun r => !rs.contains r) = true) (ha : ([24, 25, 26, 30] : List Nat).all (fun a => !as.contains a) = true) (H : CS σ L) : CS τ L := by
  have hr : ∀ r ∈ ([1224] : List Nat), rs.contains r = false := fun r q => by simpa using List.all_eq_true.mp hc r q
  have hb : ∀ a ∈ ([24, 25, 26, 30] : List Nat), as.contains a = false := fun a q => by simpa using List.all_eq_true.mp ha a q
  have e24 := h.A 24 (hb 24 (by decide))
  have e30 := h.A 30 (hb 30 (by decide))
  refine ⟨?_, ?_, slot_w H.2.2 (fun i _ => by rw [e24]) (fun s => by rw [e30])⟩
  · rw [h.R 1224 (hr 1224 (by decide))]
    exact H.1
  · rw [e24, h.A 25 (hb 25 (by decide)), h.A 26 (hb 26 (by decide))]
    exact H.2.1
theorem ST.fr {rs as : List Nat} {σ τ : am_S} {n a : Nat} {T : List Tr} (h : Fr rs as σ τ) (hc : ([1283] : List Nat).all (fun r => !rs.contains r) = true) (ha : ([21, 22] : List Nat).all (fun a => !as.contains a) = true) (H : ST n a σ T) : ST n a τ T := by
  have hr : ∀ r ∈ ([1283] : List Nat), rs.contains r = false := fun r q => by simpa using List.all_eq_true.mp hc r q
  have hb : ∀ a ∈ ([21, 22] : List Nat), as.contains a = false := fun a q => by simpa using List.all_eq_true.mp ha a q
  unfold ST at H ⊢
  rw [h.R 1283 (hr 1283 (by decide)), h.A 21 (hb 21 (by decide)), h.A 22 (hb 22 (by decide))]
  exact H
theorem CS.RF {σ : am_S} {n a0 : Nat} {L : List En} (_ : n ≤ 7) (_ : CS σ L) (_ : BI n a0 L) : R_F σ := rfl
theorem BI.lt {n a0 : Nat} {L : List En} (hn : n ≤ 7) (hB : BI n a0 L) : ∀ x ∈ L.map (·.1), x < 16384 := fun x hx => by
  obtain ⟨e, he, rfl⟩ := List.mem_map.mp hx
  exact lt7 hn (hB.2 e he).1
theorem BI.mlen {n a0 : Nat} {L : List En} (hn : n ≤ 7) (hB : BI n a0 L) : (L.map (·.1)).length ≤ 630 := by
  rw [List.length_map]
  exact hB.len hn
theorem BI.ext {n a0 : Nat} {L M : List En} (h : BI n a0 M) (he : Ext L M) : BI n a0 L := by
  obtain ⟨s, rfl⟩ := he
  refine ⟨?_, fun e q => h.2 e (List.mem_append_left _ q)⟩
  have := h.1
  rw [List.map_append, List.nodup_append] at this
  exact this.1
section FindC
variable {l : Launch} {g : am_G} {σ0 : am_S} {W : Wd}
theorem c_fgt2 {d : Nat} {k : am_S → Prop} (H : ∀ τ, Fr [1224] [30] σ0 τ → CS τ [] → k τ) : ∀ (m x : Nat) (σ : am_S), x + m = 2048 → Fr [] [30] σ0 σ → (∀ c, c < x → ar σ 30 c = 0) →
    JV l g M_X7_forget d 2 [(0, .ref 19), (1, .int (nI x))] [] σ k
  | 0, x, σ, e, h, hz => by
    have e : x = 2048 := by omega
    subst e
    refine b_X7_forget_2 ⟨fun _ => H _ ((h.wR).mono (by simp) (by simp)) ⟨rfl, (fun i e hi => by cases hi), slot_nil (fun s hs => ?_)⟩, fun q => absurd (by decide) q⟩
    rw [ar_sR]
    exact hz s hs
  | m + 1, x, σ, e, h, hz => by
    refine b_X7_forget_2 ?_
    rw [nI_clamp (n := x) (by omega), nI_1]
    refine ⟨fun q => absurd ((len (a := 2048) (by omega) (by omega)).mp q) (by omega), fun _ => ⟨vp_in_nI (by omega) (by omega), c_fgt2 H m (x + 1) _ (by omega) ((h.wA).mono (by simp) (by simp)) (fun c hc => ?_)⟩⟩
    by_cases q : c = x
    · rw [ar_sA, if_pos ⟨rfl, q⟩]
    · rw [ar_sA, if_neg (fun z => q z.2)]
      exact hz c (by omega)
theorem c_fgt {d : Nat} {σ : am_S} {k : am_S → Prop} (H : ∀ τ, Fr [1224] [30] σ τ → CS τ [] → k τ) : CV l g M_X7_forget d [.ref 19] σ k :=
  b_X7_forget_0 (c_fgt2 H 2048 0 σ (Nat.zero_add _) (Fr.rf.mono (by simp) (by simp)) (fun c hc => absurd hc (Nat.not_lt_zero c)))
theorem c_fnote {d c f m : Nat} {σ : am_S} {L : List En} {k : Int32 → am_S → Prop} (hd : 1 ≤ d) (h : CS σ L) (hc : c < 16384) (hl : L.length < 630) (hno : c ∉ L.map (·.1)) (hL : ∀ x ∈ L.map (·.1), x < 16384) (H : ∀ τ, Fr [1224] [24, 25, 26, 30] σ τ → CS τ (L ++ [(c, f, m)]) → k 1 τ) : CI l g M_X7_note d [.ref 19, .int (nI c), .int (nI f), .int (nI m)] σ k := by
  obtain ⟨h1, h2, h3⟩ := h
  have eL : (L.map (·.1)).length = L.length := List.length_map _
  refine b_X7_note_0 hd ?_
  have v : vp_in (nI L.length) 630 := vp_in_nI hl (by omega)
  rw [h1, nI_clamp (n := L.length) (by omega), nI_1]
  refine ⟨fun _ => ⟨v, v, v, ?_⟩, fun q => absurd ((ltn (b := 630) (by omega) (by omega)).mpr hl) q⟩
  have x24 : ∀ i, ar (sR (sA (sA (sA σ 24 L.length (nI c)) 25 L.length (nI f)) 26 L.length (nI m)) 1224 (nI (L.length + 1))) 24 i = if i = L.length then nI c else ar σ 24 i := fun i => by simp [ar_sA, ar_sR]
  have x25 : ∀ i, ar (sR (sA (sA (sA σ 24 L.length (nI c)) 25 L.length (nI f)) 26 L.length (nI m)) 1224 (nI (L.length + 1))) 25 i = if i = L.length then nI f else ar σ 25 i := fun i => by simp [ar_sA, ar_sR]
  have x26 : ∀ i, ar (sR (sA (sA (sA σ 24 L.length (nI c)) 25 L.length (nI f)) 26 L.length (nI m)) 1224 (nI (L.length + 1))) 26 i = if i = L.length then nI m else ar σ 26 i := fun i => by simp [ar_sA, ar_sR]
  have x30 : ∀ i, ar (sR (sA (sA (sA σ 24 L.length (nI c)) 25 L.length (nI f)) 26 L.length (nI m)) 1224 (nI (L.length + 1))) 30 i = ar σ 30 i := fun i => by simp [ar_sA, ar_sR]
  have x1 : rg (sR (sA (sA (sA σ 24 L.length (nI c)) 25 L.length (nI f)) 26 L.length (nI m)) 1224 (nI (L.length + 1))) 1224 = nI (L.length + 1) := by rw [rg_sR, if_pos rfl]
  have fr : Fr [1224] [24, 25, 26, 30] σ (sR (sA (sA (sA σ 24 L.length (nI c)) 25 L.length (nI f)) 26 L.length (nI m)) 1224 (nI (L.length + 1))) := (Fr.rf.wA.wA.wA.wR).mono (by simp) (by simp)
  generalize sR (sA (sA (sA σ 24 L.length (nI c)) 25 L.length (nI f)) 26 L.length (nI m)) 1224 (nI (L.length + 1)) = υ at x24 x25 x26 x30 x1 fr ⊢
  have hS : slot_ok υ (L.map (·.1)) := slot_w h3 (fun i hi => by rw [x24, if_neg (by omega)]) x30
  refine c_slot hS (by omega) hL hc (fun i s hs hi e => absurd (List.mem_of_getElem? hi) hno) (fun t hn z hz => ?_)
  have q1 := slot_lt (c := c) (t := t)
  rw [nI_clamp (n := slot_q c t) (by omega), x1]
  have y (b i : Nat) (hb : ¬ b = 30) : ar (sA υ 30 (slot_q c t) (nI (L.length + 1))) b i = ar υ b i := by rw [ar_sA, if_neg (fun q => hb q.1)]
  refine ⟨vp_in_nI q1 (by omega), H _ ((fr.wA).mono (by simp) (by simp)) ⟨?_, fun i e hi => ?_, ?_⟩⟩
  · rw [rg_sA, x1, List.length_append]
    rfl
  · rw [y 24 i (by decide), y 25 i (by decide), y 26 i (by decide), x24, x25, x26]
    by_cases q : i < L.length
    · rw [List.getElem?_append_left q] at hi
      rw [if_neg (by omega), if_neg (by omega), if_neg (by omega)]
      exact h2 i e hi
    · have q2 : i = L.length := by
        have := (List.getElem?_eq_some_iff.mp hi).1
        simp at this
        omega
      subst q2
      rw [List.getElem?_append_right (Nat.le_refl _), Nat.sub_self] at hi
      cases hi
      rw [if_pos rfl, if_pos rfl, if_pos rfl]
      exact ⟨rfl, rfl, rfl⟩
  · rw [List.map_append]
    refine slot_add (t := t) (c := c) hS (by omega) z hz (by rw [eL, x24, if_pos rfl]) (fun i => y 24 i (by decide)) (fun s => ?_)
    rw [ar_sA, eL]
    by_cases w : s = slot_q c t
    · rw [if_pos ⟨rfl, w⟩, if_pos w]
    · rw [if_neg (fun q => w q.2), if_neg w]
/-- a state of the search with the row L found -/
def FS (σ0 σ : am_S) (L : List En) : Prop := Fr [1224, 1283] [21, 22, 23, 24, 25, 26, 30] σ0 σ ∧ CS σ L
theorem noG_app {G : Nat → Bool} {L : List En} {e : En} (h : noG G L) (h2 : ¬ G e.1 = true) : noG G (L ++ [e]) := by
  intro x hx
  rcases List.mem_append.mp hx with q | q
  · exact h x q
  · rw [List.mem_singleton] at q
    subst q
    simpa using h2
variable {G : Nat → Bool} {a0 : Nat} {x3 x4 : Int32}
theorem c_find60 {d i : Nat} {e : En} {L0 F : List En} {x2 : Int32} {k : Int32 → am_S → Prop} (hd : 3 ≤ d) (hW : wd_ok W) (hG : ∀ c, c < 16384 → ((nI c &&& x3 = x4) ↔ G c = true)) (hi : L0[i]? = some e)
    (H1 : ∀ τ u y, Ext (u ++ [y]) F → noG G u → G y.1 = true → FS σ0 τ (u ++ [y]) → k (nI u.length) τ)
    (H0 : ∀ τ, noG G F → FS σ0 τ F → JI l g M_X7_find d 25 [(0, .ref 19), (1, .ref 14), (2, .int x2), (3, .int x3), (4, .int x4), (5, .int (nI (i + 1)))] [] τ k) :
    ∀ (suf pre : List Tr) (σ : am_S) (M : List En), mvs W e.1 = pre ++ suf → F = suf.foldl (bA W.2.1 e (i == 0)) M → Ext L0 M → BI W.2.1 a0 M → noG G M → FS σ0 σ M → ST W.2.1 e.1 σ (mvs W e.1) →
    JI l g M_X7_find d 60 [(0, .ref 19), (1, .ref 14), (2, .int x2), (3, .int x3), (4, .int x4), (5, .int (nI i)), (6, .int (nI pre.length))] [] σ k := by
  have h7 := hW.1.2
  have l60 := mvs_len (a := e.1) hW
  intro suf
  induction suf with
  | nil =>
    intro pre σ M eT eF hE hB hn hS hT
    rw [List.append_nil] at eT
    refine b_X7_find_60 (by omega) ?_
    rw [hT.1, eT, nI_1]
    have eF : F = M := eF
    rw [eF] at H0
    rw [eT] at l60
    exact ⟨fun _ => H0 σ hn hS, fun q => absurd ((len (by omega) (by omega)).mpr (Nat.le_refl _)) q⟩
  | cons t suf ih =>
    intro pre σ M eT eF hE hB hn hS hT
    have ht : t ∈ mvs W e.1 := by
      rw [eT]
      exact List.mem_append_right _ List.mem_cons_self
    have hpl : pre.length < (mvs W e.1).length := by
      rw [eT]
      simp
    have hat : (mvs W e.1)[pre.length]? = some t := by
      rw [eT, List.getElem?_append_right (Nat.le_refl _), Nat.sub_self]
      rfl
    have eMi := hE.at hi
    have hem := List.mem_of_getElem? eMi
    have hiM : i < M.length := (List.getElem?_eq_some_iff.mp eMi).1
    have hB630 := hB.len h7
    obtain ⟨t1, t2, t3⟩ := mvs_ne hW ht
    have hc : nxt W.2.1 e.1 t < 16384 := lt7 h7 swp_lt
    have hcs := hS.2.2.1 i e eMi
    have eT2 : mvs W e.1 = (pre ++ [t]) ++ suf := by rw [eT]; simp
    have lp : (pre ++ [t]).length = pre.length + 1 := by simp
    have hB2 : BI W.2.1 a0 (bA W.2.1 e (i == 0) M t) := hB.add (hB.2 e hem).2 t1 t2 t3
    have hE2 : Ext L0 (bA W.2.1 e (i == 0) M t) := hE.tr bA_ext
    refine b_X7_find_60 (by omega) ?_
    rw [hT.1, nI_clamp (n := pre.length) (by omega), (hT.2 _ t hat).2, nI_clamp (n := i) (by omega), nI_1 pre.length]
    have vi : vp_in (nI i) 630 := vp_in_nI (by omega) (by omega)
    have vp6 : vp_in (nI pre.length) 60 := vp_in_nI (by omega) (by omega)
    refine ⟨fun q => absurd ((len (by omega) (by omega)).mp q) (by omega), fun _ => ⟨vp6, c_place (by omega) hS.2.2.2 (hB.mlen h7) (hB.lt h7) hc (fun j hj => ?_) (fun hnin => ?_)⟩⟩
    · -- known
      have jl := (List.getElem?_eq_some_iff.mp hj).1
      have jm := hB.mlen h7
      refine ⟨fun _ => ?_, fun z => absurd (nneg (by omega)) z⟩
      have hin : nxt W.2.1 e.1 t ∈ M.map (·.1) := List.mem_of_getElem? hj
      have eb : bA W.2.1 e (i == 0) M t = M := by
        unfold bA
        rw [if_pos hin]
      have := ih (pre ++ [t]) σ M eT2 (by rw [eF, List.foldl_cons, eb]) hE hB hn hS hT
      rw [lp] at this
      exact this
    · rw [hcs.2.1, hcs.2.2, (hT.2 _ t hat).1, nI_1 e.2.1]
      refine ⟨fun z => absurd z (by decide), fun _ => ⟨vi, ?_⟩⟩
      have eb : ∀ ld, (ld = if (i == 0) = true then mcode t else e.2.2) → bA W.2.1 e (i == 0) M t = M ++ [(nxt W.2.1 e.1 t, e.2.1 + 1, ld)] := by
        intro ld el
        unfold bA
        rw [if_neg hnin, el]
      have go : ∀ ld, (ld = if (i == 0) = true then mcode t else e.2.2) → CI l g M_X7_note (d - 1) [.ref 19, .int (nI (nxt W.2.1 e.1 t)), .int (nI (e.2.1 + 1)), .int (nI ld)] σ (fun r1 σ1 => ((r1 = 0 → JI l g M_X7_find d 60 [(0, .ref 19), (1, .ref 14), (2, .int x2), (3, .int x3), (4, .int x4), (5, .int (nI i)), (6, .int (nI (pre.length + 1)))] [] σ1 k) ∧ (¬ r1 = 0 → ((¬ (nI (nxt W.2.1 e.1 t)) &&& x3 = x4 → JI l g M_X7_find d 60 [(0, .ref 19), (1, .ref 14), (2, .int x2), (3, .int x3), (4, .int x4), (5, .int (nI i)), (6, .int (nI (pre.length + 1)))] [] σ1 k) ∧ ((nI (nxt W.2.1 e.1 t)) &&& x3 = x4 → k ((rg σ1 1224) - 1) σ1))))) := by
        intro ld el
        have eb := eb ld el
        have l630 : M.length < 630 := by
          have := hB2.len h7
          rw [eb] at this
          simp at this
          omega
        refine c_fnote (by omega) hS.2 hc l630 hnin (hB.lt h7) (fun τ hτ hCS => ⟨fun q => absurd q (by decide), fun _ => ⟨fun ng => ?_, fun yg => ?_⟩⟩)
        · have ng2 : ¬ G (nxt W.2.1 e.1 t) = true := fun z => ng ((hG _ hc).mpr z)
          have := ih (pre ++ [t]) τ (M ++ [(nxt W.2.1 e.1 t, e.2.1 + 1, ld)]) eT2 (by rw [eF, List.foldl_cons, eb]) (by rw [← eb]; exact hE2) (by rw [← eb]; exact hB2) (noG_app hn ng2) ⟨(hS.1.tr hτ).mono (by simp) (by simp), hCS⟩ (hT.fr hτ rfl rfl)
          rw [lp] at this
          exact this
        · have e9 : rg τ 1224 - 1 = nI M.length := by
            rw [hCS.1, List.length_append]
            exact nI_pred _
          rw [e9]
          refine H1 τ M (nxt W.2.1 e.1 t, e.2.1 + 1, ld) ?_ hn ((hG _ hc).mp yg) ⟨(hS.1.tr hτ).mono (by simp) (by simp), hCS⟩
          rw [← eb, eF, List.foldl_cons]
          exact bF_ext
      refine ⟨fun hi0 => ⟨vi, go _ ?_⟩, fun hi0 => ⟨vp6, go _ ?_⟩⟩
      · have : ¬ i = 0 := fun z => hi0 (by rw [z]; rfl)
        simp [this]
      · have : i = 0 := nI_inj (b := 0) (by omega) (by omega) hi0
        simp [this]
theorem c_find25 {d : Nat} {x2 : Int32} {B : List En} {k : Int32 → am_S → Prop} (hd : 3 ≤ d) (hW : wd_ok W) (hC : WC W σ0) (hG : ∀ c, c < 16384 → ((nI c &&& x3 = x4) ↔ G c = true))
    (H1 : ∀ τ u y, Ext (u ++ [y]) B → noG G u → G y.1 = true → FS σ0 τ (u ++ [y]) → k (nI u.length) τ)
    (H0 : ∀ τ, noG G B → FS σ0 τ B → k (-1) τ) :
    ∀ (f i : Nat) (L : List En) (σ : am_S), 631 ≤ f + i → i ≤ L.length → B = bfs W f i L → BI W.2.1 a0 L → noG G L → FS σ0 σ L →
    JI l g M_X7_find d 25 [(0, .ref 19), (1, .ref 14), (2, .int x2), (3, .int x3), (4, .int x4), (5, .int (nI i))] [] σ k
  | 0, i, L, σ, hf, hi, eB, hB, hn, hS => by
    have := hB.len hW.1.2
    omega
  | f + 1, i, L, σ, hf, hi, eB, hB, hn, hS => by
    have h7 := hW.1.2
    have hl := hB.len h7
    refine b_X7_find_25 (by omega) ?_
    rw [hS.2.1]
    unfold bfs at eB
    refine ⟨fun q => ?_, fun q => ⟨fun q3 => absurd ((len (a := 630) (by omega) (by omega)).mp q3) ?_, fun _ => ⟨vp_in_nI ?_ (by omega), ?_⟩⟩⟩
    · have q2 : L.length ≤ i := (len (by omega) (by omega)).mp q
      rw [List.getElem?_eq_none q2] at eB
      have eB : B = L := eB
      rw [← eB] at hn hS
      exact H0 σ hn hS
    · have : ¬ L.length ≤ i := fun z => q ((len (by omega) (by omega)).mpr z)
      omega
    · have : ¬ L.length ≤ i := fun z => q ((len (by omega) (by omega)).mpr z)
      omega
    · have q2 : i < L.length := by
        have : ¬ L.length ≤ i := fun z => q ((len (by omega) (by omega)).mpr z)
        omega
      have e1 := List.getElem?_eq_getElem q2
      rw [e1] at eB
      have eB : B = bfs W f (i + 1) ((mvs W L[i].1).foldl (bA W.2.1 L[i] (i == 0)) L) := eB
      have hem := List.mem_of_getElem? e1
      rw [nI_clamp (n := i) (by omega), (hS.2.2.1 i _ e1).1]
      refine c_list (by omega) hW (hC.fr hS.1 rfl rfl) (hB.2 _ hem).1 (fun τ hτ hT => ?_)
      have hB2 := BI.fold (e := L[i]) (z := (i == 0)) hW (hB.2 _ hem).2 (ts := mvs W L[i].1) (fun _ z => z) hB
      refine c_find60 (σ0 := σ0) (L0 := L) (F := (mvs W L[i].1).foldl (bA W.2.1 L[i] (i == 0)) L) (a0 := a0) hd hW hG e1 (fun υ u y h1 h2 h3 h4 => H1 υ u y ?_ h2 h3 h4) (fun υ h1 h2 => ?_) (mvs W L[i].1) [] τ L rfl rfl Ext.rf hB hn ⟨(hS.1.tr hτ).mono (by simp) (by simp), hS.2.fr hτ rfl rfl⟩ hT
      · rw [eB]
        exact h1.tr bfs_ext
      · refine c_find25 hd hW hC hG H1 H0 f (i + 1) _ υ (by omega) ?_ eB hB2 h1 h2
        have := (bF_ext (n := W.2.1) (e := L[i]) (z := (i == 0)) (ts := mvs W L[i].1) (L := L)).le
        omega
theorem c_find {d : Nat} {k : Int32 → am_S → Prop} (hd : 3 ≤ d) (hW : wd_ok W) (hC : WC W σ0) (hF : R_F σ0) (ha : a0 < 4 ^ W.2.1) (hG : ∀ c, c < 16384 → ((nI c &&& x3 = x4) ↔ G c = true))
    (H1 : ∀ τ u y, Ext (u ++ [y]) (bf0 W a0) → noG G u → G y.1 = true → FS σ0 τ (u ++ [y]) → k (nI u.length) τ)
    (H0 : ∀ τ, noG G (bf0 W a0) → FS σ0 τ (bf0 W a0) → k (-1) τ) : CI l g M_X7_find d [.ref 19, .ref 14, .int (nI a0), .int x3, .int x4] σ0 k := by
  have h7 := hW.1.2
  have ha2 := lt7 h7 ha
  refine b_X7_find_0 (by omega) (c_fgt (fun τ hτ hCS => ?_))
  refine c_fnote (c := a0) (f := 0) (m := 0) (by omega) hCS ha2 (by simp) (by simp) (fun e he => absurd he (by simp)) (fun υ hυ hCS2 => ?_)
  have hS : FS σ0 υ [(a0, 0, 0)] := ⟨(hτ.tr hυ).mono (by simp) (by simp), hCS2⟩
  refine ⟨fun ng => ?_, fun yg => ?_⟩
  · refine c_find25 (B := bf0 W a0) hd hW hC hG H1 H0 700 0 [(a0, 0, 0)] υ (by omega) (by simp) rfl (BI.one ha) (fun e he => ?_) hS
    rw [List.mem_singleton] at he
    subst he
    have : ¬ G a0 = true := fun z => ng ((hG a0 ha2).mpr z)
    simpa using this
  · exact H1 υ [] (a0, 0, 0) bfs_ext (fun e he => by cases he) ((hG a0 ha2).mp yg) hS
theorem fst_of_ext {u B : List En} {y : En} (h : Ext (u ++ [y]) B) (h2 : noG G u) (h3 : G y.1 = true) : fstG G B y := by
  obtain ⟨s, rfl⟩ := h
  exact ⟨u, s, by simp, h3, h2⟩
theorem c_few {d : Nat} {k : Int32 → am_S → Prop} (hd : 4 ≤ d) (hW : wd_ok W) (hC : WC W σ0) (hF : R_F σ0) (ha : a0 < 4 ^ W.2.1) (hG : ∀ c, c < 16384 → ((nI c &&& x3 = x4) ↔ G c = true))
    (H1 : ∀ τ y, fstG G (bf0 W a0) y → Fr [1224, 1283] [21, 22, 23, 24, 25, 26, 30] σ0 τ → R_F τ → k (nI y.2.1) τ)
    (H0 : ∀ τ, noG G (bf0 W a0) → Fr [1224, 1283] [21, 22, 23, 24, 25, 26, 30] σ0 τ → R_F τ → k (-2) τ) : CI l g M_X7_fewestTill d [.ref 19, .ref 14, .int (nI a0), .int x3, .int x4] σ0 k := by
  have h7 := hW.1.2
  have hB := bf0_BI hW ha
  refine b_X7_fewestTill_0 (by omega) (c_find (by omega) hW hC hF ha hG (fun τ u y h1 h2 h3 h4 => ?_) (fun τ h1 h2 => ?_))
  · have hB2 := hB.ext h1
    have hl := hB2.len h7
    rw [List.length_append] at hl
    have hl : u.length + 1 ≤ 630 := hl
    have hy : (u ++ [y])[u.length]? = some y := by
      rw [List.getElem?_append_right (Nat.le_refl _), Nat.sub_self]
      rfl
    rw [nI_clamp (n := u.length) (by omega), (h4.2.2.1 _ y hy).2.1]
    exact ⟨fun _ => ⟨vp_in_nI (by omega) (by omega), H1 τ y (fst_of_ext h1 h2 h3) h4.1 (h4.2.RF h7 hB2)⟩, fun q => absurd (nneg (by omega)) q⟩
  · exact ⟨fun q => absurd q (by decide), fun _ => H0 τ h1 h2.1 (h2.2.RF h7 hB)⟩
end FindC
