/-! the reference goes through all that can come -/
def grd (gr : Option Nat) (p q : Nat) : Bool := match gr with
  | none => true
  | some z => decide (p = z) || decide (q = z)
def gW (W : Wd) (gr : Option Nat) : Wd := (W.1, W.2.1, W.2.2.1, W.2.2.2.1, fun d p q => W.2.2.2.2 d p q && grd gr p q)
theorem gW_none {W : Wd} : gW W none = W := by
  obtain ⟨a, b, c, d, e⟩ := W
  unfold gW grd
  simp
theorem gW_ok {W : Wd} {gr : Option Nat} (h : wd_ok W) : wd_ok (gW W gr) := h
theorem nar_sN {m : Nat} (h : m < 32768) : vp_nar .short (nI m).toInt16.toInt32 = nI m := by
  rw [pk_vs]
  apply Int32.toInt_inj.mp
  rw [Int16.toInt_toInt32, Int32.toInt_toInt16, nI_toInt (by omega)]
  exact Int.bmod_eq_of_le (by omega) (by omega)
theorem nar_sm1 : vp_nar .short (-1) = -1 := by decide
/-- how far is never more than the place in the row -/
def DI (L : List En) : Prop := ∀ (i : Nat) (e : En), L[i]? = some e → e.2.1 ≤ i
theorem DI.add {n i : Nat} {e : En} {z : Bool} {L : List En} {t : Tr} (h : DI L) (hi : L[i]? = some e) : DI (bA n e z L t) := by
  unfold bA
  split
  · exact h
  · intro j y hy
    by_cases c : j < L.length
    · rw [List.getElem?_append_left c] at hy
      exact h j y hy
    · have c2 : j = L.length := by
        have := (List.getElem?_eq_some_iff.mp hy).1
        simp at this
        omega
      subst c2
      rw [List.getElem?_append_right (Nat.le_refl _), Nat.sub_self] at hy
      cases hy
      have h1 := h i e hi
      have h2 := (List.getElem?_eq_some_iff.mp hi).1
      show e.2.1 + 1 ≤ L.length
      omega
theorem DI.fold {n i : Nat} {e : En} {z : Bool} : ∀ {ts : List Tr} {L : List En}, DI L → L[i]? = some e → DI (ts.foldl (bA n e z) L)
  | [], _, h, _ => h
  | t :: ts, L, h, hi => DI.fold (ts := ts) (L := bA n e z L t) (h.add hi) (bA_ext.at hi)
theorem DI.one {a0 : Nat} : DI [(a0, 0, 0)] := fun i e hi => by
  have := List.mem_of_getElem? hi
  rw [List.mem_singleton] at this
  subst this
  exact Nat.zero_le _
def MF (G : Nat → Bool) (σ : am_S) (L : List En) : Prop := rg σ 3560 = nI L.length ∧ (∀ i e, L[i]? = some e → ar σ 77 i = nI e.1 ∧ ar σ 76 e.1 = nI e.2.1) ∧ (∀ c, c < 16384 → c ∉ L.map (·.1) → ar σ 76 c = -1) ∧ ((noG G L ∧ rg σ 3563 = -1) ∨ ∃ y, fstG G L y ∧ rg σ 3563 = nI y.2.1)
theorem fst_app {G : Nat → Bool} {L : List En} {e y : En} (h : fstG G L y) : fstG G (L ++ [e]) y := by
  obtain ⟨u, v, h1, h2, h3⟩ := h
  exact ⟨u, v ++ [e], by rw [h1]; simp, h2, h3⟩
section AllM
variable {l : Launch} {g : am_G} {σ0 : am_S} {W : Wd} {G : Nat → Bool}
theorem m_can {d D p q a : Nat} {σ : am_S} {k : Int32 → am_S → Prop} (hd : 1 ≤ d) (hW : wd_ok W) (hM : WM W σ) (ha : a < 4 ^ W.2.1) (hD : D < W.1) (hp : p < W.2.1) (hq : q < W.2.1) (H1 : canB W a (D, p, q) = true → k 1 σ) (H0 : canB W a (D, p, q) = false → k 0 σ) : CI l g M_X12_can d [.ref 55, .int (nI a), .int (nI D), .int (nI p), .int (nI q)] σ k := by
  have h5 := hW.1.1
  have h7 := hW.1.2
  obtain ⟨f4, t4, -⟩ := hW.2 D hD
  have vD : vp_in (nI D) 5 := vp_in_nI (by omega) (by omega)
  have ei : 49 * nI D + 7 * nI p + nI q = nI (49 * D + 7 * p + q) := by rw [show (49 : Int32) = nI 49 from rfl, show (7 : Int32) = nI 7 from rfl, pk_mul, pk_mul, nI_add, nI_add]
  refine b_X12_can_0 hd ?_
  have rp := rmN_lt a p
  have rq := rmN_lt a q
  rw [ei, nI_clamp (n := 49 * D + 7 * p + q) (by omega), nI_clamp (n := D) (by omega), hM.2.2 D p q hD hp hq, (hM.2.1 D hD).1, (hM.2.1 D hD).2, i_room h7 ha (p := p) (by omega), i_room h7 ha (p := q) (by omega)]
  refine ⟨vp_in_nI (by omega) (by omega), fun c => H0 ?_, fun c => ⟨vD, fun c1 => H0 ?_, fun c1 => ⟨vD, fun c2 => H0 ?_, fun c2 => H1 ?_⟩⟩⟩
  · have : ¬ W.2.2.2.2 D p q = true := fun z => by
      rw [if_pos z] at c
      exact absurd c (by decide)
    unfold canB
    simp [this]
  · have : ¬ rmN a p = W.2.2.1 D := fun z => c1 (by rw [z])
    unfold canB
    simp [this]
  · have : ¬ rmN a q = W.2.2.2.1 D := fun z => c2 (by rw [z])
    unfold canB
    simp [this]
  · have e0 : W.2.2.2.2 D p q = true := by
      by_cases z : W.2.2.2.2 D p q = true
      · exact z
      · rw [if_neg z] at c
        exact absurd rfl c
    exact canB_iff.mpr ⟨e0, nI_inj (a := rmN a p) (b := W.2.2.1 D) (by omega) (by omega) c1, nI_inj (a := rmN a q) (b := W.2.2.2.1 D) (by omega) (by omega) c2⟩
theorem m_meet {d c f m : Nat} {σ : am_S} {L : List En} {k : am_S → Prop} (hG : ∀ c, c < 16384 → ((nI c &&& rg σ 3561 = rg σ 3562) ↔ G c = true)) (h : MF G σ L) (hc : c < 16384) (hl : L.length < 16384) (hf : f < 32768) (hL : ∀ e ∈ L, e.1 < 16384) (hdist : ∀ e ∈ L, e.2.1 < 32768) (H1 : c ∈ L.map (·.1) → k σ) (H0 : c ∉ L.map (·.1) → ∀ τ, Fr [3560, 3563] [76, 77] σ τ → MF G τ (L ++ [(c, f, m)]) → k τ) : CV l g M_X12_meet d [.ref 55, .int (nI c), .int (nI f)] σ k := by
  obtain ⟨h1, h2, h3, h4⟩ := h
  have vc : vp_in (nI c) 16384 := vp_in_nI hc (by omega)
  have vL : vp_in (nI L.length) 16384 := vp_in_nI hl (by omega)
  refine b_X12_meet_0 ?_
  rw [h1, nI_clamp (n := c) (by omega), nI_clamp (n := L.length) (by omega), nar_sN (m := f) hf, nar_sN (m := c) (by omega), nI_1]
  by_cases hin : c ∈ L.map (·.1)
  · obtain ⟨e, he, ee⟩ := List.mem_map.mp hin
    obtain ⟨i, hi, ei⟩ := List.getElem_of_mem he
    have e2 : L[i]? = some e := by rw [List.getElem?_eq_getElem hi, ei]
    have e76 := (h2 i e e2).2
    have ee : e.1 = c := ee
    rw [ee] at e76
    rw [e76]
    have := hdist e he
    exact ⟨vc, fun q => absurd q (nI_pos (by omega)), fun _ => H1 hin⟩
  · have H0 := H0 hin
    rw [h3 c hc hin]
    refine ⟨vc, fun _ => ⟨vc, vL, ?_⟩, fun q => absurd (by decide) q⟩
    have base : ∀ τ, (∀ j, ar τ 76 j = if j = c then nI f else ar σ 76 j) → (∀ j, ar τ 77 j = if j = L.length then nI c else ar σ 77 j) → rg τ 3560 = nI (L.length + 1) → ((noG G (L ++ [(c, f, m)]) ∧ rg τ 3563 = -1) ∨ ∃ y, fstG G (L ++ [(c, f, m)]) y ∧ rg τ 3563 = nI y.2.1) → MF G τ (L ++ [(c, f, m)]) := by
      intro τ x76 x77 x60 x4
      refine ⟨by rw [x60, List.length_append]; rfl, fun i e hi => ?_, fun c2 hc2 hn2 => ?_, x4⟩
      · rw [x76, x77]
        by_cases q : i < L.length
        · rw [List.getElem?_append_left q] at hi
          have hm := List.mem_of_getElem? hi
          have ne : ¬ e.1 = c := fun z => hin (by rw [← z]; exact List.mem_map_of_mem (f := (·.1)) hm)
          rw [if_neg (by omega), if_neg ne]
          exact h2 i e hi
        · have q2 : i = L.length := by
            have := (List.getElem?_eq_some_iff.mp hi).1
            simp at this
            omega
          subst q2
          rw [List.getElem?_append_right (Nat.le_refl _), Nat.sub_self] at hi
          cases hi
          rw [if_pos rfl, if_pos rfl]
          exact ⟨rfl, rfl⟩
      · rw [List.map_append, List.mem_append] at hn2
        have q1 : ¬ c2 = c := fun z => hn2 (Or.inr (by rw [z]; exact List.mem_singleton.mpr rfl))
        rw [x76, if_neg q1]
        exact h3 c2 hc2 (fun z => hn2 (Or.inl z))
    refine ⟨fun q => ?_, fun q => ⟨fun ng => ?_, fun yg => ?_⟩⟩
    · refine H0 _ ((Fr.rf.wA.wA.wR).mono (by simp) (by simp)) (base _ (fun j => by simp [ar_sA, ar_sR]) (fun j => by simp [ar_sA, ar_sR]) rfl ?_)
      rcases h4 with ⟨-, e⟩ | ⟨y, hy, e⟩
      · rw [e] at q
        exact absurd q (by decide)
      · exact Or.inr ⟨y, fst_app hy, e⟩
    · refine H0 _ ((Fr.rf.wA.wA.wR).mono (by simp) (by simp)) (base _ (fun j => by simp [ar_sA, ar_sR]) (fun j => by simp [ar_sA, ar_sR]) rfl ?_)
      rcases h4 with ⟨hn, e⟩ | ⟨y, hy, e⟩
      · exact Or.inl ⟨noG_app hn (fun z => ng ((hG c hc).mpr z)), e⟩
      · exact Or.inr ⟨y, fst_app hy, e⟩
    · refine H0 _ ((Fr.rf.wA.wA.wR.wR).mono (by simp) (by simp)) (base _ (fun j => by simp [ar_sA, ar_sR]) (fun j => by simp [ar_sA, ar_sR]) rfl ?_)
      rcases h4 with ⟨hn, e⟩ | ⟨y, hy, e⟩
      · exact Or.inr ⟨(c, f, m), ⟨L, [], rfl, (hG c hc).mp yg, hn⟩, rfl⟩
      · rw [e] at q
        obtain ⟨u, v, hy1, -⟩ := hy
        have := hdist y (by rw [hy1]; exact List.mem_append_right _ List.mem_cons_self)
        exact absurd (nneg (by omega)) q
/-- a state of the walk with the row L met -/
def MS2 (G : Nat → Bool) (σ0 σ : am_S) (L : List En) : Prop := Fr [3560, 3563] [76, 77] σ0 σ ∧ MF G σ L
def grI (gr : Option Nat) : Int32 := match gr with
  | none => -1
  | some z => nI z
theorem m_trip {d i a0 : Nat} {e : En} {L : List En} {gr : Option Nat} {x1 : Int32} {k : am_S → Prop} (hd : 3 ≤ d) (hW : wd_ok W) (hM : WM W σ0) (hgr : ∀ z, gr = some z → z < 7) (hG : ∀ c, c < 16384 → ((nI c &&& rg σ0 3561 = rg σ0 3562) ↔ G c = true)) (hi : L[i]? = some e) (hB : BI W.2.1 a0 L) (hDI : DI L)
    (H : ∀ τ, MS2 G σ0 τ ((mvs (gW W gr) e.1).foldl (bA W.2.1 e (i == 0)) L) → JV l g M_X12_findAll d 40 [(0, .ref 55), (1, .int x1), (2, .int (grI gr)), (3, .int (nI (i + 1)))] [] τ k) (σ : am_S) (hS : MS2 G σ0 σ L) :
    JV l g M_X12_findAll d 59 [(0, .ref 55), (1, .int x1), (2, .int (grI gr)), (3, .int (nI i)), (4, .int (nI e.1)), (5, .int (nI 0))] [] σ k := by
  have h5 := hW.1.1
  have h7 := hW.1.2
  have hem := List.mem_of_getElem? hi
  have ha := (hB.2 e hem).1
  have r22 : ∀ {σ : am_S} {M : List En}, MS2 G σ0 σ M → rg σ 3522 = nI W.1 := fun h => (h.1.R 3522 rfl).trans hM.1.1
  have r26 : ∀ {σ : am_S} {M : List En}, MS2 G σ0 σ M → rg σ 3526 = nI W.2.1 := fun h => (h.1.R 3526 rfl).trans hM.1.2
  refine trip_loop (W := gW W gr) (a := e.1)
    (fun D σ => JV l g M_X12_findAll d 59 [(0, .ref 55), (1, .int x1), (2, .int (grI gr)), (3, .int (nI i)), (4, .int (nI e.1)), (5, .int (nI D))] [] σ k)
    (fun D p σ => JV l g M_X12_findAll d 71 [(0, .ref 55), (1, .int x1), (2, .int (grI gr)), (3, .int (nI i)), (4, .int (nI e.1)), (5, .int (nI D)), (6, .int (nI p))] [] σ k)
    (fun D p q σ => JV l g M_X12_findAll d 83 [(0, .ref 55), (1, .int x1), (2, .int (grI gr)), (3, .int (nI i)), (4, .int (nI e.1)), (5, .int (nI D)), (6, .int (nI p)), (7, .int (nI q))] [] σ k)
    (fun pre σ => (∀ t ∈ pre, t ∈ mvs (gW W gr) e.1) ∧ MS2 G σ0 σ (pre.foldl (bA W.2.1 e (i == 0)) L))
    ?_ ?_ ?_ ?_ ?_ ?_ σ ⟨fun t ht => (by cases ht), hS⟩
  · intro D pre s hD hI hj
    have hD : D < W.1 := hD
    refine b_X12_findAll_59 ?_
    rw [r22 hI.2]
    exact ⟨fun z => absurd ((len (by omega) (by omega)).mp z) (by omega), fun _ => hj⟩
  · intro D pre s hD hI hj
    have hD : D < W.1 := hD
    refine b_X12_findAll_71 ?_
    rw [r26 hI.2, nI_1]
    exact ⟨fun _ => hj, fun z => absurd ((len (by show W.2.1 < _; omega) (by show W.2.1 < _; omega)).mpr (Nat.le_refl W.2.1)) z⟩
  · intro D p pre s hD hp hI hj
    have hp : p < W.2.1 := hp
    refine b_X12_findAll_71 ?_
    rw [r26 hI.2]
    exact ⟨fun z => absurd ((len (by omega) (by omega)).mp z) (by omega), fun _ => hj⟩
  · intro D p pre s hD hp hI hj
    have hp : p < W.2.1 := hp
    refine b_X12_findAll_83 (by omega) ?_
    rw [r26 hI.2, nI_1 p]
    exact ⟨fun _ => hj, fun z => absurd ((len (by show W.2.1 < _; omega) (by show W.2.1 < _; omega)).mpr (Nat.le_refl W.2.1)) z⟩
  · intro D p q pre s hD hp hq hI
    have hD : D < W.1 := hD
    have hp : p < W.2.1 := hp
    have hq : q < W.2.1 := hq
    have hE : Ext L (pre.foldl (bA W.2.1 e (i == 0)) L) := bF_ext
    have hB2 : BI W.2.1 a0 (pre.foldl (bA W.2.1 e (i == 0)) L) := BI.fold (W := gW W gr) (gW_ok hW) (hB.2 e hem).2 hI.1 hB
    have hDI2 : DI (pre.foldl (bA W.2.1 e (i == 0)) L) := DI.fold hDI hi
    generalize eM : pre.foldl (bA W.2.1 e (i == 0)) L = M at hI hE hB2 hDI2
    have eMi := hE.at hi
    have iM : i < M.length := (List.getElem?_eq_some_iff.mp eMi).1
    have l630 := hB2.len h7
    have e76 := (hI.2.2.2.1 i e eMi).2
    have de := hDI2 i e eMi
    have hc : nxt W.2.1 e.1 (D, p, q) < 16384 := lt7 h7 swp_lt
    have eN : pre.foldl (bA W.2.1 e (i == 0)) L = M := eM
    -- the body, where one is asked
    have body : ∀ K0 : am_S → Prop, (canB W e.1 (D, p, q) = false → K0 s) → (canB W e.1 (D, p, q) = true → ∀ τ, MS2 G σ0 τ (bA W.2.1 e (i == 0) M (D, p, q)) → K0 τ) → CI l g M_X12_can (d - 1) [.ref 55, .int (nI e.1), .int (nI D), .int (nI p), .int (nI q)] s (fun r1 σ1 => ((r1 = 0 → K0 σ1) ∧ (¬ r1 = 0 → (vp_in (nI e.1) 16384 ∧ CV l g M_X12_meet (d - 1) [.ref 55, .int ((((nI e.1 &&& (((3 : Int32) <<< ((2 * nI p) &&& 31)) ^^^ (-1))) ||| (((nI e.1 >>> ((2 * nI q) &&& 31)) &&& 3) <<< ((2 * nI p) &&& 31))) &&& (((3 : Int32) <<< ((2 * nI q) &&& 31)) ^^^ (-1))) ||| (((nI e.1 >>> ((2 * nI p) &&& 31)) &&& 3) <<< ((2 * nI q) &&& 31))), .int ((ar σ1 76 (nI e.1).toNatClampNeg) + 1)] σ1 (fun σ2 => K0 σ2))))) := by
      intro K0 k0 k1
      have ha2 := lt7 h7 ha
      refine m_can (by omega) hW (hM.fr hI.2.1 rfl rfl) ha hD hp hq (fun cb => ⟨fun z => absurd z (by decide), fun _ => ⟨vp_in_nI ha2 (by omega), ?_⟩⟩) (fun cb => ⟨fun _ => k0 cb, fun z => absurd rfl z⟩)
      rw [i_swM h7 ha hp hq, nI_clamp (n := e.1) (by omega), e76, nI_1]
      refine m_meet (m := if (i == 0) = true then mcode (D, p, q) else e.2.2) (c := nxt W.2.1 e.1 (D, p, q)) (fun c hc => ?_) hI.2.2 hc (by omega) (by omega) (fun y hy => lt7 h7 (hB2.2 y hy).1) (fun y hy => ?_) (fun hin => k1 cb s ?_) (fun hin τ hτ hMF => k1 cb τ ?_)
      · rw [hI.2.1.R 3561 rfl, hI.2.1.R 3562 rfl]
        exact hG c hc
      · obtain ⟨j, hj, ej⟩ := List.getElem_of_mem hy
        have e2 : M[j]? = some y := by rw [List.getElem?_eq_getElem hj, ej]
        have := hDI2 j y e2
        omega
      · have : bA W.2.1 e (i == 0) M (D, p, q) = M := by
          unfold bA
          rw [if_pos hin]
        rw [this]
        exact hI.2
      · have : bA W.2.1 e (i == 0) M (D, p, q) = M ++ [(nxt W.2.1 e.1 (D, p, q), e.2.1 + 1, if (i == 0) = true then mcode (D, p, q) else e.2.2)] := by
          unfold bA
          rw [if_neg hin]
        rw [this]
        exact ⟨(hI.2.1.tr hτ).mono (by simp) (by simp), hMF⟩
    have fin : ∀ {pre2 : List Tr} {τ : am_S} {N : List En}, (∀ t ∈ pre2, t ∈ mvs (gW W gr) e.1) → pre2.foldl (bA W.2.1 e (i == 0)) L = N → MS2 G σ0 τ N → (∀ t ∈ pre2, t ∈ mvs (gW W gr) e.1) ∧ MS2 G σ0 τ (pre2.foldl (bA W.2.1 e (i == 0)) L) := by
      intro pre2 τ N h1 h2 h3
      rw [h2]
      exact ⟨h1, h3⟩
    have cb1 : canB (gW W gr) e.1 (D, p, q) = (canB W e.1 (D, p, q) && grd gr p q) := by
      exact Bool.and_right_comm _ _ _
    have e2 : (pre ++ [(D, p, q)]).foldl (bA W.2.1 e (i == 0)) L = bA W.2.1 e (i == 0) M (D, p, q) := by
      rw [List.foldl_append, eN]
      rfl
    have r26s := r26 hI.2
    have g0 : grI gr < 0 → grd gr p q = true := by
      intro z0
      cases gr with
      | none => rfl
      | some z => exact absurd z0 (nI_pos (by have := hgr z rfl; omega))
    have g1 : nI p = grI gr → grd gr p q = true := by
      intro z2
      cases gr with
      | none => rfl
      | some z =>
        have : p = z := nI_inj (by omega) (by have := hgr z rfl; omega) z2
        unfold grd
        simp [this]
    have g2 : nI q = grI gr → grd gr p q = true := by
      intro z2
      cases gr with
      | none => rfl
      | some z =>
        have : q = z := nI_inj (by omega) (by have := hgr z rfl; omega) z2
        unfold grd
        simp [this]
    constructor
    · intro cg hs hk
      obtain ⟨suf, hs⟩ := hs
      have hmem : ∀ t ∈ pre ++ [(D, p, q)], t ∈ mvs (gW W gr) e.1 := by
        intro t ht
        rw [← hs]
        rcases List.mem_append.mp ht with z | z
        · exact List.mem_append_left _ z
        · rw [List.mem_singleton] at z
          rw [z]
          exact List.mem_append_right _ List.mem_cons_self
      rw [cb1, Bool.and_eq_true] at cg
      refine b_X12_findAll_83 (by omega) ?_
      rw [r26s, nI_1 q]
      have bb := body (fun τ => JV l g M_X12_findAll d 83 [(0, .ref 55), (1, .int x1), (2, .int (grI gr)), (3, .int (nI i)), (4, .int (nI e.1)), (5, .int (nI D)), (6, .int (nI p)), (7, .int (nI (q + 1)))] [] τ k) (fun z => by rw [cg.1] at z; cases z) (fun _ τ hτ => hk τ (fin hmem e2 hτ))
      refine ⟨fun z => absurd ((len (by omega) (by omega)).mp z) (by omega), fun _ => ⟨fun _ => bb, fun z1 => ⟨fun _ => bb, fun z2 => ⟨fun z3 => ?_, fun _ => bb⟩⟩⟩⟩
      have cg2 := cg.2
      clear H bb hk hmem cb1 fin body cg hI hs
      match gr, cg2, z1, z2, z3 with
      | none, _, z1, _, _ => exact absurd (by decide) z1
      | some z, cg, _, z2, z3 =>
        have := cg
        unfold grd at this
        simp at this
        rcases this with w | w
        · exact absurd (by rw [w]; rfl) z2
        · exact absurd (by rw [w]; rfl) z3
    · intro cg hk
      rw [cb1, Bool.and_eq_false_iff] at cg
      refine b_X12_findAll_83 (by omega) ?_
      rw [r26s, nI_1 q]
      have nx := hk s hI
      have bb : grd gr p q = true → _ := fun w => body (fun τ => JV l g M_X12_findAll d 83 [(0, .ref 55), (1, .int x1), (2, .int (grI gr)), (3, .int (nI i)), (4, .int (nI e.1)), (5, .int (nI D)), (6, .int (nI p)), (7, .int (nI (q + 1)))] [] τ k) (fun _ => nx) (fun z => by
          rcases cg with c | c
          · rw [z] at c
            cases c
          · rw [w] at c
            cases c)
      refine ⟨fun z => absurd ((len (by omega) (by omega)).mp z) (by omega), fun _ => ⟨fun z0 => bb (g0 z0), fun z1 => ⟨fun z2 => bb (g1 z2), fun z2 => ⟨fun z3 => nx, fun z3 => bb (g2 z3)⟩⟩⟩⟩
  · intro s hI
    refine b_X12_findAll_59 ?_
    rw [r22 hI.2, nI_1]
    exact ⟨fun _ => H s hI.2, fun z => absurd ((len (by show W.1 < _; omega) (by show W.1 < _; omega)).mpr (Nat.le_refl W.1)) z⟩
theorem m_all40 {d a0 : Nat} {gr : Option Nat} {x1 : Int32} {B : List En} {k : am_S → Prop} (hd : 3 ≤ d) (hW : wd_ok W) (hM : WM W σ0) (hgr : ∀ z, gr = some z → z < 7) (hG : ∀ c, c < 16384 → ((nI c &&& rg σ0 3561 = rg σ0 3562) ↔ G c = true))
    (H : ∀ τ, MS2 G σ0 τ B → k τ) : ∀ (f i : Nat) (L : List En) (σ : am_S), 631 ≤ f + i → i ≤ L.length → B = bfs (gW W gr) f i L → BI W.2.1 a0 L → DI L → MS2 G σ0 σ L →
    JV l g M_X12_findAll d 40 [(0, .ref 55), (1, .int x1), (2, .int (grI gr)), (3, .int (nI i))] [] σ k
  | 0, i, L, σ, hf, hi, eB, hB, hD, hS => by
    have := hB.len hW.1.2
    omega
  | f + 1, i, L, σ, hf, hi, eB, hB, hD, hS => by
    have h7 := hW.1.2
    have hl := hB.len h7
    refine b_X12_findAll_40 ?_
    rw [hS.2.1]
    unfold bfs at eB
    refine ⟨fun q => ?_, fun q => ⟨vp_in_nI (by omega) (by omega), ?_⟩⟩
    · have q2 : L.length ≤ i := (len (by omega) (by omega)).mp q
      rw [List.getElem?_eq_none q2] at eB
      have eB : B = L := eB
      rw [← eB] at hS
      exact H σ hS
    · have q2 : i < L.length := by
        have : ¬ L.length ≤ i := fun z => q ((len (by omega) (by omega)).mpr z)
        omega
      have e1 := List.getElem?_eq_getElem q2
      rw [e1] at eB
      have eB : B = bfs (gW W gr) f (i + 1) ((mvs (gW W gr) L[i].1).foldl (bA W.2.1 L[i] (i == 0)) L) := eB
      have hem := List.mem_of_getElem? e1
      rw [nI_clamp (n := i) (by omega), (hS.2.2.1 i _ e1).1]
      have hB2 : BI W.2.1 a0 ((mvs (gW W gr) L[i].1).foldl (bA W.2.1 L[i] (i == 0)) L) := BI.fold (W := gW W gr) (e := L[i]) (z := (i == 0)) (gW_ok hW) (hB.2 _ hem).2 (ts := mvs (gW W gr) L[i].1) (fun _ z => z) hB
      refine m_trip hd hW hM hgr hG e1 hB hD (fun τ hτ => m_all40 hd hW hM hgr hG H f (i + 1) _ τ (by omega) ?_ eB hB2 (DI.fold hD e1) hτ) σ hS
      have := (bF_ext (n := W.2.1) (e := L[i]) (z := (i == 0)) (ts := mvs (gW W gr) L[i].1) (L := L)).le
      omega
theorem m_all2 {d a0 : Nat} {gr : Option Nat} {k : am_S → Prop} (hd : 3 ≤ d) (hW : wd_ok W) (hM : WM W σ0) (hgr : ∀ z, gr = some z → z < 7) (hG : ∀ c, c < 16384 → ((nI c &&& rg σ0 3561 = rg σ0 3562) ↔ G c = true)) (ha : a0 < 4 ^ W.2.1)
    (H : ∀ τ, MS2 G σ0 τ (bf0 (gW W gr) a0) → k τ) : ∀ (m x : Nat) (σ : am_S), x + m = 16384 → Fr [] [76] σ0 σ → (∀ c, c < x → ar σ 76 c = -1) →
    JV l g M_X12_findAll d 2 [(0, .ref 55), (1, .int (nI a0)), (2, .int (grI gr)), (3, .int (nI x))] [] σ k
  | 0, x, σ, e, h, hz => by
    have e : x = 16384 := by omega
    subst e
    have h7 := hW.1.2
    have ha2 := lt7 h7 ha
    refine b_X12_findAll_2 (by omega) ⟨fun _ => ?_, fun q => absurd (by decide) q⟩
    refine m_meet (G := G) (L := []) (c := a0) (f := 0) (m := 0) (fun c hc => ?_) ⟨rfl, fun i e hi => (by cases hi), fun c hc _ => hz c hc, Or.inl ⟨fun e he => (by cases he), rfl⟩⟩ ha2 (by simp) (by omega) (fun e he => by cases he) (fun e he => by cases he) (fun q => by cases q) (fun _ τ hτ hMF => ?_)
    · rw [rg_sR, if_neg (by decide), rg_sR, if_neg (by decide), rg_sR, if_neg (by decide), rg_sR, if_neg (by decide), h.R 3561 rfl, h.R 3562 rfl]
      exact hG c hc
    · exact m_all40 hd hW hM hgr hG H 700 0 [(a0, 0, 0)] τ (by omega) (by simp) rfl (BI.one ha) DI.one ⟨((h.wR.wR).tr hτ).mono (by simp) (by simp), hMF⟩
  | m + 1, x, σ, e, h, hz => by
    refine b_X12_findAll_2 (by omega) ?_
    rw [nI_clamp (n := x) (by omega), nI_1, nar_sm1]
    refine ⟨fun q => absurd ((len (a := 16384) (by omega) (by omega)).mp q) (by omega), fun _ => ⟨vp_in_nI (by omega) (by omega), m_all2 hd hW hM hgr hG ha H m (x + 1) _ (by omega) ((h.wA).mono (by simp) (by simp)) (fun c hc => ?_)⟩⟩
    by_cases q : c = x
    · rw [ar_sA, if_pos ⟨rfl, q⟩]
    · rw [ar_sA, if_neg (fun z => q z.2)]
      exact hz c (by omega)
theorem m_findAll {d a0 : Nat} {gr : Option Nat} {k : am_S → Prop} (hd : 3 ≤ d) (hW : wd_ok W) (hM : WM W σ0) (hgr : ∀ z, gr = some z → z < 7) (hG : ∀ c, c < 16384 → ((nI c &&& rg σ0 3561 = rg σ0 3562) ↔ G c = true)) (ha : a0 < 4 ^ W.2.1)
    (H : ∀ τ, MS2 G σ0 τ (bf0 (gW W gr) a0) → k τ) : CV l g M_X12_findAll d [.ref 55, .int (nI a0), .int (grI gr)] σ0 k :=
  b_X12_findAll_0 (m_all2 hd hW hM hgr hG ha H 16384 0 σ0 (Nat.zero_add _) (Fr.rf.mono (by simp) (by simp)) (fun c hc => absurd hc (Nat.not_lt_zero c)))
end AllM
