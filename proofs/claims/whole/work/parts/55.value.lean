/-! the told law: value of the class, gives of the reference -/
theorem mid_at {α : Type} {A B C : List α} {i : Nat} {v : α} (h : B[i]? = some v) : (A ++ (B ++ C))[A.length + i]? = some v := by
  have hi : i < B.length := (List.getElem?_eq_some_iff.mp h).1
  rw [List.getElem?_append_right (by omega), show A.length + i - A.length = i by omega, List.getElem?_append_left hi]
  exact h
theorem sg_ne {t : Tok} (h : tk_ok t) : ¬ tk_sign t = -59 := by
  rcases h with ⟨e, h0⟩ | ⟨e, h0, h5⟩ | e | e | e
  · rw [sg_num e]
    intro q
    rw [q] at h0
    exact absurd h0 (by decide)
  · obtain ⟨w, hw, ew⟩ := nI_of2 (M := 5) (n := 5) rfl (Int32.not_lt.mpr h0) h5
    rw [sg_nam e, ew]
    match w, hw with
    | 0, _ => decide
    | 1, _ => decide
    | 2, _ => decide
    | 3, _ => decide
    | 4, _ => decide
    | 5, _ => decide
    | z + 6, q => omega
  · rw [sg_not e]
    decide
  · rw [sg_neg e]
    decide
  · rw [sg_bi e]
    exact (bin_ne e).2.2.2
def lnOk (ls : List Lin) : Prop := ∀ q ∈ ls, (q.1 = [] ∨ tk_wf q.1) ∧ tk_wf q.2
section ValC
variable {l : Launch} {g : am_G} {σ0 : am_S} {x1 x2 x3 x4 x5 x6 : Int32}
/-- the last part of a line -/
theorem c_part {d D pos : Nat} {ts : List Tok} {σ : am_S} {k : Int32 → am_S → Prop} (hd : 3 ≤ d) (hD : D ≤ 121) (e705 : rg σ0 705 = nI D) (hw : tk_wf ts) (hl : pos + ts.length + 1 ≤ D) (hs : ∀ i v, (ts.map tk_sign ++ [-59])[i]? = some v → ar σ0 12 (pos + i) = v) (h : VC σ0 σ [])
    (H : ∀ τ, Fr [707] [13] σ0 τ → k (evE (fF x1 x2 x3 x4 x5 x6) ts) τ) :
    JI l g M_X4_value d 8 [(0, .ref 11), (1, .int x1), (2, .int x2), (3, .int x3), (4, .int x4), (5, .int x5), (6, .int x6), (7, .int (nI pos))] [] σ k := by
  refine c_toks (by omega) hD e705 ts pos 1 σ [] hw.1 hw.2 (by omega) (Nat.zero_le _) (fun i v hv => hs i v (by rw [List.getElem?_append_left (List.getElem?_eq_some_iff.mp hv).1]; exact hv)) h (fun τ hτ => ?_)
  rw [evE_one hw] at hτ
  have e59 : ar σ0 12 (pos + ts.length) = -59 := hs ts.length (-59) (by rw [List.getElem?_append_right (by simp)]; simp)
  refine b_X4_value_8 (by omega) ?_
  rw [hτ.1.R 705 rfl, hτ.1.A 12 rfl, e705, nI_clamp (by omega), e59]
  refine ⟨fun q => absurd ((len (by omega) (by omega)).mp q) (by omega), fun _ => ⟨vp_in_nI (by omega) (by omega), fun q => absurd rfl q.1, fun _ => c_pop (by simp) hτ (fun υ hυ => H υ hυ.1), fun q => absurd q (by decide), fun q => absurd q (by decide), fun q => absurd q (by decide), fun q => absurd q (by decide), fun q => absurd q (by decide), fun q => absurd q (by decide), fun q => absurd q (by decide)⟩⟩
theorem c_lines {d D : Nat} {k : Int32 → am_S → Prop} (hd : 3 ≤ d) (hD : D ≤ 121) (e705 : rg σ0 705 = nI D) : ∀ (ls : List Lin) (pos : Nat) (σ : am_S), lnOk ls → pos + (ls.flatMap ln_C).length = D → (∀ i v, (ls.flatMap ln_C)[i]? = some v → ar σ0 12 (pos + i) = v) → VC σ0 σ [] →
    (∀ τ, Fr [707] [13] σ0 τ → k (evL (fF x1 x2 x3 x4 x5 x6) ls) τ) →
    JI l g M_X4_value d 8 [(0, .ref 11), (1, .int x1), (2, .int x2), (3, .int x3), (4, .int x4), (5, .int x5), (6, .int x6), (7, .int (nI pos))] [] σ k
  | [], pos, σ, _, hl, _, h, H => by
    have hl : pos + 0 = D := hl
    refine b_X4_value_8 (by omega) ?_
    rw [h.1.R 705 rfl, e705]
    exact ⟨fun _ => H σ h.1, fun q => absurd ((len (by omega) (by omega)).mpr (by omega)) q⟩
  | q :: r, pos, σ, hok, hl, hs, h, H => by
    obtain ⟨w1, w2⟩ := hok q List.mem_cons_self
    have hok2 : lnOk r := fun s hs2 => hok s (List.mem_cons_of_mem _ hs2)
    rw [List.flatMap_cons] at hl hs
    by_cases c : q.1 = []
    · have e1 : ln_C q = q.2.map tk_sign ++ [-59] := by
        unfold ln_C
        rw [if_pos c]
        rfl
      rw [e1] at hl hs
      refine c_part hd hD e705 w2 (by simp at hl; omega) (fun i v hv => hs i v (by rw [List.getElem?_append_left (List.getElem?_eq_some_iff.mp hv).1]; exact hv)) h (fun τ hτ => ?_)
      have := H τ hτ
      unfold evL at this
      rw [if_pos c] at this
      exact this
    · have wf1 : tk_wf q.1 := w1.resolve_left c
      have e1 : ln_C q = q.1.map tk_sign ++ ([-63] ++ (q.2.map tk_sign ++ [-59])) := by
        unfold ln_C
        rw [if_neg c]
        simp
      rw [e1] at hl hs
      have hl2 : pos + q.1.length + 1 + q.2.length + 1 + (r.flatMap ln_C).length = D := by
        simp at hl
        simp
        omega
      have sub : ∀ {A B C : List Int32}, (q.1.map tk_sign ++ ([-63] ++ (q.2.map tk_sign ++ [-59]))) ++ r.flatMap ln_C = A ++ (B ++ C) → ∀ i v, B[i]? = some v → ar σ0 12 (pos + A.length + i) = v := by
        intro A B C e i v hv
        have := hs (A.length + i) v (by rw [e]; exact mid_at hv)
        rw [← this]
        congr 1
        omega
      refine c_toks (by omega) hD e705 q.1 pos 1 σ [] wf1.1 wf1.2 (by omega) (Nat.zero_le _) (sub (A := []) (B := q.1.map tk_sign) (C := [-63] ++ (q.2.map tk_sign ++ [-59]) ++ r.flatMap ln_C) (by simp)) h (fun τ hτ => ?_)
      rw [evE_one wf1] at hτ
      have e63 : ar σ0 12 (pos + q.1.length) = -63 := by
        have := sub (A := q.1.map tk_sign) (B := [-63]) (C := (q.2.map tk_sign ++ [-59]) ++ r.flatMap ln_C) (by simp) 0 (-63) rfl
        simpa using this
      refine b_X4_value_8 (by omega) ?_
      rw [hτ.1.R 705 rfl, hτ.1.A 12 rfl, e705, nI_clamp (by omega), e63, nI_1]
      refine ⟨fun z => absurd ((len (by omega) (by omega)).mp z) (by omega), fun _ => ⟨vp_in_nI (by omega) (by omega), fun z => absurd rfl z.2.1, fun z => absurd z (by decide), fun _ => c_pop (by simp) hτ (fun υ hυ => ⟨fun ne => ?_, fun eq => ?_⟩), fun z => absurd z (by decide), fun z => absurd z (by decide), fun z => absurd z (by decide), fun z => absurd z (by decide), fun z => absurd z (by decide), fun z => absurd z (by decide)⟩⟩
      · refine c_part hd hD e705 w2 (by omega) (fun i v hv => ?_) hυ (fun ω hω => ?_)
        · have := sub (A := q.1.map tk_sign ++ [-63]) (B := q.2.map tk_sign ++ [-59]) (C := r.flatMap ln_C) (by simp) i v hv
          rw [← this]
          congr 1
          simp
          omega
        · have := H ω hω
          unfold evL at this
          rw [if_neg c, if_neg ne] at this
          exact this
      · refine b_X4_endOfLine_0 ?_
        refine c_eol hD ((hυ.1.R 705 rfl).trans e705) (-63 :: q.2.map tk_sign) (pos + q.1.length) (by simp; omega) (fun i v hv => ?_) (fun v hv => ?_) ?_
        · rw [hυ.1.A 12 rfl]
          have := sub (A := q.1.map tk_sign) (B := (-63 :: q.2.map tk_sign) ++ [-59]) (C := r.flatMap ln_C) (by simp) i v hv
          simpa using this
        · rcases List.mem_cons.mp hv with z | z
          · rw [z]
            decide
          · obtain ⟨t, ht, rfl⟩ := List.mem_map.mp z
            exact sg_ne (w2.1 t ht)
        · rw [nI_1]
          have e9 : pos + q.1.length + (-63 :: q.2.map tk_sign).length + 1 = pos + q.1.length + 1 + q.2.length + 1 := by
            simp
            omega
          rw [e9]
          refine c_lines hd hD e705 r _ υ hok2 hl2 (fun i v hv => ?_) hυ (fun ω hω => ?_)
          · have := sub (A := q.1.map tk_sign ++ ([-63] ++ (q.2.map tk_sign ++ [-59]))) (B := r.flatMap ln_C) (C := []) (by simp) i v hv
            rw [← this]
            congr 1
            simp
            omega
          · have := H ω hω
            unfold evL at this
            rw [if_neg c, if_pos eq] at this
            exact this
theorem c_value {d : Nat} {σ : am_S} {ls : List Lin} {k : Int32 → am_S → Prop} (hd : 3 ≤ d) (hok : lnOk ls) (hC : L_C σ ls) (H : ∀ τ, Fr [707] [13] σ τ → k (evL (fF x1 x2 x3 x4 x5 x6) ls) τ) : CI l g M_X4_value d [.ref 11, .int x1, .int x2, .int x3, .int x4, .int x5, .int x6] σ k := by
  obtain ⟨h1, h2, h3⟩ := hC
  refine b_X4_value_0 ?_
  exact c_lines (σ0 := σ) hd h1 h2 ls 0 _ hok (by omega) (fun i v hv => by rw [Nat.zero_add]; exact h3 i v hv) ⟨(Fr.rf.wR).mono (by simp) (by simp), rfl, trivial⟩ H
end ValC
section ValM
variable {l : Launch} {g : am_G} {σ0 : am_S}
theorem div_m1 (x : Int32) : x / (-1) = -x := by
  apply Int32.toInt_inj.mp
  rw [Int32.toInt_div]
  show (x.toInt.tdiv (-1)).bmod _ = _
  rw [Int.tdiv_neg, Int.tdiv_one, Int32.toInt_neg]
theorem rem_m1 (x : Int32) : x - x / (-1) * (-1) = 0 := by
  rw [div_m1]
  grind
theorem m_twoOf {d : Nat} {σ : am_S} {s x y : Int32} {k : Int32 → am_S → Prop} (hs : tk_bin s) (H : k (two s x y) σ) : CI l g M_X12_twoOf d [.int s, .int x, .int y] σ k := by
  refine b_X12_twoOf_0 ?_
  rcases hs with h | h | h | h | h | h | h | h | h | h <;> subst h
  · rw [two124] at H
    exact ⟨fun _ => ⟨fun e => by rw [if_neg e] at H; exact H, fun e => ⟨fun e2 => by rw [if_pos e, if_pos e2] at H; exact H, fun e2 => by rw [if_pos e, if_neg e2] at H; exact H⟩⟩, fun q => absurd q (by decide), fun q => absurd q (by decide), fun q => absurd q (by decide), fun q => absurd q (by decide), fun q => absurd q (by decide), fun q => absurd q (by decide), fun q => absurd q (by decide), fun q => absurd q (by decide), fun q => absurd q (by decide), fun q => absurd q (by decide), fun q => absurd q (by decide), fun q => absurd q (by decide), fun q => absurd q (by decide), fun q => absurd q (by decide), fun q => absurd q (by decide), fun q => absurd q (by decide), fun q => absurd q (by decide), fun q => absurd q (by decide), fun q => absurd q (by decide), fun q => absurd q (by decide), fun q => absurd q (by decide), fun q => absurd q (by decide), fun q => absurd q (by decide), fun q => absurd q (by decide), fun q => absurd q (by decide), fun q => absurd q (by decide)⟩
  · rw [two38] at H
    exact ⟨fun q => absurd q (by decide), fun q => absurd q (by decide), fun _ => ⟨fun e => by rw [if_pos e] at H; exact H, fun e => ⟨fun e2 => by rw [if_neg e, if_pos e2] at H; exact H, fun e2 => by rw [if_neg e, if_neg e2] at H; exact H⟩⟩, fun q => absurd q (by decide), fun q => absurd q (by decide), fun q => absurd q (by decide), fun q => absurd q (by decide), fun q => absurd q (by decide), fun q => absurd q (by decide), fun q => absurd q (by decide), fun q => absurd q (by decide), fun q => absurd q (by decide), fun q => absurd q (by decide), fun q => absurd q (by decide), fun q => absurd q (by decide), fun q => absurd q (by decide), fun q => absurd q (by decide), fun q => absurd q (by decide), fun q => absurd q (by decide), fun q => absurd q (by decide), fun q => absurd q (by decide), fun q => absurd q (by decide), fun q => absurd q (by decide), fun q => absurd q (by decide), fun q => absurd q (by decide), fun q => absurd q (by decide), fun q => absurd q (by decide)⟩
  · rw [two60] at H
    exact ⟨fun q => absurd q (by decide), fun q => absurd q (by decide), fun q => absurd q (by decide), fun q => absurd q (by decide), fun q => absurd q (by decide), fun q => absurd q (by decide), fun q => absurd q (by decide), fun q => absurd q (by decide), fun q => absurd q (by decide), fun q => absurd q (by decide), fun q => absurd q (by decide), fun q => absurd q (by decide), fun q => absurd q (by decide), fun q => absurd q (by decide), fun q => absurd q (by decide), fun q => absurd q (by decide), fun q => absurd q (by decide), fun q => absurd q (by decide), fun q => absurd q (by decide), fun q => absurd q (by decide), fun q => absurd q (by decide), fun q => absurd q (by decide), fun q => absurd q (by decide), fun q => absurd q (by decide), fun _ => ⟨fun e => by rw [if_pos e] at H; exact H, fun e => by rw [if_neg e] at H; exact H⟩, fun q => absurd q (by decide), fun q => absurd q (by decide)⟩
  · rw [two61] at H
    exact ⟨fun q => absurd q (by decide), fun q => absurd q (by decide), fun q => absurd q (by decide), fun q => absurd q (by decide), fun q => absurd q (by decide), fun q => absurd q (by decide), fun q => absurd q (by decide), fun q => absurd q (by decide), fun q => absurd q (by decide), fun q => absurd q (by decide), fun q => absurd q (by decide), fun q => absurd q (by decide), fun q => absurd q (by decide), fun q => absurd q (by decide), fun q => absurd q (by decide), fun q => absurd q (by decide), fun q => absurd q (by decide), fun q => absurd q (by decide), fun q => absurd q (by decide), fun q => absurd q (by decide), fun q => absurd q (by decide), fun q => absurd q (by decide), fun q => absurd q (by decide), fun q => absurd q (by decide), fun q => absurd q (by decide), fun _ => ⟨fun e => by rw [if_neg e] at H; exact H, fun e => by rw [if_pos e] at H; exact H⟩, fun q => absurd q (by decide)⟩
  · rw [two62] at H
    exact ⟨fun q => absurd q (by decide), fun q => absurd q (by decide), fun q => absurd q (by decide), fun q => absurd q (by decide), fun q => absurd q (by decide), fun q => absurd q (by decide), fun q => absurd q (by decide), fun q => absurd q (by decide), fun q => absurd q (by decide), fun q => absurd q (by decide), fun q => absurd q (by decide), fun q => absurd q (by decide), fun q => absurd q (by decide), fun q => absurd q (by decide), fun q => absurd q (by decide), fun q => absurd q (by decide), fun q => absurd q (by decide), fun q => absurd q (by decide), fun q => absurd q (by decide), fun q => absurd q (by decide), fun q => absurd q (by decide), fun q => absurd q (by decide), fun q => absurd q (by decide), fun q => absurd q (by decide), fun q => absurd q (by decide), fun q => absurd q (by decide), fun _ => ⟨fun e => by rw [if_pos e] at H; exact H, fun e => by rw [if_neg e] at H; exact H⟩⟩
  · rw [two43] at H
    exact ⟨fun q => absurd q (by decide), fun q => absurd q (by decide), fun q => absurd q (by decide), fun q => absurd q (by decide), fun q => absurd q (by decide), fun q => absurd q (by decide), fun q => absurd q (by decide), fun _ => H, fun q => absurd q (by decide), fun q => absurd q (by decide), fun q => absurd q (by decide), fun q => absurd q (by decide), fun q => absurd q (by decide), fun q => absurd q (by decide), fun q => absurd q (by decide), fun q => absurd q (by decide), fun q => absurd q (by decide), fun q => absurd q (by decide), fun q => absurd q (by decide), fun q => absurd q (by decide), fun q => absurd q (by decide), fun q => absurd q (by decide), fun q => absurd q (by decide), fun q => absurd q (by decide), fun q => absurd q (by decide), fun q => absurd q (by decide), fun q => absurd q (by decide)⟩
  · rw [two45] at H
    exact ⟨fun q => absurd q (by decide), fun q => absurd q (by decide), fun q => absurd q (by decide), fun q => absurd q (by decide), fun q => absurd q (by decide), fun q => absurd q (by decide), fun q => absurd q (by decide), fun q => absurd q (by decide), fun q => absurd q (by decide), fun _ => H, fun q => absurd q (by decide), fun q => absurd q (by decide), fun q => absurd q (by decide), fun q => absurd q (by decide), fun q => absurd q (by decide), fun q => absurd q (by decide), fun q => absurd q (by decide), fun q => absurd q (by decide), fun q => absurd q (by decide), fun q => absurd q (by decide), fun q => absurd q (by decide), fun q => absurd q (by decide), fun q => absurd q (by decide), fun q => absurd q (by decide), fun q => absurd q (by decide), fun q => absurd q (by decide), fun q => absurd q (by decide)⟩
  · rw [two42] at H
    exact ⟨fun q => absurd q (by decide), fun q => absurd q (by decide), fun q => absurd q (by decide), fun q => absurd q (by decide), fun q => absurd q (by decide), fun q => absurd q (by decide), fun _ => H, fun q => absurd q (by decide), fun q => absurd q (by decide), fun q => absurd q (by decide), fun q => absurd q (by decide), fun q => absurd q (by decide), fun q => absurd q (by decide), fun q => absurd q (by decide), fun q => absurd q (by decide), fun q => absurd q (by decide), fun q => absurd q (by decide), fun q => absurd q (by decide), fun q => absurd q (by decide), fun q => absurd q (by decide), fun q => absurd q (by decide), fun q => absurd q (by decide), fun q => absurd q (by decide), fun q => absurd q (by decide), fun q => absurd q (by decide), fun q => absurd q (by decide), fun q => absurd q (by decide)⟩
  · rw [two47] at H
    exact ⟨fun q => absurd q (by decide), fun q => absurd q (by decide), fun q => absurd q (by decide), fun q => absurd q (by decide), fun q => absurd q (by decide), fun q => absurd q (by decide), fun q => absurd q (by decide), fun q => absurd q (by decide), fun q => absurd q (by decide), fun q => absurd q (by decide), fun q => absurd q (by decide), fun _ => ⟨fun e => ⟨fun e2 => ⟨e, by rw [if_neg e] at H; exact H⟩, fun e2 => by rw [if_neg e, e2, div_m1] at H; exact H⟩, fun e => by rw [if_pos e] at H; exact H⟩, fun q => absurd q (by decide), fun q => absurd q (by decide), fun q => absurd q (by decide), fun q => absurd q (by decide), fun q => absurd q (by decide), fun q => absurd q (by decide), fun q => absurd q (by decide), fun q => absurd q (by decide), fun q => absurd q (by decide), fun q => absurd q (by decide), fun q => absurd q (by decide), fun q => absurd q (by decide), fun q => absurd q (by decide), fun q => absurd q (by decide), fun q => absurd q (by decide)⟩
  · rw [two37] at H
    exact ⟨fun q => absurd q (by decide), fun _ => ⟨fun e => by rw [if_pos e] at H; exact H, fun e => ⟨fun e2 => ⟨e, by rw [if_neg e] at H; exact H⟩, fun e2 => by rw [if_neg e, e2, rem_m1] at H; exact H⟩⟩, fun q => absurd q (by decide), fun q => absurd q (by decide), fun q => absurd q (by decide), fun q => absurd q (by decide), fun q => absurd q (by decide), fun q => absurd q (by decide), fun q => absurd q (by decide), fun q => absurd q (by decide), fun q => absurd q (by decide), fun q => absurd q (by decide), fun q => absurd q (by decide), fun q => absurd q (by decide), fun q => absurd q (by decide), fun q => absurd q (by decide), fun q => absurd q (by decide), fun q => absurd q (by decide), fun q => absurd q (by decide), fun q => absurd q (by decide), fun q => absurd q (by decide), fun q => absurd q (by decide), fun q => absurd q (by decide), fun q => absurd q (by decide), fun q => absurd q (by decide), fun q => absurd q (by decide), fun q => absurd q (by decide)⟩
def VM (σ0 σ : am_S) (st : List Int32) : Prop := Fr [] [72] σ0 σ ∧ SK 72 σ st
theorem m_tok {d E pos m : Nat} {F : Nat → Int32} {y2 : Int32} {σ : am_S} {st : List Int32} {t : Tok} {k : Int32 → am_S → Prop} (hd : 1 ≤ d) (hE : E ≤ 121) (hF : ∀ j, j < 6 → ar σ0 71 j = F j) (hp : pos < E) (h66 : ar σ0 66 pos = t.1) (h67 : ar σ0 67 pos = t.2) (ht : tk_ok t) (hl : st.length < 121) (hdp : dep1 st.length t = some m) (h : VM σ0 σ st)
    (H : ∀ τ, VM σ0 τ (tv F st t) → JI l g M_X12_worked d 12 [(0, .ref 55), (1, .int 0), (2, .int y2), (3, .int (nI E)), (4, .int (nI (tv F st t).length)), (5, .int (nI (pos + 1)))] [] τ k) :
    JI l g M_X12_worked d 12 [(0, .ref 55), (1, .int 0), (2, .int y2), (3, .int (nI E)), (4, .int (nI st.length)), (5, .int (nI pos))] [] σ k := by
  refine b_X12_worked_12 hd ?_
  rw [Int32.mul_zero, Int32.zero_add, nI_clamp (n := pos) (by omega), h.1.A 66 rfl, h.1.A 67 rfl, h.1.A 71 rfl, h66, h67, nI_1 pos, nI_1 st.length]
  have vp : vp_in (nI pos) 260 := vp_in_nI (by omega) (by omega)
  refine ⟨fun q => absurd ((len (by omega) (by omega)).mp q) (by omega), fun _ => ⟨vp, ?_⟩⟩
  rcases ht with ⟨e, h0⟩ | ⟨e, h0, h5⟩ | e | e | e
  · rw [tv_num e] at H
    rw [nI_clamp (n := st.length) (by omega)]
    exact ⟨fun _ => ⟨fun q => absurd e q, fun _ => ⟨vp, vp_in_nI (by omega) (by omega), H _ ⟨(h.1.wA).mono (by simp) (by simp), h.2.push⟩⟩⟩, fun q => absurd e q⟩
  · rw [tv_nam e] at H
    have n1 : ¬ t.1 = 1 := by rw [e]; decide
    obtain ⟨w, hw, ew⟩ := nI_of2 (M := 5) (n := 5) rfl (Int32.not_lt.mpr h0) h5
    rw [nI_clamp (n := st.length) (by omega)]
    rw [ew] at H ⊢
    rw [nI_clamp (by omega)] at H ⊢
    rw [hF w (by omega)]
    exact ⟨fun q => absurd q n1, fun _ => ⟨fun q => absurd e q, fun _ => ⟨fun _ => ⟨vp, vp_in_nI (by omega) (by omega), vp_in_nI (by omega) (by omega), H _ ⟨(h.1.wA).mono (by simp) (by simp), h.2.push⟩⟩, fun q => absurd q n1⟩⟩⟩
  · obtain ⟨x, r, rfl⟩ := one_st (dep_un (Or.inl e) hdp)
    have n1 : ¬ t.1 = 1 := by rw [e]; decide
    have n2 : ¬ t.1 = 2 := by rw [e]; decide
    have hl2 : r.length + 1 < 121 := hl
    rw [tv_not e] at H
    obtain ⟨s1, s2⟩ := h.2
    have ex : nI (x :: r).length - 1 = nI r.length := nI_pred _
    have vr : vp_in (nI r.length) 130 := vp_in_nI (by omega) (by omega)
    rw [ex, nI_clamp (n := r.length) (by omega), s1]
    refine ⟨fun q => absurd q n1, fun _ => ⟨fun _ => ⟨fun q => absurd e q, fun _ => ⟨vr, fun c => ⟨vr, H _ ⟨(h.1.wA).mono (by simp) (by simp), ?_⟩⟩, fun c => ⟨vr, H _ ⟨(h.1.wA).mono (by simp) (by simp), ?_⟩⟩⟩⟩, fun q => absurd q n2⟩⟩
    · rw [if_neg c]
      exact s2.push
    · rw [if_pos c]
      exact s2.push
  · obtain ⟨x, r, rfl⟩ := one_st (dep_un (Or.inr e) hdp)
    have n1 : ¬ t.1 = 1 := by rw [e]; decide
    have n2 : ¬ t.1 = 2 := by rw [e]; decide
    have n3 : ¬ t.1 = 3 := by rw [e]; decide
    have hl2 : r.length + 1 < 121 := hl
    rw [tv_neg e] at H
    obtain ⟨s1, s2⟩ := h.2
    have ex : nI (x :: r).length - 1 = nI r.length := nI_pred _
    have vr : vp_in (nI r.length) 130 := vp_in_nI (by omega) (by omega)
    rw [ex, nI_clamp (n := r.length) (by omega), s1]
    exact ⟨fun q => absurd q n1, fun _ => ⟨fun _ => ⟨fun _ => ⟨fun q => absurd e q, fun _ => ⟨vr, vr, H _ ⟨(h.1.wA).mono (by simp) (by simp), s2.push⟩⟩⟩, fun q => absurd q n3⟩, fun q => absurd q n2⟩⟩
  · obtain ⟨y, x, r, rfl⟩ := two_st (dep_bin e hdp)
    obtain ⟨⟨n1, n2, n3, n4⟩, -⟩ := bin_ne e
    have hl2 : r.length + 1 + 1 < 121 := hl
    rw [tv_bin e] at H
    obtain ⟨s1, s2, s3⟩ := h.2
    have s1 : ar σ 72 (r.length + 1) = y := s1
    have ex : nI (y :: x :: r).length + (-1) = nI (r.length + 1) := pk_m1 _
    have vr : vp_in (nI r.length) 130 := vp_in_nI (by omega) (by omega)
    rw [ex, nI_pred, nI_clamp (n := r.length) (by omega), nI_clamp (n := r.length + 1) (by omega), s1, s2]
    exact ⟨fun q => absurd q n1, fun _ => ⟨fun _ => ⟨fun _ => ⟨fun _ => ⟨vr, vp_in_nI (by omega) (by omega), m_twoOf e ⟨vr, H _ ⟨(h.1.wA).mono (by simp) (by simp), s3.push⟩⟩⟩, fun q => absurd q n4⟩, fun q => absurd q n3⟩, fun q => absurd q n2⟩⟩
theorem dep1_le {n m : Nat} {t : Tok} (h1 : dep1 n t = some m) : m ≤ n + 1 := by
  unfold dep1 at h1
  split at h1
  · cases h1; omega
  · split at h1
    · split at h1
      · cases h1; omega
      · cases h1
    · split at h1
      · cases h1; omega
      · cases h1
theorem m_toks {d E : Nat} {F : Nat → Int32} {y2 : Int32} {k : Int32 → am_S → Prop} (hd : 1 ≤ d) (hE : E ≤ 121) (hF : ∀ j, j < 6 → ar σ0 71 j = F j) : ∀ (ts : List Tok) (pos m : Nat) (σ : am_S) (st : List Int32), (∀ t ∈ ts, tk_ok t) → tk_dep st.length ts = some m → pos + ts.length = E → st.length ≤ pos → (∀ i t, ts[i]? = some t → ar σ0 66 (pos + i) = t.1 ∧ ar σ0 67 (pos + i) = t.2) → VM σ0 σ st →
    (∀ τ, VM σ0 τ (ts.foldl (tv F) st) → k (ar τ 72 0) τ) →
    JI l g M_X12_worked d 12 [(0, .ref 55), (1, .int 0), (2, .int y2), (3, .int (nI E)), (4, .int (nI st.length)), (5, .int (nI pos))] [] σ k
  | [], pos, m, σ, st, _, _, hl, _, _, h, H => by
    have hl : pos + 0 = E := hl
    refine b_X12_worked_12 hd ?_
    rw [Int32.mul_zero, Int32.zero_add]
    exact ⟨fun _ => H σ h, fun q => absurd ((len (by omega) (by omega)).mpr (by omega)) q⟩
  | t :: ts, pos, m, σ, st, hok, hdp, hl, hst, hs, h, H => by
    obtain ⟨n1, h1, h2⟩ := dep_cons hdp
    have hl2 : pos + (ts.length + 1) = E := hl
    have e1 := tv_len (F := F) h1
    have n1le := dep1_le h1
    refine m_tok hd hE hF (by omega) (hs 0 t rfl).1 (hs 0 t rfl).2 (hok t List.mem_cons_self) (by omega) h1 h (fun τ hτ => ?_)
    refine m_toks hd hE hF ts (pos + 1) m τ _ (fun s hs2 => hok s (List.mem_cons_of_mem _ hs2)) (by rw [e1]; exact h2) (by omega) (by rw [e1]; omega) (fun i v hv => ?_) hτ H
    have := hs (i + 1) v hv
    rw [show pos + 1 + i = pos + (i + 1) by omega]
    exact this
theorem m_worked {d P E : Nat} {F : Nat → Int32} {σ : am_S} {ts : List Tok} {k : Int32 → am_S → Prop} (hd : 1 ≤ d) (hE : E ≤ 121) (hF : ∀ j, j < 6 → ar σ0 71 j = F j) (hw : tk_wf ts) (hl : P + ts.length = E) (hs : ∀ i t, ts[i]? = some t → ar σ0 66 (P + i) = t.1 ∧ ar σ0 67 (P + i) = t.2) (h : Fr [] [72] σ0 σ)
    (H : ∀ τ, Fr [] [72] σ0 τ → k (evE F ts) τ) : CI l g M_X12_worked d [.ref 55, .int 0, .int (nI P), .int (nI E)] σ k := by
  refine b_X12_worked_0 ?_
  rw [Int32.mul_zero, Int32.zero_add]
  refine m_toks hd hE hF ts P 1 σ [] hw.1 hw.2 hl (Nat.zero_le _) hs ⟨h, trivial⟩ (fun τ hτ => ?_)
  rw [evE_one hw] at hτ
  have := H τ hτ.1
  rw [← hτ.2.1] at this
  exact this
theorem m_lines {d : Nat} {F : Nat → Int32} {ls : List Lin} {k : Int32 → am_S → Prop} (hd : 2 ≤ d) (hok : lnOk ls) (hM : L_M σ0 ls) (hF : ∀ j, j < 6 → ar σ0 71 j = F j) : ∀ (r dn : List Lin) (σ : am_S), ls = dn ++ r → Fr [] [72] σ0 σ → (∀ τ, Fr [] [72] σ0 τ → k (evL F r) τ) →
    JI l g M_X12_gives d 7 [(0, .ref 55), (1, .int 0), (2, .int (nI (dn.flatMap ln_M).length)), (3, .int (nI dn.length))] [] σ k
  | [], dn, σ, e, h, H => by
    obtain ⟨m1, m2, m3, m4, m5⟩ := hM
    rw [List.append_nil] at e
    refine b_X12_gives_7 (by omega) ?_
    rw [Int32.mul_zero, Int32.zero_add, h.A 68 rfl, show (0 : Int32).toNatClampNeg = 0 from rfl, m3, e]
    exact ⟨vin (by decide) (k := 2) (by decide) (by decide), fun _ => H σ h, fun q => absurd ((len (by rw [← e]; omega) (by rw [← e]; omega)).mpr (Nat.le_refl _)) q⟩
  | q :: r, dn, σ, e, h, H => by
    obtain ⟨m1, m2, m3, m4, m5⟩ := id hM
    obtain ⟨w1, w2⟩ := hok q (by rw [e]; exact List.mem_append_right _ List.mem_cons_self)
    have hlen : dn.length < ls.length := by
      rw [e]
      simp
    have hq : ls[dn.length]? = some q := by
      rw [e, List.getElem?_append_right (Nat.le_refl _), Nat.sub_self]
      rfl
    have hm := m5 dn.length q hq
    have htk : ls.take dn.length = dn := by
      rw [e]
      exact List.take_left
    rw [htk] at hm
    have hT : ls.flatMap ln_M = dn.flatMap ln_M ++ (q.1 ++ (q.2 ++ r.flatMap ln_M)) := by
      rw [e, List.flatMap_append, List.flatMap_cons]
      show _ ++ ((q.1 ++ q.2) ++ _) = _
      rw [List.append_assoc]
    have hTl : (dn.flatMap ln_M).length + q.1.length + q.2.length ≤ 121 := by
      have := congrArg List.length hT
      simp only [List.length_append] at this
      omega
    have t1 : ∀ i t, q.1[i]? = some t → ar σ0 66 ((dn.flatMap ln_M).length + i) = t.1 ∧ ar σ0 67 ((dn.flatMap ln_M).length + i) = t.2 := fun i t ht => m4 _ t (by rw [hT]; exact mid_at ht)
    have t2 : ∀ i t, q.2[i]? = some t → ar σ0 66 ((dn.flatMap ln_M).length + q.1.length + i) = t.1 ∧ ar σ0 67 ((dn.flatMap ln_M).length + q.1.length + i) = t.2 := fun i t ht => by
      have := mid_at (A := dn.flatMap ln_M ++ q.1) (C := r.flatMap ln_M) ht
      rw [List.length_append, List.append_assoc, ← hT] at this
      exact m4 _ t this
    have vx : vp_in (nI dn.length) 122 := vp_in_nI (by omega) (by omega)
    refine b_X12_gives_7 (by omega) ?_
    rw [Int32.mul_zero, Int32.zero_add, h.A 68 rfl, h.A 69 rfl, h.A 70 rfl, show (0 : Int32).toNatClampNeg = 0 from rfl, m3, nI_clamp (n := dn.length) (by omega), hm.1, hm.2, nI_1]
    refine ⟨vin (by decide) (k := 2) (by decide) (by decide), fun z => absurd ((len (by omega) (by omega)).mp z) (by omega), fun _ => ⟨vx, fun c => ⟨vx, vx, ?_⟩, fun c => ⟨vx, ?_⟩⟩⟩
    · have c0 : q.1.length = 0 := by
        have := nI_inj (by omega) (by omega) c
        omega
      have c1 : q.1 = [] := List.length_eq_zero_iff.mp c0
      refine m_worked (by omega) (by omega) hF w2 rfl t2 h (fun τ hτ => ?_)
      have := H τ hτ
      unfold evL at this
      rw [if_pos c1] at this
      exact this
    · have c1 : ¬ q.1 = [] := by
        intro z
        rw [z] at c
        exact c rfl
      have wf1 := w1.resolve_left c1
      refine m_worked (by omega) (by omega) hF wf1 rfl t1 h (fun τ hτ => ⟨fun z => ⟨vx, ?_⟩, fun z => ⟨vx, vx, ?_⟩⟩)
      · rw [hτ.A 70 rfl, hm.2]
        have := m_lines hd hok hM hF r (dn ++ [q]) τ (by rw [e]; simp) hτ (fun υ hυ => (by
          have := H υ hυ
          unfold evL at this
          rw [if_neg c1, if_pos z] at this
          exact this))
        have e1 : ((dn ++ [q]).flatMap ln_M).length = (dn.flatMap ln_M).length + q.1.length + q.2.length := by
          rw [List.flatMap_append, List.length_append]
          simp [ln_M]
          omega
        have e2 : (dn ++ [q]).length = dn.length + 1 := by simp
        rw [e1, e2] at this
        exact this
      · rw [hτ.A 69 rfl, hτ.A 70 rfl, hm.1, hm.2]
        refine m_worked (by omega) (by omega) hF w2 rfl t2 hτ (fun υ hυ => ?_)
        have := H υ hυ
        unfold evL at this
        rw [if_neg c1, if_neg z] at this
        exact this
theorem m_gives {d : Nat} {F : Nat → Int32} {ls : List Lin} {σ : am_S} {k : Int32 → am_S → Prop} (hd : 2 ≤ d) (hok : lnOk ls) (hM : L_M σ ls) (hF : ∀ j, j < 6 → ar σ 71 j = F j) (H : ∀ τ, Fr [] [72] σ τ → k (evL F ls) τ) : CI l g M_X12_gives d [.ref 55, .int 0] σ k := by
  refine b_X12_gives_0 ?_
  rw [Int32.mul_zero]
  exact m_lines hd hok hM hF ls [] σ rfl (Fr.rf.mono (by simp) (by simp)) H
end ValM
