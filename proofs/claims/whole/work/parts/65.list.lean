/-! the class's row of the changes that may be in an arrangement -/
def ST (n a : Nat) (σ : am_S) (T : List Tr) : Prop := rg σ 1283 = nI T.length ∧ ∀ i t, T[i]? = some t → ar σ 21 i = nI (mcode t) ∧ ar σ 22 i = nI (nxt n a t)
theorem msk_zero {P : Nat → Bool} {n p : Nat} (h : msk P n = 0) (hp : p < n) : P p = false := by
  have := msk_bit (P := P) n p
  rw [h] at this
  simp [hp] at this
  cases q : P p
  · rfl
  · rw [q] at this
    cases this
theorem mvQ_nil {W : Wd} {a d p : Nat} : ∀ {m q : Nat}, (∀ j, q ≤ j → j < q + m → canB W a (d, p, j) = false) → mvQ W a d p m q = []
  | 0, _, _ => rfl
  | m + 1, q, h => by
    unfold mvQ
    rw [if_neg (by rw [h q (Nat.le_refl _) (by omega)]; decide), mvQ_nil (fun j h1 h2 => h j (by omega) (by omega))]
    rfl
theorem mvP_nil {W : Wd} {a d : Nat} : ∀ {m p : Nat}, (∀ i j, p ≤ i → i < p + m → j < W.2.1 → canB W a (d, i, j) = false) → mvP W a d m p = []
  | 0, _, _ => rfl
  | m + 1, p, h => by
    unfold mvP
    rw [mvQ_nil (fun j _ h2 => h p j (Nat.le_refl _) (by omega) (by omega)), mvP_nil (fun i j h1 h2 h3 => h i j (by omega) (by omega) h3)]
    rfl
def rmB (a r : Nat) : Nat → Bool := fun p => decide (rmN a p = r)
section ListC
variable {l : Launch} {g : am_G} {σ0 : am_S} {W : Wd} {a : Nat}
theorem c_seat22 {d n : Nat} {k : am_S → Prop} (hd : 1 ≤ d) (hn : n ≤ 7) (ha : a < 4 ^ n) (H : ∀ τ, Fr [] [23] σ0 τ → (∀ r, r < 4 → ar τ 23 r = nI (msk (rmB a r) n)) → k τ) : ∀ (m p : Nat) (σ : am_S), p + m = n → Fr [] [23] σ0 σ → (∀ r, r < 4 → ar σ 23 r = nI (msk (rmB a r) p)) →
    JV l g M_X9_seat d 22 [(0, .ref 20), (1, .int (nI n)), (2, .int (nI a)), (3, .int (nI p))] [] σ k
  | 0, p, σ, e, h, hr => by
    have e : p = n := by omega
    subst e
    refine b_X9_seat_22 hd ?_
    exact ⟨fun _ => H σ h hr, fun q => absurd ((len (by omega) (by omega)).mpr (Nat.le_refl _)) q⟩
  | m + 1, p, σ, e, h, hr => by
    refine b_X9_seat_22 hd ?_
    have r4 := rmN_lt a p
    have vx : vp_in (nI (rmN a p)) 4 := vp_in_nI r4 (by omega)
    rw [i_room hn ha (by omega), nI_clamp (n := rmN a p) (by omega), hr _ r4, nI_1]
    refine ⟨fun q => absurd ((len (by omega) (by omega)).mp q) (by omega), fun _ => ⟨vx, vx, c_seat22 hd hn ha H m (p + 1) _ (by omega) ((h.wA).mono (by simp) (by simp)) (fun r hr4 => ?_)⟩⟩
    by_cases c : r = rmN a p
    · rw [ar_sA, if_pos ⟨rfl, c⟩, ← c]
      exact i_or1 (by unfold rmB; simp [c]) (by omega)
    · rw [ar_sA, if_neg (fun q => c q.2), hr r hr4, msk_no]
      unfold rmB
      simp
      exact fun q => c q.symm
theorem c_seat2 {d n : Nat} {k : am_S → Prop} (hd : 1 ≤ d) (hn : n ≤ 7) (ha : a < 4 ^ n) (H : ∀ τ, Fr [] [23] σ0 τ → (∀ r, r < 4 → ar τ 23 r = nI (msk (rmB a r) n)) → k τ) : ∀ (m x : Nat) (σ : am_S), x + m = 4 → Fr [] [23] σ0 σ → (∀ r, r < x → ar σ 23 r = 0) →
    JV l g M_X9_seat d 2 [(0, .ref 20), (1, .int (nI n)), (2, .int (nI a)), (3, .int (nI x))] [] σ k
  | 0, x, σ, e, h, hr => by
    have e : x = 4 := by omega
    subst e
    refine b_X9_seat_2 ?_
    exact ⟨fun _ => c_seat22 hd hn ha H n 0 σ (Nat.zero_add _) h (fun r hr4 => hr r hr4), fun q => absurd (by decide) q⟩
  | m + 1, x, σ, e, h, hr => by
    refine b_X9_seat_2 ?_
    rw [nI_clamp (n := x) (by omega), nI_1]
    refine ⟨fun q => absurd ((len (a := 4) (by omega) (by omega)).mp q) (by omega), fun _ => ⟨vp_in_nI (by omega) (by omega), c_seat2 hd hn ha H m (x + 1) _ (by omega) ((h.wA).mono (by simp) (by simp)) (fun r hr2 => ?_)⟩⟩
    by_cases c : r = x
    · rw [ar_sA, if_pos ⟨rfl, c⟩]
    · rw [ar_sA, if_neg (fun q => c q.2)]
      exact hr r (by omega)
theorem c_seat {d n : Nat} {σ : am_S} {k : am_S → Prop} (hd : 1 ≤ d) (hn : n ≤ 7) (ha : a < 4 ^ n) (H : ∀ τ, Fr [] [23] σ τ → (∀ r, r < 4 → ar τ 23 r = nI (msk (rmB a r) n)) → k τ) : CV l g M_X9_seat d [.ref 20, .int (nI n), .int (nI a)] σ k :=
  b_X9_seat_0 (c_seat2 hd hn ha H 4 0 σ rfl (Fr.rf.mono (by simp) (by simp)) (fun r hr => absurd hr (Nat.not_lt_zero r)))
theorem c_changed {d D p q : Nat} {σ : am_S} {k : Int32 → am_S → Prop} (hW : wd_ok W) (hC : WC W σ) (ha : a < 4 ^ W.2.1) (hD : D < W.1) (hp : p < W.2.1) (hq : q < W.2.1) (hc : rmN a p = W.2.2.1 D ∧ rmN a q = W.2.2.2.1 D) (H : k (nI (nxt W.2.1 a (D, p, q))) σ) : CI l g M_X6_changed d [.ref 14, .int (nI a), .int (nI D), .int (nI p), .int (nI q)] σ k := by
  have h5 := hW.1.1
  have h7 := hW.1.2
  have vD : vp_in (nI D) 5 := vp_in_nI (by omega) (by omega)
  have hpq : p ≠ q := fun e => (hW.2 D hD).2.2 (by rw [← hc.1, ← hc.2, e])
  refine b_X6_changed_0 ?_
  rw [nI_clamp (n := D) (by omega), (hC.2.1 D hD).1, (hC.2.1 D hD).2, i_xor, i_swC h7 ha hp hq hpq (by rw [hc.1, hc.2])]
  exact ⟨vD, vD, H⟩
/-- the row so far -/
def SL (W : Wd) (a : Nat) (σ0 σ : am_S) (T : List Tr) : Prop := Fr [1283] [21, 22, 23] σ0 σ ∧ ST W.2.1 a σ T ∧ ∀ r, r < 4 → ar σ 23 r = nI (msk (rmB a r) W.2.1)
theorem c_la86 {d D p A : Nat} {k : am_S → Prop} (hd : 1 ≤ d) (hW : wd_ok W) (hC : WC W σ0) (ha : a < 4 ^ W.2.1) (hD : D < W.1) (hp : p < W.2.1) (hA : ∀ j, A.testBit j = (decide (j < W.2.1) && canB W a (D, p, j))) (hA2 : A < 2 ^ W.2.1) {x4 x5 : Int32} {T1 : List Tr} (hT1 : T1.length ≤ 60) (H : ∀ τ, SL W a σ0 τ T1 → JV l g M_X9_listAt d 40 [(0, .ref 20), (1, .ref 14), (2, .int (nI a)), (3, .int (nI D)), (4, .int x4), (5, .int x5), (6, .int (nI (p + 1)))] [] τ k) : ∀ (m q : Nat) (σ : am_S) (T : List Tr), q + m = W.2.1 → T1 = T ++ mvQ W a D p m q → SL W a σ0 σ T →
    JV l g M_X9_listAt d 86 [(0, .ref 20), (1, .ref 14), (2, .int (nI a)), (3, .int (nI D)), (4, .int x4), (5, .int x5), (6, .int (nI p)), (7, .int (nI A)), (8, .int (nI q))] [] σ k := by
  have h5 := hW.1.1
  have h7 := hW.1.2
  have hA3 : A < 2 ^ 31 := Nat.lt_of_lt_of_le hA2 (Nat.pow_le_pow_right (by decide) (by omega))
  intro m
  induction m with
  | zero =>
    intro q σ T e eT h
    refine b_X9_listAt_86 hd ?_
    rw [h.1.R 66 rfl, hC.1.2, nI_1 p]
    refine ⟨fun _ => H σ ?_, fun z => absurd ((len (by omega) (by omega)).mpr (by omega)) z⟩
    unfold mvQ at eT
    rw [List.append_nil] at eT
    rw [eT]
    exact h
  | succ m ih =>
    intro q σ T e eT h
    refine b_X9_listAt_86 hd ?_
    rw [h.1.R 66 rfl, hC.1.2, i_bt (p := q) hA3 (by omega), nI_1 q]
    refine ⟨fun z => absurd ((len (by omega) (by omega)).mp z) (by omega), fun _ => ⟨fun z => ?_, fun z => ?_⟩⟩
    · have hz : A / 2 ^ q % 2 = 0 := nI_inj (b := 0) (by omega) (by omega) z
      have hn : ¬ canB W a (D, p, q) = true := by
        intro c
        have hq2 : q < W.2.1 := by omega
        have := hA q
        rw [c] at this
        simp [hq2] at this
        rw [bit_iff.mpr this] at hz
        cases hz
      unfold mvQ at eT
      rw [if_neg hn] at eT
      exact ih (q + 1) σ T (by omega) eT h
    · have hz : A / 2 ^ q % 2 = 1 := by
        rcases Nat.mod_two_eq_zero_or_one (A / 2 ^ q) with w | w
        · rw [w] at z
          exact absurd rfl z
        · exact w
      have hc : canB W a (D, p, q) = true := by
        have := hA q
        rw [bit_iff.mp hz] at this
        simp at this
        exact this.2
      unfold mvQ at eT
      rw [if_pos hc] at eT
      have hT : T.length < 60 := by
        rw [eT] at hT1
        simp at hT1
        omega
      obtain ⟨h1, ⟨h2, h3⟩, h4⟩ := h
      have vT : vp_in (nI T.length) 60 := vp_in_nI hT (by omega)
      rw [h2, nI_clamp (n := T.length) (by omega)]
      refine ⟨fun w => absurd ((len (a := 60) (by omega) (by omega)).mp w) (by omega), fun _ => ⟨vT, ?_⟩⟩
      obtain ⟨-, r1, r2⟩ := canB_iff.mp hc
      refine c_changed hW (hC.fr (h1.wA (a := 21)) rfl rfl) ha hD hp (by omega) ⟨r1, r2⟩ ⟨vT, ?_⟩
      have em : 100 * nI D + 10 * nI p + nI q = nI (mcode (D, p, q)) := by
        rw [show (100 : Int32) = nI 100 from rfl, show (10 : Int32) = nI 10 from rfl, pk_mul, pk_mul, nI_add, nI_add]
        rfl
      have eg : rg (sA σ 21 T.length (100 * nI D + 10 * nI p + nI q)) 1283 = nI T.length := h2
      rw [eg, nI_1, em]
      refine ih (q + 1) _ (T ++ [(D, p, q)]) (by omega) (by rw [eT]; simp) ⟨(h1.wA.wA.wR).mono (by simp) (by simp), ⟨?_, fun i t hi => ?_⟩, fun r hr => h4 r hr⟩
      · rw [rg_sR, if_pos rfl]
        simp
      · rw [ar_sR, ar_sA, ar_sA, ar_sA, ar_sA]
        by_cases c : i < T.length
        · rw [List.getElem?_append_left c] at hi
          rw [if_neg (fun w => absurd w.1 (by decide)), if_neg (by omega), if_neg (by omega), if_neg (fun w => absurd w.1 (by decide))]
          exact h3 i t hi
        · have c2 : i = T.length := by
            have := (List.getElem?_eq_some_iff.mp hi).1
            simp at this
            omega
          subst c2
          rw [List.getElem?_append_right (Nat.le_refl _), Nat.sub_self] at hi
          cases hi
          rw [if_neg (fun w => absurd w.1 (by decide)), if_pos ⟨rfl, rfl⟩, if_pos ⟨rfl, rfl⟩]
          exact ⟨rfl, rfl⟩
theorem c_la40 {d D : Nat} {k : am_S → Prop} (hd : 1 ≤ d) (hW : wd_ok W) (hC : WC W σ0) (ha : a < 4 ^ W.2.1) (hD : D < W.1) {T1 : List Tr} (hT1 : T1.length ≤ 60) (H : ∀ τ, SL W a σ0 τ T1 → k τ) : ∀ (m p : Nat) (σ : am_S) (T : List Tr), p + m = W.2.1 → T1 = T ++ mvP W a D m p → SL W a σ0 σ T →
    JV l g M_X9_listAt d 40 [(0, .ref 20), (1, .ref 14), (2, .int (nI a)), (3, .int (nI D)), (4, .int (nI (msk (rmB a (W.2.2.1 D)) W.2.1))), (5, .int (nI (msk (rmB a (W.2.2.2.1 D)) W.2.1))), (6, .int (nI p))] [] σ k
  | 0, p, σ, T, e, eT, h => by
    have h7 := hW.1.2
    refine b_X9_listAt_40 ?_
    rw [h.1.R 66 rfl, hC.1.2]
    unfold mvP at eT
    rw [List.append_nil] at eT
    rw [← eT] at h
    exact ⟨fun _ => H σ h, fun z => absurd ((len (by omega) (by omega)).mpr (by omega)) z⟩
  | m + 1, p, σ, T, e, eT, h => by
    have h5 := hW.1.1
    have h7 := hW.1.2
    have hlt : ∀ P : Nat → Bool, msk P W.2.1 < 2 ^ 31 := fun P => Nat.lt_of_lt_of_le (msk_lt _) (Nat.pow_le_pow_right (by decide) (by omega))
    refine b_X9_listAt_40 ?_
    have ei : nI D * 7 + nI p = nI (D * 7 + p) := by rw [show (7 : Int32) = nI 7 from rfl, pk_mul, nI_add]
    rw [h.1.R 66 rfl, hC.1.2, i_bt (hlt _) (by omega), msk_mod (by omega), ei, nI_clamp (n := D * 7 + p) (by omega), h.1.A 18 rfl, hC.2.2 D p hD (by omega), i_and, msk_and]
    unfold mvP at eT
    have go : ∀ A : Nat, (∀ j, A.testBit j = (decide (j < W.2.1) && canB W a (D, p, j))) → A < 2 ^ W.2.1 → JV l g M_X9_listAt d 86 [(0, .ref 20), (1, .ref 14), (2, .int (nI a)), (3, .int (nI D)), (4, .int (nI (msk (rmB a (W.2.2.1 D)) W.2.1))), (5, .int (nI (msk (rmB a (W.2.2.2.1 D)) W.2.1))), (6, .int (nI p)), (7, .int (nI A)), (8, .int (nI 0))] [] σ k := by
      intro A h1 h2
      have l1 : (T ++ mvQ W a D p W.2.1 0).length ≤ 60 := by
        rw [eT] at hT1
        simp at hT1 ⊢
        omega
      exact c_la86 hd hW hC ha hD (by omega) h1 h2 l1 (fun τ hτ => c_la40 hd hW hC ha hD hT1 H m (p + 1) τ _ (by omega) (by rw [eT]; simp) hτ) W.2.1 0 σ T (Nat.zero_add _) rfl h
    refine ⟨fun z => absurd ((len (by omega) (by omega)).mp z) (by omega), fun _ => ⟨fun z => ⟨vp_in_nI (by omega) (by omega), ?_⟩, fun z => ?_⟩⟩
    · refine go _ (fun j => ?_) (msk_lt _)
      rw [msk_bit]
      have c : rmN a p = W.2.2.1 D := by
        by_cases c : rmN a p = W.2.2.1 D
        · exact c
        · exact absurd (show nI _ = 0 by rw [if_neg (by unfold rmB; simpa using c)]; rfl) z
      congr 1
      unfold canB rmB
      simp [c]
    · refine go 0 (fun j => ?_) (Nat.pow_pos (by decide))
      have c : ¬ rmN a p = W.2.2.1 D := by
        intro c
        rw [if_pos (by unfold rmB; simpa using c)] at z
        exact absurd z (by decide)
      have : canB W a (D, p, j) = false := by
        unfold canB
        simp [c]
      rw [this]
      simp
theorem c_listAt {d D : Nat} {σ : am_S} {T : List Tr} {k : am_S → Prop} (hd : 1 ≤ d) (hW : wd_ok W) (hC : WC W σ0) (ha : a < 4 ^ W.2.1) (hD : D < W.1) (hT1 : (T ++ mvP W a D W.2.1 0).length ≤ 60) (h : SL W a σ0 σ T) (H : ∀ τ, SL W a σ0 τ (T ++ mvP W a D W.2.1 0) → k τ) : CV l g M_X9_listAt d [.ref 20, .ref 14, .int (nI a), .int (nI D)] σ k := by
  have h5 := hW.1.1
  have h7 := hW.1.2
  obtain ⟨f4, t4, -⟩ := hW.2 D hD
  have hlt : ∀ P : Nat → Bool, msk P W.2.1 < 2 ^ 31 := fun P => Nat.lt_of_lt_of_le (msk_lt _) (Nat.pow_le_pow_right (by decide) (by omega))
  have vD : vp_in (nI D) 5 := vp_in_nI (by omega) (by omega)
  refine b_X9_listAt_0 ?_
  rw [nI_clamp (n := D) (by omega), h.1.A 15 rfl, h.1.A 16 rfl, (hC.2.1 D hD).1, (hC.2.1 D hD).2, nI_clamp (n := W.2.2.1 D) (by omega), nI_clamp (n := W.2.2.2.1 D) (by omega), h.2.2 _ f4, h.2.2 _ t4]
  refine ⟨vD, vp_in_nI f4 (by omega), vD, vp_in_nI t4 (by omega), fun z => ?_, fun _ => ⟨fun _ => c_la40 hd hW hC ha hD hT1 H W.2.1 0 σ T (Nat.zero_add _) rfl h, fun z => ?_⟩⟩
  · have hz := nI_inj (b := 0) (hlt _) (by omega) z
    have : mvP W a D W.2.1 0 = [] := mvP_nil (fun i j _ h2 h3 => by
      have := msk_zero hz (p := i) (by omega)
      unfold rmB at this
      unfold canB
      simp at this
      simp [this])
    rw [this, List.append_nil] at H
    exact H σ h
  · have hz := nI_inj (b := 0) (hlt _) (by omega) z
    have : mvP W a D W.2.1 0 = [] := mvP_nil (fun i j _ h2 h3 => by
      have := msk_zero hz (p := j) (by omega)
      unfold rmB at this
      unfold canB
      simp at this
      simp [this])
    rw [this, List.append_nil] at H
    exact H σ h
theorem c_list19 {d : Nat} {k : am_S → Prop} (hd : 2 ≤ d) (hW : wd_ok W) (hC : WC W σ0) (ha : a < 4 ^ W.2.1) (H : ∀ τ, SL W a σ0 τ (mvs W a) → k τ) : ∀ (m D : Nat) (σ : am_S) (T : List Tr), D + m = W.1 → mvs W a = T ++ mvD W a m D → SL W a σ0 σ T →
    JV l g M_X9_list d 19 [(0, .ref 20), (1, .ref 14), (2, .int (nI a)), (3, .int (nI D))] [] σ k
  | 0, D, σ, T, e, eT, h => by
    have h5 := hW.1.1
    refine b_X9_list_19 (by omega) ?_
    rw [h.1.R 65 rfl, hC.1.1]
    unfold mvD at eT
    rw [List.append_nil] at eT
    rw [← eT] at h
    exact ⟨fun _ => H σ h, fun z => absurd ((len (by omega) (by omega)).mpr (by omega)) z⟩
  | m + 1, D, σ, T, e, eT, h => by
    have h5 := hW.1.1
    refine b_X9_list_19 (by omega) ?_
    rw [h.1.R 65 rfl, hC.1.1, nI_1]
    unfold mvD at eT
    have l1 := mvs_len (a := a) hW
    refine ⟨fun z => absurd ((len (by omega) (by omega)).mp z) (by omega), fun _ => c_listAt (by omega) hW hC ha (by omega) ?_ h (fun τ hτ => c_list19 hd hW hC ha H m (D + 1) τ _ (by omega) (by rw [eT]; simp) hτ)⟩
    rw [eT] at l1
    simp at l1 ⊢
    omega
theorem c_list {d : Nat} {σ : am_S} {k : am_S → Prop} (hd : 2 ≤ d) (hW : wd_ok W) (hC : WC W σ) (ha : a < 4 ^ W.2.1) (H : ∀ τ, Fr [1283] [21, 22, 23] σ τ → ST W.2.1 a τ (mvs W a) → k τ) : CV l g M_X9_list d [.ref 20, .ref 14, .int (nI a)] σ k := by
  refine b_X9_list_0 (by omega) ?_
  rw [hC.1.2]
  refine c_seat (by omega) hW.1.2 ha (fun τ hτ hr => ?_)
  have fr : Fr [1283] [21, 22, 23] σ τ := ((Fr.rf.wR).tr hτ).mono (by simp) (by simp)
  exact c_list19 (σ0 := σ) hd hW hC ha (fun υ hυ => H υ hυ.1 hυ.2.1) W.1 0 τ [] (Nat.zero_add _) rfl ⟨fr, ⟨hτ.R 1283 rfl, fun i t hi => by cases hi⟩, hr⟩
end ListC
