/-! evenings by lots -/
def lcg (z : Int32) : Int32 := z * 1103515245 + 12345
def dr (z : Int32) (m : Nat) : Nat := (lcg z).toBitVec.toNat / 2 ^ 8 % m
theorem dr_eq (z : Int32) {m : Nat} (h0 : 0 < m) (hm : m < 2 ^ 31) : ((((z * 1103515245) + 12345).toUInt32 >>> ((8 : Int32).toUInt32 &&& Int32.toUInt32 31)).toInt32) - ((((z * 1103515245) + 12345).toUInt32 >>> ((8 : Int32).toUInt32 &&& Int32.toUInt32 31)).toInt32) / nI m * nI m = nI (dr z m) := by
  have h1 := pk_ushr (lcg z) 8 8 (by decide)
  have hl : (lcg z).toBitVec.toNat < 2 ^ 32 := (lcg z).toBitVec.isLt
  have hU : (lcg z).toBitVec.toNat / 2 ^ 8 < 2 ^ 31 := by
    rw [Nat.div_lt_iff_lt_mul (by decide)]
    omega
  have e : ((lcg z).toUInt32 >>> ((8 : Int32).toUInt32 &&& Int32.toUInt32 31)).toInt32 = nI ((lcg z).toBitVec.toNat / 2 ^ 8) := by
    apply Int32.toBitVec_inj.mp
    apply BitVec.eq_of_toNat_eq
    rw [h1, pk_tn (by omega)]
  have e2 : (((z * 1103515245) + 12345).toUInt32 >>> ((8 : Int32).toUInt32 &&& Int32.toUInt32 31)).toInt32 = nI ((lcg z).toBitVec.toNat / 2 ^ 8) := e
  rw [e2]
  exact pk_rem hU h0 hm
theorem dr_lt (z : Int32) {m : Nat} (h : 0 < m) : dr z m < m := Nat.mod_lt _ h
/-- how many, counted from either side -/
theorem cntS_back {P : Nat → Prop} [∀ j, Decidable (P j)] : ∀ m q, cntS P (m + 1) q = cntS P m q + if P (q + m) then 1 else 0
  | 0, q => by
    show (if P q then 1 else 0) + 0 = 0 + if P (q + 0) then 1 else 0
    simp
  | m + 1, q => by
    have ih := cntS_back (P := P) m (q + 1)
    have e1 : cntS P (m + 1 + 1) q = (if P q then 1 else 0) + cntS P (m + 1) (q + 1) := rfl
    have e2 : cntS P (m + 1) q = (if P q then 1 else 0) + cntS P m (q + 1) := rfl
    rw [e1, e2, ih, show q + 1 + m = q + (m + 1) by omega]
    omega
def sumB (t : Nat) : Nat → Nat
  | 0 => 0
  | k + 1 => sumB t k + t / 2 ^ k % 2
theorem sumB_msk {P : Nat → Bool} {n : Nat} : ∀ k, k ≤ n → sumB (msk P n) k = cntS (fun j => P j = true) k 0
  | 0, _ => rfl
  | k + 1, h => by
    show sumB (msk P n) k + msk P n / 2 ^ k % 2 = _
    rw [sumB_msk k (by omega), msk_mod (by omega), cntS_back, Nat.zero_add]
theorem sumB_more {P : Nat → Bool} {n : Nat} : ∀ k, sumB (msk P n) (n + k) = sumB (msk P n) n
  | 0 => rfl
  | k + 1 => by
    show sumB (msk P n) (n + k) + msk P n / 2 ^ (n + k) % 2 = _
    rw [sumB_more k, Nat.div_eq_of_lt (Nat.lt_of_lt_of_le (msk_lt n) (Nat.pow_le_pow_right (by decide) (by omega)))]
    rfl
theorem pc_msk {P : Nat → Bool} {n : Nat} (hn : n ≤ 7) : pc (msk P n) = cntS (fun j => P j = true) n 0 := by
  have h1 := sumB_more (P := P) (n := n) (7 - n)
  rw [show n + (7 - n) = 7 by omega, sumB_msk n (Nat.le_refl n)] at h1
  rw [← h1]
  unfold pc
  show _ = 0 + msk P n / 2 ^ 0 % 2 + msk P n / 2 ^ 1 % 2 + msk P n / 2 ^ 2 % 2 + msk P n / 2 ^ 3 % 2 + msk P n / 2 ^ 4 % 2 + msk P n / 2 ^ 5 % 2 + msk P n / 2 ^ 6 % 2
  rw [Nat.pow_zero, Nat.div_one, Nat.zero_add]
theorem pc_zero : ∀ t : Fin 128, pc t.val = 0 → t.val = 0 := by decide +kernel
theorem msk128 {P : Nat → Bool} {n : Nat} (hn : n ≤ 7) : msk P n < 128 := Nat.lt_of_lt_of_le (msk_lt n) (Nat.le_trans (Nat.pow_le_pow_right (by decide) hn) (by decide))
theorem msk_iff0 {P : Nat → Bool} {n : Nat} (hn : n ≤ 7) : nI (msk P n) = 0 ↔ cntS (fun j => P j = true) n 0 = 0 := by
  have hl := msk128 (P := P) hn
  rw [← pc_msk hn]
  constructor
  · intro h
    have : msk P n = 0 := nI_inj (b := 0) (by omega) (by omega) h
    rw [this]
    rfl
  · intro h
    have : msk P n = 0 := pc_zero ⟨msk P n, hl⟩ h
    rw [this]
    rfl
/-- by numbers the k-th that is so -/
def kth (P : Nat → Bool) : Nat → Nat → Nat → Nat
  | 0, p, _ => p
  | f + 1, p, k => if P p = true then (if k = 0 then p else kth P f (p + 1) (k - 1)) else kth P f (p + 1) k
theorem kth_ok {P : Nat → Bool} : ∀ f p k, k < cntS (fun j => P j = true) f p → P (kth P f p k) = true ∧ p ≤ kth P f p k ∧ kth P f p k < p + f
  | 0, p, k, h => absurd h (Nat.not_lt_zero k)
  | f + 1, p, k, h => by
    have e : cntS (fun j => P j = true) (f + 1) p = (if P p = true then 1 else 0) + cntS (fun j => P j = true) f (p + 1) := rfl
    rw [e] at h
    unfold kth
    by_cases c : P p = true
    · rw [if_pos c] at h ⊢
      by_cases c2 : k = 0
      · rw [if_pos c2]
        exact ⟨c, Nat.le_refl _, by omega⟩
      · rw [if_neg c2]
        have := kth_ok (P := P) f (p + 1) (k - 1) (by omega)
        exact ⟨this.1, by omega, by omega⟩
    · rw [if_neg c] at h ⊢
      have := kth_ok (P := P) f (p + 1) k (by omega)
      exact ⟨this.1, by omega, by omega⟩
/-- one try: the seed then, how all are then, whether two changed -/
def tryP (W : Wd) (z : Int32) (a : Nat) : Int32 × Nat × Bool :=
  if cntS (fun j => rmB a (W.2.2.1 (dr z W.1)) j = true) W.2.1 0 = 0 ∨ cntS (fun j => rmB a (W.2.2.2.1 (dr z W.1)) j = true) W.2.1 0 = 0 then (lcg z, a, false)
  else if canB W a (dr z W.1, kth (rmB a (W.2.2.1 (dr z W.1))) W.2.1 0 (dr (lcg z) (cntS (fun j => rmB a (W.2.2.1 (dr z W.1)) j = true) W.2.1 0)), kth (rmB a (W.2.2.2.1 (dr z W.1))) W.2.1 0 (dr (lcg (lcg z)) (cntS (fun j => rmB a (W.2.2.2.1 (dr z W.1)) j = true) W.2.1 0))) = true
    then (lcg (lcg (lcg z)), nxt W.2.1 a (dr z W.1, kth (rmB a (W.2.2.1 (dr z W.1))) W.2.1 0 (dr (lcg z) (cntS (fun j => rmB a (W.2.2.1 (dr z W.1)) j = true) W.2.1 0)), kth (rmB a (W.2.2.2.1 (dr z W.1))) W.2.1 0 (dr (lcg (lcg z)) (cntS (fun j => rmB a (W.2.2.2.1 (dr z W.1)) j = true) W.2.1 0))), true)
    else (lcg (lcg (lcg z)), a, false)
theorem tryP_lt {W : Wd} {z : Int32} {a : Nat} (ha : a < 4 ^ W.2.1) : (tryP W z a).2.1 < 4 ^ W.2.1 := by
  unfold tryP
  split
  · exact ha
  · split
    · exact swp_lt
    · exact ha
section TryC
variable {l : Launch} {g : am_G} {W : Wd} {a : Nat}
theorem tryOne_bc {d : Nat} {σ : am_S}  {k : Int32 → am_S → Prop}   (hd : 1 ≤ d) (H : CI l g M_X1_draw (d - 1) [.ref 31, .int (rg σ 65)] σ (fun r1 σ1 => CV l g M_X9_seat (d - 1) [.ref 20, .int (rg σ1 66), .int (rg σ1 1985)] σ1 (fun σ2 => (vp_in r1 5 ∧ (vp_in (ar σ2 15 r1.toNatClampNeg) 4 ∧ (vp_in r1 5 ∧ (vp_in (ar σ2 16 r1.toNatClampNeg) 4 ∧ ((ar σ2 23 ((ar σ2 15 r1.toNatClampNeg).toNatClampNeg) = 0 → k 0 σ2) ∧ (¬ ar σ2 23 ((ar σ2 15 r1.toNatClampNeg).toNatClampNeg) = 0 → ((¬ ar σ2 23 ((ar σ2 16 r1.toNatClampNeg).toNatClampNeg) = 0 → CI l g M_X1_draw (d - 1) [.ref 31, .int (bcI (ar σ2 23 ((ar σ2 15 r1.toNatClampNeg).toNatClampNeg)))] σ2 (fun r3 σ3 => CI l g M_X1_oneOf (d - 1) [.int (ar σ2 23 ((ar σ2 15 r1.toNatClampNeg).toNatClampNeg)), .int r3] σ3 (fun r4 σ4 => CI l g M_X1_draw (d - 1) [.ref 31, .int (bcI (ar σ2 23 ((ar σ2 16 r1.toNatClampNeg).toNatClampNeg)))] σ4 (fun r5 σ5 => CI l g M_X1_oneOf (d - 1) [.int (ar σ2 23 ((ar σ2 16 r1.toNatClampNeg).toNatClampNeg)), .int r5] σ5 (fun r6 σ6 => ((r4 < 0 → k 0 σ6) ∧ (¬ r4 < 0 → ((r6 < 0 → k 0 σ6) ∧ (¬ r6 < 0 → (vp_in ((r1 * 7) + r4) 35 ∧ ((¬ ((ar σ6 18 (((r1 * 7) + r4).toNatClampNeg)) >>> (r6 &&& 31)) &&& 1 = 0 → CI l g M_X6_changed (d - 1) [.ref 14, .int (rg σ6 1985), .int r1, .int r4, .int r6] σ6 (fun r7 σ7 => k 1 (sR (sR σ7 1985 r7) 1986 ((rg σ7 1986) + 1)))) ∧ (((ar σ6 18 (((r1 * 7) + r4).toNatClampNeg)) >>> (r6 &&& 31)) &&& 1 = 0 → k 0 σ6)))))))))))) ∧ (ar σ2 23 ((ar σ2 16 r1.toNatClampNeg).toNatClampNeg) = 0 → k 0 σ2))))))))))) : CI l g M_X1_tryOne d [.ref 31, .ref 14, .ref 20] σ k := b_X1_tryOne_0 hd H
theorem c_draw {d m : Nat} {σ : am_S} {z : Int32} {k : Int32 → am_S → Prop} (ez : rg σ 1984 = z) (h0 : 0 < m) (hm : m < 2 ^ 31) (H : k (nI (dr z m)) (sR σ 1984 (lcg z))) : CI l g M_X1_draw d [.ref 31, .int (nI m)] σ k := by
  refine b_X1_draw_0 ?_
  rw [ez, dr_eq z h0 hm]
  exact ⟨fun _ => ⟨nI_ne0 h0 hm, H⟩, fun q => absurd ((ltn (a := 0) (by omega) hm).mpr h0) q⟩
theorem c_oneOf {d n : Nat} {x1 : Int32} {P : Nat → Bool} {σ : am_S} {k : Int32 → am_S → Prop} (hn : n ≤ 7) : ∀ (f p left : Nat), p + f = n → left < cntS (fun j => P j = true) f p → left ≤ 7 → k (nI (kth P f p left)) σ → JI l g M_X1_oneOf d 4 [(0, .int (nI (msk P n))), (1, .int x1), (2, .int (nI left)), (3, .int (nI p))] [] σ k
  | 0, p, left, e, h, _, H => absurd h (Nat.not_lt_zero left)
  | f + 1, p, left, e, h, hl, H => by
    have e1 : cntS (fun j => P j = true) (f + 1) p = (if P p = true then 1 else 0) + cntS (fun j => P j = true) f (p + 1) := rfl
    rw [e1] at h
    have hm : msk P n < 2 ^ 31 := by have := msk128 (P := P) hn; omega
    refine b_X1_oneOf_4 ?_
    rw [i_bt hm (by omega), msk_mod (by omega), nI_1]
    unfold kth at H
    refine ⟨fun q => absurd ((len (a := 7) (by omega) (by omega)).mp q) (by omega), fun _ => ⟨fun c => ?_, fun c => ⟨fun c2 => ?_, fun c2 => ?_⟩⟩⟩
    · have hp : ¬ P p = true := fun w => by
        rw [if_pos w] at c
        exact absurd c (by decide)
      rw [if_neg hp] at h H
      exact c_oneOf hn f (p + 1) left (by omega) (by omega) hl H
    · have hp : P p = true := by
        by_cases w : P p = true
        · exact w
        · rw [if_neg w] at c
          exact absurd rfl c
      have l0 : ¬ left = 0 := fun w => c2 (by rw [w]; rfl)
      rw [if_pos hp] at h H
      rw [if_neg l0] at H
      have e2 : nI left + (-1) = nI (left - 1) := by
        have := pk_m1 (left - 1)
        rw [show left - 1 + 1 = left by omega] at this
        exact this
      rw [e2]
      exact c_oneOf hn f (p + 1) (left - 1) (by omega) (by omega) (by omega) H
    · have hp : P p = true := by
        by_cases w : P p = true
        · exact w
        · rw [if_neg w] at c
          exact absurd rfl c
      have l0 : left = 0 := nI_inj (b := 0) (by omega) (by omega) c2
      rw [if_pos hp, if_pos l0] at H
      exact H
theorem cnt_le7 {P : Nat → Bool} {n : Nat} (hn : n ≤ 7) : cntS (fun j => P j = true) n 0 ≤ 7 := by
  rw [← pc_msk hn]
  exact pc_le ⟨msk P n, msk128 hn⟩
theorem bc_msk {P : Nat → Bool} {n : Nat} (hn : n ≤ 7) : bcI (nI (msk P n)) = nI (cntS (fun j => P j = true) n 0) := by
  rw [← pc_msk hn]
  exact bc_tab ⟨msk P n, msk128 hn⟩
theorem c_tryOne {d many : Nat} {z : Int32} {σ : am_S} {k : Int32 → am_S → Prop} (hd : 3 ≤ d) (hW : wd_ok W) (hC : WC W σ) (ha : a < 4 ^ W.2.1) (h0 : 0 < W.1) (ez : rg σ 1984 = z) (e85 : rg σ 1985 = nI a) (e86 : rg σ 1986 = nI many)
    (H : ∀ τ, Fr [1984, 1985, 1986] [23] σ τ → rg τ 1984 = (tryP W z a).1 → rg τ 1985 = nI (tryP W z a).2.1 → rg τ 1986 = nI (if (tryP W z a).2.2 = true then many + 1 else many) → k (if (tryP W z a).2.2 = true then 1 else 0) τ) : CI l g M_X1_tryOne d [.ref 31, .ref 14, .ref 20] σ k := by
  have h5 := hW.1.1
  have h7 := hW.1.2
  have hD := dr_lt z h0
  refine tryOne_bc (by omega) ?_
  rw [hC.1.1]
  refine c_draw ez h0 (by omega) ?_
  have f1 : Fr [1984] [] σ (sR σ 1984 (lcg z)) := (Fr.rf.wR).mono (by simp) (by simp)
  have z1 : rg (sR σ 1984 (lcg z)) 1984 = lcg z := by rw [rg_sR, if_pos rfl]
  generalize (sR σ 1984 (lcg z)) = σ1 at f1 z1
  rw [(f1.R 66 rfl).trans hC.1.2, (f1.R 1985 rfl).trans e85]
  unfold tryP at H
  generalize eD : dr z W.1 = D at hD H ⊢
  obtain ⟨r4, t4, -⟩ := hW.2 D hD
  refine c_seat (by omega) h7 ha (fun τ hτ hr => ?_)
  have fτ : Fr [1984] [23] σ τ := (f1.tr hτ).mono (by simp) (by simp)
  have hCτ := hC.fr fτ rfl rfl
  have vD : vp_in (nI D) 5 := vp_in_nI (by omega) (by omega)
  rw [nI_clamp (n := D) (by omega), (hCτ.2.1 D hD).1, (hCτ.2.1 D hD).2, nI_clamp (n := W.2.2.1 D) (by omega), nI_clamp (n := W.2.2.2.1 D) (by omega), hr _ r4, hr _ t4]
  have zτ : rg τ 1984 = lcg z := (hτ.R 1984 rfl).trans z1
  have e85τ : rg τ 1985 = nI a := (fτ.R 1985 rfl).trans e85
  have e86τ : rg τ 1986 = nI many := (fτ.R 1986 rfl).trans e86
  have k1 := cnt_le7 (P := rmB a (W.2.2.1 D)) h7
  have k2 := cnt_le7 (P := rmB a (W.2.2.2.1 D)) h7
  generalize ex : cntS (fun j => rmB a (W.2.2.1 D) j = true) W.2.1 0 = x at H k1
  generalize ey : cntS (fun j => rmB a (W.2.2.2.1 D) j = true) W.2.1 0 = y at H k2
  have i1 := msk_iff0 (P := rmB a (W.2.2.1 D)) h7
  have i2 := msk_iff0 (P := rmB a (W.2.2.2.1 D)) h7
  rw [ex] at i1
  rw [ey] at i2
  refine ⟨vD, vp_in_nI r4 (by omega), vD, vp_in_nI t4 (by omega), fun c => ?_, fun c => ⟨fun c2 => ?_, fun c2 => ?_⟩⟩
  · rw [if_pos (Or.inl (i1.mp c))] at H
    have H1 : ∀ τ, Fr [1984, 1985, 1986] [23] σ τ → rg τ 1984 = lcg z → rg τ 1985 = nI a → rg τ 1986 = nI many → k 0 τ := H
    exact H1 τ (fτ.mono (by simp) (by simp)) zτ e85τ e86τ
  · have x0 : ¬ x = 0 := fun w => c (i1.mpr w)
    have y0 : ¬ y = 0 := fun w => c2 (i2.mpr w)
    rw [if_neg (by rintro (w | w) <;> contradiction)] at H
    have b1 : bcI (nI (msk (rmB a (W.2.2.1 D)) W.2.1)) = nI x := by rw [bc_msk h7, ex]
    have b2 : bcI (nI (msk (rmB a (W.2.2.2.1 D)) W.2.1)) = nI y := by rw [bc_msk h7, ey]
    rw [b1, b2]
    have dx := dr_lt (lcg z) (m := x) (by omega)
    have dy := dr_lt (lcg (lcg z)) (m := y) (by omega)
    refine c_draw zτ (by omega) (by omega) (b_X1_oneOf_0 (c_oneOf h7 W.2.1 0 (dr (lcg z) x) (Nat.zero_add _) (by rw [ex]; exact dx) (by omega) ?_))
    have f2 : Fr [1984] [] τ (sR τ 1984 (lcg (lcg z))) := (Fr.rf.wR).mono (by simp) (by simp)
    have z2 : rg (sR τ 1984 (lcg (lcg z))) 1984 = lcg (lcg z) := by rw [rg_sR, if_pos rfl]
    generalize (sR τ 1984 (lcg (lcg z))) = σ2 at f2 z2
    refine c_draw z2 (by omega) (by omega) (b_X1_oneOf_0 (c_oneOf h7 W.2.1 0 (dr (lcg (lcg z)) y) (Nat.zero_add _) (by rw [ey]; exact dy) (by omega) ?_))
    have f3 : Fr [1984] [] σ2 (sR σ2 1984 (lcg (lcg (lcg z)))) := (Fr.rf.wR).mono (by simp) (by simp)
    have z3 : rg (sR σ2 1984 (lcg (lcg (lcg z)))) 1984 = lcg (lcg (lcg z)) := by rw [rg_sR, if_pos rfl]
    generalize (sR σ2 1984 (lcg (lcg (lcg z)))) = σ3 at f3 z3
    have kp := kth_ok (P := rmB a (W.2.2.1 D)) W.2.1 0 (dr (lcg z) x) (by rw [ex]; exact dx)
    have kq := kth_ok (P := rmB a (W.2.2.2.1 D)) W.2.1 0 (dr (lcg (lcg z)) y) (by rw [ey]; exact dy)
    generalize kth (rmB a (W.2.2.1 D)) W.2.1 0 (dr (lcg z) x) = p at kp H ⊢
    generalize kth (rmB a (W.2.2.2.1 D)) W.2.1 0 (dr (lcg (lcg z)) y) = q at kq H ⊢
    have hp : p < W.2.1 := by omega
    have hq : q < W.2.1 := by omega
    have rp : rmN a p = W.2.2.1 D := of_decide_eq_true kp.1
    have rq : rmN a q = W.2.2.2.1 D := of_decide_eq_true kq.1
    have fA : Fr [1984] [23] σ σ3 := ((fτ.tr f2).tr f3).mono (by simp) (by simp)
    have hCA := hC.fr fA rfl rfl
    have ei : nI D * 7 + nI p = nI (D * 7 + p) := by rw [show (7 : Int32) = nI 7 from rfl, pk_mul, nI_add]
    have e85A : rg σ3 1985 = nI a := (fA.R 1985 rfl).trans e85
    have hm : msk (W.2.2.2.2 D p) W.2.1 < 2 ^ 31 := by have := msk128 (P := W.2.2.2.2 D p) h7; omega
    rw [ei, nI_clamp (n := D * 7 + p) (by omega), hCA.2.2 D p hD hp, i_bt hm (by omega), msk_mod hq, e85A]
    refine ⟨fun w => absurd w (nI_pos (by omega)), fun _ => ⟨fun w => absurd w (nI_pos (by omega)), fun _ => ⟨vp_in_nI (by omega) (by omega), fun w => ?_, fun w => ?_⟩⟩⟩
    · have hmay : W.2.2.2.2 D p q = true := by
        by_cases v : W.2.2.2.2 D p q = true
        · exact v
        · rw [if_neg v] at w
          exact absurd rfl w
      have hc : canB W a (D, p, q) = true := canB_iff.mpr ⟨hmay, rp, rq⟩
      rw [if_pos hc] at H
      have H1 : ∀ τ, Fr [1984, 1985, 1986] [23] σ τ → rg τ 1984 = lcg (lcg (lcg z)) → rg τ 1985 = nI (nxt W.2.1 a (D, p, q)) → rg τ 1986 = nI (many + 1) → k 1 τ := H
      refine c_changed hW hCA ha hD hp hq ⟨rp, rq⟩ (H1 _ ((fA.wR.wR).mono (by simp) (by simp)) ?_ ?_ ?_)
      · rw [rg_sR, if_neg (by decide), rg_sR, if_neg (by decide)]
        exact z3
      · rw [rg_sR, if_neg (by decide), rg_sR, if_pos rfl]
      · rw [rg_sR, if_pos rfl, fA.R 1986 rfl, e86, nI_1]
    · have hmay : ¬ W.2.2.2.2 D p q = true := fun v => by
        rw [if_pos v] at w
        exact absurd w (by decide)
      have hc : ¬ canB W a (D, p, q) = true := fun v => hmay (canB_iff.mp v).1
      rw [if_neg hc] at H
      have H1 : ∀ τ, Fr [1984, 1985, 1986] [23] σ τ → rg τ 1984 = lcg (lcg (lcg z)) → rg τ 1985 = nI a → rg τ 1986 = nI many → k 0 τ := H
      exact H1 σ3 (fA.mono (by simp) (by simp)) z3 e85A ((fA.R 1986 rfl).trans e86)
  · rw [if_pos (Or.inr (i2.mp c2))] at H
    have H1 : ∀ τ, Fr [1984, 1985, 1986] [23] σ τ → rg τ 1984 = lcg z → rg τ 1985 = nI a → rg τ 1986 = nI many → k 0 τ := H
    exact H1 τ (fτ.mono (by simp) (by simp)) zτ e85τ e86τ
/-- all tries: how all are, how many changed, till when -/
def evn (W : Wd) : Nat → Nat → Int32 → Nat → Nat → Int32 → Nat × Nat × Int32
  | 0, _, _, a, many, rest => (a, many, rest)
  | k + 1, i, z, a, many, rest => if (tryP W z a).2.2 = true then evn W k (i + 1) (tryP W z a).1 (tryP W z a).2.1 (many + 1) (if rest = -2 ∧ mvs W (tryP W z a).2.1 = [] then nI i else rest) else evn W k (i + 1) (tryP W z a).1 a many rest
theorem tryP_no {z : Int32} (h : ¬ (tryP W z a).2.2 = true) : (tryP W z a).2.1 = a := by
  unfold tryP at h ⊢
  split
  · rfl
  · rename_i c
    rw [if_neg c] at h
    split
    · rename_i c2
      rw [if_pos c2] at h
      exact absurd rfl h
    · rfl
theorem mvs0 {σ : am_S} {n b : Nat} (h : ST n b σ (mvs W a)) (hW : wd_ok W) : rg σ 1283 = 0 ↔ mvs W a = [] := by
  have l := mvs_len (a := a) hW
  rw [h.1]
  constructor
  · intro q
    exact List.length_eq_zero_iff.mp (nI_inj (b := 0) (by omega) (by omega) q)
  · intro q
    rw [q]
    rfl
theorem c_pass45 {d N : Nat} {x3 x5 : Int32} {σ0 : am_S} {k1 : am_S → Prop} (hd : 5 ≤ d) (hW : wd_ok W) (hC : WC W σ0) (h0 : 0 < W.1) (hN : N ≤ 99) : ∀ (k i : Nat) (z : Int32) (a many : Nat) (rest : Int32) (σ : am_S), k + i = N + 1 → a < 4 ^ W.2.1 → Fr [1283, 1984, 1985, 1986, 1987] [21, 22, 23] σ0 σ → rg σ 1984 = z → rg σ 1985 = nI a → rg σ 1986 = nI many → rg σ 1987 = rest →
    (∀ τ, Fr [1283, 1984, 1985, 1986, 1987] [21, 22, 23] σ0 τ → rg τ 1985 = nI (evn W k i z a many rest).1 → rg τ 1986 = nI (evn W k i z a many rest).2.1 → rg τ 1987 = (evn W k i z a many rest).2.2 → k1 τ) →
    JV l g M_X1_pass d 45 [(0, .ref 31), (1, .ref 14), (2, .ref 20), (3, .int x3), (4, .int (nI N)), (5, .int x5), (6, .int (nI i))] [] σ k1
  | 0, i, z, a, many, rest, σ, e, ha, fr, ez, e85, e86, e87, H => by
    refine b_X1_pass_45 (by omega) ?_
    exact ⟨fun _ => H σ fr e85 e86 e87, fun q => absurd ((ltn (by omega) (by omega)).mpr (by omega)) q⟩
  | k + 1, i, z, a, many, rest, σ, e, ha, fr, ez, e85, e86, e87, H => by
    have h7 := hW.1.2
    have hCσ := hC.fr fr rfl rfl
    refine b_X1_pass_45 (by omega) ?_
    rw [nI_1]
    refine ⟨fun q => absurd ((ltn (by omega) (by omega)).mp q) (by omega), fun _ => c_tryOne (z := z) (a := a) (many := many) (by omega) hW hCσ ha h0 ez e85 e86 (fun τ fτ g4 g5 g6 => ?_)⟩
    have fT : Fr [1283, 1984, 1985, 1986, 1987] [21, 22, 23] σ0 τ := (fr.tr fτ).mono (by simp) (by simp)
    have g7 : rg τ 1987 = rest := (fτ.R 1987 rfl).trans e87
    unfold evn at H
    by_cases ch : (tryP W z a).2.2 = true
    · rw [if_pos ch] at H g6 ⊢
      have hlt := tryP_lt (z := z) ha
      generalize tryP W z a = T at g4 g5 H hlt ch
      refine ⟨fun w => absurd w (by decide), fun _ => ?_⟩
      rw [g7]
      refine ⟨fun ne => ?_, fun eq => ?_⟩
      · rw [if_neg (fun w => ne w.1)] at H
        exact c_pass45 hd hW hC h0 hN k (i + 1) _ _ _ _ τ (by omega) hlt fT g4 g5 g6 g7 H
      · rw [g5]
        refine c_list (by omega) hW (hC.fr fT rfl rfl) hlt (fun υ fυ hT => ?_)
        have m0 := mvs0 hT hW
        have fU : Fr [1283, 1984, 1985, 1986, 1987] [21, 22, 23] σ0 υ := (fT.tr fυ).mono (by simp) (by simp)
        refine ⟨fun w => ?_, fun w => ?_⟩
        · rw [if_neg (fun v => w (m0.mpr v.2)), eq] at H
          exact c_pass45 hd hW hC h0 hN k (i + 1) _ _ _ _ _ (by omega) hlt ((fU.wR).mono (by simp) (by simp)) ((fυ.R 1984 rfl).trans g4) ((fυ.R 1985 rfl).trans g5) ((fυ.R 1986 rfl).trans g6) rfl H
        · rw [if_pos ⟨eq, m0.mp w⟩] at H
          exact c_pass45 hd hW hC h0 hN k (i + 1) _ _ _ _ _ (by omega) hlt ((fU.wR).mono (by simp) (by simp)) ((fυ.R 1984 rfl).trans g4) ((fυ.R 1985 rfl).trans g5) ((fυ.R 1986 rfl).trans g6) rfl H
    · rw [if_neg ch] at H g6 ⊢
      rw [tryP_no ch] at g5
      refine ⟨fun _ => ?_, fun w => absurd rfl w⟩
      exact c_pass45 hd hW hC h0 hN k (i + 1) _ _ _ _ τ (by omega) ha fT g4 g5 g6 g7 H
theorem c_pass {d N : Nat} {x3 : Int32} {σ : am_S} {k1 : am_S → Prop} (hd : 6 ≤ d) (hW : wd_ok W) (hC : WC W σ) (h0 : 0 < W.1) (hN : N ≤ 99) (ha : a < 4 ^ W.2.1)
    (H : ∀ τ, Fr [1283, 1984, 1985, 1986, 1987] [21, 22, 23] σ τ → rg τ 1985 = nI (evn W N 1 x3 a 0 (if mvs W a = [] then 0 else -2)).1 → rg τ 1986 = nI (evn W N 1 x3 a 0 (if mvs W a = [] then 0 else -2)).2.1 → rg τ 1987 = (evn W N 1 x3 a 0 (if mvs W a = [] then 0 else -2)).2.2 → k1 τ) :
    CV l g M_X1_pass d [.ref 31, .ref 14, .ref 20, .int x3, .int (nI N), .int (nI a)] σ k1 := by
  have f1 : Fr [1984, 1985, 1986] [] σ (sR (sR (sR σ 1984 x3) 1985 (nI a)) 1986 0) := (Fr.rf.wR.wR.wR).mono (by simp) (by simp)
  refine b_X1_pass_0 (by omega) (c_list (by omega) hW (hC.fr f1 rfl rfl) ha (fun υ fυ hT => ?_))
  have m0 := mvs0 hT hW
  have fU : Fr [1283, 1984, 1985, 1986, 1987] [21, 22, 23] σ υ := (f1.tr fυ).mono (by simp) (by simp)
  have g4 : rg υ 1984 = x3 := fυ.R 1984 rfl
  have g5 : rg υ 1985 = nI a := fυ.R 1985 rfl
  have g6 : rg υ 1986 = nI 0 := fυ.R 1986 rfl
  refine ⟨fun w => ?_, fun w => ?_⟩
  · rw [if_neg (fun v => w (m0.mpr v))] at H
    exact c_pass45 (σ0 := σ) (by omega) hW hC h0 hN N 1 x3 a 0 (-2) _ rfl ha ((fU.wR).mono (by simp) (by simp)) g4 g5 g6 rfl H
  · rw [if_pos (m0.mp w)] at H
    exact c_pass45 (σ0 := σ) (by omega) hW hC h0 hN N 1 x3 a 0 0 _ rfl ha ((fU.wR).mono (by simp) (by simp)) g4 g5 g6 rfl H
end TryC
