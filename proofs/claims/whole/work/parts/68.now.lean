/-! changes that may be now -/
def SRg : List Nat := [707, 1224, 1283, 3560, 3561, 3562, 3563, 3564, 1984, 1985, 1986, 1987]
def SAr : List Nat := [13, 15, 16, 17, 18, 21, 22, 23, 24, 25, 26, 27, 28, 29, 30, 71, 72, 73, 74, 75, 76, 77, 78]
theorem R_srch {σ τ : am_S} {nr nd n nt dn un nb nq : Nat} {pl : Nat → Nat} (h : RR σ nr nd n pl nt dn un nb nq) (fr : Fr SRg SAr σ τ) (hF : R_F τ) : RR τ nr nd n pl nt dn un nb nq := by
  obtain ⟨hH, hT, hD, hU, hI, hB, hS, hL⟩ := h
  exact ⟨hH.fr fr rfl rfl, hT.fr fr rfl rfl, hD.fr fr rfl rfl, hU.fr fr rfl rfl, hI.fr fr rfl rfl, hB.fr fr rfl rfl, hS.fr fr rfl rfl, hL.1.fr fr rfl rfl, hF⟩
theorem RR.R {σ : am_S} {nr nd n nt dn un nb nq : Nat} {pl : Nat → Nat} (h : RR σ nr nd n pl nt dn un nb nq) : R σ := ⟨nr, nd, n, pl, nt, dn, un, nb, nq, h⟩
theorem wld_fr {rs as : List Nat} {σ τ : am_S} {o : Option (List Lin)} {nd n tn : Nat} {wr mo : Int32} (h : Fr rs as σ τ) (hc : ([68] : List Nat).all (fun r => !rs.contains r) = true) (ha : ([2, 3, 4, 5, 6] : List Nat).all (fun a => !as.contains a) = true) : wld τ o nd n tn wr mo = wld σ o nd n tn wr mo := by
  have hr : ∀ r ∈ ([68] : List Nat), rs.contains r = false := fun r q => by simpa using List.all_eq_true.mp hc r q
  have hb : ∀ a ∈ ([2, 3, 4, 5, 6] : List Nat), as.contains a = false := fun a q => by simpa using List.all_eq_true.mp ha a q
  have e68 := h.R 68 (hr 68 (by decide))
  have e2 := h.A 2 (hb 2 (by decide))
  have e3 := h.A 3 (hb 3 (by decide))
  have e4 := h.A 4 (hb 4 (by decide))
  have e5 := h.A 5 (hb 5 (by decide))
  have e6 := h.A 6 (hb 6 (by decide))
  have h1 : frT τ tn = frT σ tn := by
    funext d
    unfold frT to0 fr0
    rw [e2, e3]
  have h2 : toT τ tn = toT σ tn := by
    funext d
    unfold toT to0 fr0
    rw [e2, e3]
  have h3 : htB τ wr mo = htB σ wr mo := by
    funext p
    unfold htB
    rw [e5, e6, e68]
  have h4 : mayW τ o tn wr mo = mayW σ o tn wr mo := by
    funext d p q
    unfold mayW
    rw [h1, h2, h3, e4]
  unfold wld
  rw [h1, h2, h4]
theorem enc_rm_pl {pl : Nat → Nat} {n j : Nat} (hj : j < n) (h : ∀ j, j < n → pl j < 4) : rmN (enc pl n) j = pl j := rmN_enc hj h
theorem plt {σ : am_S} {nr nd n : Nat} {pl : Nat → Nat} (h : R_H σ nr nd n pl) : ∀ j, j < n → pl j < 4 := fun j hj => by
  have h1 := h.1.1
  have := (h.2.2.2.2.2.2.2.1 j hj).1
  omega
theorem a_lt {σ : am_S} {nr nd n : Nat} {pl : Nat → Nat} (h : R_H σ nr nd n pl) : enc pl n < 4 ^ n := enc_lt (plt h)
section Now
variable {l : Launch} {g : am_G} {σ0 : am_S} {nr nd n tn : Nat} {pl : Nat → Nat} {o : Option (List Lin)} {wr mo : Int32}
theorem c_arr4 {d : Nat} {σ : am_S} {k : Int32 → am_S → Prop} (h66 : rg σ 66 = nI n) (hn : n ≤ 7) (h4 : ∀ j, j < n → pl j < 4) (h7 : ∀ j, j < n → ar σ 7 j = nI (pl j)) (H : k (nI (enc pl n)) σ) : ∀ (m j : Nat), j + m = n → JI l g M_X2_arrangement d 4 [(0, .ref 1), (1, .int (nI (enc pl j))), (2, .int (nI j))] [] σ k
  | 0, j, e => by
    have e : j = n := by omega
    subst e
    refine b_X2_arrangement_4 ?_
    rw [h66]
    exact ⟨fun _ => H, fun q => absurd ((len (by omega) (by omega)).mpr (Nat.le_refl _)) q⟩
  | m + 1, j, e => by
    refine b_X2_arrangement_4 ?_
    rw [h66, nI_clamp (n := j) (by omega), h7 j (by omega), enc_or (by omega) (fun i hi => h4 i (by omega)) (h4 j (by omega)), nI_1]
    exact ⟨fun q => absurd ((len (by omega) (by omega)).mp q) (by omega), fun _ => ⟨vp_in_nI (by omega) (by omega), c_arr4 h66 hn h4 h7 H m (j + 1) (by omega)⟩⟩
theorem c_arr {d : Nat} {σ : am_S} {k : Int32 → am_S → Prop} (hH : R_H σ nr nd n pl) (H : k (nI (enc pl n)) σ) : CI l g M_X2_arrangement d [.ref 1] σ k :=
  b_X2_arrangement_0 (c_arr4 hH.2.2.2.1.1 hH.1.2.2 (plt hH) (fun j hj => (hH.2.2.2.2.2.2.2.1 j hj).2.1) H n 0 (Nat.zero_add _))
theorem c_mayBe {d a : Nat} {x2 x3 x4 : Int32} {σ : am_S} {k : Int32 → am_S → Prop} (hd : 5 ≤ d) (hH : R_W σ0 nr nd n) (hL : R_tl σ0 o) (h : LK σ0 nd n tn wr mo σ) (ha : a < 4 ^ n)
    (H1 : ∀ D p q τ, x2 = nI D → x3 = nI p → x4 = nI q → D < nd → p < n → q < n → canB (wld σ0 o nd n tn wr mo) a (D, p, q) = true → Fr [707] [13] σ τ → LK σ0 nd n tn wr mo τ → k 1 τ)
    (H0 : ∀ τ, (¬ ∃ D p q, x2 = nI D ∧ x3 = nI p ∧ x4 = nI q ∧ D < nd ∧ p < n ∧ q < n ∧ canB (wld σ0 o nd n tn wr mo) a (D, p, q) = true) → Fr [707] [13] σ τ → LK σ0 nd n tn wr mo τ → k 0 τ) :
    CI l g M_X6_mayBe d [.ref 14, .int (nI a), .int x2, .int x3, .int x4] σ k := by
  have H2 := hH.1.2.1
  have H3 := hH.1.2.2
  have e65 : rg σ 65 = nI nd := (h.1.R 65 rfl).trans hH.2.2.1.1
  have e66 : rg σ 66 = nI n := (h.1.R 66 rfl).trans hH.2.2.2.1.1
  have rf : Fr [707] [13] σ σ := Fr.rf.mono (by simp) (by simp)
  have inj : ∀ {a b : Nat}, a < 8 → b < 8 → nI a = nI b → a = b := fun h1 h2 e => nI_inj (by omega) (by omega) e
  refine b_X6_mayBe_0 (by omega) ?_
  rw [e65, e66]
  refine ⟨fun c2 => ⟨fun c3 => ⟨fun c4 => ?_, fun c4 => H0 σ ?_ rf h⟩, fun c3 => H0 σ ?_ rf h⟩, fun c2 => H0 σ ?_ rf h⟩
  · obtain ⟨D, hD, rfl⟩ := (cA (by omega)).mp c2
    obtain ⟨p, hp, rfl⟩ := (cA (by omega)).mp c3
    obtain ⟨q, hq, rfl⟩ := (cA (by omega)).mp c4
    have uni : ∀ {C : Prop}, (∀ D1 p1 q1, nI D = nI D1 → nI p = nI p1 → nI q = nI q1 → D1 < nd → p1 < n → q1 < n → (D1 = D ∧ p1 = p ∧ q1 = q → C)→ C) := by
      intro C D1 p1 q1 e1 e2 e3 h1 h2 h3 hc
      exact hc ⟨(inj (by omega) (by omega) e1).symm, (inj (by omega) (by omega) e2).symm, (inj (by omega) (by omega) e3).symm⟩
    have no : canB (wld σ0 o nd n tn wr mo) a (D, p, q) = false → ¬ ∃ D1 p1 q1, nI D = nI D1 ∧ nI p = nI p1 ∧ nI q = nI q1 ∧ D1 < nd ∧ p1 < n ∧ q1 < n ∧ canB (wld σ0 o nd n tn wr mo) a (D1, p1, q1) = true := by
      rintro hf ⟨D1, p1, q1, e1, e2, e3, h1, h2, h3, hc⟩
      have z1 := (inj (by omega) (by omega) e1)
      have z2 := (inj (by omega) (by omega) e2)
      have z3 := (inj (by omega) (by omega) e3)
      subst z1 z2 z3
      rw [hf] at hc
      cases hc
    have vD : vp_in (nI D) 5 := vp_in_nI (by omega) (by omega)
    obtain ⟨f4, t4, fne⟩ := frT_nI (tn := tn) hH hD
    have rp := rmN_lt a p
    have rq := rmN_lt a q
    rw [nI_clamp (n := D) (by omega), (h.2.2 D hD).1, (h.2.2 D hD).2, i_room H3 ha (p := p) (by omega), i_room H3 ha (p := q) (by omega)]
    refine ⟨fun c => ⟨vD, fun c1 => H0 σ (no ?_) rf h, fun c1 => ⟨vD, fun c2 => H0 σ (no ?_) rf h, fun c2 => ?_⟩⟩, fun c => H0 σ (no ?_) rf h⟩
    · have : ¬ rmN a p = frT σ0 tn D := fun z => c1 (by rw [z])
      unfold canB wld
      simp [this]
    · have : ¬ rmN a q = toT σ0 tn D := fun z => c2 (by rw [z])
      unfold canB wld
      simp [this]
    · have e1 : rmN a p = frT σ0 tn D := inj (by omega) (by omega) c1
      have e2 : rmN a q = toT σ0 tn D := inj (by omega) (by omega) c2
      have hpq : p ≠ q := fun z => c (by rw [z])
      refine c_law2 (by omega) hH hL h hD hp hq hpq (fun τ hτ hτ2 => ?_)
      by_cases c3 : mayW σ0 o tn wr mo D p q = true
      · rw [if_pos c3]
        exact ⟨fun z => absurd z (by decide), fun _ => H1 D p q τ rfl rfl rfl hD hp hq (canB_iff.mpr ⟨c3, e1, e2⟩) hτ hτ2⟩
      · rw [if_neg c3]
        refine ⟨fun _ => H0 τ (no ?_) hτ hτ2, fun z => absurd rfl z⟩
        unfold canB wld
        simp [c3]
    · have e : p = q := inj (by omega) (by omega) c
      unfold canB wld mayW
      simp [e]
  · rintro ⟨D, p, q, e1, e2, e3, h1, h2, h3, -⟩
    exact c4 ((cA (by omega)).mpr ⟨q, h3, e3⟩)
  · rintro ⟨D, p, q, e1, e2, e3, h1, h2, h3, -⟩
    exact c3 ((cA (by omega)).mpr ⟨p, h2, e2⟩)
  · rintro ⟨D, p, q, e1, e2, e3, h1, h2, h3, -⟩
    exact c2 ((cA (by omega)).mpr ⟨D, h1, e1⟩)
theorem m_now {d : Nat} {k : am_S → Prop} (hd : 5 ≤ d) (hH : R_W σ0 nr nd n) (hL : R_tl σ0 o) (H : ∀ τ, Fr [] [71, 72, 73, 74, 75] σ0 τ → WM (wld σ0 o nd n 0 (rg σ0 67) 0) τ → k τ) : CV l g M_X12_findNow d [.ref 55] σ0 k := by
  refine b_X12_findNow_0 (by omega) ?_
  rw [hH.2.2.2.2.1]
  exact m_findMay (tn := 0) (by omega) hH hL (by omega) H
/-- two people, told as one number -/
def twoP (n : Nat) (x : Int32) (p q : Nat) : Prop := x / 10 = nI p ∧ x - x / 10 * 10 = nI q ∧ p < n ∧ q < n ∧ p ≠ q
theorem m_two {d : Nat} {x : Int32} {σ : am_S} {k : Int32 → am_S → Prop} (hd : 2 ≤ d) (e : rg σ 3526 = nI n) (hn : n ≤ 7) (H1 : ∀ p q, twoP n x p q → k 1 σ) (H0 : (¬ ∃ p q, twoP n x p q) → k 0 σ) : CI l g M_X12_areTwo d [.ref 55, .int x] σ k := by
  refine b_X12_areTwo_0 hd ?_
  rw [e]
  refine ⟨fun c => H0 ?_, fun c => ⟨fun c1 => ⟨fun c2 => ⟨fun c3 => H0 ?_, fun c3 => ?_⟩, fun c2 => H0 ?_⟩, fun c1 => H0 ?_⟩⟩
  · rintro ⟨p, q, e1, e2, h1, h2, -⟩
    rcases div10_neg c with z | z
    · rw [e1] at z
      exact nI_pos (by omega) z
    · rw [e2] at z
      exact nI_pos (by omega) z
  · rintro ⟨p, q, e1, e2, h1, h2, h3⟩
    rw [e2, e1] at c3
    exact h3 (nI_inj (by omega) (by omega) c3)
  · obtain ⟨p, hp, e1⟩ := (cB (by omega)).mp c1
    obtain ⟨q, hq, e2⟩ := (cB (by omega)).mp c2
    exact H1 p q ⟨e1, e2, hp, hq, fun z => c3 (by rw [e2, e1, z])⟩
  · rintro ⟨p, q, e1, e2, h1, h2, h3⟩
    exact c2 ((cB (by omega)).mpr ⟨q, h2, e2⟩)
  · rintro ⟨p, q, e1, e2, h1, h2, h3⟩
    exact c1 ((cB (by omega)).mpr ⟨p, h1, e1⟩)
theorem c_may {d : Nat} {x1 x2 : Int32} {k : Int32 → am_S → Prop} (hd : 6 ≤ d) (hH : R_H σ0 nr nd n pl) (hL : R_tl σ0 o)
    (HB : (¬ ((∃ D, D < nd ∧ x1 = nI D) ∧ ∃ p q, twoP n x2 p q)) → k (-1) σ0)
    (H1 : ∀ D p q τ, D < nd → x1 = nI D → twoP n x2 p q → Fr SRg SAr σ0 τ → R_F τ ∨ ¬ R_F σ0 → k (if canB (wld σ0 o nd n 0 (rg σ0 67) 0) (enc pl n) (D, p, q) = true then 1 else 0) τ) :
    CI l g M_X11_may d [.ref 0, .int x1, .int x2] σ0 k := by
  have H2 := hH.1.2.1
  have H3 := hH.1.2.2
  refine b_X11_may_0 (by omega) ?_
  rw [hH.2.2.1.1, hH.2.2.2.1.1]
  refine ⟨fun c1 => ⟨fun c2 => ⟨fun c3 => ⟨fun c4 => ?_, fun c4 => HB ?_⟩, fun c3 => HB ?_⟩, fun c2 => HB ?_⟩, fun c1 => HB ?_⟩
  · obtain ⟨D, hD, e1⟩ := (cA (by omega)).mp c1
    obtain ⟨p, hp, e2⟩ := (cA (by omega)).mp c2
    obtain ⟨q, hq, e3⟩ := (cA (by omega)).mp c3
    have tw : twoP n x2 p q := ⟨e2, e3, hp, hq, fun z => c4 (by rw [e3, e2, z])⟩
    refine c_look (tn := 0) (by omega) hH.W (by omega) (fun τ hτ => ?_)
    have hH2 := hH.fr hτ.1 rfl rfl
    have rF : ∀ {υ : am_S}, Fr [707] [13, 15, 16, 17, 18] σ0 υ → R_F υ ∨ ¬ R_F σ0 := by
      intro υ f
      by_cases z : R_F σ0
      · exact Or.inl (z.fr f rfl rfl)
      · exact Or.inr z
    refine c_arr hH2 (c_mayBe (by omega) hH.W hL hτ (a_lt hH) (fun D1 p1 q1 υ f1 f2 f3 g1 g2 g3 hc f h => ⟨fun z => absurd z (by decide), fun _ => ?_⟩) (fun υ hno f h => ⟨fun _ => ?_, fun z => absurd rfl z⟩))
    · rw [e1] at f1
      rw [e2] at f2
      rw [e3] at f3
      have z1 : D = D1 := nI_inj (by omega) (by omega) f1
      have z2 : p = p1 := nI_inj (by omega) (by omega) f2
      have z3 : q = q1 := nI_inj (by omega) (by omega) f3
      subst z1 z2 z3
      have := H1 D p q υ hD e1 tw (h.1.mono (by decide) (by decide)) (rF h.1)
      rw [if_pos hc] at this
      exact this
    · have := H1 D p q υ hD e1 tw (h.1.mono (by decide) (by decide)) (rF h.1)
      rw [if_neg (fun z => hno ⟨D, p, q, e1, e2, e3, hD, hp, hq, z⟩)] at this
      exact this
  · rintro ⟨-, p, q, e1, e2, h1, h2, h3⟩
    rw [e2, e1] at c4
    exact h3 (nI_inj (by omega) (by omega) c4)
  · rintro ⟨-, p, q, e1, e2, h1, h2, h3⟩
    exact c3 ((cA (by omega)).mpr ⟨q, h2, e2⟩)
  · rintro ⟨-, p, q, e1, e2, h1, h2, h3⟩
    exact c2 ((cA (by omega)).mpr ⟨p, h1, e1⟩)
  · rintro ⟨⟨D, hD, e⟩, -⟩
    exact c1 ((cA (by omega)).mpr ⟨D, hD, e⟩)
end Now
section PMay
variable {l : Launch} {g : am_G} {d : Nat} {σ : am_S}
theorem P_may (hd : 300 ≤ d) (hR : R σ) (x1 : Int32) (x2 : Int32) : PP l g d M_X11_may M_X12_may [.int x1, .int x2] σ := by
  intro K hk
  have old := hR
  obtain ⟨nr, nd, n, pl, nt, dn, un, nb, nq, hRR⟩ := hR
  have hH := hRR.1
  have hF := hRR.2.2.2.2.2.2.2.2
  obtain ⟨o, hL⟩ := R_tl_of hRR.2.2.2.2.2.2.2.1
  have H2 := hH.1.2.1
  have H3 := hH.1.2.2
  refine c_may (by omega) hH hL (fun hno => ?_) (fun D p q τ hD e1 tw fr hRF => ?_)
  · refine b_X12_may_0 (by omega) ?_
    rw [hH.2.2.1.2]
    refine ⟨fun c1 => m_two (by omega) hH.2.2.2.1.2 H3 (fun p q tw => absurd ⟨(cB (by omega)).mp c1, p, q, tw⟩ hno) (fun _ => ⟨fun z => absurd rfl z, fun _ => hk _ _ old⟩), fun _ => hk _ _ old⟩
  · have hRR2 := R_srch hRR fr (hRF.resolve_right (fun z => z hF))
    have hH2 := hRR2.1
    have hL2 := R_tl.fr fr rfl rfl hL
    refine b_X12_may_0 (by omega) ?_
    rw [hH2.2.2.1.2]
    refine ⟨fun c1 => m_two (by omega) hH2.2.2.2.1.2 H3 (fun p1 q1 tw1 => ⟨fun _ => ?_, fun z => absurd z (by decide)⟩) (fun hno => absurd ⟨p, q, tw⟩ hno), fun c => absurd ((cB (by omega)).mpr ⟨D, hD, e1⟩) c⟩
    refine m_now (by omega) hH2.W hL2 (fun υ fυ hM => ?_)
    have hRR3 := R_srch hRR2 (fυ.mono (by decide) (by decide)) (hRR2.2.2.2.2.2.2.2.2.fr fυ rfl rfl)
    rw [wld_fr fr rfl rfl, fr.R 67 rfl] at hM
    have hW : wd_ok (wld σ o nd n 0 (rg σ 67) 0) := wld_ok hH.W
    rw [fυ.R 3529 rfl, hH2.2.2.2.2.2.2.2.2.2, e1, tw.2.1, tw.1]
    refine m_can (W := wld σ o nd n 0 (rg σ 67) 0) (by omega) hW hM (a_lt hH) hD tw.2.2.1 tw.2.2.2.1 (fun hc => ⟨fun z => absurd z (by decide), fun _ => ?_⟩) (fun hc => ⟨fun _ => ?_, fun z => absurd rfl z⟩)
    · rw [if_pos hc]
      exact hk _ _ hRR3.R
    · rw [if_neg (by rw [hc]; decide)]
      exact hk _ _ hRR3.R
end PMay
