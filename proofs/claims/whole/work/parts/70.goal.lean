/-! goals -/
def pat (s : Nat) : Nat := enc (fun p => s / 2 ^ p % 2) 7
theorem enc_mul {f : Nat → Nat} (c : Nat) : ∀ n, enc (fun p => c * f p) n = c * enc f n
  | 0 => rfl
  | n + 1 => by
    show enc (fun p => c * f p) n + c * f n * 4 ^ n = c * (enc f n + f n * 4 ^ n)
    rw [enc_mul c n, Nat.mul_add, Nat.mul_assoc]
theorem enc_more {f : Nat → Nat} {n : Nat} : ∀ m, (∀ j, n ≤ j → f j = 0) → enc f (n + m) = enc f n
  | 0, _ => rfl
  | m + 1, h => by
    show enc f (n + m) + f (n + m) * 4 ^ (n + m) = _
    rw [enc_more m h, h (n + m) (by omega), Nat.zero_mul, Nat.add_zero]
theorem pat_n {s n : Nat} (hn : n ≤ 7) (hs : s < 2 ^ n) : pat s = enc (fun p => s / 2 ^ p % 2) n := by
  have h := enc_more (f := fun p => s / 2 ^ p % 2) (n := n) (7 - n) (fun j hj => by
    show s / 2 ^ j % 2 = 0
    rw [Nat.div_eq_of_lt (Nat.lt_of_lt_of_le hs (Nat.pow_le_pow_right (by decide) hj))])
  rw [show n + (7 - n) = 7 by omega] at h
  exact h
theorem pat_lt (s : Nat) : pat s < 4 ^ 7 := by
  refine enc_lt (fun j _ => ?_)
  have := Nat.mod_lt (s / 2 ^ j) (by decide : 0 < 2)
  show s / 2 ^ j % 2 < 4
  omega
theorem pat3_lt (s : Nat) : 3 * pat s < 4 ^ 7 := by
  have h : enc (fun p => 3 * (s / 2 ^ p % 2)) 7 < 4 ^ 7 := enc_lt (fun j _ => by
    have := Nat.mod_lt (s / 2 ^ j) (by decide : 0 < 2)
    show 3 * (s / 2 ^ j % 2) < 4
    omega)
  have e := enc_mul (f := fun p => s / 2 ^ p % 2) 3 7
  rw [e] at h
  exact h
/-- who of the set are all in the room -/
def gl (s r c : Nat) : Bool := decide (c &&& (3 * pat s) = r * pat s)
def fstD (G : Nat → Bool) (L : List En) : Option Nat := match L with
  | [] => none
  | e :: r => if G e.1 = true then some e.2.1 else fstD G r
theorem fstD_no {G : Nat → Bool} : ∀ {L : List En}, noG G L → fstD G L = none
  | [], _ => rfl
  | e :: r, h => by
    unfold fstD
    rw [if_neg (by rw [h e List.mem_cons_self]; decide)]
    exact fstD_no (fun x hx => h x (List.mem_cons_of_mem _ hx))
theorem fstD_yes {G : Nat → Bool} {y : En} : ∀ {L : List En}, fstG G L y → fstD G L = some y.2.1
  | [], ⟨u, v, h, _⟩ => absurd h (by simp)
  | e :: r, ⟨u, v, h1, h2, h3⟩ => by
    unfold fstD
    match u, h1, h3 with
    | [], h1, _ =>
      have h1 : e :: r = y :: v := h1
      cases h1
      rw [if_pos h2]
    | x :: u, h1, h3 =>
      have h1 : e :: r = x :: (u ++ y :: v) := h1
      cases h1
      rw [if_neg (by rw [h3 e List.mem_cons_self]; decide)]
      exact fstD_yes ⟨u, v, rfl, h2, fun z hz => h3 z (List.mem_cons_of_mem _ hz)⟩
def dC (o : Option Nat) : Int32 := match o with
  | some d => nI d
  | none => -2
def dM (o : Option Nat) : Int32 := match o with
  | some d => nI d
  | none => -1
theorem DI_bfs {W : Wd} : ∀ {f i : Nat} {L : List En}, DI L → DI (bfs W f i L)
  | 0, _, _, h => h
  | f + 1, i, L, h => by
    unfold bfs
    split
    · exact h
    · rename_i e q
      exact DI_bfs (DI.fold h q)
theorem bf0_DI {W : Wd} {a0 : Nat} : DI (bf0 W a0) := DI_bfs DI.one
theorem fst_mem {G : Nat → Bool} {L : List En} {y : En} (h : fstG G L y) : y ∈ L := by
  obtain ⟨u, v, e, -⟩ := h
  rw [e]
  exact List.mem_append_right _ List.mem_cons_self
theorem bf0_dlt {W : Wd} {a0 : Nat} {e : En} (hW : wd_ok W) (ha : a0 < 4 ^ W.2.1) (he : e ∈ bf0 W a0) : e.2.1 < 630 := by
  obtain ⟨i, hi, ei⟩ := List.getElem_of_mem he
  have e2 : (bf0 W a0)[i]? = some e := by rw [List.getElem?_eq_getElem hi, ei]
  have h1 := bf0_DI i e e2
  have h2 := (bf0_BI hW ha).len hW.1.2
  omega
theorem fstD_lt {W : Wd} {a0 d : Nat} {G : Nat → Bool} (hW : wd_ok W) (ha : a0 < 4 ^ W.2.1) (h : fstD G (bf0 W a0) = some d) : d < 630 := by
  rcases fst_or G (bf0 W a0) with q | ⟨y, q⟩
  · rw [fstD_no q] at h
    cases h
  · rw [fstD_yes q] at h
    cases h
    exact bf0_dlt hW ha (fst_mem q)
section Goal
variable {l : Launch} {g : am_G} {σ0 : am_S} {W : Wd} {G : Nat → Bool} {a0 : Nat}
theorem c_pat4 {d s : Nat} {σ : am_S} {k : Int32 → am_S → Prop} (hs : s < 2 ^ 31) (H : k (nI (pat s)) σ) : ∀ (m p : Nat), p + m = 7 → JI l g M_X11_pattern d 4 [(0, .int (nI s)), (1, .int (nI (enc (fun p => s / 2 ^ p % 2) p))), (2, .int (nI p))] [] σ k
  | 0, p, e => by
    have e : p = 7 := by omega
    subst e
    exact b_X11_pattern_4 ⟨fun _ => H, fun q => absurd (by decide) q⟩
  | m + 1, p, e => by
    refine b_X11_pattern_4 ?_
    have h2 : ∀ j, s / 2 ^ j % 2 < 4 := fun j => by
      have := Nat.mod_lt (s / 2 ^ j) (by decide : 0 < 2)
      omega
    rw [i_bt hs (by omega), enc_or (pl := fun p => s / 2 ^ p % 2) (by omega) (fun j _ => h2 j) (h2 p), nI_1]
    exact ⟨fun q => absurd ((len (a := 7) (by omega) (by omega)).mp q) (by omega), fun _ => c_pat4 hs H m (p + 1) (by omega)⟩
theorem c_pat {d s : Nat} {σ : am_S} {k : Int32 → am_S → Prop} (hs : s < 2 ^ 31) (H : k (nI (pat s)) σ) : CI l g M_X11_pattern d [.int (nI s)] σ k := b_X11_pattern_0 (c_pat4 hs H 7 0 rfl)
theorem gl_C {s r : Nat} (hr : r < 4) : ∀ c, c < 16384 → ((nI c &&& (3 * nI (pat s)) = nI r * nI (pat s)) ↔ gl s r c = true) := by
  intro c hc
  have h1 := pat_lt s
  have h3 := pat3_lt s
  have hrp : r * pat s < 2 ^ 31 := by
    have : r * pat s ≤ 3 * pat s := Nat.mul_le_mul_right _ (by omega)
    omega
  rw [show (3 : Int32) = nI 3 from rfl, pk_mul, pk_mul, i_and]
  unfold gl
  rw [decide_eq_true_iff]
  constructor
  · intro q
    refine nI_inj ?_ hrp q
    exact Nat.lt_of_le_of_lt (Nat.and_le_left) (by omega)
  · intro q
    rw [q]
def GC (W : Wd) (s r : Nat) (n : Nat) : Prop := W.2.1 = n ∧ s < 2 ^ n ∧ r < 4
theorem c_fewD {d : Nat} {x3 x4 : Int32} {k : Int32 → am_S → Prop} (hd : 4 ≤ d) (hW : wd_ok W) (hC : WC W σ0) (hF : R_F σ0) (ha : a0 < 4 ^ W.2.1) (hG : ∀ c, c < 16384 → ((nI c &&& x3 = x4) ↔ G c = true))
    (H : ∀ τ, Fr [1224, 1283] [21, 22, 23, 24, 25, 26, 30] σ0 τ → R_F τ → k (dC (fstD G (bf0 W a0))) τ) : CI l g M_X7_fewestTill d [.ref 19, .ref 14, .int (nI a0), .int x3, .int x4] σ0 k :=
  c_few hd hW hC hF ha hG (fun τ y h1 h2 h3 => by
    have := H τ h2 h3
    rw [fstD_yes h1] at this
    exact this) (fun τ h1 h2 h3 => by
    have := H τ h2 h3
    rw [fstD_no h1] at this
    exact this)
theorem c_fewTo {d nr nd n s r : Nat} {pl : Nat → Nat} {k : Int32 → am_S → Prop} (hd : 6 ≤ d) (hH : R_H σ0 nr nd n pl) (hW : wd_ok W) (hn : W.2.1 = n) (hC : WC W σ0) (hF : R_F σ0) (hs : s < 2 ^ 31) (hr : r < 4)
    (H : ∀ τ, Fr [1224, 1283] [21, 22, 23, 24, 25, 26, 30] σ0 τ → R_F τ → k (dC (fstD (gl s r) (bf0 W (enc pl n)))) τ) : CI l g M_X11_fewestTo d [.ref 0, .int (nI s), .int (nI r)] σ0 k := by
  refine b_X11_fewestTo_0 (by omega) (c_arr hH (c_pat hs (c_pat hs ?_)))
  exact c_fewD (by omega) hW hC hF (by rw [hn]; exact a_lt hH) (gl_C hr) H
/-- the reference's goal -/
theorem m_goal12 {d n s r : Nat} {k : am_S → Prop} (e26 : rg σ0 3526 = nI n) (hn : n ≤ 7) (hs : s < 2 ^ n) (hr : r < 4) (H : ∀ τ, Fr [3561, 3562] [] σ0 τ → rg τ 3561 = nI (3 * pat s) → rg τ 3562 = nI (r * pat s) → k τ) : ∀ (m p : Nat) (σ : am_S), p + m = n → Fr [3561, 3562] [] σ0 σ → rg σ 3561 = nI (enc (fun p => 3 * (s / 2 ^ p % 2)) p) → rg σ 3562 = nI (enc (fun p => r * (s / 2 ^ p % 2)) p) →
    JV l g M_X12_goal d 12 [(0, .ref 55), (1, .int (nI s)), (2, .int (nI r)), (3, .int (nI p))] [] σ k
  | 0, p, σ, e, h, e1, e2 => by
    have e : p = n := by omega
    subst e
    refine b_X12_goal_12 ?_
    rw [h.R 3526 rfl, e26]
    refine ⟨fun _ => H σ h ?_ ?_, fun q => absurd ((len (by omega) (by omega)).mpr (Nat.le_refl _)) q⟩
    · rw [e1, enc_mul 3 p, pat_n hn hs]
    · rw [e2, enc_mul r p, pat_n hn hs]
  | m + 1, p, σ, e, h, e1, e2 => by
    have h31 : s < 2 ^ 31 := Nat.lt_of_lt_of_le hs (Nat.pow_le_pow_right (by decide) (by omega))
    refine b_X12_goal_12 ?_
    rw [h.R 3526 rfl, e26, i_bt h31 (by omega), nI_1]
    refine ⟨fun q => absurd ((len (by omega) (by omega)).mp q) (by omega), fun _ => ⟨fun c => ?_, fun c => ?_⟩⟩
    · have hb : s / 2 ^ p % 2 = 1 := by
        rcases Nat.mod_two_eq_zero_or_one (s / 2 ^ p) with w | w
        · rw [w] at c
          exact absurd rfl c
        · exact w
      refine m_goal12 e26 hn hs hr H m (p + 1) _ (by omega) ((h.wR.wR).mono (by simp) (by simp)) ?_ ?_
      · rw [rg_sR, if_neg (by decide), rg_sR, if_pos rfl, e1]
        have := enc_or (pl := fun p => 3 * (s / 2 ^ p % 2)) (n := p) (by omega) (fun j _ => by
          have := Nat.mod_lt (s / 2 ^ j) (by decide : 0 < 2)
          show 3 * (s / 2 ^ j % 2) < 4
          omega) (by show 3 * (s / 2 ^ p % 2) < 4; omega)
        rw [← this]
        show _ = _ ||| (nI (3 * (s / 2 ^ p % 2)) <<< _)
        rw [hb]
        rfl
      · show rg σ 3562 ||| (nI r <<< ((2 * nI p) &&& 31)) = _
        rw [e2]
        have := enc_or (pl := fun p => r * (s / 2 ^ p % 2)) (n := p) (by omega) (fun j _ => by
          have := Nat.mod_lt (s / 2 ^ j) (by decide : 0 < 2)
          show r * (s / 2 ^ j % 2) < 4
          have : r * (s / 2 ^ j % 2) ≤ r * 1 := Nat.mul_le_mul_left _ (by omega)
          omega) (by
          show r * (s / 2 ^ p % 2) < 4
          rw [hb]
          omega)
        rw [← this]
        show _ = _ ||| (nI (r * (s / 2 ^ p % 2)) <<< _)
        rw [hb, Nat.mul_one]
    · have hb : s / 2 ^ p % 2 = 0 := nI_inj (b := 0) (by omega) (by omega) c
      refine m_goal12 e26 hn hs hr H m (p + 1) σ (by omega) h ?_ ?_
      · rw [e1]
        show nI _ = nI (_ + 3 * (s / 2 ^ p % 2) * 4 ^ p)
        rw [hb]
        simp
      · rw [e2]
        show nI _ = nI (_ + r * (s / 2 ^ p % 2) * 4 ^ p)
        rw [hb]
        simp
theorem m_goal {d n s r : Nat} {k : am_S → Prop} (e26 : rg σ0 3526 = nI n) (hn : n ≤ 7) (hs : s < 2 ^ n) (hr : r < 4) (H : ∀ τ, Fr [3561, 3562] [] σ0 τ → (∀ c, c < 16384 → ((nI c &&& rg τ 3561 = rg τ 3562) ↔ gl s r c = true)) → k τ) : CV l g M_X12_goal d [.ref 55, .int (nI s), .int (nI r)] σ0 k := by
  refine b_X12_goal_0 (m_goal12 e26 hn hs hr (fun τ h e1 e2 => H τ h (fun c hc => ?_)) n 0 _ (Nat.zero_add _) ((Fr.rf.wR.wR).mono (by simp) (by simp)) rfl rfl)
  have := gl_C (s := s) hr c hc
  rw [show (3 : Int32) = nI 3 from rfl, pk_mul, pk_mul] at this
  rw [e1, e2]
  exact this
theorem m_allD {d a0 : Nat} {gr : Option Nat} {k : am_S → Prop} (hd : 3 ≤ d) (hW : wd_ok W) (hM : WM W σ0) (hgr : ∀ z, gr = some z → z < 7) (hG : ∀ c, c < 16384 → ((nI c &&& rg σ0 3561 = rg σ0 3562) ↔ G c = true)) (ha : a0 < 4 ^ W.2.1)
    (H : ∀ τ, Fr [3560, 3563] [76, 77] σ0 τ → rg τ 3563 = dM (fstD G (bf0 (gW W gr) a0)) → k τ) : CV l g M_X12_findAll d [.ref 55, .int (nI a0), .int (grI gr)] σ0 k := by
  refine m_findAll hd hW hM hgr hG ha (fun τ hτ => H τ hτ.1 ?_)
  rcases hτ.2.2.2.2 with ⟨h1, h2⟩ | ⟨y, h1, h2⟩
  · rw [h2, fstD_no h1]
    rfl
  · rw [h2, fstD_yes h1]
    rfl
/-- a set and a room, told as they may be -/
def isG (nr n : Nat) (x1 x2 : Int32) (s r : Nat) : Prop := x1 = nI s ∧ x2 = nI r ∧ 0 < s ∧ s < 2 ^ n ∧ r < nr
theorem gC {nr n : Nat} {x1 x2 : Int32} (hn : n ≤ 7) (hr : nr ≤ 4) : (¬ x1 ≤ 0 ∧ ¬ (1 : Int32) <<< ((nI n) &&& 31) ≤ x1 ∧ (¬ x2 < 0 ∧ ¬ nI nr ≤ x2)) ↔ ∃ s r, isG nr n x1 x2 s r := by
  have hp : 2 ^ n < 2 ^ 31 := Nat.lt_of_le_of_lt (Nat.pow_le_pow_right (by decide) hn) (by decide)
  rw [i_bit (by omega)]
  constructor
  · rintro ⟨h1, h2, h3⟩
    obtain ⟨r, hr2, e2⟩ := (cA (by omega)).mp h3
    have h0 : ¬ x1 < 0 := fun z => h1 (by grind)
    obtain ⟨s, hs, e1⟩ := (cA hp).mp ⟨h0, h2⟩
    refine ⟨s, r, e1, e2, ?_, hs, hr2⟩
    rcases Nat.eq_zero_or_pos s with z | z
    · rw [e1, z] at h1
      exact absurd (by decide) h1
    · exact z
  · rintro ⟨s, r, rfl, rfl, h1, h2, h3⟩
    exact ⟨nI_nle h1 (by omega), (cA hp).mpr ⟨s, h2, rfl⟩ |>.2, (cA (by omega)).mpr ⟨r, h3, rfl⟩⟩
theorem gM {nr n : Nat} {x1 x2 : Int32} (hn : n ≤ 7) (hr : nr ≤ 4) : (¬ x1 ≤ 0 ∧ x1 >>> ((nI n) &&& 31) = 0 ∧ (¬ x2 < 0 ∧ ¬ (nI nr) - 1 < x2)) ↔ ∃ s r, isG nr n x1 x2 s r := by
  have hp : 2 ^ n < 2 ^ 31 := Nat.lt_of_le_of_lt (Nat.pow_le_pow_right (by decide) hn) (by decide)
  constructor
  · rintro ⟨h1, h2, h3⟩
    obtain ⟨r, hr2, e2⟩ := (cB (by omega)).mp h3
    have h0 : ¬ x1 < 0 := fun z => h1 (by grind)
    obtain ⟨s, hs, e1⟩ := nI_of h0
    rw [e1, i_sh hs (by omega)] at h2
    have h2 := nI_inj (b := 0) (Nat.lt_of_le_of_lt (Nat.div_le_self _ _) hs) (by omega) h2
    refine ⟨s, r, e1, e2, ?_, ?_, hr2⟩
    · rcases Nat.eq_zero_or_pos s with z | z
      · rw [e1, z] at h1
        exact absurd (by decide) h1
      · exact z
    · rcases Nat.div_eq_zero_iff.mp h2 with w | w
      · exact absurd w (Nat.pos_iff_ne_zero.mp (Nat.pow_pos (by decide)))
      · exact w
  · rintro ⟨s, r, rfl, rfl, h1, h2, h3⟩
    refine ⟨nI_nle h1 (by omega), ?_, (cB (by omega)).mpr ⟨r, h3, rfl⟩⟩
    rw [i_sh (by omega) (by omega), Nat.div_eq_of_lt h2]
    rfl
end Goal
