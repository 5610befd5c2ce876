/-! which doors to turn, whose boots, in which month -/
def bcI (x0 : Int32) : Int32 := ((((((((x0 - (((x0.toUInt32 >>> ((1 : Int32).toUInt32 &&& Int32.toUInt32 31)).toInt32) &&& 1431655765)) &&& 858993459) + ((((x0 - (((x0.toUInt32 >>> ((1 : Int32).toUInt32 &&& Int32.toUInt32 31)).toInt32) &&& 1431655765)).toUInt32 >>> ((2 : Int32).toUInt32 &&& Int32.toUInt32 31)).toInt32) &&& 858993459)) + (((((x0 - (((x0.toUInt32 >>> ((1 : Int32).toUInt32 &&& Int32.toUInt32 31)).toInt32) &&& 1431655765)) &&& 858993459) + ((((x0 - (((x0.toUInt32 >>> ((1 : Int32).toUInt32 &&& Int32.toUInt32 31)).toInt32) &&& 1431655765)).toUInt32 >>> ((2 : Int32).toUInt32 &&& Int32.toUInt32 31)).toInt32) &&& 858993459)).toUInt32 >>> ((4 : Int32).toUInt32 &&& Int32.toUInt32 31)).toInt32)) &&& 252645135) + (((((((x0 - (((x0.toUInt32 >>> ((1 : Int32).toUInt32 &&& Int32.toUInt32 31)).toInt32) &&& 1431655765)) &&& 858993459) + ((((x0 - (((x0.toUInt32 >>> ((1 : Int32).toUInt32 &&& Int32.toUInt32 31)).toInt32) &&& 1431655765)).toUInt32 >>> ((2 : Int32).toUInt32 &&& Int32.toUInt32 31)).toInt32) &&& 858993459)) + (((((x0 - (((x0.toUInt32 >>> ((1 : Int32).toUInt32 &&& Int32.toUInt32 31)).toInt32) &&& 1431655765)) &&& 858993459) + ((((x0 - (((x0.toUInt32 >>> ((1 : Int32).toUInt32 &&& Int32.toUInt32 31)).toInt32) &&& 1431655765)).toUInt32 >>> ((2 : Int32).toUInt32 &&& Int32.toUInt32 31)).toInt32) &&& 858993459)).toUInt32 >>> ((4 : Int32).toUInt32 &&& Int32.toUInt32 31)).toInt32)) &&& 252645135).toUInt32 >>> ((8 : Int32).toUInt32 &&& Int32.toUInt32 31)).toInt32)) + ((((((((x0 - (((x0.toUInt32 >>> ((1 : Int32).toUInt32 &&& Int32.toUInt32 31)).toInt32) &&& 1431655765)) &&& 858993459) + ((((x0 - (((x0.toUInt32 >>> ((1 : Int32).toUInt32 &&& Int32.toUInt32 31)).toInt32) &&& 1431655765)).toUInt32 >>> ((2 : Int32).toUInt32 &&& Int32.toUInt32 31)).toInt32) &&& 858993459)) + (((((x0 - (((x0.toUInt32 >>> ((1 : Int32).toUInt32 &&& Int32.toUInt32 31)).toInt32) &&& 1431655765)) &&& 858993459) + ((((x0 - (((x0.toUInt32 >>> ((1 : Int32).toUInt32 &&& Int32.toUInt32 31)).toInt32) &&& 1431655765)).toUInt32 >>> ((2 : Int32).toUInt32 &&& Int32.toUInt32 31)).toInt32) &&& 858993459)).toUInt32 >>> ((4 : Int32).toUInt32 &&& Int32.toUInt32 31)).toInt32)) &&& 252645135) + (((((((x0 - (((x0.toUInt32 >>> ((1 : Int32).toUInt32 &&& Int32.toUInt32 31)).toInt32) &&& 1431655765)) &&& 858993459) + ((((x0 - (((x0.toUInt32 >>> ((1 : Int32).toUInt32 &&& Int32.toUInt32 31)).toInt32) &&& 1431655765)).toUInt32 >>> ((2 : Int32).toUInt32 &&& Int32.toUInt32 31)).toInt32) &&& 858993459)) + (((((x0 - (((x0.toUInt32 >>> ((1 : Int32).toUInt32 &&& Int32.toUInt32 31)).toInt32) &&& 1431655765)) &&& 858993459) + ((((x0 - (((x0.toUInt32 >>> ((1 : Int32).toUInt32 &&& Int32.toUInt32 31)).toInt32) &&& 1431655765)).toUInt32 >>> ((2 : Int32).toUInt32 &&& Int32.toUInt32 31)).toInt32) &&& 858993459)).toUInt32 >>> ((4 : Int32).toUInt32 &&& Int32.toUInt32 31)).toInt32)) &&& 252645135).toUInt32 >>> ((8 : Int32).toUInt32 &&& Int32.toUInt32 31)).toInt32)).toUInt32 >>> ((16 : Int32).toUInt32 &&& Int32.toUInt32 31)).toInt32)) &&& 63)
def pc (t : Nat) : Nat := t % 2 + t / 2 % 2 + t / 4 % 2 + t / 8 % 2 + t / 16 % 2 + t / 32 % 2 + t / 64 % 2
theorem bc_tab : ∀ t : Fin 128, bcI (nI t.val) = nI (pc t.val) := by decide +kernel
theorem pc_tab : ∀ t : Fin 128, 0 < t.val → pc (t.val &&& (t.val - 1)) + 1 = pc t.val ∧ t.val &&& (t.val - 1) < t.val := by decide +kernel
theorem pc_le : ∀ t : Fin 128, pc t.val ≤ 7 := by decide +kernel
def wi (i : Nat) : Int32 := match i with
  | 0 => -1
  | j + 1 => nI j
theorem wi_1 (i : Nat) : wi i + 1 = wi (i + 1) := by
  match i with
  | 0 => decide
  | j + 1 => exact nI_1 j
section Turn
variable {l : Launch} {g : am_G} {σ : am_S} {nr nd n nt dn un nb nq s r : Nat} {pl : Nat → Nat} {o : Option (List Lin)}
/-- what a search in one world gives -/
def fwD (σ : am_S) (o : Option (List Lin)) (nd n s r : Nat) (pl : Nat → Nat) (tn : Nat) (wr mo : Int32) : Option Nat := fstD (gl s r) (bf0 (wld σ o nd n tn wr mo) (enc pl n))
theorem fwD_lt {d tn : Nat} {wr mo : Int32} (hH : R_H σ nr nd n pl) (h : fwD σ o nd n s r pl tn wr mo = some d) : d < 630 := fstD_lt (W := wld σ o nd n tn wr mo) (wld_ok hH.W) (a_lt hH) h
theorem c_one {d tn : Nat} {wr mo : Int32} {τ : am_S} {K1 : Int32 → am_S → Prop} (hd : 8 ≤ d) (hRR : RR σ nr nd n pl nt dn un nb nq) (hL : R_tl σ o) (ht : tn < 32) (hs : s < 2 ^ 31) (hr : r < 4) (fr : Fr SRg SAr σ τ) (hF : R_F τ)
    (H : ∀ υ, Fr SRg SAr σ υ → R_F υ → K1 (dC (fwD σ o nd n s r pl tn wr mo)) υ) : CV l g M_X6_weigh (d - 1) [.ref 14, .int mo, .int wr, .int (nI tn)] τ (fun σ1 => CI l g M_X11_fewestTo (d - 1) [.ref 0, .int (nI s), .int (nI r)] σ1 K1) := by
  have hRR1 := R_srch hRR fr hF
  refine c_weigh (by omega) hRR1.1.W (R_tl.fr fr rfl rfl hL) ht (fun υ hυ hC => ?_)
  rw [wld_fr fr rfl rfl] at hC
  have hRR2 := R_srch hRR1 (hυ.1.mono (by decide) (by decide)) (hF.fr hυ.1 rfl rfl)
  refine c_fewTo (W := wld σ o nd n tn wr mo) (by omega) hRR2.1 (wld_ok hRR.1.W) rfl hC hRR2.2.2.2.2.2.2.2.2 hs hr (fun ω fω hFω => H ω ?_ hFω)
  exact (((fr.tr hυ.1).tr fω)).mono (by decide) (by decide)
theorem m_one {d tn : Nat} {wr mo : Int32} {τ : am_S} {K2 : am_S → Prop} (hd : 8 ≤ d) (hRR : RR σ nr nd n pl nt dn un nb nq) (hL : R_tl σ o) (ht : tn < 32) (fr : Fr SRg SAr σ τ) (hF : R_F τ) (hG : ∀ c, c < 16384 → ((nI c &&& rg τ 3561 = rg τ 3562) ↔ gl s r c = true))
    (H : ∀ υ, Fr SRg SAr σ υ → R_F υ → (∀ c, c < 16384 → ((nI c &&& rg υ 3561 = rg υ 3562) ↔ gl s r c = true)) → rg υ 3563 = dM (fwD σ o nd n s r pl tn wr mo) → K2 υ) : CV l g M_X12_findMay (d - 1) [.ref 55, .int (nI tn), .int wr, .int mo] τ (fun σ1 => CV l g M_X12_findAll (d - 1) [.ref 55, .int (rg σ1 3529), .int (-1)] σ1 K2) := by
  have hRR1 := R_srch hRR fr hF
  have hW : wd_ok (wld σ o nd n tn wr mo) := wld_ok hRR.1.W
  refine m_findMay (by omega) hRR1.1.W (R_tl.fr fr rfl rfl hL) ht (fun υ fυ hM => ?_)
  rw [wld_fr fr rfl rfl] at hM
  have hRR2 := R_srch hRR1 (fυ.mono (by decide) (by decide)) (hF.fr fυ rfl rfl)
  rw [hRR2.1.2.2.2.2.2.2.2.2.2]
  refine m_allD (gr := none) (W := wld σ o nd n tn wr mo) (by omega) hW hM (fun z hz => by cases hz) (fun c hc => by rw [fυ.R 3561 rfl, fυ.R 3562 rfl]; exact hG c hc) (a_lt hRR.1) (fun ω fω e63 => ?_)
  rw [gW_none] at e63
  exact H ω (((fr.tr fυ).tr fω).mono (by decide) (by decide)) (hRR2.2.2.2.2.2.2.2.2.fr fω rfl rfl) (fun c hc => by rw [fω.R 3561 rfl, fω.R 3562 rfl, fυ.R 3561 rfl, fυ.R 3562 rfl]; exact hG c hc) e63
theorem dC_neg {o : Option Nat} (h : ∀ d, o = some d → d < 630) : (dC o < 0 ↔ o = none) := by
  cases o with
  | none => exact ⟨fun _ => rfl, fun _ => by decide⟩
  | some d => exact ⟨fun q => absurd q (nI_pos (by have := h d rfl; omega)), fun q => by cases q⟩
theorem dM_neg {o : Option Nat} (h : ∀ d, o = some d → d < 630) : (dM o < 0 ↔ o = none) := by
  cases o with
  | none => exact ⟨fun _ => rfl, fun _ => by decide⟩
  | some d => exact ⟨fun q => absurd q (nI_pos (by have := h d rfl; omega)), fun q => by cases q⟩
/-- months -/
def mth (F : Nat → Option Nat) : Nat → Nat → Int32
  | 0, _ => -2
  | k + 1, m => if F m = none then mth F k (m + 1) else nI m
theorem c_month {d : Nat} {K1 : Int32 → am_S → Prop} (hd : 9 ≤ d) (hRR : RR σ nr nd n pl nt dn un nb nq) (hL : R_tl σ o) (hs : s < 2 ^ 31) (hr : r < 4) : ∀ (k m : Nat) (τ : am_S), k + m = 25 → Fr SRg SAr σ τ → R_F τ → (∀ υ, Fr SRg SAr σ υ → R_F υ → K1 (mth (fun m => fwD σ o nd n s r pl 0 (rg σ 67) (nI m)) k m) υ) →
    JI l g M_X11_month d 13 [(0, .ref 0), (1, .int (nI s)), (2, .int (nI r)), (3, .int (nI m))] [] τ K1
  | 0, m, τ, e, fr, hF, H => by
    have e : m = 25 := by omega
    subst e
    exact b_X11_month_13 (by omega) ⟨fun _ => H τ fr hF, fun q => absurd (by decide) q⟩
  | k + 1, m, τ, e, fr, hF, H => by
    refine b_X11_month_13 (by omega) ⟨fun q => absurd ((ltn (a := 24) (by omega) (by omega)).mp q) (by omega), fun _ => ?_⟩
    rw [fr.R 67 rfl, nI_1]
    refine c_one (tn := 0) (by omega) hRR hL (by omega) hs hr fr hF (fun υ fυ hFυ => ⟨fun c => ?_, fun c => ?_⟩)
    · have c2 := (dC_neg (fun d h => fwD_lt hRR.1 h)).mp c
      refine c_month hd hRR hL hs hr k (m + 1) υ (by omega) fυ hFυ (fun ω fω hFω => ?_)
      have := H ω fω hFω
      unfold mth at this
      rw [if_pos c2] at this
      exact this
    · have c2 := fun q => c ((dC_neg (fun d h => fwD_lt hRR.1 h)).mpr q)
      have := H υ fυ hFυ
      unfold mth at this
      rw [if_neg c2] at this
      exact this
theorem m_month {d : Nat} {x1 x2 : Int32} {K1 : Int32 → am_S → Prop} (hd : 9 ≤ d) (hRR : RR σ nr nd n pl nt dn un nb nq) (hL : R_tl σ o) : ∀ (k m : Nat) (τ : am_S), k + m = 25 → Fr SRg SAr σ τ → R_F τ → (∀ c, c < 16384 → ((nI c &&& rg τ 3561 = rg τ 3562) ↔ gl s r c = true)) → (∀ υ, Fr SRg SAr σ υ → R_F υ → K1 (mth (fun m => fwD σ o nd n s r pl 0 (rg σ 67) (nI m)) k m) υ) →
    JI l g M_X12_month d 19 [(0, .ref 55), (1, .int x1), (2, .int x2), (3, .int (nI m))] [] τ K1
  | 0, m, τ, e, fr, hF, hG, H => by
    have e : m = 25 := by omega
    subst e
    exact b_X12_month_19 (by omega) ⟨fun _ => H τ fr hF, fun q => absurd (by decide) q⟩
  | k + 1, m, τ, e, fr, hF, hG, H => by
    refine b_X12_month_19 (by omega) ⟨fun q => absurd ((ltn (a := 24) (by omega) (by omega)).mp q) (by omega), fun _ => ?_⟩
    rw [fr.R 3530 rfl, hRR.1.2.2.2.2.1, nI_1]
    refine m_one (tn := 0) (by omega) hRR hL (by omega) fr hF hG (fun υ fυ hFυ hGυ e63 => ?_)
    rw [e63]
    refine ⟨fun c => ?_, fun c => ?_⟩
    · have c2 := (dM_neg (fun d h => fwD_lt hRR.1 h)).mp c
      refine m_month hd hRR hL k (m + 1) υ (by omega) fυ hFυ hGυ (fun ω fω hFω => ?_)
      have := H ω fω hFω
      unfold mth at this
      rw [if_pos c2] at this
      exact this
    · have c2 := fun q => c ((dM_neg (fun d h => fwD_lt hRR.1 h)).mpr q)
      have := H υ fυ hFυ
      unfold mth at this
      rw [if_neg c2] at this
      exact this
/-- boots -/
def bst (w : Int32) (f : Option Nat) (st : Option (Int32 × Nat)) : Option (Int32 × Nat) := match f with
  | none => st
  | some f => match st with
    | none => some (w, f)
    | some (w2, b) => if f < b then some (w, f) else some (w2, b)
def bts (F : Int32 → Option Nat) : Nat → Nat → Option (Int32 × Nat) → Option (Int32 × Nat)
  | 0, _, st => st
  | k + 1, i, st => bts F k (i + 1) (bst (wi i) (F (wi i)) st)
def bW (z : Int32) (st : Option (Int32 × Nat)) : Int32 := match st with
  | none => z
  | some (w, _) => w
def bB (z : Int32) (st : Option (Int32 × Nat)) : Int32 := match st with
  | none => z
  | some (_, b) => nI b
def bAns (x3 : Int32) (st : Option (Int32 × Nat)) : Int32 := match st with
  | none => -2
  | some (w, b) => if x3 = 0 then w else nI b
def bOk (st : Option (Int32 × Nat)) : Prop := ∀ w b, st = some (w, b) → b < 630
theorem bst_ok {w : Int32} {f : Option Nat} {st : Option (Int32 × Nat)} (h : bOk st) (hf : ∀ d, f = some d → d < 630) : bOk (bst w f st) := by
  intro w1 b1 e
  cases f with
  | none => exact h w1 b1 e
  | some f =>
    cases st with
    | none =>
      cases e
      exact hf _ rfl
    | some p =>
      obtain ⟨w2, b⟩ := p
      have e : (if f < b then some (w, f) else some (w2, b)) = some (w1, b1) := e
      split at e
      · cases e
        exact hf _ rfl
      · cases e
        exact h _ _ rfl
theorem wi_le {n i : Nat} (hn : n ≤ 7) (hi : i ≤ 20) : nI n ≤ wi i ↔ n + 1 ≤ i := by
  cases i with
  | zero =>
    constructor
    · intro h
      have h : nI n ≤ -1 := h
      have h2 := nneg (n := n) (by omega)
      exact absurd (Int32.le_trans h2 h) (by decide)
    · intro h
      exact absurd h (by omega)
  | succ j =>
    show nI n ≤ nI j ↔ _
    rw [len (by omega) (by omega)]
    omega
theorem c_boots {d : Nat} {x3 : Int32} {K1 : Int32 → am_S → Prop} (hd : 9 ≤ d) (hRR : RR σ nr nd n pl nt dn un nb nq) (hL : R_tl σ o) (hs : s < 2 ^ 31) (hr : r < 4) : ∀ (k i : Nat) (st : Option (Int32 × Nat)) (τ : am_S), k + i = n + 1 → bOk st → Fr SRg SAr σ τ → R_F τ → (∀ υ, Fr SRg SAr σ υ → R_F υ → K1 (bAns x3 (bts (fun w => fwD σ o nd n s r pl 0 w 0) k i st)) υ) →
    JI l g M_X11_boots d 31 [(0, .ref 0), (1, .int (nI s)), (2, .int (nI r)), (3, .int x3), (4, .int (bB (-2) st)), (5, .int (bW (-1) st)), (6, .int (wi i))] [] τ K1
  | 0, i, st, τ, e, ho, fr, hF, H => by
    have H3 := hRR.1.1.2.2
    refine b_X11_boots_31 (by omega) ?_
    rw [fr.R 66 rfl, hRR.1.2.2.2.1.1]
    refine ⟨fun _ => ?_, fun q => absurd ((wi_le H3 (by omega)).mpr (by omega)) q⟩
    have := H τ fr hF
    cases st with
    | none => exact ⟨fun q => absurd q (by decide), fun _ => this⟩
    | some p =>
      obtain ⟨w, b⟩ := p
      have hb := ho w b rfl
      have this : K1 (if x3 = 0 then w else nI b) τ := this
      refine ⟨fun _ => ⟨fun c => ?_, fun c => ?_⟩, fun q => absurd (nneg (n := b) (by omega)) q⟩
      · rw [if_neg c] at this
        exact this
      · rw [if_pos c] at this
        exact this
  | k + 1, i, st, τ, e, ho, fr, hF, H => by
    have H3 := hRR.1.1.2.2
    refine b_X11_boots_31 (by omega) ?_
    rw [fr.R 66 rfl, hRR.1.2.2.2.1.1, wi_1]
    refine ⟨fun q => absurd ((wi_le H3 (by omega)).mp q) (by omega), fun _ => ?_⟩
    have lt : ∀ d, fwD σ o nd n s r pl 0 (wi i) 0 = some d → d < 630 := fun d h => fwD_lt hRR.1 h
    have ih := c_boots (K1 := K1) (x3 := x3) hd hRR hL hs hr k (i + 1) (bst (wi i) (fwD σ o nd n s r pl 0 (wi i) 0) st)
    refine c_one (tn := 0) (wr := wi i) (mo := 0) (by omega) hRR hL (by omega) hs hr fr hF (fun υ fυ hFυ => ?_)
    have ih := ih υ (by omega) (bst_ok ho lt) fυ hFυ H
    revert ih lt
    generalize fwD σ o nd n s r pl 0 (wi i) 0 = f
    intro lt ih
    cases f with
    | none => exact ⟨fun _ => ih, fun q => absurd (show dC none < 0 by decide) q⟩
    | some f =>
      have hf := lt f rfl
      refine ⟨fun q => absurd q (nI_pos (by omega)), fun _ => ?_⟩
      cases st with
      | none => exact ⟨fun _ => ih, fun q => absurd (show (-2 : Int32) < 0 by decide) q⟩
      | some p =>
        obtain ⟨w, b⟩ := p
        have hb := ho w b rfl
        refine ⟨fun q => absurd q (nI_pos (n := b) (by omega)), fun _ => ⟨fun c => ?_, fun c => ?_⟩⟩
        · have c2 : ¬ f < b := by
            have := (len (a := b) (b := f) (by omega) (by omega)).mp c
            omega
          have e3 : bst (wi i) (some f) (some (w, b)) = some (w, b) := if_neg c2
          rw [e3] at ih
          exact ih
        · have c2 : f < b := by
            rcases Nat.lt_or_ge f b with z | z
            · exact z
            · exact absurd ((len (a := b) (b := f) (by omega) (by omega)).mpr z) c
          have e3 : bst (wi i) (some f) (some (w, b)) = some (wi i, f) := if_pos c2
          rw [e3] at ih
          exact ih
theorem m_boots {d : Nat} {x1 x2 x3 : Int32} {K1 : Int32 → am_S → Prop} (hd : 9 ≤ d) (hRR : RR σ nr nd n pl nt dn un nb nq) (hL : R_tl σ o) : ∀ (k i : Nat) (st : Option (Int32 × Nat)) (τ : am_S), k + i = n + 1 → bOk st → Fr SRg SAr σ τ → R_F τ → (∀ c, c < 16384 → ((nI c &&& rg τ 3561 = rg τ 3562) ↔ gl s r c = true)) → (∀ υ, Fr SRg SAr σ υ → R_F υ → K1 (bAns x3 (bts (fun w => fwD σ o nd n s r pl 0 w 0) k i st)) υ) →
    JI l g M_X12_boots d 37 [(0, .ref 55), (1, .int x1), (2, .int x2), (3, .int x3), (4, .int (bW (-2) st)), (5, .int (bB (-1) st)), (6, .int (wi i))] [] τ K1
  | 0, i, st, τ, e, ho, fr, hF, hG, H => by
    have H3 := hRR.1.1.2.2
    refine b_X12_boots_37 (by omega) ?_
    rw [fr.R 3526 rfl, hRR.1.2.2.2.1.2]
    refine ⟨fun _ => ?_, fun q => absurd ((wi_le H3 (by omega)).mpr (by omega)) q⟩
    have := H τ fr hF
    cases st with
    | none => exact ⟨fun q => absurd q (by decide), fun _ => this⟩
    | some p =>
      obtain ⟨w, b⟩ := p
      have hb := ho w b rfl
      have this : K1 (if x3 = 0 then w else nI b) τ := this
      refine ⟨fun _ => ⟨fun c => ?_, fun c => ?_⟩, fun q => absurd (nneg (n := b) (by omega)) q⟩
      · rw [if_neg c] at this
        exact this
      · rw [if_pos c] at this
        exact this
  | k + 1, i, st, τ, e, ho, fr, hF, hG, H => by
    have H3 := hRR.1.1.2.2
    refine b_X12_boots_37 (by omega) ?_
    rw [fr.R 3526 rfl, hRR.1.2.2.2.1.2, wi_1]
    refine ⟨fun q => absurd ((wi_le H3 (by omega)).mp q) (by omega), fun _ => ?_⟩
    have lt : ∀ d, fwD σ o nd n s r pl 0 (wi i) 0 = some d → d < 630 := fun d h => fwD_lt hRR.1 h
    have ih := m_boots (K1 := K1) (x1 := x1) (x2 := x2) (x3 := x3) hd hRR hL k (i + 1) (bst (wi i) (fwD σ o nd n s r pl 0 (wi i) 0) st)
    refine m_one (tn := 0) (wr := wi i) (mo := 0) (by omega) hRR hL (by omega) fr hF hG (fun υ fυ hFυ hGυ e63 => ?_)
    rw [e63]
    have ih := ih υ (by omega) (bst_ok ho lt) fυ hFυ hGυ H
    clear e63
    revert ih lt
    generalize fwD σ o nd n s r pl 0 (wi i) 0 = f
    intro lt ih
    cases f with
    | none => exact ⟨fun _ => ih, fun q => absurd (show dM none < 0 by decide) q⟩
    | some f =>
      have hf := lt f rfl
      refine ⟨fun q => absurd q (nI_pos (by omega)), fun _ => ?_⟩
      cases st with
      | none => exact ⟨fun _ => ih, fun q => absurd (show (-1 : Int32) < 0 by decide) q⟩
      | some p =>
        obtain ⟨w, b⟩ := p
        have hb := ho w b rfl
        refine ⟨fun q => absurd q (nI_pos (n := b) (by omega)), fun _ => ⟨fun c => ?_, fun c => ?_⟩⟩
        · have c2 : f < b := (ltn (a := f) (b := b) (by omega) (by omega)).mp c
          have e3 : bst (wi i) (some f) (some (w, b)) = some (wi i, f) := if_pos c2
          rw [e3] at ih
          exact ih
        · have c2 : ¬ f < b := fun z => c ((ltn (a := f) (b := b) (by omega) (by omega)).mpr z)
          have e3 : bst (wi i) (some f) (some (w, b)) = some (w, b) := if_neg c2
          rw [e3] at ih
          exact ih
/-- doors turned -/
def tr1 (F : Nat → Option Nat) (many : Nat) : Nat → Nat → Option Nat
  | 0, _ => none
  | k + 1, t => if pc t = many ∧ ¬ F t = none then some t else tr1 F many k (t + 1)
def tr2 (F : Nat → Option Nat) (sets : Nat) : Nat → Nat → Int32
  | 0, _ => -2
  | k + 1, many => match tr1 F many sets 0 with
    | some t => nI t
    | none => tr2 F sets k (many + 1)
theorem m_bits {d : Nat} {x0 : Int32} {τ : am_S} {K1 : Int32 → am_S → Prop} : ∀ (f t c : Nat), t < f → f ≤ 128 → c + pc t ≤ 100 → K1 (nI (c + pc t)) τ → JI l g M_X12_bitsOf d 4 [(0, .int x0), (1, .int (nI c)), (2, .int (nI t))] [] τ K1
  | 0, t, c, h, _, _, _ => absurd h (Nat.not_lt_zero t)
  | f + 1, t, c, h, hf, hc, H => by
    refine b_X12_bitsOf_4 ⟨fun z => ?_, fun z => ?_⟩
    · have : t = 0 := nI_inj (b := 0) (by omega) (by omega) z
      subst this
      exact H
    · have t0 : 0 < t := by
        rcases Nat.eq_zero_or_pos t with w | w
        · rw [w] at z
          exact absurd rfl z
        · exact w
      have tab := pc_tab ⟨t, by omega⟩ t0
      have tab1 : pc (t &&& (t - 1)) + 1 = pc t := tab.1
      have tab2 : t &&& (t - 1) < t := tab.2
      have e1 : nI t - 1 = nI (t - 1) := by
        have := nI_pred (t - 1)
        rw [show t - 1 + 1 = t by omega] at this
        exact this
      rw [nI_1, e1, i_and]
      refine m_bits f (t &&& (t - 1)) (c + 1) (by omega) (by omega) (by omega) ?_
      rw [show c + 1 + pc (t &&& (t - 1)) = c + pc t by omega]
      exact H
theorem m_bitsOf {d t : Nat} {τ : am_S} {K1 : Int32 → am_S → Prop} (ht : t < 128) (H : K1 (nI (pc t)) τ) : CI l g M_X12_bitsOf d [.int (nI t)] τ K1 := by
  have h7 : pc t ≤ 7 := pc_le ⟨t, ht⟩
  exact b_X12_bitsOf_0 (m_bits (t + 1) t 0 (by omega) (by omega) (by omega) (by rw [Nat.zero_add]; exact H))
theorem c_tr39 {d many : Nat} {K1 : Int32 → am_S → Prop} (hd : 9 ≤ d) (hRR : RR σ nr nd n pl nt dn un nb nq) (hL : R_tl σ o) (hs : s < 2 ^ 31) (hr : r < 4) (hm : many ≤ 20)
    (H1 : ∀ τ, Fr SRg SAr σ τ → R_F τ → tr1 (fun t => fwD σ o nd n s r pl t (rg σ 67) 0) many (2 ^ nd) 0 = none → JI l g M_X11_turn d 24 [(0, .ref 0), (1, .int (nI s)), (2, .int (nI r)), (3, .int (nI (2 ^ nd))), (4, .int (nI (many + 1)))] [] τ K1)
    (H2 : ∀ τ t, Fr SRg SAr σ τ → R_F τ → tr1 (fun t => fwD σ o nd n s r pl t (rg σ 67) 0) many (2 ^ nd) 0 = some t → K1 (nI t) τ) : ∀ (k t : Nat) (τ : am_S), k + t = 2 ^ nd → tr1 (fun t => fwD σ o nd n s r pl t (rg σ 67) 0) many (2 ^ nd) 0 = tr1 (fun t => fwD σ o nd n s r pl t (rg σ 67) 0) many k t → Fr SRg SAr σ τ → R_F τ →
    JI l g M_X11_turn d 39 [(0, .ref 0), (1, .int (nI s)), (2, .int (nI r)), (3, .int (nI (2 ^ nd))), (4, .int (nI many)), (5, .int (nI t))] [] τ K1
  | 0, t, τ, e, et, fr, hF => by
    have h32 : 2 ^ nd ≤ 32 := Nat.le_trans (Nat.pow_le_pow_right (by decide) hRR.1.1.2.1) (by decide)
    refine b_X11_turn_39 (by omega) ⟨fun _ => ?_, fun q => absurd ((len (by omega) (by omega)).mpr (by omega)) q⟩
    rw [nI_1]
    exact H1 τ fr hF et
  | k + 1, t, τ, e, et, fr, hF => by
    have h32 : 2 ^ nd ≤ 32 := Nat.le_trans (Nat.pow_le_pow_right (by decide) hRR.1.1.2.1) (by decide)
    have bc : bcI (nI t) = nI (pc t) := bc_tab ⟨t, by omega⟩
    have pl7 : pc t ≤ 7 := pc_le ⟨t, by omega⟩
    refine b_X11_turn_39 (by omega) ⟨fun q => absurd ((len (by omega) (by omega)).mp q) (by omega), fun _ => ⟨fun (c : bcI (nI t) = nI many) => ?_, fun (c : ¬ bcI (nI t) = nI many) => ?_⟩⟩
    · rw [bc] at c
      have c2 : pc t = many := nI_inj (by omega) (by omega) c
      rw [fr.R 67 rfl, nI_1 t]
      refine c_one (tn := t) (wr := rg σ 67) (mo := 0) (by omega) hRR hL (by omega) hs hr fr hF (fun υ fυ hFυ => ⟨fun z => ?_, fun z => ?_⟩)
      · have z2 := (dC_neg (fun d h => fwD_lt hRR.1 h)).mp z
        refine c_tr39 hd hRR hL hs hr hm H1 H2 k (t + 1) υ (by omega) ?_ fυ hFυ
        rw [et]
        show (if pc t = many ∧ ¬ _ = none then some t else _) = _
        rw [if_neg (fun w => w.2 z2)]
      · have z2 := fun w => z ((dC_neg (fun d h => fwD_lt hRR.1 h)).mpr w)
        refine H2 υ t fυ hFυ ?_
        rw [et]
        show (if pc t = many ∧ ¬ _ = none then some t else _) = _
        rw [if_pos ⟨c2, z2⟩]
    · rw [bc] at c
      rw [nI_1 t]
      refine c_tr39 hd hRR hL hs hr hm H1 H2 k (t + 1) τ (by omega) ?_ fr hF
      rw [et]
      show (if pc t = many ∧ ¬ _ = none then some t else _) = _
      rw [if_neg (fun w => c (by rw [w.1]))]
theorem c_tr24 {d : Nat} {K1 : Int32 → am_S → Prop} (hd : 9 ≤ d) (hRR : RR σ nr nd n pl nt dn un nb nq) (hL : R_tl σ o) (hs : s < 2 ^ 31) (hr : r < 4) : ∀ (k many : Nat) (τ : am_S), k + many = nd + 1 → Fr SRg SAr σ τ → R_F τ → (∀ υ, Fr SRg SAr σ υ → R_F υ → K1 (tr2 (fun t => fwD σ o nd n s r pl t (rg σ 67) 0) (2 ^ nd) k many) υ) →
    JI l g M_X11_turn d 24 [(0, .ref 0), (1, .int (nI s)), (2, .int (nI r)), (3, .int (nI (2 ^ nd))), (4, .int (nI many))] [] τ K1
  | 0, many, τ, e, fr, hF, H => by
    have h5 := hRR.1.1.2.1
    refine b_X11_turn_24 ?_
    rw [fr.R 65 rfl, hRR.1.2.2.1.1]
    exact ⟨fun _ => H τ fr hF, fun q => absurd ((ltn (by omega) (by omega)).mpr (by omega)) q⟩
  | k + 1, many, τ, e, fr, hF, H => by
    have h5 := hRR.1.1.2.1
    refine b_X11_turn_24 ?_
    rw [fr.R 65 rfl, hRR.1.2.2.1.1]
    refine ⟨fun q => absurd ((ltn (by omega) (by omega)).mp q) (by omega), fun _ => ?_⟩
    refine c_tr39 hd hRR hL hs hr (by omega) (fun υ fυ hFυ et => c_tr24 hd hRR hL hs hr k (many + 1) υ (by omega) fυ hFυ (fun ω fω hFω => ?_)) (fun υ t fυ hFυ et => ?_) (2 ^ nd) 0 τ (by omega) rfl fr hF
    · have := H ω fω hFω
      unfold tr2 at this
      rw [et] at this
      exact this
    · have := H υ fυ hFυ
      unfold tr2 at this
      rw [et] at this
      exact this
theorem m_tr30 {d many : Nat} {x1 x2 : Int32} {K1 : Int32 → am_S → Prop} (hd : 9 ≤ d) (hRR : RR σ nr nd n pl nt dn un nb nq) (hL : R_tl σ o) (hm : many ≤ 20)
    (H1 : ∀ τ, Fr SRg SAr σ τ → R_F τ → (∀ c, c < 16384 → ((nI c &&& rg τ 3561 = rg τ 3562) ↔ gl s r c = true)) → tr1 (fun t => fwD σ o nd n s r pl t (rg σ 67) 0) many (2 ^ nd) 0 = none → JI l g M_X12_turn d 19 [(0, .ref 55), (1, .int x1), (2, .int x2), (3, .int (nI (many + 1)))] [] τ K1)
    (H2 : ∀ τ t, Fr SRg SAr σ τ → R_F τ → tr1 (fun t => fwD σ o nd n s r pl t (rg σ 67) 0) many (2 ^ nd) 0 = some t → K1 (nI t) τ) : ∀ (k t : Nat) (τ : am_S), k + t = 2 ^ nd → tr1 (fun t => fwD σ o nd n s r pl t (rg σ 67) 0) many (2 ^ nd) 0 = tr1 (fun t => fwD σ o nd n s r pl t (rg σ 67) 0) many k t → Fr SRg SAr σ τ → R_F τ → (∀ c, c < 16384 → ((nI c &&& rg τ 3561 = rg τ 3562) ↔ gl s r c = true)) →
    JI l g M_X12_turn d 30 [(0, .ref 55), (1, .int x1), (2, .int x2), (3, .int (nI many)), (4, .int (nI t))] [] τ K1
  | 0, t, τ, e, et, fr, hF, hG => by
    have h5 := hRR.1.1.2.1
    have h32 : 2 ^ nd ≤ 32 := Nat.le_trans (Nat.pow_le_pow_right (by decide) h5) (by decide)
    refine b_X12_turn_30 (by omega) ?_
    rw [fr.R 3522 rfl, hRR.1.2.2.1.2, i_bit (by omega), nI_1]
    exact ⟨fun _ => H1 τ fr hF hG et, fun q => absurd ((len (by omega) (by omega)).mpr (by omega)) q⟩
  | k + 1, t, τ, e, et, fr, hF, hG => by
    have h5 := hRR.1.1.2.1
    have h32 : 2 ^ nd ≤ 32 := Nat.le_trans (Nat.pow_le_pow_right (by decide) h5) (by decide)
    have pl7 : pc t ≤ 7 := pc_le ⟨t, by omega⟩
    refine b_X12_turn_30 (by omega) ?_
    rw [fr.R 3522 rfl, hRR.1.2.2.1.2, i_bit (by omega), nI_1 t]
    refine ⟨fun q => absurd ((len (by omega) (by omega)).mp q) (by omega), fun _ => m_bitsOf (by omega) ⟨fun c => ?_, fun c => ?_⟩⟩
    · have c2 : pc t = many := nI_inj (by omega) (by omega) c
      rw [fr.R 3530 rfl, hRR.1.2.2.2.2.1]
      refine m_one (tn := t) (wr := rg σ 67) (mo := 0) (by omega) hRR hL (by omega) fr hF hG (fun υ fυ hFυ hGυ e63 => ?_)
      rw [e63]
      refine ⟨fun z => ?_, fun z => ?_⟩
      · have z2 := (dM_neg (fun d h => fwD_lt hRR.1 h)).mp z
        refine m_tr30 hd hRR hL hm H1 H2 k (t + 1) υ (by omega) ?_ fυ hFυ hGυ
        rw [et]
        show (if pc t = many ∧ ¬ _ = none then some t else _) = _
        rw [if_neg (fun w => w.2 z2)]
      · have z2 := fun w => z ((dM_neg (fun d h => fwD_lt hRR.1 h)).mpr w)
        refine H2 υ t fυ hFυ ?_
        rw [et]
        show (if pc t = many ∧ ¬ _ = none then some t else _) = _
        rw [if_pos ⟨c2, z2⟩]
    · refine m_tr30 hd hRR hL hm H1 H2 k (t + 1) τ (by omega) ?_ fr hF hG
      rw [et]
      show (if pc t = many ∧ ¬ _ = none then some t else _) = _
      rw [if_neg (fun w => c (by rw [w.1]))]
theorem m_tr19 {d : Nat} {x1 x2 : Int32} {K1 : Int32 → am_S → Prop} (hd : 9 ≤ d) (hRR : RR σ nr nd n pl nt dn un nb nq) (hL : R_tl σ o) : ∀ (k many : Nat) (τ : am_S), k + many = nd + 1 → Fr SRg SAr σ τ → R_F τ → (∀ c, c < 16384 → ((nI c &&& rg τ 3561 = rg τ 3562) ↔ gl s r c = true)) → (∀ υ, Fr SRg SAr σ υ → R_F υ → K1 (tr2 (fun t => fwD σ o nd n s r pl t (rg σ 67) 0) (2 ^ nd) k many) υ) →
    JI l g M_X12_turn d 19 [(0, .ref 55), (1, .int x1), (2, .int x2), (3, .int (nI many))] [] τ K1
  | 0, many, τ, e, fr, hF, hG, H => by
    have h5 := hRR.1.1.2.1
    refine b_X12_turn_19 ?_
    rw [fr.R 3522 rfl, hRR.1.2.2.1.2]
    exact ⟨fun _ => H τ fr hF, fun q => absurd ((ltn (by omega) (by omega)).mpr (by omega)) q⟩
  | k + 1, many, τ, e, fr, hF, hG, H => by
    have h5 := hRR.1.1.2.1
    refine b_X12_turn_19 ?_
    rw [fr.R 3522 rfl, hRR.1.2.2.1.2]
    refine ⟨fun q => absurd ((ltn (by omega) (by omega)).mp q) (by omega), fun _ => ?_⟩
    refine m_tr30 hd hRR hL (by omega) (fun υ fυ hFυ hGυ et => m_tr19 hd hRR hL k (many + 1) υ (by omega) fυ hFυ hGυ (fun ω fω hFω => ?_)) (fun υ t fυ hFυ et => ?_) (2 ^ nd) 0 τ (by omega) rfl fr hF hG
    · have := H ω fω hFω
      unfold tr2 at this
      rw [et] at this
      exact this
    · have := H υ fυ hFυ
      unfold tr2 at this
      rw [et] at this
      exact this
end Turn
section PTurn
variable {l : Launch} {g : am_G} {d : Nat} {σ : am_S}
theorem P_month (hd : 300 ≤ d) (hR : R σ) (x1 : Int32) (x2 : Int32) : PP l g d M_X11_month M_X12_month [.int x1, .int x2] σ := by
  intro K hk
  have old := hR
  obtain ⟨nr, nd, n, pl, nt, dn, un, nb, nq, hRR⟩ := hR
  have hH := hRR.1
  have hF := hRR.2.2.2.2.2.2.2.2
  obtain ⟨o, hL⟩ := R_tl_of hRR.2.2.2.2.2.2.2.1
  obtain ⟨H1, H2, H3⟩ := hH.1
  have rf : Fr SRg SAr σ σ := Fr.rf.mono (by simp) (by simp)
  refine b_X11_month_0 (by omega) ?_
  rw [hH.2.2.2.1.1, hH.2.1.1]
  refine ⟨fun c1 => ?_, fun c1 => ?_⟩
  · obtain ⟨s, r, hg⟩ := (gC H3 H1).mp c1
    obtain ⟨e1, e2, hs0, hsn, hrr⟩ := id hg
    have s31 : s < 2 ^ 31 := Nat.lt_of_lt_of_le hsn (Nat.pow_le_pow_right (by decide) (by omega))
    have gm := (gM H3 H1).mpr ⟨s, r, hg⟩
    rw [e1, e2] at gm ⊢
    refine c_month (by omega) hRR hL s31 (by omega) 25 0 σ rfl rf hF (fun υ fr hFυ => ?_)
    have hRR2 := R_srch hRR fr hFυ
    refine b_X12_month_0 (by omega) ?_
    rw [hRR2.1.2.2.2.1.2, hRR2.1.2.1.2]
    refine ⟨fun _ => ?_, fun z => absurd gm z⟩
    refine m_goal hRR2.1.2.2.2.1.2 H3 hsn (by omega) (fun ψ fψ hG => ?_)
    refine m_month (by omega) hRR hL 25 0 ψ rfl ((fr.tr fψ).mono (by decide) (by decide)) (hFυ.fr fψ rfl rfl) hG (fun ω fω hFω => ?_)
    exact hk _ _ (R_srch hRR fω hFω).R
  · refine b_X12_month_0 (by omega) ?_
    rw [hH.2.2.2.1.2, hH.2.1.2]
    exact ⟨fun c2 => absurd ((gC H3 H1).mpr ((gM H3 H1).mp c2)) c1, fun _ => hk _ _ old⟩
theorem P_turn (hd : 300 ≤ d) (hR : R σ) (x1 : Int32) (x2 : Int32) : PP l g d M_X11_turn M_X12_turn [.int x1, .int x2] σ := by
  intro K hk
  have old := hR
  obtain ⟨nr, nd, n, pl, nt, dn, un, nb, nq, hRR⟩ := hR
  have hH := hRR.1
  have hF := hRR.2.2.2.2.2.2.2.2
  obtain ⟨o, hL⟩ := R_tl_of hRR.2.2.2.2.2.2.2.1
  obtain ⟨H1, H2, H3⟩ := hH.1
  have rf : Fr SRg SAr σ σ := Fr.rf.mono (by simp) (by simp)
  refine b_X11_turn_0 (by omega) ?_
  rw [hH.2.2.2.1.1, hH.2.1.1]
  refine ⟨fun c1 => ?_, fun c1 => ?_⟩
  · obtain ⟨s, r, hg⟩ := (gC H3 H1).mp c1
    obtain ⟨e1, e2, hs0, hsn, hrr⟩ := id hg
    have s31 : s < 2 ^ 31 := Nat.lt_of_lt_of_le hsn (Nat.pow_le_pow_right (by decide) (by omega))
    have gm := (gM H3 H1).mpr ⟨s, r, hg⟩
    rw [e1, e2] at gm ⊢
    rw [hH.2.2.1.1, i_bit (by omega)]
    refine c_tr24 (by omega) hRR hL s31 (by omega) (nd + 1) 0 σ rfl rf hF (fun υ fr hFυ => ?_)
    have hRR2 := R_srch hRR fr hFυ
    refine b_X12_turn_0 (by omega) ?_
    rw [hRR2.1.2.2.2.1.2, hRR2.1.2.1.2]
    refine ⟨fun _ => ?_, fun z => absurd gm z⟩
    refine m_goal hRR2.1.2.2.2.1.2 H3 hsn (by omega) (fun ψ fψ hG => ?_)
    refine m_tr19 (by omega) hRR hL (nd + 1) 0 ψ rfl ((fr.tr fψ).mono (by decide) (by decide)) (hFυ.fr fψ rfl rfl) hG (fun ω fω hFω => ?_)
    exact hk _ _ (R_srch hRR fω hFω).R
  · refine b_X12_turn_0 (by omega) ?_
    rw [hH.2.2.2.1.2, hH.2.1.2]
    exact ⟨fun c2 => absurd ((gC H3 H1).mpr ((gM H3 H1).mp c2)) c1, fun _ => hk _ _ old⟩
theorem P_boots (hd : 300 ≤ d) (hR : R σ) (x1 : Int32) (x2 : Int32) (x3 : Int32) : PP l g d M_X11_boots M_X12_boots [.int x1, .int x2, .int x3] σ := by
  intro K hk
  have old := hR
  obtain ⟨nr, nd, n, pl, nt, dn, un, nb, nq, hRR⟩ := hR
  have hH := hRR.1
  have hF := hRR.2.2.2.2.2.2.2.2
  obtain ⟨o, hL⟩ := R_tl_of hRR.2.2.2.2.2.2.2.1
  obtain ⟨H1, H2, H3⟩ := hH.1
  have rf : Fr SRg SAr σ σ := Fr.rf.mono (by simp) (by simp)
  refine b_X11_boots_0 (by omega) ?_
  rw [hH.2.2.2.1.1, hH.2.1.1]
  have c01 : (¬ x3 < 0 ∧ ¬ 1 < x3) ↔ (¬ x3 < 0 ∧ x3 ≤ 1) := by grind
  have bad : (¬ ((∃ s r, isG nr n x1 x2 s r) ∧ (¬ x3 < 0 ∧ x3 ≤ 1))) → CI l g M_X12_boots d [.ref 55, .int x1, .int x2, .int x3] σ (fun r2 σ2 => K (-2000000000) r2 σ2) := by
    intro hno
    refine b_X12_boots_0 (by omega) ?_
    rw [hH.2.2.2.1.2, hH.2.1.2]
    exact ⟨fun c1 => ⟨fun c2 => absurd ⟨(gM H3 H1).mp c1, c01.mp c2⟩ hno, fun _ => hk _ _ old⟩, fun _ => hk _ _ old⟩
  refine ⟨fun c1 => ⟨fun c2 => bad (fun q => q.2.1 c2), fun c2 => ⟨fun c3 => ?_, fun c3 => bad (fun q => c3 q.2.2)⟩⟩, fun c1 => bad (fun q => c1 ((gC H3 H1).mpr q.1))⟩
  obtain ⟨s, r, hg⟩ := (gC H3 H1).mp c1
  obtain ⟨e1, e2, hs0, hsn, hrr⟩ := id hg
  have s31 : s < 2 ^ 31 := Nat.lt_of_lt_of_le hsn (Nat.pow_le_pow_right (by decide) (by omega))
  have gm := (gM H3 H1).mpr ⟨s, r, hg⟩
  rw [e1, e2] at gm ⊢
  refine c_boots (by omega) hRR hL s31 (by omega) (n + 1) 0 none σ rfl (fun w b e => by cases e) rf hF (fun υ fr hFυ => ?_)
  have hRR2 := R_srch hRR fr hFυ
  refine b_X12_boots_0 (by omega) ?_
  rw [hRR2.1.2.2.2.1.2, hRR2.1.2.1.2]
  refine ⟨fun _ => ⟨fun _ => ?_, fun z => absurd (c01.mpr ⟨c2, c3⟩) z⟩, fun z => absurd gm z⟩
  refine m_goal hRR2.1.2.2.2.1.2 H3 hsn (by omega) (fun ψ fψ hG => ?_)
  refine m_boots (by omega) hRR hL (n + 1) 0 none ψ rfl (fun w b e => by cases e) ((fr.tr fψ).mono (by decide) (by decide)) (hFυ.fr fψ rfl rfl) hG (fun ω fω hFω => ?_)
  exact hk _ _ (R_srch hRR fω hFω).R
end PTurn
