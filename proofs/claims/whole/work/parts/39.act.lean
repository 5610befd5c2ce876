/-! act -/
def nt1 (r a : Nat) (σ : am_S) (v : Int32) : am_S := if 24 ≤ rg σ r then sR σ r (rg σ r + 1) else sR (sA σ a (rg σ r).toNatClampNeg v) r (rg σ r + 1)
def ntF (r a : Nat) (σ : am_S) (ts : List Int32) : am_S := ts.foldl (nt1 r a) σ
theorem nt1_fr {r a : Nat} {σ : am_S} {v : Int32} : Fr [r] [a] σ (nt1 r a σ v) := by
  unfold nt1
  split
  · exact Fr.rf.wR.mono (by simp) (by simp)
  · exact Fr.rf.wA.wR.mono (by simp) (by simp)
theorem ntF_fr {r a : Nat} : ∀ {ts : List Int32} {σ : am_S}, Fr [r] [a] σ (ntF r a σ ts)
  | [], _ => Fr.rf.mono (by simp) (by simp)
  | v :: ts, σ => (nt1_fr.tr (ntF_fr (ts := ts) (σ := nt1 r a σ v))).mono (by simp) (by simp)
theorem nt1_rg {r a q : Nat} {σ : am_S} {v : Int32} (h : rg σ r = nI q) : rg (nt1 r a σ v) r = nI (q + 1) := by
  unfold nt1
  split
  · rw [rg_sR, if_pos rfl, h, nI_1]
  · rw [rg_sR, if_pos rfl, h, nI_1]
theorem ntF_rg {r a : Nat} : ∀ {ts : List Int32} {q : Nat} {σ : am_S}, rg σ r = nI q → rg (ntF r a σ ts) r = nI (q + ts.length)
  | [], _, _, h => h
  | v :: ts, q, σ, h => by
    have := ntF_rg (a := a) (ts := ts) (nt1_rg (a := a) (v := v) h)
    rw [List.length_cons, show q + (ts.length + 1) = q + 1 + ts.length by omega]
    exact this
theorem ntF_app {r a : Nat} {σ : am_S} {t1 t2 : List Int32} : ntF r a σ (t1 ++ t2) = ntF r a (ntF r a σ t1) t2 := by
  unfold ntF
  rw [List.foldl_append]
theorem nt1_ar {r a q j : Nat} {σ : am_S} {v : Int32} (h : rg σ r = nI q) (hq : q ≤ 1000) (hj : j < 24) : ar (nt1 r a σ v) a j = if j = q then v else ar σ a j := by
  unfold nt1
  rw [h]
  by_cases c : 24 ≤ q
  · have c2 : (24 : Int32) ≤ nI q := (len (a := 24) (by omega) (by omega)).mpr c
    rw [if_pos c2, ar_sR, if_neg (by omega)]
  · have c2 : ¬ (24 : Int32) ≤ nI q := fun w => c ((len (a := 24) (by omega) (by omega)).mp w)
    rw [if_neg c2, ar_sR, ar_sA, nI_clamp (by omega)]
    by_cases e : j = q
    · rw [if_pos ⟨rfl, e⟩, if_pos e]
    · rw [if_neg (fun w => e w.2), if_neg e]
theorem ntF_ar {r a j : Nat} (hj : j < 24) : ∀ {ts : List Int32} {q : Nat} {σ : am_S}, rg σ r = nI q → q + ts.length ≤ 1000 → ar (ntF r a σ ts) a j = if q ≤ j ∧ j < q + ts.length then ts.getD (j - q) 0 else ar σ a j
  | [], q, σ, h, hl => by
    rw [if_neg (fun w => by have := w.2; simp at this; omega)]
    rfl
  | v :: ts, q, σ, h, hl => by
    rw [List.length_cons] at hl ⊢
    have := ntF_ar hj (a := a) (ts := ts) (nt1_rg (a := a) (v := v) h) (by omega)
    show ar (ntF r a (nt1 r a σ v) ts) a j = _
    rw [this, nt1_ar h (by omega) hj]
    by_cases e : j = q
    · rw [if_neg (by omega), if_pos e, if_pos (by omega), e, Nat.sub_self]
      rfl
    · rw [if_neg e]
      by_cases c : q + 1 ≤ j ∧ j < q + 1 + ts.length
      · rw [if_pos c, if_pos (by omega), show j - q = (j - (q + 1)) + 1 by omega]
        rfl
      · rw [if_neg c, if_neg (by omega)]
abbrev WT : Type := Int32 × List Int32
def wPL (s x : Int32) : WT := (x + s, [1])
def wTL (s x : Int32) : WT := ((wPL s x).1 * 2, 70 :: (wPL s x).2)
def wL (sk : Nat) (s x : Int32) : WT := if undB sk 1 = true then ((wPL s x).1 + 3, 20 :: (wPL s x).2) else if sk = 7 then ((wTL s x).1 - 1, 81 :: (wTL s x).2) else if sk = 6 then wTL s x else wPL s x
def wPB (sk : Nat) (s x : Int32) : WT := ((wL sk s x).1 * 2, 10 :: (wL sk s x).2)
def wDB (sk : Nat) (s x : Int32) : WT := (-(wPB sk s x).1, 30 :: (wPB sk s x).2)
def wPT (s x : Int32) : WT := (x ^^^ s, [11])
def wAT (s x : Int32) : WT := ((wPT s x).1 * 3, 40 :: (wPT s x).2)
def wT (sk : Nat) (s x : Int32) : WT := if sk = 5 then ((wAT s x).1 - (wL sk s 2).1, 60 :: ((wAT s x).2 ++ (wL sk s 2).2)) else if sk = 3 then wAT s x else wPT s x
def wB (sk : Nat) (s x : Int32) : WT := if undB sk 3 = true then ((wDB sk s (x + 1)).1, 41 :: (wDB sk s (x + 1)).2) else if sk = 7 then ((wPB sk s x).1 + (wT sk s 2).1, 80 :: ((wPB sk s x).2 ++ (wT sk s 2).2)) else if sk = 2 then wDB sk s x else wPB sk s x
def wPE (sk : Nat) (s x : Int32) : WT := ((wB sk s x).1 - (wT sk s 1).1, 2 :: ((wB sk s x).2 ++ (wT sk s 1).2))
def wE (sk : Nat) (s x : Int32) : WT := if sk = 4 then ((wPE sk s x).1 ^^^ 5, 50 :: (wPE sk s x).2) else if sk = 5 then ((wPE sk s x).1 + 1, 61 :: (wPE sk s x).2) else wPE sk s x
section Act
variable {l : Launch} {g : am_G}
theorem m_ran {d q : Nat} {σ : am_S} {v : Int32} {k : am_S → Prop} (h : rg σ 3571 = nI q) (hq : q ≤ 1000) (H : k (nt1 3571 80 σ v)) : CV l g M_X12_ran d [.ref 55, .int v] σ k := by
  refine b_X12_ran_0 ?_
  unfold nt1 at H
  rw [h] at H ⊢
  refine ⟨fun c => ?_, fun c => ?_⟩
  · rw [if_pos c] at H
    exact H
  · rw [if_neg c] at H
    have : q < 24 := by
      rcases Nat.lt_or_ge q 24 with e | e
      · exact e
      · exact absurd ((len (a := 24) (by omega) (by omega)).mpr e) c
    exact ⟨vp_in_nI (by omega) (by omega), H⟩
def McM (l : Launch) (g : am_G) (M : am_M) (p sk D : Nat) (w : Int32 → WT) : Prop := ∀ (d : Nat) (σ : am_S) (q : Nat) (x : Int32) (k : Int32 → am_S → Prop), D ≤ d → ar σ 79 p = nI sk → rg σ 3571 = nI q → q + (w x).2.length ≤ 1000 → k (w x).1 (ntF 3571 80 σ (w x).2) → CI l g M d [.ref 55, .int (nI p), .int x] σ k
theorem nt79 {σ : am_S} {v : Int32} {p sk : Nat} (h : ar σ 79 p = nI sk) : ar (nt1 3571 80 σ v) 79 p = nI sk := by rw [nt1_fr.A 79 rfl]; exact h
theorem ntF79 {σ : am_S} {ts : List Int32} {p sk : Nat} (h : ar σ 79 p = nI sk) : ar (ntF 3571 80 σ ts) 79 p = nI sk := by rw [ntF_fr.A 79 rfl]; exact h
theorem k_eq {sk : Nat} (h : sk < 8) (m : Nat) (hm : m < 100) : nI sk = nI m ↔ sk = m := eqn (by omega) (by omega)
variable {p sk : Nat}
theorem m_PL : McM l g M_X12_plainLets p sk 5 (wPL (nI p)) := fun d σ q x k hd h79 hq hl H => b_X12_plainLets_0 (by omega) (m_ran hq (by omega) H)
theorem m_TL : McM l g M_X12_toldLets p sk 6 (wTL (nI p)) := fun d σ q x k hd h79 hq hl H => by
  have hl2 : q + ((wPL (nI p) x).2.length + 1) ≤ 1000 := hl
  exact b_X12_toldLets_0 (by omega) (m_ran hq (by omega) (m_PL (sk := sk) _ _ (q + 1) x _ (by omega) (nt79 h79) (nt1_rg hq) (by omega) H))
theorem m_PT : McM l g M_X12_plainTurns p sk 5 (wPT (nI p)) := fun d σ q x k hd h79 hq hl H => b_X12_plainTurns_0 (by omega) (m_ran hq (by omega) H)
theorem m_AT : McM l g M_X12_alikeTurns p sk 6 (wAT (nI p)) := fun d σ q x k hd h79 hq hl H => by
  have hl2 : q + ((wPT (nI p) x).2.length + 1) ≤ 1000 := hl
  exact b_X12_alikeTurns_0 (by omega) (m_ran hq (by omega) (m_PT (sk := sk) _ _ (q + 1) x _ (by omega) (nt79 h79) (nt1_rg hq) (by omega) H))
theorem m_L (hp : p < 50) (hs : sk < 8) : McM l g M_X12_letting p sk 8 (wL sk (nI p)) := fun d σ q x k hd h79 hq hl H => by
  refine b_X12_letting_0 (by omega) ?_
  have z : vp_in (nI p) 50 := vp_in_nI hp (by omega)
  have cl : (nI p).toNatClampNeg = p := nI_clamp (by omega)
  rw [cl, h79]
  refine ⟨z, c_isUnderM (b := 1) hs (by omega) (fun u => ⟨fun w => absurd w (by decide), fun _ => ?_⟩) (fun u => ⟨fun _ => ⟨z, ?_⟩, fun w => absurd rfl w⟩)⟩
  · rw [show wL sk (nI p) x = _ from if_pos u] at H hl
    have hl2 : q + ((wPL (nI p) x).2.length + 1) ≤ 1000 := hl
    exact m_ran hq (by omega) (m_PL (sk := sk) _ _ (q + 1) x _ (by omega) (nt79 h79) (nt1_rg hq) (by omega) H)
  · rw [h79]
    rw [show wL sk (nI p) x = _ from if_neg (by rw [u]; decide)] at H hl
    refine ⟨fun n7 => ⟨z, fun n6 => ?_, fun n6 => ?_⟩, fun e7 => ?_⟩
    · have a7 : ¬ sk = 7 := fun w => n7 (by rw [w]; rfl)
      have a6 : ¬ sk = 6 := fun w => n6 (by rw [w]; rfl)
      rw [if_neg a7, if_neg a6] at H hl
      exact m_PL (sk := sk) _ _ q x _ (by omega) h79 hq (by omega) H
    · have a7 : ¬ sk = 7 := fun w => n7 (by rw [w]; rfl)
      have a6 : sk = 6 := nI_inj (b := 6) (by omega) (by omega) n6
      rw [if_neg a7, if_pos a6] at H hl
      exact m_TL (sk := sk) _ _ q x _ (by omega) h79 hq (by omega) H
    · have a7 : sk = 7 := nI_inj (b := 7) (by omega) (by omega) e7
      rw [if_pos a7] at H hl
      have hl2 : q + ((wTL (nI p) x).2.length + 1) ≤ 1000 := hl
      exact m_ran hq (by omega) (m_TL (sk := sk) _ _ (q + 1) x _ (by omega) (nt79 h79) (nt1_rg hq) (by omega) H)
theorem m_PB (hp : p < 50) (hs : sk < 8) : McM l g M_X12_plainBars p sk 10 (wPB sk (nI p)) := fun d σ q x k hd h79 hq hl H => by
  have hl2 : q + ((wL sk (nI p) x).2.length + 1) ≤ 1000 := hl
  exact b_X12_plainBars_0 (by omega) (m_ran hq (by omega) (m_L hp hs _ _ (q + 1) x _ (by omega) (nt79 h79) (nt1_rg hq) (by omega) H))
theorem m_DB (hp : p < 50) (hs : sk < 8) : McM l g M_X12_downBars p sk 12 (wDB sk (nI p)) := fun d σ q x k hd h79 hq hl H => by
  have hl2 : q + ((wPB sk (nI p) x).2.length + 1) ≤ 1000 := hl
  exact b_X12_downBars_0 (by omega) (m_ran hq (by omega) (m_PB hp hs _ _ (q + 1) x _ (by omega) (nt79 h79) (nt1_rg hq) (by omega) H))
theorem m_T (hp : p < 50) (hs : sk < 8) : McM l g M_X12_turning p sk 12 (wT sk (nI p)) := fun d σ q x k hd h79 hq hl H => by
  refine b_X12_turning_0 (by omega) ?_
  have z : vp_in (nI p) 50 := vp_in_nI hp (by omega)
  have cl : (nI p).toNatClampNeg = p := nI_clamp (by omega)
  rw [cl, h79]
  refine ⟨z, fun n5 => ⟨z, fun n3 => ?_, fun n3 => ?_⟩, fun e5 => ?_⟩
  · have a5 : ¬ sk = 5 := fun w => n5 (by rw [w]; rfl)
    have a3 : ¬ sk = 3 := fun w => n3 (by rw [w]; rfl)
    rw [show wT sk (nI p) x = _ from if_neg a5, if_neg a3] at H hl
    exact m_PT (sk := sk) _ _ q x _ (by omega) h79 hq (by omega) H
  · have a5 : ¬ sk = 5 := fun w => n5 (by rw [w]; rfl)
    have a3 : sk = 3 := nI_inj (b := 3) (by omega) (by omega) n3
    rw [show wT sk (nI p) x = _ from if_neg a5, if_pos a3] at H hl
    exact m_AT (sk := sk) _ _ q x _ (by omega) h79 hq (by omega) H
  · have a5 : sk = 5 := nI_inj (b := 5) (by omega) (by omega) e5
    rw [show wT sk (nI p) x = _ from if_pos a5] at H hl
    have hl2 : q + (((wAT (nI p) x).2 ++ (wL sk (nI p) 2).2).length + 1) ≤ 1000 := hl
    rw [List.length_append] at hl2
    refine m_ran hq (by omega) (m_AT (sk := sk) _ _ (q + 1) x _ (by omega) (nt79 h79) (nt1_rg hq) (by omega) ?_)
    refine m_L hp hs _ _ (q + 1 + (wAT (nI p) x).2.length) 2 _ (by omega) (ntF79 (nt79 h79)) (ntF_rg (nt1_rg hq)) (by omega) ?_
    rw [← ntF_app]
    exact H
theorem m_B (hp : p < 50) (hs : sk < 8) : McM l g M_X12_barring p sk 14 (wB sk (nI p)) := fun d σ q x k hd h79 hq hl H => by
  refine b_X12_barring_0 (by omega) ?_
  have z : vp_in (nI p) 50 := vp_in_nI hp (by omega)
  have cl : (nI p).toNatClampNeg = p := nI_clamp (by omega)
  rw [cl, h79]
  refine ⟨z, c_isUnderM (b := 3) hs (by omega) (fun u => ⟨fun w => absurd w (by decide), fun _ => ?_⟩) (fun u => ⟨fun _ => ⟨z, ?_⟩, fun w => absurd rfl w⟩)⟩
  · rw [show wB sk (nI p) x = _ from if_pos u] at H hl
    have hl2 : q + ((wDB sk (nI p) (x + 1)).2.length + 1) ≤ 1000 := hl
    exact m_ran hq (by omega) (m_DB hp hs _ _ (q + 1) (x + 1) _ (by omega) (nt79 h79) (nt1_rg hq) (by omega) H)
  · rw [h79]
    rw [show wB sk (nI p) x = _ from if_neg (by rw [u]; decide)] at H hl
    refine ⟨fun n7 => ⟨z, fun n6 => ?_, fun n6 => ?_⟩, fun e7 => ?_⟩
    · have a7 : ¬ sk = 7 := fun w => n7 (by rw [w]; rfl)
      have a6 : ¬ sk = 2 := fun w => n6 (by rw [w]; rfl)
      rw [if_neg a7, if_neg a6] at H hl
      exact m_PB hp hs _ _ q x _ (by omega) h79 hq (by omega) H
    · have a7 : ¬ sk = 7 := fun w => n7 (by rw [w]; rfl)
      have a6 : sk = 2 := nI_inj (b := 2) (by omega) (by omega) n6
      rw [if_neg a7, if_pos a6] at H hl
      exact m_DB hp hs _ _ q x _ (by omega) h79 hq (by omega) H
    · have a7 : sk = 7 := nI_inj (b := 7) (by omega) (by omega) e7
      rw [if_pos a7] at H hl
      have hl2 : q + (((wPB sk (nI p) x).2 ++ (wT sk (nI p) 2).2).length + 1) ≤ 1000 := hl
      rw [List.length_append] at hl2
      refine m_ran hq (by omega) (m_PB hp hs _ _ (q + 1) x _ (by omega) (nt79 h79) (nt1_rg hq) (by omega) ?_)
      refine m_T hp hs _ _ (q + 1 + (wPB sk (nI p) x).2.length) 2 _ (by omega) (ntF79 (nt79 h79)) (ntF_rg (nt1_rg hq)) (by omega) ?_
      rw [← ntF_app]
      exact H
theorem m_PE (hp : p < 50) (hs : sk < 8) : McM l g M_X12_plainTells p sk 16 (wPE sk (nI p)) := fun d σ q x k hd h79 hq hl H => by
  have hl2 : q + (((wB sk (nI p) x).2 ++ (wT sk (nI p) 1).2).length + 1) ≤ 1000 := hl
  rw [List.length_append] at hl2
  refine b_X12_plainTells_0 (by omega) (m_ran hq (by omega) (m_B hp hs _ _ (q + 1) x _ (by omega) (nt79 h79) (nt1_rg hq) (by omega) ?_))
  refine m_T hp hs _ _ (q + 1 + (wB sk (nI p) x).2.length) 1 _ (by omega) (ntF79 (nt79 h79)) (ntF_rg (nt1_rg hq)) (by omega) ?_
  rw [← ntF_app]
  exact H
theorem m_E (hp : p < 50) (hs : sk < 8) : McM l g M_X12_telling p sk 18 (wE sk (nI p)) := fun d σ q x k hd h79 hq hl H => by
  refine b_X12_telling_0 (by omega) ?_
  have z : vp_in (nI p) 50 := vp_in_nI hp (by omega)
  have cl : (nI p).toNatClampNeg = p := nI_clamp (by omega)
  rw [cl, h79]
  refine ⟨z, fun n4 => ⟨z, fun n5 => ?_, fun n5 => ?_⟩, fun e4 => ?_⟩
  · have a4 : ¬ sk = 4 := fun w => n4 (by rw [w]; rfl)
    have a5 : ¬ sk = 5 := fun w => n5 (by rw [w]; rfl)
    rw [show wE sk (nI p) x = _ from if_neg a4, if_neg a5] at H hl
    exact m_PE hp hs _ _ q x _ (by omega) h79 hq (by omega) H
  · have a4 : ¬ sk = 4 := fun w => n4 (by rw [w]; rfl)
    have a5 : sk = 5 := nI_inj (b := 5) (by omega) (by omega) n5
    rw [show wE sk (nI p) x = _ from if_neg a4, if_pos a5] at H hl
    have hl2 : q + ((wPE sk (nI p) x).2.length + 1) ≤ 1000 := hl
    exact m_ran hq (by omega) (m_PE hp hs _ _ (q + 1) x _ (by omega) (nt79 h79) (nt1_rg hq) (by omega) H)
  · have a4 : sk = 4 := nI_inj (b := 4) (by omega) (by omega) e4
    rw [show wE sk (nI p) x = _ from if_pos a4] at H hl
    have hl2 : q + ((wPE sk (nI p) x).2.length + 1) ≤ 1000 := hl
    exact m_ran hq (by omega) (m_PE hp hs _ _ (q + 1) x _ (by omega) (nt79 h79) (nt1_rg hq) (by omega) H)
end Act
