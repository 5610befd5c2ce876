/-! a text of lines; the class -/
def FU : Nat := 2000
theorem FU_ge : 1300 ≤ FU := by decide
def gline (b : Nat → Int32) (n a : Nat) : Option ((Nat × Lin) ⊕ Nat) := match par b n FU (.inl 0) 0 a with
  | none => none
  | some (.inr p) => some (.inr p)
  | some (.inl (a1, t)) => if gx b n a1 = 63 then
      match par b n FU (.inl 0) 0 (a1 + 1) with
      | none => none
      | some (.inr p) => some (.inr p)
      | some (.inl (a2, t2)) => some (.inl (a2, (t, t2)))
    else some (.inl (a1, ([], t)))
def gtext (b : Nat → Int32) (n : Nat) : Nat → Nat → Option (List Lin ⊕ Nat)
  | 0, _ => none
  | f + 1, a => match gline b n a with
    | none => none
    | some (.inr p) => some (.inr p)
    | some (.inl (a1, q)) => if gx b n a1 = 59 then
        match gtext b n f (a1 + 1) with
        | none => none
        | some (.inr p) => some (.inr p)
        | some (.inl ls) => some (.inl (q :: ls))
      else if a1 < n then some (.inr a1) else some (.inl [q])
section Text
variable {l : Launch} {g : am_G} {b : Nat → Int32} {n : Nat} {σ0 : am_S}
def wfL (q : Lin) : Prop := (q.1 = [] ∨ tk_wf q.1) ∧ tk_wf q.2
theorem One.ne {ts : List Tok} (h : One ts) : ts ≠ [] := by
  intro e
  have := h.wf.2
  rw [e] at this
  exact absurd this (by decide)
/-- a line: how far it goes, and how many tokens -/
theorem gline_good {a : Nat} {r : (Nat × Lin) ⊕ Nat} (ha : a ≤ n) (h : gline b n a = some r) : match r with
    | .inr p => a ≤ p ∧ p ≤ n
    | .inl (a1, q) => a < a1 ∧ a1 ≤ n ∧ wfL q ∧ (ln_C q).length ≤ a1 - a + 1 ∧ (ln_M q).length ≤ a1 - a := by
  unfold gline at h
  rcases e : par b n FU (.inl 0) 0 a with _ | ⟨a1, t⟩ | p
  · rw [e] at h
    cases h
  · rw [e] at h
    dsimp only at h
    obtain ⟨g1, g2, g3, g4⟩ := par_good FU (.inl 0) 0 a _ ha trivial e
    by_cases c : gx b n a1 = 63
    · rw [if_pos c] at h
      have hlt : a1 < n := gx_lt (by rw [c]; decide)
      rcases e2 : par b n FU (.inl 0) 0 (a1 + 1) with _ | ⟨a2, t2⟩ | p
      · rw [e2] at h
        cases h
      · rw [e2] at h
        cases h
        obtain ⟨q1, q2, q3, q4⟩ := par_good FU (.inl 0) 0 (a1 + 1) _ hlt trivial e2
        refine ⟨by omega, q1, ⟨Or.inr g2.wf, q2.wf⟩, ?_, ?_⟩
        · unfold ln_C
          rw [if_neg g2.ne]
          simp only [List.length_append, List.length_map, List.length_cons, List.length_nil]
          omega
        · unfold ln_M
          rw [List.length_append]
          show t.length + t2.length ≤ _
          omega
      · rw [e2] at h
        cases h
        have := par_good FU (.inl 0) 0 (a1 + 1) _ hlt trivial e2
        exact ⟨by have := this.1; omega, this.2⟩
    · rw [if_neg c] at h
      cases h
      refine ⟨g3, g1, ⟨Or.inl rfl, g2.wf⟩, ?_, ?_⟩
      · unfold ln_C
        rw [if_pos rfl]
        simp only [List.length_append, List.length_map, List.length_cons, List.length_nil]
        omega
      · unfold ln_M
        rw [List.nil_append]
        exact g4
  · rw [e] at h
    cases h
    exact par_good FU (.inl 0) 0 a _ ha trivial e
theorem gline_tot (hn : n ≤ 120) {a : Nat} (ha : a ≤ n) : ∃ r, gline b n a = some r := by
  unfold gline
  obtain ⟨r, e⟩ := par_tot (b := b) FU (.inl 0) 0 a ha trivial (show 0 ≤ 5 by omega) (by show 10 * (n - a) + 8 ≤ FU; have := FU_ge; omega) (by have := FU_ge; omega)
  rw [e]
  rcases r with ⟨a1, t⟩ | p
  · obtain ⟨g1, g2, g3, g4⟩ := par_good FU (.inl 0) 0 a _ ha trivial e
    dsimp only
    by_cases c : gx b n a1 = 63
    · rw [if_pos c]
      have hlt : a1 < n := gx_lt (by rw [c]; decide)
      obtain ⟨r, e2⟩ := par_tot (b := b) FU (.inl 0) 0 (a1 + 1) hlt trivial (show 0 ≤ 5 by omega) (by show 10 * (n - (a1 + 1)) + 8 ≤ FU; have := FU_ge; omega) (by have := FU_ge; omega)
      rw [e2]
      rcases r with ⟨a2, t2⟩ | p
      · exact ⟨_, rfl⟩
      · exact ⟨_, rfl⟩
    · rw [if_neg c]
      exact ⟨_, rfl⟩
  · exact ⟨_, rfl⟩
theorem gtext_tot (hn : n ≤ 120) : ∀ (f a : Nat), a ≤ n → n - a < f → ∃ r, gtext b n f a = some r
  | 0, a, ha, h => absurd h (by omega)
  | f + 1, a, ha, h => by
    rw [gtext]
    obtain ⟨r, e⟩ := gline_tot (b := b) hn ha
    rw [e]
    have gg := gline_good ha e
    rcases r with ⟨a1, q⟩ | p
    · dsimp only at gg ⊢
      by_cases c : gx b n a1 = 59
      · rw [if_pos c]
        have hlt : a1 < n := gx_lt (by rw [c]; decide)
        obtain ⟨r, e2⟩ := gtext_tot hn f (a1 + 1) hlt (by have := gg.1; omega)
        rw [e2]
        rcases r with ls | p
        · exact ⟨_, rfl⟩
        · exact ⟨_, rfl⟩
      · rw [if_neg c]
        by_cases c2 : a1 < n
        · rw [if_pos c2]
          exact ⟨_, rfl⟩
        · rw [if_neg c2]
          exact ⟨_, rfl⟩
    · exact ⟨_, rfl⟩
theorem c_line {a d : Nat} {r : (Nat × Lin) ⊕ Nat} {σ : am_S} {ds : List Int32} {k : am_S → Prop} (ht : TP b n σ0) (ha : a ≤ n) (hd : 100 ≤ d) (h : gline b n a = some r) (hs : ds.length ≤ a) (hL : LC σ0 σ a ds) (H1 : ∀ a1 q τ, r = .inl (a1, q) → LC σ0 τ a1 (ds ++ ln_C q) → k τ) (H2 : ∀ p τ, r = .inr p → BC b n σ0 τ p → k τ) : CV l g M_X10_line d [.ref 8] σ k := by
  have hn := ht.1
  refine b_X10_line_0 (by omega) ?_
  have lin : LC σ0 σ a (ds ++ (preS (.inl 0)).map tk_sign) := by
    show LC σ0 σ a (ds ++ [])
    rw [List.append_nil]
    exact hL
  unfold gline at h
  rcases e : par b n FU (.inl 0) 0 a with _ | ⟨a1, t⟩ | p
  · rw [e] at h
    cases h
  · rw [e] at h
    dsimp only at h
    obtain ⟨g1, g2, g3, g4⟩ := par_good FU (.inl 0) 0 a _ ha trivial e
    refine c_par ht FU (.inl 0) 0 a _ (d - 1) σ ds _ ha trivial (show 0 ≤ 5 by omega) (by omega) (by show 8 * (7 - 0) + 16 - 0 ≤ d - 1; omega) e hs lin (fun a2 t2 τ er hτ => ?_) (fun p τ er _ => by cases er)
    cases er
    refine c_next ht g1 hτ ⟨fun c => ?_, fun c => ?_⟩
    · rw [if_neg c] at h
      cases h
      refine c_write1 (by rw [len1]; omega) hτ (fun υ hυ => H1 _ _ υ rfl ?_)
      unfold ln_C
      rw [if_pos rfl, List.nil_append, ← List.append_assoc]
      exact hυ
    · rw [if_pos c] at h
      have hlt : a1 < n := gx_lt (by rw [c]; decide)
      refine c_write1 (by rw [len1]; omega) hτ.step (fun υ hυ => ?_)
      have lin2 : LC σ0 υ (a1 + 1) ((ds ++ t.map tk_sign ++ [-63]) ++ (preS (.inl 0)).map tk_sign) := by
        show LC σ0 υ (a1 + 1) (_ ++ [])
        rw [List.append_nil]
        exact hυ
      have l2 : (ds ++ t.map tk_sign ++ [-63]).length ≤ a1 + 1 := by
        rw [List.length_append, len1]
        show _ + _ + 1 ≤ _
        omega
      rcases e2 : par b n FU (.inl 0) 0 (a1 + 1) with _ | ⟨a2, t2⟩ | p
      · rw [e2] at h
        cases h
      · rw [e2] at h
        cases h
        obtain ⟨q1, q2, q3, q4⟩ := par_good FU (.inl 0) 0 (a1 + 1) _ hlt trivial e2
        refine c_par ht FU (.inl 0) 0 (a1 + 1) _ (d - 1) υ (ds ++ t.map tk_sign ++ [-63]) _ hlt trivial (show 0 ≤ 5 by omega) (by omega) (by show 8 * (7 - 0) + 16 - 0 ≤ d - 1; omega) e2 l2 lin2 (fun a3 t3 ω er hω => ?_) (fun p τ er _ => by cases er)
        cases er
        refine c_write1 (by rw [len1]; omega) hω (fun ω2 hω2 => H1 _ _ ω2 rfl ?_)
        unfold ln_C
        rw [if_neg g2.ne]
        simp only [List.append_assoc] at hω2 ⊢
        exact hω2
      · rw [e2] at h
        cases h
        refine c_par ht FU (.inl 0) 0 (a1 + 1) _ (d - 1) υ (ds ++ t.map tk_sign ++ [-63]) _ hlt trivial (show 0 ≤ 5 by omega) (by omega) (by show 8 * (7 - 0) + 16 - 0 ≤ d - 1; omega) e2 l2 lin2 (fun a3 t3 ω er hω => by cases er) (fun p ω er hB => ?_)
        cases er
        exact c_writeB hB (fun ω2 hω2 => H2 _ _ rfl hω2)
  · rw [e] at h
    cases h
    refine c_par ht FU (.inl 0) 0 a _ (d - 1) σ ds _ ha trivial (show 0 ≤ 5 by omega) (by omega) (by show 8 * (7 - 0) + 16 - 0 ≤ d - 1; omega) e hs lin (fun a2 t2 τ er hτ => by cases er) (fun p τ er hB => ?_)
    cases er
    refine c_nextB ht hB (fun r hr => ⟨fun _ => c_writeB hB (fun υ hυ => H2 _ _ rfl hυ), fun q => ?_⟩)
    rcases hr with w | w
    · exact absurd (w.symm.trans q) (by decide)
    · rw [q] at w
      exact absurd w (by decide)
theorem c_text {d : Nat} {k : Int32 → am_S → Prop} (ht : TP b n σ0) (hd : 102 ≤ d) : ∀ (f a j : Nat) (r : List Lin ⊕ Nat) (σ : am_S) (ds : List Int32), a ≤ n → j ≤ a + 1 → gtext b n f a = some r → ds.length ≤ a → LC σ0 σ a ds → (∀ ls τ, r = .inl ls → LC σ0 τ n (ds ++ ls.flatMap ln_C) → (ds ++ ls.flatMap ln_C).length ≤ 121 → k (-1) τ) → (∀ p τ, r = .inr p → p ≤ n → Fr [515, 516, 517] [10] σ0 τ → k (nI p) τ) → CV l g M_X10_line (d - 1) [.ref 8] σ (fun σ1 => JI l g M_X10_read d 21 [(0, .ref 8), (1, .int (nI j))] [] σ1 k)
  | 0, a, j, r, σ, ds, _, _, h, _, _, _, _ => by
    rw [gtext] at h
    cases h
  | f + 1, a, j, r, σ, ds, ha, hj, h, hs, hL, H1, H2 => by
    have hn := ht.1
    rw [gtext] at h
    obtain ⟨r1, e⟩ := gline_tot (b := b) hn ha
    rw [e] at h
    have gg := gline_good ha e
    refine c_line ht ha (by omega) e hs hL (fun a1 q τ er hτ => ?_) (fun p τ er hB => ?_)
    · subst er
      dsimp only at gg h
      obtain ⟨g1, g2, g3, g4, g5⟩ := gg
      have hl : (ds ++ ln_C q).length ≤ a1 + 1 := by
        rw [List.length_append]
        omega
      by_cases c : gx b n a1 = 59
      · rw [if_pos c] at h
        have hlt : a1 < n := gx_lt (by rw [c]; decide)
        refine b_X10_read_21 (by omega) ⟨fun z => absurd ((len (a := 120) (by omega) (by omega)).mp z) (by omega), fun _ => c_next ht g2 hτ ⟨fun z => absurd c z, fun _ => ?_⟩⟩
        rw [nI_1 j]
        rcases e2 : gtext b n f (a1 + 1) with _ | ls | p
        · rw [e2] at h
          cases h
        · rw [e2] at h
          cases h
          refine c_text ht hd f (a1 + 1) (j + 1) _ _ (ds ++ ln_C q) hlt (by omega) e2 hl hτ.step (fun ls2 υ er hυ hlen => ?_) (fun p υ er _ _ => by cases er)
          cases er
          have e3 : ds ++ ln_C q ++ ls.flatMap ln_C = ds ++ (q :: ls).flatMap ln_C := by rw [List.flatMap_cons, List.append_assoc]
          rw [e3] at hυ hlen
          exact H1 _ υ rfl hυ hlen
        · rw [e2] at h
          cases h
          refine c_text ht hd f (a1 + 1) (j + 1) _ _ (ds ++ ln_C q) hlt (by omega) e2 hl hτ.step (fun ls2 υ er hυ hlen => by cases er) (fun p υ er hp hF => ?_)
          cases er
          exact H2 _ υ rfl hp hF
      · rw [if_neg c] at h
        have tl : (rg τ 513 ≤ rg τ 516 → k (rg τ 517) τ) ∧ (¬ rg τ 513 ≤ rg τ 516 → CV l g M_X10_fail (d - 1) [.ref 8] τ (fun σ1 => k (rg σ1 517) σ1)) := by
          rw [hτ.1.R 513 rfl, ht.2.1, hτ.2.1]
          refine ⟨fun c2 => ?_, fun c2 => ?_⟩
          · have c2 := (len (by omega) (by omega)).mp c2
            rw [if_neg (by omega)] at h
            cases h
            have e1 : a1 = n := by omega
            subst e1
            rw [hτ.2.2.1]
            have e3 : [q].flatMap ln_C = ln_C q := by simp
            refine H1 _ τ rfl ?_ ?_
            · rw [e3]
              exact hτ
            · rw [e3]
              omega
          · have c2 : a1 < n := by
              rcases Nat.lt_or_ge a1 n with e | e
              · exact e
              · exact absurd ((len (by omega) (by omega)).mpr e) c2
            rw [if_pos c2] at h
            cases h
            refine b_X10_fail_0 ?_
            rw [hτ.2.2.1]
            refine ⟨fun q => absurd q (by decide), fun _ => ?_⟩
            rw [rg_sR, if_pos rfl, hτ.2.1]
            exact H2 _ _ rfl g2 ((hτ.1.wR).mono (by simp) (by simp))
        exact b_X10_read_21 (by omega) ⟨fun _ => tl, fun _ => c_next ht g2 hτ ⟨fun _ => tl, fun z => absurd z c⟩⟩
    · subst er
      dsimp only at gg h
      cases h
      have hp := hB.2.1
      have tl : (rg τ 513 ≤ rg τ 516 → k (rg τ 517) τ) ∧ (¬ rg τ 513 ≤ rg τ 516 → CV l g M_X10_fail (d - 1) [.ref 8] τ (fun σ1 => k (rg σ1 517) σ1)) := by
        refine ⟨fun q => ?_, fun q => ?_⟩
        · rw [hB.1.R 513 rfl, ht.2.1, hB.2.2.1] at q
          have q := (len (by omega) (by omega)).mp q
          have : rg τ 517 = nI p := by
            rcases hB.2.2.2.1 with w | ⟨-, w, -⟩
            · exact w
            · omega
          rw [this]
          exact H2 _ _ rfl hp hB.1
        · exact c_failB hB (fun υ hυ e => by rw [e]; exact H2 _ _ rfl hp hυ.1)
      refine b_X10_read_21 (by omega) ⟨fun _ => tl, fun _ => c_nextB ht hB (fun r hr => ⟨fun _ => tl, fun q => ?_⟩)⟩
      rcases hr with w | w
      · exact absurd (w.symm.trans q) (by decide)
      · rw [q] at w
        exact absurd w (by decide)
end Text
