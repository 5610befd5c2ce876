/-! the reference reads a law: the whole walk -/
section ParM2
variable {l : Launch} {g : am_G} {b : Nat → Int32} {n : Nat} {σ0 : am_S}
theorem nm_neg {c : Int32} : nmI c < 0 ↔ ¬ nmI c ≠ -1 := by
  constructor
  · intro h q
    rcases nmI_cases q with ⟨-, e⟩ | ⟨-, e⟩ | ⟨-, e⟩ | ⟨-, e⟩ | ⟨-, e⟩ | ⟨-, e⟩ <;> rw [e] at h <;> exact absurd h (by decide)
  · intro h
    rw [Classical.not_not.mp h]
    decide
theorem KM5 {σ : am_S} {d : Nat} {k : am_S → Prop} (H : KM l g (.inr (.inr ())) σ d k) : KM l g (.inl 5) σ d k := H
theorem app1 {ts t : List Tok} {u : Tok} : ts ++ (t ++ [u]) = ts ++ t ++ [u] := (List.append_assoc ts t [u]).symm
theorem m_par (ht : TM b n σ0) : ∀ (f : Nat) (md : Md) (op a : Nat) (r : PR) (d : Nat) (σ : am_S) (ts : List Tok) (c : Nat) (k : am_S → Prop), a ≤ n → preT md → preL md → op ≤ 6 → need md op ≤ d → par b n f md op a = some r → ts.length + (preS md).length + c ≤ a → LM σ0 σ a op (ts ++ preS md) → (∀ a1 t τ, r = .inl (a1, t) → LM σ0 τ a1 op (ts ++ t) → k τ) → (∀ p τ, r = .inr p → BM n σ0 τ p c → k τ) → KM l g md σ d k
  | 0, _, _, _, _, _, _, _, _, _, _, _, _, _, _, h, _, _, _, _ => by
    rw [par] at h
    cases h
  | f + 1, .inl lv, op, a, r, d, σ, ts, c, k, ha, _, hv, ho, hd, h, hs, hL, H1, H2 => by
    have hn := ht.1
    have hv : lv ≤ 5 := hv
    have hd : 8 * (7 - op) + 16 - lv ≤ d := hd
    have hs : ts.length + 0 + c ≤ a := hs
    rw [par] at h
    by_cases c5 : 5 ≤ lv
    · rw [if_pos c5] at h
      have : lv = 5 := by omega
      subst this
      exact KM5 (m_par ht f (.inr (.inr ())) op a r d σ ts c k ha trivial trivial ho (by show 8 * (7 - op) + 10 ≤ d; omega) h hs hL H1 H2)
    · rw [if_neg c5] at h
      refine m_lev (t := []) (by omega) (by omega) ?_
      rcases e : par b n f (.inl (lv + 1)) op a with _ | ⟨a1, t1⟩ | p
      · rw [e] at h
        cases h
      · rw [e] at h
        obtain ⟨g1, g2, g3, g4⟩ := par_good f (.inl (lv + 1)) op a _ ha trivial e
        refine m_par ht f (.inl (lv + 1)) op a _ (d - 1) σ ts c _ ha trivial (show lv + 1 ≤ 5 by omega) ho (by show 8 * (7 - op) + 16 - (lv + 1) ≤ d - 1; omega) e hs hL (fun a2 t2 τ er hτ => ?_) (fun p τ er _ => by cases er)
        cases er
        have := m_par ht f (.inr (.inl (lv, t1))) op a1 r d τ ts c k g1 g2 (show lv ≤ 4 by omega) ho hd h (by show ts.length + t1.length + c ≤ a1; omega) hτ H1 H2
        have e2 : lv = 0 ∨ lv = 1 ∨ lv = 2 ∨ lv = 3 ∨ lv = 4 := by omega
        rcases e2 with rfl | rfl | rfl | rfl | rfl <;> exact this
      · rw [e] at h
        cases h
        refine m_par ht f (.inl (lv + 1)) op a _ (d - 1) σ ts c _ ha trivial (show lv + 1 ≤ 5 by omega) ho (by show 8 * (7 - op) + 16 - (lv + 1) ≤ d - 1; omega) e hs hL (fun a2 t2 τ er hτ => by cases er) (fun p τ er hB => ?_)
        cases er
        exact m_tlB ht (by omega) (by omega) hB (H2 _ _ rfl hB)
  | f + 1, .inr (.inl (lv, t0)), op, a, r, d, σ, ts, c, k, ha, h0, hv, ho, hd, h, hs, hL, H1, H2 => by
    have hn := ht.1
    have hv : lv ≤ 4 := hv
    have hd : 8 * (7 - op) + 16 - lv ≤ d := hd
    have hs : ts.length + t0.length + c ≤ a := hs
    have hL : LM σ0 σ a op (ts ++ t0) := hL
    rw [par] at h
    refine m_tl ht (by omega) hv ha hL (fun cJ => ?_) (fun cJ x hx => ?_)
    · rw [if_neg cJ] at h
      cases h
      exact H1 _ _ _ rfl hL
    · rw [if_pos cJ] at h
      have hlt : a < n := gx_lt (isJ_ne cJ)
      rcases e : par b n f (.inl (lv + 1)) op (a + 1) with _ | ⟨a2, t2⟩ | p
      · rw [e] at h
        cases h
      · rw [e] at h
        dsimp only at h
        obtain ⟨g1, g2, g3, g4⟩ := par_good f (.inl (lv + 1)) op (a + 1) _ hlt trivial e
        refine m_par ht f (.inl (lv + 1)) op (a + 1) _ (d - 1) _ (ts ++ t0) (c + 1) _ hlt trivial (show lv + 1 ≤ 5 by omega) ho (by show 8 * (7 - op) + 16 - (lv + 1) ≤ d - 1; omega) e (by rw [List.length_append]; show _ + 0 + _ ≤ _; omega) (by show LM σ0 _ _ _ (ts ++ t0 ++ []); rw [List.append_nil]; exact hL.step) (fun a3 t3 τ er hτ => ?_) (fun p τ er _ => by cases er)
        cases er
        refine m_add (by rw [List.length_append, List.length_append]; omega) hx hτ (fun υ hυ => ?_)
        rw [List.append_assoc ts t0 t2, ← app1] at hυ
        refine ⟨fun c2 => ?_, fun c2 => ?_⟩
        · rw [if_pos c2] at h
          cases h
          exact H1 _ _ _ rfl hυ
        · rw [if_neg c2] at h
          have := m_par ht f (.inr (.inl (lv, t0 ++ t2 ++ [(gx b n a, 0)]))) op a2 r d υ ts c k g1 (One.bin h0 g2 cJ) hv ho hd h (by show ts.length + (t0 ++ t2 ++ [(gx b n a, 0)]).length + c ≤ a2; rw [List.length_append, List.length_append]; show _ + (_ + _ + 1) + c ≤ _; omega) hυ H1 H2
          have e2 : lv = 0 ∨ lv = 1 ∨ lv = 2 ∨ lv = 3 ∨ lv = 4 := by omega
          rcases e2 with rfl | rfl | rfl | rfl | rfl <;> exact this
      · rw [e] at h
        cases h
        refine m_par ht f (.inl (lv + 1)) op (a + 1) _ (d - 1) _ (ts ++ t0) (c + 1) _ hlt trivial (show lv + 1 ≤ 5 by omega) ho (by show 8 * (7 - op) + 16 - (lv + 1) ≤ d - 1; omega) e (by rw [List.length_append]; show _ + 0 + _ ≤ _; omega) (by show LM σ0 _ _ _ (ts ++ t0 ++ []); rw [List.append_nil]; exact hL.step) (fun a3 t3 τ er hτ => by cases er) (fun p τ er hB => ?_)
        cases er
        exact m_addB hn hB (fun υ hυ => ⟨fun _ => H2 _ _ rfl hυ, fun _ => m_tlB ht (by omega) hv hυ (H2 _ _ rfl hυ)⟩)
  | f + 1, .inr (.inr ()), op, a, r, d, σ, ts, c, k, ha, _, _, ho, hd, h, hs, hL, H1, H2 => by
    have hn := ht.1
    have hb := ht.2.1
    have hd : 8 * (7 - op) + 10 ≤ d := hd
    have hs : ts.length + 0 + c ≤ a := hs
    have hL : LM σ0 σ a op ts := by
      have : LM σ0 σ a op (ts ++ []) := hL
      rw [List.append_nil] at this
      exact this
    have y33 := yy_K (a := a) hb (K := 33) (by decide) (by decide)
    have y45 := yy_K (a := a) hb (K := 45) (by decide) (by decide)
    have y40 := yy_K (a := a) hb (K := 40) (by decide) (by decide)
    rw [par] at h
    show CV l g M_X12_operand d [.ref 55] σ k
    refine b_X12_operand_0 (by omega) (m_look ht ha hL (m_name hb ⟨fun cn => ?_, fun cn => ?_⟩))
    · have cn2 := nm_neg.mp cn
      -- one sign that stands before what it works on
      have un : (gx b n a = 33 ∨ gx b n a = 45) → CI l g M_X12_opens (d - 1) [.ref 55] σ (fun r3 σ3 => ((¬ r3 = 0 → CV l g M_X12_operand (d - 1) [.ref 55] σ3 (fun σ4 => ((¬ yy (gx b n a) = 33 → CV l g M_X12_addStep (d - 1) [.ref 55, .int 4, .int 0] (sR σ4 3542 ((rg σ4 3542) - 1)) (fun σ5 => k σ5)) ∧ (yy (gx b n a) = 33 → CV l g M_X12_addStep (d - 1) [.ref 55, .int 3, .int 0] (sR σ4 3542 ((rg σ4 3542) - 1)) (fun σ6 => k σ6))))) ∧ (r3 = 0 → k σ3))) := by
        intro c3
        have cD : ¬ isD (gx b n a) := by rcases c3 with e | e <;> rw [e] <;> decide
        have hlt : a < n := gx_lt (by rcases c3 with e | e <;> rw [e] <;> decide)
        rw [if_neg cD, if_neg cn2] at h
        refine m_opens (c := c) ha ho (by omega) hL (fun c2 τ hτ => ⟨fun _ => ?_, fun q => absurd q (by decide)⟩) (fun c2 τ hτ => ⟨fun q => absurd rfl q, fun _ => ?_⟩) (by omega)
        · rw [if_neg (by omega), if_pos c3] at h
          rcases e : par b n f (.inr (.inr ())) (op + 1) (a + 1) with _ | ⟨a1, t1⟩ | p
          · rw [e] at h
            cases h
          · rw [e] at h
            cases h
            obtain ⟨g1, g2, g3, g4⟩ := par_good f (.inr (.inr ())) (op + 1) (a + 1) _ hlt trivial e
            refine m_par ht f (.inr (.inr ())) (op + 1) (a + 1) _ (d - 1) _ ts (c + 1) _ hlt trivial trivial (by omega) (by show 8 * (7 - (op + 1)) + 10 ≤ d - 1; omega) e (by show _ + 0 + _ ≤ _; omega) (by show LM σ0 _ _ _ (ts ++ []); rw [List.append_nil]; exact hτ) (fun a3 t3 υ er hυ => ?_) (fun p τ er _ => by cases er)
            cases er
            refine ⟨fun q => m_add (t1 := 4) (by rw [List.length_append]; omega) rfl hυ.shut (fun ω hω => H1 _ _ ω rfl ?_), fun q => m_add (t1 := 3) (by rw [List.length_append]; omega) rfl hυ.shut (fun ω hω => H1 _ _ ω rfl ?_)⟩
            · rw [app1, if_neg (fun w => q (y33.mpr w))]
              exact hω
            · rw [app1, if_pos (y33.mp q)]
              exact hω
          · rw [e] at h
            cases h
            refine m_par ht f (.inr (.inr ())) (op + 1) (a + 1) _ (d - 1) _ ts (c + 1) _ hlt trivial trivial (by omega) (by show 8 * (7 - (op + 1)) + 10 ≤ d - 1; omega) e (by show _ + 0 + _ ≤ _; omega) (by show LM σ0 _ _ _ (ts ++ []); rw [List.append_nil]; exact hτ) (fun a3 t3 υ er hυ => by cases er) (fun p υ er hB => ?_)
            cases er
            exact ⟨fun _ => m_addB hn hB.shut (fun ω hω => H2 _ _ rfl hω), fun _ => m_addB hn hB.shut (fun ω hω => H2 _ _ rfl hω)⟩
        · rw [if_pos c2] at h
          cases h
          exact H2 _ _ rfl hτ
      refine ⟨fun q => un (Or.inl (y33.mp q)), fun q3 => ⟨fun q4 => ⟨fun q5 => ?_, fun q5 => ?_⟩, fun q4 => un (Or.inr (y45.mp q4))⟩⟩
      · -- a number, or nothing that can stand here
        have n3 : ¬ (gx b n a = 33 ∨ gx b n a = 45) := fun w => w.elim (fun w => q3 (y33.mpr w)) (fun w => q4 (y45.mpr w))
        have n4 : ¬ gx b n a = 40 := fun w => q5 (y40.mpr w)
        refine b_X12_figure_0 ?_
        by_cases cD : isD (gx b n a)
        · rw [if_pos cD] at h
          cases h
          exact m_fig ht (by omega) 4 0 a σ (Nat.le_refl _) ha (by omega) (Or.inr cD) hL (fun a1 t τ e hτ => H1 a1 t τ e hτ) (fun p τ e hB => H2 p τ e hB)
        · rw [if_neg cD, if_neg cn2] at h
          have bad : k = k → ∀ τ, BM n σ0 τ a c → k τ := by
            intro _ τ hτ
            by_cases c2 : 6 ≤ op
            · rw [if_pos c2] at h
              cases h
              exact H2 _ _ rfl hτ
            · rw [if_neg c2, if_neg n3, if_neg n4] at h
              cases h
              exact H2 _ _ rfl hτ
          refine b_X12_figure_4 (by omega) ⟨fun q => absurd q (by decide), fun _ => m_look ht ha hL ⟨fun q => absurd ((yy_D hb).mp q) cD, fun _ => ⟨fun _ => m_faulty (c := c + 1) ha hL (by omega) (fun τ hτ => m_addB hn hτ (fun υ hυ => bad rfl υ hυ)), fun q => absurd rfl q⟩⟩⟩
      · have c4 := y40.mp q5
        have cD : ¬ isD (gx b n a) := by rw [c4]; decide
        have n3 : ¬ (gx b n a = 33 ∨ gx b n a = 45) := by rw [c4]; decide
        have hlt : a < n := gx_lt (by rw [c4]; decide)
        rw [if_neg cD, if_neg cn2] at h
        refine m_opens (c := c) ha ho (by omega) hL (fun c2 τ hτ => ⟨fun _ => ?_, fun q => absurd q (by decide)⟩) (fun c2 τ hτ => ⟨fun q => absurd rfl q, fun _ => ?_⟩) (by omega)
        · rw [if_neg (by omega), if_neg n3, if_pos c4] at h
          rcases e : par b n f (.inl 0) (op + 1) (a + 1) with _ | ⟨a1, t1⟩ | p
          · rw [e] at h
            cases h
          · rw [e] at h
            dsimp only at h
            obtain ⟨g1, g2, g3, g4⟩ := par_good f (.inl 0) (op + 1) (a + 1) _ hlt trivial e
            refine m_par ht f (.inl 0) (op + 1) (a + 1) _ (d - 1) _ ts (c + 1) _ hlt trivial (show 0 ≤ 5 by omega) (by omega) (by show 8 * (7 - (op + 1)) + 16 - 0 ≤ d - 1; omega) e (by show _ + 0 + _ ≤ _; omega) (by show LM σ0 _ _ _ (ts ++ []); rw [List.append_nil]; exact hτ) (fun a3 t3 υ er hυ => ?_) (fun p τ er _ => by cases er)
            cases er
            have y41 := yy_K (a := a1) hb (K := 41) (by decide) (by decide)
            refine ⟨fun _ => m_look ht g1 hυ ⟨fun q => ?_, fun q => ?_⟩, fun q => absurd (by rw [hυ.2.2.1]; decide) q⟩
            · rw [if_pos (y41.mp q)] at h
              cases h
              exact H1 _ _ _ rfl hυ.step.shut
            · rw [if_neg (fun w => q (y41.mpr w))] at h
              cases h
              exact m_faulty g1 hυ (by rw [List.length_append]; omega) (fun ω hω => H2 _ _ rfl hω)
          · rw [e] at h
            cases h
            refine m_par ht f (.inl 0) (op + 1) (a + 1) _ (d - 1) _ ts (c + 1) _ hlt trivial (show 0 ≤ 5 by omega) (by omega) (by show 8 * (7 - (op + 1)) + 16 - 0 ≤ d - 1; omega) e (by show _ + 0 + _ ≤ _; omega) (by show LM σ0 _ _ _ (ts ++ []); rw [List.append_nil]; exact hτ) (fun a3 t3 υ er hυ => by cases er) (fun p υ er hB => ?_)
            cases er
            refine ⟨fun q => absurd q ?_, fun _ => H2 _ _ rfl (hB.le (by omega))⟩
            rw [hB.2.2.2.1]
            exact nI_pos (by have := hB.2.1; omega)
        · rw [if_pos c2] at h
          cases h
          exact H2 _ _ rfl hτ
    · have cn2 := fun w => cn (nm_neg.mpr w)
      have cn3 : nmI (gx b n a) ≠ -1 := fun w => cn2 (fun z => z w)
      have cD : ¬ isD (gx b n a) := by
        rcases nmI_cases cn3 with ⟨e, -⟩ | ⟨e, -⟩ | ⟨e, -⟩ | ⟨e, -⟩ | ⟨e, -⟩ | ⟨e, -⟩ <;> rw [e] <;> decide
      have hlt : a < n := gx_lt (nmI_ne cn3)
      rw [if_neg cD, if_pos cn3] at h
      cases h
      exact m_name hb (m_add (t1 := 2) (by omega) rfl hL (fun τ hτ => H1 _ _ _ rfl hτ.step))
end ParM2
