/-! a text of lines; the reference, to its end -/
section TextM2
variable {l : Launch} {g : am_G} {b : Nat → Int32} {n : Nat} {σ0 : am_S}
theorem MS.lm {σ : am_S} {a : Nat} {ls : List Lin} (h : MS σ0 σ a ls) : LM σ σ a 0 (mT ls) := by
  obtain ⟨hO, ⟨e40, e41, e42, e43⟩, hc, h68, hLn⟩ := h
  exact ⟨FM.rf, e40, e41, e42, e43, hc⟩
theorem MO.reg {σ : am_S} {r : Nat} {v : Int32} (h : MO σ0 σ) (hr : r ∈ ([3540, 3541, 3542, 3543] : List Nat)) : MO σ0 (sR σ r v) := ⟨(h.1.wR).mono (fun q hq => by
  rcases List.mem_cons.mp hq with e | e
  · rw [e]; exact hr
  · exact e) (by simp), h.2⟩
theorem m_text {d : Nat} {x1 : Int32} {k : Int32 → am_S → Prop} (ht : TM b n σ0) (hd : 102 ≤ d) : ∀ (f a : Nat) (r : List Lin ⊕ Nat) (σ : am_S) (ls : List Lin), a ≤ n → gtext b n f a = some r → (mT ls).length ≤ a → 2 * ls.length ≤ a → MS σ0 σ a ls →
    (∀ ls2 τ, r = .inl ls2 → MS σ0 τ n (ls ++ ls2) → JI l g M_X12_readText d 105 [(0, .ref 55), (1, .int x1), (2, .int 0)] [] (sR τ 3539 0) k) → (∀ p τ, r = .inr p → p ≤ n → MO σ0 τ → k (nI p) (sR τ 3539 0)) → CV l g M_X12_line (d - 1) [.ref 55] σ (fun σ1 => JI l g M_X12_readText d 31 [(0, .ref 55), (1, .int x1)] [] σ1 k)
  | 0, a, r, σ, ls, _, h, _, _, _, _, _ => by
    rw [gtext] at h
    cases h
  | f + 1, a, r, σ, ls, ha, h, hs, hm, hS, H1, H2 => by
    have hn := ht.1
    rw [gtext] at h
    obtain ⟨r1, e⟩ := gline_tot (b := b) hn ha
    rw [e] at h
    have gg := gline_good ha e
    refine m_line ht ha (by omega) e hs hm hS (fun a1 q τ er hτ => ?_) (fun p τ er hp hO hf => ?_)
    · subst er
      dsimp only at gg h
      obtain ⟨g1, g2, g3, g4, g5⟩ := gg
      have nf : ¬ 0 ≤ rg τ 3541 := by
        rw [hτ.2.1.2.1]
        decide
      have tm := MS.tm ht hτ.1
      have y59 := yy_K (a := a1) ht.2.1 (K := 59) (by decide) (by decide)
      refine b_X12_readText_31 (by omega) ⟨fun q => absurd q nf, fun _ => m_look tm g2 hτ.lm ⟨fun c => ⟨fun q => absurd q nf, fun _ => ⟨fun c2 => ⟨fun _ => ?_, fun q => absurd (by rw [hτ.2.1.2.1]; decide) q⟩, fun c2 => ?_⟩⟩, fun c => ?_⟩⟩
      · rw [if_neg (fun w => c (y59.mpr w))] at h
        rw [hτ.1.1.R 3539 rfl, ht.2.2.1, hτ.2.1.1] at c2
        have c2 := (len (by omega) (by omega)).mp c2
        rw [if_neg (by omega)] at h
        cases h
        have e1 : a1 = n := by omega
        subst e1
        exact H1 _ τ rfl hτ
      · rw [if_neg (fun w => c (y59.mpr w))] at h
        rw [hτ.1.1.R 3539 rfl, ht.2.2.1, hτ.2.1.1] at c2
        have c2 : a1 < n := by
          rcases Nat.lt_or_ge a1 n with e | e
          · exact e
          · exact absurd ((len (by omega) (by omega)).mpr e) c2
        rw [if_pos c2] at h
        cases h
        refine b_X12_faulty_0 ⟨fun q => absurd q nf, fun _ => ?_⟩
        rw [rg_sR, if_pos rfl, hτ.2.1.1]
        refine ⟨fun q => absurd q (nI_pos (by omega)), fun _ => H2 _ _ rfl g2 (hτ.1.reg (by simp))⟩
      · have c := y59.mp c
        rw [if_pos c] at h
        have hlt : a1 < n := gx_lt (by rw [c]; decide)
        have hl : (mT (ls ++ [q])).length ≤ a1 + 1 := by
          have e9 : (q.1 ++ q.2).length ≤ a1 - a := g5
          rw [mT_app, List.length_append]
          omega
        have hm2 : 2 * (ls ++ [q]).length ≤ a1 + 1 := by
          rw [List.length_append]
          show 2 * (_ + 1) ≤ _
          omega
        have hst : MS σ0 (sR τ 3540 (rg τ 3540 + 1)) (a1 + 1) (ls ++ [q]) := ⟨hτ.1.reg (by simp), ⟨by rw [rg_sR, if_pos rfl, hτ.2.1.1, nI_1], hτ.2.1.2.1, hτ.2.1.2.2.1, hτ.2.1.2.2.2⟩, hτ.2.2.1, hτ.2.2.2.1, hτ.2.2.2.2⟩
        rcases e2 : gtext b n f (a1 + 1) with _ | l2 | p
        · rw [e2] at h
          cases h
        · rw [e2] at h
          cases h
          refine m_text ht hd f (a1 + 1) _ _ (ls ++ [q]) hlt e2 hl hm2 hst (fun l3 υ er hυ => ?_) (fun p υ er _ _ => by cases er)
          cases er
          rw [List.append_assoc] at hυ
          exact H1 _ υ rfl hυ
        · rw [e2] at h
          cases h
          refine m_text ht hd f (a1 + 1) _ _ (ls ++ [q]) hlt e2 hl hm2 hst (fun l3 υ er hυ => by cases er) (fun p υ er hp hO => ?_)
          cases er
          exact H2 _ υ rfl hp hO
    · subst er
      dsimp only at gg h
      cases h
      have f0 : 0 ≤ rg τ 3541 := by rw [hf]; exact nneg (by omega)
      have f1 : ¬ rg τ 3541 < 0 := by rw [hf]; exact nI_pos (by omega)
      refine b_X12_readText_31 (by omega) ⟨fun _ => ⟨fun _ => ⟨fun q => absurd q f1, fun _ => ?_⟩, fun q => absurd f0 q⟩, fun q => absurd f0 q⟩
      rw [hf]
      exact H2 _ _ rfl hp hO
end TextM2
