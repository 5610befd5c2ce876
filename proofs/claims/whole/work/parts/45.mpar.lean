/-! the reference reads a law: the walk -/
section ParM
variable {l : Launch} {g : am_G} {b : Nat → Int32} {n : Nat} {σ0 : am_S}
theorem m_fig {op d c : Nat} {ts : List Tok} {k : am_S → Prop} (ht : TM b n σ0) (hd : 1 ≤ d) : ∀ (f : Nat) (v : Int32) (a : Nat) (σ : am_S), f ≤ 4 → a ≤ n → ts.length + c ≤ a → (f < 4 ∨ isD (gx b n a)) → LM σ0 σ a op ts → (∀ a1 t τ, gnum b n f v a = .inl (a1, t) → LM σ0 τ a1 op (ts ++ t) → k τ) → (∀ p τ, gnum b n f v a = .inr p → BM n σ0 τ p c → k τ) → JV l g M_X12_figure d 4 [(0, .ref 55), (1, .int v), (2, .int (nI (4 - f)))] [] σ k
  | 0, v, a, σ, hf, ha, hl, hp, h, H1, H2 => by
    have hn := ht.1
    refine b_X12_figure_4 (by omega) ⟨fun _ => ⟨fun q => absurd q (by decide), fun _ => m_look ht ha h ⟨fun q => ?_, fun q => ?_⟩⟩, fun q => absurd (by decide) q⟩
    · have q := (yy_D ht.2.1).mp q
      rw [gnum, if_pos q] at H2
      exact m_faulty (c := c + 1) ha h (by omega) (fun τ hτ => m_addB hn hτ (fun υ hυ => H2 _ _ rfl hυ))
    · have q := fun w => q ((yy_D ht.2.1).mpr w)
      rw [gnum, if_neg q] at H1
      exact m_add (t1 := 1) (by omega) rfl h (fun τ hτ => H1 _ _ τ rfl hτ)
  | f + 1, v, a, σ, hf, ha, hl, hp, h, H1, H2 => by
    have hn := ht.1
    have hx : ¬ (4 : Int32) ≤ nI (4 - (f + 1)) := fun q => absurd ((len (a := 4) (by omega) (by omega)).mp q) (by omega)
    rw [gnum] at H1 H2
    refine b_X12_figure_4 (by omega) ⟨fun q => absurd q hx, fun _ => m_look ht ha h ⟨fun q => m_look ht ha h ?_, fun q => ?_⟩⟩
    · have q := (yy_D ht.2.1).mp q
      rw [if_pos q] at H1 H2
      have hlt : a < n := gx_lt (isD_ne q)
      rw [yy_Dv ht.2.1 q, nI_1, show 4 - (f + 1) + 1 = 4 - f by omega]
      exact m_fig ht hd f _ (a + 1) _ (by omega) hlt (by omega) (Or.inl (by omega)) h.step H1 H2
    · have q2 := fun w => q ((yy_D ht.2.1).mpr w)
      rw [if_neg q2] at H1
      have hf4 : f + 1 < 4 := hp.resolve_right q2
      refine ⟨fun w => absurd (nI_inj (b := 0) (by omega) (by omega) w) (by omega), fun _ => m_look ht ha h ⟨fun w => absurd w q, fun _ => m_add (t1 := 1) (by omega) rfl h (fun τ hτ => H1 _ _ τ rfl hτ)⟩⟩
theorem m_opens {σ : am_S} {a op c d : Nat} {ts : List Tok} {k : Int32 → am_S → Prop} (ha : a ≤ n) (ho : op ≤ 6) (hl : ts.length + c ≤ a) (h : LM σ0 σ a op ts) (H1 : op < 6 → ∀ τ, LM σ0 τ (a + 1) (op + 1) ts → k 1 τ) (H0 : 6 ≤ op → ∀ τ, BM n σ0 τ a c → k 0 τ) (hd : 1 ≤ d) : CI l g M_X12_opens d [.ref 55] σ k := by
  refine b_X12_opens_0 (by omega) ⟨fun q => ?_, fun q => ?_⟩
  · rw [h.2.2.2.1] at q
    have : op ≠ 6 := fun e => q (by rw [e]; rfl)
    exact H1 (by omega) _ h.opn.step
  · rw [h.2.2.2.1] at q
    have : op = 6 := nI_inj (b := 6) (by omega) (by omega) q
    exact m_faulty ha h (by omega) (fun τ hτ => H0 (by omega) τ hτ)
def KM (l : Launch) (g : am_G) (md : Md) (σ : am_S) (d : Nat) (k : am_S → Prop) : Prop := match md with
  | .inl 0 => CV l g M_X12_either d [.ref 55] σ k
  | .inl 1 => CV l g M_X12_both d [.ref 55] σ k
  | .inl 2 => CV l g M_X12_compared d [.ref 55] σ k
  | .inl 3 => CV l g M_X12_sum d [.ref 55] σ k
  | .inl 4 => CV l g M_X12_product d [.ref 55] σ k
  | .inl _ => CV l g M_X12_operand d [.ref 55] σ k
  | .inr (.inl (0, _)) => JV l g M_X12_either d 4 [(0, .ref 55)] [] σ k
  | .inr (.inl (1, _)) => JV l g M_X12_both d 4 [(0, .ref 55)] [] σ k
  | .inr (.inl (2, _)) => CI l g M_X12_look (d - 1) [.ref 55] σ (fun r2 σ2 => ((0 ≤ rg σ2 3541 → k σ2) ∧ (¬ 0 ≤ rg σ2 3541 → ((r2 = 60 → CV l g M_X12_sum (d - 1) [.ref 55] (sR σ2 3540 ((rg σ2 3540) + 1)) (fun σ3 => CV l g M_X12_addStep (d - 1) [.ref 55, .int r2, .int 0] σ3 (fun σ4 => k σ4))) ∧ (¬ r2 = 60 → ((r2 = 61 → CV l g M_X12_sum (d - 1) [.ref 55] (sR σ2 3540 ((rg σ2 3540) + 1)) (fun σ5 => CV l g M_X12_addStep (d - 1) [.ref 55, .int r2, .int 0] σ5 (fun σ6 => k σ6))) ∧ (¬ r2 = 61 → ((r2 = 62 → CV l g M_X12_sum (d - 1) [.ref 55] (sR σ2 3540 ((rg σ2 3540) + 1)) (fun σ7 => CV l g M_X12_addStep (d - 1) [.ref 55, .int r2, .int 0] σ7 (fun σ8 => k σ8))) ∧ (¬ r2 = 62 → k σ2)))))))))
  | .inr (.inl (3, _)) => JV l g M_X12_sum d 4 [(0, .ref 55)] [] σ k
  | .inr (.inl (_, _)) => JV l g M_X12_product d 4 [(0, .ref 55)] [] σ k
  | .inr (.inr _) => CV l g M_X12_operand d [.ref 55] σ k
theorem m_lev {σ : am_S} {d lv : Nat} {t : List Tok} {k : am_S → Prop} (hd : 2 ≤ d) (hlv : lv ≤ 4) (H : KM l g (.inl (lv + 1)) σ (d - 1) (fun σ1 => KM l g (.inr (.inl (lv, t))) σ1 d k)) : KM l g (.inl lv) σ d k := by
  have e : lv = 0 ∨ lv = 1 ∨ lv = 2 ∨ lv = 3 ∨ lv = 4 := by omega
  rcases e with rfl | rfl | rfl | rfl | rfl
  · exact b_X12_either_0 (by omega) H
  · exact b_X12_both_0 (by omega) H
  · exact b_X12_compared_0 (by omega) H
  · exact b_X12_sum_0 (by omega) H
  · exact b_X12_product_0 (by omega) H
theorem m_tlB {σ : am_S} {p c d lv : Nat} {t : List Tok} {k : am_S → Prop} (ht : TM b n σ0) (hd : 2 ≤ d) (hlv : lv ≤ 4) (h : BM n σ0 σ p c) (H : k σ) : KM l g (.inr (.inl (lv, t))) σ d k := by
  have hn := ht.1
  have h0 : 0 ≤ rg σ 3541 := by
    rw [h.2.2.2.1]
    exact nneg (by have := h.2.1; omega)
  have e : lv = 0 ∨ lv = 1 ∨ lv = 2 ∨ lv = 3 ∨ lv = 4 := by omega
  rcases e with rfl | rfl | rfl | rfl | rfl
  · exact b_X12_either_4 (by omega) ⟨fun _ => H, fun q => absurd h0 q⟩
  · exact b_X12_both_4 (by omega) ⟨fun _ => H, fun q => absurd h0 q⟩
  · exact m_lookB ht h (fun r => ⟨fun _ => H, fun q => absurd h0 q⟩)
  · exact b_X12_sum_4 (by omega) ⟨fun _ => H, fun q => absurd h0 q⟩
  · exact b_X12_product_4 (by omega) ⟨fun _ => H, fun q => absurd h0 q⟩
theorem m_tl {σ : am_S} {a op d lv : Nat} {ts t : List Tok} {k : am_S → Prop} (ht : TM b n σ0) (hd : 2 ≤ d) (hlv : lv ≤ 4) (ha : a ≤ n) (h : LM σ0 σ a op ts) (h0 : ¬ isJ (gx b n a) lv → k σ)
    (h1 : isJ (gx b n a) lv → ∀ x : Int32, yy x = gx b n a → KM l g (.inl (lv + 1)) (sR σ 3540 (rg σ 3540 + 1)) (d - 1) (fun σ3 => CV l g M_X12_addStep (d - 1) [.ref 55, .int x, .int 0] σ3 (fun σ4 => (lv = 2 → k σ4) ∧ (lv ≠ 2 → KM l g (.inr (.inl (lv, t))) σ4 d k)))) : KM l g (.inr (.inl (lv, t))) σ d k := by
  have hb := ht.2.1
  have nf : ¬ 0 ≤ rg σ 3541 := by
    rw [h.2.2.1]
    decide
  have yK := fun K h0 h1 => yy_K (a := a) hb (K := K) h0 h1
  have e : lv = 0 ∨ lv = 1 ∨ lv = 2 ∨ lv = 3 ∨ lv = 4 := by omega
  have mono : ∀ {τ : am_S} {x : Int32} {P Q : am_S → Prop}, (∀ υ, P υ → Q υ) → CV l g M_X12_addStep (d - 1) [.ref 55, .int x, .int 0] τ P → CV l g M_X12_addStep (d - 1) [.ref 55, .int x, .int 0] τ Q := fun hpq hc => CV.mono hc hpq
  have yc : isJ (gx b n a) lv → yy (yy (gx b n a)) = gx b n a := fun q => by
    rw [yy_J hb q, yy_J hb q]
  rcases e with rfl | rfl | rfl | rfl | rfl
  · refine b_X12_either_4 (by omega) ⟨fun q => absurd q nf, fun _ => m_look ht ha h ⟨fun q => h0 (fun w => q ((yK 124 (by decide) (by decide)).mpr w)), fun q => ?_⟩⟩
    have q := (yK 124 (by decide) (by decide)).mp q
    exact CV.mono (h1 q 124 (by rw [q]; rfl)) (fun _ hc => mono (fun _ hp => hp.2 (by decide)) hc)
  · refine b_X12_both_4 (by omega) ⟨fun q => absurd q nf, fun _ => m_look ht ha h ⟨fun q => h0 (fun w => q ((yK 38 (by decide) (by decide)).mpr w)), fun q => ?_⟩⟩
    have q := (yK 38 (by decide) (by decide)).mp q
    exact CV.mono (h1 q 38 (by rw [q]; rfl)) (fun _ hc => mono (fun _ hp => hp.2 (by decide)) hc)
  · refine m_look ht ha h ⟨fun q => absurd q nf, fun _ => ⟨fun q => ?_, fun q1 => ⟨fun q => ?_, fun q2 => ⟨fun q => ?_, fun q3 => h0 ?_⟩⟩⟩⟩
    · have q : isJ (gx b n a) 2 := Or.inl ((yK 60 (by decide) (by decide)).mp q)
      exact CV.mono (h1 q _ (yc q)) (fun _ hc => mono (fun _ hp => hp.1 rfl) hc)
    · have q : isJ (gx b n a) 2 := Or.inr (Or.inl ((yK 61 (by decide) (by decide)).mp q))
      exact CV.mono (h1 q _ (yc q)) (fun _ hc => mono (fun _ hp => hp.1 rfl) hc)
    · have q : isJ (gx b n a) 2 := Or.inr (Or.inr ((yK 62 (by decide) (by decide)).mp q))
      exact CV.mono (h1 q _ (yc q)) (fun _ hc => mono (fun _ hp => hp.1 rfl) hc)
    · rintro (w | w | w)
      · exact q1 ((yK 60 (by decide) (by decide)).mpr w)
      · exact q2 ((yK 61 (by decide) (by decide)).mpr w)
      · exact q3 ((yK 62 (by decide) (by decide)).mpr w)
  · refine b_X12_sum_4 (by omega) ⟨fun q => absurd q nf, fun _ => m_look ht ha h ⟨fun q => m_look ht ha h ?_, fun q1 => m_look ht ha h ⟨fun q2 => h0 ?_, fun q => m_look ht ha h ?_⟩⟩⟩
    · have q : isJ (gx b n a) 3 := Or.inl ((yK 43 (by decide) (by decide)).mp q)
      exact CV.mono (h1 q _ (yc q)) (fun _ hc => mono (fun _ hp => hp.2 (by decide)) hc)
    · rintro (w | w)
      · exact q1 ((yK 43 (by decide) (by decide)).mpr w)
      · exact q2 ((yK 45 (by decide) (by decide)).mpr w)
    · have q : isJ (gx b n a) 3 := Or.inr ((yK 45 (by decide) (by decide)).mp q)
      exact CV.mono (h1 q _ (yc q)) (fun _ hc => mono (fun _ hp => hp.2 (by decide)) hc)
  · refine b_X12_product_4 (by omega) ⟨fun q => absurd q nf, fun _ => m_look ht ha h ⟨fun q => m_look ht ha h ?_, fun q1 => m_look ht ha h ⟨fun q => m_look ht ha h ?_, fun q2 => m_look ht ha h ⟨fun q3 => h0 ?_, fun q => m_look ht ha h ?_⟩⟩⟩⟩
    · have q : isJ (gx b n a) 4 := Or.inl ((yK 42 (by decide) (by decide)).mp q)
      exact CV.mono (h1 q _ (yc q)) (fun _ hc => mono (fun _ hp => hp.2 (by decide)) hc)
    · have q : isJ (gx b n a) 4 := Or.inr (Or.inl ((yK 47 (by decide) (by decide)).mp q))
      exact CV.mono (h1 q _ (yc q)) (fun _ hc => mono (fun _ hp => hp.2 (by decide)) hc)
    · rintro (w | w | w)
      · exact q1 ((yK 42 (by decide) (by decide)).mpr w)
      · exact q2 ((yK 47 (by decide) (by decide)).mpr w)
      · exact q3 ((yK 37 (by decide) (by decide)).mpr w)
    · have q : isJ (gx b n a) 4 := Or.inr (Or.inr ((yK 37 (by decide) (by decide)).mp q))
      exact CV.mono (h1 q _ (yc q)) (fun _ hc => mono (fun _ hp => hp.2 (by decide)) hc)
end ParM
