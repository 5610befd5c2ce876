/-! the longest evening of the class; how many rest -/
theorem KI.next {W : Wd} {C : List Nat} {p h : Nat} {s : KS} (hp : s.1[p]? = some h) (hK : KI W C p (scs W C h) s) : KI W C (p + 1) [] s := by
  obtain ⟨h1, h2, h3, h4⟩ := hK
  have b : ∀ i, i < C.length → s.2.2 i ≤ p + 1 := fun i hi => by
    have := h3 i hi
    have b1 : (if scs W C h = [] then 0 else 1) ≤ 1 := by split <;> omega
    omega
  refine ⟨h1, fun i hi => ?_, fun i hi => by rw [if_pos rfl]; exact b i hi, fun x hx => b x (h1.2.1 x (List.mem_of_getElem? hx))⟩
  have e2 : s.1.take (p + 1) = s.1.take p ++ [h] := by
    rw [List.take_succ, hp]
    rfl
  have := h2 i hi
  rw [e2, dg_app, dg_one]
  have e3 : cN W C i h = (scs W C h).count i := rfl
  simp
  omega
def KCl (C : List Nat) (σ : am_S) (s : KS) : Prop := (∀ i, i < C.length → ar σ 27 i = nI (s.2.1 i) ∧ ar σ 28 i = nI (s.2.2 i)) ∧ ∀ k x, s.1[k]? = some x → ar σ 29 k = nI x
section LongC
variable {l : Launch} {g : am_G} {σ0 : am_S} {W : Wd} {a0 : Nat}
theorem CS_cd {σ : am_S} (h : CS σ (bf0 W a0)) {i : Nat} (hi : i < (cds W a0).length) : ar σ 24 i = nI (cdN (cds W a0) i) := by
  obtain ⟨e, h1, h2⟩ := cds_en hi
  have := h.2.1 i e h1
  rw [h2] at this
  exact this.1
theorem c_pos {d i c : Nat} {σ : am_S} {k : Int32 → am_S → Prop} (hd : 1 ≤ d) (hW : wd_ok W) (ha : a0 < 4 ^ W.2.1) (hS : CS σ (bf0 W a0)) (hi : (cds W a0)[i]? = some c) (H : k (nI i) σ) : CI l g M_X7_placeOf d [.ref 19, .int (nI c)] σ k := by
  have hB := bf0_BI hW ha
  have hm : c ∈ (bf0 W a0).map (·.1) := List.mem_of_getElem? hi
  refine c_place hd hS.2.2 (hB.mlen hW.1.2) (hB.lt hW.1.2) (hB.lt hW.1.2 c hm) (fun j hj => ?_) (fun hn => absurd hm hn)
  rw [nodup_at (cds_nodup hW ha) hj hi]
  exact H
theorem CS_len {σ : am_S} (h : CS σ (bf0 W a0)) : rg σ 1224 = nI (cds W a0).length := by
  unfold cds
  rw [List.length_map]
  exact h.1
/-- how many rest -/
def rsN (W : Wd) (C : List Nat) : Nat → Nat
  | 0 => 0
  | k + 1 => rsN W C k + if mvs W (cdN C k) = [] then 1 else 0
theorem rsN_le {W : Wd} {C : List Nat} : ∀ k, rsN W C k ≤ k
  | 0 => Nat.le_refl _
  | k + 1 => by
    have := rsN_le (W := W) (C := C) k
    unfold rsN
    split <;> omega
theorem c_rests {d : Nat} {k1 : Int32 → am_S → Prop} (hd : 4 ≤ d) (hW : wd_ok W) (hC : WC W σ0) (ha : a0 < 4 ^ W.2.1) (hS : CS σ0 (bf0 W a0)) (H : ∀ τ, Fr [1283] [21, 22, 23] σ0 τ → k1 (nI (rsN W (cds W a0) (cds W a0).length)) τ) : ∀ (m h : Nat) (σ : am_S), h + m = (cds W a0).length → Fr [1283] [21, 22, 23] σ0 σ →
    JI l g M_X7_rests d 4 [(0, .ref 19), (1, .ref 14), (2, .int (nI (rsN W (cds W a0) h))), (3, .int (nI h))] [] σ k1
  | 0, h, σ, e, fr => by
    have e : h = (cds W a0).length := by omega
    have l630 := (cds_len hW ha).2
    refine b_X7_rests_4 (by omega) ?_
    rw [fr.R 1224 rfl, CS_len hS, e]
    exact ⟨fun _ => H σ fr, fun q => absurd ((len (by omega) (by omega)).mpr (Nat.le_refl _)) q⟩
  | m + 1, h, σ, e, fr => by
    have l630 := (cds_len hW ha).2
    have hh : h < (cds W a0).length := by omega
    have rl := rsN_le (W := W) (C := cds W a0) h
    refine b_X7_rests_4 (by omega) ?_
    rw [fr.R 1224 rfl, CS_len hS, nI_clamp (n := h) (by omega), fr.A 24 rfl, CS_cd hS hh, nI_1 h, nI_1 (rsN W (cds W a0) h)]
    refine ⟨fun q => absurd ((len (by omega) (by omega)).mp q) (by omega), fun _ => ⟨vp_in_nI (by omega) (by omega), c_list (by omega) hW (hC.fr fr rfl rfl) (cdN_lt hW ha hh) (fun τ fτ hT => ?_)⟩⟩
    have m0 := mvs0 hT hW
    have fT : Fr [1283] [21, 22, 23] σ0 τ := (fr.tr fτ).mono (by simp) (by simp)
    have nx := c_rests (d := d) hd hW hC ha hS H m (h + 1) τ (by omega) fT
    unfold rsN at nx
    refine ⟨fun w => ?_, fun w => ?_⟩
    · rw [if_neg (fun v => w (m0.mpr v)), Nat.add_zero] at nx
      exact nx
    · rw [if_pos (m0.mp w)] at nx
      exact nx
/-- the edges counted so far -/
def CW (W : Wd) (a0 h : Nat) (pre : List Tr) (σ0 σ : am_S) : Prop := Fr [1283] [21, 22, 23, 27, 28] σ0 σ ∧ ∀ i, i < (cds W a0).length → ar σ 27 i = nI (dg (cN W (cds W a0) i) (List.range h) + (pre.map (fun t => pos (cds W a0) (nxt W.2.1 (cdN (cds W a0) h) t))).count i) ∧ ar σ 28 i = 0
theorem c_cw56 {d h : Nat} {k1 : am_S → Prop} (hd : 2 ≤ d) (hW : wd_ok W) (ha : a0 < 4 ^ W.2.1) (hS : CS σ0 (bf0 W a0)) (hh : h < (cds W a0).length) (H : ∀ τ, CW W a0 h (mvs W (cdN (cds W a0) h)) σ0 τ → JV l g M_X7_countWays d 32 [(0, .ref 19), (1, .ref 14), (2, .int (nI (h + 1)))] [] τ k1) :
    ∀ (suf pre : List Tr) (σ : am_S), mvs W (cdN (cds W a0) h) = pre ++ suf → CW W a0 h pre σ0 σ → ST W.2.1 (cdN (cds W a0) h) σ (mvs W (cdN (cds W a0) h)) →
    JV l g M_X7_countWays d 56 [(0, .ref 19), (1, .ref 14), (2, .int (nI h)), (3, .int (nI pre.length))] [] σ k1 := by
  have h7 := hW.1.2
  have l630 := (cds_len hW ha).2
  have l60 := mvs_len (a := cdN (cds W a0) h) hW
  intro suf
  induction suf with
  | nil =>
    intro pre σ eT hc hT
    rw [List.append_nil] at eT
    refine b_X7_countWays_56 (by omega) ?_
    rw [hT.1, eT, nI_1]
    rw [eT] at l60 H
    exact ⟨fun _ => H σ hc, fun q => absurd ((len (by omega) (by omega)).mpr (Nat.le_refl _)) q⟩
  | cons t suf ih =>
    intro pre σ eT hc hT
    have ht : t ∈ mvs W (cdN (cds W a0) h) := by
      rw [eT]
      exact List.mem_append_right _ List.mem_cons_self
    have hat : (mvs W (cdN (cds W a0) h))[pre.length]? = some t := by
      rw [eT, List.getElem?_append_right (Nat.le_refl _), Nat.sub_self]
      rfl
    have hpl := (List.getElem?_eq_some_iff.mp hat).1
    have pl := pos_lt hW ha hh ht
    have pc := cds_cl hW ha hh ht
    have hSσ := hS.fr (σ := σ0) (τ := σ) (rs := [1283]) (as := [21, 22, 23, 27, 28]) hc.1 rfl rfl
    have nl : nxt W.2.1 (cdN (cds W a0) h) t < 16384 := lt7 h7 swp_lt
    have hw := (hc.2 _ pl).1
    refine b_X7_countWays_56 (by omega) ?_
    rw [hT.1, nI_clamp (n := pre.length) (by omega), (hT.2 _ t hat).2, nI_1 pre.length]
    have vP : vp_in (nI (pos (cds W a0) (nxt W.2.1 (cdN (cds W a0) h) t))) 630 := vp_in_nI (by omega) (by omega)
    refine ⟨fun q => absurd ((len (by omega) (by omega)).mp q) (by omega), fun _ => ⟨vp_in_nI (by omega) (by omega), c_pos (by omega) hW ha hSσ pc ?_⟩⟩
    rw [nI_clamp (n := pos (cds W a0) (nxt W.2.1 (cdN (cds W a0) h) t)) (by omega), hw]
    refine ⟨fun q => absurd q (nI_pos (by omega)), fun _ => ⟨vP, vP, ?_⟩⟩
    have eT2 : mvs W (cdN (cds W a0) h) = (pre ++ [t]) ++ suf := by rw [eT]; simp
    have := ih (pre ++ [t]) (sA σ 27 (pos (cds W a0) (nxt W.2.1 (cdN (cds W a0) h) t)) (nI (dg (cN W (cds W a0) (pos (cds W a0) (nxt W.2.1 (cdN (cds W a0) h) t))) (List.range h) + (pre.map (fun t => pos (cds W a0) (nxt W.2.1 (cdN (cds W a0) h) t))).count (pos (cds W a0) (nxt W.2.1 (cdN (cds W a0) h) t)) + 1))) eT2 ⟨(hc.1.wA).mono (by simp) (by simp), fun i hi => ?_⟩ (hT.fr (Fr.rf.wA) rfl rfl)
    · rw [show (pre ++ [t]).length = pre.length + 1 by simp] at this
      rw [nI_1]
      exact this
    · rw [List.map_append, List.map_singleton, count1]
      refine ⟨?_, by rw [ar_sA, if_neg (fun q => absurd q.1 (by decide))]; exact (hc.2 i hi).2⟩
      rw [ar_sA]
      by_cases e : i = pos (cds W a0) (nxt W.2.1 (cdN (cds W a0) h) t)
      · rw [if_pos ⟨rfl, e⟩, if_pos e.symm, e, Nat.add_assoc]
      · rw [if_neg (fun q => e q.2), if_neg (fun q => e q.symm), Nat.add_zero]
        exact (hc.2 i hi).1
theorem c_cw32 {d : Nat} {k1 : am_S → Prop} (hd : 4 ≤ d) (hW : wd_ok W) (hC : WC W σ0) (ha : a0 < 4 ^ W.2.1) (hS : CS σ0 (bf0 W a0)) (H : ∀ τ, CW W a0 (cds W a0).length [] σ0 τ → k1 τ) : ∀ (m h : Nat) (σ : am_S), h + m = (cds W a0).length → CW W a0 h [] σ0 σ →
    JV l g M_X7_countWays d 32 [(0, .ref 19), (1, .ref 14), (2, .int (nI h))] [] σ k1
  | 0, h, σ, e, hc => by
    have e : h = (cds W a0).length := by omega
    have l630 := (cds_len hW ha).2
    refine b_X7_countWays_32 (by omega) ?_
    rw [hc.1.R 1224 rfl, CS_len hS]
    rw [e] at hc ⊢
    exact ⟨fun _ => H σ hc, fun q => absurd ((len (by omega) (by omega)).mpr (Nat.le_refl _)) q⟩
  | m + 1, h, σ, e, hc => by
    have l630 := (cds_len hW ha).2
    have hh : h < (cds W a0).length := by omega
    refine b_X7_countWays_32 (by omega) ?_
    rw [hc.1.R 1224 rfl, CS_len hS, nI_clamp (n := h) (by omega), hc.1.A 24 rfl, CS_cd hS hh]
    refine ⟨fun q => absurd ((len (by omega) (by omega)).mp q) (by omega), fun _ => ⟨vp_in_nI (by omega) (by omega), c_list (by omega) hW (hC.fr hc.1 rfl rfl) (cdN_lt hW ha hh) (fun τ fτ hT => ?_)⟩⟩
    refine c_cw56 (σ0 := σ0) (by omega) hW ha hS hh (fun υ hυ => c_cw32 hd hW hC ha hS H m (h + 1) υ (by omega) ⟨hυ.1, fun i hi => ?_⟩) (mvs W (cdN (cds W a0) h)) [] τ rfl ⟨(hc.1.tr fτ).mono (by simp) (by simp), fun i hi => ?_⟩ hT
    · have := hυ.2 i hi
      rw [List.range_succ, dg_app, dg_one]
      exact this
    · rw [fτ.A 27 rfl, fτ.A 28 rfl]
      exact hc.2 i hi
theorem c_cw2 {d : Nat} {k1 : am_S → Prop} (hd : 4 ≤ d) (hW : wd_ok W) (hC : WC W σ0) (ha : a0 < 4 ^ W.2.1) (hS : CS σ0 (bf0 W a0)) (H : ∀ τ, CW W a0 (cds W a0).length [] σ0 τ → k1 τ) : ∀ (m x : Nat) (σ : am_S), x + m = (cds W a0).length → Fr [] [27, 28] σ0 σ → (∀ i, i < x → ar σ 27 i = 0 ∧ ar σ 28 i = 0) →
    JV l g M_X7_countWays d 2 [(0, .ref 19), (1, .ref 14), (2, .int (nI x))] [] σ k1
  | 0, x, σ, e, fr, hz => by
    have l630 := (cds_len hW ha).2
    refine b_X7_countWays_2 ?_
    rw [fr.R 1224 rfl, CS_len hS]
    refine ⟨fun _ => c_cw32 hd hW hC ha hS H (cds W a0).length 0 σ (Nat.zero_add _) ⟨fr.mono (by simp) (by simp), fun i hi => ?_⟩, fun q => absurd ((len (by omega) (by omega)).mpr (by omega)) q⟩
    have := hz i (by omega)
    refine ⟨?_, this.2⟩
    rw [this.1]
    unfold dg
    simp
    rfl
  | m + 1, x, σ, e, fr, hz => by
    have l630 := (cds_len hW ha).2
    have vx : vp_in (nI x) 630 := vp_in_nI (by omega) (by omega)
    refine b_X7_countWays_2 ?_
    rw [fr.R 1224 rfl, CS_len hS, nI_clamp (n := x) (by omega), nI_1]
    refine ⟨fun q => absurd ((len (by omega) (by omega)).mp q) (by omega), fun _ => ⟨vx, vx, c_cw2 hd hW hC ha hS H m (x + 1) _ (by omega) ((fr.wA.wA).mono (by simp) (by simp)) (fun i hi => ?_)⟩⟩
    rw [ar_sA, if_neg (fun q => absurd q.1 (by decide)), ar_sA, ar_sA, ar_sA]
    by_cases e1 : i = x
    · rw [if_pos ⟨rfl, e1⟩, if_pos ⟨rfl, e1⟩]
      exact ⟨rfl, rfl⟩
    · rw [if_neg (fun q => e1 q.2), if_neg (fun q => e1 q.2), if_neg (fun q => absurd q.1 (by decide))]
      exact hz i (by omega)
theorem maxI {a b : Nat} (ha : a < 2 ^ 31) (hb : b < 2 ^ 31) : (if nI a < nI b then nI b else nI a) = nI (max a b) := by
  by_cases h : a < b
  · rw [if_pos ((ltn ha hb).mpr h), Nat.max_eq_right (by omega)]
  · rw [if_neg (fun q => h ((ltn ha hb).mp q)), Nat.max_eq_left (by omega)]
def KCls (W : Wd) (a0 : Nat) (σ0 σ : am_S) (s : KS) : Prop := Fr [1283] [21, 22, 23, 27, 28, 29] σ0 σ ∧ KCl (cds W a0) σ s
theorem c_kh83 {d h p most : Nat} {k1 : Int32 → am_S → Prop} (hd : 2 ≤ d) (hW : wd_ok W) (ha : a0 < 4 ^ W.2.1) (hS : CS σ0 (bf0 W a0)) (hh : h < (cds W a0).length) {sF : KS}
    (H : ∀ τ, KCls W a0 σ0 τ sF → KI W (cds W a0) p (scs W (cds W a0) h) sF → sF.1[p]? = some h → JI l g M_X7_longest d 30 [(0, .ref 19), (1, .ref 14), (2, .int (nI sF.1.length)), (3, .int (nI most)), (4, .int (nI (p + 1)))] [] τ k1) :
    ∀ (suf pre : List Tr) (σ : am_S) (s : KS), mvs W (cdN (cds W a0) h) = pre ++ suf → sF = (suf.map (fun t => pos (cds W a0) (nxt W.2.1 (cdN (cds W a0) h) t))).foldl (k1E h) s → KI W (cds W a0) p (pre.map (fun t => pos (cds W a0) (nxt W.2.1 (cdN (cds W a0) h) t))) s → s.1[p]? = some h → KCls W a0 σ0 σ s → ST W.2.1 (cdN (cds W a0) h) σ (mvs W (cdN (cds W a0) h)) →
    JI l g M_X7_longest d 83 [(0, .ref 19), (1, .ref 14), (2, .int (nI s.1.length)), (3, .int (nI most)), (4, .int (nI p)), (5, .int (nI h)), (6, .int (nI pre.length))] [] σ k1 := by
  have h7 := hW.1.2
  have l630 := (cds_len hW ha).2
  have l60 := mvs_len (a := cdN (cds W a0) h) hW
  intro suf
  induction suf with
  | nil =>
    intro pre σ s eT eF hK hp hc hT
    rw [List.append_nil] at eT
    have eF : sF = s := eF
    have pl : p < s.1.length := (List.getElem?_eq_some_iff.mp hp).1
    refine b_X7_longest_83 (by omega) ?_
    have e1 : nI p + 1 = nI (p + 1) := nI_1 p
    rw [hT.1, e1]
    have ll : (mvs W (cdN (cds W a0) h)).length = pre.length := by rw [eT]
    rw [ll]
    refine ⟨fun _ => ?_, fun q => absurd ((len (by omega) (by omega)).mpr (Nat.le_refl _)) q⟩
    have := H σ (by rw [eF]; exact hc) (by rw [eF]; unfold scs; rw [eT]; exact hK) (by rw [eF]; exact hp)
    rw [eF] at this
    exact this
  | cons t suf ih =>
    intro pre σ s eT eF hK hp hc hT
    have ht : t ∈ mvs W (cdN (cds W a0) h) := by
      rw [eT]
      exact List.mem_append_right _ List.mem_cons_self
    have hat : (mvs W (cdN (cds W a0) h))[pre.length]? = some t := by
      rw [eT, List.getElem?_append_right (Nat.le_refl _), Nat.sub_self]
      rfl
    have hpl := (List.getElem?_eq_some_iff.mp hat).1
    have pl := pos_lt hW ha hh ht
    have pc := cds_cl hW ha hh ht
    have hSσ := hS.fr (σ := σ0) (τ := σ) hc.1 rfl rfl
    have nl : nxt W.2.1 (cdN (cds W a0) h) t < 16384 := lt7 h7 swp_lt
    have hs : scs W (cds W a0) h = pre.map (fun t => pos (cds W a0) (nxt W.2.1 (cdN (cds W a0) h) t)) ++ pos (cds W a0) (nxt W.2.1 (cdN (cds W a0) h) t) :: suf.map (fun t => pos (cds W a0) (nxt W.2.1 (cdN (cds W a0) h) t)) := by
      unfold scs
      rw [eT, List.map_append, List.map_cons]
    obtain ⟨w1, w2, w3, w4, w5, w6⟩ := KI.edge hp hs pl hK
    have wi := in_few hW ha pl (cds W a0).length (Nat.le_refl _)
    have eK := hK.2.1 _ pl
    have wl : s.2.1 (pos (cds W a0) (nxt W.2.1 (cdN (cds W a0) h) t)) ≤ 60 := by omega
    have pt1 := hK.2.2.1 _ pl
    have plen : p < s.1.length := (List.getElem?_eq_some_iff.mp hp).1
    have slen : s.1.length < 630 := by omega
    have eT2 : mvs W (cdN (cds W a0) h) = (pre ++ [t]) ++ suf := by rw [eT]; simp
    have lp : (pre ++ [t]).length = pre.length + 1 := by simp
    have mp : (pre ++ [t]).map (fun t => pos (cds W a0) (nxt W.2.1 (cdN (cds W a0) h) t)) = pre.map (fun t => pos (cds W a0) (nxt W.2.1 (cdN (cds W a0) h) t)) ++ [pos (cds W a0) (nxt W.2.1 (cdN (cds W a0) h) t)] := by simp
    have eF2 : sF = (suf.map (fun t => pos (cds W a0) (nxt W.2.1 (cdN (cds W a0) h) t))).foldl (k1E h) (k1E h s (pos (cds W a0) (nxt W.2.1 (cdN (cds W a0) h) t))) := by
      rw [eF, List.map_cons, List.foldl_cons]
    have ih2 := fun υ => ih (pre ++ [t]) υ (k1E h s (pos (cds W a0) (nxt W.2.1 (cdN (cds W a0) h) t))) eT2 eF2 (by rw [mp]; exact w4) w5
    rw [lp] at ih2
    have k27 := (hc.2.1 _ pl).1
    have k28 := (hc.2.1 _ pl).2
    have h28 := (hc.2.1 _ hh).2
    have ptl : s.2.2 (pos (cds W a0) (nxt W.2.1 (cdN (cds W a0) h) t)) ≤ 700 := by
      have b1 : (if pre.map (fun t => pos (cds W a0) (nxt W.2.1 (cdN (cds W a0) h) t)) = [] then 0 else 1) ≤ 1 := by split <;> omega
      omega
    generalize eq : pos (cds W a0) (nxt W.2.1 (cdN (cds W a0) h) t) = q at *
    have e1 : nI (s.2.1 q) - 1 = nI (s.2.1 q - 1) := by
      have := nI_pred (s.2.1 q - 1)
      rw [show s.2.1 q - 1 + 1 = s.2.1 q by omega] at this
      exact this
    refine b_X7_longest_83 (by omega) ?_
    rw [hT.1, nI_clamp (n := pre.length) (by omega), (hT.2 _ t hat).2, nI_clamp (n := h) (by omega), nI_1 pre.length, nI_1 s.1.length, nI_clamp (n := s.1.length) (by omega)]
    have vq : vp_in (nI q) 630 := vp_in_nI (by omega) (by omega)
    have x27 : ar (sA (sA σ 28 q (nI (max (s.2.2 q) (s.2.2 h + 1)))) 27 q (nI (s.2.1 q - 1))) 27 q = nI (s.2.1 q - 1) := by rw [ar_sA, if_pos ⟨rfl, rfl⟩]
    have kk : ∀ υ, (∀ j, ar υ 27 j = if j = q then nI (s.2.1 q - 1) else ar σ 27 j) → (∀ j, ar υ 28 j = if j = q then nI (max (s.2.2 q) (s.2.2 h + 1)) else ar σ 28 j) → (∀ k x, (k1E h s q).1[k]? = some x → ar υ 29 k = nI x) → KCl (cds W a0) υ (k1E h s q) := by
      intro υ u27 u28 u29
      refine ⟨fun i hi => ?_, u29⟩
      rw [u27, u28]
      show _ = nI (upN s.2.1 q (s.2.1 q - 1) i) ∧ _ = nI (upN s.2.2 q (max (s.2.2 q) (s.2.2 h + 1)) i)
      unfold upN
      by_cases e : i = q
      · rw [if_pos e, if_pos e, if_pos e, if_pos e]
        exact ⟨rfl, rfl⟩
      · rw [if_neg e, if_neg e, if_neg e, if_neg e]
        exact hc.2.1 i hi
    refine ⟨fun z => absurd ((len (by omega) (by omega)).mp z) (by omega), fun _ => ⟨vp_in_nI (by omega) (by omega), c_pos (by omega) hW ha hSσ pc ?_⟩⟩
    rw [nI_clamp (n := q) (by omega), k27, k28, h28, e1, nI_1 (s.2.2 h), maxI (by omega) (by omega), x27]
    refine ⟨fun _ => ⟨vq, vp_in_nI (by omega) (by omega), vq, vq, vq, vq, fun z => ?_, fun z => ⟨fun y => absurd ((len (a := 630) (by omega) (by omega)).mp y) (by omega), fun _ => ⟨vp_in_nI (by omega) (by omega), ?_⟩⟩⟩, fun z => absurd (nneg (by omega)) z⟩
    · have z2 : ¬ s.2.1 q - 1 = 0 := fun w => z (by rw [w]; rfl)
      have eS : (k1E h s q).1 = s.1 := if_neg z2
      rw [eS] at ih2
      refine ih2 _ ⟨(hc.1.wA.wA).mono (by simp) (by simp), kk _ (fun j => by simp [ar_sA]) (fun j => by simp [ar_sA]) (fun k x hx => ?_)⟩ (hT.fr (Fr.rf.wA.wA) rfl rfl)
      rw [eS] at hx
      have := hc.2.2 k x hx
      rw [ar_sA, if_neg (fun w => absurd w.1 (by decide)), ar_sA, if_neg (fun w => absurd w.1 (by decide))]
      exact this
    · have z2 : s.2.1 q - 1 = 0 := nI_inj (b := 0) (by omega) (by omega) z
      have eS : (k1E h s q).1 = s.1 ++ [q] := if_pos z2
      rw [eS, List.length_append] at ih2
      refine ih2 _ ⟨(hc.1.wA.wA.wA).mono (by simp) (by simp), kk _ (fun j => by simp [ar_sA]) (fun j => by simp [ar_sA]) (fun k x hx => ?_)⟩ (hT.fr (Fr.rf.wA.wA.wA) rfl rfl)
      rw [eS] at hx
      rw [ar_sA]
      by_cases c : k < s.1.length
      · rw [List.getElem?_append_left c] at hx
        have := hc.2.2 k x hx
        rw [if_neg (by omega), ar_sA, if_neg (fun w => absurd w.1 (by decide)), ar_sA, if_neg (fun w => absurd w.1 (by decide))]
        exact this
      · have c2 : k = s.1.length := by
          have := (List.getElem?_eq_some_iff.mp hx).1
          simp at this
          omega
        rw [c2, List.getElem?_append_right (Nat.le_refl _), Nat.sub_self] at hx
        cases hx
        rw [if_pos ⟨rfl, c2⟩]
theorem c_kh30 {d : Nat} {k1 : Int32 → am_S → Prop} (hd : 4 ≤ d) (hW : wd_ok W) (hC : WC W σ0) (ha : a0 < 4 ^ W.2.1) (hS : CS σ0 (bf0 W a0)) : ∀ (f p most : Nat) (σ : am_S) (s : KS), 631 ≤ f + p → p ≤ s.1.length → most ≤ p → KI W (cds W a0) p [] s → KCls W a0 σ0 σ s → (∀ τ, Fr [1283] [21, 22, 23, 27, 28, 29] σ0 τ → k1 (kAns (cds W a0).length (kRun W (cds W a0) f p s most)) τ) →
    JI l g M_X7_longest d 30 [(0, .ref 19), (1, .ref 14), (2, .int (nI s.1.length)), (3, .int (nI most)), (4, .int (nI p))] [] σ k1
  | 0, p, most, σ, s, hf, hp, hm, hK, hc, H => by
    have l630 := (cds_len hW ha).2
    have := nodup_le (L := s.1) (M := List.range (cds W a0).length) hK.1.1 (fun x hx => List.mem_range.mpr (hK.1.2.1 x hx))
    rw [List.length_range] at this
    omega
  | f + 1, p, most, σ, s, hf, hp, hm, hK, hc, H => by
    have l630 := (cds_len hW ha).2
    have sl := nodup_le (L := s.1) (M := List.range (cds W a0).length) hK.1.1 (fun x hx => List.mem_range.mpr (hK.1.2.1 x hx))
    rw [List.length_range] at sl
    refine b_X7_longest_30 (by omega) ?_
    rw [hc.1.R 1224 rfl, CS_len hS]
    unfold kRun at H
    refine ⟨fun q => ?_, fun q => ⟨fun q3 => absurd ((len (a := 630) (by omega) (by omega)).mp q3) ?_, fun _ => ?_⟩⟩
    · have q2 : s.1.length ≤ p := (len (by omega) (by omega)).mp q
      rw [List.getElem?_eq_none q2] at H
      have H : ∀ τ, Fr [1283] [21, 22, 23, 27, 28, 29] σ0 τ → k1 (if s.1.length < (cds W a0).length then -2 else nI most) τ := H
      have := H σ hc.1
      refine ⟨fun z => ?_, fun z => ?_⟩
      · rw [if_neg (by have := (len (a := (cds W a0).length) (b := s.1.length) (by omega) (by omega)).mp z; omega)] at this
        exact this
      · rw [if_pos (by
          rcases Nat.lt_or_ge s.1.length (cds W a0).length with w | w
          · exact w
          · exact absurd ((len (a := (cds W a0).length) (b := s.1.length) (by omega) (by omega)).mpr w) z)] at this
        exact this
    · have : p < s.1.length := by
        rcases Nat.lt_or_ge p s.1.length with w | w
        · exact w
        · exact absurd ((len (by omega) (by omega)).mpr w) q
      omega
    · have q2 : p < s.1.length := by
        rcases Nat.lt_or_ge p s.1.length with w | w
        · exact w
        · exact absurd ((len (by omega) (by omega)).mpr w) q
      have e1 := List.getElem?_eq_getElem q2
      generalize s.1[p] = h at e1
      rw [e1] at H
      have H : ∀ τ, Fr [1283] [21, 22, 23, 27, 28, 29] σ0 τ → k1 (kAns (cds W a0).length (kRun W (cds W a0) f (p + 1) ((scs W (cds W a0) h).foldl (k1E h) s) (max most (s.2.2 h)))) τ := H
      have hh := hK.1.2.1 h (List.mem_of_getElem? e1)
      have ph := hK.2.2.2 h e1
      have vh : vp_in (nI h) 630 := vp_in_nI (by omega) (by omega)
      rw [nI_clamp (n := p) (by omega), hc.2.2 p h e1, nI_clamp (n := h) (by omega), (hc.2.1 h hh).2, hc.1.A 24 rfl, CS_cd hS hh, maxI (by omega) (by omega)]
      refine ⟨vp_in_nI (by omega) (by omega), vh, fun y ey => ⟨vh, ?_⟩⟩
      rw [ey]
      refine c_list (by omega) hW (hC.fr hc.1 rfl rfl) (cdN_lt hW ha hh) (fun τ fτ hT => ?_)
      have fT : Fr [1283] [21, 22, 23, 27, 28, 29] σ0 τ := (hc.1.tr fτ).mono (by simp) (by simp)
      refine c_kh83 (σ0 := σ0) (p := p) (most := max most (s.2.2 h)) (sF := (scs W (cds W a0) h).foldl (k1E h) s) (by omega) hW ha hS hh (fun υ hυ hKυ eυ => ?_) (mvs W (cdN (cds W a0) h)) [] τ s rfl rfl hK e1 ⟨fT, fun i hi => ?_, fun k x hx => ?_⟩ hT
      · refine c_kh30 hd hW hC ha hS f (p + 1) (max most (s.2.2 h)) υ _ (by omega) ?_ (by omega) (KI.next eυ hKυ) hυ H
        exact (List.getElem?_eq_some_iff.mp eυ).1
      · rw [fτ.A 27 rfl, fτ.A 28 rfl]
        exact hc.2.1 i hi
      · rw [fτ.A 29 rfl]
        exact hc.2.2 k x hx
/-- the start of the walk -/
def k0S (W : Wd) (C : List Nat) : KS := (if dg (cN W C 0) (List.range C.length) = 0 then [0] else [], fun i => dg (cN W C i) (List.range C.length), fun _ => 0)
theorem k0_KI {C : List Nat} (hC : 0 < C.length) : KI W C 0 [] (k0S W C) := by
  refine ⟨⟨?_, fun x hx => ?_, fun x hx => ?_⟩, fun i hi => ?_, fun i hi => Nat.zero_le _, fun x hx => Nat.zero_le _⟩
  · unfold k0S
    show (if _ then [0] else [] : List Nat).Nodup
    split
    · exact List.nodup_cons.mpr ⟨List.not_mem_nil, List.nodup_nil⟩
    · exact List.nodup_nil
  · obtain ⟨-, e⟩ := mem_if1.mp hx
    rw [e]
    exact hC
  · obtain ⟨z, e⟩ := mem_if1.mp hx
    rw [e]
    exact z
  · show dg (cN W C i) (List.range C.length) + dg (cN W C i) (List.take 0 _) + 0 = _
    rw [List.take_zero]
    unfold dg
    simp
theorem cds_pos (hW : wd_ok W) (ha : a0 < 4 ^ W.2.1) : 0 < (cds W a0).length ∧ cdN (cds W a0) 0 = a0 := by
  have h := bf0_root hW ha
  have h2 : (cds W a0)[0]? = some a0 := by
    unfold cds
    rw [List.getElem?_map, h]
    rfl
  have l := (List.getElem?_eq_some_iff.mp h2).1
  refine ⟨l, ?_⟩
  rw [cdN_at l] at h2
  exact Option.some.inj h2
theorem c_longest {d : Nat} {k1 : Int32 → am_S → Prop} (hd : 5 ≤ d) (hW : wd_ok W) (hC : WC W σ0) (ha : a0 < 4 ^ W.2.1) (hS : CS σ0 (bf0 W a0)) (H : ∀ τ, Fr [1283] [21, 22, 23, 27, 28, 29] σ0 τ → k1 (kAns (cds W a0).length (kRun W (cds W a0) 700 0 (k0S W (cds W a0)) 0)) τ) : CI l g M_X7_longest d [.ref 19, .ref 14] σ0 k1 := by
  obtain ⟨c0, -⟩ := cds_pos hW ha
  have few := in_few hW ha c0 (cds W a0).length (Nat.le_refl _)
  refine b_X7_longest_0 (by omega) (b_X7_countWays_0 (c_cw2 (by omega) hW hC ha hS (fun τ hτ => ?_) (cds W a0).length 0 σ0 (Nat.zero_add _) (Fr.rf.mono (by simp) (by simp)) (fun i hi => absurd hi (Nat.not_lt_zero i))))
  have e27 : ∀ i, i < (cds W a0).length → ar τ 27 i = nI (dg (cN W (cds W a0) i) (List.range (cds W a0).length)) ∧ ar τ 28 i = 0 := hτ.2
  have K0 := k0_KI (W := W) c0
  have fT : Fr [1283] [21, 22, 23, 27, 28, 29] σ0 τ := hτ.1.mono (by simp) (by simp)
  rw [(e27 0 c0).1]
  refine ⟨fun z => ?_, fun z => ?_⟩
  · have z2 : ¬ dg (cN W (cds W a0) 0) (List.range (cds W a0).length) = 0 := fun w => z (by rw [w]; rfl)
    have eS : (k0S W (cds W a0)).1 = [] := if_neg z2
    have := c_kh30 (l := l) (g := g) (σ0 := σ0) (d := d) (by omega) hW hC ha hS 700 0 0 τ (k0S W (cds W a0)) (by omega) (Nat.zero_le _) (Nat.le_refl _) K0 ⟨fT, e27, fun k x hx => by rw [eS] at hx; cases hx⟩ H
    rw [eS] at this
    exact this
  · have z2 : dg (cN W (cds W a0) 0) (List.range (cds W a0).length) = 0 := nI_inj (b := 0) (by omega) (by omega) z
    have eS : (k0S W (cds W a0)).1 = [0] := if_pos z2
    have := c_kh30 (l := l) (g := g) (σ0 := σ0) (d := d) (by omega) hW hC ha hS 700 0 0 (sA τ 29 0 0) (k0S W (cds W a0)) (by omega) (Nat.zero_le _) (Nat.le_refl _) K0 ⟨(fT.wA).mono (by simp) (by simp), fun i hi => ?_, fun k x hx => ?_⟩ H
    · rw [eS] at this
      exact this
    · rw [ar_sA, if_neg (fun w => absurd w.1 (by decide)), ar_sA, if_neg (fun w => absurd w.1 (by decide))]
      exact e27 i hi
    · rw [eS] at hx
      match k, hx with
      | 0, hx =>
        cases hx
        rw [ar_sA, if_pos ⟨rfl, rfl⟩]
        rfl
      | k + 1, hx => cases hx
end LongC
