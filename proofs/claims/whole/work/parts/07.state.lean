/-! the shape of all cells, and the heap as a function of its numbers -/
abbrev am_S : Type := (Nat → Int32) × (Nat → Nat → Int32) × (Nat → Nat → Int64)
abbrev am_Sh : Type := (Nat × List (Option Nat)) ⊕ (FieldType × Nat × List Nat)
def rg (σ : am_S) (r : Nat) : Int32 := σ.1 r
def ar (σ : am_S) (a i : Nat) : Int32 := σ.2.1 a i
def lr (σ : am_S) (a i : Nat) : Int64 := σ.2.2 a i
def sR (σ : am_S) (r : Nat) (v : Int32) : am_S := (fun j => if j = r then v else rg σ j, σ.2)
def sA (σ : am_S) (a i : Nat) (v : Int32) : am_S := (σ.1, fun b j => if b = a ∧ j = i then v else ar σ b j, σ.2.2)
def sL (σ : am_S) (a i : Nat) (v : Int64) : am_S := (σ.1, σ.2.1, fun b j => if b = a ∧ j = i then v else lr σ b j)
/-- n longs of row a from sp on come to row b from dp on -/
def sC (σ : am_S) (a sp b dp n : Nat) : am_S := (σ.1, σ.2.1, fun c j => if c = b ∧ dp ≤ j ∧ j < dp + n then lr σ a (sp + (j - dp)) else lr σ c j)
def am_fv (σ : am_S) (a k : Nat) (f : Option Nat) : Value := match f with
  | some b => .ref b
  | none => .int (rg σ (64 * a + k))
def am_cell (σ : am_S) (a : Nat) (s : am_Sh) : am_E := match s with
  | .inl (ci, fl) => .inr (ci, fl.mapIdx (am_fv σ a))
  | .inr (ty, n, rs) => .inl (ty, n, match ty with
    | .object _ => .inr (.inr (.inr (.inr (fun j => rs[j]?))))
    | .long => .inr (.inl (lr σ a))
    | _ => .inl (ar σ a))
def am_shp : List am_Sh := [.inl (11, [some 1, some 8, some 11, some 14, some 19, some 31, some 32, some 34, some 39, some 42, none, none]),
  .inl (2, [none, none, none, none, none, some 2, some 3, some 4, some 5, some 6, some 7]),
  .inr (.int, 5, []),
  .inr (.int, 5, []),
  .inr (.int, 5, []),
  .inr (.int, 7, []),
  .inr (.int, 7, []),
  .inr (.int, 7, []),
  .inl (10, [some 9, none, some 10, none, none, none]),
  .inr (.int, 120, []),
  .inr (.int, 121, []),
  .inl (4, [some 12, none, some 13, none]),
  .inr (.int, 121, []),
  .inr (.int, 121, []),
  .inl (6, [some 1, some 11, some 15, some 16, some 17, some 18]),
  .inr (.int, 5, []),
  .inr (.int, 5, []),
  .inr (.int, 7, []),
  .inr (.int, 35, []),
  .inl (7, [some 20, some 24, some 25, some 26, some 27, some 28, some 29, some 30, none]),
  .inl (9, [some 21, some 22, some 23, none]),
  .inr (.int, 60, []),
  .inr (.int, 60, []),
  .inr (.int, 4, []),
  .inr (.int, 630, []),
  .inr (.int, 630, []),
  .inr (.int, 630, []),
  .inr (.int, 630, []),
  .inr (.int, 630, []),
  .inr (.int, 630, []),
  .inr (.int, 2048, []),
  .inl (1, [none, none, none, none]),
  .inl (3, [some 33, none, none, none]),
  .inr (.int, 7, []),
  .inl (5, [some 35, some 36, some 37, some 38, none, none]),
  .inr (.int, 40, []),
  .inr (.int, 40, []),
  .inr (.int, 40, []),
  .inr (.int, 40, []),
  .inl (0, [some 40, none, some 41, none, none]),
  .inr (.int, 50, []),
  .inr (.int, 24, []),
  .inr (.object "SmallerOut$Shelf", 6, [43, 45, 47, 49, 51, 53]),
  .inl (8, [none, none, none, some 44]),
  .inr (.long, 60, []),
  .inl (8, [none, none, none, some 46]),
  .inr (.long, 60, []),
  .inl (8, [none, none, none, some 48]),
  .inr (.long, 60, []),
  .inl (8, [none, none, none, some 50]),
  .inr (.long, 60, []),
  .inl (8, [none, none, none, some 52]),
  .inr (.long, 60, []),
  .inl (8, [none, none, none, some 54]),
  .inr (.long, 60, []),
  .inl (12, [none, none, none, some 56, some 57, some 58, none, some 59, some 60, none, none, none, none, none, some 61, some 62, some 63, some 64, some 65, none, none, none, none, none, some 66, some 67, some 68, some 69, some 70, some 71, some 72, none, some 73, some 74, some 75, none, none, some 76, some 77, some 78, none, none, none, none, none, none, none, none, none, none, some 79, none, some 80, some 81, some 82, some 83, some 84]),
  .inr (.int, 5, []),
  .inr (.int, 5, []),
  .inr (.int, 5, []),
  .inr (.int, 7, []),
  .inr (.int, 7, []),
  .inr (.int, 40, []),
  .inr (.int, 40, []),
  .inr (.int, 40, []),
  .inr (.int, 40, []),
  .inr (.byte, 120, []),
  .inr (.byte, 260, []),
  .inr (.int, 260, []),
  .inr (.int, 2, []),
  .inr (.short, 122, []),
  .inr (.short, 122, []),
  .inr (.int, 6, []),
  .inr (.int, 130, []),
  .inr (.boolean, 245, []),
  .inr (.int, 5, []),
  .inr (.int, 5, []),
  .inr (.short, 16384, []),
  .inr (.short, 16384, []),
  .inr (.byte, 16384, []),
  .inr (.int, 50, []),
  .inr (.int, 24, []),
  .inr (.int, 6, []),
  .inr (.int, 6, []),
  .inr (.long, 360, []),
  .inr (.long, 60, [])]
theorem hp_ex : ∃ f : am_S → am_H, ∀ σ, f σ = am_shp.mapIdx (am_cell σ) := ⟨_, fun _ => rfl⟩
/-- chosen, so that nothing unfolds it by chance -/
noncomputable def hp : am_S → am_H := Classical.choose hp_ex
theorem hp_eq (σ : am_S) : hp σ = am_shp.mapIdx (am_cell σ) := Classical.choose_spec hp_ex σ
theorem hp_len (σ : am_S) : (hp σ).length = 85 := by
  rw [hp_eq]
  rw [List.length_mapIdx]
  rfl
theorem am_len_hp (σ1 σ : am_S) : (hp σ1).length = (hp σ).length + 0 := by
  have e1 := hp_len σ1
  have e2 := hp_len σ
  generalize (hp σ1).length = n1 at e1 ⊢
  generalize (hp σ).length = n2 at e2 ⊢
  omega
theorem hp_at {σ : am_S} {a : Nat} {s : am_Sh} (h : am_shp[a]? = some s) : (hp σ)[a]? = some (am_cell σ a s) := by
  rw [hp_eq]
  rw [List.getElem?_mapIdx, h]
  rfl
theorem am_small : ∀ s ∈ am_shp, ∀ ci fl, s = .inl (ci, fl) → fl.length ≤ 64 := by
  intro s hs ci fl e
  have h : am_shp.all (fun s => match s with | .inl (_, fl) => decide (fl.length ≤ 64) | _ => true) = true := by decide +kernel
  have := List.all_eq_true.mp h s hs
  subst e
  exact of_decide_eq_true this
theorem am_cell_eq {σ σ1 : am_S} {a : Nat} {s : am_Sh} (hs : s ∈ am_shp) (h1 : ∀ k, k < 64 → rg σ (64 * a + k) = rg σ1 (64 * a + k)) (h2 : ar σ a = ar σ1 a) (h3 : lr σ a = lr σ1 a) : am_cell σ a s = am_cell σ1 a s := by
  match s, hs with
  | .inl (ci, fl), hs =>
    show Sum.inr (ci, fl.mapIdx (am_fv σ a)) = Sum.inr (ci, fl.mapIdx (am_fv σ1 a))
    congr 2
    apply List.ext_getElem?
    intro k
    rw [List.getElem?_mapIdx, List.getElem?_mapIdx]
    cases hk : fl[k]? with
    | none => rfl
    | some f =>
      have hk1 : k < 64 := Nat.lt_of_lt_of_le (List.getElem?_eq_some_iff.mp hk).1 (am_small _ hs ci fl rfl)
      cases f with
      | some b => rfl
      | none =>
        show some (Value.int (rg σ (64 * a + k))) = some (Value.int (rg σ1 (64 * a + k)))
        rw [h1 k hk1]
  | .inr (ty, n, rs), hs =>
    show Sum.inl (ty, n, _) = Sum.inl (ty, n, _)
    rw [h2, h3]
theorem hp_set {σ σ1 : am_S} {a : Nat} {s : am_Sh} {c : am_E} (h : am_shp[a]? = some s) (hc : c = am_cell σ1 a s) (ho : ∀ b s1, b ≠ a → am_shp[b]? = some s1 → am_cell σ b s1 = am_cell σ1 b s1) : (hp σ).set a c = hp σ1 := by
  apply List.ext_getElem?
  intro b
  rw [hp_eq, hp_eq]
  rw [List.getElem?_set, List.getElem?_mapIdx, List.getElem?_mapIdx, List.length_mapIdx]
  by_cases hb : a = b
  · subst hb
    have hl : a < am_shp.length := (List.getElem?_eq_some_iff.mp h).1
    rw [h, hc]
    simp [hl]
  · rw [if_neg hb]
    cases hs : am_shp[b]? with
    | none => rfl
    | some s1 => exact congrArg some (ho b s1 (fun e => hb e.symm) hs)
theorem rg_sR (σ : am_S) (r j : Nat) (v : Int32) : rg (sR σ r v) j = if j = r then v else rg σ j := rfl
theorem ar_sR (σ : am_S) (r : Nat) (v : Int32) : ar (sR σ r v) = ar σ := rfl
theorem lr_sR (σ : am_S) (r : Nat) (v : Int32) : lr (sR σ r v) = lr σ := rfl
theorem rg_sA (σ : am_S) (a i : Nat) (v : Int32) : rg (sA σ a i v) = rg σ := rfl
theorem ar_sA (σ : am_S) (a i b j : Nat) (v : Int32) : ar (sA σ a i v) b j = if b = a ∧ j = i then v else ar σ b j := rfl
theorem lr_sA (σ : am_S) (a i : Nat) (v : Int32) : lr (sA σ a i v) = lr σ := rfl
theorem rg_sL (σ : am_S) (a i : Nat) (v : Int64) : rg (sL σ a i v) = rg σ := rfl
theorem ar_sL (σ : am_S) (a i : Nat) (v : Int64) : ar (sL σ a i v) = ar σ := rfl
theorem lr_sL (σ : am_S) (a i b j : Nat) (v : Int64) : lr (sL σ a i v) b j = if b = a ∧ j = i then v else lr σ b j := rfl
theorem rg_sC (σ : am_S) (a sp b dp n : Nat) : rg (sC σ a sp b dp n) = rg σ := rfl
theorem ar_sC (σ : am_S) (a sp b dp n : Nat) : ar (sC σ a sp b dp n) = ar σ := rfl
theorem lr_sC (σ : am_S) (a sp b dp n c j : Nat) : lr (sC σ a sp b dp n) c j = if c = b ∧ dp ≤ j ∧ j < dp + n then lr σ a (sp + (j - dp)) else lr σ c j := rfl
theorem hp_sR {σ : am_S} {a k ci : Nat} {fl : List (Option Nat)} {v : Int32} (hs : am_shp[a]? = some (.inl (ci, fl))) (hk : fl[k]? = some none) : (hp σ).set a (.inr (ci, (fl.mapIdx (am_fv σ a)).set k (.int v))) = hp (sR σ (64 * a + k) v) := by
  have hk1 : k < fl.length := (List.getElem?_eq_some_iff.mp hk).1
  have hk2 : k < 64 := Nat.lt_of_lt_of_le hk1 (am_small _ (List.mem_of_getElem? hs) ci fl rfl)
  refine hp_set hs ?_ (fun b s1 hb hs1 => am_cell_eq (List.mem_of_getElem? hs1) (fun j hj => ?_) rfl rfl)
  · show Sum.inr (ci, _) = Sum.inr (ci, fl.mapIdx (am_fv (sR σ (64 * a + k) v) a))
    congr 2
    apply List.ext_getElem?
    intro j
    rw [List.getElem?_set, List.getElem?_mapIdx, List.getElem?_mapIdx, List.length_mapIdx]
    by_cases hj : k = j
    · subst hj
      rw [if_pos rfl, if_pos hk1, hk]
      show some (Value.int v) = some (Value.int (rg (sR σ (64 * a + k) v) (64 * a + k)))
      rw [rg_sR, if_pos rfl]
    · rw [if_neg hj]
      cases hf : fl[j]? with
      | none => rfl
      | some f =>
        cases f with
        | some b => rfl
        | none =>
          show some (Value.int (rg σ (64 * a + j))) = some (Value.int (rg (sR σ (64 * a + k) v) (64 * a + j)))
          rw [rg_sR, if_neg (by omega)]
  · rw [rg_sR, if_neg (by omega)]
theorem hp_sA {σ : am_S} {a i n : Nat} {v : Int32} {ty : FieldType} {rs : List Nat} (hs : am_shp[a]? = some (.inr (ty, n, rs))) (hty : am_cell (sA σ a i v) a (.inr (ty, n, rs)) = .inl (ty, n, .inl (upd (ar σ a) i v))) : (hp σ).set a (.inl (ty, n, .inl (upd (ar σ a) i v))) = hp (sA σ a i v) := by
  refine hp_set hs hty.symm (fun b s1 hb hs1 => am_cell_eq (List.mem_of_getElem? hs1) (fun j hj => rfl) ?_ rfl)
  funext j
  rw [ar_sA, if_neg (fun q => hb q.1)]
theorem ar_upd (σ : am_S) (a i : Nat) (v : Int32) : ar (sA σ a i v) a = upd (ar σ a) i v := by
  funext j
  rw [ar_sA]
  unfold upd
  by_cases h : j = i
  · rw [if_pos ⟨rfl, h⟩, if_pos h]
  · rw [if_neg (fun q => h q.2), if_neg h]
theorem hp_sL {σ : am_S} {a i n : Nat} {v : Int64} {rs : List Nat} (hs : am_shp[a]? = some (.inr (.long, n, rs))) : (hp σ).set a (.inl (.long, n, .inr (.inl (vp_updL (lr σ a) i v)))) = hp (sL σ a i v) := by
  refine hp_set hs ?_ (fun b s1 hb hs1 => am_cell_eq (List.mem_of_getElem? hs1) (fun j hj => rfl) rfl ?_)
  · show _ = Sum.inl (FieldType.long, n, Sum.inr (Sum.inl (lr (sL σ a i v) a)))
    congr 5
    funext j
    rw [lr_sL]
    unfold vp_updL
    by_cases h : j = i
    · rw [if_pos h, if_pos ⟨rfl, h⟩]
    · rw [if_neg h, if_neg (fun q => h q.2)]
  · funext j
    rw [lr_sL, if_neg (fun q => hb q.1)]
theorem hp_sC {σ : am_S} {a b sp dp n z : Nat} {rs : List Nat} (hs : am_shp[b]? = some (.inr (.long, n, rs))) : (hp σ).set b (.inl (.long, n, .inr (.inl (va_cpy (lr σ a) (lr σ b) sp dp z)))) = hp (sC σ a sp b dp z) := by
  refine hp_set hs ?_ (fun b s1 hb hs1 => am_cell_eq (List.mem_of_getElem? hs1) (fun j hj => rfl) rfl ?_)
  · show _ = Sum.inl (FieldType.long, n, Sum.inr (Sum.inl (lr (sC σ a sp b dp z) b)))
    congr 5
    funext j
    rw [lr_sC]
    unfold va_cpy
    by_cases h : dp ≤ j ∧ j < dp + z
    · rw [if_pos h, if_pos ⟨rfl, h⟩]
    · rw [if_neg h, if_neg (fun q => h q.2)]
  · funext j
    rw [lr_sC, if_neg (fun q => hb q.1)]
section StateJ
variable {l : Launch} {g : am_G} {x : am_X} {pc : Nat} {lv : List (Nat × Value)} {st : List Value} {σ : am_S} {u w : Nat} {K : Option Value → am_H → Prop}
theorem s_geti {n a ci k : Nat} {fl : List (Option Nat)} (r : Nat) (v : Int32) (hd : decode x.1.2.1 pc = .ok (.getfield n, 3)) (hf : am_fl x.1.1.cls n ci k) (hs : am_shp[a]? = some (.inl (ci, fl))) (hk : fl[k]? = some none) (hr : 64 * a + k = r) (hv : rg σ r = v) (kk : J l g x (pc + 3) lv (.int v :: st) (hp σ) u w K) : J l g x pc lv (.ref a :: st) (hp σ) u w K := by
  subst hr
  subst hv
  refine j_get hd hf (am_clok ci) (hp_at hs) (v := .int (rg σ (64 * a + k))) ?_ kk
  rw [List.getElem?_mapIdx, hk]
  rfl
theorem s_getr {n a ci k b : Nat} {fl : List (Option Nat)} (hd : decode x.1.2.1 pc = .ok (.getfield n, 3)) (hf : am_fl x.1.1.cls n ci k) (hs : am_shp[a]? = some (.inl (ci, fl))) (hk : fl[k]? = some (some b)) (kk : J l g x (pc + 3) lv (.ref b :: st) (hp σ) u w K) : J l g x pc lv (.ref a :: st) (hp σ) u w K := by
  refine j_get hd hf (am_clok ci) (hp_at hs) (v := .ref b) ?_ kk
  rw [List.getElem?_mapIdx, hk]
  rfl
def am_fp (ci k : Nat) (ty : FieldType) : Prop := ∀ C T N, am_cl[ci]? = some (C, T, N) → (T k).2.2.2 = false ∧ parseFieldDescriptor (T k).2.2.1 = some ty
theorem am_fp_of {ci k N : Nat} {C : String} {T : u_T} {ty : FieldType} (h : am_cl[ci]? = some (C, T, N)) (h1 : (T k).2.2.2 = false) (h2 : parseFieldDescriptor (T k).2.2.1 = some ty) : am_fp ci k ty := by
  intro C1 T1 N1 e
  cases h.symm.trans e
  exact ⟨h1, h2⟩
theorem s_put {n a ci k : Nat} {fl : List (Option Nat)} {v : Int32} {ty : FieldType} (r : Nat) (hd : decode x.1.2.1 pc = .ok (.putfield n, 3)) (hf : am_fl x.1.1.cls n ci k) (hs : am_shp[a]? = some (.inl (ci, fl))) (hk : fl[k]? = some none) (hr : 64 * a + k = r) (hp1 : am_fp ci k ty) (hn : narrow ty (.int v) = .int v) (hfit : fits ty (.int v) = true) (kk : J l g x (pc + 3) lv st (hp (sR σ r v)) u w K) : J l g x pc lv (.int v :: .ref a :: st) (hp σ) u w K := by
  subst hr
  refine j_put hd hf (am_clok ci) (hp_at hs) (fun C T N h => ⟨Or.inl (hp1 C T N h).1, (hp1 C T N h).2⟩) hn hfit ?_ ?_
  · rw [List.length_mapIdx]
    exact (List.getElem?_eq_some_iff.mp hk).1
  · rw [hp_sR hs hk]
    exact kk
theorem s_iald {a n : Nat} {i : Int32} {rs : List Nat} (v : Int32) (hd : decode x.1.2.1 pc = .ok (.iaload, 1)) (hs : am_shp[a]? = some (.inr (.int, n, rs))) (hi : vp_in i n) (hv : ar σ a i.toNatClampNeg = v) (kk : J l g x (pc + 1) lv (.int v :: st) (hp σ) u w K) : J l g x pc lv (.int i :: .ref a :: st) (hp σ) u w K := by
  subst hv
  exact j_iald hd (hp_at hs) hi kk
theorem s_bald {a n : Nat} {i : Int32} {rs : List Nat} (v : Int32) (hd : decode x.1.2.1 pc = .ok (.baload, 1)) (hs : am_shp[a]? = some (.inr (.byte, n, rs))) (hi : vp_in i n) (hv : ar σ a i.toNatClampNeg = v) (kk : J l g x (pc + 1) lv (.int v :: st) (hp σ) u w K) : J l g x pc lv (.int i :: .ref a :: st) (hp σ) u w K := by
  subst hv
  exact j_bald hd (hp_at hs) hi kk
theorem s_sald {a n : Nat} {i : Int32} {rs : List Nat} (v : Int32) (hd : decode x.1.2.1 pc = .ok (.saload, 1)) (hs : am_shp[a]? = some (.inr (.short, n, rs))) (hi : vp_in i n) (hv : ar σ a i.toNatClampNeg = v) (kk : J l g x (pc + 1) lv (.int v :: st) (hp σ) u w K) : J l g x pc lv (.int i :: .ref a :: st) (hp σ) u w K := by
  subst hv
  exact j_sald hd (hp_at hs) hi kk
theorem s_zald {a n : Nat} {i : Int32} {rs : List Nat} (v : Int32) (hd : decode x.1.2.1 pc = .ok (.baload, 1)) (hs : am_shp[a]? = some (.inr (.boolean, n, rs))) (hi : vp_in i n) (hv : ar σ a i.toNatClampNeg = v) (kk : J l g x (pc + 1) lv (.int v :: st) (hp σ) u w K) : J l g x pc lv (.int i :: .ref a :: st) (hp σ) u w K := by
  subst hv
  exact j_zald hd (hp_at hs) hi kk
theorem s_lald {a n : Nat} {i : Int32} {rs : List Nat} (v : Int64) (hd : decode x.1.2.1 pc = .ok (.laload, 1)) (hs : am_shp[a]? = some (.inr (.long, n, rs))) (hi : vp_in i n) (hv : lr σ a i.toNatClampNeg = v) (kk : J l g x (pc + 1) lv (.long v :: st) (hp σ) u w K) : J l g x pc lv (.int i :: .ref a :: st) (hp σ) u w K := by
  subst hv
  exact j_lald hd (hp_at hs) hi kk
theorem s_iast {a n : Nat} {i v : Int32} {rs : List Nat} (hd : decode x.1.2.1 pc = .ok (.iastore, 1)) (hs : am_shp[a]? = some (.inr (.int, n, rs))) (hi : vp_in i n) (kk : J l g x (pc + 1) lv st (hp (sA σ a i.toNatClampNeg v)) u w K) : J l g x pc lv (.int v :: .int i :: .ref a :: st) (hp σ) u w K := by
  refine j_iast hd (hp_at hs) hi ?_
  rw [hp_sA hs (by show Sum.inl (_, n, Sum.inl (ar (sA σ a i.toNatClampNeg v) a)) = _; rw [ar_upd])]
  exact kk
theorem s_bast {a n : Nat} {i v : Int32} {rs : List Nat} (hd : decode x.1.2.1 pc = .ok (.bastore, 1)) (hs : am_shp[a]? = some (.inr (.byte, n, rs))) (hi : vp_in i n) (kk : J l g x (pc + 1) lv st (hp (sA σ a i.toNatClampNeg (vp_nar .byte v))) u w K) : J l g x pc lv (.int v :: .int i :: .ref a :: st) (hp σ) u w K := by
  refine j_bast hd (hp_at hs) hi ?_
  rw [hp_sA hs (by show Sum.inl (_, n, Sum.inl (ar (sA σ a i.toNatClampNeg (vp_nar .byte v)) a)) = _; rw [ar_upd])]
  exact kk
theorem s_sast {a n : Nat} {i v : Int32} {rs : List Nat} (hd : decode x.1.2.1 pc = .ok (.sastore, 1)) (hs : am_shp[a]? = some (.inr (.short, n, rs))) (hi : vp_in i n) (kk : J l g x (pc + 1) lv st (hp (sA σ a i.toNatClampNeg (vp_nar .short v))) u w K) : J l g x pc lv (.int v :: .int i :: .ref a :: st) (hp σ) u w K := by
  refine j_sast hd (hp_at hs) hi ?_
  rw [hp_sA hs (by show Sum.inl (_, n, Sum.inl (ar (sA σ a i.toNatClampNeg (vp_nar .short v)) a)) = _; rw [ar_upd])]
  exact kk
theorem s_zast {a n : Nat} {i v : Int32} {rs : List Nat} (hd : decode x.1.2.1 pc = .ok (.bastore, 1)) (hs : am_shp[a]? = some (.inr (.boolean, n, rs))) (hi : vp_in i n) (kk : J l g x (pc + 1) lv st (hp (sA σ a i.toNatClampNeg (vp_nar .boolean v))) u w K) : J l g x pc lv (.int v :: .int i :: .ref a :: st) (hp σ) u w K := by
  refine j_zast hd (hp_at hs) hi ?_
  rw [hp_sA hs (by show Sum.inl (_, n, Sum.inl (ar (sA σ a i.toNatClampNeg (vp_nar .boolean v)) a)) = _; rw [ar_upd])]
  exact kk
theorem s_last {a n : Nat} {i : Int32} {v : Int64} {rs : List Nat} (hd : decode x.1.2.1 pc = .ok (.lastore, 1)) (hs : am_shp[a]? = some (.inr (.long, n, rs))) (hi : vp_in i n) (kk : J l g x (pc + 1) lv st (hp (sL σ a i.toNatClampNeg v)) u w K) : J l g x pc lv (.long v :: .int i :: .ref a :: st) (hp σ) u w K := by
  refine j_last hd (hp_at hs) hi ?_
  rw [hp_sL hs]
  exact kk
theorem s_aald {a n b : Nat} {i : Int32} {rs : List Nat} (hd : decode x.1.2.1 pc = .ok (.aaload, 1)) (hs : am_shp[a]? = some (.inr (.object "SmallerOut$Shelf", n, rs))) (hi : vp_in i n) (hb : rs[i.toNatClampNeg]? = some b) (kk : J l g x (pc + 1) lv (.ref b :: st) (hp σ) u w K) : J l g x pc lv (.int i :: .ref a :: st) (hp σ) u w K :=
  j_aald hd (hp_at hs) hi hb kk
theorem s_alen {a n t0 : Nat} {ty : FieldType} {rs : List Nat} {v : Int32} (hd : decode x.1.2.1 pc = .ok (.arraylength, 1)) (hs : am_shp[a]? = some (.inr (ty, n, rs))) (ht : (am_tys g)[t0]? = some (g.2.1 ty, ty)) (hv : Int32.ofNat n = v) (k : J l g x (pc + 1) lv (.int v :: st) (hp σ) u w K) : J l g x pc lv (.ref a :: st) (hp σ) u w K :=
  j_alen (n := 0) hd (hp_at hs) ht hv k
theorem s_copyl {n a b n0 n1 : Nat} {rs rs1 : List Nat} {sp dp z : Int32} (hd : decode x.1.2.1 pc = .ok (.invokestatic n, 3)) (hws : ∀ z ∈ ([.methodLink x.1.1.cls n arraycopyName, .native arraycopyName, .static arraycopyName, .initialized "java/lang/System"] : List Cond), z ∈ am_AW) (hd1 : 1 ≤ x.2.1) (hst : st = []) (ha : am_shp[a]? = some (.inr (.long, n0, rs))) (hb : am_shp[b]? = some (.inr (.long, n1, rs1))) (h1 : ¬ sp < 0) (h2 : ¬ dp < 0) (h3 : ¬ z < 0) (h4 : sp.toNatClampNeg + z.toNatClampNeg ≤ n0) (h5 : dp.toNatClampNeg + z.toNatClampNeg ≤ n1) (k : J l g x (pc + 3) lv st (hp (sC σ a sp.toNatClampNeg b dp.toNatClampNeg z.toNatClampNeg)) u w K) : J l g x pc lv (.int z :: .int dp :: .ref b :: .int sp :: .ref a :: st) (hp σ) u w K := by
  refine j_copyl hd hws hd1 hst (hp_at ha) (hp_at hb) h1 h2 h3 h4 h5 ?_
  rw [hp_sC hb]
  exact k
/-- calls that answer an int, a long, nothing; and the same from a place inside -/
def kI (k : Int32 → am_S → Prop) : Option Value → am_H → Prop := fun v h => ∃ r σ1, v = some (.int r) ∧ h = hp σ1 ∧ k r σ1
def kL (k : Int64 → am_S → Prop) : Option Value → am_H → Prop := fun v h => ∃ r σ1, v = some (.long r) ∧ h = hp σ1 ∧ k r σ1
def kV (k : am_S → Prop) : Option Value → am_H → Prop := fun v h => ∃ σ1, v = none ∧ h = hp σ1 ∧ k σ1
def CI (l : Launch) (g : am_G) (M : am_M) (d : Nat) (as : List Value) (σ : am_S) (k : Int32 → am_S → Prop) : Prop := Cal l g (M, d, 0, 0) as (hp σ) (kI k)
def CL (l : Launch) (g : am_G) (M : am_M) (d : Nat) (as : List Value) (σ : am_S) (k : Int64 → am_S → Prop) : Prop := Cal l g (M, d, 0, 0) as (hp σ) (kL k)
def CV (l : Launch) (g : am_G) (M : am_M) (d : Nat) (as : List Value) (σ : am_S) (k : am_S → Prop) : Prop := Cal l g (M, d, 0, 0) as (hp σ) (kV k)
def JI (l : Launch) (g : am_G) (M : am_M) (d pc : Nat) (lv : List (Nat × Value)) (st : List Value) (σ : am_S) (k : Int32 → am_S → Prop) : Prop := J l g (M, d, 0, 0) pc lv st (hp σ) 0 0 (kI k)
def JL (l : Launch) (g : am_G) (M : am_M) (d pc : Nat) (lv : List (Nat × Value)) (st : List Value) (σ : am_S) (k : Int64 → am_S → Prop) : Prop := J l g (M, d, 0, 0) pc lv st (hp σ) 0 0 (kL k)
def JV (l : Launch) (g : am_G) (M : am_M) (d pc : Nat) (lv : List (Nat × Value)) (st : List Value) (σ : am_S) (k : am_S → Prop) : Prop := J l g (M, d, 0, 0) pc lv st (hp σ) 0 0 (kV k)
theorem J.ret (v : Option Value) {h : am_H} (hr : am_ret x.1 pc v) (k : K v h) : J l g x pc lv v.toList h u w K := by
  intro p e R s m args below meth c Q H locs ls F I hlv hret
  rw [am_vs_ret hr]
  exact hret v h u w pc H locs ls k I hr
theorem s_ireti {i : Int32} {k : Int32 → am_S → Prop} (hd : decode x.1.2.1 pc = .ok (.ireturn, 1)) (hm : x.1.2.2.2 = some .int) (kk : k i σ) : J l g x pc lv [.int i] (hp σ) u w (kI k) := J.ret (some (.int i)) ⟨hd, .int, hm, rfl⟩ ⟨i, σ, rfl, rfl, kk⟩
theorem s_iretz {i : Int32} {k : Int32 → am_S → Prop} (hd : decode x.1.2.1 pc = .ok (.ireturn, 1)) (hm : x.1.2.2.2 = some .boolean) (hi : narrow .boolean (.int i) = .int i) (kk : k i σ) : J l g x pc lv [.int i] (hp σ) u w (kI k) := J.ret (some (.int i)) ⟨hd, .boolean, hm, hi⟩ ⟨i, σ, rfl, rfl, kk⟩
theorem s_lret {i : Int64} {k : Int64 → am_S → Prop} (hd : decode x.1.2.1 pc = .ok (.lreturn, 1)) (hm : x.1.2.2.2 = some .long) (kk : k i σ) : J l g x pc lv [.long i] (hp σ) u w (kL k) := J.ret (some (.long i)) ⟨hd, hm⟩ ⟨i, σ, rfl, rfl, kk⟩
theorem s_vret {k : am_S → Prop} (hd : decode x.1.2.1 pc = .ok (.return_, 1)) (hm : x.1.2.2.2 = none) (kk : k σ) : J l g x pc lv [] (hp σ) u w (kV k) := J.ret none ⟨hd, hm⟩ ⟨σ, rfl, rfl, kk⟩
theorem J.mono {h : am_H} {K2 : Option Value → am_H → Prop} (hk : ∀ v h1, K v h1 → K2 v h1) (k : J l g x pc lv st h u w K) : J l g x pc lv st h u w K2 := by
  intro p e R s m args below meth c Q H locs ls F I hlv hret
  exact k p e R s m args below meth c Q H locs ls F I hlv (fun v h1 u1 w1 pc1 H1 locs1 ls1 hK => hret v h1 u1 w1 pc1 H1 locs1 ls1 (hk v h1 hK))
theorem CI.mono {M : am_M} {d : Nat} {as : List Value} {k k2 : Int32 → am_S → Prop} (hC : CI l g M d as σ k) (hk : ∀ r σ1, k r σ1 → k2 r σ1) : CI l g M d as σ k2 := J.mono (fun v h1 ⟨r, σ1, a, b, q⟩ => ⟨r, σ1, a, b, hk r σ1 q⟩) hC
theorem CL.mono {M : am_M} {d : Nat} {as : List Value} {k k2 : Int64 → am_S → Prop} (hC : CL l g M d as σ k) (hk : ∀ r σ1, k r σ1 → k2 r σ1) : CL l g M d as σ k2 := J.mono (fun v h1 ⟨r, σ1, a, b, q⟩ => ⟨r, σ1, a, b, hk r σ1 q⟩) hC
theorem CV.mono {M : am_M} {d : Nat} {as : List Value} {k k2 : am_S → Prop} (hC : CV l g M d as σ k) (hk : ∀ σ1, k σ1 → k2 σ1) : CV l g M d as σ k2 := J.mono (fun v h1 ⟨σ1, a, b, q⟩ => ⟨σ1, a, b, hk σ1 q⟩) hC
theorem s_callV_i {M1 : am_M} {n idx a ci : Nat} {as : List Value} {fl : List (Option Nat)} {T : u_T} {N : Nat} (hd : decode x.1.2.1 pc = .ok (.invokevirtual idx, 3)) (hG : am_good M1) (hws : ∀ z ∈ ([.methodLink x.1.1.cls idx M1.1, .instanceMethod M1.1, .selects M1.1.cls M1.1 M1.1] : List Cond), z ∈ am_AW) (hn : (parseMethodDescriptor M1.1.desc).map (fun d => d.parameters.length) = some n) (hlen : as.length = n) (hL : (lg_sl (.ref a :: as)).length ≤ M1.2.2.1) (hs : am_shp[a]? = some (.inl (ci, fl))) (hci : am_cl[ci]? = some (M1.1.cls, T, N)) (hd1 : 1 ≤ x.2.1) (hcat : (st.map fun v => v.category).sum ≤ 8) (hu : u ≤ x.2.2.1) (hw : w ≤ x.2.2.2) (hC : CI l g M1 (x.2.1 - 1) (.ref a :: as) σ (fun r σ1 => J l g x (pc + 3) lv (.int r :: st) (hp σ1) u w K)) : J l g x pc lv (as.reverse ++ .ref a :: st) (hp σ) u w K := by
  refine j_callV (K1 := kI (fun r σ1 => J l g x (pc + 3) lv (.int r :: st) (hp σ1) u w K)) (cm := 0) (sm := 0) hd hC hG hws hn hlen hL (hp_at hs) hci hd1 hcat hu hw ?_
  intro v h1 hk1
  obtain ⟨r, σ1, e1, e2, q⟩ := hk1
  subst e1
  subst e2
  exact ⟨am_len_hp σ1 σ, q⟩
theorem s_callS_i {M1 : am_M} {n idx : Nat} {as : List Value} (hd : decode x.1.2.1 pc = .ok (.invokestatic idx, 3)) (hG : am_good M1) (hws : ∀ z ∈ ([.methodLink x.1.1.cls idx M1.1, .static M1.1] : List Cond), z ∈ am_AW) (hn : (parseMethodDescriptor M1.1.desc).map (fun d => d.parameters.length) = some n) (hlen : as.length = n) (hL : (lg_sl as).length ≤ M1.2.2.1) (hd1 : 1 ≤ x.2.1) (hcat : (st.map fun v => v.category).sum ≤ 8) (hC : CI l g M1 (x.2.1 - 1) as σ (fun r σ1 => J l g x (pc + 3) lv (.int r :: st) (hp σ1) u w K)) : J l g x pc lv (as.reverse ++ st) (hp σ) u w K := by
  refine j_callS (K1 := kI (fun r σ1 => J l g x (pc + 3) lv (.int r :: st) (hp σ1) u w K)) hd hC hG hws hn hlen hL hd1 hcat ?_
  intro v h1 hk1
  obtain ⟨r, σ1, e1, e2, q⟩ := hk1
  subst e1
  subst e2
  exact ⟨am_len_hp σ1 σ, q⟩
theorem s_callSN_i {M1 : am_M} {n idx : Nat} {as : List Value} (host : String) (hd : decode x.1.2.1 pc = .ok (.invokestatic idx, 3)) (hG : am_good M1) (hws : ∀ z ∈ ([.static M1.1] : List Cond), z ∈ am_AW) (hne : Cond.methodLinkNest x.1.1.cls idx M1.1 host ∈ am_nest) (hn : (parseMethodDescriptor M1.1.desc).map (fun d => d.parameters.length) = some n) (hlen : as.length = n) (hL : (lg_sl as).length ≤ M1.2.2.1) (hd1 : 1 ≤ x.2.1) (hcat : (st.map fun v => v.category).sum ≤ 8) (hC : CI l g M1 (x.2.1 - 1) as σ (fun r σ1 => J l g x (pc + 3) lv (.int r :: st) (hp σ1) u w K)) : J l g x pc lv (as.reverse ++ st) (hp σ) u w K := by
  refine j_callSN (K1 := kI (fun r σ1 => J l g x (pc + 3) lv (.int r :: st) (hp σ1) u w K)) host hd hC hG hws hne hn hlen hL hd1 hcat ?_
  intro v h1 hk1
  obtain ⟨r, σ1, e1, e2, q⟩ := hk1
  subst e1
  subst e2
  exact ⟨am_len_hp σ1 σ, q⟩
theorem s_callV_l {M1 : am_M} {n idx a ci : Nat} {as : List Value} {fl : List (Option Nat)} {T : u_T} {N : Nat} (hd : decode x.1.2.1 pc = .ok (.invokevirtual idx, 3)) (hG : am_good M1) (hws : ∀ z ∈ ([.methodLink x.1.1.cls idx M1.1, .instanceMethod M1.1, .selects M1.1.cls M1.1 M1.1] : List Cond), z ∈ am_AW) (hn : (parseMethodDescriptor M1.1.desc).map (fun d => d.parameters.length) = some n) (hlen : as.length = n) (hL : (lg_sl (.ref a :: as)).length ≤ M1.2.2.1) (hs : am_shp[a]? = some (.inl (ci, fl))) (hci : am_cl[ci]? = some (M1.1.cls, T, N)) (hd1 : 1 ≤ x.2.1) (hcat : (st.map fun v => v.category).sum ≤ 8) (hu : u ≤ x.2.2.1) (hw : w ≤ x.2.2.2) (hC : CL l g M1 (x.2.1 - 1) (.ref a :: as) σ (fun r σ1 => J l g x (pc + 3) lv (.long r :: st) (hp σ1) u w K)) : J l g x pc lv (as.reverse ++ .ref a :: st) (hp σ) u w K := by
  refine j_callV (K1 := kL (fun r σ1 => J l g x (pc + 3) lv (.long r :: st) (hp σ1) u w K)) (cm := 0) (sm := 0) hd hC hG hws hn hlen hL (hp_at hs) hci hd1 hcat hu hw ?_
  intro v h1 hk1
  obtain ⟨r, σ1, e1, e2, q⟩ := hk1
  subst e1
  subst e2
  exact ⟨am_len_hp σ1 σ, q⟩
theorem s_callS_l {M1 : am_M} {n idx : Nat} {as : List Value} (hd : decode x.1.2.1 pc = .ok (.invokestatic idx, 3)) (hG : am_good M1) (hws : ∀ z ∈ ([.methodLink x.1.1.cls idx M1.1, .static M1.1] : List Cond), z ∈ am_AW) (hn : (parseMethodDescriptor M1.1.desc).map (fun d => d.parameters.length) = some n) (hlen : as.length = n) (hL : (lg_sl as).length ≤ M1.2.2.1) (hd1 : 1 ≤ x.2.1) (hcat : (st.map fun v => v.category).sum ≤ 8) (hC : CL l g M1 (x.2.1 - 1) as σ (fun r σ1 => J l g x (pc + 3) lv (.long r :: st) (hp σ1) u w K)) : J l g x pc lv (as.reverse ++ st) (hp σ) u w K := by
  refine j_callS (K1 := kL (fun r σ1 => J l g x (pc + 3) lv (.long r :: st) (hp σ1) u w K)) hd hC hG hws hn hlen hL hd1 hcat ?_
  intro v h1 hk1
  obtain ⟨r, σ1, e1, e2, q⟩ := hk1
  subst e1
  subst e2
  exact ⟨am_len_hp σ1 σ, q⟩
theorem s_callSN_l {M1 : am_M} {n idx : Nat} {as : List Value} (host : String) (hd : decode x.1.2.1 pc = .ok (.invokestatic idx, 3)) (hG : am_good M1) (hws : ∀ z ∈ ([.static M1.1] : List Cond), z ∈ am_AW) (hne : Cond.methodLinkNest x.1.1.cls idx M1.1 host ∈ am_nest) (hn : (parseMethodDescriptor M1.1.desc).map (fun d => d.parameters.length) = some n) (hlen : as.length = n) (hL : (lg_sl as).length ≤ M1.2.2.1) (hd1 : 1 ≤ x.2.1) (hcat : (st.map fun v => v.category).sum ≤ 8) (hC : CL l g M1 (x.2.1 - 1) as σ (fun r σ1 => J l g x (pc + 3) lv (.long r :: st) (hp σ1) u w K)) : J l g x pc lv (as.reverse ++ st) (hp σ) u w K := by
  refine j_callSN (K1 := kL (fun r σ1 => J l g x (pc + 3) lv (.long r :: st) (hp σ1) u w K)) host hd hC hG hws hne hn hlen hL hd1 hcat ?_
  intro v h1 hk1
  obtain ⟨r, σ1, e1, e2, q⟩ := hk1
  subst e1
  subst e2
  exact ⟨am_len_hp σ1 σ, q⟩
theorem s_callV_v {M1 : am_M} {n idx a ci : Nat} {as : List Value} {fl : List (Option Nat)} {T : u_T} {N : Nat} (hd : decode x.1.2.1 pc = .ok (.invokevirtual idx, 3)) (hG : am_good M1) (hws : ∀ z ∈ ([.methodLink x.1.1.cls idx M1.1, .instanceMethod M1.1, .selects M1.1.cls M1.1 M1.1] : List Cond), z ∈ am_AW) (hn : (parseMethodDescriptor M1.1.desc).map (fun d => d.parameters.length) = some n) (hlen : as.length = n) (hL : (lg_sl (.ref a :: as)).length ≤ M1.2.2.1) (hs : am_shp[a]? = some (.inl (ci, fl))) (hci : am_cl[ci]? = some (M1.1.cls, T, N)) (hd1 : 1 ≤ x.2.1) (hcat : (st.map fun v => v.category).sum ≤ 8) (hu : u ≤ x.2.2.1) (hw : w ≤ x.2.2.2) (hC : CV l g M1 (x.2.1 - 1) (.ref a :: as) σ (fun σ1 => J l g x (pc + 3) lv (st) (hp σ1) u w K)) : J l g x pc lv (as.reverse ++ .ref a :: st) (hp σ) u w K := by
  refine j_callV (K1 := kV (fun σ1 => J l g x (pc + 3) lv (st) (hp σ1) u w K)) (cm := 0) (sm := 0) hd hC hG hws hn hlen hL (hp_at hs) hci hd1 hcat hu hw ?_
  intro v h1 hk1
  obtain ⟨σ1, e1, e2, q⟩ := hk1
  subst e1
  subst e2
  exact ⟨am_len_hp σ1 σ, q⟩
theorem s_callS_v {M1 : am_M} {n idx : Nat} {as : List Value} (hd : decode x.1.2.1 pc = .ok (.invokestatic idx, 3)) (hG : am_good M1) (hws : ∀ z ∈ ([.methodLink x.1.1.cls idx M1.1, .static M1.1] : List Cond), z ∈ am_AW) (hn : (parseMethodDescriptor M1.1.desc).map (fun d => d.parameters.length) = some n) (hlen : as.length = n) (hL : (lg_sl as).length ≤ M1.2.2.1) (hd1 : 1 ≤ x.2.1) (hcat : (st.map fun v => v.category).sum ≤ 8) (hC : CV l g M1 (x.2.1 - 1) as σ (fun σ1 => J l g x (pc + 3) lv (st) (hp σ1) u w K)) : J l g x pc lv (as.reverse ++ st) (hp σ) u w K := by
  refine j_callS (K1 := kV (fun σ1 => J l g x (pc + 3) lv (st) (hp σ1) u w K)) hd hC hG hws hn hlen hL hd1 hcat ?_
  intro v h1 hk1
  obtain ⟨σ1, e1, e2, q⟩ := hk1
  subst e1
  subst e2
  exact ⟨am_len_hp σ1 σ, q⟩
theorem s_callSN_v {M1 : am_M} {n idx : Nat} {as : List Value} (host : String) (hd : decode x.1.2.1 pc = .ok (.invokestatic idx, 3)) (hG : am_good M1) (hws : ∀ z ∈ ([.static M1.1] : List Cond), z ∈ am_AW) (hne : Cond.methodLinkNest x.1.1.cls idx M1.1 host ∈ am_nest) (hn : (parseMethodDescriptor M1.1.desc).map (fun d => d.parameters.length) = some n) (hlen : as.length = n) (hL : (lg_sl as).length ≤ M1.2.2.1) (hd1 : 1 ≤ x.2.1) (hcat : (st.map fun v => v.category).sum ≤ 8) (hC : CV l g M1 (x.2.1 - 1) as σ (fun σ1 => J l g x (pc + 3) lv (st) (hp σ1) u w K)) : J l g x pc lv (as.reverse ++ st) (hp σ) u w K := by
  refine j_callSN (K1 := kV (fun σ1 => J l g x (pc + 3) lv (st) (hp σ1) u w K)) host hd hC hG hws hne hn hlen hL hd1 hcat ?_
  intro v h1 hk1
  obtain ⟨σ1, e1, e2, q⟩ := hk1
  subst e1
  subst e2
  exact ⟨am_len_hp σ1 σ, q⟩
end StateJ
theorem fp_0_1 : am_fp 0 1 .int := am_fp_of (C := RX0) (T := TX0) (N := 5) rfl rfl (by decide +kernel)
theorem fp_0_3 : am_fp 0 3 .int := am_fp_of (C := RX0) (T := TX0) (N := 5) rfl rfl (by decide +kernel)
theorem fp_0_4 : am_fp 0 4 .int := am_fp_of (C := RX0) (T := TX0) (N := 5) rfl rfl (by decide +kernel)
theorem fp_1_0 : am_fp 1 0 .int := am_fp_of (C := RX1) (T := TX1) (N := 4) rfl rfl (by decide +kernel)
theorem fp_1_1 : am_fp 1 1 .int := am_fp_of (C := RX1) (T := TX1) (N := 4) rfl rfl (by decide +kernel)
theorem fp_1_2 : am_fp 1 2 .int := am_fp_of (C := RX1) (T := TX1) (N := 4) rfl rfl (by decide +kernel)
theorem fp_1_3 : am_fp 1 3 .int := am_fp_of (C := RX1) (T := TX1) (N := 4) rfl rfl (by decide +kernel)
theorem fp_2_0 : am_fp 2 0 .int := am_fp_of (C := RX2) (T := TX2) (N := 11) rfl rfl (by decide +kernel)
theorem fp_2_1 : am_fp 2 1 .int := am_fp_of (C := RX2) (T := TX2) (N := 11) rfl rfl (by decide +kernel)
theorem fp_2_2 : am_fp 2 2 .int := am_fp_of (C := RX2) (T := TX2) (N := 11) rfl rfl (by decide +kernel)
theorem fp_2_3 : am_fp 2 3 .int := am_fp_of (C := RX2) (T := TX2) (N := 11) rfl rfl (by decide +kernel)
theorem fp_2_4 : am_fp 2 4 .int := am_fp_of (C := RX2) (T := TX2) (N := 11) rfl rfl (by decide +kernel)
theorem fp_3_1 : am_fp 3 1 .int := am_fp_of (C := RX3) (T := TX3) (N := 4) rfl rfl (by decide +kernel)
theorem fp_3_2 : am_fp 3 2 .int := am_fp_of (C := RX3) (T := TX3) (N := 4) rfl rfl (by decide +kernel)
theorem fp_3_3 : am_fp 3 3 .boolean := am_fp_of (C := RX3) (T := TX3) (N := 4) rfl rfl (by decide +kernel)
theorem fp_4_1 : am_fp 4 1 .int := am_fp_of (C := RX4) (T := TX4) (N := 4) rfl rfl (by decide +kernel)
theorem fp_4_3 : am_fp 4 3 .int := am_fp_of (C := RX4) (T := TX4) (N := 4) rfl rfl (by decide +kernel)
theorem fp_5_4 : am_fp 5 4 .int := am_fp_of (C := RX5) (T := TX5) (N := 6) rfl rfl (by decide +kernel)
theorem fp_5_5 : am_fp 5 5 .int := am_fp_of (C := RX5) (T := TX5) (N := 6) rfl rfl (by decide +kernel)
theorem fp_7_8 : am_fp 7 8 .int := am_fp_of (C := RX7) (T := TX7) (N := 9) rfl rfl (by decide +kernel)
theorem fp_8_0 : am_fp 8 0 .int := am_fp_of (C := RX8) (T := TX8) (N := 4) rfl rfl (by decide +kernel)
theorem fp_8_1 : am_fp 8 1 .int := am_fp_of (C := RX8) (T := TX8) (N := 4) rfl rfl (by decide +kernel)
theorem fp_8_2 : am_fp 8 2 .int := am_fp_of (C := RX8) (T := TX8) (N := 4) rfl rfl (by decide +kernel)
theorem fp_9_3 : am_fp 9 3 .int := am_fp_of (C := RX9) (T := TX9) (N := 4) rfl rfl (by decide +kernel)
theorem fp_10_1 : am_fp 10 1 .int := am_fp_of (C := RX10) (T := TX10) (N := 6) rfl rfl (by decide +kernel)
theorem fp_10_3 : am_fp 10 3 .int := am_fp_of (C := RX10) (T := TX10) (N := 6) rfl rfl (by decide +kernel)
theorem fp_10_4 : am_fp 10 4 .int := am_fp_of (C := RX10) (T := TX10) (N := 6) rfl rfl (by decide +kernel)
theorem fp_10_5 : am_fp 10 5 .int := am_fp_of (C := RX10) (T := TX10) (N := 6) rfl rfl (by decide +kernel)
theorem fp_11_10 : am_fp 11 10 .int := am_fp_of (C := RX11) (T := TX11) (N := 12) rfl rfl (by decide +kernel)
theorem fp_11_11 : am_fp 11 11 .int := am_fp_of (C := RX11) (T := TX11) (N := 12) rfl rfl (by decide +kernel)
theorem fp_12_10 : am_fp 12 10 .int := am_fp_of (C := RX12) (T := TX12) (N := 57) rfl rfl (by decide +kernel)
theorem fp_12_11 : am_fp 12 11 .int := am_fp_of (C := RX12) (T := TX12) (N := 57) rfl rfl (by decide +kernel)
theorem fp_12_1 : am_fp 12 1 .int := am_fp_of (C := RX12) (T := TX12) (N := 57) rfl rfl (by decide +kernel)
theorem fp_12_2 : am_fp 12 2 .int := am_fp_of (C := RX12) (T := TX12) (N := 57) rfl rfl (by decide +kernel)
theorem fp_12_9 : am_fp 12 9 .int := am_fp_of (C := RX12) (T := TX12) (N := 57) rfl rfl (by decide +kernel)
theorem fp_12_6 : am_fp 12 6 .int := am_fp_of (C := RX12) (T := TX12) (N := 57) rfl rfl (by decide +kernel)
theorem fp_12_13 : am_fp 12 13 .int := am_fp_of (C := RX12) (T := TX12) (N := 57) rfl rfl (by decide +kernel)
theorem fp_12_12 : am_fp 12 12 .int := am_fp_of (C := RX12) (T := TX12) (N := 57) rfl rfl (by decide +kernel)
theorem fp_12_19 : am_fp 12 19 .int := am_fp_of (C := RX12) (T := TX12) (N := 57) rfl rfl (by decide +kernel)
theorem fp_12_21 : am_fp 12 21 .int := am_fp_of (C := RX12) (T := TX12) (N := 57) rfl rfl (by decide +kernel)
theorem fp_12_23 : am_fp 12 23 .int := am_fp_of (C := RX12) (T := TX12) (N := 57) rfl rfl (by decide +kernel)
theorem fp_12_22 : am_fp 12 22 .int := am_fp_of (C := RX12) (T := TX12) (N := 57) rfl rfl (by decide +kernel)
theorem fp_12_20 : am_fp 12 20 .int := am_fp_of (C := RX12) (T := TX12) (N := 57) rfl rfl (by decide +kernel)
theorem fp_12_31 : am_fp 12 31 .boolean := am_fp_of (C := RX12) (T := TX12) (N := 57) rfl rfl (by decide +kernel)
theorem fp_12_36 : am_fp 12 36 .int := am_fp_of (C := RX12) (T := TX12) (N := 57) rfl rfl (by decide +kernel)
theorem fp_12_35 : am_fp 12 35 .int := am_fp_of (C := RX12) (T := TX12) (N := 57) rfl rfl (by decide +kernel)
theorem fp_12_40 : am_fp 12 40 .int := am_fp_of (C := RX12) (T := TX12) (N := 57) rfl rfl (by decide +kernel)
theorem fp_12_43 : am_fp 12 43 .int := am_fp_of (C := RX12) (T := TX12) (N := 57) rfl rfl (by decide +kernel)
theorem fp_12_41 : am_fp 12 41 .int := am_fp_of (C := RX12) (T := TX12) (N := 57) rfl rfl (by decide +kernel)
theorem fp_12_42 : am_fp 12 42 .int := am_fp_of (C := RX12) (T := TX12) (N := 57) rfl rfl (by decide +kernel)
theorem fp_12_44 : am_fp 12 44 .int := am_fp_of (C := RX12) (T := TX12) (N := 57) rfl rfl (by decide +kernel)
theorem fp_12_45 : am_fp 12 45 .boolean := am_fp_of (C := RX12) (T := TX12) (N := 57) rfl rfl (by decide +kernel)
theorem fp_12_46 : am_fp 12 46 .int := am_fp_of (C := RX12) (T := TX12) (N := 57) rfl rfl (by decide +kernel)
theorem fp_12_47 : am_fp 12 47 .int := am_fp_of (C := RX12) (T := TX12) (N := 57) rfl rfl (by decide +kernel)
theorem fp_12_48 : am_fp 12 48 .int := am_fp_of (C := RX12) (T := TX12) (N := 57) rfl rfl (by decide +kernel)
theorem fp_12_51 : am_fp 12 51 .int := am_fp_of (C := RX12) (T := TX12) (N := 57) rfl rfl (by decide +kernel)
theorem fp_12_49 : am_fp 12 49 .int := am_fp_of (C := RX12) (T := TX12) (N := 57) rfl rfl (by decide +kernel)
