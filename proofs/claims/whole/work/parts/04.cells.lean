/-! fields, new cells, calls -/
def am_fl (own : String) (idx ci k : Nat) : Prop := ∃ (C : String) (T : u_T) (N : Nat), am_cl[ci]? = some (C, T, N) ∧ k < N ∧ Cond.fieldLink own idx (T k).1 (T k).2.1 (T k).2.2.1 ∈ am_AW
def am_cls (C : String) (T : u_T) (N : Nat) : Prop := (∀ w ∈ u_ws C T N, w ∈ am_AW) ∧ (∃ ty : Nat → FieldType, ∀ k, k < N → parseFieldDescriptor (T k).2.2.1 = some (ty k)) ∧ (∀ a, a < N → ∀ b, b < N → a ≠ b → (T a).2.1 ≠ (T b).2.1)
theorem am_mem {w : Cond} (i : Nat) (h : lw_tbl[i]? = some w) (hg : goodWord w = true) : w ∈ am_AW := List.mem_filter.mpr ⟨List.mem_of_getElem? h, hg⟩
theorem am_mems {ws : List Cond} (is : List Nat) (h : ws.map some = is.map (fun i => lw_tbl[i]?)) (hg : ws.all goodWord = true) : ∀ w ∈ ws, w ∈ am_AW := by
  intro w hw
  have h1 : some w ∈ ws.map some := List.mem_map.mpr ⟨w, hw, rfl⟩
  rw [h] at h1
  obtain ⟨i, -, hi⟩ := List.mem_map.mp h1
  exact am_mem i hi (List.all_eq_true.mp hg w hw)
section CellsJ
variable {l : Launch} {g : am_G} {x : am_X} {pc : Nat} {lv : List (Nat × Value)} {st : List Value} {h : am_H} {u w : Nat} {K : Option Value → am_H → Prop}
theorem j_get {n a ci k : Nat} {fs : List Value} {v : Value} (hd : decode x.1.2.1 pc = .ok (.getfield n, 3)) (hf : am_fl x.1.1.cls n ci k) (hcl : ∀ C T N, am_cl[ci]? = some (C, T, N) → am_cls C T N) (ha : h[a]? = some (.inr (ci, fs))) (hv : fs[k]? = some v) (k : J l g x (pc + 3) lv (v :: st) h u w K) : J l g x pc lv (.ref a :: st) h u w K := by
  intro p e R s m args below meth c Q H locs ls F I hlv hr
  obtain ⟨C, T, N, h1, h2, h3⟩ := hf
  refine va_get F.1 F.2.1 F.2.2.2.2.1 (hcl _ _ _ h1).1 F.2.2.2.1 F.2.2.2.2.2.1.2.2.1 I.2.2.2.2.1 a (am_w_at ha) h1 _ h2 (F.2.2.2.2.1 _ h3) (fun _ q => q) (v := am_v g v) ?_ hd (k p e R s m args below meth c Q H locs ls F I hlv hr)
  rw [List.getElem?_map, hv]
  rfl
theorem j_put {n a ci k : Nat} {fs : List Value} {v : Value} {ty : FieldType} (hd : decode x.1.2.1 pc = .ok (.putfield n, 3)) (hf : am_fl x.1.1.cls n ci k) (hcl : ∀ C T N, am_cl[ci]? = some (C, T, N) → am_cls C T N) (ha : h[a]? = some (.inr (ci, fs))) (hty : ∀ C T N, am_cl[ci]? = some (C, T, N) → ((T k).2.2.2 = false ∨ ((T k).2.2.2 = true ∧ x.1.1.name = "<init>" ∧ (T k).1 = x.1.1.cls)) ∧ parseFieldDescriptor (T k).2.2.1 = some ty) (hn : narrow ty (am_v g v) = am_v g v) (hfit : fits ty (am_v g v) = true) (hk : k < fs.length) (kk : J l g x (pc + 3) lv st (h.set a (.inr (ci, fs.set k v))) u w K) : J l g x pc lv (v :: .ref a :: st) h u w K := by
  intro p e R s m args below meth c Q H locs ls F I hlv hr
  obtain ⟨C, T, N, h1, h2, h3⟩ := hf
  obtain ⟨hfin, hpd⟩ := hty _ _ _ h1
  obtain ⟨q1, ⟨ty0, q2⟩, q3⟩ := hcl _ _ _ h1
  have fin : ∀ (H1 : Heap) (locs1 : List Loc), va_P g.1 am_cl ((am_w g h).set a (am_ad g a, .inr (ci, (fs.map (am_v g)).set k (am_v g v)))) H1 → va_D (am_A g) ((am_w g h).set a (am_ad g a, .inr (ci, (fs.map (am_v g)).set k (am_v g v)))) → va_S (am_A g) s.heap H1 locs1 → W p l e R s m args below meth c H1 locs1 u w Q (F0 m (pc + 3) ls (st.map (am_v g))) := by
    intro H1 locs1 hP hD hS
    refine kk p e R s m args below meth c Q H1 locs1 ls F ⟨by rw [List.length_set]; exact I.1, I.2.1, I.2.2.1, by rw [List.length_set]; exact I.2.2.2.1, ?_, hS⟩ hlv hr
    rw [← am_w_set]
    rw [← List.map_set] at hP
    exact hP
  rcases hfin with hfin | ⟨hfin, hin, hown⟩
  · exact va_put F.1 F.2.1 F.2.2.2.2.1 q1 ty0 q2 q3 F.2.2.2.1 F.2.2.2.2.2.1.2.2.1 I.2.2.2.2.1 (am_w_D I.1) I.2.2.2.2.2 a (am_w_at ha) h1 k h2 (F.2.2.2.2.1 _ h3) (fun _ q => q) hfin hpd hn hfit (by rw [List.length_map]; exact hk) hd fin
  · exact va_putF F.1 F.2.1 F.2.2.2.2.1 q1 ty0 q2 q3 F.2.2.2.1 F.2.2.2.2.2.1.2.2.1 I.2.2.2.2.1 (am_w_D I.1) I.2.2.2.2.2 a (am_w_at ha) h1 k h2 (F.2.2.2.2.1 _ h3) (fun _ q => q) hfin (F.2.2.2.2.2.2.2 hin) hown hpd hn hfit (by rw [List.length_map]; exact hk) hd fin
/-- where a new cell lies -/
theorem am_new_at {s : State} {H H1 : Heap} {locs : List Loc} {q : Nat} {e : va_E} (I : am_I g x s H locs h u w) (hl : h.length < 1000) (hP : va_P g.1 am_cl (am_w g h ++ [(q, e)]) H1) (hD : va_D (am_A g) (am_w g h ++ [(q, e)])) (hz : H1.size ≤ s.heap.size + (u + 1)) : q = am_ad g h.length := by
  have hq : (am_w g h ++ [(q, e)])[h.length]? = some (q, e) := by
    rw [List.getElem?_append_right (by rw [am_w_len]; exact Nat.le_refl _), am_w_len, Nat.sub_self]
    rfl
  have h1 : q < H1.size := (hP _ _ hq).lt
  have h2 : am_B g ≤ q := hD.2 _ _ hq
  have h3 := I.2.2.2.1
  rw [am_ad_lt hl]
  rcases Nat.lt_or_ge q (am_B g + h.length) with hlt | hge
  · exfalso
    have hk : q - am_B g < h.length := by omega
    have h5 : (am_w g h ++ [(q, e)])[q - am_B g]? = some (am_ad g (q - am_B g), am_e g (h[q - am_B g]'hk)) := by
      rw [List.getElem?_append_left (by rw [am_w_len]; exact hk)]
      exact am_w_at (List.getElem?_eq_getElem hk)
    have h6 := hD.1 _ _ _ _ h5 hq (by rw [am_ad_lt (by omega)]; show am_B g + (q - am_B g) = q; omega)
    omega
  · omega
theorem am_I_push {s : State} {H H1 : Heap} {locs : List Loc} {n : Nat} {c : am_E} (I : am_I g x s H locs h u w) (hl : h.length < 1000) (hu : u + 1 ≤ x.2.2.1) (hw : w + n ≤ x.2.2.2) (hP : va_P g.1 am_cl (am_w g h ++ [(am_ad g h.length, am_e g c)]) H1) (hS : va_S (am_A g) s.heap H1 locs) : am_I g x s H1 locs (h ++ [c]) (u + 1) (w + n) := by
  refine ⟨by rw [List.length_append]; exact hl, hu, hw, ?_, ?_, hS⟩
  · have := I.2.2.2.1
    rw [List.length_append]
    show s.heap.size + (u + 1) = am_B g + (h.length + 1)
    omega
  · rw [am_w_push]
    exact hP
theorem j_new {n ci N : Nat} {C : String} {T : u_T} {fs : List Value} (hd : decode x.1.2.1 pc = .ok (.new n, 3)) (hc : am_cl[ci]? = some (C, T, N)) (hcl : am_cls C T N) (ty : Nat → FieldType) (hty : ∀ k, k < N → parseFieldDescriptor (T k).2.2.1 = some (ty k)) (hws : ∀ z ∈ ([.classLink x.1.1.cls n C, .instantiable C N, .initialized C] : List Cond), z ∈ am_AW) (hfs : ∀ j, j < N → defaultValue (ty j) = vp_V fs j) (hv : fs.map (am_v g) = fs) (hl : h.length < 1000) (hu : u + 1 ≤ x.2.2.1) (hw : w + N ≤ x.2.2.2)
    (k : J l g x (pc + 3) lv (.ref h.length :: st) (h ++ [.inr (ci, fs)]) (u + 1) (w + N) K) : J l g x pc lv st h u w K := by
  intro p e R s m args below meth c Q H locs ls F I hlv hr
  obtain ⟨r1, r2, r3, r4⟩ := F.2.2.2.2.2.2.1
  refine va_new F.1 F.2.1 F.2.2.2.2.1 hcl.1 ty hty F.2.2.2.1 (F.2.2.2.2.1 _ (hws _ (by simp))) (F.2.2.2.2.1 _ (hws _ (by simp))) (F.2.2.2.2.1 _ (hws _ (by simp))) F.2.2.2.2.2.1.2.2.1 I.2.2.2.2.1 (am_w_D I.1) I.2.2.2.2.2 (fun q hq => Nat.le_trans F.2.2.2.2.2.1.2.2.2.2.2.2.2.2.2 hq) hc hfs (Nat.le_trans hu r3) (Nat.le_trans hw r4) hd (fun q H1 hP hD hS => ?_)
  intro T0 hT X
  have hq := am_new_at I hl hP hD (by rw [← hT]; exact X.heapSize)
  subst hq
  refine k p e R s m args below meth c Q H1 locs ls F (am_I_push (c := .inr (ci, fs)) I hl hu hw ?_ hS) hlv hr T0 hT X
  show va_P g.1 am_cl (am_w g h ++ [(am_ad g h.length, .inr (ci, fs.map (am_v g)))]) H1
  rw [hv]
  exact hP
theorem am_RA_one {U : State} {c1 c2 : ClassId} {ty : FieldType} (h1 : va_RA U c1 ty) (h2 : va_RA U c2 ty) : c1 = c2 := by
  cases ty with
  | object C =>
    obtain ⟨-, -, -, -, -, e1⟩ := h1
    obtain ⟨-, -, -, -, -, e2⟩ := h2
    exact Option.some.inj (e1.symm.trans e2)
  | _ => exact Option.some.inj (Eq.trans (Eq.symm h1) h2)
theorem j_newa {at1 : ArrayType} {n : Int32} {N t0 : Nat} {a0 : vp_A} {ty : FieldType} (hd : decode x.1.2.1 pc = .ok (.newarray at1, 2)) (hty : newarray.typeOf at1 = ty) (hc : Cond.arrayClass ty ∈ am_AW) (ht : (am_tys g)[t0]? = some (g.2.1 ty, ty)) (ha : ∀ cA : ClassId, vp_cell cA a0 = arrV cA N (fun _ => defaultValue ty)) (hv : am_a g a0 = a0) (hn : ¬ n < 0) (hN : n.toNatClampNeg = N) (hb : N * componentBytes ty ≤ 536870912) (hl : h.length < 1000) (hu : u + 1 ≤ x.2.2.1) (hw : w + N ≤ x.2.2.2)
    (k : J l g x (pc + 2) lv (.ref h.length :: st) (h ++ [.inl (ty, a0)]) (u + 1) (w + N) K) : J l g x pc lv (.int n :: st) h u w K := by
  intro p e R s m args below meth c Q H locs ls F I hlv hr
  obtain ⟨r1, r2, r3, r4⟩ := F.2.2.2.2.2.2.1
  have hK := F.2.2.2.2.2.1.2.2.1
  refine va_newa F.1 F.2.1 (by rw [hty]; exact F.2.2.2.2.1 _ hc) hty hK I.2.2.2.2.1 (am_w_D I.1) I.2.2.2.2.2 (fun q hq => Nat.le_trans F.2.2.2.2.2.1.2.2.2.2.2.2.2.2.2 hq) ha hn hN hb (Nat.le_trans hu r3) (Nat.le_trans hw r4) hd (fun q cA H1 hK1 hP hD hS => ?_)
  have hcA : cA = g.2.1 ty := am_RA_one (hK1.2 (am_tys g).length (cA, ty) (by rw [List.getElem?_append_right (Nat.le_refl _), Nat.sub_self]; rfl)).2 (hK.2 _ _ ht).2
  subst hcA
  intro T0 hT X
  have hq := am_new_at I hl hP hD (by rw [← hT]; exact X.heapSize)
  subst hq
  refine k p e R s m args below meth c Q H1 locs ls F (am_I_push (c := .inl (ty, a0)) I hl hu hw ?_ hS) hlv hr T0 hT X
  show va_P g.1 am_cl (am_w g h ++ [(am_ad g h.length, .inl (g.2.1 ty, am_a g a0))]) H1
  rw [hv]
  exact hP
theorem j_newq {n : Int32} {N idx : Nat} (hd : decode x.1.2.1 pc = .ok (.anewarray idx, 3)) (hc : Cond.classLink x.1.1.cls idx "SmallerOut$Shelf" ∈ am_AW) (hn : ¬ n < 0) (hN : n.toNatClampNeg = N) (hb : N * 4 ≤ 536870912) (hl : h.length < 1000) (hu : u + 1 ≤ x.2.2.1) (hw : w + N ≤ x.2.2.2)
    (k : J l g x (pc + 3) lv (.ref h.length :: st) (h ++ [.inl (.object "SmallerOut$Shelf", N, .inr (.inr (.inr (.inr (fun _ => none)))))]) (u + 1) (w + N) K) : J l g x pc lv (.int n :: st) h u w K := by
  intro p e R s m args below meth c Q H locs ls F I hlv hr
  obtain ⟨r1, r2, r3, r4⟩ := F.2.2.2.2.2.2.1
  have hK := F.2.2.2.2.2.1.2.2.1
  refine va_newq F.1 F.2.1 F.2.2.2.1 (F.2.2.2.2.1 _ hc) F.2.2.2.2.2.1.2.1 hK I.2.2.2.2.1 (am_w_D I.1) I.2.2.2.2.2 (fun q hq => Nat.le_trans F.2.2.2.2.2.1.2.2.2.2.2.2.2.2.2 hq) hn hN hb (Nat.le_trans hu r3) (Nat.le_trans hw r4) hd (fun q cA H1 hK1 hP hD hS => ?_)
  have hcA : cA = g.2.1 (.object "SmallerOut$Shelf") := am_RA_one (hK1.2 (am_tys g).length (cA, .object "SmallerOut$Shelf") (by rw [List.getElem?_append_right (Nat.le_refl _), Nat.sub_self]; rfl)).2 (hK.2 5 _ rfl).2
  subst hcA
  intro T0 hT X
  have hq := am_new_at I hl hP hD (by rw [← hT]; exact X.heapSize)
  subst hq
  exact k p e R s m args below meth c Q H1 locs ls F (am_I_push (c := .inl (.object "SmallerOut$Shelf", N, .inr (.inr (.inr (.inr (fun _ => none)))))) I hl hu hw hP hS) hlv hr T0 hT X
theorem j_astq {a b n ci : Nat} {f : Nat → Option Nat} {i : Int32} {vs : List Value} {r : vw_C} (hd : decode x.1.2.1 pc = .ok (.aastore, 1)) (ha : h[a]? = some (.inl (.object "SmallerOut$Shelf", n, .inr (.inr (.inr (.inr f)))))) (hb : h[b]? = some (.inr (ci, vs))) (hc : am_cl[ci]? = some r) (hr1 : r.1 = "SmallerOut$Shelf") (hi : vp_in i n) (k : J l g x (pc + 1) lv st (h.set a (.inl (.object "SmallerOut$Shelf", n, .inr (.inr (.inr (.inr (va_up f i.toNatClampNeg (some b)))))))) u w K) : J l g x pc lv (.ref b :: .int i :: .ref a :: st) h u w K := by
  intro p e R s m args below meth c Q H locs ls F I hlv hr
  have hK := F.2.2.2.2.2.1.2.2.1
  refine va_astq F.1 F.2.1 hK I.2.2.2.2.1 (am_w_D I.1) I.2.2.2.2.2 a 5 b ci (am_w_at ha) (by rw [hr1]; rfl) (am_w_at hb) hc hi hd (fun H1 locs1 hP hD hS => ?_)
  refine k p e R s m args below meth c Q H1 locs1 ls F ⟨by rw [List.length_set]; exact I.1, I.2.1, I.2.2.1, by rw [List.length_set]; exact I.2.2.2.1, ?_, hS⟩ hlv hr
  rw [← am_w_set]
  have e1 : va_up (fun j => (f j).map (am_ad g)) i.toNatClampNeg (some (am_ad g b)) = fun j => (va_up f i.toNatClampNeg (some b) j).map (am_ad g) := by
    funext j
    unfold va_up
    split <;> rfl
  have hP2 : va_P g.1 am_cl ((am_w g h).set a (am_ad g a, .inl (g.2.1 (.object "SmallerOut$Shelf"), n, .inr (.inr (.inr (.inr (va_up (fun j => (f j).map (am_ad g)) i.toNatClampNeg (some (am_ad g b))))))))) H1 := hP
  rw [e1] at hP2
  exact hP2
theorem j_alen {a n t0 : Nat} {ty : FieldType} {c0 : vp_A} {v : Int32} (hd : decode x.1.2.1 pc = .ok (.arraylength, 1)) (ha : h[a]? = some (.inl (ty, c0))) (ht : (am_tys g)[t0]? = some (g.2.1 ty, ty)) (hv : Int32.ofNat c0.1 = v) (k : J l g x (pc + 1) lv (.int v :: st) h u w K) : J l g x pc lv (.ref a :: st) h u w K :=
  fun p e R s m args below meth c Q H locs ls F I hlv hr => va_alen F.1 F.2.1 F.2.2.2.2.2.1.2.2.1 I.2.2.2.2.1 a t0 (am_w_at ha) ht hv hd (k p e R s m args below meth c Q H locs ls F I hlv hr)
theorem j_objInit {n a : Nat} (hd : decode x.1.2.1 pc = .ok (.invokespecial n, 3)) (hws : ∀ z ∈ ([.methodLink x.1.1.cls n objectInit, .instanceMethod objectInit, .code objectInit ⟨#[0xb1]⟩ 1 none] : List Cond), z ∈ am_AW) (hd1 : 1 ≤ x.2.1) (hcat : (st.map fun v => v.category).sum ≤ 8) (k : J l g x (pc + 3) lv st h u w K) : J l g x pc lv (.ref a :: st) h u w K := by
  intro p e R s m args below meth c Q H locs ls F I hlv hr
  obtain ⟨r1, r2, r3, r4⟩ := F.2.2.2.2.2.2.1
  refine W.objInit F.1 F.2.1 F.2.2.2.1 (F.2.2.2.2.1 _ (hws _ (by simp))) (F.2.2.2.2.1 _ (hws _ (by simp))) (F.2.2.2.2.1 _ (hws _ (by simp))) rfl (by rw [F.2.2.1]; exact hlv.1) rfl hd (Nat.le_trans hd1 r1) ?_ (W.eq (g2 := F0 m (pc + 3) ls (st.map (am_v g))) rfl (k p e R s m args below meth c Q H locs ls F I hlv hr))
  rw [am_cats]
  show 2 * 0 + _ + 12 ≤ R.locals
  omega
/-- behind a call -/
theorem am_go {p : Program} {e : Env} {R : Room} {s : State} {m : MethodId} {args a : Array Value} {below : List Frame} {meth : Method} {c : Code} {Q : State → Prop} {H : Heap} {locs : List Loc} {ls : Array Slot} {K1 : Option Value → am_H → Prop} {mc ms : Nat} {st0 rest : List Value} (I : am_I g x s H locs h u w)
    (hr : va_Run p l e R s m args below meth c H locs u w mc ms (F0 m pc ls st0) rest (am_Post g K1 a) (am_A g))
    (kk : ∀ (v : Option Value) (h1 : am_H) (H1 : Heap) (locs1 : List Loc), K1 v h1 → v.toList.map (am_v g) = v.toList → h1.length ≤ 1000 → va_P g.1 am_cl (am_w g h1) H1 → va_S (am_A g) s.heap H1 locs1 → W p l e R s m args below meth c H1 locs1 (u + mc) (w + ms) Q (F0 m (pc + 3) ls (v.toList ++ rest))) : W p l e R s m args below meth c H locs u w Q (F0 m pc ls st0) := by
  intro T hT X
  obtain ⟨v, st₀, t, T', L, h0, X', hL, e1, e2, ⟨⟨v', h1, hv, hvm, hp, hlen, hb⟩, hz, hk⟩, st⟩ := hr T hT X
  cases hv
  rw [h0] at hz hk
  have hS := I.2.2.2.2.2
  obtain ⟨t2, a1, b1⟩ := kk v h1 T'.heap (locs ++ L) hp hvm hlen (by rw [e1]; exact hb)
    ⟨Nat.le_trans hS.1 (by rw [e1]; exact hz), fun q h1 h2 => by rw [e1, hk q (Nat.lt_of_lt_of_le h1 hS.1) h2]; exact hS.2.1 q h1 h2, fun q hq => by
      rcases List.mem_append.mp hq with h | h
      · exact hS.2.2 q h
      · exact hL q h⟩ T' rfl X'
  exact ⟨t2, st t2 a1, b1⟩
theorem am_blind (g : am_G) (as : List Value) (h : am_H) : FrameBlind (am_Pre g as h) := by
  intro a U fr mk q
  obtain ⟨q1, q2, q3, q4⟩ := q
  exact ⟨q1, q2.calling, q3, q4⟩
theorem am_pre {s : State} {H : Heap} {locs : List Loc} {as : List Value} (hA : am_Amb g s) (I : am_I g x s H locs h u w) (hz : H.size = am_B g + h.length) : ∀ U : State, U.heap = H → s.WarmedH U.vm → am_Pre g as h (as.map (am_v g)).toArray U :=
  fun U hU hW => ⟨rfl, hA.call hW hU I.2.2.2.2.2, by rw [hU]; exact hz, by rw [hU]; exact I.2.2.2.2.1⟩
def am_good (M : am_M) : Prop := plainName M.1.cls = true ∧ M.1.cls ≠ "java/lang/invoke/MethodHandle" ∧ M.1.cls ≠ "java/lang/invoke/VarHandle" ∧ M.2.2.1 ≤ 40 ∧ Cond.code M.1 M.2.1 M.2.2.1 M.2.2.2 ∈ am_AW ∧ Cond.initialized M.1.cls ∈ am_AW
theorem am_ws_warm {M : am_M} {s : State} {args : Array Value} (hG : am_good M) (hts : ∀ w ∈ am_AW, w.before args s = true) : ∀ w ∈ am_ws M, ∀ (a' : Array Value) (U : State), s.WarmedH U.vm → w.before a' U = true := by
  refine pay_in hts (fun w hw => ?_)
  rcases List.mem_cons.mp hw with rfl | hw
  · exact ⟨hG.2.2.2.2.1, good_of_word (List.mem_filter.mp hG.2.2.2.2.1).2⟩
  · exact ⟨hw, good_of_word (List.mem_filter.mp hw).2⟩
theorem am_len {y : MethodName} {n : Nat} (h2 : (parseMethodDescriptor y.desc).map (fun d => d.parameters.length) = some n) : ∀ sig, parseMethodDescriptor y.desc = some sig → n = sig.parameters.length := by
  intro sig h
  rw [h] at h2
  exact (Option.some.inj h2).symm
/-- what comes behind a call's return -/
theorem am_back {x1 : am_X} {p : Program} {e : Env} {R : Room} {s : State} {m : MethodId} {args a : Array Value} {below : List Frame} {meth : Method} {c : Code} {Q : State → Prop} {H : Heap} {locs : List Loc} {ls : Array Slot} {K1 : Option Value → am_H → Prop} (F : am_Fr g x p R s m args c meth) (I : am_I g x s H locs h u w) (hlv : lv_has ls x.1.2.2.1 (am_lv g lv)) (hu : u + x1.2.2.1 ≤ x.2.2.1) (hw : w + x1.2.2.2 ≤ x.2.2.2)
    (hr : ∀ (v : Option Value) (h1 : am_H) (u1 w1 pc1 : Nat) (H1 : Heap) (locs1 : List Loc) (ls1 : Array Slot), K v h1 → am_I g x s H1 locs1 h1 u1 w1 → am_ret x.1 pc1 v → W p l e R s m args below meth c H1 locs1 u1 w1 Q (F0 m pc1 ls1 (v.toList)))
    {st0 : List Value} (run : va_Run p l e R s m args below meth c H locs u w x1.2.2.1 x1.2.2.2 (F0 m pc ls st0) (st.map (am_v g)) (am_Post g K1 a) (am_A g))
    (k : ∀ v h1, K1 v h1 → h1.length = h.length + x1.2.2.1 ∧ J l g x (pc + 3) lv (v.toList ++ st) h1 (u + x1.2.2.1) (w + x1.2.2.2) K) : W p l e R s m args below meth c H locs u w Q (F0 m pc ls st0) := by
  refine am_go I run (fun v h1 H1 locs1 hK hvm hlen hP hS => ?_)
  obtain ⟨k1, k2⟩ := k v h1 hK
  have := k2 p e R s m args below meth c Q H1 locs1 ls F ⟨hlen, hu, hw, by have := I.2.2.2.1; omega, hP, hS⟩ hlv hr
  rw [List.map_append, hvm] at this
  exact this
theorem j_callV {M1 : am_M} {cm sm n idx a ci : Nat} {as : List Value} {fs : List Value} {T : u_T} {N : Nat} {K1 : Option Value → am_H → Prop} (hd : decode x.1.2.1 pc = .ok (.invokevirtual idx, 3)) (hC : Cal l g (M1, x.2.1 - 1, cm, sm) (.ref a :: as) h K1) (hG : am_good M1) (hws : ∀ z ∈ ([.methodLink x.1.1.cls idx M1.1, .instanceMethod M1.1, .selects M1.1.cls M1.1 M1.1] : List Cond), z ∈ am_AW) (hn : (parseMethodDescriptor M1.1.desc).map (fun d => d.parameters.length) = some n) (hlen : as.length = n) (hL : (lg_sl (.ref a :: as)).length ≤ M1.2.2.1) (ha : h[a]? = some (.inr (ci, fs))) (hci : am_cl[ci]? = some (M1.1.cls, T, N)) (hd1 : 1 ≤ x.2.1) (hcat : (st.map fun v => v.category).sum ≤ 8) (hu : u + cm ≤ x.2.2.1) (hw : w + sm ≤ x.2.2.2)
    (k : ∀ v h1, K1 v h1 → h1.length = h.length + cm ∧ J l g x (pc + 3) lv (v.toList ++ st) h1 (u + cm) (w + sm) K) : J l g x pc lv (as.reverse ++ .ref a :: st) h u w K := by
  intro p e R s m args below meth c Q H locs ls F I hlv hr
  intro T0 hT X
  obtain ⟨r1, r2, r3, r4⟩ := F.2.2.2.2.2.2.1
  have hA := F.2.2.2.2.2.1
  have hts := F.2.2.2.2.1
  have hz := am_size I hA.2.2.2.2.2.2.2.2.2 (by rw [← hT]; exact X.heapSize)
  have hM := am_met (x := (M1, x.2.1 - 1, cm, sm)) hC hG.1 hL I.1
  obtain ⟨g1, g2, g3, g4, g5, g6⟩ := hG
  have run : va_Run p l e R s m args below meth c H locs u w cm sm (F0 m pc ls ((as.map (am_v g)).reverse ++ .ref (am_ad g a) :: st.map (am_v g))) (st.map (am_v g)) (am_Post g K1 (Value.ref (am_ad g a) :: as.map (am_v g)).toArray) (am_A g) := by
    refine va_runV (C := M1.1.cls) (As := as.map (am_v g)) (n := n) ⟨F.1, F.2.1, F.2.2.1, F.2.2.2.1, hts⟩ hM ⟨⟨rfl, rfl, ?_, ?_, am_ws_warm ⟨g1, g2, g3, g4, g5, g6⟩ hts, List.mem_cons_self, hts _ g5, hts _ g6, ⟨g2, g3⟩, am_len hn, hts _ (hws _ (by simp))⟩, hts _ (hws _ (by simp)), hts _ (hws _ (by simp))⟩ ⟨am_blind g _ h, va_recv hA.2.2.1 I.2.2.2.2.1 hci (am_w_at ha), am_pre (as := .ref a :: as) hA I hz⟩ rfl (by rw [List.length_map]; exact hlen) hlv.1 rfl (lv_room (by rw [am_cats]; exact hcat)) hd ⟨Nat.le_trans hu r3, Nat.le_trans hw r4⟩
    · show x.2.1 - 1 + 1 ≤ R.frames
      omega
    · show 8 + (M1.2.2.1 + 11) + 60 * (x.2.1 - 1) ≤ R.locals
      omega
  have e1 : (as.reverse ++ .ref a :: st).map (am_v g) = (as.map (am_v g)).reverse ++ .ref (am_ad g a) :: st.map (am_v g) := by
    rw [List.map_append, List.map_reverse]
    rfl
  rw [e1]
  exact am_back (x1 := (M1, x.2.1 - 1, cm, sm)) F I hlv hu hw hr run k T0 hT X
theorem j_callS {M1 : am_M} {n idx : Nat} {as : List Value} {K1 : Option Value → am_H → Prop} (hd : decode x.1.2.1 pc = .ok (.invokestatic idx, 3)) (hC : Cal l g (M1, x.2.1 - 1, 0, 0) as h K1) (hG : am_good M1) (hws : ∀ z ∈ ([.methodLink x.1.1.cls idx M1.1, .static M1.1] : List Cond), z ∈ am_AW) (hn : (parseMethodDescriptor M1.1.desc).map (fun d => d.parameters.length) = some n) (hlen : as.length = n) (hL : (lg_sl as).length ≤ M1.2.2.1) (hd1 : 1 ≤ x.2.1) (hcat : (st.map fun v => v.category).sum ≤ 8)
    (k : ∀ v h1, K1 v h1 → h1.length = h.length + 0 ∧ J l g x (pc + 3) lv (v.toList ++ st) h1 (u + 0) (w + 0) K) : J l g x pc lv (as.reverse ++ st) h u w K := by
  intro p e R s m args below meth c Q H locs ls F I hlv hr
  intro T0 hT X
  obtain ⟨r1, r2, r3, r4⟩ := F.2.2.2.2.2.2.1
  have hA := F.2.2.2.2.2.1
  have hts := F.2.2.2.2.1
  have hz := am_size I hA.2.2.2.2.2.2.2.2.2 (by rw [← hT]; exact X.heapSize)
  have hM := am_met (x := (M1, x.2.1 - 1, 0, 0)) hC hG.1 hL I.1
  obtain ⟨g1, g2, g3, g4, g5, g6⟩ := hG
  have run : va_Run p l e R s m args below meth c H locs u w 0 0 (F0 m pc ls ((as.map (am_v g)).reverse ++ st.map (am_v g))) (st.map (am_v g)) (am_Post g K1 (as.map (am_v g)).toArray) (am_A g) := by
    refine va_runS (As := as.map (am_v g)) (n := n) ⟨F.1, F.2.1, F.2.2.1, F.2.2.2.1, hts⟩ hM ⟨⟨rfl, rfl, ?_, ?_, am_ws_warm ⟨g1, g2, g3, g4, g5, g6⟩ hts, List.mem_cons_self, hts _ g5, hts _ g6, ⟨g2, g3⟩, am_len hn, hts _ (hws _ (by simp))⟩, hts _ (hws _ (by simp))⟩ ⟨am_blind g _ h, am_pre (as := as) hA I hz⟩ rfl (by rw [List.length_map]; exact hlen) hlv.1 rfl (lv_room (by rw [am_cats]; exact hcat)) hd ⟨Nat.le_trans I.2.1 r3, Nat.le_trans I.2.2.1 r4⟩
    · show x.2.1 - 1 + 1 ≤ R.frames
      omega
    · show 8 + (M1.2.2.1 + 11) + 60 * (x.2.1 - 1) ≤ R.locals
      omega
  have e1 : (as.reverse ++ st).map (am_v g) = (as.map (am_v g)).reverse ++ st.map (am_v g) := by
    rw [List.map_append, List.map_reverse]
  rw [e1]
  exact am_back (x1 := (M1, x.2.1 - 1, 0, 0)) F I hlv I.2.1 I.2.2.1 hr run k T0 hT X
/-- a static method of the nest, private -/
theorem j_callSN {M1 : am_M} {n idx : Nat} {as : List Value} {K1 : Option Value → am_H → Prop} (host : String) (hd : decode x.1.2.1 pc = .ok (.invokestatic idx, 3)) (hC : Cal l g (M1, x.2.1 - 1, 0, 0) as h K1) (hG : am_good M1) (hws : ∀ z ∈ ([.static M1.1] : List Cond), z ∈ am_AW) (hne : Cond.methodLinkNest x.1.1.cls idx M1.1 host ∈ am_nest) (hn : (parseMethodDescriptor M1.1.desc).map (fun d => d.parameters.length) = some n) (hlen : as.length = n) (hL : (lg_sl as).length ≤ M1.2.2.1) (hd1 : 1 ≤ x.2.1) (hcat : (st.map fun v => v.category).sum ≤ 8)
    (k : ∀ v h1, K1 v h1 → h1.length = h.length + 0 ∧ J l g x (pc + 3) lv (v.toList ++ st) h1 (u + 0) (w + 0) K) : J l g x pc lv (as.reverse ++ st) h u w K := by
  intro p e R s m args below meth c Q H locs ls F I hlv hr
  intro T0 hT X
  obtain ⟨r1, r2, r3, r4⟩ := F.2.2.2.2.2.2.1
  have hA := F.2.2.2.2.2.1
  have hts := F.2.2.2.2.1
  have hz := am_size I hA.2.2.2.2.2.2.2.2.2 (by rw [← hT]; exact X.heapSize)
  have hM := am_met (x := (M1, x.2.1 - 1, 0, 0)) hC hG.1 hL I.1
  obtain ⟨g1, g2, g3, g4, g5, g6⟩ := hG
  have run : va_Run p l e R s m args below meth c H locs u w 0 0 (F0 m pc ls ((as.map (am_v g)).reverse ++ st.map (am_v g))) (st.map (am_v g)) (am_Post g K1 (as.map (am_v g)).toArray) (am_A g) := by
    refine va_runSN (As := as.map (am_v g)) (n := n) (host := host) ⟨F.1, F.2.1, F.2.2.1, F.2.2.2.1, hts⟩ hM ⟨⟨⟨rfl, rfl, ?_, ?_, am_ws_warm ⟨g1, g2, g3, g4, g5, g6⟩ hts, List.mem_cons_self⟩, hts _ g5, hts _ g6, ⟨g2, g3⟩, am_len hn, va_Nw.use rfl (hA.1 _ hne)⟩, hts _ (hws _ (by simp)), trivial⟩ ⟨am_blind g _ h, am_pre (as := as) hA I hz⟩ rfl (by rw [List.length_map]; exact hlen) hlv.1 rfl (lv_room (by rw [am_cats]; exact hcat)) hd ⟨Nat.le_trans I.2.1 r3, Nat.le_trans I.2.2.1 r4⟩
    · show x.2.1 - 1 + 1 ≤ R.frames
      omega
    · show 8 + (M1.2.2.1 + 11) + 60 * (x.2.1 - 1) ≤ R.locals
      omega
  have e1 : (as.reverse ++ st).map (am_v g) = (as.map (am_v g)).reverse ++ st.map (am_v g) := by
    rw [List.map_append, List.map_reverse]
  rw [e1]
  exact am_back (x1 := (M1, x.2.1 - 1, 0, 0)) F I hlv I.2.1 I.2.2.1 hr run k T0 hT X
/-- a constructor, of the own class's public ones or of the nest's -/
theorem j_callI {M1 : am_M} {cm sm n idx a : Nat} {as : List Value} {K1 : Option Value → am_H → Prop} (host : String) (hd : decode x.1.2.1 pc = .ok (.invokespecial idx, 3)) (hC : Cal l g (M1, x.2.1 - 1, cm, sm) (.ref a :: as) h K1) (hG : am_good M1) (hi : M1.1.name = "<init>") (hret : M1.2.2.2 = none) (hws : ∀ z ∈ ([.instanceMethod M1.1] : List Cond), z ∈ am_AW) (hne : Cond.methodLink x.1.1.cls idx M1.1 ∈ am_AW ∨ Cond.methodLinkNest x.1.1.cls idx M1.1 host ∈ am_nest) (hn : (parseMethodDescriptor M1.1.desc).map (fun d => d.parameters.length) = some n) (hlen : as.length = n) (hL : (lg_sl (.ref a :: as)).length ≤ M1.2.2.1) (hd1 : 1 ≤ x.2.1) (hcat : (st.map fun v => v.category).sum ≤ 8) (hu : u + cm ≤ x.2.2.1) (hw : w + sm ≤ x.2.2.2)
    (k : ∀ v h1, K1 v h1 → h1.length = h.length + cm ∧ J l g x (pc + 3) lv (v.toList ++ st) h1 (u + cm) (w + sm) K) : J l g x pc lv (as.reverse ++ .ref a :: st) h u w K := by
  intro p e R s m args below meth c Q H locs ls F I hlv hr
  intro T0 hT X
  obtain ⟨r1, r2, r3, r4⟩ := F.2.2.2.2.2.2.1
  have hA := F.2.2.2.2.2.1
  have hts := F.2.2.2.2.1
  have hz := am_size I hA.2.2.2.2.2.2.2.2.2 (by rw [← hT]; exact X.heapSize)
  have hM := am_met (x := (M1, x.2.1 - 1, cm, sm)) hC hG.1 hL I.1
  obtain ⟨g1, g2, g3, g4, g5, g6⟩ := hG
  rw [hret] at g5
  have hfr : x.2.1 - 1 + 1 ≤ R.frames := by omega
  have hlo : 8 + (M1.2.2.1 + 11) + 60 * (x.2.1 - 1) ≤ R.locals := by omega
  have hwm := am_ws_warm (M := M1) ⟨g1, g2, g3, g4, by rw [hret]; exact g5, g6⟩ hts
  have hcode : Cond.code M1.1 M1.2.1 M1.2.2.1 none ∈ am_ws M1 := by
    have : Cond.code M1.1 M1.2.1 M1.2.2.1 M1.2.2.2 ∈ am_ws M1 := List.mem_cons_self
    rw [hret] at this
    exact this
  have run : va_Run p l e R s m args below meth c H locs u w cm sm (F0 m pc ls ((as.map (am_v g)).reverse ++ .ref (am_ad g a) :: st.map (am_v g))) (st.map (am_v g)) (am_Post g K1 (Value.ref (am_ad g a) :: as.map (am_v g)).toArray) (am_A g) := by
    rcases hne with hne | hne
    · exact va_runI (As := as.map (am_v g)) (n := n) ⟨F.1, F.2.1, F.2.2.1, F.2.2.2.1, hts⟩ hM ⟨⟨rfl, rfl, hfr, hlo, hwm, hcode, hts _ g5, hts _ g6, ⟨g2, g3⟩, am_len hn, hts _ hne⟩, hi, hts _ (hws _ (by simp))⟩ ⟨am_blind g _ h, am_pre (as := .ref a :: as) hA I hz⟩ rfl (by rw [List.length_map]; exact hlen) hlv.1 rfl (lv_room (by rw [am_cats]; exact hcat)) hd ⟨Nat.le_trans hu r3, Nat.le_trans hw r4⟩
    · exact va_runIN (As := as.map (am_v g)) (n := n) (host := host) ⟨F.1, F.2.1, F.2.2.1, F.2.2.2.1, hts⟩ hM ⟨⟨⟨rfl, rfl, hfr, hlo, hwm, hcode⟩, hts _ g5, hts _ g6, ⟨g2, g3⟩, am_len hn, va_Nw.use rfl (hA.1 _ hne)⟩, hi, hts _ (hws _ (by simp))⟩ ⟨am_blind g _ h, am_pre (as := .ref a :: as) hA I hz⟩ rfl (by rw [List.length_map]; exact hlen) hlv.1 rfl (lv_room (by rw [am_cats]; exact hcat)) hd ⟨Nat.le_trans hu r3, Nat.le_trans hw r4⟩
  have e1 : (as.reverse ++ .ref a :: st).map (am_v g) = (as.map (am_v g)).reverse ++ .ref (am_ad g a) :: st.map (am_v g) := by
    rw [List.map_append, List.map_reverse]
    rfl
  rw [e1]
  exact am_back (x1 := (M1, x.2.1 - 1, cm, sm)) F I hlv hu hw hr run k T0 hT X
theorem j_max {n : Nat} {a b : Int32} (hd : decode x.1.2.1 pc = .ok (.invokestatic n, 3)) (hws : ∀ z ∈ ([.methodLink x.1.1.cls n Lib.Math.max.name, .static Lib.Math.max.name, .initialized "java/lang/Math", .code Lib.Math.max.name Lib.Math.max.code 2 (some .int)] : List Cond), z ∈ am_AW) (hd1 : 1 ≤ x.2.1) (hcat : (st.map fun v => v.category).sum ≤ 8) (k : J l g x (pc + 3) lv (.int (if a < b then b else a) :: st) h u w K) : J l g x pc lv (.int b :: .int a :: st) h u w K := by
  intro p e R s m args below meth c Q H locs ls F I hlv hr
  obtain ⟨r1, r2, r3, r4⟩ := F.2.2.2.2.2.2.1
  exact va_mmax F.1 F.2.1 (by rw [F.2.2.1]; exact hlv.1.symm) F.2.2.2.1 (F.2.2.2.2.1 _ (hws _ (by simp))) (F.2.2.2.2.1 _ (hws _ (by simp))) (F.2.2.2.2.1 _ (hws _ (by simp))) (F.2.2.2.2.1 _ (hws _ (by simp))) (Nat.le_trans hd1 r1) (by rw [am_cats]; omega) (Nat.le_trans I.2.1 r3) (Nat.le_trans I.2.2.1 r4) hd (k p e R s m args below meth c Q H locs ls F I hlv hr)
theorem j_min {n : Nat} {a b : Int32} (hd : decode x.1.2.1 pc = .ok (.invokestatic n, 3)) (hws : ∀ z ∈ ([.methodLink x.1.1.cls n Lib.Math.min.name, .static Lib.Math.min.name, .initialized "java/lang/Math", .code Lib.Math.min.name Lib.Math.min.code 2 (some .int)] : List Cond), z ∈ am_AW) (hd1 : 1 ≤ x.2.1) (hcat : (st.map fun v => v.category).sum ≤ 8) (k : J l g x (pc + 3) lv (.int (if b < a then b else a) :: st) h u w K) : J l g x pc lv (.int b :: .int a :: st) h u w K := by
  intro p e R s m args below meth c Q H locs ls F I hlv hr
  obtain ⟨r1, r2, r3, r4⟩ := F.2.2.2.2.2.2.1
  exact va_mmin F.1 F.2.1 (by rw [F.2.2.1]; exact hlv.1.symm) F.2.2.2.1 (F.2.2.2.2.1 _ (hws _ (by simp))) (F.2.2.2.2.1 _ (hws _ (by simp))) (F.2.2.2.2.1 _ (hws _ (by simp))) (F.2.2.2.2.1 _ (hws _ (by simp))) (Nat.le_trans hd1 r1) (by rw [am_cats]; omega) (Nat.le_trans I.2.1 r3) (Nat.le_trans I.2.2.1 r4) hd (k p e R s m args below meth c Q H locs ls F I hlv hr)
theorem j_copyl {n a b n0 n1 : Nat} {f f1 : Nat → Int64} {sp dp z : Int32} (hd : decode x.1.2.1 pc = .ok (.invokestatic n, 3)) (hws : ∀ z ∈ ([.methodLink x.1.1.cls n arraycopyName, .native arraycopyName, .static arraycopyName, .initialized "java/lang/System"] : List Cond), z ∈ am_AW) (hd1 : 1 ≤ x.2.1) (hst : st = []) (ha : h[a]? = some (.inl (.long, n0, .inr (.inl f)))) (hb : h[b]? = some (.inl (.long, n1, .inr (.inl f1)))) (h1 : ¬ sp < 0) (h2 : ¬ dp < 0) (h3 : ¬ z < 0) (h4 : sp.toNatClampNeg + z.toNatClampNeg ≤ n0) (h5 : dp.toNatClampNeg + z.toNatClampNeg ≤ n1)
    (k : J l g x (pc + 3) lv st (h.set b (.inl (.long, n1, .inr (.inl (va_cpy f f1 sp.toNatClampNeg dp.toNatClampNeg z.toNatClampNeg))))) u w K) : J l g x pc lv (.int z :: .int dp :: .ref b :: .int sp :: .ref a :: st) h u w K := by
  intro p e R s m args below meth c Q H locs ls F I hlv hr
  obtain ⟨r1, r2, r3, r4⟩ := F.2.2.2.2.2.2.1
  subst hst
  refine va_copyl F.1 F.2.1 (by rw [F.2.2.1]; exact hlv.1.symm) F.2.2.2.1 (F.2.2.2.2.1 _ (hws _ (by simp))) (F.2.2.2.2.1 _ (hws _ (by simp))) (F.2.2.2.2.1 _ (hws _ (by simp))) (F.2.2.2.2.1 _ (hws _ (by simp))) F.2.2.2.2.2.1.2.2.1 I.2.2.2.2.1 (am_w_D I.1) I.2.2.2.2.2 a b 3 3 (am_w_at ha) (am_w_at hb) rfl rfl rfl h1 h2 h3 h4 h5 (fun _ _ => rfl) (Nat.le_trans hd1 r1) ?_ hd (fun H1 locs1 hP hD hS => ?_)
  · have : nativeFrameWords "java/lang/System" "arraycopy" 5 + 11 ≤ 60 := by decide +kernel
    show 0 + _ ≤ _
    omega
  · exact k p e R s m args below meth c Q H1 locs1 ls F ⟨by rw [List.length_set]; exact I.1, I.2.1, I.2.2.1, by rw [List.length_set]; exact I.2.2.2.1, by rw [← am_w_set]; exact hP, hS⟩ hlv hr
end CellsJ
