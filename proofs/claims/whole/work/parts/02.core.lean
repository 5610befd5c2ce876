/-! THE PURE PICTURE: a heap is a list of cells; cell k lies at address base + k; 1000 is the script, 1001 and 1002 the two static rows -/
abbrev am_E : Type := (FieldType × vp_A) ⊕ (Nat × List Value)
abbrev am_H : Type := List am_E
abbrev am_G : Type := va_G × (FieldType → ClassId) × (Nat × Nat × Nat × Nat) × Nat × (Nat → Int32)
abbrev am_M : Type := MethodName × ByteArray × Nat × Option FieldType
abbrev am_X : Type := am_M × Nat × Nat × Nat
def am_B (g : am_G) : Nat := g.2.2.1.1
def am_ad (g : am_G) (k : Nat) : Nat := if k < 1000 then am_B g + k else if k = 1000 then g.2.2.1.2.1 else if k = 1001 then g.2.2.1.2.2.1 else g.2.2.1.2.2.2
def am_A (g : am_G) : Nat → Prop := fun q => am_B g ≤ q
def am_v (g : am_G) (v : Value) : Value := match v with
  | .ref k => .ref (am_ad g k)
  | w => w
def am_a (g : am_G) (a : vp_A) : vp_A := (a.1, match a.2 with
  | .inl f => .inl f
  | .inr (.inl f) => .inr (.inl f)
  | .inr (.inr (.inl f)) => .inr (.inr (.inl f))
  | .inr (.inr (.inr (.inl f))) => .inr (.inr (.inr (.inl f)))
  | .inr (.inr (.inr (.inr f))) => .inr (.inr (.inr (.inr (fun j => (f j).map (am_ad g))))))
def am_e (g : am_G) (c : am_E) : va_E := match c with
  | .inl (ty, a) => .inl (g.2.1 ty, am_a g a)
  | .inr (i, fs) => .inr (i, fs.map (am_v g))
def am_w (g : am_G) (h : am_H) : va_W := h.mapIdx (fun k c => (am_ad g k, am_e g c))
def am_lv (g : am_G) (lv : List (Nat × Value)) : List (Nat × Value) := lv.map (fun q => (q.1, am_v g q.2))
def am_tys (g : am_G) : List (ClassId × FieldType) := [(g.2.1 .int, .int), (g.2.1 .byte, .byte), (g.2.1 .short, .short), (g.2.1 .long, .long), (g.2.1 .boolean, .boolean), (g.2.1 (.object "SmallerOut$Shelf"), .object "SmallerOut$Shelf")]
def am_above (j : Nat) : Int32 := ([-1, 0, 0, 2, 1, 3, 0, 6] : List Int32).getD j 0
def am_own (j : Nat) : Int32 := ([1, 10, 11, 2, 20, 0, 0, 0, 0, 30, 0, 0, 0, 41, 40, 0, 0, 0, 0, 50, 0, 0, 60, 61, 70, 0, 0, 0, 81, 80, 0, 0] : List Int32).getD j 0
def am_isNest (w : Cond) : Bool := match w with
  | .methodLinkNest _ _ _ _ => true
  | _ => false
def am_nest : List Cond := tables_1.filter am_isNest
def am_Amb (g : am_G) (s : State) : Prop :=
  (∀ w ∈ am_nest, va_Nw w s) ∧ va_AO "SmallerOut$Shelf" s ∧ va_K g.1 am_cl (am_tys g) s ∧ va_Z "SmallerOut$Acts" "ABOVE" "[I" (.ref (am_ad g 1001)) (am_A g) s s.heap ∧ va_Z "SmallerOut$Acts" "OWN" "[I" (.ref (am_ad g 1002)) (am_A g) s s.heap ∧ va_T .int (am_ad g 1001) 8 (fun j => .int (am_above j)) (am_A g) s s.heap ∧ va_T .int (am_ad g 1002) 32 (fun j => .int (am_own j)) (am_A g) s s.heap ∧ va_X (am_ad g 1000) g.2.2.2.1 g.2.2.2.2 s s.heap ∧ am_ad g 1000 < am_B g ∧ am_B g ≤ s.heap.size
def am_Fr (g : am_G) (x : am_X) (p : Program) (R : Room) (s : State) (m : MethodId) (args : Array Value) (c : Code) (meth : Method) : Prop :=
  p.tables.exec = Jvm.exec ∧ c.code = x.1.2.1 ∧ c.maxLocals = x.1.2.2.1 ∧ s.vm.findClass x.1.1.cls = some m.cls ∧ (∀ w ∈ am_AW, w.before args s = true) ∧ am_Amb g s ∧ (x.2.1 ≤ R.frames ∧ 60 * x.2.1 ≤ R.locals ∧ x.2.2.1 ≤ R.cells ∧ x.2.2.2 ≤ R.slots) ∧ (x.1.1.name = "<init>" → meth.name = "<init>")
def am_ret (M : am_M) (pc : Nat) (v : Option Value) : Prop := match v with
  | none => decode M.2.1 pc = .ok (.return_, 1) ∧ M.2.2.2 = none
  | some (.int i) => decode M.2.1 pc = .ok (.ireturn, 1) ∧ ∃ ty, M.2.2.2 = some ty ∧ narrow ty (.int i) = .int i
  | some (.long _) => decode M.2.1 pc = .ok (.lreturn, 1) ∧ M.2.2.2 = some .long
  | _ => False
/-- what a frame holds between two instructions -/
def am_I (g : am_G) (x : am_X) (s : State) (H : Heap) (locs : List Loc) (h : am_H) (u w : Nat) : Prop :=
  h.length ≤ 1000 ∧ u ≤ x.2.2.1 ∧ w ≤ x.2.2.2 ∧ s.heap.size + u = am_B g + h.length ∧ va_P g.1 am_cl (am_w g h) H ∧ va_S (am_A g) s.heap H locs
/-- the frame, at pc with locals lv, stack st and heap h, comes to a return at which K holds of the value and the heap -/
def J (l : Launch) (g : am_G) (x : am_X) (pc : Nat) (lv : List (Nat × Value)) (st : List Value) (h : am_H) (u w : Nat) (K : Option Value → am_H → Prop) : Prop :=
  ∀ (p : Program) (e : Env) (R : Room) (s : State) (m : MethodId) (args : Array Value) (below : List Frame) (meth : Method) (c : Code) (Q : State → Prop) (H : Heap) (locs : List Loc) (ls : Array Slot), am_Fr g x p R s m args c meth → am_I g x s H locs h u w → lv_has ls x.1.2.2.1 (am_lv g lv) →
    (∀ (v : Option Value) (h1 : am_H) (u1 w1 pc1 : Nat) (H1 : Heap) (locs1 : List Loc) (ls1 : Array Slot), K v h1 → am_I g x s H1 locs1 h1 u1 w1 → am_ret x.1 pc1 v → W p l e R s m args below meth c H1 locs1 u1 w1 Q (F0 m pc1 ls1 (v.toList))) →
    W p l e R s m args below meth c H locs u w Q (F0 m pc ls (st.map (am_v g)))
/-- a call of the method, from its entry -/
def Cal (l : Launch) (g : am_G) (x : am_X) (as : List Value) (h : am_H) (K : Option Value → am_H → Prop) : Prop := J l g x 0 (lv_args 0 as) [] h 0 0 K
theorem am_ad_lt {g : am_G} {k : Nat} (h : k < 1000) : am_ad g k = am_B g + k := by
  unfold am_ad
  rw [if_pos h]
theorem am_w_len (g : am_G) (h : am_H) : (am_w g h).length = h.length := by
  unfold am_w
  rw [List.length_mapIdx]
theorem am_w_at {g : am_G} {h : am_H} {k : Nat} {c : am_E} (hk : h[k]? = some c) : (am_w g h)[k]? = some (am_ad g k, am_e g c) := by
  unfold am_w
  rw [List.getElem?_mapIdx, hk]
  rfl
theorem am_w_of {g : am_G} {h : am_H} {k : Nat} {q : Nat × va_E} (hk : (am_w g h)[k]? = some q) : ∃ c, h[k]? = some c ∧ q = (am_ad g k, am_e g c) := by
  unfold am_w at hk
  rw [List.getElem?_mapIdx] at hk
  cases hc : h[k]? with
  | none => rw [hc] at hk; cases hk
  | some c => rw [hc] at hk; exact ⟨c, rfl, (Option.some.inj hk).symm⟩
theorem am_w_set (g : am_G) (h : am_H) (k : Nat) (c : am_E) : (am_w g h).set k (am_ad g k, am_e g c) = am_w g (h.set k c) := by
  apply List.ext_getElem?
  intro i
  unfold am_w
  rw [List.getElem?_set, List.getElem?_mapIdx, List.getElem?_mapIdx, List.getElem?_set, List.length_mapIdx]
  by_cases hik : k = i
  · subst hik
    by_cases hl : k < h.length
    · simp [hl]
    · simp [hl]
  · simp [hik]
theorem am_w_push (g : am_G) (h : am_H) (c : am_E) : am_w g (h ++ [c]) = am_w g h ++ [(am_ad g h.length, am_e g c)] := by
  unfold am_w
  rw [List.mapIdx_append]
  simp
theorem am_w_D {g : am_G} {h : am_H} (hl : h.length ≤ 1000) : va_D (am_A g) (am_w g h) := by
  have lt : ∀ {k : Nat} {q : Nat × va_E}, (am_w g h)[k]? = some q → k < h.length ∧ q.1 = am_B g + k := by
    intro k q hk
    obtain ⟨c, hc, rfl⟩ := am_w_of hk
    have h1 : k < h.length := (List.getElem?_eq_some_iff.mp hc).1
    exact ⟨h1, am_ad_lt (by omega)⟩
  refine ⟨fun i j p q hi hj e => ?_, fun k q hk => ?_⟩
  · have h1 := (lt hi).2
    have h2 := (lt hj).2
    omega
  · show am_B g ≤ q.1
    rw [(lt hk).2]
    omega
theorem am_v_cat (g : am_G) (v : Value) : (am_v g v).category = v.category := by
  cases v <;> rfl
theorem am_v_int (g : am_G) (i : Int32) : am_v g (.int i) = .int i := rfl
theorem am_vs_ret {g : am_G} {M : am_M} {pc : Nat} {v : Option Value} (h : am_ret M pc v) : v.toList.map (am_v g) = v.toList := by
  cases v with
  | none => rfl
  | some v => cases v <;> first | rfl | exact h.elim
theorem am_cats (g : am_G) (st : List Value) : ((st.map (am_v g)).map fun v => v.category).sum = (st.map fun v => v.category).sum := by
  rw [List.map_map]
  congr 1
  apply List.map_congr_left
  intro v _
  exact am_v_cat g v
theorem am_lv_args (g : am_G) : ∀ (as : List Value) (k : Nat), lv_args k (as.map (am_v g)) = am_lv g (lv_args k as)
  | [], _ => rfl
  | v :: vs, k => by
    show (k, am_v g v) :: lv_args (if (am_v g v).category = 2 then k + 2 else k + 1) (vs.map (am_v g)) = (k, am_v g v) :: am_lv g (lv_args (if v.category = 2 then k + 2 else k + 1) vs)
    rw [am_v_cat, am_lv_args g vs]
theorem am_lv_at {g : am_G} {ls : Array Slot} {nL : Nat} {lv : List (Nat × Value)} (h : lv_has ls nL (am_lv g lv)) {i : Nat} {v : Value} (hk : lv.lookup i = some v) : ls[i]? = some (.val (am_v g v)) := by
  have hm : (i, v) ∈ lv := by
    induction lv with
    | nil => cases hk
    | cons a t ih =>
      obtain ⟨j, z⟩ := a
      by_cases e : i = j
      · subst e
        rw [List.lookup_cons_self] at hk
        cases hk
        exact List.mem_cons_self
      · rw [List.lookup_cons, show (i == j) = false from by simpa using e] at hk
        exact List.mem_cons_of_mem _ (ih ⟨h.1, h.2.1, fun q hq => h.2.2 q (List.mem_cons_of_mem _ hq)⟩ hk)
  exact h.2.2 (i, am_v g v) (List.mem_map.mpr ⟨(i, v), hm, rfl⟩)
/-- a local of one word becomes v -/
def am_st (lv : List (Nat × Value)) (i : Nat) (v : Value) : List (Nat × Value) := (i, v) :: lv.filter (fun q => !(q.1 == i) && !(q.1 + 1 == i && q.2.category == 2))
def am_st2 (lv : List (Nat × Value)) (i : Nat) (v : Value) : List (Nat × Value) := (i, v) :: lv.filter (fun q => !(q.1 == i) && (!(q.1 == i + 1) && !(q.1 + 1 == i && q.2.category == 2)))
theorem am_lv_st (g : am_G) (lv : List (Nat × Value)) (i : Nat) (v : Value) : (i, am_v g v) :: (am_lv g lv).filter (fun q => !(q.1 == i) && !(q.1 + 1 == i && q.2.category == 2)) = am_lv g (am_st lv i v) := by
  unfold am_st am_lv
  rw [List.map_cons, List.filter_map]
  congr 2
  apply List.filter_congr
  intro q _
  simp [am_v_cat]
theorem am_lv_st2 (g : am_G) (lv : List (Nat × Value)) (i : Nat) (v : Value) : (i, am_v g v) :: (am_lv g lv).filter (fun q => !(q.1 == i) && (!(q.1 == i + 1) && !(q.1 + 1 == i && q.2.category == 2))) = am_lv g (am_st2 lv i v) := by
  unfold am_st2 am_lv
  rw [List.map_cons, List.filter_map]
  congr 2
  apply List.filter_congr
  intro q _
  simp [am_v_cat]
theorem am_Amb.go {g : am_G} {s U : State} (h : am_Amb g s) (hvm : s.vm.Alike U.vm) (hn : ∀ w ∈ am_nest, va_Nw w s → va_Nw w U) (hh : ∀ a : Nat, a < s.heap.size → ¬ am_A g a → U.heap[a]? = s.heap[a]?) (hz : s.heap.size ≤ U.heap.size) : am_Amb g U := by
  obtain ⟨h1, h2, h3, h4, h5, h6, h7, h8, h9, h10⟩ := h
  refine ⟨fun w hw => hn w hw (h1 w hw), h2.moved hvm, va_K.moved hvm h3, (h4.moved hvm).kept hh, (h5.moved hvm).kept hh, (h6.moved hvm).kept hh, (h7.moved hvm).kept hh, (h8.moved hvm).kept ?_, h9, Nat.le_trans h10 hz⟩
  exact hh _ (Nat.lt_of_lt_of_le h9 h10) (Nat.not_le.mpr h9)
theorem am_nest_warm {s U : State} (hW : s.WarmedH U.vm) : ∀ w ∈ am_nest, va_Nw w s → va_Nw w U := by
  intro w hw h
  have h1 : am_isNest w = true := (List.mem_filter.mp hw).2
  cases w <;> first | (cases h1; done) | exact va_Nw.warmM hW h
theorem am_nest_same {s U : State} (hW : s.vm = U.vm) : ∀ w ∈ am_nest, va_Nw w s → va_Nw w U := by
  intro w hw h
  have h1 : am_isNest w = true := (List.mem_filter.mp hw).2
  cases w <;> first | (cases h1; done) | exact va_Nw.same rfl hW h
/-- under a call: the callee's start -/
theorem am_Amb.call {g : am_G} {s U : State} {H : Heap} {locs : List Loc} (h : am_Amb g s) (hW : s.WarmedH U.vm) (hU : U.heap = H) (hS : va_S (am_A g) s.heap H locs) : am_Amb g U :=
  h.go hW.alike (am_nest_warm hW) (fun a h1 h2 => by rw [hU]; exact hS.2.1 a h1 h2) (by rw [hU]; exact hS.1)
theorem am_Amb.calling {g : am_G} {U : State} {fr : JFrame} {mk : MethodId} {a : Array Value} (h : am_Amb g U) : am_Amb g (U.calling fr mk a) :=
  h.go (U := U.calling fr mk a) (Vm.Alike.refl U.vm) (am_nest_same (U := U.calling fr mk a) rfl) (fun _ _ _ => rfl) (Nat.le_refl _)
/-- how long the heap is, from what may be new and what lies there -/
theorem am_size {g : am_G} {x : am_X} {s : State} {H : Heap} {locs : List Loc} {h : am_H} {u w : Nat} (I : am_I g x s H locs h u w) (hb : am_B g ≤ s.heap.size) (hz : H.size ≤ s.heap.size + u) : H.size = am_B g + h.length := by
  obtain ⟨h1, h2, h3, h4, hP, hS⟩ := I
  rcases Nat.eq_zero_or_pos h.length with e | e
  · have := hS.1
    omega
  · have hk : h[h.length - 1]? = some (h[h.length - 1]'(by omega)) := List.getElem?_eq_getElem (by omega)
    have := (hP _ _ (am_w_at (g := g) hk)).lt
    rw [am_ad_lt (by omega)] at this
    omega
def am_rm (x : am_X) : Room := { frames := x.2.1, cells := x.2.2.1, slots := x.2.2.2, locals := 60 * x.2.1 }
def am_ws (M : am_M) : List Cond := .code M.1 M.2.1 M.2.2.1 M.2.2.2 :: am_AW
def am_Pre (g : am_G) (as : List Value) (h : am_H) : Array Value → State → Prop := va_Pc (as.map (am_v g)) (fun U => am_Amb g U ∧ U.heap.size = am_B g + h.length ∧ va_P g.1 am_cl (am_w g h) U.heap)
def am_Post (g : am_G) (K : Option Value → am_H → Prop) : Array Value → State → Outcome → State → Prop := fun _ st o t => (∃ (v : Option Value) (h1 : am_H), o = .returned v ∧ v.toList.map (am_v g) = v.toList ∧ K v h1 ∧ h1.length ≤ 1000 ∧ va_P g.1 am_cl (am_w g h1) t.heap) ∧ va_F (am_A g) st t
theorem am_met {l : Launch} {g : am_G} {x : am_X} {as : List Value} {h : am_H} {K : Option Value → am_H → Prop} (hC : Cal l g x as h K) (hy : plainName x.1.1.cls = true) (hL : (lg_sl as).length ≤ x.1.2.2.1) (hh : h.length ≤ 1000) :
    Met l x.1.1 (am_ws x.1) (am_rm x) (am_Pre g as h) (am_Post g K) x.2.2.1 x.2.2.2 (am_A g) := by
  refine Met.ofW (cc := x.1.2.1) (maxL := x.1.2.2.1) (ret := x.1.2.2.2) hy rfl ?_
  intro p e s m args below meth c s₁ B hml hv
  obtain ⟨rfl, hA, hsz, hP⟩ := hv
  have hts : ∀ w ∈ am_AW, w.before (as.map (am_v g)).toArray s = true := fun w hw => atoms_spec (ws := am_ws x.1) B.pre w (List.mem_cons_of_mem _ hw)
  have hL' : (lg_sl (as.map (am_v g))).length ≤ x.1.2.2.1 := by
    have e : ∀ vs : List Value, (lg_sl (vs.map (am_v g))).length = (lg_sl vs).length := by
      intro vs
      induction vs with
      | nil => rfl
      | cons a t ih =>
        show ((if (am_v g a).category = 2 then _ else _) ++ lg_sl (t.map (am_v g))).length = ((if a.category = 2 then _ else _) ++ lg_sl t).length
        rw [am_v_cat, List.length_append, List.length_append, ih]
        split <;> rfl
    rw [e]
    exact hL
  have hl := lv_entry (as.map (am_v g)) (n := x.1.2.2.1) hL'
  rw [am_lv_args] at hl
  rw [lg_entry_eq]
  refine hC p e _ s m _ below meth c _ s.heap [] _ ⟨B.exec, B.bytes, hml, findClass_of_methodNamed B.named, hts, hA, ⟨Nat.le_refl _, Nat.le_refl _, Nat.le_refl _, Nat.le_refl _⟩, fun hi => (name_of_methodNamed B.named B.method).1.trans hi⟩ ⟨hh, Nat.zero_le _, Nat.zero_le _, by omega, hP, va_S.rf⟩ hl ?_
  intro v h1 u1 w1 pc1 H1 locs1 ls1 hK I hr
  obtain ⟨i1, i2, i3, i4, i5, i6⟩ := I
  have hlocks := B.notSynchronized
  have post : ∀ t : State, t.heap = H1 → am_Post g K (as.map (am_v g)).toArray s (.returned v) t := fun t ht => ⟨⟨v, h1, rfl, am_vs_ret hr, hK, i1, by rw [ht]; exact i5⟩, i6.F ht⟩
  refine W.widen (k := x.2.2.1) (n := x.2.2.2) i2 i3 ?_
  match v, hr, post with
  | none, hr, post => exact W.vret B.exec B.bytes (B.returns.trans hr.2) (fun t ht _ => post t ht) i6.2.2 hr.1
  | some (.int i), hr, post =>
    obtain ⟨hd, ty, e, hn⟩ := hr
    exact W.zret (v := i) (ty := ty) B.exec B.bytes (B.returns.trans e) hn (fun t ht _ => post t ht) i6.2.2 hd
  | some (.long i), hr, post => exact W.lret (v := i) B.exec B.bytes (B.returns.trans hr.2) (fun t ht _ => post t ht) i6.2.2 hr.1
