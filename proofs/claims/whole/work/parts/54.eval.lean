/-! what a told law says: a stack of ints, the newest ahead -/
def two (s l r : Int32) : Int32 :=
  if s = 124 then (if l = 0 then (if r = 0 then 0 else 1) else 1)
  else if s = 38 then (if l = 0 then 0 else (if r = 0 then 0 else 1))
  else if s = 60 then (if r ≤ l then 0 else 1)
  else if s = 61 then (if l = r then 1 else 0)
  else if s = 62 then (if l ≤ r then 0 else 1)
  else if s = 43 then l + r
  else if s = 45 then l - r
  else if s = 42 then l * r
  else if s = 47 then (if r = 0 then 0 else l / r)
  else (if r = 0 then 0 else l - l / r * r)
theorem two124 (x y : Int32) : two 124 x y = (if x = 0 then (if y = 0 then 0 else 1) else 1) := by
  unfold two
  rw [if_pos rfl]
theorem two38 (x y : Int32) : two 38 x y = (if x = 0 then 0 else (if y = 0 then 0 else 1)) := by
  unfold two
  rw [if_neg (by decide), if_pos rfl]
theorem two60 (x y : Int32) : two 60 x y = (if y ≤ x then 0 else 1) := by
  unfold two
  rw [if_neg (by decide), if_neg (by decide), if_pos rfl]
theorem two61 (x y : Int32) : two 61 x y = (if x = y then 1 else 0) := by
  unfold two
  rw [if_neg (by decide), if_neg (by decide), if_neg (by decide), if_pos rfl]
theorem two62 (x y : Int32) : two 62 x y = (if x ≤ y then 0 else 1) := by
  unfold two
  rw [if_neg (by decide), if_neg (by decide), if_neg (by decide), if_neg (by decide), if_pos rfl]
theorem two43 (x y : Int32) : two 43 x y = x + y := by
  unfold two
  rw [if_neg (by decide), if_neg (by decide), if_neg (by decide), if_neg (by decide), if_neg (by decide), if_pos rfl]
theorem two45 (x y : Int32) : two 45 x y = x - y := by
  unfold two
  rw [if_neg (by decide), if_neg (by decide), if_neg (by decide), if_neg (by decide), if_neg (by decide), if_neg (by decide), if_pos rfl]
theorem two42 (x y : Int32) : two 42 x y = x * y := by
  unfold two
  rw [if_neg (by decide), if_neg (by decide), if_neg (by decide), if_neg (by decide), if_neg (by decide), if_neg (by decide), if_neg (by decide), if_pos rfl]
theorem two47 (x y : Int32) : two 47 x y = (if y = 0 then 0 else x / y) := by
  unfold two
  rw [if_neg (by decide), if_neg (by decide), if_neg (by decide), if_neg (by decide), if_neg (by decide), if_neg (by decide), if_neg (by decide), if_neg (by decide), if_pos rfl]
theorem two37 (x y : Int32) : two 37 x y = (if y = 0 then 0 else x - x / y * y) := by
  unfold two
  rw [if_neg (by decide), if_neg (by decide), if_neg (by decide), if_neg (by decide), if_neg (by decide), if_neg (by decide), if_neg (by decide), if_neg (by decide), if_neg (by decide)]
def tv (F : Nat → Int32) (st : List Int32) (t : Tok) : List Int32 :=
  if t.1 = 1 then t.2 :: st
  else if t.1 = 2 then F t.2.toNatClampNeg :: st
  else if t.1 = 3 then (match st with
    | x :: r => (if x = 0 then 1 else 0) :: r
    | [] => [])
  else if t.1 = 4 then (match st with
    | x :: r => -x :: r
    | [] => [])
  else (match st with
    | y :: x :: r => two t.1 x y :: r
    | _ => [])
def evE (F : Nat → Int32) (ts : List Tok) : Int32 := (ts.foldl (tv F) []).headD 0
def evL (F : Nat → Int32) : List Lin → Int32
  | [] => 0
  | q :: r => if q.1 = [] then evE F q.2 else if evE F q.1 = 0 then evL F r else evE F q.2
/-- enough lies there, and how many lie there then -/
def dep1 (n : Nat) (t : Tok) : Option Nat := if t.1 = 1 ∨ t.1 = 2 then some (n + 1) else if t.1 = 3 ∨ t.1 = 4 then (if 1 ≤ n then some n else none) else (if 2 ≤ n then some (n - 1) else none)
theorem dep_cons {n m : Nat} {t : Tok} {r : List Tok} (h : tk_dep n (t :: r) = some m) : ∃ n1, dep1 n t = some n1 ∧ tk_dep n1 r = some m := by
  unfold tk_dep at h
  unfold dep1
  split at h
  · rename_i c
    rw [if_pos c]
    exact ⟨_, rfl, h⟩
  · rename_i c
    rw [if_neg c]
    split at h
    · rename_i c2
      rw [if_pos c2]
      split at h
      · rename_i c3
        rw [if_pos c3]
        exact ⟨_, rfl, h⟩
      · cases h
    · rename_i c2
      rw [if_neg c2]
      split at h
      · rename_i c3
        rw [if_pos c3]
        exact ⟨_, rfl, h⟩
      · cases h
theorem tv_len {F : Nat → Int32} {t : Tok} {st : List Int32} {m : Nat} (h : dep1 st.length t = some m) : (tv F st t).length = m := by
  unfold dep1 at h
  unfold tv
  split at h
  · rename_i c
    cases h
    rcases c with c | c
    · rw [if_pos c]
      rfl
    · rw [if_neg (by rw [c]; decide), if_pos c]
      rfl
  · rename_i c
    rw [if_neg (fun q => c (Or.inl q)), if_neg (fun q => c (Or.inr q))]
    split at h
    · rename_i c2
      split at h
      · rename_i c3
        cases h
        match st, c3 with
        | x :: r, _ =>
          split
          · rfl
          · rw [if_pos (c2.resolve_left (by assumption))]
            rfl
      · cases h
    · rename_i c2
      rw [if_neg (fun q => c2 (Or.inl q)), if_neg (fun q => c2 (Or.inr q))]
      split at h
      · rename_i c3
        cases h
        match st, c3 with
        | y :: x :: r, _ => rfl
        | [y], q => exact absurd (show 2 ≤ 1 from q) (by decide)
        | [], q => exact absurd (show 2 ≤ 0 from q) (by decide)
      · cases h
theorem tvs_len {F : Nat → Int32} : ∀ {ts : List Tok} {st : List Int32} {m : Nat}, tk_dep st.length ts = some m → (ts.foldl (tv F) st).length = m
  | [], st, m, h => by
    unfold tk_dep at h
    exact Option.some.inj h
  | t :: r, st, m, h => by
    obtain ⟨n1, h1, h2⟩ := dep_cons h
    have := tv_len (F := F) h1
    rw [← this] at h2
    exact tvs_len (ts := r) (st := tv F st t) h2
theorem evE_one {F : Nat → Int32} {ts : List Tok} (h : tk_wf ts) : ts.foldl (tv F) [] = [evE F ts] := by
  have := tvs_len (F := F) (st := []) h.2
  unfold evE
  match ts.foldl (tv F) [], this with
  | [v], _ => rfl
/-- the stack in a row -/
def SK (c : Nat) (σ : am_S) : List Int32 → Prop
  | [] => True
  | v :: r => ar σ c r.length = v ∧ SK c σ r
theorem SK.mono {c : Nat} {σ τ : am_S} : ∀ {st : List Int32}, (∀ j, j < st.length → ar τ c j = ar σ c j) → SK c σ st → SK c τ st
  | [], _, _ => trivial
  | v :: r, h, ⟨h1, h2⟩ => ⟨(h r.length (Nat.lt_succ_self _)).trans h1, SK.mono (fun j hj => h j (Nat.lt_succ_of_lt hj)) h2⟩
theorem SK.push {c : Nat} {σ : am_S} {st : List Int32} {v : Int32} (h : SK c σ st) : SK c (sA σ c st.length v) (v :: st) := ⟨by rw [ar_sA, if_pos ⟨rfl, rfl⟩], h.mono (fun j hj => by rw [ar_sA, if_neg (fun q => absurd q.2 (by omega))])⟩
theorem SK.reg {c r : Nat} {σ : am_S} {st : List Int32} {v : Int32} (h : SK c σ st) : SK c (sR σ r v) st := SK.mono (σ := σ) (fun _ _ => rfl) h
theorem neg_ne {v c : Int32} (h : 0 ≤ v) (hc : ¬ 0 ≤ -c) : ¬ -v = c := fun e => hc (by rw [← e, Int32.neg_neg]; exact h)
theorem bin_ne {a : Int32} (h : tk_bin a) : (a ≠ 1 ∧ a ≠ 2 ∧ a ≠ 3 ∧ a ≠ 4) ∧ (-a < 0 ∧ ¬ -a = -126 ∧ ¬ -a = -33 ∧ - -a = a) ∧ (¬ - -a = 59 ∧ ¬ - -a = 63 ∧ ¬ - -a = 97 ∧ ¬ - -a = 98 ∧ ¬ - -a = 100 ∧ ¬ - -a = 105 ∧ ¬ - -a = 106 ∧ ¬ - -a = 107) ∧ ¬ -a = -59 := by
  rcases h with h | h | h | h | h | h | h | h | h | h <;> subst h <;> decide
theorem tv_num {F : Nat → Int32} {st : List Int32} {t : Tok} (h : t.1 = 1) : tv F st t = t.2 :: st := by
  unfold tv
  rw [if_pos h]
theorem tv_nam {F : Nat → Int32} {st : List Int32} {t : Tok} (h : t.1 = 2) : tv F st t = F t.2.toNatClampNeg :: st := by
  unfold tv
  rw [if_neg (by rw [h]; decide), if_pos h]
theorem tv_not {F : Nat → Int32} {r : List Int32} {x : Int32} {t : Tok} (h : t.1 = 3) : tv F (x :: r) t = (if x = 0 then 1 else 0) :: r := by
  unfold tv
  rw [if_neg (by rw [h]; decide), if_neg (by rw [h]; decide), if_pos h]
theorem tv_neg {F : Nat → Int32} {r : List Int32} {x : Int32} {t : Tok} (h : t.1 = 4) : tv F (x :: r) t = -x :: r := by
  unfold tv
  rw [if_neg (by rw [h]; decide), if_neg (by rw [h]; decide), if_neg (by rw [h]; decide), if_pos h]
theorem tv_bin {F : Nat → Int32} {r : List Int32} {x y : Int32} {t : Tok} (h : tk_bin t.1) : tv F (y :: x :: r) t = two t.1 x y :: r := by
  obtain ⟨⟨h1, h2, h3, h4⟩, -⟩ := bin_ne h
  unfold tv
  rw [if_neg h1, if_neg h2, if_neg h3, if_neg h4]
theorem dep_un {n m : Nat} {t : Tok} (h : t.1 = 3 ∨ t.1 = 4) (hd : dep1 n t = some m) : 1 ≤ n := by
  unfold dep1 at hd
  rw [if_neg (by rcases h with h | h <;> rw [h] <;> decide), if_pos h] at hd
  split at hd
  · assumption
  · cases hd
theorem dep_bin {n m : Nat} {t : Tok} (h : tk_bin t.1) (hd : dep1 n t = some m) : 2 ≤ n := by
  obtain ⟨⟨h1, h2, h3, h4⟩, -⟩ := bin_ne h
  unfold dep1 at hd
  rw [if_neg (by rintro (q | q) <;> contradiction), if_neg (by rintro (q | q) <;> contradiction)] at hd
  split at hd
  · assumption
  · cases hd
theorem one_st {st : List Int32} (h : 1 ≤ st.length) : ∃ x r, st = x :: r := by
  match st, h with
  | x :: r, _ => exact ⟨x, r, rfl⟩
theorem two_st {st : List Int32} (h : 2 ≤ st.length) : ∃ y x r, st = y :: x :: r := by
  match st, h with
  | y :: x :: r, _ => exact ⟨y, x, r, rfl⟩
  | [y], q => exact absurd (show 2 ≤ 1 from q) (by decide)
  | [], q => exact absurd (show 2 ≤ 0 from q) (by decide)
theorem sg_num {t : Tok} (h : t.1 = 1) : tk_sign t = t.2 := by unfold tk_sign; rw [if_pos h]
theorem sg_nam {t : Tok} (h : t.1 = 2) : tk_sign t = -(tk_name t.2) := by unfold tk_sign; rw [if_neg (by rw [h]; decide), if_pos h]
theorem sg_not {t : Tok} (h : t.1 = 3) : tk_sign t = -33 := by unfold tk_sign; rw [if_neg (by rw [h]; decide), if_neg (by rw [h]; decide), if_pos h]
theorem sg_neg {t : Tok} (h : t.1 = 4) : tk_sign t = -126 := by unfold tk_sign; rw [if_neg (by rw [h]; decide), if_neg (by rw [h]; decide), if_neg (by rw [h]; decide), if_pos h]
theorem sg_bi {t : Tok} (h : tk_bin t.1) : tk_sign t = -t.1 := by
  obtain ⟨⟨h1, h2, h3, h4⟩, -⟩ := bin_ne h
  unfold tk_sign
  rw [if_neg h1, if_neg h2, if_neg h3, if_neg h4]
section EvalC
variable {l : Launch} {g : am_G} {σ0 : am_S}
def VC (σ0 σ : am_S) (st : List Int32) : Prop := Fr [707] [13] σ0 σ ∧ rg σ 707 = nI st.length ∧ SK 13 σ st
theorem c_push {d : Nat} {σ : am_S} {st : List Int32} {v : Int32} {k : am_S → Prop} (hl : st.length < 121) (h : VC σ0 σ st) (H : ∀ τ, VC σ0 τ (v :: st) → k τ) : CV l g M_X4_push d [.ref 11, .int v] σ k := by
  obtain ⟨h1, h2, h3⟩ := h
  refine b_X4_push_0 ?_
  rw [h2, nI_clamp (by omega), nI_1]
  exact ⟨fun q => absurd ((len (a := 121) (by omega) (by omega)).mp q) (by omega), fun _ => ⟨vp_in_nI hl (by omega), H _ ⟨(h1.wA.wR).mono (by simp) (by simp), rfl, h3.push.reg⟩⟩⟩
theorem c_pop {d : Nat} {σ : am_S} {st : List Int32} {v : Int32} {k : Int32 → am_S → Prop} (hl : st.length < 121) (h : VC σ0 σ (v :: st)) (H : ∀ τ, VC σ0 τ st → k v τ) : CI l g M_X4_pop d [.ref 11] σ k := by
  obtain ⟨h1, h2, h3, h4⟩ := h
  refine b_X4_pop_0 ?_
  have h2 : rg σ 707 = nI (st.length + 1) := h2
  rw [h2, nI_pred, nI_clamp (by omega), h3]
  exact ⟨fun _ => ⟨vp_in_nI hl (by omega), H _ ⟨(h1.wR).mono (by simp) (by simp), rfl, h4.reg⟩⟩, fun q => absurd ((ltn (a := 0) (by omega) (by omega)).mpr (Nat.succ_pos _)) q⟩
theorem c_joined {d : Nat} {σ : am_S} {s x y : Int32} {k : Int32 → am_S → Prop} (hs : tk_bin s) (H : k (two s x y) σ) : CI l g M_X4_joined d [.int s, .int x, .int y] σ k := by
  refine b_X4_joined_0 ?_
  rcases hs with h | h | h | h | h | h | h | h | h | h <;> subst h
  · rw [two124] at H
    exact ⟨fun q => absurd rfl q.2.2.2.2.2.2.2.2, fun q => absurd q (by decide), fun q => absurd q (by decide), fun q => absurd q (by decide), fun q => absurd q (by decide), fun q => absurd q (by decide), fun q => absurd q (by decide), fun q => absurd q (by decide), fun q => absurd q (by decide), fun _ => ⟨fun e => by rw [if_neg e] at H; exact H, fun e => ⟨fun e2 => by rw [if_pos e, if_pos e2] at H; exact H, fun e2 => by rw [if_pos e, if_neg e2] at H; exact H⟩⟩⟩
  · rw [two38] at H
    exact ⟨fun q => absurd rfl q.1, fun _ => ⟨fun e => by rw [if_pos e] at H; exact H, fun e => ⟨fun e2 => by rw [if_neg e, if_pos e2] at H; exact H, fun e2 => by rw [if_neg e, if_neg e2] at H; exact H⟩⟩, fun q => absurd q (by decide), fun q => absurd q (by decide), fun q => absurd q (by decide), fun q => absurd q (by decide), fun q => absurd q (by decide), fun q => absurd q (by decide), fun q => absurd q (by decide), fun q => absurd q (by decide)⟩
  · rw [two60] at H
    exact ⟨fun q => absurd rfl q.2.2.2.2.2.1, fun q => absurd q (by decide), fun q => absurd q (by decide), fun q => absurd q (by decide), fun q => absurd q (by decide), fun q => absurd q (by decide), fun _ => ⟨fun e => by rw [if_pos e] at H; exact H, fun e => by rw [if_neg e] at H; exact H⟩, fun q => absurd q (by decide), fun q => absurd q (by decide), fun q => absurd q (by decide)⟩
  · rw [two61] at H
    exact ⟨fun q => absurd rfl q.2.2.2.2.2.2.1, fun q => absurd q (by decide), fun q => absurd q (by decide), fun q => absurd q (by decide), fun q => absurd q (by decide), fun q => absurd q (by decide), fun q => absurd q (by decide), fun _ => ⟨fun e => by rw [if_neg e] at H; exact H, fun e => by rw [if_pos e] at H; exact H⟩, fun q => absurd q (by decide), fun q => absurd q (by decide)⟩
  · rw [two62] at H
    exact ⟨fun q => absurd rfl q.2.2.2.2.2.2.2.1, fun q => absurd q (by decide), fun q => absurd q (by decide), fun q => absurd q (by decide), fun q => absurd q (by decide), fun q => absurd q (by decide), fun q => absurd q (by decide), fun q => absurd q (by decide), fun _ => ⟨fun e => by rw [if_pos e] at H; exact H, fun e => by rw [if_neg e] at H; exact H⟩, fun q => absurd q (by decide)⟩
  · rw [two43] at H
    exact ⟨fun q => absurd rfl q.2.2.1, fun q => absurd q (by decide), fun q => absurd q (by decide), fun _ => H, fun q => absurd q (by decide), fun q => absurd q (by decide), fun q => absurd q (by decide), fun q => absurd q (by decide), fun q => absurd q (by decide), fun q => absurd q (by decide)⟩
  · rw [two45] at H
    exact ⟨fun q => absurd rfl q.2.2.2.1, fun q => absurd q (by decide), fun q => absurd q (by decide), fun q => absurd q (by decide), fun _ => H, fun q => absurd q (by decide), fun q => absurd q (by decide), fun q => absurd q (by decide), fun q => absurd q (by decide), fun q => absurd q (by decide)⟩
  · rw [two42] at H
    exact ⟨fun q => absurd rfl q.2.1, fun q => absurd q (by decide), fun _ => H, fun q => absurd q (by decide), fun q => absurd q (by decide), fun q => absurd q (by decide), fun q => absurd q (by decide), fun q => absurd q (by decide), fun q => absurd q (by decide), fun q => absurd q (by decide)⟩
  · rw [two47] at H
    exact ⟨fun q => absurd rfl q.2.2.2.2.1, fun q => absurd q (by decide), fun q => absurd q (by decide), fun q => absurd q (by decide), fun q => absurd q (by decide), fun _ => ⟨fun e => ⟨e, by rw [if_neg e] at H; exact H⟩, fun e => by rw [if_pos e] at H; exact H⟩, fun q => absurd q (by decide), fun q => absurd q (by decide), fun q => absurd q (by decide), fun q => absurd q (by decide)⟩
  · rw [two37] at H
    exact ⟨fun _ => ⟨fun e => ⟨e, by rw [if_neg e] at H; exact H⟩, fun e => by rw [if_pos e] at H; exact H⟩, fun q => absurd q (by decide), fun q => absurd q (by decide), fun q => absurd q (by decide), fun q => absurd q (by decide), fun q => absurd q (by decide), fun q => absurd q (by decide), fun q => absurd q (by decide), fun q => absurd q (by decide), fun q => absurd q (by decide)⟩
theorem c_work {d m : Nat} {σ : am_S} {F : Nat → Int32} {st : List Int32} {t : Tok} {k : am_S → Prop} (hd : 1 ≤ d) (ht : tk_ok t) (hn : ¬ t.1 = 2) (hl : st.length < 121) (hdp : dep1 st.length t = some m) (h : VC σ0 σ st) (H : ∀ τ, VC σ0 τ (tv F st t) → k τ) : CV l g M_X4_work d [.ref 11, .int (tk_sign t)] σ k := by
  refine b_X4_work_0 hd ?_
  rcases ht with ⟨e, h0⟩ | ⟨e, -⟩ | e | e | e
  · rw [sg_num e]
    rw [tv_num e] at H
    exact ⟨fun q => absurd q (Int32.not_lt.mpr h0), fun _ => c_push hl h H⟩
  · exact absurd e hn
  · obtain ⟨x, r, rfl⟩ := one_st (dep_un (Or.inl e) hdp)
    rw [sg_not e]
    rw [tv_not e] at H
    have hl2 : r.length < 121 := by
      have : r.length + 1 < 121 := hl
      omega
    refine ⟨fun _ => ⟨fun _ => ⟨fun q => absurd rfl q, fun _ => c_pop hl2 h (fun τ hτ => ⟨fun c => c_push hl2 hτ (fun υ hυ => H υ ?_), fun c => c_push hl2 hτ (fun υ hυ => H υ ?_)⟩)⟩, fun q => absurd q (by decide)⟩, fun q => absurd (by decide) q⟩
    · rw [if_neg c]
      exact hυ
    · rw [if_pos c]
      exact hυ
  · obtain ⟨x, r, rfl⟩ := one_st (dep_un (Or.inr e) hdp)
    rw [sg_neg e]
    rw [tv_neg e] at H
    have hl2 : r.length < 121 := by
      have : r.length + 1 < 121 := hl
      omega
    exact ⟨fun _ => ⟨fun q => absurd rfl q, fun _ => c_pop hl2 h (fun τ hτ => c_push hl2 hτ H)⟩, fun q => absurd (by decide) q⟩
  · obtain ⟨y, x, r, rfl⟩ := two_st (dep_bin e hdp)
    obtain ⟨-, ⟨b1, b2, b3, b4⟩, -⟩ := bin_ne e
    rw [sg_bi e]
    rw [tv_bin e] at H
    have hl1 : r.length + 1 < 121 := by
      have : r.length + 1 + 1 < 121 := hl
      omega
    refine ⟨fun _ => ⟨fun _ => ⟨fun _ => c_pop (st := x :: r) hl1 h (fun τ hτ => c_pop (by omega) hτ (fun υ hυ => ?_)), fun q => absurd q b3⟩, fun q => absurd q b2⟩, fun q => absurd b1 q⟩
    rw [b4]
    exact c_joined e (c_push (by omega) hυ H)
/-- what the names stand for -/
def fF (x1 x2 x3 x4 x5 x6 : Int32) (j : Nat) : Int32 := if j = 0 then x1 else if j = 1 then x2 else if j = 2 then x3 else if j = 3 then x4 else if j = 4 then x5 else x6
section Val
variable {x1 x2 x3 x4 x5 x6 : Int32}
theorem c_tok {d m D pos : Nat} {σ : am_S} {st : List Int32} {t : Tok} {k : Int32 → am_S → Prop} (hd : 2 ≤ d) (hD : D ≤ 121) (e705 : rg σ0 705 = nI D) (hp : pos < D) (hs : ar σ0 12 pos = tk_sign t) (ht : tk_ok t) (hl : st.length < 121) (hdp : dep1 st.length t = some m) (h : VC σ0 σ st)
    (H : ∀ τ, VC σ0 τ (tv (fF x1 x2 x3 x4 x5 x6) st t) → JI l g M_X4_value d 8 [(0, .ref 11), (1, .int x1), (2, .int x2), (3, .int x3), (4, .int x4), (5, .int x5), (6, .int x6), (7, .int (nI (pos + 1)))] [] τ k) :
    JI l g M_X4_value d 8 [(0, .ref 11), (1, .int x1), (2, .int x2), (3, .int x3), (4, .int x4), (5, .int x5), (6, .int x6), (7, .int (nI pos))] [] σ k := by
  refine b_X4_value_8 (by omega) ?_
  rw [h.1.R 705 rfl, h.1.A 12 rfl, e705, nI_clamp (by omega), hs, nI_1]
  refine ⟨fun q => absurd ((len (by omega) (by omega)).mp q) (by omega), fun _ => ⟨vp_in_nI (by omega) (by omega), ?_⟩⟩
  by_cases hn : t.1 = 2
  · rcases ht with ⟨e, -⟩ | ⟨e, h0, h5⟩ | e | e | e
    · rw [e] at hn
      exact absurd hn (by decide)
    · rw [sg_nam hn, Int32.neg_neg]
      rw [tv_nam hn] at H
      obtain ⟨w, hw, ew⟩ := nI_of2 (M := 5) (n := 5) rfl (Int32.not_lt.mpr h0) h5
      rw [ew] at H ⊢
      rw [nI_clamp (by omega)] at H
      match w, hw with
      | 0, _ => exact ⟨fun q => absurd rfl q.2.2.1, fun q => absurd q (by decide), fun q => absurd q (by decide), fun _ => c_push hl h H, fun q => absurd q (by decide), fun q => absurd q (by decide), fun q => absurd q (by decide), fun q => absurd q (by decide), fun q => absurd q (by decide)⟩
      | 1, _ => exact ⟨fun q => absurd rfl q.2.2.2.1, fun q => absurd q (by decide), fun q => absurd q (by decide), fun q => absurd q (by decide), fun _ => c_push hl h H, fun q => absurd q (by decide), fun q => absurd q (by decide), fun q => absurd q (by decide), fun q => absurd q (by decide)⟩
      | 2, _ => exact ⟨fun q => absurd rfl q.2.2.2.2.1, fun q => absurd q (by decide), fun q => absurd q (by decide), fun q => absurd q (by decide), fun q => absurd q (by decide), fun _ => c_push hl h H, fun q => absurd q (by decide), fun q => absurd q (by decide), fun q => absurd q (by decide)⟩
      | 3, _ => exact ⟨fun q => absurd rfl q.2.2.2.2.2.2.2, fun q => absurd q (by decide), fun q => absurd q (by decide), fun q => absurd q (by decide), fun q => absurd q (by decide), fun q => absurd q (by decide), fun q => absurd q (by decide), fun q => absurd q (by decide), fun _ => c_push hl h H⟩
      | 4, _ => exact ⟨fun q => absurd rfl q.2.2.2.2.2.1, fun q => absurd q (by decide), fun q => absurd q (by decide), fun q => absurd q (by decide), fun q => absurd q (by decide), fun q => absurd q (by decide), fun _ => c_push hl h H, fun q => absurd q (by decide), fun q => absurd q (by decide)⟩
      | 5, _ => exact ⟨fun q => absurd rfl q.2.2.2.2.2.2.1, fun q => absurd q (by decide), fun q => absurd q (by decide), fun q => absurd q (by decide), fun q => absurd q (by decide), fun q => absurd q (by decide), fun q => absurd q (by decide), fun _ => c_push hl h H, fun q => absurd q (by decide)⟩
      | z + 6, q => omega
    · rw [e] at hn
      exact absurd hn (by decide)
    · rw [e] at hn
      exact absurd hn (by decide)
    · exact absurd hn (bin_ne e).1.2.1
  · have no : ¬ -(tk_sign t) = 59 ∧ ¬ -(tk_sign t) = 63 ∧ ¬ -(tk_sign t) = 97 ∧ ¬ -(tk_sign t) = 98 ∧ ¬ -(tk_sign t) = 100 ∧ ¬ -(tk_sign t) = 105 ∧ ¬ -(tk_sign t) = 106 ∧ ¬ -(tk_sign t) = 107 := by
      rcases ht with ⟨e, h0⟩ | ⟨e, -⟩ | e | e | e
      · rw [sg_num e]
        exact ⟨neg_ne h0 (by decide), neg_ne h0 (by decide), neg_ne h0 (by decide), neg_ne h0 (by decide), neg_ne h0 (by decide), neg_ne h0 (by decide), neg_ne h0 (by decide), neg_ne h0 (by decide)⟩
      · exact absurd e hn
      · rw [sg_not e]
        decide
      · rw [sg_neg e]
        decide
      · rw [sg_bi e]
        exact (bin_ne e).2.2.1
    obtain ⟨n1, n2, n3, n4, n5, n6, n7, n8⟩ := no
    exact ⟨fun _ => c_work (by omega) ht hn hl hdp h H, fun q => absurd q n1, fun q => absurd q n2, fun q => absurd q n3, fun q => absurd q n4, fun q => absurd q n5, fun q => absurd q n6, fun q => absurd q n7, fun q => absurd q n8⟩
theorem c_toks {d D : Nat} {k : Int32 → am_S → Prop} (hd : 2 ≤ d) (hD : D ≤ 121) (e705 : rg σ0 705 = nI D) : ∀ (ts : List Tok) (pos m : Nat) (σ : am_S) (st : List Int32), (∀ t ∈ ts, tk_ok t) → tk_dep st.length ts = some m → pos + ts.length ≤ D → st.length ≤ pos → (∀ i v, (ts.map tk_sign)[i]? = some v → ar σ0 12 (pos + i) = v) → VC σ0 σ st →
    (∀ τ, VC σ0 τ (ts.foldl (tv (fF x1 x2 x3 x4 x5 x6)) st) → JI l g M_X4_value d 8 [(0, .ref 11), (1, .int x1), (2, .int x2), (3, .int x3), (4, .int x4), (5, .int x5), (6, .int x6), (7, .int (nI (pos + ts.length)))] [] τ k) →
    JI l g M_X4_value d 8 [(0, .ref 11), (1, .int x1), (2, .int x2), (3, .int x3), (4, .int x4), (5, .int x5), (6, .int x6), (7, .int (nI pos))] [] σ k
  | [], pos, m, σ, st, _, _, _, _, _, h, H => H σ h
  | t :: ts, pos, m, σ, st, hok, hdp, hl, hst, hs, h, H => by
    obtain ⟨n1, h1, h2⟩ := dep_cons hdp
    have hl2 : pos + (ts.length + 1) ≤ D := hl
    refine c_tok hd hD e705 (by omega) ((hs 0 _ rfl)) (hok t List.mem_cons_self) (by omega) h1 h (fun τ hτ => ?_)
    have e1 := tv_len (F := fF x1 x2 x3 x4 x5 x6) h1
    have n1le : n1 ≤ st.length + 1 := by
      unfold dep1 at h1
      split at h1
      · cases h1; omega
      · split at h1
        · split at h1
          · cases h1; omega
          · cases h1
        · split at h1
          · cases h1; omega
          · cases h1
    refine c_toks hd hD e705 ts (pos + 1) m τ _ (fun s hs2 => hok s (List.mem_cons_of_mem _ hs2)) (by rw [e1]; exact h2) (by omega) (by rw [e1]; omega) (fun i v hv => ?_) hτ (fun υ hυ => ?_)
    · have := hs (i + 1) v hv
      rw [← this]
      congr 1
      omega
    · have := H υ hυ
      rw [show pos + 1 + ts.length = pos + (ts.length + 1) by omega]
      exact this
theorem c_eol {d D : Nat} {x : Int32} {k : Int32 → am_S → Prop} {σ : am_S} (hD : D ≤ 121) (e705 : rg σ 705 = nI D) : ∀ (pre : List Int32) (pos : Nat), pos + pre.length < D → (∀ i v, (pre ++ [-59])[i]? = some v → ar σ 12 (pos + i) = v) → (∀ v ∈ pre, ¬ v = -59) → k (nI (pos + pre.length)) σ →
    JI l g M_X4_endOfLine d 2 [(0, .ref 11), (1, .int x), (2, .int (nI pos))] [] σ k
  | [], pos, hl, hs, _, H => by
    have hl : pos + 0 < D := hl
    refine b_X4_endOfLine_2 ?_
    rw [e705, nI_clamp (by omega), show ar σ 12 pos = -59 from hs 0 _ rfl]
    exact ⟨fun q => absurd ((len (by omega) (by omega)).mp q) (by omega), fun _ => ⟨vp_in_nI (by omega) (by omega), fun _ => H, fun q => absurd rfl q⟩⟩
  | v :: pre, pos, hl, hs, hno, H => by
    have hl2 : pos + (pre.length + 1) < D := hl
    refine b_X4_endOfLine_2 ?_
    rw [e705, nI_clamp (by omega), show ar σ 12 pos = v from hs 0 _ rfl, nI_1]
    refine ⟨fun q => absurd ((len (by omega) (by omega)).mp q) (by omega), fun _ => ⟨vp_in_nI (by omega) (by omega), fun q => absurd q (hno v List.mem_cons_self), fun _ => ?_⟩⟩
    refine c_eol hD e705 pre (pos + 1) (by omega) (fun i w hw => ?_) (fun w hw => hno w (List.mem_cons_of_mem _ hw)) ?_
    · have := hs (i + 1) w hw
      rw [← this]
      congr 1
      omega
    · rw [show pos + 1 + pre.length = pos + (pre.length + 1) by omega]
      exact H
end Val
end EvalC
