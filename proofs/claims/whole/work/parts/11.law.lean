/-! the law: its start, and its loop's head -/
def sc (g : am_G) (i : Int32) : Int32 := g.2.2.2.2 i.toNatClampNeg
theorem j_sldv {l : Launch} {g : am_G} {x : am_X} {pc : Nat} {lv : List (Nat × Value)} {st : List Value} {h : am_H} {u w : Nat} {K : Option Value → am_H → Prop} {i : Int32} (hd : decode x.1.2.1 pc = .ok (.iaload, 1)) (hi : vp_in i g.2.2.2.1) (k : J l g x (pc + 1) lv (.int (sc g i) :: st) h u w K) : J l g x pc lv (.int i :: .ref 1000 :: st) h u w K := j_sld hd hi k
def JW (l : Launch) (g : am_G) (d pc : Nat) (lv : List (Nat × Value)) (st : List Value) (σ : am_S) (k : Int32 → am_S → Prop) : Prop := J l g (M_L_law, d, 85, 58406) pc lv st (hp σ) 85 58406 (kI k)
theorem sw_end_0_36 {x : Int32} (h : ¬ (x.toInt < 0 ∨ 36 < x.toInt)) (h0 : ¬ x = 0) (h1 : ¬ x = 1) (h2 : ¬ x = 2) (h3 : ¬ x = 3) (h4 : ¬ x = 4) (h5 : ¬ x = 5) (h6 : ¬ x = 6) (h7 : ¬ x = 7) (h8 : ¬ x = 8) (h9 : ¬ x = 9) (h10 : ¬ x = 10) (h11 : ¬ x = 11) (h12 : ¬ x = 12) (h13 : ¬ x = 13) (h14 : ¬ x = 14) (h15 : ¬ x = 15) (h16 : ¬ x = 16) (h17 : ¬ x = 17) (h18 : ¬ x = 18) (h19 : ¬ x = 19) (h20 : ¬ x = 20) (h21 : ¬ x = 21) (h22 : ¬ x = 22) (h23 : ¬ x = 23) (h24 : ¬ x = 24) (h25 : ¬ x = 25) (h26 : ¬ x = 26) (h27 : ¬ x = 27) (h28 : ¬ x = 28) (h29 : ¬ x = 29) (h30 : ¬ x = 30) (h31 : ¬ x = 31) (h32 : ¬ x = 32) (h33 : ¬ x = 33) (h34 : ¬ x = 34) (h35 : ¬ x = 35) (h36 : ¬ x = 36) : False := by
  have e0 := ne_toInt h0 (a := 0) (by decide)
  have e1 := ne_toInt h1 (a := 1) (by decide)
  have e2 := ne_toInt h2 (a := 2) (by decide)
  have e3 := ne_toInt h3 (a := 3) (by decide)
  have e4 := ne_toInt h4 (a := 4) (by decide)
  have e5 := ne_toInt h5 (a := 5) (by decide)
  have e6 := ne_toInt h6 (a := 6) (by decide)
  have e7 := ne_toInt h7 (a := 7) (by decide)
  have e8 := ne_toInt h8 (a := 8) (by decide)
  have e9 := ne_toInt h9 (a := 9) (by decide)
  have e10 := ne_toInt h10 (a := 10) (by decide)
  have e11 := ne_toInt h11 (a := 11) (by decide)
  have e12 := ne_toInt h12 (a := 12) (by decide)
  have e13 := ne_toInt h13 (a := 13) (by decide)
  have e14 := ne_toInt h14 (a := 14) (by decide)
  have e15 := ne_toInt h15 (a := 15) (by decide)
  have e16 := ne_toInt h16 (a := 16) (by decide)
  have e17 := ne_toInt h17 (a := 17) (by decide)
  have e18 := ne_toInt h18 (a := 18) (by decide)
  have e19 := ne_toInt h19 (a := 19) (by decide)
  have e20 := ne_toInt h20 (a := 20) (by decide)
  have e21 := ne_toInt h21 (a := 21) (by decide)
  have e22 := ne_toInt h22 (a := 22) (by decide)
  have e23 := ne_toInt h23 (a := 23) (by decide)
  have e24 := ne_toInt h24 (a := 24) (by decide)
  have e25 := ne_toInt h25 (a := 25) (by decide)
  have e26 := ne_toInt h26 (a := 26) (by decide)
  have e27 := ne_toInt h27 (a := 27) (by decide)
  have e28 := ne_toInt h28 (a := 28) (by decide)
  have e29 := ne_toInt h29 (a := 29) (by decide)
  have e30 := ne_toInt h30 (a := 30) (by decide)
  have e31 := ne_toInt h31 (a := 31) (by decide)
  have e32 := ne_toInt h32 (a := 32) (by decide)
  have e33 := ne_toInt h33 (a := 33) (by decide)
  have e34 := ne_toInt h34 (a := 34) (by decide)
  have e35 := ne_toInt h35 (a := 35) (by decide)
  have e36 := ne_toInt h36 (a := 36) (by decide)
  omega
set_option maxRecDepth 20000 in
set_option maxHeartbeats 4000000 in
theorem b_L_law_18 {l : Launch} {g : am_G} {d : Nat} {σ : am_S} {k : Int32 → am_S → Prop} {x3 : Int32} (hd : 1 ≤ d) (H : (((Int32.ofNat g.2.2.2.1) - 6 < x3 → k 1 σ) ∧ (¬ (Int32.ofNat g.2.2.2.1) - 6 < x3 → (vp_in x3 g.2.2.2.1 ∧ (((((sc g x3) &&& 63).toInt < 0 ∨ 36 < ((sc g x3) &&& 63).toInt) → JW l g d 18 [(0, .ref 1000), (1, .ref 0), (2, .ref 55), (3, .int (x3 + 6))] [] σ k) ∧ ((sc g x3) &&& 63 = 0 → CI l g M_X11_room (d - 1) [.ref 0] σ (fun r1 σ1 => CI l g M_X12_room (d - 1) [.ref 55] σ1 (fun r2 σ2 => ((r1 = r2 → JW l g d 18 [(0, .ref 1000), (1, .ref 0), (2, .ref 55), (3, .int (x3 + 6))] [] σ2 k) ∧ (¬ r1 = r2 → k 0 σ2))))) ∧ ((sc g x3) &&& 63 = 1 → (vp_in (x3 + 1) g.2.2.2.1 ∧ (vp_in (x3 + 2) g.2.2.2.1 ∧ CI l g M_X11_door (d - 1) [.ref 0, .int (sc g (x3 + 1)), .int (sc g (x3 + 2))] σ (fun r3 σ3 => (vp_in (x3 + 1) g.2.2.2.1 ∧ (vp_in (x3 + 2) g.2.2.2.1 ∧ CI l g M_X12_door (d - 1) [.ref 55, .int (sc g (x3 + 1)), .int (sc g (x3 + 2))] σ3 (fun r4 σ4 => ((r3 = r4 → JW l g d 18 [(0, .ref 1000), (1, .ref 0), (2, .ref 55), (3, .int (x3 + 6))] [] σ4 k) ∧ (¬ r3 = r4 → k 0 σ4))))))))) ∧ ((sc g x3) &&& 63 = 2 → (vp_in (x3 + 1) g.2.2.2.1 ∧ (vp_in (x3 + 2) g.2.2.2.1 ∧ CI l g M_X11_person (d - 1) [.ref 0, .int (sc g (x3 + 1)), .int (sc g (x3 + 2))] σ (fun r5 σ5 => (vp_in (x3 + 1) g.2.2.2.1 ∧ (vp_in (x3 + 2) g.2.2.2.1 ∧ CI l g M_X12_person (d - 1) [.ref 55, .int (sc g (x3 + 1)), .int (sc g (x3 + 2))] σ5 (fun r6 σ6 => ((r5 = r6 → JW l g d 18 [(0, .ref 1000), (1, .ref 0), (2, .ref 55), (3, .int (x3 + 6))] [] σ6 k) ∧ (¬ r5 = r6 → k 0 σ6))))))))) ∧ ((sc g x3) &&& 63 = 3 → (vp_in (x3 + 1) g.2.2.2.1 ∧ (vp_in (x3 + 2) g.2.2.2.1 ∧ (vp_in (x3 + 3) g.2.2.2.1 ∧ CI l g M_X11_people (d - 1) [.ref 0, .int (sc g (x3 + 1)), .int (sc g (x3 + 2)), .int (sc g (x3 + 3))] σ (fun r7 σ7 => (vp_in (x3 + 1) g.2.2.2.1 ∧ (vp_in (x3 + 2) g.2.2.2.1 ∧ (vp_in (x3 + 3) g.2.2.2.1 ∧ CI l g M_X12_people (d - 1) [.ref 55, .int (sc g (x3 + 1)), .int (sc g (x3 + 2)), .int (sc g (x3 + 3))] σ7 (fun r8 σ8 => ((r7 = r8 → JW l g d 18 [(0, .ref 1000), (1, .ref 0), (2, .ref 55), (3, .int (x3 + 6))] [] σ8 k) ∧ (¬ r7 = r8 → k 0 σ8))))))))))) ∧ ((sc g x3) &&& 63 = 4 → (vp_in (x3 + 1) g.2.2.2.1 ∧ (vp_in (x3 + 2) g.2.2.2.1 ∧ (vp_in (x3 + 3) g.2.2.2.1 ∧ CI l g M_X11_mend (d - 1) [.ref 0, .int (sc g (x3 + 1)), .int (sc g (x3 + 2)), .int (sc g (x3 + 3))] σ (fun r9 σ9 => (vp_in (x3 + 1) g.2.2.2.1 ∧ (vp_in (x3 + 2) g.2.2.2.1 ∧ (vp_in (x3 + 3) g.2.2.2.1 ∧ CI l g M_X12_mend (d - 1) [.ref 55, .int (sc g (x3 + 1)), .int (sc g (x3 + 2)), .int (sc g (x3 + 3))] σ9 (fun r10 σ10 => ((r9 = r10 → JW l g d 18 [(0, .ref 1000), (1, .ref 0), (2, .ref 55), (3, .int (x3 + 6))] [] σ10 k) ∧ (¬ r9 = r10 → k 0 σ10))))))))))) ∧ ((sc g x3) &&& 63 = 5 → (vp_in (x3 + 1) g.2.2.2.1 ∧ CI l g M_X11_wear (d - 1) [.ref 0, .int (sc g (x3 + 1))] σ (fun r11 σ11 => (vp_in (x3 + 1) g.2.2.2.1 ∧ CI l g M_X12_wear (d - 1) [.ref 55, .int (sc g (x3 + 1))] σ11 (fun r12 σ12 => ((r11 = r12 → JW l g d 18 [(0, .ref 1000), (1, .ref 0), (2, .ref 55), (3, .int (x3 + 6))] [] σ12 k) ∧ (¬ r11 = r12 → k 0 σ12))))))) ∧ ((sc g x3) &&& 63 = 6 → (vp_in (x3 + 1) g.2.2.2.1 ∧ (vp_in (x3 + 2) g.2.2.2.1 ∧ CI l g M_X11_of (d - 1) [.ref 0, .int (sc g (x3 + 1)), .int (sc g (x3 + 2))] σ (fun r13 σ13 => (vp_in (x3 + 1) g.2.2.2.1 ∧ (vp_in (x3 + 2) g.2.2.2.1 ∧ CI l g M_X12_of (d - 1) [.ref 55, .int (sc g (x3 + 1)), .int (sc g (x3 + 2))] σ13 (fun r14 σ14 => ((r13 = r14 → JW l g d 18 [(0, .ref 1000), (1, .ref 0), (2, .ref 55), (3, .int (x3 + 6))] [] σ14 k) ∧ (¬ r13 = r14 → k 0 σ14))))))))) ∧ ((sc g x3) &&& 63 = 7 → (vp_in (x3 + 1) g.2.2.2.1 ∧ CI l g M_X11_feed (d - 1) [.ref 0, .int (sc g (x3 + 1))] σ (fun r15 σ15 => (vp_in (x3 + 1) g.2.2.2.1 ∧ CI l g M_X12_feed (d - 1) [.ref 55, .int (sc g (x3 + 1))] σ15 (fun r16 σ16 => ((r15 = r16 → JW l g d 18 [(0, .ref 1000), (1, .ref 0), (2, .ref 55), (3, .int (x3 + 6))] [] σ16 k) ∧ (¬ r15 = r16 → k 0 σ16))))))) ∧ ((sc g x3) &&& 63 = 8 → CI l g M_X11_law (d - 1) [.ref 0] σ (fun r17 σ17 => CI l g M_X12_law (d - 1) [.ref 55] σ17 (fun r18 σ18 => ((r17 = r18 → JW l g d 18 [(0, .ref 1000), (1, .ref 0), (2, .ref 55), (3, .int (x3 + 6))] [] σ18 k) ∧ (¬ r17 = r18 → k 0 σ18))))) ∧ ((sc g x3) &&& 63 = 9 → (vp_in (x3 + 1) g.2.2.2.1 ∧ (vp_in (x3 + 2) g.2.2.2.1 ∧ CI l g M_X11_may (d - 1) [.ref 0, .int (sc g (x3 + 1)), .int (sc g (x3 + 2))] σ (fun r19 σ19 => (vp_in (x3 + 1) g.2.2.2.1 ∧ (vp_in (x3 + 2) g.2.2.2.1 ∧ CI l g M_X12_may (d - 1) [.ref 55, .int (sc g (x3 + 1)), .int (sc g (x3 + 2))] σ19 (fun r20 σ20 => ((r19 = r20 → JW l g d 18 [(0, .ref 1000), (1, .ref 0), (2, .ref 55), (3, .int (x3 + 6))] [] σ20 k) ∧ (¬ r19 = r20 → k 0 σ20))))))))) ∧ ((sc g x3) &&& 63 = 10 → (vp_in (x3 + 1) g.2.2.2.1 ∧ CI l g M_X11_changes (d - 1) [.ref 0, .int (sc g (x3 + 1))] σ (fun r21 σ21 => (vp_in (x3 + 1) g.2.2.2.1 ∧ CI l g M_X12_changes (d - 1) [.ref 55, .int (sc g (x3 + 1))] σ21 (fun r22 σ22 => ((r21 = r22 → JW l g d 18 [(0, .ref 1000), (1, .ref 0), (2, .ref 55), (3, .int (x3 + 6))] [] σ22 k) ∧ (¬ r21 = r22 → k 0 σ22))))))) ∧ ((sc g x3) &&& 63 = 11 → (vp_in (x3 + 1) g.2.2.2.1 ∧ (vp_in (x3 + 2) g.2.2.2.1 ∧ CI l g M_X11_change (d - 1) [.ref 0, .int (sc g (x3 + 1)), .int (sc g (x3 + 2))] σ (fun r23 σ23 => (vp_in (x3 + 1) g.2.2.2.1 ∧ (vp_in (x3 + 2) g.2.2.2.1 ∧ CI l g M_X12_change (d - 1) [.ref 55, .int (sc g (x3 + 1)), .int (sc g (x3 + 2))] σ23 (fun r24 σ24 => ((r23 = r24 → JW l g d 18 [(0, .ref 1000), (1, .ref 0), (2, .ref 55), (3, .int (x3 + 6))] [] σ24 k) ∧ (¬ r23 = r24 → k 0 σ24))))))))) ∧ ((sc g x3) &&& 63 = 12 → (vp_in (x3 + 1) g.2.2.2.1 ∧ CI l g M_X11_led (d - 1) [.ref 0, .int (sc g (x3 + 1))] σ (fun r25 σ25 => (vp_in (x3 + 1) g.2.2.2.1 ∧ CI l g M_X12_led (d - 1) [.ref 55, .int (sc g (x3 + 1))] σ25 (fun r26 σ26 => ((r25 = r26 → JW l g d 18 [(0, .ref 1000), (1, .ref 0), (2, .ref 55), (3, .int (x3 + 6))] [] σ26 k) ∧ (¬ r25 = r26 → k 0 σ26))))))) ∧ ((sc g x3) &&& 63 = 13 → (vp_in (x3 + 1) g.2.2.2.1 ∧ CI l g M_X11_reach (d - 1) [.ref 0, .int (sc g (x3 + 1))] σ (fun r27 σ27 => (vp_in (x3 + 1) g.2.2.2.1 ∧ CI l g M_X12_reach (d - 1) [.ref 55, .int (sc g (x3 + 1))] σ27 (fun r28 σ28 => ((r27 = r28 → JW l g d 18 [(0, .ref 1000), (1, .ref 0), (2, .ref 55), (3, .int (x3 + 6))] [] σ28 k) ∧ (¬ r27 = r28 → k 0 σ28))))))) ∧ ((sc g x3) &&& 63 = 14 → (vp_in (x3 + 1) g.2.2.2.1 ∧ CI l g M_X11_canBe (d - 1) [.ref 0, .int (sc g (x3 + 1))] σ (fun r29 σ29 => (vp_in (x3 + 1) g.2.2.2.1 ∧ CI l g M_X12_canBe (d - 1) [.ref 55, .int (sc g (x3 + 1))] σ29 (fun r30 σ30 => ((r29 = r30 → JW l g d 18 [(0, .ref 1000), (1, .ref 0), (2, .ref 55), (3, .int (x3 + 6))] [] σ30 k) ∧ (¬ r29 = r30 → k 0 σ30))))))) ∧ ((sc g x3) &&& 63 = 15 → (vp_in (x3 + 1) g.2.2.2.1 ∧ (vp_in (x3 + 2) g.2.2.2.1 ∧ (vp_in (x3 + 3) g.2.2.2.1 ∧ CI l g M_X11_fewest (d - 1) [.ref 0, .int (sc g (x3 + 1)), .int (sc g (x3 + 2)), .int (sc g (x3 + 3))] σ (fun r31 σ31 => (vp_in (x3 + 1) g.2.2.2.1 ∧ (vp_in (x3 + 2) g.2.2.2.1 ∧ (vp_in (x3 + 3) g.2.2.2.1 ∧ CI l g M_X12_fewest (d - 1) [.ref 55, .int (sc g (x3 + 1)), .int (sc g (x3 + 2)), .int (sc g (x3 + 3))] σ31 (fun r32 σ32 => ((r31 = r32 → JW l g d 18 [(0, .ref 1000), (1, .ref 0), (2, .ref 55), (3, .int (x3 + 6))] [] σ32 k) ∧ (¬ r31 = r32 → k 0 σ32))))))))))) ∧ ((sc g x3) &&& 63 = 16 → (vp_in (x3 + 1) g.2.2.2.1 ∧ (vp_in (x3 + 2) g.2.2.2.1 ∧ CI l g M_X11_first (d - 1) [.ref 0, .int (sc g (x3 + 1)), .int (sc g (x3 + 2))] σ (fun r33 σ33 => (vp_in (x3 + 1) g.2.2.2.1 ∧ (vp_in (x3 + 2) g.2.2.2.1 ∧ CI l g M_X12_first (d - 1) [.ref 55, .int (sc g (x3 + 1)), .int (sc g (x3 + 2))] σ33 (fun r34 σ34 => ((r33 = r34 → JW l g d 18 [(0, .ref 1000), (1, .ref 0), (2, .ref 55), (3, .int (x3 + 6))] [] σ34 k) ∧ (¬ r33 = r34 → k 0 σ34))))))))) ∧ ((sc g x3) &&& 63 = 17 → (vp_in (x3 + 1) g.2.2.2.1 ∧ (vp_in (x3 + 2) g.2.2.2.1 ∧ CI l g M_X11_turn (d - 1) [.ref 0, .int (sc g (x3 + 1)), .int (sc g (x3 + 2))] σ (fun r35 σ35 => (vp_in (x3 + 1) g.2.2.2.1 ∧ (vp_in (x3 + 2) g.2.2.2.1 ∧ CI l g M_X12_turn (d - 1) [.ref 55, .int (sc g (x3 + 1)), .int (sc g (x3 + 2))] σ35 (fun r36 σ36 => ((r35 = r36 → JW l g d 18 [(0, .ref 1000), (1, .ref 0), (2, .ref 55), (3, .int (x3 + 6))] [] σ36 k) ∧ (¬ r35 = r36 → k 0 σ36))))))))) ∧ ((sc g x3) &&& 63 = 18 → (vp_in (x3 + 1) g.2.2.2.1 ∧ (vp_in (x3 + 2) g.2.2.2.1 ∧ (vp_in (x3 + 3) g.2.2.2.1 ∧ CI l g M_X11_boots (d - 1) [.ref 0, .int (sc g (x3 + 1)), .int (sc g (x3 + 2)), .int (sc g (x3 + 3))] σ (fun r37 σ37 => (vp_in (x3 + 1) g.2.2.2.1 ∧ (vp_in (x3 + 2) g.2.2.2.1 ∧ (vp_in (x3 + 3) g.2.2.2.1 ∧ CI l g M_X12_boots (d - 1) [.ref 55, .int (sc g (x3 + 1)), .int (sc g (x3 + 2)), .int (sc g (x3 + 3))] σ37 (fun r38 σ38 => ((r37 = r38 → JW l g d 18 [(0, .ref 1000), (1, .ref 0), (2, .ref 55), (3, .int (x3 + 6))] [] σ38 k) ∧ (¬ r37 = r38 → k 0 σ38))))))))))) ∧ ((sc g x3) &&& 63 = 19 → (vp_in (x3 + 1) g.2.2.2.1 ∧ (vp_in (x3 + 2) g.2.2.2.1 ∧ CI l g M_X11_month (d - 1) [.ref 0, .int (sc g (x3 + 1)), .int (sc g (x3 + 2))] σ (fun r39 σ39 => (vp_in (x3 + 1) g.2.2.2.1 ∧ (vp_in (x3 + 2) g.2.2.2.1 ∧ CI l g M_X12_month (d - 1) [.ref 55, .int (sc g (x3 + 1)), .int (sc g (x3 + 2))] σ39 (fun r40 σ40 => ((r39 = r40 → JW l g d 18 [(0, .ref 1000), (1, .ref 0), (2, .ref 55), (3, .int (x3 + 6))] [] σ40 k) ∧ (¬ r39 = r40 → k 0 σ40))))))))) ∧ ((sc g x3) &&& 63 = 20 → (vp_in (x3 + 1) g.2.2.2.1 ∧ (vp_in (x3 + 2) g.2.2.2.1 ∧ (vp_in (x3 + 3) g.2.2.2.1 ∧ (vp_in (x3 + 4) g.2.2.2.1 ∧ CI l g M_X11_tries (d - 1) [.ref 0, .int (sc g (x3 + 1)), .int (sc g (x3 + 2)), .int (sc g (x3 + 3)), .int (sc g (x3 + 4))] σ (fun r41 σ41 => (vp_in (x3 + 1) g.2.2.2.1 ∧ (vp_in (x3 + 2) g.2.2.2.1 ∧ (vp_in (x3 + 3) g.2.2.2.1 ∧ (vp_in (x3 + 4) g.2.2.2.1 ∧ CI l g M_X12_tries (d - 1) [.ref 55, .int (sc g (x3 + 1)), .int (sc g (x3 + 2)), .int (sc g (x3 + 3)), .int (sc g (x3 + 4))] σ41 (fun r42 σ42 => ((r41 = r42 → JW l g d 18 [(0, .ref 1000), (1, .ref 0), (2, .ref 55), (3, .int (x3 + 6))] [] σ42 k) ∧ (¬ r41 = r42 → k 0 σ42))))))))))))) ∧ ((sc g x3) &&& 63 = 21 → (vp_in (x3 + 1) g.2.2.2.1 ∧ CI l g M_X11_judge (d - 1) [.ref 0, .int (sc g (x3 + 1))] σ (fun r43 σ43 => (vp_in (x3 + 1) g.2.2.2.1 ∧ CI l g M_X12_judge (d - 1) [.ref 55, .int (sc g (x3 + 1))] σ43 (fun r44 σ44 => ((r43 = r44 → JW l g d 18 [(0, .ref 1000), (1, .ref 0), (2, .ref 55), (3, .int (x3 + 6))] [] σ44 k) ∧ (¬ r43 = r44 → k 0 σ44))))))) ∧ ((sc g x3) &&& 63 = 22 → (vp_in (x3 + 1) g.2.2.2.1 ∧ CI l g M_X11_seen (d - 1) [.ref 0, .int (sc g (x3 + 1))] σ (fun r45 σ45 => (vp_in (x3 + 1) g.2.2.2.1 ∧ CI l g M_X12_seen (d - 1) [.ref 55, .int (sc g (x3 + 1))] σ45 (fun r46 σ46 => ((r45 = r46 → JW l g d 18 [(0, .ref 1000), (1, .ref 0), (2, .ref 55), (3, .int (x3 + 6))] [] σ46 k) ∧ (¬ r45 = r46 → k 0 σ46))))))) ∧ ((sc g x3) &&& 63 = 23 → CI l g M_X11_image (d - 1) [.ref 0] σ (fun r47 σ47 => CI l g M_X12_image (d - 1) [.ref 55] σ47 (fun r48 σ48 => ((r47 = r48 → JW l g d 18 [(0, .ref 1000), (1, .ref 0), (2, .ref 55), (3, .int (x3 + 6))] [] σ48 k) ∧ (¬ r47 = r48 → k 0 σ48))))) ∧ ((sc g x3) &&& 63 = 24 → CI l g M_X11_back (d - 1) [.ref 0] σ (fun r49 σ49 => CI l g M_X12_back (d - 1) [.ref 55] σ49 (fun r50 σ50 => ((r49 = r50 → JW l g d 18 [(0, .ref 1000), (1, .ref 0), (2, .ref 55), (3, .int (x3 + 6))] [] σ50 k) ∧ (¬ r49 = r50 → k 0 σ50))))) ∧ ((sc g x3) &&& 63 = 25 → CI l g M_X11_undo (d - 1) [.ref 0] σ (fun r51 σ51 => CI l g M_X12_undo (d - 1) [.ref 55] σ51 (fun r52 σ52 => ((r51 = r52 → JW l g d 18 [(0, .ref 1000), (1, .ref 0), (2, .ref 55), (3, .int (x3 + 6))] [] σ52 k) ∧ (¬ r51 = r52 → k 0 σ52))))) ∧ ((sc g x3) &&& 63 = 26 → CI l g M_X11_redo (d - 1) [.ref 0] σ (fun r53 σ53 => CI l g M_X12_redo (d - 1) [.ref 55] σ53 (fun r54 σ54 => ((r53 = r54 → JW l g d 18 [(0, .ref 1000), (1, .ref 0), (2, .ref 55), (3, .int (x3 + 6))] [] σ54 k) ∧ (¬ r53 = r54 → k 0 σ54))))) ∧ ((sc g x3) &&& 63 = 27 → (vp_in (x3 + 1) g.2.2.2.1 ∧ CI l g M_X11_body (d - 1) [.ref 0, .int (sc g (x3 + 1))] σ (fun r55 σ55 => (vp_in (x3 + 1) g.2.2.2.1 ∧ CI l g M_X12_body (d - 1) [.ref 55, .int (sc g (x3 + 1))] σ55 (fun r56 σ56 => ((r55 = r56 → JW l g d 18 [(0, .ref 1000), (1, .ref 0), (2, .ref 55), (3, .int (x3 + 6))] [] σ56 k) ∧ (¬ r55 = r56 → k 0 σ56))))))) ∧ ((sc g x3) &&& 63 = 28 → (vp_in (x3 + 1) g.2.2.2.1 ∧ (vp_in (x3 + 2) g.2.2.2.1 ∧ (vp_in (x3 + 3) g.2.2.2.1 ∧ CI l g M_X11_act (d - 1) [.ref 0, .int (sc g (x3 + 1)), .int (sc g (x3 + 2)), .int (sc g (x3 + 3))] σ (fun r57 σ57 => (vp_in (x3 + 1) g.2.2.2.1 ∧ (vp_in (x3 + 2) g.2.2.2.1 ∧ (vp_in (x3 + 3) g.2.2.2.1 ∧ CI l g M_X12_act (d - 1) [.ref 55, .int (sc g (x3 + 1)), .int (sc g (x3 + 2)), .int (sc g (x3 + 3))] σ57 (fun r58 σ58 => ((r57 = r58 → JW l g d 18 [(0, .ref 1000), (1, .ref 0), (2, .ref 55), (3, .int (x3 + 6))] [] σ58 k) ∧ (¬ r57 = r58 → k 0 σ58))))))))))) ∧ ((sc g x3) &&& 63 = 29 → (vp_in (x3 + 1) g.2.2.2.1 ∧ CI l g M_X11_trace (d - 1) [.ref 0, .int (sc g (x3 + 1))] σ (fun r59 σ59 => (vp_in (x3 + 1) g.2.2.2.1 ∧ CI l g M_X12_trace (d - 1) [.ref 55, .int (sc g (x3 + 1))] σ59 (fun r60 σ60 => ((r59 = r60 → JW l g d 18 [(0, .ref 1000), (1, .ref 0), (2, .ref 55), (3, .int (x3 + 6))] [] σ60 k) ∧ (¬ r59 = r60 → k 0 σ60))))))) ∧ ((sc g x3) &&& 63 = 30 → (vp_in (x3 + 1) g.2.2.2.1 ∧ (vp_in (x3 + 2) g.2.2.2.1 ∧ CI l g M_X11_keep (d - 1) [.ref 0, .int (sc g (x3 + 1)), .int (sc g (x3 + 2))] σ (fun r61 σ61 => (vp_in (x3 + 1) g.2.2.2.1 ∧ (vp_in (x3 + 2) g.2.2.2.1 ∧ CI l g M_X12_keep (d - 1) [.ref 55, .int (sc g (x3 + 1)), .int (sc g (x3 + 2))] σ61 (fun r62 σ62 => ((r61 = r62 → JW l g d 18 [(0, .ref 1000), (1, .ref 0), (2, .ref 55), (3, .int (x3 + 6))] [] σ62 k) ∧ (¬ r61 = r62 → k 0 σ62))))))))) ∧ ((sc g x3) &&& 63 = 31 → (vp_in (x3 + 1) g.2.2.2.1 ∧ (vp_in (x3 + 2) g.2.2.2.1 ∧ (vp_in (x3 + 3) g.2.2.2.1 ∧ CI l g M_X11_row (d - 1) [.ref 0, .int (sc g (x3 + 1)), .int (sc g (x3 + 2)), .int (sc g (x3 + 3))] σ (fun r63 σ63 => (vp_in (x3 + 1) g.2.2.2.1 ∧ (vp_in (x3 + 2) g.2.2.2.1 ∧ (vp_in (x3 + 3) g.2.2.2.1 ∧ CI l g M_X12_row (d - 1) [.ref 55, .int (sc g (x3 + 1)), .int (sc g (x3 + 2)), .int (sc g (x3 + 3))] σ63 (fun r64 σ64 => ((r63 = r64 → JW l g d 18 [(0, .ref 1000), (1, .ref 0), (2, .ref 55), (3, .int (x3 + 6))] [] σ64 k) ∧ (¬ r63 = r64 → k 0 σ64))))))))))) ∧ ((sc g x3) &&& 63 = 32 → (vp_in (x3 + 1) g.2.2.2.1 ∧ (vp_in (x3 + 2) g.2.2.2.1 ∧ (vp_in (x3 + 3) g.2.2.2.1 ∧ (vp_in (x3 + 4) g.2.2.2.1 ∧ CI l g M_X11_put (d - 1) [.ref 0, .int (sc g (x3 + 1)), .int (sc g (x3 + 2)), .long ((((sc g (x3 + 3)).toInt64) <<< ((32 : Int32).toInt64 &&& 63)) ||| (((sc g (x3 + 4)).toInt64) &&& 4294967295))] σ (fun r65 σ65 => (vp_in (x3 + 1) g.2.2.2.1 ∧ (vp_in (x3 + 2) g.2.2.2.1 ∧ (vp_in (x3 + 3) g.2.2.2.1 ∧ (vp_in (x3 + 4) g.2.2.2.1 ∧ CI l g M_X12_put (d - 1) [.ref 55, .int (sc g (x3 + 1)), .int (sc g (x3 + 2)), .long ((((sc g (x3 + 3)).toInt64) <<< ((32 : Int32).toInt64 &&& 63)) ||| (((sc g (x3 + 4)).toInt64) &&& 4294967295))] σ65 (fun r66 σ66 => ((r65 = r66 → JW l g d 18 [(0, .ref 1000), (1, .ref 0), (2, .ref 55), (3, .int (x3 + 6))] [] σ66 k) ∧ (¬ r65 = r66 → k 0 σ66))))))))))))) ∧ ((sc g x3) &&& 63 = 33 → (vp_in (x3 + 1) g.2.2.2.1 ∧ (vp_in (x3 + 2) g.2.2.2.1 ∧ CL l g M_X11_element (d - 1) [.ref 0, .int (sc g (x3 + 1)), .int (sc g (x3 + 2))] σ (fun r67 σ67 => (vp_in (x3 + 1) g.2.2.2.1 ∧ (vp_in (x3 + 2) g.2.2.2.1 ∧ CL l g M_X12_element (d - 1) [.ref 55, .int (sc g (x3 + 1)), .int (sc g (x3 + 2))] σ67 (fun r68 σ68 => ((lg_cmp r67 r68 = 0 → JW l g d 18 [(0, .ref 1000), (1, .ref 0), (2, .ref 55), (3, .int (x3 + 6))] [] σ68 k) ∧ (¬ lg_cmp r67 r68 = 0 → k 0 σ68))))))))) ∧ ((sc g x3) &&& 63 = 34 → (vp_in (x3 + 1) g.2.2.2.1 ∧ (vp_in (x3 + 2) g.2.2.2.1 ∧ (vp_in (x3 + 3) g.2.2.2.1 ∧ (vp_in (x3 + 4) g.2.2.2.1 ∧ (vp_in (x3 + 5) g.2.2.2.1 ∧ CI l g M_X11_shift (d - 1) [.ref 0, .int (sc g (x3 + 1)), .int (sc g (x3 + 2)), .int (sc g (x3 + 3)), .int (sc g (x3 + 4)), .int (sc g (x3 + 5))] σ (fun r69 σ69 => (vp_in (x3 + 1) g.2.2.2.1 ∧ (vp_in (x3 + 2) g.2.2.2.1 ∧ (vp_in (x3 + 3) g.2.2.2.1 ∧ (vp_in (x3 + 4) g.2.2.2.1 ∧ (vp_in (x3 + 5) g.2.2.2.1 ∧ CI l g M_X12_shift (d - 1) [.ref 55, .int (sc g (x3 + 1)), .int (sc g (x3 + 2)), .int (sc g (x3 + 3)), .int (sc g (x3 + 4)), .int (sc g (x3 + 5))] σ69 (fun r70 σ70 => ((r69 = r70 → JW l g d 18 [(0, .ref 1000), (1, .ref 0), (2, .ref 55), (3, .int (x3 + 6))] [] σ70 k) ∧ (¬ r69 = r70 → k 0 σ70))))))))))))))) ∧ ((sc g x3) &&& 63 = 35 → (vp_in (x3 + 1) g.2.2.2.1 ∧ (vp_in (x3 + 2) g.2.2.2.1 ∧ CI l g M_X11_taken (d - 1) [.ref 0, .int (sc g (x3 + 1)), .int (sc g (x3 + 2))] σ (fun r71 σ71 => (vp_in (x3 + 1) g.2.2.2.1 ∧ (vp_in (x3 + 2) g.2.2.2.1 ∧ CI l g M_X12_taken (d - 1) [.ref 55, .int (sc g (x3 + 1)), .int (sc g (x3 + 2))] σ71 (fun r72 σ72 => ((r71 = r72 → JW l g d 18 [(0, .ref 1000), (1, .ref 0), (2, .ref 55), (3, .int (x3 + 6))] [] σ72 k) ∧ (¬ r71 = r72 → k 0 σ72))))))))) ∧ ((sc g x3) &&& 63 = 36 → (vp_in (x3 + 1) g.2.2.2.1 ∧ CI l g M_X11_count (d - 1) [.ref 0, .int (sc g (x3 + 1))] σ (fun r73 σ73 => (vp_in (x3 + 1) g.2.2.2.1 ∧ CI l g M_X12_count (d - 1) [.ref 55, .int (sc g (x3 + 1))] σ73 (fun r74 σ74 => ((r73 = r74 → JW l g d 18 [(0, .ref 1000), (1, .ref 0), (2, .ref 55), (3, .int (x3 + 6))] [] σ74 k) ∧ (¬ r73 = r74 → k 0 σ74)))))))))))) : JW l g d 18 [(0, .ref 1000), (1, .ref 0), (2, .ref 55), (3, .int x3)] [] σ k := by
  show J l g (M_L_law, d, 85, 58406) 18 [(0, .ref 1000), (1, .ref 0), (2, .ref 55), (3, .int x3)] [] (hp σ) 85 58406 (kI k)
  refine j_iload_n (pc := 18) dL_law_18 rfl ?_
  refine j_aload_n (pc := 19) dL_law_19 rfl ?_
  refine j_slen (pc := 20) dL_law_20 ?_
  refine j_bipush (pc := 21) (v := 6) dL_law_21 (by decide) ?_
  refine j_isub (pc := 23) dL_law_23 ?_
  refine j_icmp_gt (pc := 24) (t := 1344) dL_law_24 (by decide) (fun c24 => ?_) (fun c24 => ?_)
  · replace H := H.1 c24
    refine j_iconst (pc := 1344) (v := 1) dL_law_1344 (by decide) ?_
    exact s_iretz (pc := 1345) dL_law_1345 rfl rfl H
  · replace H := H.2 c24
    refine j_aload_n (pc := 27) dL_law_27 rfl ?_
    refine j_iload_n (pc := 28) dL_law_28 rfl ?_
    have b29 := H.1
    replace H := H.2
    refine j_sldv (pc := 29) dL_law_29 b29 ?_
    refine j_bipush (pc := 30) (v := 63) dL_law_30 (by decide) ?_
    refine j_iand (pc := 32) dL_law_32 ?_
    rcases sw_cases ((sc g x3) &&& 63) 0 36 with c33 | c33
    · replace H := H.1 c33
      refine j_tableOut (pc := 33) (t := 1338) dL_law_33 c33 (by decide) ?_
      refine j_iinc (pc := 1338) (k := 3) (v := x3 + 6) (lv1 := [(3, .int (x3 + 6)), (0, .ref 1000), (1, .ref 0), (2, .ref 55)]) dL_law_1338 rfl rfl (Nat.le_of_ble_eq_true rfl) rfl ?_
      refine j_goto (pc := 1341) (t := 18) dL_law_1341 (by decide) ?_
      refine j_sub [1, 2, 3, 0] rfl ?_
      exact H
    · replace H := H.2
      by_cases c33_0 : (sc g x3) &&& 63 = 0
      · replace H := H.1 c33_0
        refine j_tableIn (pc := 33) (t := 196) (off := 163) dL_law_33 (by rw [c33_0]; decide) (by rw [c33_0]; decide) (by rw [c33_0]; rfl) (by decide) ?_
        refine j_aload_n (pc := 196) dL_law_196 rfl ?_
        refine s_callV_i (pc := 197) (M1 := M_X11_room) (n := 0) (as := []) (a := 0) (st := []) dL_law_197 G_X11_room wm_L_13 (by decide +kernel) rfl (Nat.le_of_ble_eq_true rfl) shp_0 rfl (by show 1 ≤ d; omega) (Nat.le_of_ble_eq_true rfl) (Nat.le_refl _) (Nat.le_refl _) ?_
        refine CI.mono H (fun r1 σ1 H => ?_)
        refine j_aload_n (pc := 200) dL_law_200 rfl ?_
        refine s_callV_i (pc := 201) (M1 := M_X12_room) (n := 0) (as := []) (a := 55) (st := [.int r1]) dL_law_201 G_X12_room wm_L_17 (by decide +kernel) rfl (Nat.le_of_ble_eq_true rfl) shp_55 rfl (by show 1 ≤ d; omega) (Nat.le_of_ble_eq_true rfl) (Nat.le_refl _) (Nat.le_refl _) ?_
        refine CI.mono H (fun r2 σ2 H => ?_)
        refine j_icmp_eq (pc := 204) (t := 1338) dL_law_204 (by decide) (fun c204 => ?_) (fun c204 => ?_)
        · replace H := H.1 c204
          refine j_iinc (pc := 1338) (k := 3) (v := x3 + 6) (lv1 := [(3, .int (x3 + 6)), (0, .ref 1000), (1, .ref 0), (2, .ref 55)]) dL_law_1338 rfl rfl (Nat.le_of_ble_eq_true rfl) rfl ?_
          refine j_goto (pc := 1341) (t := 18) dL_law_1341 (by decide) ?_
          refine j_sub [1, 2, 3, 0] rfl ?_
          exact H
        · replace H := H.2 c204
          refine j_iconst (pc := 207) (v := 0) dL_law_207 (by decide) ?_
          exact s_iretz (pc := 208) dL_law_208 rfl rfl H
      by_cases c33_1 : (sc g x3) &&& 63 = 1
      · replace H := H.2.1 c33_1
        refine j_tableIn (pc := 33) (t := 209) (off := 176) dL_law_33 (by rw [c33_1]; decide) (by rw [c33_1]; decide) (by rw [c33_1]; rfl) (by decide) ?_
        refine j_aload_n (pc := 209) dL_law_209 rfl ?_
        refine j_aload_n (pc := 210) dL_law_210 rfl ?_
        refine j_iload_n (pc := 211) dL_law_211 rfl ?_
        refine j_iconst (pc := 212) (v := 1) dL_law_212 (by decide) ?_
        refine j_iadd (pc := 213) dL_law_213 ?_
        have b214 := H.1
        replace H := H.2
        refine j_sldv (pc := 214) dL_law_214 b214 ?_
        refine j_aload_n (pc := 215) dL_law_215 rfl ?_
        refine j_iload_n (pc := 216) dL_law_216 rfl ?_
        refine j_iconst (pc := 217) (v := 2) dL_law_217 (by decide) ?_
        refine j_iadd (pc := 218) dL_law_218 ?_
        have b219 := H.1
        replace H := H.2
        refine j_sldv (pc := 219) dL_law_219 b219 ?_
        refine s_callV_i (pc := 220) (M1 := M_X11_door) (n := 2) (as := [.int (sc g (x3 + 1)), .int (sc g (x3 + 2))]) (a := 0) (st := []) dL_law_220 G_X11_door wm_L_18 (by decide +kernel) rfl (Nat.le_of_ble_eq_true rfl) shp_0 rfl (by show 1 ≤ d; omega) (Nat.le_of_ble_eq_true rfl) (Nat.le_refl _) (Nat.le_refl _) ?_
        refine CI.mono H (fun r3 σ3 H => ?_)
        refine j_aload_n (pc := 223) dL_law_223 rfl ?_
        refine j_aload_n (pc := 224) dL_law_224 rfl ?_
        refine j_iload_n (pc := 225) dL_law_225 rfl ?_
        refine j_iconst (pc := 226) (v := 1) dL_law_226 (by decide) ?_
        refine j_iadd (pc := 227) dL_law_227 ?_
        have b228 := H.1
        replace H := H.2
        refine j_sldv (pc := 228) dL_law_228 b228 ?_
        refine j_aload_n (pc := 229) dL_law_229 rfl ?_
        refine j_iload_n (pc := 230) dL_law_230 rfl ?_
        refine j_iconst (pc := 231) (v := 2) dL_law_231 (by decide) ?_
        refine j_iadd (pc := 232) dL_law_232 ?_
        have b233 := H.1
        replace H := H.2
        refine j_sldv (pc := 233) dL_law_233 b233 ?_
        refine s_callV_i (pc := 234) (M1 := M_X12_door) (n := 2) (as := [.int (sc g (x3 + 1)), .int (sc g (x3 + 2))]) (a := 55) (st := [.int r3]) dL_law_234 G_X12_door wm_L_22 (by decide +kernel) rfl (Nat.le_of_ble_eq_true rfl) shp_55 rfl (by show 1 ≤ d; omega) (Nat.le_of_ble_eq_true rfl) (Nat.le_refl _) (Nat.le_refl _) ?_
        refine CI.mono H (fun r4 σ4 H => ?_)
        refine j_icmp_eq (pc := 237) (t := 1338) dL_law_237 (by decide) (fun c237 => ?_) (fun c237 => ?_)
        · replace H := H.1 c237
          refine j_iinc (pc := 1338) (k := 3) (v := x3 + 6) (lv1 := [(3, .int (x3 + 6)), (0, .ref 1000), (1, .ref 0), (2, .ref 55)]) dL_law_1338 rfl rfl (Nat.le_of_ble_eq_true rfl) rfl ?_
          refine j_goto (pc := 1341) (t := 18) dL_law_1341 (by decide) ?_
          refine j_sub [1, 2, 3, 0] rfl ?_
          exact H
        · replace H := H.2 c237
          refine j_iconst (pc := 240) (v := 0) dL_law_240 (by decide) ?_
          exact s_iretz (pc := 241) dL_law_241 rfl rfl H
      by_cases c33_2 : (sc g x3) &&& 63 = 2
      · replace H := H.2.2.1 c33_2
        refine j_tableIn (pc := 33) (t := 242) (off := 209) dL_law_33 (by rw [c33_2]; decide) (by rw [c33_2]; decide) (by rw [c33_2]; rfl) (by decide) ?_
        refine j_aload_n (pc := 242) dL_law_242 rfl ?_
        refine j_aload_n (pc := 243) dL_law_243 rfl ?_
        refine j_iload_n (pc := 244) dL_law_244 rfl ?_
        refine j_iconst (pc := 245) (v := 1) dL_law_245 (by decide) ?_
        refine j_iadd (pc := 246) dL_law_246 ?_
        have b247 := H.1
        replace H := H.2
        refine j_sldv (pc := 247) dL_law_247 b247 ?_
        refine j_aload_n (pc := 248) dL_law_248 rfl ?_
        refine j_iload_n (pc := 249) dL_law_249 rfl ?_
        refine j_iconst (pc := 250) (v := 2) dL_law_250 (by decide) ?_
        refine j_iadd (pc := 251) dL_law_251 ?_
        have b252 := H.1
        replace H := H.2
        refine j_sldv (pc := 252) dL_law_252 b252 ?_
        refine s_callV_i (pc := 253) (M1 := M_X11_person) (n := 2) (as := [.int (sc g (x3 + 1)), .int (sc g (x3 + 2))]) (a := 0) (st := []) dL_law_253 G_X11_person wm_L_23 (by decide +kernel) rfl (Nat.le_of_ble_eq_true rfl) shp_0 rfl (by show 1 ≤ d; omega) (Nat.le_of_ble_eq_true rfl) (Nat.le_refl _) (Nat.le_refl _) ?_
        refine CI.mono H (fun r5 σ5 H => ?_)
        refine j_aload_n (pc := 256) dL_law_256 rfl ?_
        refine j_aload_n (pc := 257) dL_law_257 rfl ?_
        refine j_iload_n (pc := 258) dL_law_258 rfl ?_
        refine j_iconst (pc := 259) (v := 1) dL_law_259 (by decide) ?_
        refine j_iadd (pc := 260) dL_law_260 ?_
        have b261 := H.1
        replace H := H.2
        refine j_sldv (pc := 261) dL_law_261 b261 ?_
        refine j_aload_n (pc := 262) dL_law_262 rfl ?_
        refine j_iload_n (pc := 263) dL_law_263 rfl ?_
        refine j_iconst (pc := 264) (v := 2) dL_law_264 (by decide) ?_
        refine j_iadd (pc := 265) dL_law_265 ?_
        have b266 := H.1
        replace H := H.2
        refine j_sldv (pc := 266) dL_law_266 b266 ?_
        refine s_callV_i (pc := 267) (M1 := M_X12_person) (n := 2) (as := [.int (sc g (x3 + 1)), .int (sc g (x3 + 2))]) (a := 55) (st := [.int r5]) dL_law_267 G_X12_person wm_L_26 (by decide +kernel) rfl (Nat.le_of_ble_eq_true rfl) shp_55 rfl (by show 1 ≤ d; omega) (Nat.le_of_ble_eq_true rfl) (Nat.le_refl _) (Nat.le_refl _) ?_
        refine CI.mono H (fun r6 σ6 H => ?_)
        refine j_icmp_eq (pc := 270) (t := 1338) dL_law_270 (by decide) (fun c270 => ?_) (fun c270 => ?_)
        · replace H := H.1 c270
          refine j_iinc (pc := 1338) (k := 3) (v := x3 + 6) (lv1 := [(3, .int (x3 + 6)), (0, .ref 1000), (1, .ref 0), (2, .ref 55)]) dL_law_1338 rfl rfl (Nat.le_of_ble_eq_true rfl) rfl ?_
          refine j_goto (pc := 1341) (t := 18) dL_law_1341 (by decide) ?_
          refine j_sub [1, 2, 3, 0] rfl ?_
          exact H
        · replace H := H.2 c270
          refine j_iconst (pc := 273) (v := 0) dL_law_273 (by decide) ?_
          exact s_iretz (pc := 274) dL_law_274 rfl rfl H
      by_cases c33_3 : (sc g x3) &&& 63 = 3
      · replace H := H.2.2.2.1 c33_3
        refine j_tableIn (pc := 33) (t := 275) (off := 242) dL_law_33 (by rw [c33_3]; decide) (by rw [c33_3]; decide) (by rw [c33_3]; rfl) (by decide) ?_
        refine j_aload_n (pc := 275) dL_law_275 rfl ?_
        refine j_aload_n (pc := 276) dL_law_276 rfl ?_
        refine j_iload_n (pc := 277) dL_law_277 rfl ?_
        refine j_iconst (pc := 278) (v := 1) dL_law_278 (by decide) ?_
        refine j_iadd (pc := 279) dL_law_279 ?_
        have b280 := H.1
        replace H := H.2
        refine j_sldv (pc := 280) dL_law_280 b280 ?_
        refine j_aload_n (pc := 281) dL_law_281 rfl ?_
        refine j_iload_n (pc := 282) dL_law_282 rfl ?_
        refine j_iconst (pc := 283) (v := 2) dL_law_283 (by decide) ?_
        refine j_iadd (pc := 284) dL_law_284 ?_
        have b285 := H.1
        replace H := H.2
        refine j_sldv (pc := 285) dL_law_285 b285 ?_
        refine j_aload_n (pc := 286) dL_law_286 rfl ?_
        refine j_iload_n (pc := 287) dL_law_287 rfl ?_
        refine j_iconst (pc := 288) (v := 3) dL_law_288 (by decide) ?_
        refine j_iadd (pc := 289) dL_law_289 ?_
        have b290 := H.1
        replace H := H.2
        refine j_sldv (pc := 290) dL_law_290 b290 ?_
        refine s_callV_i (pc := 291) (M1 := M_X11_people) (n := 3) (as := [.int (sc g (x3 + 1)), .int (sc g (x3 + 2)), .int (sc g (x3 + 3))]) (a := 0) (st := []) dL_law_291 G_X11_people wm_L_27 (by decide +kernel) rfl (Nat.le_of_ble_eq_true rfl) shp_0 rfl (by show 1 ≤ d; omega) (Nat.le_of_ble_eq_true rfl) (Nat.le_refl _) (Nat.le_refl _) ?_
        refine CI.mono H (fun r7 σ7 H => ?_)
        refine j_aload_n (pc := 294) dL_law_294 rfl ?_
        refine j_aload_n (pc := 295) dL_law_295 rfl ?_
        refine j_iload_n (pc := 296) dL_law_296 rfl ?_
        refine j_iconst (pc := 297) (v := 1) dL_law_297 (by decide) ?_
        refine j_iadd (pc := 298) dL_law_298 ?_
        have b299 := H.1
        replace H := H.2
        refine j_sldv (pc := 299) dL_law_299 b299 ?_
        refine j_aload_n (pc := 300) dL_law_300 rfl ?_
        refine j_iload_n (pc := 301) dL_law_301 rfl ?_
        refine j_iconst (pc := 302) (v := 2) dL_law_302 (by decide) ?_
        refine j_iadd (pc := 303) dL_law_303 ?_
        have b304 := H.1
        replace H := H.2
        refine j_sldv (pc := 304) dL_law_304 b304 ?_
        refine j_aload_n (pc := 305) dL_law_305 rfl ?_
        refine j_iload_n (pc := 306) dL_law_306 rfl ?_
        refine j_iconst (pc := 307) (v := 3) dL_law_307 (by decide) ?_
        refine j_iadd (pc := 308) dL_law_308 ?_
        have b309 := H.1
        replace H := H.2
        refine j_sldv (pc := 309) dL_law_309 b309 ?_
        refine s_callV_i (pc := 310) (M1 := M_X12_people) (n := 3) (as := [.int (sc g (x3 + 1)), .int (sc g (x3 + 2)), .int (sc g (x3 + 3))]) (a := 55) (st := [.int r7]) dL_law_310 G_X12_people wm_L_31 (by decide +kernel) rfl (Nat.le_of_ble_eq_true rfl) shp_55 rfl (by show 1 ≤ d; omega) (Nat.le_of_ble_eq_true rfl) (Nat.le_refl _) (Nat.le_refl _) ?_
        refine CI.mono H (fun r8 σ8 H => ?_)
        refine j_icmp_eq (pc := 313) (t := 1338) dL_law_313 (by decide) (fun c313 => ?_) (fun c313 => ?_)
        · replace H := H.1 c313
          refine j_iinc (pc := 1338) (k := 3) (v := x3 + 6) (lv1 := [(3, .int (x3 + 6)), (0, .ref 1000), (1, .ref 0), (2, .ref 55)]) dL_law_1338 rfl rfl (Nat.le_of_ble_eq_true rfl) rfl ?_
          refine j_goto (pc := 1341) (t := 18) dL_law_1341 (by decide) ?_
          refine j_sub [1, 2, 3, 0] rfl ?_
          exact H
        · replace H := H.2 c313
          refine j_iconst (pc := 316) (v := 0) dL_law_316 (by decide) ?_
          exact s_iretz (pc := 317) dL_law_317 rfl rfl H
      by_cases c33_4 : (sc g x3) &&& 63 = 4
      · replace H := H.2.2.2.2.1 c33_4
        refine j_tableIn (pc := 33) (t := 318) (off := 285) dL_law_33 (by rw [c33_4]; decide) (by rw [c33_4]; decide) (by rw [c33_4]; rfl) (by decide) ?_
        refine j_aload_n (pc := 318) dL_law_318 rfl ?_
        refine j_aload_n (pc := 319) dL_law_319 rfl ?_
        refine j_iload_n (pc := 320) dL_law_320 rfl ?_
        refine j_iconst (pc := 321) (v := 1) dL_law_321 (by decide) ?_
        refine j_iadd (pc := 322) dL_law_322 ?_
        have b323 := H.1
        replace H := H.2
        refine j_sldv (pc := 323) dL_law_323 b323 ?_
        refine j_aload_n (pc := 324) dL_law_324 rfl ?_
        refine j_iload_n (pc := 325) dL_law_325 rfl ?_
        refine j_iconst (pc := 326) (v := 2) dL_law_326 (by decide) ?_
        refine j_iadd (pc := 327) dL_law_327 ?_
        have b328 := H.1
        replace H := H.2
        refine j_sldv (pc := 328) dL_law_328 b328 ?_
        refine j_aload_n (pc := 329) dL_law_329 rfl ?_
        refine j_iload_n (pc := 330) dL_law_330 rfl ?_
        refine j_iconst (pc := 331) (v := 3) dL_law_331 (by decide) ?_
        refine j_iadd (pc := 332) dL_law_332 ?_
        have b333 := H.1
        replace H := H.2
        refine j_sldv (pc := 333) dL_law_333 b333 ?_
        refine s_callV_i (pc := 334) (M1 := M_X11_mend) (n := 3) (as := [.int (sc g (x3 + 1)), .int (sc g (x3 + 2)), .int (sc g (x3 + 3))]) (a := 0) (st := []) dL_law_334 G_X11_mend wm_L_32 (by decide +kernel) rfl (Nat.le_of_ble_eq_true rfl) shp_0 rfl (by show 1 ≤ d; omega) (Nat.le_of_ble_eq_true rfl) (Nat.le_refl _) (Nat.le_refl _) ?_
        refine CI.mono H (fun r9 σ9 H => ?_)
        refine j_aload_n (pc := 337) dL_law_337 rfl ?_
        refine j_aload_n (pc := 338) dL_law_338 rfl ?_
        refine j_iload_n (pc := 339) dL_law_339 rfl ?_
        refine j_iconst (pc := 340) (v := 1) dL_law_340 (by decide) ?_
        refine j_iadd (pc := 341) dL_law_341 ?_
        have b342 := H.1
        replace H := H.2
        refine j_sldv (pc := 342) dL_law_342 b342 ?_
        refine j_aload_n (pc := 343) dL_law_343 rfl ?_
        refine j_iload_n (pc := 344) dL_law_344 rfl ?_
        refine j_iconst (pc := 345) (v := 2) dL_law_345 (by decide) ?_
        refine j_iadd (pc := 346) dL_law_346 ?_
        have b347 := H.1
        replace H := H.2
        refine j_sldv (pc := 347) dL_law_347 b347 ?_
        refine j_aload_n (pc := 348) dL_law_348 rfl ?_
        refine j_iload_n (pc := 349) dL_law_349 rfl ?_
        refine j_iconst (pc := 350) (v := 3) dL_law_350 (by decide) ?_
        refine j_iadd (pc := 351) dL_law_351 ?_
        have b352 := H.1
        replace H := H.2
        refine j_sldv (pc := 352) dL_law_352 b352 ?_
        refine s_callV_i (pc := 353) (M1 := M_X12_mend) (n := 3) (as := [.int (sc g (x3 + 1)), .int (sc g (x3 + 2)), .int (sc g (x3 + 3))]) (a := 55) (st := [.int r9]) dL_law_353 G_X12_mend wm_L_35 (by decide +kernel) rfl (Nat.le_of_ble_eq_true rfl) shp_55 rfl (by show 1 ≤ d; omega) (Nat.le_of_ble_eq_true rfl) (Nat.le_refl _) (Nat.le_refl _) ?_
        refine CI.mono H (fun r10 σ10 H => ?_)
        refine j_icmp_eq (pc := 356) (t := 1338) dL_law_356 (by decide) (fun c356 => ?_) (fun c356 => ?_)
        · replace H := H.1 c356
          refine j_iinc (pc := 1338) (k := 3) (v := x3 + 6) (lv1 := [(3, .int (x3 + 6)), (0, .ref 1000), (1, .ref 0), (2, .ref 55)]) dL_law_1338 rfl rfl (Nat.le_of_ble_eq_true rfl) rfl ?_
          refine j_goto (pc := 1341) (t := 18) dL_law_1341 (by decide) ?_
          refine j_sub [1, 2, 3, 0] rfl ?_
          exact H
        · replace H := H.2 c356
          refine j_iconst (pc := 359) (v := 0) dL_law_359 (by decide) ?_
          exact s_iretz (pc := 360) dL_law_360 rfl rfl H
      by_cases c33_5 : (sc g x3) &&& 63 = 5
      · replace H := H.2.2.2.2.2.1 c33_5
        refine j_tableIn (pc := 33) (t := 361) (off := 328) dL_law_33 (by rw [c33_5]; decide) (by rw [c33_5]; decide) (by rw [c33_5]; rfl) (by decide) ?_
        refine j_aload_n (pc := 361) dL_law_361 rfl ?_
        refine j_aload_n (pc := 362) dL_law_362 rfl ?_
        refine j_iload_n (pc := 363) dL_law_363 rfl ?_
        refine j_iconst (pc := 364) (v := 1) dL_law_364 (by decide) ?_
        refine j_iadd (pc := 365) dL_law_365 ?_
        have b366 := H.1
        replace H := H.2
        refine j_sldv (pc := 366) dL_law_366 b366 ?_
        refine s_callV_i (pc := 367) (M1 := M_X11_wear) (n := 1) (as := [.int (sc g (x3 + 1))]) (a := 0) (st := []) dL_law_367 G_X11_wear wm_L_36 (by decide +kernel) rfl (Nat.le_of_ble_eq_true rfl) shp_0 rfl (by show 1 ≤ d; omega) (Nat.le_of_ble_eq_true rfl) (Nat.le_refl _) (Nat.le_refl _) ?_
        refine CI.mono H (fun r11 σ11 H => ?_)
        refine j_aload_n (pc := 370) dL_law_370 rfl ?_
        refine j_aload_n (pc := 371) dL_law_371 rfl ?_
        refine j_iload_n (pc := 372) dL_law_372 rfl ?_
        refine j_iconst (pc := 373) (v := 1) dL_law_373 (by decide) ?_
        refine j_iadd (pc := 374) dL_law_374 ?_
        have b375 := H.1
        replace H := H.2
        refine j_sldv (pc := 375) dL_law_375 b375 ?_
        refine s_callV_i (pc := 376) (M1 := M_X12_wear) (n := 1) (as := [.int (sc g (x3 + 1))]) (a := 55) (st := [.int r11]) dL_law_376 G_X12_wear wm_L_40 (by decide +kernel) rfl (Nat.le_of_ble_eq_true rfl) shp_55 rfl (by show 1 ≤ d; omega) (Nat.le_of_ble_eq_true rfl) (Nat.le_refl _) (Nat.le_refl _) ?_
        refine CI.mono H (fun r12 σ12 H => ?_)
        refine j_icmp_eq (pc := 379) (t := 1338) dL_law_379 (by decide) (fun c379 => ?_) (fun c379 => ?_)
        · replace H := H.1 c379
          refine j_iinc (pc := 1338) (k := 3) (v := x3 + 6) (lv1 := [(3, .int (x3 + 6)), (0, .ref 1000), (1, .ref 0), (2, .ref 55)]) dL_law_1338 rfl rfl (Nat.le_of_ble_eq_true rfl) rfl ?_
          refine j_goto (pc := 1341) (t := 18) dL_law_1341 (by decide) ?_
          refine j_sub [1, 2, 3, 0] rfl ?_
          exact H
        · replace H := H.2 c379
          refine j_iconst (pc := 382) (v := 0) dL_law_382 (by decide) ?_
          exact s_iretz (pc := 383) dL_law_383 rfl rfl H
      by_cases c33_6 : (sc g x3) &&& 63 = 6
      · replace H := H.2.2.2.2.2.2.1 c33_6
        refine j_tableIn (pc := 33) (t := 384) (off := 351) dL_law_33 (by rw [c33_6]; decide) (by rw [c33_6]; decide) (by rw [c33_6]; rfl) (by decide) ?_
        refine j_aload_n (pc := 384) dL_law_384 rfl ?_
        refine j_aload_n (pc := 385) dL_law_385 rfl ?_
        refine j_iload_n (pc := 386) dL_law_386 rfl ?_
        refine j_iconst (pc := 387) (v := 1) dL_law_387 (by decide) ?_
        refine j_iadd (pc := 388) dL_law_388 ?_
        have b389 := H.1
        replace H := H.2
        refine j_sldv (pc := 389) dL_law_389 b389 ?_
        refine j_aload_n (pc := 390) dL_law_390 rfl ?_
        refine j_iload_n (pc := 391) dL_law_391 rfl ?_
        refine j_iconst (pc := 392) (v := 2) dL_law_392 (by decide) ?_
        refine j_iadd (pc := 393) dL_law_393 ?_
        have b394 := H.1
        replace H := H.2
        refine j_sldv (pc := 394) dL_law_394 b394 ?_
        refine s_callV_i (pc := 395) (M1 := M_X11_of) (n := 2) (as := [.int (sc g (x3 + 1)), .int (sc g (x3 + 2))]) (a := 0) (st := []) dL_law_395 G_X11_of wm_L_41 (by decide +kernel) rfl (Nat.le_of_ble_eq_true rfl) shp_0 rfl (by show 1 ≤ d; omega) (Nat.le_of_ble_eq_true rfl) (Nat.le_refl _) (Nat.le_refl _) ?_
        refine CI.mono H (fun r13 σ13 H => ?_)
        refine j_aload_n (pc := 398) dL_law_398 rfl ?_
        refine j_aload_n (pc := 399) dL_law_399 rfl ?_
        refine j_iload_n (pc := 400) dL_law_400 rfl ?_
        refine j_iconst (pc := 401) (v := 1) dL_law_401 (by decide) ?_
        refine j_iadd (pc := 402) dL_law_402 ?_
        have b403 := H.1
        replace H := H.2
        refine j_sldv (pc := 403) dL_law_403 b403 ?_
        refine j_aload_n (pc := 404) dL_law_404 rfl ?_
        refine j_iload_n (pc := 405) dL_law_405 rfl ?_
        refine j_iconst (pc := 406) (v := 2) dL_law_406 (by decide) ?_
        refine j_iadd (pc := 407) dL_law_407 ?_
        have b408 := H.1
        replace H := H.2
        refine j_sldv (pc := 408) dL_law_408 b408 ?_
        refine s_callV_i (pc := 409) (M1 := M_X12_of) (n := 2) (as := [.int (sc g (x3 + 1)), .int (sc g (x3 + 2))]) (a := 55) (st := [.int r13]) dL_law_409 G_X12_of wm_L_44 (by decide +kernel) rfl (Nat.le_of_ble_eq_true rfl) shp_55 rfl (by show 1 ≤ d; omega) (Nat.le_of_ble_eq_true rfl) (Nat.le_refl _) (Nat.le_refl _) ?_
        refine CI.mono H (fun r14 σ14 H => ?_)
        refine j_icmp_eq (pc := 412) (t := 1338) dL_law_412 (by decide) (fun c412 => ?_) (fun c412 => ?_)
        · replace H := H.1 c412
          refine j_iinc (pc := 1338) (k := 3) (v := x3 + 6) (lv1 := [(3, .int (x3 + 6)), (0, .ref 1000), (1, .ref 0), (2, .ref 55)]) dL_law_1338 rfl rfl (Nat.le_of_ble_eq_true rfl) rfl ?_
          refine j_goto (pc := 1341) (t := 18) dL_law_1341 (by decide) ?_
          refine j_sub [1, 2, 3, 0] rfl ?_
          exact H
        · replace H := H.2 c412
          refine j_iconst (pc := 415) (v := 0) dL_law_415 (by decide) ?_
          exact s_iretz (pc := 416) dL_law_416 rfl rfl H
      by_cases c33_7 : (sc g x3) &&& 63 = 7
      · replace H := H.2.2.2.2.2.2.2.1 c33_7
        refine j_tableIn (pc := 33) (t := 417) (off := 384) dL_law_33 (by rw [c33_7]; decide) (by rw [c33_7]; decide) (by rw [c33_7]; rfl) (by decide) ?_
        refine j_aload_n (pc := 417) dL_law_417 rfl ?_
        refine j_aload_n (pc := 418) dL_law_418 rfl ?_
        refine j_iload_n (pc := 419) dL_law_419 rfl ?_
        refine j_iconst (pc := 420) (v := 1) dL_law_420 (by decide) ?_
        refine j_iadd (pc := 421) dL_law_421 ?_
        have b422 := H.1
        replace H := H.2
        refine j_sldv (pc := 422) dL_law_422 b422 ?_
        refine s_callV_i (pc := 423) (M1 := M_X11_feed) (n := 1) (as := [.int (sc g (x3 + 1))]) (a := 0) (st := []) dL_law_423 G_X11_feed wm_L_45 (by decide +kernel) rfl (Nat.le_of_ble_eq_true rfl) shp_0 rfl (by show 1 ≤ d; omega) (Nat.le_of_ble_eq_true rfl) (Nat.le_refl _) (Nat.le_refl _) ?_
        refine CI.mono H (fun r15 σ15 H => ?_)
        refine j_aload_n (pc := 426) dL_law_426 rfl ?_
        refine j_aload_n (pc := 427) dL_law_427 rfl ?_
        refine j_iload_n (pc := 428) dL_law_428 rfl ?_
        refine j_iconst (pc := 429) (v := 1) dL_law_429 (by decide) ?_
        refine j_iadd (pc := 430) dL_law_430 ?_
        have b431 := H.1
        replace H := H.2
        refine j_sldv (pc := 431) dL_law_431 b431 ?_
        refine s_callV_i (pc := 432) (M1 := M_X12_feed) (n := 1) (as := [.int (sc g (x3 + 1))]) (a := 55) (st := [.int r15]) dL_law_432 G_X12_feed wm_L_48 (by decide +kernel) rfl (Nat.le_of_ble_eq_true rfl) shp_55 rfl (by show 1 ≤ d; omega) (Nat.le_of_ble_eq_true rfl) (Nat.le_refl _) (Nat.le_refl _) ?_
        refine CI.mono H (fun r16 σ16 H => ?_)
        refine j_icmp_eq (pc := 435) (t := 1338) dL_law_435 (by decide) (fun c435 => ?_) (fun c435 => ?_)
        · replace H := H.1 c435
          refine j_iinc (pc := 1338) (k := 3) (v := x3 + 6) (lv1 := [(3, .int (x3 + 6)), (0, .ref 1000), (1, .ref 0), (2, .ref 55)]) dL_law_1338 rfl rfl (Nat.le_of_ble_eq_true rfl) rfl ?_
          refine j_goto (pc := 1341) (t := 18) dL_law_1341 (by decide) ?_
          refine j_sub [1, 2, 3, 0] rfl ?_
          exact H
        · replace H := H.2 c435
          refine j_iconst (pc := 438) (v := 0) dL_law_438 (by decide) ?_
          exact s_iretz (pc := 439) dL_law_439 rfl rfl H
      by_cases c33_8 : (sc g x3) &&& 63 = 8
      · replace H := H.2.2.2.2.2.2.2.2.1 c33_8
        refine j_tableIn (pc := 33) (t := 440) (off := 407) dL_law_33 (by rw [c33_8]; decide) (by rw [c33_8]; decide) (by rw [c33_8]; rfl) (by decide) ?_
        refine j_aload_n (pc := 440) dL_law_440 rfl ?_
        refine s_callV_i (pc := 441) (M1 := M_X11_law) (n := 0) (as := []) (a := 0) (st := []) dL_law_441 G_X11_law wm_L_49 (by decide +kernel) rfl (Nat.le_of_ble_eq_true rfl) shp_0 rfl (by show 1 ≤ d; omega) (Nat.le_of_ble_eq_true rfl) (Nat.le_refl _) (Nat.le_refl _) ?_
        refine CI.mono H (fun r17 σ17 H => ?_)
        refine j_aload_n (pc := 444) dL_law_444 rfl ?_
        refine s_callV_i (pc := 445) (M1 := M_X12_law) (n := 0) (as := []) (a := 55) (st := [.int r17]) dL_law_445 G_X12_law wm_L_52 (by decide +kernel) rfl (Nat.le_of_ble_eq_true rfl) shp_55 rfl (by show 1 ≤ d; omega) (Nat.le_of_ble_eq_true rfl) (Nat.le_refl _) (Nat.le_refl _) ?_
        refine CI.mono H (fun r18 σ18 H => ?_)
        refine j_icmp_eq (pc := 448) (t := 1338) dL_law_448 (by decide) (fun c448 => ?_) (fun c448 => ?_)
        · replace H := H.1 c448
          refine j_iinc (pc := 1338) (k := 3) (v := x3 + 6) (lv1 := [(3, .int (x3 + 6)), (0, .ref 1000), (1, .ref 0), (2, .ref 55)]) dL_law_1338 rfl rfl (Nat.le_of_ble_eq_true rfl) rfl ?_
          refine j_goto (pc := 1341) (t := 18) dL_law_1341 (by decide) ?_
          refine j_sub [1, 2, 3, 0] rfl ?_
          exact H
        · replace H := H.2 c448
          refine j_iconst (pc := 451) (v := 0) dL_law_451 (by decide) ?_
          exact s_iretz (pc := 452) dL_law_452 rfl rfl H
      by_cases c33_9 : (sc g x3) &&& 63 = 9
      · replace H := H.2.2.2.2.2.2.2.2.2.1 c33_9
        refine j_tableIn (pc := 33) (t := 453) (off := 420) dL_law_33 (by rw [c33_9]; decide) (by rw [c33_9]; decide) (by rw [c33_9]; rfl) (by decide) ?_
        refine j_aload_n (pc := 453) dL_law_453 rfl ?_
        refine j_aload_n (pc := 454) dL_law_454 rfl ?_
        refine j_iload_n (pc := 455) dL_law_455 rfl ?_
        refine j_iconst (pc := 456) (v := 1) dL_law_456 (by decide) ?_
        refine j_iadd (pc := 457) dL_law_457 ?_
        have b458 := H.1
        replace H := H.2
        refine j_sldv (pc := 458) dL_law_458 b458 ?_
        refine j_aload_n (pc := 459) dL_law_459 rfl ?_
        refine j_iload_n (pc := 460) dL_law_460 rfl ?_
        refine j_iconst (pc := 461) (v := 2) dL_law_461 (by decide) ?_
        refine j_iadd (pc := 462) dL_law_462 ?_
        have b463 := H.1
        replace H := H.2
        refine j_sldv (pc := 463) dL_law_463 b463 ?_
        refine s_callV_i (pc := 464) (M1 := M_X11_may) (n := 2) (as := [.int (sc g (x3 + 1)), .int (sc g (x3 + 2))]) (a := 0) (st := []) dL_law_464 G_X11_may wm_L_53 (by decide +kernel) rfl (Nat.le_of_ble_eq_true rfl) shp_0 rfl (by show 1 ≤ d; omega) (Nat.le_of_ble_eq_true rfl) (Nat.le_refl _) (Nat.le_refl _) ?_
        refine CI.mono H (fun r19 σ19 H => ?_)
        refine j_aload_n (pc := 467) dL_law_467 rfl ?_
        refine j_aload_n (pc := 468) dL_law_468 rfl ?_
        refine j_iload_n (pc := 469) dL_law_469 rfl ?_
        refine j_iconst (pc := 470) (v := 1) dL_law_470 (by decide) ?_
        refine j_iadd (pc := 471) dL_law_471 ?_
        have b472 := H.1
        replace H := H.2
        refine j_sldv (pc := 472) dL_law_472 b472 ?_
        refine j_aload_n (pc := 473) dL_law_473 rfl ?_
        refine j_iload_n (pc := 474) dL_law_474 rfl ?_
        refine j_iconst (pc := 475) (v := 2) dL_law_475 (by decide) ?_
        refine j_iadd (pc := 476) dL_law_476 ?_
        have b477 := H.1
        replace H := H.2
        refine j_sldv (pc := 477) dL_law_477 b477 ?_
        refine s_callV_i (pc := 478) (M1 := M_X12_may) (n := 2) (as := [.int (sc g (x3 + 1)), .int (sc g (x3 + 2))]) (a := 55) (st := [.int r19]) dL_law_478 G_X12_may wm_L_56 (by decide +kernel) rfl (Nat.le_of_ble_eq_true rfl) shp_55 rfl (by show 1 ≤ d; omega) (Nat.le_of_ble_eq_true rfl) (Nat.le_refl _) (Nat.le_refl _) ?_
        refine CI.mono H (fun r20 σ20 H => ?_)
        refine j_icmp_eq (pc := 481) (t := 1338) dL_law_481 (by decide) (fun c481 => ?_) (fun c481 => ?_)
        · replace H := H.1 c481
          refine j_iinc (pc := 1338) (k := 3) (v := x3 + 6) (lv1 := [(3, .int (x3 + 6)), (0, .ref 1000), (1, .ref 0), (2, .ref 55)]) dL_law_1338 rfl rfl (Nat.le_of_ble_eq_true rfl) rfl ?_
          refine j_goto (pc := 1341) (t := 18) dL_law_1341 (by decide) ?_
          refine j_sub [1, 2, 3, 0] rfl ?_
          exact H
        · replace H := H.2 c481
          refine j_iconst (pc := 484) (v := 0) dL_law_484 (by decide) ?_
          exact s_iretz (pc := 485) dL_law_485 rfl rfl H
      by_cases c33_10 : (sc g x3) &&& 63 = 10
      · replace H := H.2.2.2.2.2.2.2.2.2.2.1 c33_10
        refine j_tableIn (pc := 33) (t := 486) (off := 453) dL_law_33 (by rw [c33_10]; decide) (by rw [c33_10]; decide) (by rw [c33_10]; rfl) (by decide) ?_
        refine j_aload_n (pc := 486) dL_law_486 rfl ?_
        refine j_aload_n (pc := 487) dL_law_487 rfl ?_
        refine j_iload_n (pc := 488) dL_law_488 rfl ?_
        refine j_iconst (pc := 489) (v := 1) dL_law_489 (by decide) ?_
        refine j_iadd (pc := 490) dL_law_490 ?_
        have b491 := H.1
        replace H := H.2
        refine j_sldv (pc := 491) dL_law_491 b491 ?_
        refine s_callV_i (pc := 492) (M1 := M_X11_changes) (n := 1) (as := [.int (sc g (x3 + 1))]) (a := 0) (st := []) dL_law_492 G_X11_changes wm_L_57 (by decide +kernel) rfl (Nat.le_of_ble_eq_true rfl) shp_0 rfl (by show 1 ≤ d; omega) (Nat.le_of_ble_eq_true rfl) (Nat.le_refl _) (Nat.le_refl _) ?_
        refine CI.mono H (fun r21 σ21 H => ?_)
        refine j_aload_n (pc := 495) dL_law_495 rfl ?_
        refine j_aload_n (pc := 496) dL_law_496 rfl ?_
        refine j_iload_n (pc := 497) dL_law_497 rfl ?_
        refine j_iconst (pc := 498) (v := 1) dL_law_498 (by decide) ?_
        refine j_iadd (pc := 499) dL_law_499 ?_
        have b500 := H.1
        replace H := H.2
        refine j_sldv (pc := 500) dL_law_500 b500 ?_
        refine s_callV_i (pc := 501) (M1 := M_X12_changes) (n := 1) (as := [.int (sc g (x3 + 1))]) (a := 55) (st := [.int r21]) dL_law_501 G_X12_changes wm_L_60 (by decide +kernel) rfl (Nat.le_of_ble_eq_true rfl) shp_55 rfl (by show 1 ≤ d; omega) (Nat.le_of_ble_eq_true rfl) (Nat.le_refl _) (Nat.le_refl _) ?_
        refine CI.mono H (fun r22 σ22 H => ?_)
        refine j_icmp_eq (pc := 504) (t := 1338) dL_law_504 (by decide) (fun c504 => ?_) (fun c504 => ?_)
        · replace H := H.1 c504
          refine j_iinc (pc := 1338) (k := 3) (v := x3 + 6) (lv1 := [(3, .int (x3 + 6)), (0, .ref 1000), (1, .ref 0), (2, .ref 55)]) dL_law_1338 rfl rfl (Nat.le_of_ble_eq_true rfl) rfl ?_
          refine j_goto (pc := 1341) (t := 18) dL_law_1341 (by decide) ?_
          refine j_sub [1, 2, 3, 0] rfl ?_
          exact H
        · replace H := H.2 c504
          refine j_iconst (pc := 507) (v := 0) dL_law_507 (by decide) ?_
          exact s_iretz (pc := 508) dL_law_508 rfl rfl H
      by_cases c33_11 : (sc g x3) &&& 63 = 11
      · replace H := H.2.2.2.2.2.2.2.2.2.2.2.1 c33_11
        refine j_tableIn (pc := 33) (t := 509) (off := 476) dL_law_33 (by rw [c33_11]; decide) (by rw [c33_11]; decide) (by rw [c33_11]; rfl) (by decide) ?_
        refine j_aload_n (pc := 509) dL_law_509 rfl ?_
        refine j_aload_n (pc := 510) dL_law_510 rfl ?_
        refine j_iload_n (pc := 511) dL_law_511 rfl ?_
        refine j_iconst (pc := 512) (v := 1) dL_law_512 (by decide) ?_
        refine j_iadd (pc := 513) dL_law_513 ?_
        have b514 := H.1
        replace H := H.2
        refine j_sldv (pc := 514) dL_law_514 b514 ?_
        refine j_aload_n (pc := 515) dL_law_515 rfl ?_
        refine j_iload_n (pc := 516) dL_law_516 rfl ?_
        refine j_iconst (pc := 517) (v := 2) dL_law_517 (by decide) ?_
        refine j_iadd (pc := 518) dL_law_518 ?_
        have b519 := H.1
        replace H := H.2
        refine j_sldv (pc := 519) dL_law_519 b519 ?_
        refine s_callV_i (pc := 520) (M1 := M_X11_change) (n := 2) (as := [.int (sc g (x3 + 1)), .int (sc g (x3 + 2))]) (a := 0) (st := []) dL_law_520 G_X11_change wm_L_61 (by decide +kernel) rfl (Nat.le_of_ble_eq_true rfl) shp_0 rfl (by show 1 ≤ d; omega) (Nat.le_of_ble_eq_true rfl) (Nat.le_refl _) (Nat.le_refl _) ?_
        refine CI.mono H (fun r23 σ23 H => ?_)
        refine j_aload_n (pc := 523) dL_law_523 rfl ?_
        refine j_aload_n (pc := 524) dL_law_524 rfl ?_
        refine j_iload_n (pc := 525) dL_law_525 rfl ?_
        refine j_iconst (pc := 526) (v := 1) dL_law_526 (by decide) ?_
        refine j_iadd (pc := 527) dL_law_527 ?_
        have b528 := H.1
        replace H := H.2
        refine j_sldv (pc := 528) dL_law_528 b528 ?_
        refine j_aload_n (pc := 529) dL_law_529 rfl ?_
        refine j_iload_n (pc := 530) dL_law_530 rfl ?_
        refine j_iconst (pc := 531) (v := 2) dL_law_531 (by decide) ?_
        refine j_iadd (pc := 532) dL_law_532 ?_
        have b533 := H.1
        replace H := H.2
        refine j_sldv (pc := 533) dL_law_533 b533 ?_
        refine s_callV_i (pc := 534) (M1 := M_X12_change) (n := 2) (as := [.int (sc g (x3 + 1)), .int (sc g (x3 + 2))]) (a := 55) (st := [.int r23]) dL_law_534 G_X12_change wm_L_64 (by decide +kernel) rfl (Nat.le_of_ble_eq_true rfl) shp_55 rfl (by show 1 ≤ d; omega) (Nat.le_of_ble_eq_true rfl) (Nat.le_refl _) (Nat.le_refl _) ?_
        refine CI.mono H (fun r24 σ24 H => ?_)
        refine j_icmp_eq (pc := 537) (t := 1338) dL_law_537 (by decide) (fun c537 => ?_) (fun c537 => ?_)
        · replace H := H.1 c537
          refine j_iinc (pc := 1338) (k := 3) (v := x3 + 6) (lv1 := [(3, .int (x3 + 6)), (0, .ref 1000), (1, .ref 0), (2, .ref 55)]) dL_law_1338 rfl rfl (Nat.le_of_ble_eq_true rfl) rfl ?_
          refine j_goto (pc := 1341) (t := 18) dL_law_1341 (by decide) ?_
          refine j_sub [1, 2, 3, 0] rfl ?_
          exact H
        · replace H := H.2 c537
          refine j_iconst (pc := 540) (v := 0) dL_law_540 (by decide) ?_
          exact s_iretz (pc := 541) dL_law_541 rfl rfl H
      by_cases c33_12 : (sc g x3) &&& 63 = 12
      · replace H := H.2.2.2.2.2.2.2.2.2.2.2.2.1 c33_12
        refine j_tableIn (pc := 33) (t := 542) (off := 509) dL_law_33 (by rw [c33_12]; decide) (by rw [c33_12]; decide) (by rw [c33_12]; rfl) (by decide) ?_
        refine j_aload_n (pc := 542) dL_law_542 rfl ?_
        refine j_aload_n (pc := 543) dL_law_543 rfl ?_
        refine j_iload_n (pc := 544) dL_law_544 rfl ?_
        refine j_iconst (pc := 545) (v := 1) dL_law_545 (by decide) ?_
        refine j_iadd (pc := 546) dL_law_546 ?_
        have b547 := H.1
        replace H := H.2
        refine j_sldv (pc := 547) dL_law_547 b547 ?_
        refine s_callV_i (pc := 548) (M1 := M_X11_led) (n := 1) (as := [.int (sc g (x3 + 1))]) (a := 0) (st := []) dL_law_548 G_X11_led wm_L_65 (by decide +kernel) rfl (Nat.le_of_ble_eq_true rfl) shp_0 rfl (by show 1 ≤ d; omega) (Nat.le_of_ble_eq_true rfl) (Nat.le_refl _) (Nat.le_refl _) ?_
        refine CI.mono H (fun r25 σ25 H => ?_)
        refine j_aload_n (pc := 551) dL_law_551 rfl ?_
        refine j_aload_n (pc := 552) dL_law_552 rfl ?_
        refine j_iload_n (pc := 553) dL_law_553 rfl ?_
        refine j_iconst (pc := 554) (v := 1) dL_law_554 (by decide) ?_
        refine j_iadd (pc := 555) dL_law_555 ?_
        have b556 := H.1
        replace H := H.2
        refine j_sldv (pc := 556) dL_law_556 b556 ?_
        refine s_callV_i (pc := 557) (M1 := M_X12_led) (n := 1) (as := [.int (sc g (x3 + 1))]) (a := 55) (st := [.int r25]) dL_law_557 G_X12_led wm_L_68 (by decide +kernel) rfl (Nat.le_of_ble_eq_true rfl) shp_55 rfl (by show 1 ≤ d; omega) (Nat.le_of_ble_eq_true rfl) (Nat.le_refl _) (Nat.le_refl _) ?_
        refine CI.mono H (fun r26 σ26 H => ?_)
        refine j_icmp_eq (pc := 560) (t := 1338) dL_law_560 (by decide) (fun c560 => ?_) (fun c560 => ?_)
        · replace H := H.1 c560
          refine j_iinc (pc := 1338) (k := 3) (v := x3 + 6) (lv1 := [(3, .int (x3 + 6)), (0, .ref 1000), (1, .ref 0), (2, .ref 55)]) dL_law_1338 rfl rfl (Nat.le_of_ble_eq_true rfl) rfl ?_
          refine j_goto (pc := 1341) (t := 18) dL_law_1341 (by decide) ?_
          refine j_sub [1, 2, 3, 0] rfl ?_
          exact H
        · replace H := H.2 c560
          refine j_iconst (pc := 563) (v := 0) dL_law_563 (by decide) ?_
          exact s_iretz (pc := 564) dL_law_564 rfl rfl H
      by_cases c33_13 : (sc g x3) &&& 63 = 13
      · replace H := H.2.2.2.2.2.2.2.2.2.2.2.2.2.1 c33_13
        refine j_tableIn (pc := 33) (t := 565) (off := 532) dL_law_33 (by rw [c33_13]; decide) (by rw [c33_13]; decide) (by rw [c33_13]; rfl) (by decide) ?_
        refine j_aload_n (pc := 565) dL_law_565 rfl ?_
        refine j_aload_n (pc := 566) dL_law_566 rfl ?_
        refine j_iload_n (pc := 567) dL_law_567 rfl ?_
        refine j_iconst (pc := 568) (v := 1) dL_law_568 (by decide) ?_
        refine j_iadd (pc := 569) dL_law_569 ?_
        have b570 := H.1
        replace H := H.2
        refine j_sldv (pc := 570) dL_law_570 b570 ?_
        refine s_callV_i (pc := 571) (M1 := M_X11_reach) (n := 1) (as := [.int (sc g (x3 + 1))]) (a := 0) (st := []) dL_law_571 G_X11_reach wm_L_69 (by decide +kernel) rfl (Nat.le_of_ble_eq_true rfl) shp_0 rfl (by show 1 ≤ d; omega) (Nat.le_of_ble_eq_true rfl) (Nat.le_refl _) (Nat.le_refl _) ?_
        refine CI.mono H (fun r27 σ27 H => ?_)
        refine j_aload_n (pc := 574) dL_law_574 rfl ?_
        refine j_aload_n (pc := 575) dL_law_575 rfl ?_
        refine j_iload_n (pc := 576) dL_law_576 rfl ?_
        refine j_iconst (pc := 577) (v := 1) dL_law_577 (by decide) ?_
        refine j_iadd (pc := 578) dL_law_578 ?_
        have b579 := H.1
        replace H := H.2
        refine j_sldv (pc := 579) dL_law_579 b579 ?_
        refine s_callV_i (pc := 580) (M1 := M_X12_reach) (n := 1) (as := [.int (sc g (x3 + 1))]) (a := 55) (st := [.int r27]) dL_law_580 G_X12_reach wm_L_72 (by decide +kernel) rfl (Nat.le_of_ble_eq_true rfl) shp_55 rfl (by show 1 ≤ d; omega) (Nat.le_of_ble_eq_true rfl) (Nat.le_refl _) (Nat.le_refl _) ?_
        refine CI.mono H (fun r28 σ28 H => ?_)
        refine j_icmp_eq (pc := 583) (t := 1338) dL_law_583 (by decide) (fun c583 => ?_) (fun c583 => ?_)
        · replace H := H.1 c583
          refine j_iinc (pc := 1338) (k := 3) (v := x3 + 6) (lv1 := [(3, .int (x3 + 6)), (0, .ref 1000), (1, .ref 0), (2, .ref 55)]) dL_law_1338 rfl rfl (Nat.le_of_ble_eq_true rfl) rfl ?_
          refine j_goto (pc := 1341) (t := 18) dL_law_1341 (by decide) ?_
          refine j_sub [1, 2, 3, 0] rfl ?_
          exact H
        · replace H := H.2 c583
          refine j_iconst (pc := 586) (v := 0) dL_law_586 (by decide) ?_
          exact s_iretz (pc := 587) dL_law_587 rfl rfl H
      by_cases c33_14 : (sc g x3) &&& 63 = 14
      · replace H := H.2.2.2.2.2.2.2.2.2.2.2.2.2.2.1 c33_14
        refine j_tableIn (pc := 33) (t := 588) (off := 555) dL_law_33 (by rw [c33_14]; decide) (by rw [c33_14]; decide) (by rw [c33_14]; rfl) (by decide) ?_
        refine j_aload_n (pc := 588) dL_law_588 rfl ?_
        refine j_aload_n (pc := 589) dL_law_589 rfl ?_
        refine j_iload_n (pc := 590) dL_law_590 rfl ?_
        refine j_iconst (pc := 591) (v := 1) dL_law_591 (by decide) ?_
        refine j_iadd (pc := 592) dL_law_592 ?_
        have b593 := H.1
        replace H := H.2
        refine j_sldv (pc := 593) dL_law_593 b593 ?_
        refine s_callV_i (pc := 594) (M1 := M_X11_canBe) (n := 1) (as := [.int (sc g (x3 + 1))]) (a := 0) (st := []) dL_law_594 G_X11_canBe wm_L_73 (by decide +kernel) rfl (Nat.le_of_ble_eq_true rfl) shp_0 rfl (by show 1 ≤ d; omega) (Nat.le_of_ble_eq_true rfl) (Nat.le_refl _) (Nat.le_refl _) ?_
        refine CI.mono H (fun r29 σ29 H => ?_)
        refine j_aload_n (pc := 597) dL_law_597 rfl ?_
        refine j_aload_n (pc := 598) dL_law_598 rfl ?_
        refine j_iload_n (pc := 599) dL_law_599 rfl ?_
        refine j_iconst (pc := 600) (v := 1) dL_law_600 (by decide) ?_
        refine j_iadd (pc := 601) dL_law_601 ?_
        have b602 := H.1
        replace H := H.2
        refine j_sldv (pc := 602) dL_law_602 b602 ?_
        refine s_callV_i (pc := 603) (M1 := M_X12_canBe) (n := 1) (as := [.int (sc g (x3 + 1))]) (a := 55) (st := [.int r29]) dL_law_603 G_X12_canBe wm_L_76 (by decide +kernel) rfl (Nat.le_of_ble_eq_true rfl) shp_55 rfl (by show 1 ≤ d; omega) (Nat.le_of_ble_eq_true rfl) (Nat.le_refl _) (Nat.le_refl _) ?_
        refine CI.mono H (fun r30 σ30 H => ?_)
        refine j_icmp_eq (pc := 606) (t := 1338) dL_law_606 (by decide) (fun c606 => ?_) (fun c606 => ?_)
        · replace H := H.1 c606
          refine j_iinc (pc := 1338) (k := 3) (v := x3 + 6) (lv1 := [(3, .int (x3 + 6)), (0, .ref 1000), (1, .ref 0), (2, .ref 55)]) dL_law_1338 rfl rfl (Nat.le_of_ble_eq_true rfl) rfl ?_
          refine j_goto (pc := 1341) (t := 18) dL_law_1341 (by decide) ?_
          refine j_sub [1, 2, 3, 0] rfl ?_
          exact H
        · replace H := H.2 c606
          refine j_iconst (pc := 609) (v := 0) dL_law_609 (by decide) ?_
          exact s_iretz (pc := 610) dL_law_610 rfl rfl H
      by_cases c33_15 : (sc g x3) &&& 63 = 15
      · replace H := H.2.2.2.2.2.2.2.2.2.2.2.2.2.2.2.1 c33_15
        refine j_tableIn (pc := 33) (t := 611) (off := 578) dL_law_33 (by rw [c33_15]; decide) (by rw [c33_15]; decide) (by rw [c33_15]; rfl) (by decide) ?_
        refine j_aload_n (pc := 611) dL_law_611 rfl ?_
        refine j_aload_n (pc := 612) dL_law_612 rfl ?_
        refine j_iload_n (pc := 613) dL_law_613 rfl ?_
        refine j_iconst (pc := 614) (v := 1) dL_law_614 (by decide) ?_
        refine j_iadd (pc := 615) dL_law_615 ?_
        have b616 := H.1
        replace H := H.2
        refine j_sldv (pc := 616) dL_law_616 b616 ?_
        refine j_aload_n (pc := 617) dL_law_617 rfl ?_
        refine j_iload_n (pc := 618) dL_law_618 rfl ?_
        refine j_iconst (pc := 619) (v := 2) dL_law_619 (by decide) ?_
        refine j_iadd (pc := 620) dL_law_620 ?_
        have b621 := H.1
        replace H := H.2
        refine j_sldv (pc := 621) dL_law_621 b621 ?_
        refine j_aload_n (pc := 622) dL_law_622 rfl ?_
        refine j_iload_n (pc := 623) dL_law_623 rfl ?_
        refine j_iconst (pc := 624) (v := 3) dL_law_624 (by decide) ?_
        refine j_iadd (pc := 625) dL_law_625 ?_
        have b626 := H.1
        replace H := H.2
        refine j_sldv (pc := 626) dL_law_626 b626 ?_
        refine s_callV_i (pc := 627) (M1 := M_X11_fewest) (n := 3) (as := [.int (sc g (x3 + 1)), .int (sc g (x3 + 2)), .int (sc g (x3 + 3))]) (a := 0) (st := []) dL_law_627 G_X11_fewest wm_L_77 (by decide +kernel) rfl (Nat.le_of_ble_eq_true rfl) shp_0 rfl (by show 1 ≤ d; omega) (Nat.le_of_ble_eq_true rfl) (Nat.le_refl _) (Nat.le_refl _) ?_
        refine CI.mono H (fun r31 σ31 H => ?_)
        refine j_aload_n (pc := 630) dL_law_630 rfl ?_
        refine j_aload_n (pc := 631) dL_law_631 rfl ?_
        refine j_iload_n (pc := 632) dL_law_632 rfl ?_
        refine j_iconst (pc := 633) (v := 1) dL_law_633 (by decide) ?_
        refine j_iadd (pc := 634) dL_law_634 ?_
        have b635 := H.1
        replace H := H.2
        refine j_sldv (pc := 635) dL_law_635 b635 ?_
        refine j_aload_n (pc := 636) dL_law_636 rfl ?_
        refine j_iload_n (pc := 637) dL_law_637 rfl ?_
        refine j_iconst (pc := 638) (v := 2) dL_law_638 (by decide) ?_
        refine j_iadd (pc := 639) dL_law_639 ?_
        have b640 := H.1
        replace H := H.2
        refine j_sldv (pc := 640) dL_law_640 b640 ?_
        refine j_aload_n (pc := 641) dL_law_641 rfl ?_
        refine j_iload_n (pc := 642) dL_law_642 rfl ?_
        refine j_iconst (pc := 643) (v := 3) dL_law_643 (by decide) ?_
        refine j_iadd (pc := 644) dL_law_644 ?_
        have b645 := H.1
        replace H := H.2
        refine j_sldv (pc := 645) dL_law_645 b645 ?_
        refine s_callV_i (pc := 646) (M1 := M_X12_fewest) (n := 3) (as := [.int (sc g (x3 + 1)), .int (sc g (x3 + 2)), .int (sc g (x3 + 3))]) (a := 55) (st := [.int r31]) dL_law_646 G_X12_fewest wm_L_80 (by decide +kernel) rfl (Nat.le_of_ble_eq_true rfl) shp_55 rfl (by show 1 ≤ d; omega) (Nat.le_of_ble_eq_true rfl) (Nat.le_refl _) (Nat.le_refl _) ?_
        refine CI.mono H (fun r32 σ32 H => ?_)
        refine j_icmp_eq (pc := 649) (t := 1338) dL_law_649 (by decide) (fun c649 => ?_) (fun c649 => ?_)
        · replace H := H.1 c649
          refine j_iinc (pc := 1338) (k := 3) (v := x3 + 6) (lv1 := [(3, .int (x3 + 6)), (0, .ref 1000), (1, .ref 0), (2, .ref 55)]) dL_law_1338 rfl rfl (Nat.le_of_ble_eq_true rfl) rfl ?_
          refine j_goto (pc := 1341) (t := 18) dL_law_1341 (by decide) ?_
          refine j_sub [1, 2, 3, 0] rfl ?_
          exact H
        · replace H := H.2 c649
          refine j_iconst (pc := 652) (v := 0) dL_law_652 (by decide) ?_
          exact s_iretz (pc := 653) dL_law_653 rfl rfl H
      by_cases c33_16 : (sc g x3) &&& 63 = 16
      · replace H := H.2.2.2.2.2.2.2.2.2.2.2.2.2.2.2.2.1 c33_16
        refine j_tableIn (pc := 33) (t := 654) (off := 621) dL_law_33 (by rw [c33_16]; decide) (by rw [c33_16]; decide) (by rw [c33_16]; rfl) (by decide) ?_
        refine j_aload_n (pc := 654) dL_law_654 rfl ?_
        refine j_aload_n (pc := 655) dL_law_655 rfl ?_
        refine j_iload_n (pc := 656) dL_law_656 rfl ?_
        refine j_iconst (pc := 657) (v := 1) dL_law_657 (by decide) ?_
        refine j_iadd (pc := 658) dL_law_658 ?_
        have b659 := H.1
        replace H := H.2
        refine j_sldv (pc := 659) dL_law_659 b659 ?_
        refine j_aload_n (pc := 660) dL_law_660 rfl ?_
        refine j_iload_n (pc := 661) dL_law_661 rfl ?_
        refine j_iconst (pc := 662) (v := 2) dL_law_662 (by decide) ?_
        refine j_iadd (pc := 663) dL_law_663 ?_
        have b664 := H.1
        replace H := H.2
        refine j_sldv (pc := 664) dL_law_664 b664 ?_
        refine s_callV_i (pc := 665) (M1 := M_X11_first) (n := 2) (as := [.int (sc g (x3 + 1)), .int (sc g (x3 + 2))]) (a := 0) (st := []) dL_law_665 G_X11_first wm_L_81 (by decide +kernel) rfl (Nat.le_of_ble_eq_true rfl) shp_0 rfl (by show 1 ≤ d; omega) (Nat.le_of_ble_eq_true rfl) (Nat.le_refl _) (Nat.le_refl _) ?_
        refine CI.mono H (fun r33 σ33 H => ?_)
        refine j_aload_n (pc := 668) dL_law_668 rfl ?_
        refine j_aload_n (pc := 669) dL_law_669 rfl ?_
        refine j_iload_n (pc := 670) dL_law_670 rfl ?_
        refine j_iconst (pc := 671) (v := 1) dL_law_671 (by decide) ?_
        refine j_iadd (pc := 672) dL_law_672 ?_
        have b673 := H.1
        replace H := H.2
        refine j_sldv (pc := 673) dL_law_673 b673 ?_
        refine j_aload_n (pc := 674) dL_law_674 rfl ?_
        refine j_iload_n (pc := 675) dL_law_675 rfl ?_
        refine j_iconst (pc := 676) (v := 2) dL_law_676 (by decide) ?_
        refine j_iadd (pc := 677) dL_law_677 ?_
        have b678 := H.1
        replace H := H.2
        refine j_sldv (pc := 678) dL_law_678 b678 ?_
        refine s_callV_i (pc := 679) (M1 := M_X12_first) (n := 2) (as := [.int (sc g (x3 + 1)), .int (sc g (x3 + 2))]) (a := 55) (st := [.int r33]) dL_law_679 G_X12_first wm_L_84 (by decide +kernel) rfl (Nat.le_of_ble_eq_true rfl) shp_55 rfl (by show 1 ≤ d; omega) (Nat.le_of_ble_eq_true rfl) (Nat.le_refl _) (Nat.le_refl _) ?_
        refine CI.mono H (fun r34 σ34 H => ?_)
        refine j_icmp_eq (pc := 682) (t := 1338) dL_law_682 (by decide) (fun c682 => ?_) (fun c682 => ?_)
        · replace H := H.1 c682
          refine j_iinc (pc := 1338) (k := 3) (v := x3 + 6) (lv1 := [(3, .int (x3 + 6)), (0, .ref 1000), (1, .ref 0), (2, .ref 55)]) dL_law_1338 rfl rfl (Nat.le_of_ble_eq_true rfl) rfl ?_
          refine j_goto (pc := 1341) (t := 18) dL_law_1341 (by decide) ?_
          refine j_sub [1, 2, 3, 0] rfl ?_
          exact H
        · replace H := H.2 c682
          refine j_iconst (pc := 685) (v := 0) dL_law_685 (by decide) ?_
          exact s_iretz (pc := 686) dL_law_686 rfl rfl H
      by_cases c33_17 : (sc g x3) &&& 63 = 17
      · replace H := H.2.2.2.2.2.2.2.2.2.2.2.2.2.2.2.2.2.1 c33_17
        refine j_tableIn (pc := 33) (t := 687) (off := 654) dL_law_33 (by rw [c33_17]; decide) (by rw [c33_17]; decide) (by rw [c33_17]; rfl) (by decide) ?_
        refine j_aload_n (pc := 687) dL_law_687 rfl ?_
        refine j_aload_n (pc := 688) dL_law_688 rfl ?_
        refine j_iload_n (pc := 689) dL_law_689 rfl ?_
        refine j_iconst (pc := 690) (v := 1) dL_law_690 (by decide) ?_
        refine j_iadd (pc := 691) dL_law_691 ?_
        have b692 := H.1
        replace H := H.2
        refine j_sldv (pc := 692) dL_law_692 b692 ?_
        refine j_aload_n (pc := 693) dL_law_693 rfl ?_
        refine j_iload_n (pc := 694) dL_law_694 rfl ?_
        refine j_iconst (pc := 695) (v := 2) dL_law_695 (by decide) ?_
        refine j_iadd (pc := 696) dL_law_696 ?_
        have b697 := H.1
        replace H := H.2
        refine j_sldv (pc := 697) dL_law_697 b697 ?_
        refine s_callV_i (pc := 698) (M1 := M_X11_turn) (n := 2) (as := [.int (sc g (x3 + 1)), .int (sc g (x3 + 2))]) (a := 0) (st := []) dL_law_698 G_X11_turn wm_L_85 (by decide +kernel) rfl (Nat.le_of_ble_eq_true rfl) shp_0 rfl (by show 1 ≤ d; omega) (Nat.le_of_ble_eq_true rfl) (Nat.le_refl _) (Nat.le_refl _) ?_
        refine CI.mono H (fun r35 σ35 H => ?_)
        refine j_aload_n (pc := 701) dL_law_701 rfl ?_
        refine j_aload_n (pc := 702) dL_law_702 rfl ?_
        refine j_iload_n (pc := 703) dL_law_703 rfl ?_
        refine j_iconst (pc := 704) (v := 1) dL_law_704 (by decide) ?_
        refine j_iadd (pc := 705) dL_law_705 ?_
        have b706 := H.1
        replace H := H.2
        refine j_sldv (pc := 706) dL_law_706 b706 ?_
        refine j_aload_n (pc := 707) dL_law_707 rfl ?_
        refine j_iload_n (pc := 708) dL_law_708 rfl ?_
        refine j_iconst (pc := 709) (v := 2) dL_law_709 (by decide) ?_
        refine j_iadd (pc := 710) dL_law_710 ?_
        have b711 := H.1
        replace H := H.2
        refine j_sldv (pc := 711) dL_law_711 b711 ?_
        refine s_callV_i (pc := 712) (M1 := M_X12_turn) (n := 2) (as := [.int (sc g (x3 + 1)), .int (sc g (x3 + 2))]) (a := 55) (st := [.int r35]) dL_law_712 G_X12_turn wm_L_88 (by decide +kernel) rfl (Nat.le_of_ble_eq_true rfl) shp_55 rfl (by show 1 ≤ d; omega) (Nat.le_of_ble_eq_true rfl) (Nat.le_refl _) (Nat.le_refl _) ?_
        refine CI.mono H (fun r36 σ36 H => ?_)
        refine j_icmp_eq (pc := 715) (t := 1338) dL_law_715 (by decide) (fun c715 => ?_) (fun c715 => ?_)
        · replace H := H.1 c715
          refine j_iinc (pc := 1338) (k := 3) (v := x3 + 6) (lv1 := [(3, .int (x3 + 6)), (0, .ref 1000), (1, .ref 0), (2, .ref 55)]) dL_law_1338 rfl rfl (Nat.le_of_ble_eq_true rfl) rfl ?_
          refine j_goto (pc := 1341) (t := 18) dL_law_1341 (by decide) ?_
          refine j_sub [1, 2, 3, 0] rfl ?_
          exact H
        · replace H := H.2 c715
          refine j_iconst (pc := 718) (v := 0) dL_law_718 (by decide) ?_
          exact s_iretz (pc := 719) dL_law_719 rfl rfl H
      by_cases c33_18 : (sc g x3) &&& 63 = 18
      · replace H := H.2.2.2.2.2.2.2.2.2.2.2.2.2.2.2.2.2.2.1 c33_18
        refine j_tableIn (pc := 33) (t := 720) (off := 687) dL_law_33 (by rw [c33_18]; decide) (by rw [c33_18]; decide) (by rw [c33_18]; rfl) (by decide) ?_
        refine j_aload_n (pc := 720) dL_law_720 rfl ?_
        refine j_aload_n (pc := 721) dL_law_721 rfl ?_
        refine j_iload_n (pc := 722) dL_law_722 rfl ?_
        refine j_iconst (pc := 723) (v := 1) dL_law_723 (by decide) ?_
        refine j_iadd (pc := 724) dL_law_724 ?_
        have b725 := H.1
        replace H := H.2
        refine j_sldv (pc := 725) dL_law_725 b725 ?_
        refine j_aload_n (pc := 726) dL_law_726 rfl ?_
        refine j_iload_n (pc := 727) dL_law_727 rfl ?_
        refine j_iconst (pc := 728) (v := 2) dL_law_728 (by decide) ?_
        refine j_iadd (pc := 729) dL_law_729 ?_
        have b730 := H.1
        replace H := H.2
        refine j_sldv (pc := 730) dL_law_730 b730 ?_
        refine j_aload_n (pc := 731) dL_law_731 rfl ?_
        refine j_iload_n (pc := 732) dL_law_732 rfl ?_
        refine j_iconst (pc := 733) (v := 3) dL_law_733 (by decide) ?_
        refine j_iadd (pc := 734) dL_law_734 ?_
        have b735 := H.1
        replace H := H.2
        refine j_sldv (pc := 735) dL_law_735 b735 ?_
        refine s_callV_i (pc := 736) (M1 := M_X11_boots) (n := 3) (as := [.int (sc g (x3 + 1)), .int (sc g (x3 + 2)), .int (sc g (x3 + 3))]) (a := 0) (st := []) dL_law_736 G_X11_boots wm_L_89 (by decide +kernel) rfl (Nat.le_of_ble_eq_true rfl) shp_0 rfl (by show 1 ≤ d; omega) (Nat.le_of_ble_eq_true rfl) (Nat.le_refl _) (Nat.le_refl _) ?_
        refine CI.mono H (fun r37 σ37 H => ?_)
        refine j_aload_n (pc := 739) dL_law_739 rfl ?_
        refine j_aload_n (pc := 740) dL_law_740 rfl ?_
        refine j_iload_n (pc := 741) dL_law_741 rfl ?_
        refine j_iconst (pc := 742) (v := 1) dL_law_742 (by decide) ?_
        refine j_iadd (pc := 743) dL_law_743 ?_
        have b744 := H.1
        replace H := H.2
        refine j_sldv (pc := 744) dL_law_744 b744 ?_
        refine j_aload_n (pc := 745) dL_law_745 rfl ?_
        refine j_iload_n (pc := 746) dL_law_746 rfl ?_
        refine j_iconst (pc := 747) (v := 2) dL_law_747 (by decide) ?_
        refine j_iadd (pc := 748) dL_law_748 ?_
        have b749 := H.1
        replace H := H.2
        refine j_sldv (pc := 749) dL_law_749 b749 ?_
        refine j_aload_n (pc := 750) dL_law_750 rfl ?_
        refine j_iload_n (pc := 751) dL_law_751 rfl ?_
        refine j_iconst (pc := 752) (v := 3) dL_law_752 (by decide) ?_
        refine j_iadd (pc := 753) dL_law_753 ?_
        have b754 := H.1
        replace H := H.2
        refine j_sldv (pc := 754) dL_law_754 b754 ?_
        refine s_callV_i (pc := 755) (M1 := M_X12_boots) (n := 3) (as := [.int (sc g (x3 + 1)), .int (sc g (x3 + 2)), .int (sc g (x3 + 3))]) (a := 55) (st := [.int r37]) dL_law_755 G_X12_boots wm_L_92 (by decide +kernel) rfl (Nat.le_of_ble_eq_true rfl) shp_55 rfl (by show 1 ≤ d; omega) (Nat.le_of_ble_eq_true rfl) (Nat.le_refl _) (Nat.le_refl _) ?_
        refine CI.mono H (fun r38 σ38 H => ?_)
        refine j_icmp_eq (pc := 758) (t := 1338) dL_law_758 (by decide) (fun c758 => ?_) (fun c758 => ?_)
        · replace H := H.1 c758
          refine j_iinc (pc := 1338) (k := 3) (v := x3 + 6) (lv1 := [(3, .int (x3 + 6)), (0, .ref 1000), (1, .ref 0), (2, .ref 55)]) dL_law_1338 rfl rfl (Nat.le_of_ble_eq_true rfl) rfl ?_
          refine j_goto (pc := 1341) (t := 18) dL_law_1341 (by decide) ?_
          refine j_sub [1, 2, 3, 0] rfl ?_
          exact H
        · replace H := H.2 c758
          refine j_iconst (pc := 761) (v := 0) dL_law_761 (by decide) ?_
          exact s_iretz (pc := 762) dL_law_762 rfl rfl H
      by_cases c33_19 : (sc g x3) &&& 63 = 19
      · replace H := H.2.2.2.2.2.2.2.2.2.2.2.2.2.2.2.2.2.2.2.1 c33_19
        refine j_tableIn (pc := 33) (t := 763) (off := 730) dL_law_33 (by rw [c33_19]; decide) (by rw [c33_19]; decide) (by rw [c33_19]; rfl) (by decide) ?_
        refine j_aload_n (pc := 763) dL_law_763 rfl ?_
        refine j_aload_n (pc := 764) dL_law_764 rfl ?_
        refine j_iload_n (pc := 765) dL_law_765 rfl ?_
        refine j_iconst (pc := 766) (v := 1) dL_law_766 (by decide) ?_
        refine j_iadd (pc := 767) dL_law_767 ?_
        have b768 := H.1
        replace H := H.2
        refine j_sldv (pc := 768) dL_law_768 b768 ?_
        refine j_aload_n (pc := 769) dL_law_769 rfl ?_
        refine j_iload_n (pc := 770) dL_law_770 rfl ?_
        refine j_iconst (pc := 771) (v := 2) dL_law_771 (by decide) ?_
        refine j_iadd (pc := 772) dL_law_772 ?_
        have b773 := H.1
        replace H := H.2
        refine j_sldv (pc := 773) dL_law_773 b773 ?_
        refine s_callV_i (pc := 774) (M1 := M_X11_month) (n := 2) (as := [.int (sc g (x3 + 1)), .int (sc g (x3 + 2))]) (a := 0) (st := []) dL_law_774 G_X11_month wm_L_93 (by decide +kernel) rfl (Nat.le_of_ble_eq_true rfl) shp_0 rfl (by show 1 ≤ d; omega) (Nat.le_of_ble_eq_true rfl) (Nat.le_refl _) (Nat.le_refl _) ?_
        refine CI.mono H (fun r39 σ39 H => ?_)
        refine j_aload_n (pc := 777) dL_law_777 rfl ?_
        refine j_aload_n (pc := 778) dL_law_778 rfl ?_
        refine j_iload_n (pc := 779) dL_law_779 rfl ?_
        refine j_iconst (pc := 780) (v := 1) dL_law_780 (by decide) ?_
        refine j_iadd (pc := 781) dL_law_781 ?_
        have b782 := H.1
        replace H := H.2
        refine j_sldv (pc := 782) dL_law_782 b782 ?_
        refine j_aload_n (pc := 783) dL_law_783 rfl ?_
        refine j_iload_n (pc := 784) dL_law_784 rfl ?_
        refine j_iconst (pc := 785) (v := 2) dL_law_785 (by decide) ?_
        refine j_iadd (pc := 786) dL_law_786 ?_
        have b787 := H.1
        replace H := H.2
        refine j_sldv (pc := 787) dL_law_787 b787 ?_
        refine s_callV_i (pc := 788) (M1 := M_X12_month) (n := 2) (as := [.int (sc g (x3 + 1)), .int (sc g (x3 + 2))]) (a := 55) (st := [.int r39]) dL_law_788 G_X12_month wm_L_96 (by decide +kernel) rfl (Nat.le_of_ble_eq_true rfl) shp_55 rfl (by show 1 ≤ d; omega) (Nat.le_of_ble_eq_true rfl) (Nat.le_refl _) (Nat.le_refl _) ?_
        refine CI.mono H (fun r40 σ40 H => ?_)
        refine j_icmp_eq (pc := 791) (t := 1338) dL_law_791 (by decide) (fun c791 => ?_) (fun c791 => ?_)
        · replace H := H.1 c791
          refine j_iinc (pc := 1338) (k := 3) (v := x3 + 6) (lv1 := [(3, .int (x3 + 6)), (0, .ref 1000), (1, .ref 0), (2, .ref 55)]) dL_law_1338 rfl rfl (Nat.le_of_ble_eq_true rfl) rfl ?_
          refine j_goto (pc := 1341) (t := 18) dL_law_1341 (by decide) ?_
          refine j_sub [1, 2, 3, 0] rfl ?_
          exact H
        · replace H := H.2 c791
          refine j_iconst (pc := 794) (v := 0) dL_law_794 (by decide) ?_
          exact s_iretz (pc := 795) dL_law_795 rfl rfl H
      by_cases c33_20 : (sc g x3) &&& 63 = 20
      · replace H := H.2.2.2.2.2.2.2.2.2.2.2.2.2.2.2.2.2.2.2.2.1 c33_20
        refine j_tableIn (pc := 33) (t := 796) (off := 763) dL_law_33 (by rw [c33_20]; decide) (by rw [c33_20]; decide) (by rw [c33_20]; rfl) (by decide) ?_
        refine j_aload_n (pc := 796) dL_law_796 rfl ?_
        refine j_aload_n (pc := 797) dL_law_797 rfl ?_
        refine j_iload_n (pc := 798) dL_law_798 rfl ?_
        refine j_iconst (pc := 799) (v := 1) dL_law_799 (by decide) ?_
        refine j_iadd (pc := 800) dL_law_800 ?_
        have b801 := H.1
        replace H := H.2
        refine j_sldv (pc := 801) dL_law_801 b801 ?_
        refine j_aload_n (pc := 802) dL_law_802 rfl ?_
        refine j_iload_n (pc := 803) dL_law_803 rfl ?_
        refine j_iconst (pc := 804) (v := 2) dL_law_804 (by decide) ?_
        refine j_iadd (pc := 805) dL_law_805 ?_
        have b806 := H.1
        replace H := H.2
        refine j_sldv (pc := 806) dL_law_806 b806 ?_
        refine j_aload_n (pc := 807) dL_law_807 rfl ?_
        refine j_iload_n (pc := 808) dL_law_808 rfl ?_
        refine j_iconst (pc := 809) (v := 3) dL_law_809 (by decide) ?_
        refine j_iadd (pc := 810) dL_law_810 ?_
        have b811 := H.1
        replace H := H.2
        refine j_sldv (pc := 811) dL_law_811 b811 ?_
        refine j_aload_n (pc := 812) dL_law_812 rfl ?_
        refine j_iload_n (pc := 813) dL_law_813 rfl ?_
        refine j_iconst (pc := 814) (v := 4) dL_law_814 (by decide) ?_
        refine j_iadd (pc := 815) dL_law_815 ?_
        have b816 := H.1
        replace H := H.2
        refine j_sldv (pc := 816) dL_law_816 b816 ?_
        refine s_callV_i (pc := 817) (M1 := M_X11_tries) (n := 4) (as := [.int (sc g (x3 + 1)), .int (sc g (x3 + 2)), .int (sc g (x3 + 3)), .int (sc g (x3 + 4))]) (a := 0) (st := []) dL_law_817 G_X11_tries wm_L_97 (by decide +kernel) rfl (Nat.le_of_ble_eq_true rfl) shp_0 rfl (by show 1 ≤ d; omega) (Nat.le_of_ble_eq_true rfl) (Nat.le_refl _) (Nat.le_refl _) ?_
        refine CI.mono H (fun r41 σ41 H => ?_)
        refine j_aload_n (pc := 820) dL_law_820 rfl ?_
        refine j_aload_n (pc := 821) dL_law_821 rfl ?_
        refine j_iload_n (pc := 822) dL_law_822 rfl ?_
        refine j_iconst (pc := 823) (v := 1) dL_law_823 (by decide) ?_
        refine j_iadd (pc := 824) dL_law_824 ?_
        have b825 := H.1
        replace H := H.2
        refine j_sldv (pc := 825) dL_law_825 b825 ?_
        refine j_aload_n (pc := 826) dL_law_826 rfl ?_
        refine j_iload_n (pc := 827) dL_law_827 rfl ?_
        refine j_iconst (pc := 828) (v := 2) dL_law_828 (by decide) ?_
        refine j_iadd (pc := 829) dL_law_829 ?_
        have b830 := H.1
        replace H := H.2
        refine j_sldv (pc := 830) dL_law_830 b830 ?_
        refine j_aload_n (pc := 831) dL_law_831 rfl ?_
        refine j_iload_n (pc := 832) dL_law_832 rfl ?_
        refine j_iconst (pc := 833) (v := 3) dL_law_833 (by decide) ?_
        refine j_iadd (pc := 834) dL_law_834 ?_
        have b835 := H.1
        replace H := H.2
        refine j_sldv (pc := 835) dL_law_835 b835 ?_
        refine j_aload_n (pc := 836) dL_law_836 rfl ?_
        refine j_iload_n (pc := 837) dL_law_837 rfl ?_
        refine j_iconst (pc := 838) (v := 4) dL_law_838 (by decide) ?_
        refine j_iadd (pc := 839) dL_law_839 ?_
        have b840 := H.1
        replace H := H.2
        refine j_sldv (pc := 840) dL_law_840 b840 ?_
        refine s_callV_i (pc := 841) (M1 := M_X12_tries) (n := 4) (as := [.int (sc g (x3 + 1)), .int (sc g (x3 + 2)), .int (sc g (x3 + 3)), .int (sc g (x3 + 4))]) (a := 55) (st := [.int r41]) dL_law_841 G_X12_tries wm_L_101 (by decide +kernel) rfl (Nat.le_of_ble_eq_true rfl) shp_55 rfl (by show 1 ≤ d; omega) (Nat.le_of_ble_eq_true rfl) (Nat.le_refl _) (Nat.le_refl _) ?_
        refine CI.mono H (fun r42 σ42 H => ?_)
        refine j_icmp_eq (pc := 844) (t := 1338) dL_law_844 (by decide) (fun c844 => ?_) (fun c844 => ?_)
        · replace H := H.1 c844
          refine j_iinc (pc := 1338) (k := 3) (v := x3 + 6) (lv1 := [(3, .int (x3 + 6)), (0, .ref 1000), (1, .ref 0), (2, .ref 55)]) dL_law_1338 rfl rfl (Nat.le_of_ble_eq_true rfl) rfl ?_
          refine j_goto (pc := 1341) (t := 18) dL_law_1341 (by decide) ?_
          refine j_sub [1, 2, 3, 0] rfl ?_
          exact H
        · replace H := H.2 c844
          refine j_iconst (pc := 847) (v := 0) dL_law_847 (by decide) ?_
          exact s_iretz (pc := 848) dL_law_848 rfl rfl H
      by_cases c33_21 : (sc g x3) &&& 63 = 21
      · replace H := H.2.2.2.2.2.2.2.2.2.2.2.2.2.2.2.2.2.2.2.2.2.1 c33_21
        refine j_tableIn (pc := 33) (t := 849) (off := 816) dL_law_33 (by rw [c33_21]; decide) (by rw [c33_21]; decide) (by rw [c33_21]; rfl) (by decide) ?_
        refine j_aload_n (pc := 849) dL_law_849 rfl ?_
        refine j_aload_n (pc := 850) dL_law_850 rfl ?_
        refine j_iload_n (pc := 851) dL_law_851 rfl ?_
        refine j_iconst (pc := 852) (v := 1) dL_law_852 (by decide) ?_
        refine j_iadd (pc := 853) dL_law_853 ?_
        have b854 := H.1
        replace H := H.2
        refine j_sldv (pc := 854) dL_law_854 b854 ?_
        refine s_callV_i (pc := 855) (M1 := M_X11_judge) (n := 1) (as := [.int (sc g (x3 + 1))]) (a := 0) (st := []) dL_law_855 G_X11_judge wm_L_102 (by decide +kernel) rfl (Nat.le_of_ble_eq_true rfl) shp_0 rfl (by show 1 ≤ d; omega) (Nat.le_of_ble_eq_true rfl) (Nat.le_refl _) (Nat.le_refl _) ?_
        refine CI.mono H (fun r43 σ43 H => ?_)
        refine j_aload_n (pc := 858) dL_law_858 rfl ?_
        refine j_aload_n (pc := 859) dL_law_859 rfl ?_
        refine j_iload_n (pc := 860) dL_law_860 rfl ?_
        refine j_iconst (pc := 861) (v := 1) dL_law_861 (by decide) ?_
        refine j_iadd (pc := 862) dL_law_862 ?_
        have b863 := H.1
        replace H := H.2
        refine j_sldv (pc := 863) dL_law_863 b863 ?_
        refine s_callV_i (pc := 864) (M1 := M_X12_judge) (n := 1) (as := [.int (sc g (x3 + 1))]) (a := 55) (st := [.int r43]) dL_law_864 G_X12_judge wm_L_105 (by decide +kernel) rfl (Nat.le_of_ble_eq_true rfl) shp_55 rfl (by show 1 ≤ d; omega) (Nat.le_of_ble_eq_true rfl) (Nat.le_refl _) (Nat.le_refl _) ?_
        refine CI.mono H (fun r44 σ44 H => ?_)
        refine j_icmp_eq (pc := 867) (t := 1338) dL_law_867 (by decide) (fun c867 => ?_) (fun c867 => ?_)
        · replace H := H.1 c867
          refine j_iinc (pc := 1338) (k := 3) (v := x3 + 6) (lv1 := [(3, .int (x3 + 6)), (0, .ref 1000), (1, .ref 0), (2, .ref 55)]) dL_law_1338 rfl rfl (Nat.le_of_ble_eq_true rfl) rfl ?_
          refine j_goto (pc := 1341) (t := 18) dL_law_1341 (by decide) ?_
          refine j_sub [1, 2, 3, 0] rfl ?_
          exact H
        · replace H := H.2 c867
          refine j_iconst (pc := 870) (v := 0) dL_law_870 (by decide) ?_
          exact s_iretz (pc := 871) dL_law_871 rfl rfl H
      by_cases c33_22 : (sc g x3) &&& 63 = 22
      · replace H := H.2.2.2.2.2.2.2.2.2.2.2.2.2.2.2.2.2.2.2.2.2.2.1 c33_22
        refine j_tableIn (pc := 33) (t := 872) (off := 839) dL_law_33 (by rw [c33_22]; decide) (by rw [c33_22]; decide) (by rw [c33_22]; rfl) (by decide) ?_
        refine j_aload_n (pc := 872) dL_law_872 rfl ?_
        refine j_aload_n (pc := 873) dL_law_873 rfl ?_
        refine j_iload_n (pc := 874) dL_law_874 rfl ?_
        refine j_iconst (pc := 875) (v := 1) dL_law_875 (by decide) ?_
        refine j_iadd (pc := 876) dL_law_876 ?_
        have b877 := H.1
        replace H := H.2
        refine j_sldv (pc := 877) dL_law_877 b877 ?_
        refine s_callV_i (pc := 878) (M1 := M_X11_seen) (n := 1) (as := [.int (sc g (x3 + 1))]) (a := 0) (st := []) dL_law_878 G_X11_seen wm_L_106 (by decide +kernel) rfl (Nat.le_of_ble_eq_true rfl) shp_0 rfl (by show 1 ≤ d; omega) (Nat.le_of_ble_eq_true rfl) (Nat.le_refl _) (Nat.le_refl _) ?_
        refine CI.mono H (fun r45 σ45 H => ?_)
        refine j_aload_n (pc := 881) dL_law_881 rfl ?_
        refine j_aload_n (pc := 882) dL_law_882 rfl ?_
        refine j_iload_n (pc := 883) dL_law_883 rfl ?_
        refine j_iconst (pc := 884) (v := 1) dL_law_884 (by decide) ?_
        refine j_iadd (pc := 885) dL_law_885 ?_
        have b886 := H.1
        replace H := H.2
        refine j_sldv (pc := 886) dL_law_886 b886 ?_
        refine s_callV_i (pc := 887) (M1 := M_X12_seen) (n := 1) (as := [.int (sc g (x3 + 1))]) (a := 55) (st := [.int r45]) dL_law_887 G_X12_seen wm_L_109 (by decide +kernel) rfl (Nat.le_of_ble_eq_true rfl) shp_55 rfl (by show 1 ≤ d; omega) (Nat.le_of_ble_eq_true rfl) (Nat.le_refl _) (Nat.le_refl _) ?_
        refine CI.mono H (fun r46 σ46 H => ?_)
        refine j_icmp_eq (pc := 890) (t := 1338) dL_law_890 (by decide) (fun c890 => ?_) (fun c890 => ?_)
        · replace H := H.1 c890
          refine j_iinc (pc := 1338) (k := 3) (v := x3 + 6) (lv1 := [(3, .int (x3 + 6)), (0, .ref 1000), (1, .ref 0), (2, .ref 55)]) dL_law_1338 rfl rfl (Nat.le_of_ble_eq_true rfl) rfl ?_
          refine j_goto (pc := 1341) (t := 18) dL_law_1341 (by decide) ?_
          refine j_sub [1, 2, 3, 0] rfl ?_
          exact H
        · replace H := H.2 c890
          refine j_iconst (pc := 893) (v := 0) dL_law_893 (by decide) ?_
          exact s_iretz (pc := 894) dL_law_894 rfl rfl H
      by_cases c33_23 : (sc g x3) &&& 63 = 23
      · replace H := H.2.2.2.2.2.2.2.2.2.2.2.2.2.2.2.2.2.2.2.2.2.2.2.1 c33_23
        refine j_tableIn (pc := 33) (t := 895) (off := 862) dL_law_33 (by rw [c33_23]; decide) (by rw [c33_23]; decide) (by rw [c33_23]; rfl) (by decide) ?_
        refine j_aload_n (pc := 895) dL_law_895 rfl ?_
        refine s_callV_i (pc := 896) (M1 := M_X11_image) (n := 0) (as := []) (a := 0) (st := []) dL_law_896 G_X11_image wm_L_110 (by decide +kernel) rfl (Nat.le_of_ble_eq_true rfl) shp_0 rfl (by show 1 ≤ d; omega) (Nat.le_of_ble_eq_true rfl) (Nat.le_refl _) (Nat.le_refl _) ?_
        refine CI.mono H (fun r47 σ47 H => ?_)
        refine j_aload_n (pc := 899) dL_law_899 rfl ?_
        refine s_callV_i (pc := 900) (M1 := M_X12_image) (n := 0) (as := []) (a := 55) (st := [.int r47]) dL_law_900 G_X12_image wm_L_113 (by decide +kernel) rfl (Nat.le_of_ble_eq_true rfl) shp_55 rfl (by show 1 ≤ d; omega) (Nat.le_of_ble_eq_true rfl) (Nat.le_refl _) (Nat.le_refl _) ?_
        refine CI.mono H (fun r48 σ48 H => ?_)
        refine j_icmp_eq (pc := 903) (t := 1338) dL_law_903 (by decide) (fun c903 => ?_) (fun c903 => ?_)
        · replace H := H.1 c903
          refine j_iinc (pc := 1338) (k := 3) (v := x3 + 6) (lv1 := [(3, .int (x3 + 6)), (0, .ref 1000), (1, .ref 0), (2, .ref 55)]) dL_law_1338 rfl rfl (Nat.le_of_ble_eq_true rfl) rfl ?_
          refine j_goto (pc := 1341) (t := 18) dL_law_1341 (by decide) ?_
          refine j_sub [1, 2, 3, 0] rfl ?_
          exact H
        · replace H := H.2 c903
          refine j_iconst (pc := 906) (v := 0) dL_law_906 (by decide) ?_
          exact s_iretz (pc := 907) dL_law_907 rfl rfl H
      by_cases c33_24 : (sc g x3) &&& 63 = 24
      · replace H := H.2.2.2.2.2.2.2.2.2.2.2.2.2.2.2.2.2.2.2.2.2.2.2.2.1 c33_24
        refine j_tableIn (pc := 33) (t := 908) (off := 875) dL_law_33 (by rw [c33_24]; decide) (by rw [c33_24]; decide) (by rw [c33_24]; rfl) (by decide) ?_
        refine j_aload_n (pc := 908) dL_law_908 rfl ?_
        refine s_callV_i (pc := 909) (M1 := M_X11_back) (n := 0) (as := []) (a := 0) (st := []) dL_law_909 G_X11_back wm_L_114 (by decide +kernel) rfl (Nat.le_of_ble_eq_true rfl) shp_0 rfl (by show 1 ≤ d; omega) (Nat.le_of_ble_eq_true rfl) (Nat.le_refl _) (Nat.le_refl _) ?_
        refine CI.mono H (fun r49 σ49 H => ?_)
        refine j_aload_n (pc := 912) dL_law_912 rfl ?_
        refine s_callV_i (pc := 913) (M1 := M_X12_back) (n := 0) (as := []) (a := 55) (st := [.int r49]) dL_law_913 G_X12_back wm_L_117 (by decide +kernel) rfl (Nat.le_of_ble_eq_true rfl) shp_55 rfl (by show 1 ≤ d; omega) (Nat.le_of_ble_eq_true rfl) (Nat.le_refl _) (Nat.le_refl _) ?_
        refine CI.mono H (fun r50 σ50 H => ?_)
        refine j_icmp_eq (pc := 916) (t := 1338) dL_law_916 (by decide) (fun c916 => ?_) (fun c916 => ?_)
        · replace H := H.1 c916
          refine j_iinc (pc := 1338) (k := 3) (v := x3 + 6) (lv1 := [(3, .int (x3 + 6)), (0, .ref 1000), (1, .ref 0), (2, .ref 55)]) dL_law_1338 rfl rfl (Nat.le_of_ble_eq_true rfl) rfl ?_
          refine j_goto (pc := 1341) (t := 18) dL_law_1341 (by decide) ?_
          refine j_sub [1, 2, 3, 0] rfl ?_
          exact H
        · replace H := H.2 c916
          refine j_iconst (pc := 919) (v := 0) dL_law_919 (by decide) ?_
          exact s_iretz (pc := 920) dL_law_920 rfl rfl H
      by_cases c33_25 : (sc g x3) &&& 63 = 25
      · replace H := H.2.2.2.2.2.2.2.2.2.2.2.2.2.2.2.2.2.2.2.2.2.2.2.2.2.1 c33_25
        refine j_tableIn (pc := 33) (t := 921) (off := 888) dL_law_33 (by rw [c33_25]; decide) (by rw [c33_25]; decide) (by rw [c33_25]; rfl) (by decide) ?_
        refine j_aload_n (pc := 921) dL_law_921 rfl ?_
        refine s_callV_i (pc := 922) (M1 := M_X11_undo) (n := 0) (as := []) (a := 0) (st := []) dL_law_922 G_X11_undo wm_L_118 (by decide +kernel) rfl (Nat.le_of_ble_eq_true rfl) shp_0 rfl (by show 1 ≤ d; omega) (Nat.le_of_ble_eq_true rfl) (Nat.le_refl _) (Nat.le_refl _) ?_
        refine CI.mono H (fun r51 σ51 H => ?_)
        refine j_aload_n (pc := 925) dL_law_925 rfl ?_
        refine s_callV_i (pc := 926) (M1 := M_X12_undo) (n := 0) (as := []) (a := 55) (st := [.int r51]) dL_law_926 G_X12_undo wm_L_121 (by decide +kernel) rfl (Nat.le_of_ble_eq_true rfl) shp_55 rfl (by show 1 ≤ d; omega) (Nat.le_of_ble_eq_true rfl) (Nat.le_refl _) (Nat.le_refl _) ?_
        refine CI.mono H (fun r52 σ52 H => ?_)
        refine j_icmp_eq (pc := 929) (t := 1338) dL_law_929 (by decide) (fun c929 => ?_) (fun c929 => ?_)
        · replace H := H.1 c929
          refine j_iinc (pc := 1338) (k := 3) (v := x3 + 6) (lv1 := [(3, .int (x3 + 6)), (0, .ref 1000), (1, .ref 0), (2, .ref 55)]) dL_law_1338 rfl rfl (Nat.le_of_ble_eq_true rfl) rfl ?_
          refine j_goto (pc := 1341) (t := 18) dL_law_1341 (by decide) ?_
          refine j_sub [1, 2, 3, 0] rfl ?_
          exact H
        · replace H := H.2 c929
          refine j_iconst (pc := 932) (v := 0) dL_law_932 (by decide) ?_
          exact s_iretz (pc := 933) dL_law_933 rfl rfl H
      by_cases c33_26 : (sc g x3) &&& 63 = 26
      · replace H := H.2.2.2.2.2.2.2.2.2.2.2.2.2.2.2.2.2.2.2.2.2.2.2.2.2.2.1 c33_26
        refine j_tableIn (pc := 33) (t := 934) (off := 901) dL_law_33 (by rw [c33_26]; decide) (by rw [c33_26]; decide) (by rw [c33_26]; rfl) (by decide) ?_
        refine j_aload_n (pc := 934) dL_law_934 rfl ?_
        refine s_callV_i (pc := 935) (M1 := M_X11_redo) (n := 0) (as := []) (a := 0) (st := []) dL_law_935 G_X11_redo wm_L_122 (by decide +kernel) rfl (Nat.le_of_ble_eq_true rfl) shp_0 rfl (by show 1 ≤ d; omega) (Nat.le_of_ble_eq_true rfl) (Nat.le_refl _) (Nat.le_refl _) ?_
        refine CI.mono H (fun r53 σ53 H => ?_)
        refine j_aload_n (pc := 938) dL_law_938 rfl ?_
        refine s_callV_i (pc := 939) (M1 := M_X12_redo) (n := 0) (as := []) (a := 55) (st := [.int r53]) dL_law_939 G_X12_redo wm_L_125 (by decide +kernel) rfl (Nat.le_of_ble_eq_true rfl) shp_55 rfl (by show 1 ≤ d; omega) (Nat.le_of_ble_eq_true rfl) (Nat.le_refl _) (Nat.le_refl _) ?_
        refine CI.mono H (fun r54 σ54 H => ?_)
        refine j_icmp_eq (pc := 942) (t := 1338) dL_law_942 (by decide) (fun c942 => ?_) (fun c942 => ?_)
        · replace H := H.1 c942
          refine j_iinc (pc := 1338) (k := 3) (v := x3 + 6) (lv1 := [(3, .int (x3 + 6)), (0, .ref 1000), (1, .ref 0), (2, .ref 55)]) dL_law_1338 rfl rfl (Nat.le_of_ble_eq_true rfl) rfl ?_
          refine j_goto (pc := 1341) (t := 18) dL_law_1341 (by decide) ?_
          refine j_sub [1, 2, 3, 0] rfl ?_
          exact H
        · replace H := H.2 c942
          refine j_iconst (pc := 945) (v := 0) dL_law_945 (by decide) ?_
          exact s_iretz (pc := 946) dL_law_946 rfl rfl H
      by_cases c33_27 : (sc g x3) &&& 63 = 27
      · replace H := H.2.2.2.2.2.2.2.2.2.2.2.2.2.2.2.2.2.2.2.2.2.2.2.2.2.2.2.1 c33_27
        refine j_tableIn (pc := 33) (t := 947) (off := 914) dL_law_33 (by rw [c33_27]; decide) (by rw [c33_27]; decide) (by rw [c33_27]; rfl) (by decide) ?_
        refine j_aload_n (pc := 947) dL_law_947 rfl ?_
        refine j_aload_n (pc := 948) dL_law_948 rfl ?_
        refine j_iload_n (pc := 949) dL_law_949 rfl ?_
        refine j_iconst (pc := 950) (v := 1) dL_law_950 (by decide) ?_
        refine j_iadd (pc := 951) dL_law_951 ?_
        have b952 := H.1
        replace H := H.2
        refine j_sldv (pc := 952) dL_law_952 b952 ?_
        refine s_callV_i (pc := 953) (M1 := M_X11_body) (n := 1) (as := [.int (sc g (x3 + 1))]) (a := 0) (st := []) dL_law_953 G_X11_body wm_L_126 (by decide +kernel) rfl (Nat.le_of_ble_eq_true rfl) shp_0 rfl (by show 1 ≤ d; omega) (Nat.le_of_ble_eq_true rfl) (Nat.le_refl _) (Nat.le_refl _) ?_
        refine CI.mono H (fun r55 σ55 H => ?_)
        refine j_aload_n (pc := 956) dL_law_956 rfl ?_
        refine j_aload_n (pc := 957) dL_law_957 rfl ?_
        refine j_iload_n (pc := 958) dL_law_958 rfl ?_
        refine j_iconst (pc := 959) (v := 1) dL_law_959 (by decide) ?_
        refine j_iadd (pc := 960) dL_law_960 ?_
        have b961 := H.1
        replace H := H.2
        refine j_sldv (pc := 961) dL_law_961 b961 ?_
        refine s_callV_i (pc := 962) (M1 := M_X12_body) (n := 1) (as := [.int (sc g (x3 + 1))]) (a := 55) (st := [.int r55]) dL_law_962 G_X12_body wm_L_129 (by decide +kernel) rfl (Nat.le_of_ble_eq_true rfl) shp_55 rfl (by show 1 ≤ d; omega) (Nat.le_of_ble_eq_true rfl) (Nat.le_refl _) (Nat.le_refl _) ?_
        refine CI.mono H (fun r56 σ56 H => ?_)
        refine j_icmp_eq (pc := 965) (t := 1338) dL_law_965 (by decide) (fun c965 => ?_) (fun c965 => ?_)
        · replace H := H.1 c965
          refine j_iinc (pc := 1338) (k := 3) (v := x3 + 6) (lv1 := [(3, .int (x3 + 6)), (0, .ref 1000), (1, .ref 0), (2, .ref 55)]) dL_law_1338 rfl rfl (Nat.le_of_ble_eq_true rfl) rfl ?_
          refine j_goto (pc := 1341) (t := 18) dL_law_1341 (by decide) ?_
          refine j_sub [1, 2, 3, 0] rfl ?_
          exact H
        · replace H := H.2 c965
          refine j_iconst (pc := 968) (v := 0) dL_law_968 (by decide) ?_
          exact s_iretz (pc := 969) dL_law_969 rfl rfl H
      by_cases c33_28 : (sc g x3) &&& 63 = 28
      · replace H := H.2.2.2.2.2.2.2.2.2.2.2.2.2.2.2.2.2.2.2.2.2.2.2.2.2.2.2.2.1 c33_28
        refine j_tableIn (pc := 33) (t := 970) (off := 937) dL_law_33 (by rw [c33_28]; decide) (by rw [c33_28]; decide) (by rw [c33_28]; rfl) (by decide) ?_
        refine j_aload_n (pc := 970) dL_law_970 rfl ?_
        refine j_aload_n (pc := 971) dL_law_971 rfl ?_
        refine j_iload_n (pc := 972) dL_law_972 rfl ?_
        refine j_iconst (pc := 973) (v := 1) dL_law_973 (by decide) ?_
        refine j_iadd (pc := 974) dL_law_974 ?_
        have b975 := H.1
        replace H := H.2
        refine j_sldv (pc := 975) dL_law_975 b975 ?_
        refine j_aload_n (pc := 976) dL_law_976 rfl ?_
        refine j_iload_n (pc := 977) dL_law_977 rfl ?_
        refine j_iconst (pc := 978) (v := 2) dL_law_978 (by decide) ?_
        refine j_iadd (pc := 979) dL_law_979 ?_
        have b980 := H.1
        replace H := H.2
        refine j_sldv (pc := 980) dL_law_980 b980 ?_
        refine j_aload_n (pc := 981) dL_law_981 rfl ?_
        refine j_iload_n (pc := 982) dL_law_982 rfl ?_
        refine j_iconst (pc := 983) (v := 3) dL_law_983 (by decide) ?_
        refine j_iadd (pc := 984) dL_law_984 ?_
        have b985 := H.1
        replace H := H.2
        refine j_sldv (pc := 985) dL_law_985 b985 ?_
        refine s_callV_i (pc := 986) (M1 := M_X11_act) (n := 3) (as := [.int (sc g (x3 + 1)), .int (sc g (x3 + 2)), .int (sc g (x3 + 3))]) (a := 0) (st := []) dL_law_986 G_X11_act wm_L_130 (by decide +kernel) rfl (Nat.le_of_ble_eq_true rfl) shp_0 rfl (by show 1 ≤ d; omega) (Nat.le_of_ble_eq_true rfl) (Nat.le_refl _) (Nat.le_refl _) ?_
        refine CI.mono H (fun r57 σ57 H => ?_)
        refine j_aload_n (pc := 989) dL_law_989 rfl ?_
        refine j_aload_n (pc := 990) dL_law_990 rfl ?_
        refine j_iload_n (pc := 991) dL_law_991 rfl ?_
        refine j_iconst (pc := 992) (v := 1) dL_law_992 (by decide) ?_
        refine j_iadd (pc := 993) dL_law_993 ?_
        have b994 := H.1
        replace H := H.2
        refine j_sldv (pc := 994) dL_law_994 b994 ?_
        refine j_aload_n (pc := 995) dL_law_995 rfl ?_
        refine j_iload_n (pc := 996) dL_law_996 rfl ?_
        refine j_iconst (pc := 997) (v := 2) dL_law_997 (by decide) ?_
        refine j_iadd (pc := 998) dL_law_998 ?_
        have b999 := H.1
        replace H := H.2
        refine j_sldv (pc := 999) dL_law_999 b999 ?_
        refine j_aload_n (pc := 1000) dL_law_1000 rfl ?_
        refine j_iload_n (pc := 1001) dL_law_1001 rfl ?_
        refine j_iconst (pc := 1002) (v := 3) dL_law_1002 (by decide) ?_
        refine j_iadd (pc := 1003) dL_law_1003 ?_
        have b1004 := H.1
        replace H := H.2
        refine j_sldv (pc := 1004) dL_law_1004 b1004 ?_
        refine s_callV_i (pc := 1005) (M1 := M_X12_act) (n := 3) (as := [.int (sc g (x3 + 1)), .int (sc g (x3 + 2)), .int (sc g (x3 + 3))]) (a := 55) (st := [.int r57]) dL_law_1005 G_X12_act wm_L_133 (by decide +kernel) rfl (Nat.le_of_ble_eq_true rfl) shp_55 rfl (by show 1 ≤ d; omega) (Nat.le_of_ble_eq_true rfl) (Nat.le_refl _) (Nat.le_refl _) ?_
        refine CI.mono H (fun r58 σ58 H => ?_)
        refine j_icmp_eq (pc := 1008) (t := 1338) dL_law_1008 (by decide) (fun c1008 => ?_) (fun c1008 => ?_)
        · replace H := H.1 c1008
          refine j_iinc (pc := 1338) (k := 3) (v := x3 + 6) (lv1 := [(3, .int (x3 + 6)), (0, .ref 1000), (1, .ref 0), (2, .ref 55)]) dL_law_1338 rfl rfl (Nat.le_of_ble_eq_true rfl) rfl ?_
          refine j_goto (pc := 1341) (t := 18) dL_law_1341 (by decide) ?_
          refine j_sub [1, 2, 3, 0] rfl ?_
          exact H
        · replace H := H.2 c1008
          refine j_iconst (pc := 1011) (v := 0) dL_law_1011 (by decide) ?_
          exact s_iretz (pc := 1012) dL_law_1012 rfl rfl H
      by_cases c33_29 : (sc g x3) &&& 63 = 29
      · replace H := H.2.2.2.2.2.2.2.2.2.2.2.2.2.2.2.2.2.2.2.2.2.2.2.2.2.2.2.2.2.1 c33_29
        refine j_tableIn (pc := 33) (t := 1013) (off := 980) dL_law_33 (by rw [c33_29]; decide) (by rw [c33_29]; decide) (by rw [c33_29]; rfl) (by decide) ?_
        refine j_aload_n (pc := 1013) dL_law_1013 rfl ?_
        refine j_aload_n (pc := 1014) dL_law_1014 rfl ?_
        refine j_iload_n (pc := 1015) dL_law_1015 rfl ?_
        refine j_iconst (pc := 1016) (v := 1) dL_law_1016 (by decide) ?_
        refine j_iadd (pc := 1017) dL_law_1017 ?_
        have b1018 := H.1
        replace H := H.2
        refine j_sldv (pc := 1018) dL_law_1018 b1018 ?_
        refine s_callV_i (pc := 1019) (M1 := M_X11_trace) (n := 1) (as := [.int (sc g (x3 + 1))]) (a := 0) (st := []) dL_law_1019 G_X11_trace wm_L_134 (by decide +kernel) rfl (Nat.le_of_ble_eq_true rfl) shp_0 rfl (by show 1 ≤ d; omega) (Nat.le_of_ble_eq_true rfl) (Nat.le_refl _) (Nat.le_refl _) ?_
        refine CI.mono H (fun r59 σ59 H => ?_)
        refine j_aload_n (pc := 1022) dL_law_1022 rfl ?_
        refine j_aload_n (pc := 1023) dL_law_1023 rfl ?_
        refine j_iload_n (pc := 1024) dL_law_1024 rfl ?_
        refine j_iconst (pc := 1025) (v := 1) dL_law_1025 (by decide) ?_
        refine j_iadd (pc := 1026) dL_law_1026 ?_
        have b1027 := H.1
        replace H := H.2
        refine j_sldv (pc := 1027) dL_law_1027 b1027 ?_
        refine s_callV_i (pc := 1028) (M1 := M_X12_trace) (n := 1) (as := [.int (sc g (x3 + 1))]) (a := 55) (st := [.int r59]) dL_law_1028 G_X12_trace wm_L_137 (by decide +kernel) rfl (Nat.le_of_ble_eq_true rfl) shp_55 rfl (by show 1 ≤ d; omega) (Nat.le_of_ble_eq_true rfl) (Nat.le_refl _) (Nat.le_refl _) ?_
        refine CI.mono H (fun r60 σ60 H => ?_)
        refine j_icmp_eq (pc := 1031) (t := 1338) dL_law_1031 (by decide) (fun c1031 => ?_) (fun c1031 => ?_)
        · replace H := H.1 c1031
          refine j_iinc (pc := 1338) (k := 3) (v := x3 + 6) (lv1 := [(3, .int (x3 + 6)), (0, .ref 1000), (1, .ref 0), (2, .ref 55)]) dL_law_1338 rfl rfl (Nat.le_of_ble_eq_true rfl) rfl ?_
          refine j_goto (pc := 1341) (t := 18) dL_law_1341 (by decide) ?_
          refine j_sub [1, 2, 3, 0] rfl ?_
          exact H
        · replace H := H.2 c1031
          refine j_iconst (pc := 1034) (v := 0) dL_law_1034 (by decide) ?_
          exact s_iretz (pc := 1035) dL_law_1035 rfl rfl H
      by_cases c33_30 : (sc g x3) &&& 63 = 30
      · replace H := H.2.2.2.2.2.2.2.2.2.2.2.2.2.2.2.2.2.2.2.2.2.2.2.2.2.2.2.2.2.2.1 c33_30
        refine j_tableIn (pc := 33) (t := 1036) (off := 1003) dL_law_33 (by rw [c33_30]; decide) (by rw [c33_30]; decide) (by rw [c33_30]; rfl) (by decide) ?_
        refine j_aload_n (pc := 1036) dL_law_1036 rfl ?_
        refine j_aload_n (pc := 1037) dL_law_1037 rfl ?_
        refine j_iload_n (pc := 1038) dL_law_1038 rfl ?_
        refine j_iconst (pc := 1039) (v := 1) dL_law_1039 (by decide) ?_
        refine j_iadd (pc := 1040) dL_law_1040 ?_
        have b1041 := H.1
        replace H := H.2
        refine j_sldv (pc := 1041) dL_law_1041 b1041 ?_
        refine j_aload_n (pc := 1042) dL_law_1042 rfl ?_
        refine j_iload_n (pc := 1043) dL_law_1043 rfl ?_
        refine j_iconst (pc := 1044) (v := 2) dL_law_1044 (by decide) ?_
        refine j_iadd (pc := 1045) dL_law_1045 ?_
        have b1046 := H.1
        replace H := H.2
        refine j_sldv (pc := 1046) dL_law_1046 b1046 ?_
        refine s_callV_i (pc := 1047) (M1 := M_X11_keep) (n := 2) (as := [.int (sc g (x3 + 1)), .int (sc g (x3 + 2))]) (a := 0) (st := []) dL_law_1047 G_X11_keep wm_L_138 (by decide +kernel) rfl (Nat.le_of_ble_eq_true rfl) shp_0 rfl (by show 1 ≤ d; omega) (Nat.le_of_ble_eq_true rfl) (Nat.le_refl _) (Nat.le_refl _) ?_
        refine CI.mono H (fun r61 σ61 H => ?_)
        refine j_aload_n (pc := 1050) dL_law_1050 rfl ?_
        refine j_aload_n (pc := 1051) dL_law_1051 rfl ?_
        refine j_iload_n (pc := 1052) dL_law_1052 rfl ?_
        refine j_iconst (pc := 1053) (v := 1) dL_law_1053 (by decide) ?_
        refine j_iadd (pc := 1054) dL_law_1054 ?_
        have b1055 := H.1
        replace H := H.2
        refine j_sldv (pc := 1055) dL_law_1055 b1055 ?_
        refine j_aload_n (pc := 1056) dL_law_1056 rfl ?_
        refine j_iload_n (pc := 1057) dL_law_1057 rfl ?_
        refine j_iconst (pc := 1058) (v := 2) dL_law_1058 (by decide) ?_
        refine j_iadd (pc := 1059) dL_law_1059 ?_
        have b1060 := H.1
        replace H := H.2
        refine j_sldv (pc := 1060) dL_law_1060 b1060 ?_
        refine s_callV_i (pc := 1061) (M1 := M_X12_keep) (n := 2) (as := [.int (sc g (x3 + 1)), .int (sc g (x3 + 2))]) (a := 55) (st := [.int r61]) dL_law_1061 G_X12_keep wm_L_141 (by decide +kernel) rfl (Nat.le_of_ble_eq_true rfl) shp_55 rfl (by show 1 ≤ d; omega) (Nat.le_of_ble_eq_true rfl) (Nat.le_refl _) (Nat.le_refl _) ?_
        refine CI.mono H (fun r62 σ62 H => ?_)
        refine j_icmp_eq (pc := 1064) (t := 1338) dL_law_1064 (by decide) (fun c1064 => ?_) (fun c1064 => ?_)
        · replace H := H.1 c1064
          refine j_iinc (pc := 1338) (k := 3) (v := x3 + 6) (lv1 := [(3, .int (x3 + 6)), (0, .ref 1000), (1, .ref 0), (2, .ref 55)]) dL_law_1338 rfl rfl (Nat.le_of_ble_eq_true rfl) rfl ?_
          refine j_goto (pc := 1341) (t := 18) dL_law_1341 (by decide) ?_
          refine j_sub [1, 2, 3, 0] rfl ?_
          exact H
        · replace H := H.2 c1064
          refine j_iconst (pc := 1067) (v := 0) dL_law_1067 (by decide) ?_
          exact s_iretz (pc := 1068) dL_law_1068 rfl rfl H
      by_cases c33_31 : (sc g x3) &&& 63 = 31
      · replace H := H.2.2.2.2.2.2.2.2.2.2.2.2.2.2.2.2.2.2.2.2.2.2.2.2.2.2.2.2.2.2.2.1 c33_31
        refine j_tableIn (pc := 33) (t := 1069) (off := 1036) dL_law_33 (by rw [c33_31]; decide) (by rw [c33_31]; decide) (by rw [c33_31]; rfl) (by decide) ?_
        refine j_aload_n (pc := 1069) dL_law_1069 rfl ?_
        refine j_aload_n (pc := 1070) dL_law_1070 rfl ?_
        refine j_iload_n (pc := 1071) dL_law_1071 rfl ?_
        refine j_iconst (pc := 1072) (v := 1) dL_law_1072 (by decide) ?_
        refine j_iadd (pc := 1073) dL_law_1073 ?_
        have b1074 := H.1
        replace H := H.2
        refine j_sldv (pc := 1074) dL_law_1074 b1074 ?_
        refine j_aload_n (pc := 1075) dL_law_1075 rfl ?_
        refine j_iload_n (pc := 1076) dL_law_1076 rfl ?_
        refine j_iconst (pc := 1077) (v := 2) dL_law_1077 (by decide) ?_
        refine j_iadd (pc := 1078) dL_law_1078 ?_
        have b1079 := H.1
        replace H := H.2
        refine j_sldv (pc := 1079) dL_law_1079 b1079 ?_
        refine j_aload_n (pc := 1080) dL_law_1080 rfl ?_
        refine j_iload_n (pc := 1081) dL_law_1081 rfl ?_
        refine j_iconst (pc := 1082) (v := 3) dL_law_1082 (by decide) ?_
        refine j_iadd (pc := 1083) dL_law_1083 ?_
        have b1084 := H.1
        replace H := H.2
        refine j_sldv (pc := 1084) dL_law_1084 b1084 ?_
        refine s_callV_i (pc := 1085) (M1 := M_X11_row) (n := 3) (as := [.int (sc g (x3 + 1)), .int (sc g (x3 + 2)), .int (sc g (x3 + 3))]) (a := 0) (st := []) dL_law_1085 G_X11_row wm_L_142 (by decide +kernel) rfl (Nat.le_of_ble_eq_true rfl) shp_0 rfl (by show 1 ≤ d; omega) (Nat.le_of_ble_eq_true rfl) (Nat.le_refl _) (Nat.le_refl _) ?_
        refine CI.mono H (fun r63 σ63 H => ?_)
        refine j_aload_n (pc := 1088) dL_law_1088 rfl ?_
        refine j_aload_n (pc := 1089) dL_law_1089 rfl ?_
        refine j_iload_n (pc := 1090) dL_law_1090 rfl ?_
        refine j_iconst (pc := 1091) (v := 1) dL_law_1091 (by decide) ?_
        refine j_iadd (pc := 1092) dL_law_1092 ?_
        have b1093 := H.1
        replace H := H.2
        refine j_sldv (pc := 1093) dL_law_1093 b1093 ?_
        refine j_aload_n (pc := 1094) dL_law_1094 rfl ?_
        refine j_iload_n (pc := 1095) dL_law_1095 rfl ?_
        refine j_iconst (pc := 1096) (v := 2) dL_law_1096 (by decide) ?_
        refine j_iadd (pc := 1097) dL_law_1097 ?_
        have b1098 := H.1
        replace H := H.2
        refine j_sldv (pc := 1098) dL_law_1098 b1098 ?_
        refine j_aload_n (pc := 1099) dL_law_1099 rfl ?_
        refine j_iload_n (pc := 1100) dL_law_1100 rfl ?_
        refine j_iconst (pc := 1101) (v := 3) dL_law_1101 (by decide) ?_
        refine j_iadd (pc := 1102) dL_law_1102 ?_
        have b1103 := H.1
        replace H := H.2
        refine j_sldv (pc := 1103) dL_law_1103 b1103 ?_
        refine s_callV_i (pc := 1104) (M1 := M_X12_row) (n := 3) (as := [.int (sc g (x3 + 1)), .int (sc g (x3 + 2)), .int (sc g (x3 + 3))]) (a := 55) (st := [.int r63]) dL_law_1104 G_X12_row wm_L_145 (by decide +kernel) rfl (Nat.le_of_ble_eq_true rfl) shp_55 rfl (by show 1 ≤ d; omega) (Nat.le_of_ble_eq_true rfl) (Nat.le_refl _) (Nat.le_refl _) ?_
        refine CI.mono H (fun r64 σ64 H => ?_)
        refine j_icmp_eq (pc := 1107) (t := 1338) dL_law_1107 (by decide) (fun c1107 => ?_) (fun c1107 => ?_)
        · replace H := H.1 c1107
          refine j_iinc (pc := 1338) (k := 3) (v := x3 + 6) (lv1 := [(3, .int (x3 + 6)), (0, .ref 1000), (1, .ref 0), (2, .ref 55)]) dL_law_1338 rfl rfl (Nat.le_of_ble_eq_true rfl) rfl ?_
          refine j_goto (pc := 1341) (t := 18) dL_law_1341 (by decide) ?_
          refine j_sub [1, 2, 3, 0] rfl ?_
          exact H
        · replace H := H.2 c1107
          refine j_iconst (pc := 1110) (v := 0) dL_law_1110 (by decide) ?_
          exact s_iretz (pc := 1111) dL_law_1111 rfl rfl H
      by_cases c33_32 : (sc g x3) &&& 63 = 32
      · replace H := H.2.2.2.2.2.2.2.2.2.2.2.2.2.2.2.2.2.2.2.2.2.2.2.2.2.2.2.2.2.2.2.2.1 c33_32
        refine j_tableIn (pc := 33) (t := 1112) (off := 1079) dL_law_33 (by rw [c33_32]; decide) (by rw [c33_32]; decide) (by rw [c33_32]; rfl) (by decide) ?_
        refine j_aload_n (pc := 1112) dL_law_1112 rfl ?_
        refine j_aload_n (pc := 1113) dL_law_1113 rfl ?_
        refine j_iload_n (pc := 1114) dL_law_1114 rfl ?_
        refine j_iconst (pc := 1115) (v := 1) dL_law_1115 (by decide) ?_
        refine j_iadd (pc := 1116) dL_law_1116 ?_
        have b1117 := H.1
        replace H := H.2
        refine j_sldv (pc := 1117) dL_law_1117 b1117 ?_
        refine j_aload_n (pc := 1118) dL_law_1118 rfl ?_
        refine j_iload_n (pc := 1119) dL_law_1119 rfl ?_
        refine j_iconst (pc := 1120) (v := 2) dL_law_1120 (by decide) ?_
        refine j_iadd (pc := 1121) dL_law_1121 ?_
        have b1122 := H.1
        replace H := H.2
        refine j_sldv (pc := 1122) dL_law_1122 b1122 ?_
        refine j_aload_n (pc := 1123) dL_law_1123 rfl ?_
        refine j_iload_n (pc := 1124) dL_law_1124 rfl ?_
        refine j_iconst (pc := 1125) (v := 3) dL_law_1125 (by decide) ?_
        refine j_iadd (pc := 1126) dL_law_1126 ?_
        have b1127 := H.1
        replace H := H.2
        refine j_sldv (pc := 1127) dL_law_1127 b1127 ?_
        refine j_i2l (pc := 1128) dL_law_1128 ?_
        refine j_bipush (pc := 1129) (v := 32) dL_law_1129 (by decide) ?_
        refine j_lshl (pc := 1131) dL_law_1131 ?_
        refine j_aload_n (pc := 1132) dL_law_1132 rfl ?_
        refine j_iload_n (pc := 1133) dL_law_1133 rfl ?_
        refine j_iconst (pc := 1134) (v := 4) dL_law_1134 (by decide) ?_
        refine j_iadd (pc := 1135) dL_law_1135 ?_
        have b1136 := H.1
        replace H := H.2
        refine j_sldv (pc := 1136) dL_law_1136 b1136 ?_
        refine j_i2l (pc := 1137) dL_law_1137 ?_
        refine j_ldc2 (pc := 1138) dL_law_1138 wk_L_146 ?_
        refine j_land (pc := 1141) dL_law_1141 ?_
        refine j_lor (pc := 1142) dL_law_1142 ?_
        refine s_callV_i (pc := 1143) (M1 := M_X11_put) (n := 3) (as := [.int (sc g (x3 + 1)), .int (sc g (x3 + 2)), .long ((((sc g (x3 + 3)).toInt64) <<< ((32 : Int32).toInt64 &&& 63)) ||| (((sc g (x3 + 4)).toInt64) &&& 4294967295))]) (a := 0) (st := []) dL_law_1143 G_X11_put wm_L_148 (by decide +kernel) rfl (Nat.le_of_ble_eq_true rfl) shp_0 rfl (by show 1 ≤ d; omega) (Nat.le_of_ble_eq_true rfl) (Nat.le_refl _) (Nat.le_refl _) ?_
        refine CI.mono H (fun r65 σ65 H => ?_)
        refine j_aload_n (pc := 1146) dL_law_1146 rfl ?_
        refine j_aload_n (pc := 1147) dL_law_1147 rfl ?_
        refine j_iload_n (pc := 1148) dL_law_1148 rfl ?_
        refine j_iconst (pc := 1149) (v := 1) dL_law_1149 (by decide) ?_
        refine j_iadd (pc := 1150) dL_law_1150 ?_
        have b1151 := H.1
        replace H := H.2
        refine j_sldv (pc := 1151) dL_law_1151 b1151 ?_
        refine j_aload_n (pc := 1152) dL_law_1152 rfl ?_
        refine j_iload_n (pc := 1153) dL_law_1153 rfl ?_
        refine j_iconst (pc := 1154) (v := 2) dL_law_1154 (by decide) ?_
        refine j_iadd (pc := 1155) dL_law_1155 ?_
        have b1156 := H.1
        replace H := H.2
        refine j_sldv (pc := 1156) dL_law_1156 b1156 ?_
        refine j_aload_n (pc := 1157) dL_law_1157 rfl ?_
        refine j_iload_n (pc := 1158) dL_law_1158 rfl ?_
        refine j_iconst (pc := 1159) (v := 3) dL_law_1159 (by decide) ?_
        refine j_iadd (pc := 1160) dL_law_1160 ?_
        have b1161 := H.1
        replace H := H.2
        refine j_sldv (pc := 1161) dL_law_1161 b1161 ?_
        refine j_i2l (pc := 1162) dL_law_1162 ?_
        refine j_bipush (pc := 1163) (v := 32) dL_law_1163 (by decide) ?_
        refine j_lshl (pc := 1165) dL_law_1165 ?_
        refine j_aload_n (pc := 1166) dL_law_1166 rfl ?_
        refine j_iload_n (pc := 1167) dL_law_1167 rfl ?_
        refine j_iconst (pc := 1168) (v := 4) dL_law_1168 (by decide) ?_
        refine j_iadd (pc := 1169) dL_law_1169 ?_
        have b1170 := H.1
        replace H := H.2
        refine j_sldv (pc := 1170) dL_law_1170 b1170 ?_
        refine j_i2l (pc := 1171) dL_law_1171 ?_
        refine j_ldc2 (pc := 1172) dL_law_1172 wk_L_146 ?_
        refine j_land (pc := 1175) dL_law_1175 ?_
        refine j_lor (pc := 1176) dL_law_1176 ?_
        refine s_callV_i (pc := 1177) (M1 := M_X12_put) (n := 3) (as := [.int (sc g (x3 + 1)), .int (sc g (x3 + 2)), .long ((((sc g (x3 + 3)).toInt64) <<< ((32 : Int32).toInt64 &&& 63)) ||| (((sc g (x3 + 4)).toInt64) &&& 4294967295))]) (a := 55) (st := [.int r65]) dL_law_1177 G_X12_put wm_L_152 (by decide +kernel) rfl (Nat.le_of_ble_eq_true rfl) shp_55 rfl (by show 1 ≤ d; omega) (Nat.le_of_ble_eq_true rfl) (Nat.le_refl _) (Nat.le_refl _) ?_
        refine CI.mono H (fun r66 σ66 H => ?_)
        refine j_icmp_eq (pc := 1180) (t := 1338) dL_law_1180 (by decide) (fun c1180 => ?_) (fun c1180 => ?_)
        · replace H := H.1 c1180
          refine j_iinc (pc := 1338) (k := 3) (v := x3 + 6) (lv1 := [(3, .int (x3 + 6)), (0, .ref 1000), (1, .ref 0), (2, .ref 55)]) dL_law_1338 rfl rfl (Nat.le_of_ble_eq_true rfl) rfl ?_
          refine j_goto (pc := 1341) (t := 18) dL_law_1341 (by decide) ?_
          refine j_sub [1, 2, 3, 0] rfl ?_
          exact H
        · replace H := H.2 c1180
          refine j_iconst (pc := 1183) (v := 0) dL_law_1183 (by decide) ?_
          exact s_iretz (pc := 1184) dL_law_1184 rfl rfl H
      by_cases c33_33 : (sc g x3) &&& 63 = 33
      · replace H := H.2.2.2.2.2.2.2.2.2.2.2.2.2.2.2.2.2.2.2.2.2.2.2.2.2.2.2.2.2.2.2.2.2.1 c33_33
        refine j_tableIn (pc := 33) (t := 1185) (off := 1152) dL_law_33 (by rw [c33_33]; decide) (by rw [c33_33]; decide) (by rw [c33_33]; rfl) (by decide) ?_
        refine j_aload_n (pc := 1185) dL_law_1185 rfl ?_
        refine j_aload_n (pc := 1186) dL_law_1186 rfl ?_
        refine j_iload_n (pc := 1187) dL_law_1187 rfl ?_
        refine j_iconst (pc := 1188) (v := 1) dL_law_1188 (by decide) ?_
        refine j_iadd (pc := 1189) dL_law_1189 ?_
        have b1190 := H.1
        replace H := H.2
        refine j_sldv (pc := 1190) dL_law_1190 b1190 ?_
        refine j_aload_n (pc := 1191) dL_law_1191 rfl ?_
        refine j_iload_n (pc := 1192) dL_law_1192 rfl ?_
        refine j_iconst (pc := 1193) (v := 2) dL_law_1193 (by decide) ?_
        refine j_iadd (pc := 1194) dL_law_1194 ?_
        have b1195 := H.1
        replace H := H.2
        refine j_sldv (pc := 1195) dL_law_1195 b1195 ?_
        refine s_callV_l (pc := 1196) (M1 := M_X11_element) (n := 2) (as := [.int (sc g (x3 + 1)), .int (sc g (x3 + 2))]) (a := 0) (st := []) dL_law_1196 G_X11_element wm_L_153 (by decide +kernel) rfl (Nat.le_of_ble_eq_true rfl) shp_0 rfl (by show 1 ≤ d; omega) (Nat.le_of_ble_eq_true rfl) (Nat.le_refl _) (Nat.le_refl _) ?_
        refine CL.mono H (fun r67 σ67 H => ?_)
        refine j_aload_n (pc := 1199) dL_law_1199 rfl ?_
        refine j_aload_n (pc := 1200) dL_law_1200 rfl ?_
        refine j_iload_n (pc := 1201) dL_law_1201 rfl ?_
        refine j_iconst (pc := 1202) (v := 1) dL_law_1202 (by decide) ?_
        refine j_iadd (pc := 1203) dL_law_1203 ?_
        have b1204 := H.1
        replace H := H.2
        refine j_sldv (pc := 1204) dL_law_1204 b1204 ?_
        refine j_aload_n (pc := 1205) dL_law_1205 rfl ?_
        refine j_iload_n (pc := 1206) dL_law_1206 rfl ?_
        refine j_iconst (pc := 1207) (v := 2) dL_law_1207 (by decide) ?_
        refine j_iadd (pc := 1208) dL_law_1208 ?_
        have b1209 := H.1
        replace H := H.2
        refine j_sldv (pc := 1209) dL_law_1209 b1209 ?_
        refine s_callV_l (pc := 1210) (M1 := M_X12_element) (n := 2) (as := [.int (sc g (x3 + 1)), .int (sc g (x3 + 2))]) (a := 55) (st := [.long r67]) dL_law_1210 G_X12_element wm_L_157 (by decide +kernel) rfl (Nat.le_of_ble_eq_true rfl) shp_55 rfl (by show 1 ≤ d; omega) (Nat.le_of_ble_eq_true rfl) (Nat.le_refl _) (Nat.le_refl _) ?_
        refine CL.mono H (fun r68 σ68 H => ?_)
        refine j_lcmp (pc := 1213) dL_law_1213 ?_
        refine j_if_eq (pc := 1214) (t := 1338) dL_law_1214 (by decide) (fun c1214 => ?_) (fun c1214 => ?_)
        · replace H := H.1 c1214
          refine j_iinc (pc := 1338) (k := 3) (v := x3 + 6) (lv1 := [(3, .int (x3 + 6)), (0, .ref 1000), (1, .ref 0), (2, .ref 55)]) dL_law_1338 rfl rfl (Nat.le_of_ble_eq_true rfl) rfl ?_
          refine j_goto (pc := 1341) (t := 18) dL_law_1341 (by decide) ?_
          refine j_sub [1, 2, 3, 0] rfl ?_
          exact H
        · replace H := H.2 c1214
          refine j_iconst (pc := 1217) (v := 0) dL_law_1217 (by decide) ?_
          exact s_iretz (pc := 1218) dL_law_1218 rfl rfl H
      by_cases c33_34 : (sc g x3) &&& 63 = 34
      · replace H := H.2.2.2.2.2.2.2.2.2.2.2.2.2.2.2.2.2.2.2.2.2.2.2.2.2.2.2.2.2.2.2.2.2.2.1 c33_34
        refine j_tableIn (pc := 33) (t := 1219) (off := 1186) dL_law_33 (by rw [c33_34]; decide) (by rw [c33_34]; decide) (by rw [c33_34]; rfl) (by decide) ?_
        refine j_aload_n (pc := 1219) dL_law_1219 rfl ?_
        refine j_aload_n (pc := 1220) dL_law_1220 rfl ?_
        refine j_iload_n (pc := 1221) dL_law_1221 rfl ?_
        refine j_iconst (pc := 1222) (v := 1) dL_law_1222 (by decide) ?_
        refine j_iadd (pc := 1223) dL_law_1223 ?_
        have b1224 := H.1
        replace H := H.2
        refine j_sldv (pc := 1224) dL_law_1224 b1224 ?_
        refine j_aload_n (pc := 1225) dL_law_1225 rfl ?_
        refine j_iload_n (pc := 1226) dL_law_1226 rfl ?_
        refine j_iconst (pc := 1227) (v := 2) dL_law_1227 (by decide) ?_
        refine j_iadd (pc := 1228) dL_law_1228 ?_
        have b1229 := H.1
        replace H := H.2
        refine j_sldv (pc := 1229) dL_law_1229 b1229 ?_
        refine j_aload_n (pc := 1230) dL_law_1230 rfl ?_
        refine j_iload_n (pc := 1231) dL_law_1231 rfl ?_
        refine j_iconst (pc := 1232) (v := 3) dL_law_1232 (by decide) ?_
        refine j_iadd (pc := 1233) dL_law_1233 ?_
        have b1234 := H.1
        replace H := H.2
        refine j_sldv (pc := 1234) dL_law_1234 b1234 ?_
        refine j_aload_n (pc := 1235) dL_law_1235 rfl ?_
        refine j_iload_n (pc := 1236) dL_law_1236 rfl ?_
        refine j_iconst (pc := 1237) (v := 4) dL_law_1237 (by decide) ?_
        refine j_iadd (pc := 1238) dL_law_1238 ?_
        have b1239 := H.1
        replace H := H.2
        refine j_sldv (pc := 1239) dL_law_1239 b1239 ?_
        refine j_aload_n (pc := 1240) dL_law_1240 rfl ?_
        refine j_iload_n (pc := 1241) dL_law_1241 rfl ?_
        refine j_iconst (pc := 1242) (v := 5) dL_law_1242 (by decide) ?_
        refine j_iadd (pc := 1243) dL_law_1243 ?_
        have b1244 := H.1
        replace H := H.2
        refine j_sldv (pc := 1244) dL_law_1244 b1244 ?_
        refine s_callV_i (pc := 1245) (M1 := M_X11_shift) (n := 5) (as := [.int (sc g (x3 + 1)), .int (sc g (x3 + 2)), .int (sc g (x3 + 3)), .int (sc g (x3 + 4)), .int (sc g (x3 + 5))]) (a := 0) (st := []) dL_law_1245 G_X11_shift wm_L_158 (by decide +kernel) rfl (Nat.le_of_ble_eq_true rfl) shp_0 rfl (by show 1 ≤ d; omega) (Nat.le_of_ble_eq_true rfl) (Nat.le_refl _) (Nat.le_refl _) ?_
        refine CI.mono H (fun r69 σ69 H => ?_)
        refine j_aload_n (pc := 1248) dL_law_1248 rfl ?_
        refine j_aload_n (pc := 1249) dL_law_1249 rfl ?_
        refine j_iload_n (pc := 1250) dL_law_1250 rfl ?_
        refine j_iconst (pc := 1251) (v := 1) dL_law_1251 (by decide) ?_
        refine j_iadd (pc := 1252) dL_law_1252 ?_
        have b1253 := H.1
        replace H := H.2
        refine j_sldv (pc := 1253) dL_law_1253 b1253 ?_
        refine j_aload_n (pc := 1254) dL_law_1254 rfl ?_
        refine j_iload_n (pc := 1255) dL_law_1255 rfl ?_
        refine j_iconst (pc := 1256) (v := 2) dL_law_1256 (by decide) ?_
        refine j_iadd (pc := 1257) dL_law_1257 ?_
        have b1258 := H.1
        replace H := H.2
        refine j_sldv (pc := 1258) dL_law_1258 b1258 ?_
        refine j_aload_n (pc := 1259) dL_law_1259 rfl ?_
        refine j_iload_n (pc := 1260) dL_law_1260 rfl ?_
        refine j_iconst (pc := 1261) (v := 3) dL_law_1261 (by decide) ?_
        refine j_iadd (pc := 1262) dL_law_1262 ?_
        have b1263 := H.1
        replace H := H.2
        refine j_sldv (pc := 1263) dL_law_1263 b1263 ?_
        refine j_aload_n (pc := 1264) dL_law_1264 rfl ?_
        refine j_iload_n (pc := 1265) dL_law_1265 rfl ?_
        refine j_iconst (pc := 1266) (v := 4) dL_law_1266 (by decide) ?_
        refine j_iadd (pc := 1267) dL_law_1267 ?_
        have b1268 := H.1
        replace H := H.2
        refine j_sldv (pc := 1268) dL_law_1268 b1268 ?_
        refine j_aload_n (pc := 1269) dL_law_1269 rfl ?_
        refine j_iload_n (pc := 1270) dL_law_1270 rfl ?_
        refine j_iconst (pc := 1271) (v := 5) dL_law_1271 (by decide) ?_
        refine j_iadd (pc := 1272) dL_law_1272 ?_
        have b1273 := H.1
        replace H := H.2
        refine j_sldv (pc := 1273) dL_law_1273 b1273 ?_
        refine s_callV_i (pc := 1274) (M1 := M_X12_shift) (n := 5) (as := [.int (sc g (x3 + 1)), .int (sc g (x3 + 2)), .int (sc g (x3 + 3)), .int (sc g (x3 + 4)), .int (sc g (x3 + 5))]) (a := 55) (st := [.int r69]) dL_law_1274 G_X12_shift wm_L_162 (by decide +kernel) rfl (Nat.le_of_ble_eq_true rfl) shp_55 rfl (by show 1 ≤ d; omega) (Nat.le_of_ble_eq_true rfl) (Nat.le_refl _) (Nat.le_refl _) ?_
        refine CI.mono H (fun r70 σ70 H => ?_)
        refine j_icmp_eq (pc := 1277) (t := 1338) dL_law_1277 (by decide) (fun c1277 => ?_) (fun c1277 => ?_)
        · replace H := H.1 c1277
          refine j_iinc (pc := 1338) (k := 3) (v := x3 + 6) (lv1 := [(3, .int (x3 + 6)), (0, .ref 1000), (1, .ref 0), (2, .ref 55)]) dL_law_1338 rfl rfl (Nat.le_of_ble_eq_true rfl) rfl ?_
          refine j_goto (pc := 1341) (t := 18) dL_law_1341 (by decide) ?_
          refine j_sub [1, 2, 3, 0] rfl ?_
          exact H
        · replace H := H.2 c1277
          refine j_iconst (pc := 1280) (v := 0) dL_law_1280 (by decide) ?_
          exact s_iretz (pc := 1281) dL_law_1281 rfl rfl H
      by_cases c33_35 : (sc g x3) &&& 63 = 35
      · replace H := H.2.2.2.2.2.2.2.2.2.2.2.2.2.2.2.2.2.2.2.2.2.2.2.2.2.2.2.2.2.2.2.2.2.2.2.1 c33_35
        refine j_tableIn (pc := 33) (t := 1282) (off := 1249) dL_law_33 (by rw [c33_35]; decide) (by rw [c33_35]; decide) (by rw [c33_35]; rfl) (by decide) ?_
        refine j_aload_n (pc := 1282) dL_law_1282 rfl ?_
        refine j_aload_n (pc := 1283) dL_law_1283 rfl ?_
        refine j_iload_n (pc := 1284) dL_law_1284 rfl ?_
        refine j_iconst (pc := 1285) (v := 1) dL_law_1285 (by decide) ?_
        refine j_iadd (pc := 1286) dL_law_1286 ?_
        have b1287 := H.1
        replace H := H.2
        refine j_sldv (pc := 1287) dL_law_1287 b1287 ?_
        refine j_aload_n (pc := 1288) dL_law_1288 rfl ?_
        refine j_iload_n (pc := 1289) dL_law_1289 rfl ?_
        refine j_iconst (pc := 1290) (v := 2) dL_law_1290 (by decide) ?_
        refine j_iadd (pc := 1291) dL_law_1291 ?_
        have b1292 := H.1
        replace H := H.2
        refine j_sldv (pc := 1292) dL_law_1292 b1292 ?_
        refine s_callV_i (pc := 1293) (M1 := M_X11_taken) (n := 2) (as := [.int (sc g (x3 + 1)), .int (sc g (x3 + 2))]) (a := 0) (st := []) dL_law_1293 G_X11_taken wm_L_163 (by decide +kernel) rfl (Nat.le_of_ble_eq_true rfl) shp_0 rfl (by show 1 ≤ d; omega) (Nat.le_of_ble_eq_true rfl) (Nat.le_refl _) (Nat.le_refl _) ?_
        refine CI.mono H (fun r71 σ71 H => ?_)
        refine j_aload_n (pc := 1296) dL_law_1296 rfl ?_
        refine j_aload_n (pc := 1297) dL_law_1297 rfl ?_
        refine j_iload_n (pc := 1298) dL_law_1298 rfl ?_
        refine j_iconst (pc := 1299) (v := 1) dL_law_1299 (by decide) ?_
        refine j_iadd (pc := 1300) dL_law_1300 ?_
        have b1301 := H.1
        replace H := H.2
        refine j_sldv (pc := 1301) dL_law_1301 b1301 ?_
        refine j_aload_n (pc := 1302) dL_law_1302 rfl ?_
        refine j_iload_n (pc := 1303) dL_law_1303 rfl ?_
        refine j_iconst (pc := 1304) (v := 2) dL_law_1304 (by decide) ?_
        refine j_iadd (pc := 1305) dL_law_1305 ?_
        have b1306 := H.1
        replace H := H.2
        refine j_sldv (pc := 1306) dL_law_1306 b1306 ?_
        refine s_callV_i (pc := 1307) (M1 := M_X12_taken) (n := 2) (as := [.int (sc g (x3 + 1)), .int (sc g (x3 + 2))]) (a := 55) (st := [.int r71]) dL_law_1307 G_X12_taken wm_L_166 (by decide +kernel) rfl (Nat.le_of_ble_eq_true rfl) shp_55 rfl (by show 1 ≤ d; omega) (Nat.le_of_ble_eq_true rfl) (Nat.le_refl _) (Nat.le_refl _) ?_
        refine CI.mono H (fun r72 σ72 H => ?_)
        refine j_icmp_eq (pc := 1310) (t := 1338) dL_law_1310 (by decide) (fun c1310 => ?_) (fun c1310 => ?_)
        · replace H := H.1 c1310
          refine j_iinc (pc := 1338) (k := 3) (v := x3 + 6) (lv1 := [(3, .int (x3 + 6)), (0, .ref 1000), (1, .ref 0), (2, .ref 55)]) dL_law_1338 rfl rfl (Nat.le_of_ble_eq_true rfl) rfl ?_
          refine j_goto (pc := 1341) (t := 18) dL_law_1341 (by decide) ?_
          refine j_sub [1, 2, 3, 0] rfl ?_
          exact H
        · replace H := H.2 c1310
          refine j_iconst (pc := 1313) (v := 0) dL_law_1313 (by decide) ?_
          exact s_iretz (pc := 1314) dL_law_1314 rfl rfl H
      by_cases c33_36 : (sc g x3) &&& 63 = 36
      · replace H := H.2.2.2.2.2.2.2.2.2.2.2.2.2.2.2.2.2.2.2.2.2.2.2.2.2.2.2.2.2.2.2.2.2.2.2.2 c33_36
        refine j_tableIn (pc := 33) (t := 1315) (off := 1282) dL_law_33 (by rw [c33_36]; decide) (by rw [c33_36]; decide) (by rw [c33_36]; rfl) (by decide) ?_
        refine j_aload_n (pc := 1315) dL_law_1315 rfl ?_
        refine j_aload_n (pc := 1316) dL_law_1316 rfl ?_
        refine j_iload_n (pc := 1317) dL_law_1317 rfl ?_
        refine j_iconst (pc := 1318) (v := 1) dL_law_1318 (by decide) ?_
        refine j_iadd (pc := 1319) dL_law_1319 ?_
        have b1320 := H.1
        replace H := H.2
        refine j_sldv (pc := 1320) dL_law_1320 b1320 ?_
        refine s_callV_i (pc := 1321) (M1 := M_X11_count) (n := 1) (as := [.int (sc g (x3 + 1))]) (a := 0) (st := []) dL_law_1321 G_X11_count wm_L_167 (by decide +kernel) rfl (Nat.le_of_ble_eq_true rfl) shp_0 rfl (by show 1 ≤ d; omega) (Nat.le_of_ble_eq_true rfl) (Nat.le_refl _) (Nat.le_refl _) ?_
        refine CI.mono H (fun r73 σ73 H => ?_)
        refine j_aload_n (pc := 1324) dL_law_1324 rfl ?_
        refine j_aload_n (pc := 1325) dL_law_1325 rfl ?_
        refine j_iload_n (pc := 1326) dL_law_1326 rfl ?_
        refine j_iconst (pc := 1327) (v := 1) dL_law_1327 (by decide) ?_
        refine j_iadd (pc := 1328) dL_law_1328 ?_
        have b1329 := H.1
        replace H := H.2
        refine j_sldv (pc := 1329) dL_law_1329 b1329 ?_
        refine s_callV_i (pc := 1330) (M1 := M_X12_count) (n := 1) (as := [.int (sc g (x3 + 1))]) (a := 55) (st := [.int r73]) dL_law_1330 G_X12_count wm_L_170 (by decide +kernel) rfl (Nat.le_of_ble_eq_true rfl) shp_55 rfl (by show 1 ≤ d; omega) (Nat.le_of_ble_eq_true rfl) (Nat.le_refl _) (Nat.le_refl _) ?_
        refine CI.mono H (fun r74 σ74 H => ?_)
        refine j_icmp_eq (pc := 1333) (t := 1338) dL_law_1333 (by decide) (fun c1333 => ?_) (fun c1333 => ?_)
        · replace H := H.1 c1333
          refine j_iinc (pc := 1338) (k := 3) (v := x3 + 6) (lv1 := [(3, .int (x3 + 6)), (0, .ref 1000), (1, .ref 0), (2, .ref 55)]) dL_law_1338 rfl rfl (Nat.le_of_ble_eq_true rfl) rfl ?_
          refine j_goto (pc := 1341) (t := 18) dL_law_1341 (by decide) ?_
          refine j_sub [1, 2, 3, 0] rfl ?_
          exact H
        · replace H := H.2 c1333
          refine j_iconst (pc := 1336) (v := 0) dL_law_1336 (by decide) ?_
          exact s_iretz (pc := 1337) dL_law_1337 rfl rfl H
      exact (sw_end_0_36 c33 c33_0 c33_1 c33_2 c33_3 c33_4 c33_5 c33_6 c33_7 c33_8 c33_9 c33_10 c33_11 c33_12 c33_13 c33_14 c33_15 c33_16 c33_17 c33_18 c33_19 c33_20 c33_21 c33_22 c33_23 c33_24 c33_25 c33_26 c33_27 c33_28 c33_29 c33_30 c33_31 c33_32 c33_33 c33_34 c33_35 c33_36).elim
