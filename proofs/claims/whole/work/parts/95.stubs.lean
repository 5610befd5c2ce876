/-! pairs of calls that are not proved yet -/
theorem zz_stubs : True := trivial
theorem P_room {l : Launch} {g : am_G} {d : Nat} {σ : am_S} (hd : 300 ≤ d) (hR : R σ) : PP l g d M_X11_room M_X12_room [] σ := by
  sorry
theorem P_door {l : Launch} {g : am_G} {d : Nat} {σ : am_S} (hd : 300 ≤ d) (hR : R σ) (x1 : Int32) (x2 : Int32): PP l g d M_X11_door M_X12_door [.int x1, .int x2] σ := by
  sorry
theorem P_person {l : Launch} {g : am_G} {d : Nat} {σ : am_S} (hd : 300 ≤ d) (hR : R σ) (x1 : Int32) (x2 : Int32): PP l g d M_X11_person M_X12_person [.int x1, .int x2] σ := by
  sorry
theorem P_people {l : Launch} {g : am_G} {d : Nat} {σ : am_S} (hd : 300 ≤ d) (hR : R σ) (x1 : Int32) (x2 : Int32) (x3 : Int32): PP l g d M_X11_people M_X12_people [.int x1, .int x2, .int x3] σ := by
  sorry
theorem P_mend {l : Launch} {g : am_G} {d : Nat} {σ : am_S} (hd : 300 ≤ d) (hR : R σ) (x1 : Int32) (x2 : Int32) (x3 : Int32): PP l g d M_X11_mend M_X12_mend [.int x1, .int x2, .int x3] σ := by
  sorry
theorem P_wear {l : Launch} {g : am_G} {d : Nat} {σ : am_S} (hd : 300 ≤ d) (hR : R σ) (x1 : Int32): PP l g d M_X11_wear M_X12_wear [.int x1] σ := by
  sorry
theorem P_of {l : Launch} {g : am_G} {d : Nat} {σ : am_S} (hd : 300 ≤ d) (hR : R σ) (x1 : Int32) (x2 : Int32): PP l g d M_X11_of M_X12_of [.int x1, .int x2] σ := by
  sorry
theorem P_feed {l : Launch} {g : am_G} {d : Nat} {σ : am_S} (hd : 300 ≤ d) (hR : R σ) (x1 : Int32): PP l g d M_X11_feed M_X12_feed [.int x1] σ := by
  sorry
theorem P_law {l : Launch} {g : am_G} {d : Nat} {σ : am_S} (hd : 300 ≤ d) (hR : R σ) : PP l g d M_X11_law M_X12_law [] σ := by
  sorry
theorem P_may {l : Launch} {g : am_G} {d : Nat} {σ : am_S} (hd : 300 ≤ d) (hR : R σ) (x1 : Int32) (x2 : Int32): PP l g d M_X11_may M_X12_may [.int x1, .int x2] σ := by
  sorry
theorem P_changes {l : Launch} {g : am_G} {d : Nat} {σ : am_S} (hd : 300 ≤ d) (hR : R σ) (x1 : Int32): PP l g d M_X11_changes M_X12_changes [.int x1] σ := by
  sorry
theorem P_change {l : Launch} {g : am_G} {d : Nat} {σ : am_S} (hd : 300 ≤ d) (hR : R σ) (x1 : Int32) (x2 : Int32): PP l g d M_X11_change M_X12_change [.int x1, .int x2] σ := by
  sorry
theorem P_led {l : Launch} {g : am_G} {d : Nat} {σ : am_S} (hd : 300 ≤ d) (hR : R σ) (x1 : Int32): PP l g d M_X11_led M_X12_led [.int x1] σ := by
  sorry
theorem P_reach {l : Launch} {g : am_G} {d : Nat} {σ : am_S} (hd : 300 ≤ d) (hR : R σ) (x1 : Int32): PP l g d M_X11_reach M_X12_reach [.int x1] σ := by
  sorry
theorem P_canBe {l : Launch} {g : am_G} {d : Nat} {σ : am_S} (hd : 300 ≤ d) (hR : R σ) (x1 : Int32): PP l g d M_X11_canBe M_X12_canBe [.int x1] σ := by
  sorry
theorem P_fewest {l : Launch} {g : am_G} {d : Nat} {σ : am_S} (hd : 300 ≤ d) (hR : R σ) (x1 : Int32) (x2 : Int32) (x3 : Int32): PP l g d M_X11_fewest M_X12_fewest [.int x1, .int x2, .int x3] σ := by
  sorry
theorem P_first {l : Launch} {g : am_G} {d : Nat} {σ : am_S} (hd : 300 ≤ d) (hR : R σ) (x1 : Int32) (x2 : Int32): PP l g d M_X11_first M_X12_first [.int x1, .int x2] σ := by
  sorry
theorem P_turn {l : Launch} {g : am_G} {d : Nat} {σ : am_S} (hd : 300 ≤ d) (hR : R σ) (x1 : Int32) (x2 : Int32): PP l g d M_X11_turn M_X12_turn [.int x1, .int x2] σ := by
  sorry
theorem P_boots {l : Launch} {g : am_G} {d : Nat} {σ : am_S} (hd : 300 ≤ d) (hR : R σ) (x1 : Int32) (x2 : Int32) (x3 : Int32): PP l g d M_X11_boots M_X12_boots [.int x1, .int x2, .int x3] σ := by
  sorry
theorem P_month {l : Launch} {g : am_G} {d : Nat} {σ : am_S} (hd : 300 ≤ d) (hR : R σ) (x1 : Int32) (x2 : Int32): PP l g d M_X11_month M_X12_month [.int x1, .int x2] σ := by
  sorry
theorem P_tries {l : Launch} {g : am_G} {d : Nat} {σ : am_S} (hd : 300 ≤ d) (hR : R σ) (x1 : Int32) (x2 : Int32) (x3 : Int32) (x4 : Int32): PP l g d M_X11_tries M_X12_tries [.int x1, .int x2, .int x3, .int x4] σ := by
  sorry
theorem P_judge {l : Launch} {g : am_G} {d : Nat} {σ : am_S} (hd : 300 ≤ d) (hR : R σ) (x1 : Int32): PP l g d M_X11_judge M_X12_judge [.int x1] σ := by
  sorry
theorem P_seen {l : Launch} {g : am_G} {d : Nat} {σ : am_S} (hd : 300 ≤ d) (hR : R σ) (x1 : Int32): PP l g d M_X11_seen M_X12_seen [.int x1] σ := by
  sorry
theorem P_image {l : Launch} {g : am_G} {d : Nat} {σ : am_S} (hd : 300 ≤ d) (hR : R σ) : PP l g d M_X11_image M_X12_image [] σ := by
  sorry
theorem P_back {l : Launch} {g : am_G} {d : Nat} {σ : am_S} (hd : 300 ≤ d) (hR : R σ) : PP l g d M_X11_back M_X12_back [] σ := by
  sorry
theorem P_undo {l : Launch} {g : am_G} {d : Nat} {σ : am_S} (hd : 300 ≤ d) (hR : R σ) : PP l g d M_X11_undo M_X12_undo [] σ := by
  sorry
theorem P_redo {l : Launch} {g : am_G} {d : Nat} {σ : am_S} (hd : 300 ≤ d) (hR : R σ) : PP l g d M_X11_redo M_X12_redo [] σ := by
  sorry
theorem P_body {l : Launch} {g : am_G} {d : Nat} {σ : am_S} (hd : 300 ≤ d) (hR : R σ) (x1 : Int32): PP l g d M_X11_body M_X12_body [.int x1] σ := by
  sorry
theorem P_act {l : Launch} {g : am_G} {d : Nat} {σ : am_S} (hd : 300 ≤ d) (hR : R σ) (x1 : Int32) (x2 : Int32) (x3 : Int32): PP l g d M_X11_act M_X12_act [.int x1, .int x2, .int x3] σ := by
  sorry
theorem P_trace {l : Launch} {g : am_G} {d : Nat} {σ : am_S} (hd : 300 ≤ d) (hR : R σ) (x1 : Int32): PP l g d M_X11_trace M_X12_trace [.int x1] σ := by
  sorry
theorem P_keep {l : Launch} {g : am_G} {d : Nat} {σ : am_S} (hd : 300 ≤ d) (hR : R σ) (x1 : Int32) (x2 : Int32): PP l g d M_X11_keep M_X12_keep [.int x1, .int x2] σ := by
  sorry
theorem P_row {l : Launch} {g : am_G} {d : Nat} {σ : am_S} (hd : 300 ≤ d) (hR : R σ) (x1 : Int32) (x2 : Int32) (x3 : Int32): PP l g d M_X11_row M_X12_row [.int x1, .int x2, .int x3] σ := by
  sorry
theorem P_put {l : Launch} {g : am_G} {d : Nat} {σ : am_S} (hd : 300 ≤ d) (hR : R σ) (x1 : Int32) (x2 : Int32) (x3 : Int64): PP l g d M_X11_put M_X12_put [.int x1, .int x2, .long x3] σ := by
  sorry
theorem P_element {l : Launch} {g : am_G} {d : Nat} {σ : am_S} (hd : 300 ≤ d) (hR : R σ) (x1 : Int32) (x2 : Int32): PL l g d M_X11_element M_X12_element [.int x1, .int x2] σ := by
  sorry
theorem P_shift {l : Launch} {g : am_G} {d : Nat} {σ : am_S} (hd : 300 ≤ d) (hR : R σ) (x1 : Int32) (x2 : Int32) (x3 : Int32) (x4 : Int32) (x5 : Int32): PP l g d M_X11_shift M_X12_shift [.int x1, .int x2, .int x3, .int x4, .int x5] σ := by
  sorry
theorem P_taken {l : Launch} {g : am_G} {d : Nat} {σ : am_S} (hd : 300 ≤ d) (hR : R σ) (x1 : Int32) (x2 : Int32): PP l g d M_X11_taken M_X12_taken [.int x1, .int x2] σ := by
  sorry
theorem P_count {l : Launch} {g : am_G} {d : Nat} {σ : am_S} (hd : 300 ≤ d) (hR : R σ) (x1 : Int32): PP l g d M_X11_count M_X12_count [.int x1] σ := by
  sorry
