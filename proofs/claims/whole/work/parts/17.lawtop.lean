def pair_thing (E : qE) (I : qW → Prop) : Prop := ∀ (d : Nat) (w : qW) (a1 : Int32) (a2 : Int32) (a3 : Int32) (a4 : Int32) , Sh w → I w → CaI (d + 43) M_Qu_thing [.ref (qb E + 0), .int a1, .int a2, .int a3, .int a4] E w (fun w2 x => CaI (d + 43) M_Mo_thing [.ref (qb E + 115), .int a1, .int a2, .int a3, .int a4] E w2 (fun w4 y => x = y ∧ I w4))
def pair_of (E : qE) (I : qW → Prop) : Prop := ∀ (d : Nat) (w : qW) (a1 : Int32) (a2 : Int32) , Sh w → I w → CaI (d + 43) M_Qu_of [.ref (qb E + 0), .int a1, .int a2] E w (fun w2 x => CaI (d + 43) M_Mo_of [.ref (qb E + 115), .int a1, .int a2] E w2 (fun w4 y => x = y ∧ I w4))
def pair_put (E : qE) (I : qW → Prop) : Prop := ∀ (d : Nat) (w : qW) (a1 : Int32) , Sh w → I w → CaI (d + 43) M_Qu_put [.ref (qb E + 0), .int a1] E w (fun w2 x => CaI (d + 43) M_Mo_put [.ref (qb E + 115), .int a1] E w2 (fun w4 y => x = y ∧ I w4))
def pair_say (E : qE) (I : qW → Prop) : Prop := ∀ (d : Nat) (w : qW) (a1 : Int32) , Sh w → I w → CaI (d + 43) M_Qu_say [.ref (qb E + 0), .int a1] E w (fun w2 x => CaI (d + 43) M_Mo_say [.ref (qb E + 115), .int a1] E w2 (fun w4 y => x = y ∧ I w4))
def pair_weigh (E : qE) (I : qW → Prop) : Prop := ∀ (d : Nat) (w : qW) (a1 : Int32) (a2 : Int32) , Sh w → I w → CaI (d + 43) M_Qu_weigh [.ref (qb E + 0), .int a1, .int a2] E w (fun w2 x => CaI (d + 43) M_Mo_weigh [.ref (qb E + 115), .int a1, .int a2] E w2 (fun w4 y => x = y ∧ I w4))
def pair_fire (E : qE) (I : qW → Prop) : Prop := ∀ (d : Nat) (w : qW) (a1 : Int32) , Sh w → I w → CaI (d + 43) M_Qu_fire [.ref (qb E + 0), .int a1] E w (fun w2 x => CaI (d + 43) M_Mo_fire [.ref (qb E + 115), .int a1] E w2 (fun w4 y => x = y ∧ I w4))
def pair_tip (E : qE) (I : qW → Prop) : Prop := ∀ (d : Nat) (w : qW), Sh w → I w → CaI (d + 43) M_Qu_tip [.ref (qb E + 0)] E w (fun w2 x => CaI (d + 43) M_Mo_tip [.ref (qb E + 115)] E w2 (fun w4 y => x = y ∧ I w4))
def pair_row (E : qE) (I : qW → Prop) : Prop := ∀ (d : Nat) (w : qW) (a1 : Int32) (a2 : Int32) (a3 : Int32) , Sh w → I w → CaI (d + 43) M_Qu_row [.ref (qb E + 0), .int a1, .int a2, .int a3] E w (fun w2 x => CaI (d + 43) M_Mo_row [.ref (qb E + 115), .int a1, .int a2, .int a3] E w2 (fun w4 y => x = y ∧ I w4))
def pair_feed (E : qE) (I : qW → Prop) : Prop := ∀ (d : Nat) (w : qW) (a1 : Int32) , Sh w → I w → CaI (d + 43) M_Qu_feed [.ref (qb E + 0), .int a1] E w (fun w2 x => CaI (d + 43) M_Mo_feed [.ref (qb E + 115), .int a1] E w2 (fun w4 y => x = y ∧ I w4))
def pair_kitchen (E : qE) (I : qW → Prop) : Prop := ∀ (d : Nat) (w : qW), Sh w → I w → CaI (d + 43) M_Qu_kitchen [.ref (qb E + 0)] E w (fun w2 x => CaI (d + 43) M_Mo_kitchen [.ref (qb E + 115)] E w2 (fun w4 y => x = y ∧ I w4))
def pair_told (E : qE) (I : qW → Prop) : Prop := ∀ (d : Nat) (w : qW) (a1 : Int32) , Sh w → I w → CaI (d + 43) M_Qu_told [.ref (qb E + 0), .int a1] E w (fun w2 x => CaI (d + 43) M_Mo_told [.ref (qb E + 115), .int a1] E w2 (fun w4 y => x = y ∧ I w4))
def pair_pass (E : qE) (I : qW → Prop) : Prop := ∀ (d : Nat) (w : qW) (a1 : Int32) , Sh w → I w → CaI (d + 43) M_Qu_pass [.ref (qb E + 0), .int a1] E w (fun w2 x => CaI (d + 43) M_Mo_pass [.ref (qb E + 115), .int a1] E w2 (fun w4 y => x = y ∧ I w4))
def pair_on (E : qE) (I : qW → Prop) : Prop := ∀ (d : Nat) (w : qW) (a1 : Int32) (a2 : Int32) , Sh w → I w → CaI (d + 43) M_Qu_on [.ref (qb E + 0), .int a1, .int a2] E w (fun w2 x => CaI (d + 43) M_Mo_on [.ref (qb E + 115), .int a1, .int a2] E w2 (fun w4 y => x = y ∧ I w4))
def pair_best (E : qE) (I : qW → Prop) : Prop := ∀ (d : Nat) (w : qW) (a1 : Int32) (a2 : Int32) , Sh w → I w → CaI (d + 43) M_Qu_best [.ref (qb E + 0), .int a1, .int a2] E w (fun w2 x => CaI (d + 43) M_Mo_best [.ref (qb E + 115), .int a1, .int a2] E w2 (fun w4 y => x = y ∧ I w4))
def pair_enough (E : qE) (I : qW → Prop) : Prop := ∀ (d : Nat) (w : qW) (a1 : Int32) , Sh w → I w → CaI (d + 43) M_Qu_enough [.ref (qb E + 0), .int a1] E w (fun w2 x => CaI (d + 43) M_Mo_enough [.ref (qb E + 115), .int a1] E w2 (fun w4 y => x = y ∧ I w4))
def pair_flame (E : qE) (I : qW → Prop) : Prop := ∀ (d : Nat) (w : qW) (a1 : Int32) (a2 : Int32) , Sh w → I w → CaI (d + 43) M_Qu_flame [.ref (qb E + 0), .int a1, .int a2] E w (fun w2 x => CaI (d + 43) M_Mo_flame [.ref (qb E + 115), .int a1, .int a2] E w2 (fun w4 y => x = y ∧ I w4))
def pair_see (E : qE) (I : qW → Prop) : Prop := ∀ (d : Nat) (w : qW) (a1 : Int32) (a2 : Int32) , Sh w → I w → CaI (d + 43) M_Qu_see [.ref (qb E + 0), .int a1, .int a2] E w (fun w2 x => CaI (d + 43) M_Mo_see [.ref (qb E + 115), .int a1, .int a2] E w2 (fun w4 y => x = y ∧ I w4))
def pair_can (E : qE) (I : qW → Prop) : Prop := ∀ (d : Nat) (w : qW) (a1 : Int32) (a2 : Int32) , Sh w → I w → CaI (d + 43) M_Qu_can [.ref (qb E + 0), .int a1, .int a2] E w (fun w2 x => CaI (d + 43) M_Mo_can [.ref (qb E + 115), .int a1, .int a2] E w2 (fun w4 y => x = y ∧ I w4))
def pair_odds (E : qE) (I : qW → Prop) : Prop := ∀ (d : Nat) (w : qW) (a1 : Int32) (a2 : Int32) , Sh w → I w → CaL (d + 43) M_Qu_odds [.ref (qb E + 0), .int a1, .int a2] E w (fun w2 x => CaL (d + 43) M_Mo_odds [.ref (qb E + 115), .int a1, .int a2] E w2 (fun w4 y => x = y ∧ I w4))
def pair_mean (E : qE) (I : qW → Prop) : Prop := ∀ (d : Nat) (w : qW) (a1 : Int32) , Sh w → I w → CaL (d + 43) M_Qu_mean [.ref (qb E + 0), .int a1] E w (fun w2 x => CaL (d + 43) M_Mo_mean [.ref (qb E + 115), .int a1] E w2 (fun w4 y => x = y ∧ I w4))
def pair_plan (E : qE) (I : qW → Prop) : Prop := ∀ (d : Nat) (w : qW) (a1 : Int32) (a2 : Int32) , Sh w → I w → CaI (d + 43) M_Qu_plan [.ref (qb E + 0), .int a1, .int a2] E w (fun w2 x => CaI (d + 43) M_Mo_plan [.ref (qb E + 115), .int a1, .int a2] E w2 (fun w4 y => x = y ∧ I w4))
def pair_ends (E : qE) (I : qW → Prop) : Prop := ∀ (d : Nat) (w : qW) (a1 : Int32) , Sh w → I w → CaI (d + 43) M_Qu_ends [.ref (qb E + 0), .int a1] E w (fun w2 x => CaI (d + 43) M_Mo_ends [.ref (qb E + 115), .int a1] E w2 (fun w4 y => x = y ∧ I w4))
def pair_book (E : qE) (I : qW → Prop) : Prop := ∀ (d : Nat) (w : qW) (a1 : Int32) (a2 : Int32) , Sh w → I w → CaI (d + 43) M_Qu_book [.ref (qb E + 0), .int a1, .int a2] E w (fun w2 x => CaI (d + 43) M_Mo_book [.ref (qb E + 115), .int a1, .int a2] E w2 (fun w4 y => x = y ∧ I w4))
def pair_looked (E : qE) (I : qW → Prop) : Prop := ∀ (d : Nat) (w : qW), Sh w → I w → CaI (d + 43) M_Qu_looked [.ref (qb E + 0)] E w (fun w2 x => CaI (d + 43) M_Mo_looked [.ref (qb E + 115)] E w2 (fun w4 y => x = y ∧ I w4))
def pair_judge (E : qE) (I : qW → Prop) : Prop := ∀ (d : Nat) (w : qW) (a1 : Int32) (a2 : Int32) , Sh w → I w → CaI (d + 43) M_Qu_judge [.ref (qb E + 0), .int a1, .int a2] E w (fun w2 x => CaI (d + 43) M_Mo_judge [.ref (qb E + 115), .int a1, .int a2] E w2 (fun w4 y => x = y ∧ I w4))
def pair_image (E : qE) (I : qW → Prop) : Prop := ∀ (d : Nat) (w : qW), Sh w → I w → CaI (d + 43) M_Qu_image [.ref (qb E + 0)] E w (fun w2 x => CaI (d + 43) M_Mo_image [.ref (qb E + 115)] E w2 (fun w4 y => x = y ∧ I w4))
def pair_undo (E : qE) (I : qW → Prop) : Prop := ∀ (d : Nat) (w : qW), Sh w → I w → CaI (d + 43) M_Qu_undo [.ref (qb E + 0)] E w (fun w2 x => CaI (d + 43) M_Mo_undo [.ref (qb E + 115)] E w2 (fun w4 y => x = y ∧ I w4))
def pair_act (E : qE) (I : qW → Prop) : Prop := ∀ (d : Nat) (w : qW) (a1 : Int32) (a2 : Int32) (a3 : Int32) , Sh w → I w → CaI (d + 43) M_Qu_act [.ref (qb E + 0), .int a1, .int a2, .int a3] E w (fun w2 x => CaI (d + 43) M_Mo_act [.ref (qb E + 115), .int a1, .int a2, .int a3] E w2 (fun w4 y => x = y ∧ I w4))
def pair_trace (E : qE) (I : qW → Prop) : Prop := ∀ (d : Nat) (w : qW) (a1 : Int32) , Sh w → I w → CaI (d + 43) M_Qu_trace [.ref (qb E + 0), .int a1] E w (fun w2 x => CaI (d + 43) M_Mo_trace [.ref (qb E + 115), .int a1] E w2 (fun w4 y => x = y ∧ I w4))
def pair_taken (E : qE) (I : qW → Prop) : Prop := ∀ (d : Nat) (w : qW) (a1 : Int32) (a2 : Int32) , Sh w → I w → CaI (d + 43) M_Qu_taken [.ref (qb E + 0), .int a1, .int a2] E w (fun w2 x => CaI (d + 43) M_Mo_taken [.ref (qb E + 115), .int a1, .int a2] E w2 (fun w4 y => x = y ∧ I w4))
def pair_count (E : qE) (I : qW → Prop) : Prop := ∀ (d : Nat) (w : qW) (a1 : Int32) , Sh w → I w → CaI (d + 43) M_Qu_count [.ref (qb E + 0), .int a1] E w (fun w2 x => CaI (d + 43) M_Mo_count [.ref (qb E + 115), .int a1] E w2 (fun w4 y => x = y ∧ I w4))
def pair_tape (E : qE) (I : qW → Prop) : Prop := ∀ (d : Nat) (w : qW) (a1 : Int32) (a2 : Int32) (a3 : Int32) , Sh w → I w → CaI (d + 43) M_Qu_tape [.ref (qb E + 0), .int a1, .int a2, .int a3] E w (fun w2 x => CaI (d + 43) M_Mo_tape [.ref (qb E + 115), .int a1, .int a2, .int a3] E w2 (fun w4 y => x = y ∧ I w4))
def pair_item (E : qE) (I : qW → Prop) : Prop := ∀ (d : Nat) (w : qW) (a1 : Int32) (a2 : Int32) (a3 : Int64) , Sh w → I w → CaI (d + 43) M_Qu_item [.ref (qb E + 0), .int a1, .int a2, .long a3] E w (fun w2 x => CaI (d + 43) M_Mo_item [.ref (qb E + 115), .int a1, .int a2, .long a3] E w2 (fun w4 y => x = y ∧ I w4))
def pair_read (E : qE) (I : qW → Prop) : Prop := ∀ (d : Nat) (w : qW) (a1 : Int32) (a2 : Int32) , Sh w → I w → CaL (d + 43) M_Qu_read [.ref (qb E + 0), .int a1, .int a2] E w (fun w2 x => CaL (d + 43) M_Mo_read [.ref (qb E + 115), .int a1, .int a2] E w2 (fun w4 y => x = y ∧ I w4))
def pair_shift (E : qE) (I : qW → Prop) : Prop := ∀ (d : Nat) (w : qW) (a1 : Int32) (a2 : Int32) (a3 : Int32) (a4 : Int32) (a5 : Int32) , Sh w → I w → CaI (d + 43) M_Qu_shift [.ref (qb E + 0), .int a1, .int a2, .int a3, .int a4, .int a5] E w (fun w2 x => CaI (d + 43) M_Mo_shift [.ref (qb E + 115), .int a1, .int a2, .int a3, .int a4, .int a5] E w2 (fun w4 y => x = y ∧ I w4))
theorem lg_cmp_self (x : Int64) : lg_cmp x x = 0 := by simp [lg_cmp]
theorem st_thing {d : Nat} {E : qE} {Q : qW → Int32 → Prop} {I : qW → Prop} {l3 : Int32} {w : qW} (hp : pair_thing E I) (hw : Sh w) (hI : I w) (hv0 : vp_in l3 (qL E)) (hv : ∀ k : Int32, (k = 1 ∨ k = 2 ∨ k = 3 ∨ k = 4 ∨ k = 5) → vp_in (l3 + k) (qL E)) (next : ∀ w1, Sh w1 → I w1 → c_La_law_1256 d E Q l3 w1) : c_La_law_188 d E Q l3 w := by
  refine s_La_law_188 hw ?_
  refine ⟨hv 1 (by decide), ?_⟩
  refine ⟨hv 2 (by decide), ?_⟩
  refine ⟨hv 3 (by decide), ?_⟩
  refine ⟨hv 4 (by decide), ?_⟩
  refine CaI.mono (hp d w _ _ _ _ hw hI) (fun w2 x2 hw2 h => ?_)
  refine ⟨hv 1 (by decide), ?_⟩
  refine ⟨hv 2 (by decide), ?_⟩
  refine ⟨hv 3 (by decide), ?_⟩
  refine ⟨hv 4 (by decide), ?_⟩
  refine CaI.mono h (fun w4 x4 hw4 h => ?_)
  exact ⟨fun _ => next w4 hw4 h.2, fun z => absurd h.1 z⟩
theorem st_of {d : Nat} {E : qE} {Q : qW → Int32 → Prop} {I : qW → Prop} {l3 : Int32} {w : qW} (hp : pair_of E I) (hw : Sh w) (hI : I w) (hv0 : vp_in l3 (qL E)) (hv : ∀ k : Int32, (k = 1 ∨ k = 2 ∨ k = 3 ∨ k = 4 ∨ k = 5) → vp_in (l3 + k) (qL E)) (next : ∀ w1, Sh w1 → I w1 → c_La_law_1256 d E Q l3 w1) : c_La_law_241 d E Q l3 w := by
  refine s_La_law_241 hw ?_
  refine ⟨hv 1 (by decide), ?_⟩
  refine ⟨hv 2 (by decide), ?_⟩
  refine CaI.mono (hp d w _ _ hw hI) (fun w2 x2 hw2 h => ?_)
  refine ⟨hv 1 (by decide), ?_⟩
  refine ⟨hv 2 (by decide), ?_⟩
  refine CaI.mono h (fun w4 x4 hw4 h => ?_)
  exact ⟨fun _ => next w4 hw4 h.2, fun z => absurd h.1 z⟩
theorem st_put {d : Nat} {E : qE} {Q : qW → Int32 → Prop} {I : qW → Prop} {l3 : Int32} {w : qW} (hp : pair_put E I) (hw : Sh w) (hI : I w) (hv0 : vp_in l3 (qL E)) (hv : ∀ k : Int32, (k = 1 ∨ k = 2 ∨ k = 3 ∨ k = 4 ∨ k = 5) → vp_in (l3 + k) (qL E)) (next : ∀ w1, Sh w1 → I w1 → c_La_law_1256 d E Q l3 w1) : c_La_law_274 d E Q l3 w := by
  refine s_La_law_274 hw ?_
  refine ⟨hv 1 (by decide), ?_⟩
  refine CaI.mono (hp d w _ hw hI) (fun w2 x2 hw2 h => ?_)
  refine ⟨hv 1 (by decide), ?_⟩
  refine CaI.mono h (fun w4 x4 hw4 h => ?_)
  exact ⟨fun _ => next w4 hw4 h.2, fun z => absurd h.1 z⟩
theorem st_say {d : Nat} {E : qE} {Q : qW → Int32 → Prop} {I : qW → Prop} {l3 : Int32} {w : qW} (hp : pair_say E I) (hw : Sh w) (hI : I w) (hv0 : vp_in l3 (qL E)) (hv : ∀ k : Int32, (k = 1 ∨ k = 2 ∨ k = 3 ∨ k = 4 ∨ k = 5) → vp_in (l3 + k) (qL E)) (next : ∀ w1, Sh w1 → I w1 → c_La_law_1256 d E Q l3 w1) : c_La_law_297 d E Q l3 w := by
  refine s_La_law_297 hw ?_
  refine ⟨hv 1 (by decide), ?_⟩
  refine CaI.mono (hp d w _ hw hI) (fun w2 x2 hw2 h => ?_)
  refine ⟨hv 1 (by decide), ?_⟩
  refine CaI.mono h (fun w4 x4 hw4 h => ?_)
  exact ⟨fun _ => next w4 hw4 h.2, fun z => absurd h.1 z⟩
theorem st_weigh {d : Nat} {E : qE} {Q : qW → Int32 → Prop} {I : qW → Prop} {l3 : Int32} {w : qW} (hp : pair_weigh E I) (hw : Sh w) (hI : I w) (hv0 : vp_in l3 (qL E)) (hv : ∀ k : Int32, (k = 1 ∨ k = 2 ∨ k = 3 ∨ k = 4 ∨ k = 5) → vp_in (l3 + k) (qL E)) (next : ∀ w1, Sh w1 → I w1 → c_La_law_1256 d E Q l3 w1) : c_La_law_320 d E Q l3 w := by
  refine s_La_law_320 hw ?_
  refine ⟨hv 1 (by decide), ?_⟩
  refine ⟨hv 2 (by decide), ?_⟩
  refine CaI.mono (hp d w _ _ hw hI) (fun w2 x2 hw2 h => ?_)
  refine ⟨hv 1 (by decide), ?_⟩
  refine ⟨hv 2 (by decide), ?_⟩
  refine CaI.mono h (fun w4 x4 hw4 h => ?_)
  exact ⟨fun _ => next w4 hw4 h.2, fun z => absurd h.1 z⟩
theorem st_fire {d : Nat} {E : qE} {Q : qW → Int32 → Prop} {I : qW → Prop} {l3 : Int32} {w : qW} (hp : pair_fire E I) (hw : Sh w) (hI : I w) (hv0 : vp_in l3 (qL E)) (hv : ∀ k : Int32, (k = 1 ∨ k = 2 ∨ k = 3 ∨ k = 4 ∨ k = 5) → vp_in (l3 + k) (qL E)) (next : ∀ w1, Sh w1 → I w1 → c_La_law_1256 d E Q l3 w1) : c_La_law_353 d E Q l3 w := by
  refine s_La_law_353 hw ?_
  refine ⟨hv 1 (by decide), ?_⟩
  refine CaI.mono (hp d w _ hw hI) (fun w2 x2 hw2 h => ?_)
  refine ⟨hv 1 (by decide), ?_⟩
  refine CaI.mono h (fun w4 x4 hw4 h => ?_)
  exact ⟨fun _ => next w4 hw4 h.2, fun z => absurd h.1 z⟩
theorem st_tip {d : Nat} {E : qE} {Q : qW → Int32 → Prop} {I : qW → Prop} {l3 : Int32} {w : qW} (hp : pair_tip E I) (hw : Sh w) (hI : I w) (hv0 : vp_in l3 (qL E)) (hv : ∀ k : Int32, (k = 1 ∨ k = 2 ∨ k = 3 ∨ k = 4 ∨ k = 5) → vp_in (l3 + k) (qL E)) (next : ∀ w1, Sh w1 → I w1 → c_La_law_1256 d E Q l3 w1) : c_La_law_376 d E Q l3 w := by
  refine s_La_law_376 hw ?_
  refine CaI.mono (hp d w  hw hI) (fun w2 x2 hw2 h => ?_)
  refine CaI.mono h (fun w4 x4 hw4 h => ?_)
  exact ⟨fun _ => next w4 hw4 h.2, fun z => absurd h.1 z⟩
theorem st_row {d : Nat} {E : qE} {Q : qW → Int32 → Prop} {I : qW → Prop} {l3 : Int32} {w : qW} (hp : pair_row E I) (hw : Sh w) (hI : I w) (hv0 : vp_in l3 (qL E)) (hv : ∀ k : Int32, (k = 1 ∨ k = 2 ∨ k = 3 ∨ k = 4 ∨ k = 5) → vp_in (l3 + k) (qL E)) (next : ∀ w1, Sh w1 → I w1 → c_La_law_1256 d E Q l3 w1) : c_La_law_389 d E Q l3 w := by
  refine s_La_law_389 hw ?_
  refine ⟨hv 1 (by decide), ?_⟩
  refine ⟨hv 2 (by decide), ?_⟩
  refine ⟨hv 3 (by decide), ?_⟩
  refine CaI.mono (hp d w _ _ _ hw hI) (fun w2 x2 hw2 h => ?_)
  refine ⟨hv 1 (by decide), ?_⟩
  refine ⟨hv 2 (by decide), ?_⟩
  refine ⟨hv 3 (by decide), ?_⟩
  refine CaI.mono h (fun w4 x4 hw4 h => ?_)
  exact ⟨fun _ => next w4 hw4 h.2, fun z => absurd h.1 z⟩
theorem st_feed {d : Nat} {E : qE} {Q : qW → Int32 → Prop} {I : qW → Prop} {l3 : Int32} {w : qW} (hp : pair_feed E I) (hw : Sh w) (hI : I w) (hv0 : vp_in l3 (qL E)) (hv : ∀ k : Int32, (k = 1 ∨ k = 2 ∨ k = 3 ∨ k = 4 ∨ k = 5) → vp_in (l3 + k) (qL E)) (next : ∀ w1, Sh w1 → I w1 → c_La_law_1256 d E Q l3 w1) : c_La_law_432 d E Q l3 w := by
  refine s_La_law_432 hw ?_
  refine ⟨hv 1 (by decide), ?_⟩
  refine CaI.mono (hp d w _ hw hI) (fun w2 x2 hw2 h => ?_)
  refine ⟨hv 1 (by decide), ?_⟩
  refine CaI.mono h (fun w4 x4 hw4 h => ?_)
  exact ⟨fun _ => next w4 hw4 h.2, fun z => absurd h.1 z⟩
theorem st_kitchen {d : Nat} {E : qE} {Q : qW → Int32 → Prop} {I : qW → Prop} {l3 : Int32} {w : qW} (hp : pair_kitchen E I) (hw : Sh w) (hI : I w) (hv0 : vp_in l3 (qL E)) (hv : ∀ k : Int32, (k = 1 ∨ k = 2 ∨ k = 3 ∨ k = 4 ∨ k = 5) → vp_in (l3 + k) (qL E)) (next : ∀ w1, Sh w1 → I w1 → c_La_law_1256 d E Q l3 w1) : c_La_law_455 d E Q l3 w := by
  refine s_La_law_455 hw ?_
  refine CaI.mono (hp d w  hw hI) (fun w2 x2 hw2 h => ?_)
  refine CaI.mono h (fun w4 x4 hw4 h => ?_)
  exact ⟨fun _ => next w4 hw4 h.2, fun z => absurd h.1 z⟩
theorem st_told {d : Nat} {E : qE} {Q : qW → Int32 → Prop} {I : qW → Prop} {l3 : Int32} {w : qW} (hp : pair_told E I) (hw : Sh w) (hI : I w) (hv0 : vp_in l3 (qL E)) (hv : ∀ k : Int32, (k = 1 ∨ k = 2 ∨ k = 3 ∨ k = 4 ∨ k = 5) → vp_in (l3 + k) (qL E)) (next : ∀ w1, Sh w1 → I w1 → c_La_law_1256 d E Q l3 w1) : c_La_law_468 d E Q l3 w := by
  refine s_La_law_468 hw ?_
  refine ⟨hv 1 (by decide), ?_⟩
  refine CaI.mono (hp d w _ hw hI) (fun w2 x2 hw2 h => ?_)
  refine ⟨hv 1 (by decide), ?_⟩
  refine CaI.mono h (fun w4 x4 hw4 h => ?_)
  exact ⟨fun _ => next w4 hw4 h.2, fun z => absurd h.1 z⟩
theorem st_pass {d : Nat} {E : qE} {Q : qW → Int32 → Prop} {I : qW → Prop} {l3 : Int32} {w : qW} (hp : pair_pass E I) (hw : Sh w) (hI : I w) (hv0 : vp_in l3 (qL E)) (hv : ∀ k : Int32, (k = 1 ∨ k = 2 ∨ k = 3 ∨ k = 4 ∨ k = 5) → vp_in (l3 + k) (qL E)) (next : ∀ w1, Sh w1 → I w1 → c_La_law_1256 d E Q l3 w1) : c_La_law_491 d E Q l3 w := by
  refine s_La_law_491 hw ?_
  refine ⟨hv 1 (by decide), ?_⟩
  refine CaI.mono (hp d w _ hw hI) (fun w2 x2 hw2 h => ?_)
  refine ⟨hv 1 (by decide), ?_⟩
  refine CaI.mono h (fun w4 x4 hw4 h => ?_)
  exact ⟨fun _ => next w4 hw4 h.2, fun z => absurd h.1 z⟩
theorem st_on {d : Nat} {E : qE} {Q : qW → Int32 → Prop} {I : qW → Prop} {l3 : Int32} {w : qW} (hp : pair_on E I) (hw : Sh w) (hI : I w) (hv0 : vp_in l3 (qL E)) (hv : ∀ k : Int32, (k = 1 ∨ k = 2 ∨ k = 3 ∨ k = 4 ∨ k = 5) → vp_in (l3 + k) (qL E)) (next : ∀ w1, Sh w1 → I w1 → c_La_law_1256 d E Q l3 w1) : c_La_law_514 d E Q l3 w := by
  refine s_La_law_514 hw ?_
  refine ⟨hv 1 (by decide), ?_⟩
  refine ⟨hv 2 (by decide), ?_⟩
  refine CaI.mono (hp d w _ _ hw hI) (fun w2 x2 hw2 h => ?_)
  refine ⟨hv 1 (by decide), ?_⟩
  refine ⟨hv 2 (by decide), ?_⟩
  refine CaI.mono h (fun w4 x4 hw4 h => ?_)
  exact ⟨fun _ => next w4 hw4 h.2, fun z => absurd h.1 z⟩
theorem st_best {d : Nat} {E : qE} {Q : qW → Int32 → Prop} {I : qW → Prop} {l3 : Int32} {w : qW} (hp : pair_best E I) (hw : Sh w) (hI : I w) (hv0 : vp_in l3 (qL E)) (hv : ∀ k : Int32, (k = 1 ∨ k = 2 ∨ k = 3 ∨ k = 4 ∨ k = 5) → vp_in (l3 + k) (qL E)) (next : ∀ w1, Sh w1 → I w1 → c_La_law_1256 d E Q l3 w1) : c_La_law_547 d E Q l3 w := by
  refine s_La_law_547 hw ?_
  refine ⟨hv 1 (by decide), ?_⟩
  refine ⟨hv 2 (by decide), ?_⟩
  refine CaI.mono (hp d w _ _ hw hI) (fun w2 x2 hw2 h => ?_)
  refine ⟨hv 1 (by decide), ?_⟩
  refine ⟨hv 2 (by decide), ?_⟩
  refine CaI.mono h (fun w4 x4 hw4 h => ?_)
  exact ⟨fun _ => next w4 hw4 h.2, fun z => absurd h.1 z⟩
theorem st_enough {d : Nat} {E : qE} {Q : qW → Int32 → Prop} {I : qW → Prop} {l3 : Int32} {w : qW} (hp : pair_enough E I) (hw : Sh w) (hI : I w) (hv0 : vp_in l3 (qL E)) (hv : ∀ k : Int32, (k = 1 ∨ k = 2 ∨ k = 3 ∨ k = 4 ∨ k = 5) → vp_in (l3 + k) (qL E)) (next : ∀ w1, Sh w1 → I w1 → c_La_law_1256 d E Q l3 w1) : c_La_law_580 d E Q l3 w := by
  refine s_La_law_580 hw ?_
  refine ⟨hv 1 (by decide), ?_⟩
  refine CaI.mono (hp d w _ hw hI) (fun w2 x2 hw2 h => ?_)
  refine ⟨hv 1 (by decide), ?_⟩
  refine CaI.mono h (fun w4 x4 hw4 h => ?_)
  exact ⟨fun _ => next w4 hw4 h.2, fun z => absurd h.1 z⟩
theorem st_flame {d : Nat} {E : qE} {Q : qW → Int32 → Prop} {I : qW → Prop} {l3 : Int32} {w : qW} (hp : pair_flame E I) (hw : Sh w) (hI : I w) (hv0 : vp_in l3 (qL E)) (hv : ∀ k : Int32, (k = 1 ∨ k = 2 ∨ k = 3 ∨ k = 4 ∨ k = 5) → vp_in (l3 + k) (qL E)) (next : ∀ w1, Sh w1 → I w1 → c_La_law_1256 d E Q l3 w1) : c_La_law_603 d E Q l3 w := by
  refine s_La_law_603 hw ?_
  refine ⟨hv 1 (by decide), ?_⟩
  refine ⟨hv 2 (by decide), ?_⟩
  refine CaI.mono (hp d w _ _ hw hI) (fun w2 x2 hw2 h => ?_)
  refine ⟨hv 1 (by decide), ?_⟩
  refine ⟨hv 2 (by decide), ?_⟩
  refine CaI.mono h (fun w4 x4 hw4 h => ?_)
  exact ⟨fun _ => next w4 hw4 h.2, fun z => absurd h.1 z⟩
theorem st_see {d : Nat} {E : qE} {Q : qW → Int32 → Prop} {I : qW → Prop} {l3 : Int32} {w : qW} (hp : pair_see E I) (hw : Sh w) (hI : I w) (hv0 : vp_in l3 (qL E)) (hv : ∀ k : Int32, (k = 1 ∨ k = 2 ∨ k = 3 ∨ k = 4 ∨ k = 5) → vp_in (l3 + k) (qL E)) (next : ∀ w1, Sh w1 → I w1 → c_La_law_1256 d E Q l3 w1) : c_La_law_636 d E Q l3 w := by
  refine s_La_law_636 hw ?_
  refine ⟨hv 1 (by decide), ?_⟩
  refine ⟨hv 2 (by decide), ?_⟩
  refine CaI.mono (hp d w _ _ hw hI) (fun w2 x2 hw2 h => ?_)
  refine ⟨hv 1 (by decide), ?_⟩
  refine ⟨hv 2 (by decide), ?_⟩
  refine CaI.mono h (fun w4 x4 hw4 h => ?_)
  exact ⟨fun _ => next w4 hw4 h.2, fun z => absurd h.1 z⟩
theorem st_can {d : Nat} {E : qE} {Q : qW → Int32 → Prop} {I : qW → Prop} {l3 : Int32} {w : qW} (hp : pair_can E I) (hw : Sh w) (hI : I w) (hv0 : vp_in l3 (qL E)) (hv : ∀ k : Int32, (k = 1 ∨ k = 2 ∨ k = 3 ∨ k = 4 ∨ k = 5) → vp_in (l3 + k) (qL E)) (next : ∀ w1, Sh w1 → I w1 → c_La_law_1256 d E Q l3 w1) : c_La_law_669 d E Q l3 w := by
  refine s_La_law_669 hw ?_
  refine ⟨hv 1 (by decide), ?_⟩
  refine ⟨hv 2 (by decide), ?_⟩
  refine CaI.mono (hp d w _ _ hw hI) (fun w2 x2 hw2 h => ?_)
  refine ⟨hv 1 (by decide), ?_⟩
  refine ⟨hv 2 (by decide), ?_⟩
  refine CaI.mono h (fun w4 x4 hw4 h => ?_)
  exact ⟨fun _ => next w4 hw4 h.2, fun z => absurd h.1 z⟩
theorem st_odds {d : Nat} {E : qE} {Q : qW → Int32 → Prop} {I : qW → Prop} {l3 : Int32} {w : qW} (hp : pair_odds E I) (hw : Sh w) (hI : I w) (hv0 : vp_in l3 (qL E)) (hv : ∀ k : Int32, (k = 1 ∨ k = 2 ∨ k = 3 ∨ k = 4 ∨ k = 5) → vp_in (l3 + k) (qL E)) (next : ∀ w1, Sh w1 → I w1 → c_La_law_1256 d E Q l3 w1) : c_La_law_702 d E Q l3 w := by
  refine s_La_law_702 hw ?_
  refine ⟨hv 1 (by decide), ?_⟩
  refine ⟨hv 2 (by decide), ?_⟩
  refine CaL.mono (hp d w _ _ hw hI) (fun w2 x2 hw2 h => ?_)
  refine ⟨hv 1 (by decide), ?_⟩
  refine ⟨hv 2 (by decide), ?_⟩
  refine CaL.mono h (fun w4 x4 hw4 h => ?_)
  exact ⟨fun _ => next w4 hw4 h.2, fun z => absurd (by rw [h.1]; exact lg_cmp_self _) z⟩
theorem st_mean {d : Nat} {E : qE} {Q : qW → Int32 → Prop} {I : qW → Prop} {l3 : Int32} {w : qW} (hp : pair_mean E I) (hw : Sh w) (hI : I w) (hv0 : vp_in l3 (qL E)) (hv : ∀ k : Int32, (k = 1 ∨ k = 2 ∨ k = 3 ∨ k = 4 ∨ k = 5) → vp_in (l3 + k) (qL E)) (next : ∀ w1, Sh w1 → I w1 → c_La_law_1256 d E Q l3 w1) : c_La_law_736 d E Q l3 w := by
  refine s_La_law_736 hw ?_
  refine ⟨hv 1 (by decide), ?_⟩
  refine CaL.mono (hp d w _ hw hI) (fun w2 x2 hw2 h => ?_)
  refine ⟨hv 1 (by decide), ?_⟩
  refine CaL.mono h (fun w4 x4 hw4 h => ?_)
  exact ⟨fun _ => next w4 hw4 h.2, fun z => absurd (by rw [h.1]; exact lg_cmp_self _) z⟩
theorem st_plan {d : Nat} {E : qE} {Q : qW → Int32 → Prop} {I : qW → Prop} {l3 : Int32} {w : qW} (hp : pair_plan E I) (hw : Sh w) (hI : I w) (hv0 : vp_in l3 (qL E)) (hv : ∀ k : Int32, (k = 1 ∨ k = 2 ∨ k = 3 ∨ k = 4 ∨ k = 5) → vp_in (l3 + k) (qL E)) (next : ∀ w1, Sh w1 → I w1 → c_La_law_1256 d E Q l3 w1) : c_La_law_760 d E Q l3 w := by
  refine s_La_law_760 hw ?_
  refine ⟨hv 1 (by decide), ?_⟩
  refine ⟨hv 2 (by decide), ?_⟩
  refine CaI.mono (hp d w _ _ hw hI) (fun w2 x2 hw2 h => ?_)
  refine ⟨hv 1 (by decide), ?_⟩
  refine ⟨hv 2 (by decide), ?_⟩
  refine CaI.mono h (fun w4 x4 hw4 h => ?_)
  exact ⟨fun _ => next w4 hw4 h.2, fun z => absurd h.1 z⟩
theorem st_ends {d : Nat} {E : qE} {Q : qW → Int32 → Prop} {I : qW → Prop} {l3 : Int32} {w : qW} (hp : pair_ends E I) (hw : Sh w) (hI : I w) (hv0 : vp_in l3 (qL E)) (hv : ∀ k : Int32, (k = 1 ∨ k = 2 ∨ k = 3 ∨ k = 4 ∨ k = 5) → vp_in (l3 + k) (qL E)) (next : ∀ w1, Sh w1 → I w1 → c_La_law_1256 d E Q l3 w1) : c_La_law_793 d E Q l3 w := by
  refine s_La_law_793 hw ?_
  refine ⟨hv 1 (by decide), ?_⟩
  refine CaI.mono (hp d w _ hw hI) (fun w2 x2 hw2 h => ?_)
  refine ⟨hv 1 (by decide), ?_⟩
  refine CaI.mono h (fun w4 x4 hw4 h => ?_)
  exact ⟨fun _ => next w4 hw4 h.2, fun z => absurd h.1 z⟩
theorem st_book {d : Nat} {E : qE} {Q : qW → Int32 → Prop} {I : qW → Prop} {l3 : Int32} {w : qW} (hp : pair_book E I) (hw : Sh w) (hI : I w) (hv0 : vp_in l3 (qL E)) (hv : ∀ k : Int32, (k = 1 ∨ k = 2 ∨ k = 3 ∨ k = 4 ∨ k = 5) → vp_in (l3 + k) (qL E)) (next : ∀ w1, Sh w1 → I w1 → c_La_law_1256 d E Q l3 w1) : c_La_law_816 d E Q l3 w := by
  refine s_La_law_816 hw ?_
  refine ⟨hv 1 (by decide), ?_⟩
  refine ⟨hv 2 (by decide), ?_⟩
  refine CaI.mono (hp d w _ _ hw hI) (fun w2 x2 hw2 h => ?_)
  refine ⟨hv 1 (by decide), ?_⟩
  refine ⟨hv 2 (by decide), ?_⟩
  refine CaI.mono h (fun w4 x4 hw4 h => ?_)
  exact ⟨fun _ => next w4 hw4 h.2, fun z => absurd h.1 z⟩
theorem st_looked {d : Nat} {E : qE} {Q : qW → Int32 → Prop} {I : qW → Prop} {l3 : Int32} {w : qW} (hp : pair_looked E I) (hw : Sh w) (hI : I w) (hv0 : vp_in l3 (qL E)) (hv : ∀ k : Int32, (k = 1 ∨ k = 2 ∨ k = 3 ∨ k = 4 ∨ k = 5) → vp_in (l3 + k) (qL E)) (next : ∀ w1, Sh w1 → I w1 → c_La_law_1256 d E Q l3 w1) : c_La_law_849 d E Q l3 w := by
  refine s_La_law_849 hw ?_
  refine CaI.mono (hp d w  hw hI) (fun w2 x2 hw2 h => ?_)
  refine CaI.mono h (fun w4 x4 hw4 h => ?_)
  exact ⟨fun _ => next w4 hw4 h.2, fun z => absurd h.1 z⟩
theorem st_judge {d : Nat} {E : qE} {Q : qW → Int32 → Prop} {I : qW → Prop} {l3 : Int32} {w : qW} (hp : pair_judge E I) (hw : Sh w) (hI : I w) (hv0 : vp_in l3 (qL E)) (hv : ∀ k : Int32, (k = 1 ∨ k = 2 ∨ k = 3 ∨ k = 4 ∨ k = 5) → vp_in (l3 + k) (qL E)) (next : ∀ w1, Sh w1 → I w1 → c_La_law_1256 d E Q l3 w1) : c_La_law_862 d E Q l3 w := by
  refine s_La_law_862 hw ?_
  refine ⟨hv 1 (by decide), ?_⟩
  refine ⟨hv 2 (by decide), ?_⟩
  refine CaI.mono (hp d w _ _ hw hI) (fun w2 x2 hw2 h => ?_)
  refine ⟨hv 1 (by decide), ?_⟩
  refine ⟨hv 2 (by decide), ?_⟩
  refine CaI.mono h (fun w4 x4 hw4 h => ?_)
  exact ⟨fun _ => next w4 hw4 h.2, fun z => absurd h.1 z⟩
theorem st_image {d : Nat} {E : qE} {Q : qW → Int32 → Prop} {I : qW → Prop} {l3 : Int32} {w : qW} (hp : pair_image E I) (hw : Sh w) (hI : I w) (hv0 : vp_in l3 (qL E)) (hv : ∀ k : Int32, (k = 1 ∨ k = 2 ∨ k = 3 ∨ k = 4 ∨ k = 5) → vp_in (l3 + k) (qL E)) (next : ∀ w1, Sh w1 → I w1 → c_La_law_1256 d E Q l3 w1) : c_La_law_895 d E Q l3 w := by
  refine s_La_law_895 hw ?_
  refine CaI.mono (hp d w  hw hI) (fun w2 x2 hw2 h => ?_)
  refine CaI.mono h (fun w4 x4 hw4 h => ?_)
  exact ⟨fun _ => next w4 hw4 h.2, fun z => absurd h.1 z⟩
theorem st_undo {d : Nat} {E : qE} {Q : qW → Int32 → Prop} {I : qW → Prop} {l3 : Int32} {w : qW} (hp : pair_undo E I) (hw : Sh w) (hI : I w) (hv0 : vp_in l3 (qL E)) (hv : ∀ k : Int32, (k = 1 ∨ k = 2 ∨ k = 3 ∨ k = 4 ∨ k = 5) → vp_in (l3 + k) (qL E)) (next : ∀ w1, Sh w1 → I w1 → c_La_law_1256 d E Q l3 w1) : c_La_law_908 d E Q l3 w := by
  refine s_La_law_908 hw ?_
  refine CaI.mono (hp d w  hw hI) (fun w2 x2 hw2 h => ?_)
  refine CaI.mono h (fun w4 x4 hw4 h => ?_)
  exact ⟨fun _ => next w4 hw4 h.2, fun z => absurd h.1 z⟩
theorem st_act {d : Nat} {E : qE} {Q : qW → Int32 → Prop} {I : qW → Prop} {l3 : Int32} {w : qW} (hp : pair_act E I) (hw : Sh w) (hI : I w) (hv0 : vp_in l3 (qL E)) (hv : ∀ k : Int32, (k = 1 ∨ k = 2 ∨ k = 3 ∨ k = 4 ∨ k = 5) → vp_in (l3 + k) (qL E)) (next : ∀ w1, Sh w1 → I w1 → c_La_law_1256 d E Q l3 w1) : c_La_law_921 d E Q l3 w := by
  refine s_La_law_921 hw ?_
  refine ⟨hv 1 (by decide), ?_⟩
  refine ⟨hv 2 (by decide), ?_⟩
  refine ⟨hv 3 (by decide), ?_⟩
  refine CaI.mono (hp d w _ _ _ hw hI) (fun w2 x2 hw2 h => ?_)
  refine ⟨hv 1 (by decide), ?_⟩
  refine ⟨hv 2 (by decide), ?_⟩
  refine ⟨hv 3 (by decide), ?_⟩
  refine CaI.mono h (fun w4 x4 hw4 h => ?_)
  exact ⟨fun _ => next w4 hw4 h.2, fun z => absurd h.1 z⟩
theorem st_trace {d : Nat} {E : qE} {Q : qW → Int32 → Prop} {I : qW → Prop} {l3 : Int32} {w : qW} (hp : pair_trace E I) (hw : Sh w) (hI : I w) (hv0 : vp_in l3 (qL E)) (hv : ∀ k : Int32, (k = 1 ∨ k = 2 ∨ k = 3 ∨ k = 4 ∨ k = 5) → vp_in (l3 + k) (qL E)) (next : ∀ w1, Sh w1 → I w1 → c_La_law_1256 d E Q l3 w1) : c_La_law_964 d E Q l3 w := by
  refine s_La_law_964 hw ?_
  refine ⟨hv 1 (by decide), ?_⟩
  refine CaI.mono (hp d w _ hw hI) (fun w2 x2 hw2 h => ?_)
  refine ⟨hv 1 (by decide), ?_⟩
  refine CaI.mono h (fun w4 x4 hw4 h => ?_)
  exact ⟨fun _ => next w4 hw4 h.2, fun z => absurd h.1 z⟩
theorem st_taken {d : Nat} {E : qE} {Q : qW → Int32 → Prop} {I : qW → Prop} {l3 : Int32} {w : qW} (hp : pair_taken E I) (hw : Sh w) (hI : I w) (hv0 : vp_in l3 (qL E)) (hv : ∀ k : Int32, (k = 1 ∨ k = 2 ∨ k = 3 ∨ k = 4 ∨ k = 5) → vp_in (l3 + k) (qL E)) (next : ∀ w1, Sh w1 → I w1 → c_La_law_1256 d E Q l3 w1) : c_La_law_987 d E Q l3 w := by
  refine s_La_law_987 hw ?_
  refine ⟨hv 1 (by decide), ?_⟩
  refine ⟨hv 2 (by decide), ?_⟩
  refine CaI.mono (hp d w _ _ hw hI) (fun w2 x2 hw2 h => ?_)
  refine ⟨hv 1 (by decide), ?_⟩
  refine ⟨hv 2 (by decide), ?_⟩
  refine CaI.mono h (fun w4 x4 hw4 h => ?_)
  exact ⟨fun _ => next w4 hw4 h.2, fun z => absurd h.1 z⟩
theorem st_count {d : Nat} {E : qE} {Q : qW → Int32 → Prop} {I : qW → Prop} {l3 : Int32} {w : qW} (hp : pair_count E I) (hw : Sh w) (hI : I w) (hv0 : vp_in l3 (qL E)) (hv : ∀ k : Int32, (k = 1 ∨ k = 2 ∨ k = 3 ∨ k = 4 ∨ k = 5) → vp_in (l3 + k) (qL E)) (next : ∀ w1, Sh w1 → I w1 → c_La_law_1256 d E Q l3 w1) : c_La_law_1020 d E Q l3 w := by
  refine s_La_law_1020 hw ?_
  refine ⟨hv 1 (by decide), ?_⟩
  refine CaI.mono (hp d w _ hw hI) (fun w2 x2 hw2 h => ?_)
  refine ⟨hv 1 (by decide), ?_⟩
  refine CaI.mono h (fun w4 x4 hw4 h => ?_)
  exact ⟨fun _ => next w4 hw4 h.2, fun z => absurd h.1 z⟩
theorem st_tape {d : Nat} {E : qE} {Q : qW → Int32 → Prop} {I : qW → Prop} {l3 : Int32} {w : qW} (hp : pair_tape E I) (hw : Sh w) (hI : I w) (hv0 : vp_in l3 (qL E)) (hv : ∀ k : Int32, (k = 1 ∨ k = 2 ∨ k = 3 ∨ k = 4 ∨ k = 5) → vp_in (l3 + k) (qL E)) (next : ∀ w1, Sh w1 → I w1 → c_La_law_1256 d E Q l3 w1) : c_La_law_1043 d E Q l3 w := by
  refine s_La_law_1043 hw ?_
  refine ⟨hv 1 (by decide), ?_⟩
  refine ⟨hv 2 (by decide), ?_⟩
  refine ⟨hv 3 (by decide), ?_⟩
  refine CaI.mono (hp d w _ _ _ hw hI) (fun w2 x2 hw2 h => ?_)
  refine ⟨hv 1 (by decide), ?_⟩
  refine ⟨hv 2 (by decide), ?_⟩
  refine ⟨hv 3 (by decide), ?_⟩
  refine CaI.mono h (fun w4 x4 hw4 h => ?_)
  exact ⟨fun _ => next w4 hw4 h.2, fun z => absurd h.1 z⟩
theorem st_item {d : Nat} {E : qE} {Q : qW → Int32 → Prop} {I : qW → Prop} {l3 : Int32} {w : qW} (hp : pair_item E I) (hw : Sh w) (hI : I w) (hv0 : vp_in l3 (qL E)) (hv : ∀ k : Int32, (k = 1 ∨ k = 2 ∨ k = 3 ∨ k = 4 ∨ k = 5) → vp_in (l3 + k) (qL E)) (next : ∀ w1, Sh w1 → I w1 → c_La_law_1256 d E Q l3 w1) : c_La_law_1086 d E Q l3 w := by
  refine s_La_law_1086 hw ?_
  refine ⟨hv 1 (by decide), ?_⟩
  refine ⟨hv 2 (by decide), ?_⟩
  refine ⟨hv 3 (by decide), ?_⟩
  refine ⟨hv 4 (by decide), ?_⟩
  refine CaI.mono (hp d w _ _ _ hw hI) (fun w2 x2 hw2 h => ?_)
  refine ⟨hv 1 (by decide), ?_⟩
  refine ⟨hv 2 (by decide), ?_⟩
  refine ⟨hv 3 (by decide), ?_⟩
  refine ⟨hv 4 (by decide), ?_⟩
  refine CaI.mono h (fun w4 x4 hw4 h => ?_)
  exact ⟨fun _ => next w4 hw4 h.2, fun z => absurd h.1 z⟩
theorem st_read {d : Nat} {E : qE} {Q : qW → Int32 → Prop} {I : qW → Prop} {l3 : Int32} {w : qW} (hp : pair_read E I) (hw : Sh w) (hI : I w) (hv0 : vp_in l3 (qL E)) (hv : ∀ k : Int32, (k = 1 ∨ k = 2 ∨ k = 3 ∨ k = 4 ∨ k = 5) → vp_in (l3 + k) (qL E)) (next : ∀ w1, Sh w1 → I w1 → c_La_law_1256 d E Q l3 w1) : c_La_law_1159 d E Q l3 w := by
  refine s_La_law_1159 hw ?_
  refine ⟨hv 1 (by decide), ?_⟩
  refine ⟨hv 2 (by decide), ?_⟩
  refine CaL.mono (hp d w _ _ hw hI) (fun w2 x2 hw2 h => ?_)
  refine ⟨hv 1 (by decide), ?_⟩
  refine ⟨hv 2 (by decide), ?_⟩
  refine CaL.mono h (fun w4 x4 hw4 h => ?_)
  exact ⟨fun _ => next w4 hw4 h.2, fun z => absurd (by rw [h.1]; exact lg_cmp_self _) z⟩
theorem st_shift {d : Nat} {E : qE} {Q : qW → Int32 → Prop} {I : qW → Prop} {l3 : Int32} {w : qW} (hp : pair_shift E I) (hw : Sh w) (hI : I w) (hv0 : vp_in l3 (qL E)) (hv : ∀ k : Int32, (k = 1 ∨ k = 2 ∨ k = 3 ∨ k = 4 ∨ k = 5) → vp_in (l3 + k) (qL E)) (next : ∀ w1, Sh w1 → I w1 → c_La_law_1256 d E Q l3 w1) : c_La_law_1193 d E Q l3 w := by
  refine s_La_law_1193 hw ?_
  refine ⟨hv 1 (by decide), ?_⟩
  refine ⟨hv 2 (by decide), ?_⟩
  refine ⟨hv 3 (by decide), ?_⟩
  refine ⟨hv 4 (by decide), ?_⟩
  refine ⟨hv 5 (by decide), ?_⟩
  refine CaI.mono (hp d w _ _ _ _ _ hw hI) (fun w2 x2 hw2 h => ?_)
  refine ⟨hv 1 (by decide), ?_⟩
  refine ⟨hv 2 (by decide), ?_⟩
  refine ⟨hv 3 (by decide), ?_⟩
  refine ⟨hv 4 (by decide), ?_⟩
  refine ⟨hv 5 (by decide), ?_⟩
  refine CaI.mono h (fun w4 x4 hw4 h => ?_)
  exact ⟨fun _ => next w4 hw4 h.2, fun z => absurd h.1 z⟩
def qPairs (E : qE) (I : qW → Prop) : Prop := pair_thing E I ∧ pair_of E I ∧ pair_put E I ∧ pair_say E I ∧ pair_weigh E I ∧ pair_fire E I ∧ pair_tip E I ∧ pair_row E I ∧ pair_feed E I ∧ pair_kitchen E I ∧ pair_told E I ∧ pair_pass E I ∧ pair_on E I ∧ pair_best E I ∧ pair_enough E I ∧ pair_flame E I ∧ pair_see E I ∧ pair_can E I ∧ pair_odds E I ∧ pair_mean E I ∧ pair_plan E I ∧ pair_ends E I ∧ pair_book E I ∧ pair_looked E I ∧ pair_judge E I ∧ pair_image E I ∧ pair_undo E I ∧ pair_act E I ∧ pair_trace E I ∧ pair_taken E I ∧ pair_count E I ∧ pair_tape E I ∧ pair_item E I ∧ pair_read E I ∧ pair_shift E I
theorem law_loop {d : Nat} {E : qE} {I : qW → Prop} (hp : qPairs E I) (hL : qL E ≤ 3072) : ∀ (n i : Nat) (w : qW), i ≤ 3072 → 3072 < i + n → Sh w → I w → c_La_law_18 d E (fun _ r => r = 1) (nI i) w := by
  intro n
  induction n with
  | zero => intro i w h1 h2; omega
  | succ n ih =>
    intro i w hi hn hw hI
    refine s_La_law_18 hw ⟨fun _ => rfl, fun hc => ?_⟩
    have hlt : i + 6 ≤ qL E := by
      rcases Nat.lt_or_ge (qL E) (i + 6) with q | q
      · refine absurd ?_ hc
        have e1 : (Int32.ofNat (qL E) - 6).toInt = (qL E : Int) - 6 := pk_sub_toInt (a := qL E) (b := 6) (by omega) (by omega)
        rw [Int32.lt_iff_toInt_lt, e1, nI_toInt (by omega)]
        omega
      · exact q
    have hv0 : vp_in (nI i) (qL E) := vp_in_nI (by omega) (by omega)
    have hv : ∀ k : Int32, (k = 1 ∨ k = 2 ∨ k = 3 ∨ k = 4 ∨ k = 5) → vp_in (nI i + k) (qL E) := by
      intro k hk
      rcases hk with rfl | rfl | rfl | rfl | rfl
      · exact (nI_add i 1) ▸ vp_in_nI (by omega) (by omega)
      · exact (nI_add i 2) ▸ vp_in_nI (by omega) (by omega)
      · exact (nI_add i 3) ▸ vp_in_nI (by omega) (by omega)
      · exact (nI_add i 4) ▸ vp_in_nI (by omega) (by omega)
      · exact (nI_add i 5) ▸ vp_in_nI (by omega) (by omega)
    have next : ∀ w1, Sh w1 → I w1 → c_La_law_1256 d E (fun _ r => r = 1) (nI i) w1 := by
      intro w1 hw1 hI1
      refine s_La_law_1256 hw1 ?_
      have e : nI i + 6 = nI (i + 6) := nI_add i 6
      rw [e]
      exact ih (i + 6) w1 (by omega) (by omega) hw1 hI1
    obtain ⟨h0, h1, h2, h3, h4, h5, h6, h7, h8, h9, h10, h11, h12, h13, h14, h15, h16, h17, h18, h19, h20, h21, h22, h23, h24, h25, h26, h27, h28, h29, h30, h31, h32, h33, h34⟩ := hp
    refine ⟨hv0, fun _ => st_thing h0 hw hI hv0 hv next, fun _ => st_of h1 hw hI hv0 hv next, fun _ => st_put h2 hw hI hv0 hv next, fun _ => st_say h3 hw hI hv0 hv next, fun _ => st_weigh h4 hw hI hv0 hv next, fun _ => st_fire h5 hw hI hv0 hv next, fun _ => st_tip h6 hw hI hv0 hv next, fun _ => st_row h7 hw hI hv0 hv next, fun _ => st_feed h8 hw hI hv0 hv next, fun _ => st_kitchen h9 hw hI hv0 hv next, fun _ => st_told h10 hw hI hv0 hv next, fun _ => st_pass h11 hw hI hv0 hv next, fun _ => st_on h12 hw hI hv0 hv next, fun _ => st_best h13 hw hI hv0 hv next, fun _ => st_enough h14 hw hI hv0 hv next, fun _ => st_flame h15 hw hI hv0 hv next, fun _ => st_see h16 hw hI hv0 hv next, fun _ => st_can h17 hw hI hv0 hv next, fun _ => st_odds h18 hw hI hv0 hv next, fun _ => st_mean h19 hw hI hv0 hv next, fun _ => st_plan h20 hw hI hv0 hv next, fun _ => st_ends h21 hw hI hv0 hv next, fun _ => st_book h22 hw hI hv0 hv next, fun _ => st_looked h23 hw hI hv0 hv next, fun _ => st_judge h24 hw hI hv0 hv next, fun _ => st_image h25 hw hI hv0 hv next, fun _ => st_undo h26 hw hI hv0 hv next, fun _ => st_act h27 hw hI hv0 hv next, fun _ => st_trace h28 hw hI hv0 hv next, fun _ => st_taken h29 hw hI hv0 hv next, fun _ => st_count h30 hw hI hv0 hv next, fun _ => st_tape h31 hw hI hv0 hv next, fun _ => st_item h32 hw hI hv0 hv next, fun _ => st_read h33 hw hI hv0 hv next, fun _ => st_shift h34 hw hI hv0 hv next, fun _ => next w hw hI⟩
