theorem kr_64 : (Cond.stringRef "QuinceEnd$Reading" 64 "need ") ∈ lw_tbl := List.mem_append_right _ (show _ ∈ tables_1 from List.mem_append_right _ (List.mem_append_left _ (List.mem_of_getElem? (i := 229) rfl)))
theorem kr_46 : (Cond.stringRef "QuinceEnd$Reading" 46 "dark ") ∈ lw_tbl := List.mem_append_right _ (show _ ∈ tables_1 from List.mem_append_right _ (List.mem_append_right _ (List.mem_append_left _ (List.mem_of_getElem? (i := 50) rfl))))
theorem kr_48 : (Cond.stringRef "QuinceEnd$Reading" 48 "clear ") ∈ lw_tbl := List.mem_append_right _ (show _ ∈ tables_1 from List.mem_append_right _ (List.mem_append_right _ (List.mem_append_left _ (List.mem_of_getElem? (i := 51) rfl))))
theorem kr_72 : (Cond.stringRef "QuinceEnd$Reading" 72 "pkvwom") ∈ lw_tbl := List.mem_append_right _ (show _ ∈ tables_1 from List.mem_append_right _ (List.mem_append_right _ (List.mem_append_left _ (List.mem_of_getElem? (i := 64) rfl))))
theorem kr_78 : (Cond.stringRef "QuinceEnd$Reading" 78 "<=>") ∈ lw_tbl := List.mem_append_right _ (show _ ∈ tables_1 from List.mem_append_right _ (List.mem_append_right _ (List.mem_append_left _ (List.mem_of_getElem? (i := 69) rfl))))
theorem kls_0 : (Cond.laysStatic "QuinceEnd" "ABOVE" "[I") ∈ lw_tbl := List.mem_append_right _ (show _ ∈ tables_1 from List.mem_append_right _ (List.mem_append_right _ (List.mem_append_right _ (List.mem_append_left _ (List.mem_of_getElem? (i := 27) rfl)))))
theorem kls_1 : (Cond.laysStatic "QuinceEnd$Acting" "BODIES" "[I") ∈ lw_tbl := List.mem_append_right _ (show _ ∈ tables_1 from List.mem_append_right _ (List.mem_append_right _ (List.mem_append_right _ (List.mem_append_left _ (List.mem_of_getElem? (i := 29) rfl)))))
theorem kls_2 : (Cond.laysStatic "java/lang/String" "COMPACT_STRINGS" "Z") ∈ lw_tbl := List.mem_append_right _ (show _ ∈ tables_1 from List.mem_append_right _ (List.mem_append_right _ (List.mem_append_left _ (List.mem_of_getElem? (i := 3) rfl))))
theorem kls_3 : (Cond.laysStatic "jdk/internal/util/Preconditions" "SIOOBE_FORMATTER" "Ljava/util/function/BiFunction;") ∈ lw_tbl := List.mem_append_right _ (show _ ∈ tables_1 from List.mem_append_right _ (List.mem_append_right _ (List.mem_append_left _ (List.mem_of_getElem? (i := 19) rfl))))
theorem kne_0 : (Cond.fieldLinkNest "QuinceEnd$Acting" 37 "QuinceEnd" "ABOVE" "[I" "QuinceEnd") ∈ lw_tbl := List.mem_append_right _ (show _ ∈ tables_1 from List.mem_append_right _ (List.mem_append_right _ (List.mem_append_right _ (List.mem_append_left _ (List.mem_of_getElem? (i := 26) rfl)))))
theorem kne_1 : (Cond.fieldLinkNest "QuinceEnd$Thing" 43 "QuinceEnd" "ABOVE" "[I" "QuinceEnd") ∈ lw_tbl := List.mem_append_right _ (show _ ∈ tables_1 from List.mem_append_right _ (List.mem_append_right _ (List.mem_append_right _ (List.mem_append_left _ (List.mem_of_getElem? (i := 50) rfl)))))
theorem kne_2 : (Cond.methodLinkNest "QuinceEnd" 11 ⟨"QuinceEnd$Kitchen", "<init>", "()V"⟩ "QuinceEnd") ∈ lw_tbl := List.mem_append_right _ (show _ ∈ tables_1 from List.mem_append_left _ (List.mem_of_getElem? (i := 29) rfl))
theorem kne_3 : (Cond.methodLinkNest "QuinceEnd" 48 ⟨"QuinceEnd$Acting", "<init>", "()V"⟩ "QuinceEnd") ∈ lw_tbl := List.mem_append_right _ (show _ ∈ tables_1 from List.mem_append_left _ (List.mem_of_getElem? (i := 237) rfl))
theorem kne_4 : (Cond.methodLinkNest "QuinceEnd" 59 ⟨"QuinceEnd$Tape", "<init>", "()V"⟩ "QuinceEnd") ∈ lw_tbl := List.mem_append_right _ (show _ ∈ tables_1 from List.mem_append_right _ (List.mem_append_left _ (List.mem_of_getElem? (i := 21) rfl)))
theorem kao_0 : (Cond.arrayOver (.object "QuinceEnd$Thing")) ∈ lw_tbl := List.mem_append_right _ (show _ ∈ tables_1 from List.mem_append_left _ (List.mem_of_getElem? (i := 87) rfl))
theorem kao_1 : (Cond.arrayOver (.object "QuinceEnd$Kitchen")) ∈ lw_tbl := List.mem_append_right _ (show _ ∈ tables_1 from List.mem_append_left _ (List.mem_of_getElem? (i := 234) rfl))
theorem kao_2 : (Cond.arrayOver (.object "QuinceEnd$Tape")) ∈ lw_tbl := List.mem_append_right _ (show _ ∈ tables_1 from List.mem_append_right _ (List.mem_append_left _ (List.mem_of_getElem? (i := 19) rfl)))
theorem q_sub {w : Cond} (h : w ∈ qG) : w ∈ lw_tbl := (List.mem_filter.mp h).1
theorem q_arrs {args : Array Value} {s : State} {ty : FieldType} (hty : ty = .int ∨ ty = .long ∨ ty = .boolean) (h : (Cond.arrayClass ty).before args s = true) : ∃ cA : ClassId, ArrOfT s cA ty ∧ va_RA s cA ty := by
  obtain ⟨c, k, comp, h1, h2, h3⟩ := Cond.arrayClass_spec h
  refine ⟨c, fun n z => ⟨fun k h => (by cases h), k, h2, comp, h3⟩, ?_⟩
  rcases hty with rfl | rfl | rfl <;> exact h1
theorem q_arro {args : Array Value} {s : State} {C : String} (h : (Cond.arrayOver (.object C)).before args s = true) : ∃ cA : ClassId, ArrOfT s cA (.object C) ∧ va_RA s cA (.object C) := by
  obtain ⟨comp, cA, kA, h1, h2, h3, h4, h5⟩ := Cond.arrayOver_spec h
  exact ⟨cA, fun n z => ⟨fun k h => (by cases h), kA, h3, comp, h4⟩, kA, comp, h3, h4, h1, h5⟩
def q_sx (i : Nat) : Nat := [64, 46, 48, 72, 78].getD i 0
set_option maxHeartbeats 4000000 in
set_option maxRecDepth 20000 in
theorem q_cls_of {args : Array Value} {s : State} (hts : ∀ w ∈ qG, w.before args s = true) : ∃ (dC : Nat → ClassId) (dI : Nat → Nat → Nat), ∀ (k : Nat) (q : vw_C), q_cls[k]? = some q → u_Kn s q.1 q.2.1 q.2.2 (dC k) (dI k) := by
  have h : ∀ k : Nat, ∃ x : ClassId × (Nat → Nat), ∀ q : vw_C, q_cls[k]? = some q → u_Kn s q.1 q.2.1 q.2.2 x.1 x.2 := by
    intro k
    match k with
    | 0 =>
      obtain ⟨c, i, h⟩ := u_known (C := "QuinceEnd$Acting") (T := q_T0) (N := 5) (n := 5) hts q_in0 (hts _ kn_Ac)
      exact ⟨(c, i), fun q hq => by cases hq; exact h⟩
    | 1 =>
      obtain ⟨c, i, h⟩ := u_known (C := "QuinceEnd$Asking") (T := q_T1) (N := 4) (n := 4) hts q_in1 (hts _ kn_As)
      exact ⟨(c, i), fun q hq => by cases hq; exact h⟩
    | 2 =>
      obtain ⟨c, i, h⟩ := u_known (C := "QuinceEnd$Kitchen") (T := q_T2) (N := 5) (n := 5) hts q_in2 (hts _ kn_Ki)
      exact ⟨(c, i), fun q hq => by cases hq; exact h⟩
    | 3 =>
      obtain ⟨c, i, h⟩ := u_known (C := "QuinceEnd$Pan") (T := q_T3) (N := 8) (n := 8) hts q_in3 (hts _ kn_Pa)
      exact ⟨(c, i), fun q hq => by cases hq; exact h⟩
    | 4 =>
      obtain ⟨c, i, h⟩ := u_known (C := "QuinceEnd$Reading") (T := q_T4) (N := 4) (n := 4) hts q_in4 (hts _ kn_Re)
      exact ⟨(c, i), fun q hq => by cases hq; exact h⟩
    | 5 =>
      obtain ⟨c, i, h⟩ := u_known (C := "QuinceEnd$Rows") (T := q_T5) (N := 3) (n := 3) hts q_in5 (hts _ kn_Ro)
      exact ⟨(c, i), fun q hq => by cases hq; exact h⟩
    | 6 =>
      obtain ⟨c, i, h⟩ := u_known (C := "QuinceEnd$Tape") (T := q_T6) (N := 3) (n := 3) hts q_in6 (hts _ kn_Ta)
      exact ⟨(c, i), fun q hq => by cases hq; exact h⟩
    | 7 =>
      obtain ⟨c, i, h⟩ := u_known (C := "QuinceEnd$Thing") (T := q_T7) (N := 8) (n := 8) hts q_in7 (hts _ kn_Th)
      exact ⟨(c, i), fun q hq => by cases hq; exact h⟩
    | 8 =>
      obtain ⟨c, i, h⟩ := u_known (C := "QuinceEnd$Whole") (T := q_T8) (N := 4) (n := 4) hts q_in8 (hts _ kn_Wh)
      exact ⟨(c, i), fun q hq => by cases hq; exact h⟩
    | 9 =>
      obtain ⟨c, i, h⟩ := u_known (C := "QuinceEnd") (T := q_T9) (N := 9) (n := 9) hts q_in9 (hts _ kn_Qu)
      exact ⟨(c, i), fun q hq => by cases hq; exact h⟩
    | 10 =>
      obtain ⟨c, i, h⟩ := u_known (C := "QuinceEndModel") (T := q_T10) (N := 77) (n := 77) hts q_in10 (hts _ kn_Mo)
      exact ⟨(c, i), fun q hq => by cases hq; exact h⟩
    | k + 11 => exact ⟨(0, fun _ => 0), fun q hq => by simp [q_cls] at hq⟩
  exact ⟨fun k => (Classical.choose (h k)).1, fun k => (Classical.choose (h k)).2, fun k => Classical.choose_spec (h k)⟩
set_option maxHeartbeats 4000000 in
set_option maxRecDepth 20000 in
theorem q_tab0 {args : Array Value} {s : State} {A : Nat → Prop} (hs : ∀ c ∈ flatC (Jvm.Cond.and given_1 narrow_1), c.before args s = true) (hA : ∀ a : Nat, a < s.heap.size → ¬ A a) : ∃ t : Nat, (Term.static "QuinceEnd" "ABOVE" "[I").eval args s none [] s = some (.ref t) ∧ va_T .int t 7 (fun j => .int (qAbove j)) A s s.heap := by
  refine va_Tof (by decide) (hs _ (by decide +kernel)) (va_eqt (hs (Cond.eq (.length (.static "QuinceEnd" "ABOVE" "[I")) (.int 7)) (by decide +kernel))) (fun j hj => ?_) hA
  rcases (show j = 0 ∨ j = 1 ∨ j = 2 ∨ j = 3 ∨ j = 4 ∨ j = 5 ∨ j = 6 by omega) with rfl | rfl | rfl | rfl | rfl | rfl | rfl
  · exact va_eqt (hs (Cond.eq (.elem (.static "QuinceEnd" "ABOVE" "[I") (.int 0)) (.int (-1))) (by decide +kernel))
  · exact va_eqt (hs (Cond.eq (.elem (.static "QuinceEnd" "ABOVE" "[I") (.int 1)) (.int 0)) (by decide +kernel))
  · exact va_eqt (hs (Cond.eq (.elem (.static "QuinceEnd" "ABOVE" "[I") (.int 2)) (.int 0)) (by decide +kernel))
  · exact va_eqt (hs (Cond.eq (.elem (.static "QuinceEnd" "ABOVE" "[I") (.int 3)) (.int 0)) (by decide +kernel))
  · exact va_eqt (hs (Cond.eq (.elem (.static "QuinceEnd" "ABOVE" "[I") (.int 4)) (.int 1)) (by decide +kernel))
  · exact va_eqt (hs (Cond.eq (.elem (.static "QuinceEnd" "ABOVE" "[I") (.int 5)) (.int 2)) (by decide +kernel))
  · exact va_eqt (hs (Cond.eq (.elem (.static "QuinceEnd" "ABOVE" "[I") (.int 6)) (.int 3)) (by decide +kernel))
set_option maxHeartbeats 4000000 in
set_option maxRecDepth 20000 in
theorem q_tab1 {args : Array Value} {s : State} {A : Nat → Prop} (hs : ∀ c ∈ flatC (Jvm.Cond.and given_1 narrow_1), c.before args s = true) (hA : ∀ a : Nat, a < s.heap.size → ¬ A a) : ∃ t : Nat, (Term.static "QuinceEnd$Acting" "BODIES" "[I").eval args s none [] s = some (.ref t) ∧ va_T .int t 21 (fun j => .int (qBodies j)) A s s.heap := by
  refine va_Tof (by decide) (hs _ (by decide +kernel)) (va_eqt (hs (Cond.eq (.length (.static "QuinceEnd$Acting" "BODIES" "[I")) (.int 21)) (by decide +kernel))) (fun j hj => ?_) hA
  rcases (show j = 0 ∨ j = 1 ∨ j = 2 ∨ j = 3 ∨ j = 4 ∨ j = 5 ∨ j = 6 ∨ j = 7 ∨ j = 8 ∨ j = 9 ∨ j = 10 ∨ j = 11 ∨ j = 12 ∨ j = 13 ∨ j = 14 ∨ j = 15 ∨ j = 16 ∨ j = 17 ∨ j = 18 ∨ j = 19 ∨ j = 20 by omega) with rfl | rfl | rfl | rfl | rfl | rfl | rfl | rfl | rfl | rfl | rfl | rfl | rfl | rfl | rfl | rfl | rfl | rfl | rfl | rfl | rfl
  · exact va_eqt (hs (Cond.eq (.elem (.static "QuinceEnd$Acting" "BODIES" "[I") (.int 0)) (.int 10)) (by decide +kernel))
  · exact va_eqt (hs (Cond.eq (.elem (.static "QuinceEnd$Acting" "BODIES" "[I") (.int 1)) (.int 11)) (by decide +kernel))
  · exact va_eqt (hs (Cond.eq (.elem (.static "QuinceEnd$Acting" "BODIES" "[I") (.int 2)) (.int 12)) (by decide +kernel))
  · exact va_eqt (hs (Cond.eq (.elem (.static "QuinceEnd$Acting" "BODIES" "[I") (.int 3)) (.int 0)) (by decide +kernel))
  · exact va_eqt (hs (Cond.eq (.elem (.static "QuinceEnd$Acting" "BODIES" "[I") (.int 4)) (.int 20)) (by decide +kernel))
  · exact va_eqt (hs (Cond.eq (.elem (.static "QuinceEnd$Acting" "BODIES" "[I") (.int 5)) (.int 0)) (by decide +kernel))
  · exact va_eqt (hs (Cond.eq (.elem (.static "QuinceEnd$Acting" "BODIES" "[I") (.int 6)) (.int 30)) (by decide +kernel))
  · exact va_eqt (hs (Cond.eq (.elem (.static "QuinceEnd$Acting" "BODIES" "[I") (.int 7)) (.int 0)) (by decide +kernel))
  · exact va_eqt (hs (Cond.eq (.elem (.static "QuinceEnd$Acting" "BODIES" "[I") (.int 8)) (.int 0)) (by decide +kernel))
  · exact va_eqt (hs (Cond.eq (.elem (.static "QuinceEnd$Acting" "BODIES" "[I") (.int 9)) (.int 0)) (by decide +kernel))
  · exact va_eqt (hs (Cond.eq (.elem (.static "QuinceEnd$Acting" "BODIES" "[I") (.int 10)) (.int 0)) (by decide +kernel))
  · exact va_eqt (hs (Cond.eq (.elem (.static "QuinceEnd$Acting" "BODIES" "[I") (.int 11)) (.int 40)) (by decide +kernel))
  · exact va_eqt (hs (Cond.eq (.elem (.static "QuinceEnd$Acting" "BODIES" "[I") (.int 12)) (.int 50)) (by decide +kernel))
  · exact va_eqt (hs (Cond.eq (.elem (.static "QuinceEnd$Acting" "BODIES" "[I") (.int 13)) (.int 51)) (by decide +kernel))
  · exact va_eqt (hs (Cond.eq (.elem (.static "QuinceEnd$Acting" "BODIES" "[I") (.int 14)) (.int 0)) (by decide +kernel))
  · exact va_eqt (hs (Cond.eq (.elem (.static "QuinceEnd$Acting" "BODIES" "[I") (.int 15)) (.int 0)) (by decide +kernel))
  · exact va_eqt (hs (Cond.eq (.elem (.static "QuinceEnd$Acting" "BODIES" "[I") (.int 16)) (.int 0)) (by decide +kernel))
  · exact va_eqt (hs (Cond.eq (.elem (.static "QuinceEnd$Acting" "BODIES" "[I") (.int 17)) (.int 60)) (by decide +kernel))
  · exact va_eqt (hs (Cond.eq (.elem (.static "QuinceEnd$Acting" "BODIES" "[I") (.int 18)) (.int 71)) (by decide +kernel))
  · exact va_eqt (hs (Cond.eq (.elem (.static "QuinceEnd$Acting" "BODIES" "[I") (.int 19)) (.int 70)) (by decide +kernel))
  · exact va_eqt (hs (Cond.eq (.elem (.static "QuinceEnd$Acting" "BODIES" "[I") (.int 20)) (.int 0)) (by decide +kernel))
set_option maxHeartbeats 8000000 in
set_option maxRecDepth 20000 in
theorem q_strs {args : Array Value} {s : State} {A : Nat → Prop} (hs : ∀ c ∈ flatC (Jvm.Cond.and given_1 narrow_1), c.before args s = true) (hA : ∀ a : Nat, a < s.heap.size → ¬ A a) : ∃ adK adV : Nat → Nat, vk_S 5 qlen qbyt adK adV A s s.heap ∧ ∀ i : Nat, i < 5 → (Term.string "QuinceEnd$Reading" (q_sx i)).eval args s none [] s = some (.ref (adK i)) := by
  refine vk_Sof (tm := fun i => Term.string "QuinceEnd$Reading" (q_sx i)) ?_ ?_ ?_ ?_ ?_ ?_ ?_ hA
  · intro i hi
    rcases (show i = 0 ∨ i = 1 ∨ i = 2 ∨ i = 3 ∨ i = 4 by omega) with rfl | rfl | rfl | rfl | rfl <;> decide
  · intro i hi
    rcases (show i = 0 ∨ i = 1 ∨ i = 2 ∨ i = 3 ∨ i = 4 by omega) with rfl | rfl | rfl | rfl | rfl
    · exact hs (Cond.exactly (.string "QuinceEnd$Reading" 64) "java/lang/String") (by decide +kernel)
    · exact hs (Cond.exactly (.string "QuinceEnd$Reading" 46) "java/lang/String") (by decide +kernel)
    · exact hs (Cond.exactly (.string "QuinceEnd$Reading" 48) "java/lang/String") (by decide +kernel)
    · exact hs (Cond.exactly (.string "QuinceEnd$Reading" 72) "java/lang/String") (by decide +kernel)
    · exact hs (Cond.exactly (.string "QuinceEnd$Reading" 78) "java/lang/String") (by decide +kernel)
  · intro i hi
    rcases (show i = 0 ∨ i = 1 ∨ i = 2 ∨ i = 3 ∨ i = 4 by omega) with rfl | rfl | rfl | rfl | rfl
    · exact hs (Cond.eq (.field (.string "QuinceEnd$Reading" 64) "java/lang/String" "coder" "B") (.int 0)) (by decide +kernel)
    · exact hs (Cond.eq (.field (.string "QuinceEnd$Reading" 46) "java/lang/String" "coder" "B") (.int 0)) (by decide +kernel)
    · exact hs (Cond.eq (.field (.string "QuinceEnd$Reading" 48) "java/lang/String" "coder" "B") (.int 0)) (by decide +kernel)
    · exact hs (Cond.eq (.field (.string "QuinceEnd$Reading" 72) "java/lang/String" "coder" "B") (.int 0)) (by decide +kernel)
    · exact hs (Cond.eq (.field (.string "QuinceEnd$Reading" 78) "java/lang/String" "coder" "B") (.int 0)) (by decide +kernel)
  · intro i hi
    rcases (show i = 0 ∨ i = 1 ∨ i = 2 ∨ i = 3 ∨ i = 4 by omega) with rfl | rfl | rfl | rfl | rfl
    · exact hs (Cond.arrayOf (.field (.string "QuinceEnd$Reading" 64) "java/lang/String" "value" "[B") .byte) (by decide +kernel)
    · exact hs (Cond.arrayOf (.field (.string "QuinceEnd$Reading" 46) "java/lang/String" "value" "[B") .byte) (by decide +kernel)
    · exact hs (Cond.arrayOf (.field (.string "QuinceEnd$Reading" 48) "java/lang/String" "value" "[B") .byte) (by decide +kernel)
    · exact hs (Cond.arrayOf (.field (.string "QuinceEnd$Reading" 72) "java/lang/String" "value" "[B") .byte) (by decide +kernel)
    · exact hs (Cond.arrayOf (.field (.string "QuinceEnd$Reading" 78) "java/lang/String" "value" "[B") .byte) (by decide +kernel)
  · intro i hi
    rcases (show i = 0 ∨ i = 1 ∨ i = 2 ∨ i = 3 ∨ i = 4 by omega) with rfl | rfl | rfl | rfl | rfl
    · exact hs (Cond.eq (.length (.field (.string "QuinceEnd$Reading" 64) "java/lang/String" "value" "[B")) (.int 5)) (by decide +kernel)
    · exact hs (Cond.eq (.length (.field (.string "QuinceEnd$Reading" 46) "java/lang/String" "value" "[B")) (.int 5)) (by decide +kernel)
    · exact hs (Cond.eq (.length (.field (.string "QuinceEnd$Reading" 48) "java/lang/String" "value" "[B")) (.int 6)) (by decide +kernel)
    · exact hs (Cond.eq (.length (.field (.string "QuinceEnd$Reading" 72) "java/lang/String" "value" "[B")) (.int 6)) (by decide +kernel)
    · exact hs (Cond.eq (.length (.field (.string "QuinceEnd$Reading" 78) "java/lang/String" "value" "[B")) (.int 3)) (by decide +kernel)
  · intro i hi j hj
    rcases (show i = 0 ∨ i = 1 ∨ i = 2 ∨ i = 3 ∨ i = 4 by omega) with rfl | rfl | rfl | rfl | rfl
    · replace hj : j < 5 := hj
      rcases (show j = 0 ∨ j = 1 ∨ j = 2 ∨ j = 3 ∨ j = 4 by omega) with rfl | rfl | rfl | rfl | rfl
      · exact hs (Cond.eq (.elem (.field (.string "QuinceEnd$Reading" 64) "java/lang/String" "value" "[B") (.int 0)) (.int 110)) (by decide +kernel)
      · exact hs (Cond.eq (.elem (.field (.string "QuinceEnd$Reading" 64) "java/lang/String" "value" "[B") (.int 1)) (.int 101)) (by decide +kernel)
      · exact hs (Cond.eq (.elem (.field (.string "QuinceEnd$Reading" 64) "java/lang/String" "value" "[B") (.int 2)) (.int 101)) (by decide +kernel)
      · exact hs (Cond.eq (.elem (.field (.string "QuinceEnd$Reading" 64) "java/lang/String" "value" "[B") (.int 3)) (.int 100)) (by decide +kernel)
      · exact hs (Cond.eq (.elem (.field (.string "QuinceEnd$Reading" 64) "java/lang/String" "value" "[B") (.int 4)) (.int 32)) (by decide +kernel)
    · replace hj : j < 5 := hj
      rcases (show j = 0 ∨ j = 1 ∨ j = 2 ∨ j = 3 ∨ j = 4 by omega) with rfl | rfl | rfl | rfl | rfl
      · exact hs (Cond.eq (.elem (.field (.string "QuinceEnd$Reading" 46) "java/lang/String" "value" "[B") (.int 0)) (.int 100)) (by decide +kernel)
      · exact hs (Cond.eq (.elem (.field (.string "QuinceEnd$Reading" 46) "java/lang/String" "value" "[B") (.int 1)) (.int 97)) (by decide +kernel)
      · exact hs (Cond.eq (.elem (.field (.string "QuinceEnd$Reading" 46) "java/lang/String" "value" "[B") (.int 2)) (.int 114)) (by decide +kernel)
      · exact hs (Cond.eq (.elem (.field (.string "QuinceEnd$Reading" 46) "java/lang/String" "value" "[B") (.int 3)) (.int 107)) (by decide +kernel)
      · exact hs (Cond.eq (.elem (.field (.string "QuinceEnd$Reading" 46) "java/lang/String" "value" "[B") (.int 4)) (.int 32)) (by decide +kernel)
    · replace hj : j < 6 := hj
      rcases (show j = 0 ∨ j = 1 ∨ j = 2 ∨ j = 3 ∨ j = 4 ∨ j = 5 by omega) with rfl | rfl | rfl | rfl | rfl | rfl
      · exact hs (Cond.eq (.elem (.field (.string "QuinceEnd$Reading" 48) "java/lang/String" "value" "[B") (.int 0)) (.int 99)) (by decide +kernel)
      · exact hs (Cond.eq (.elem (.field (.string "QuinceEnd$Reading" 48) "java/lang/String" "value" "[B") (.int 1)) (.int 108)) (by decide +kernel)
      · exact hs (Cond.eq (.elem (.field (.string "QuinceEnd$Reading" 48) "java/lang/String" "value" "[B") (.int 2)) (.int 101)) (by decide +kernel)
      · exact hs (Cond.eq (.elem (.field (.string "QuinceEnd$Reading" 48) "java/lang/String" "value" "[B") (.int 3)) (.int 97)) (by decide +kernel)
      · exact hs (Cond.eq (.elem (.field (.string "QuinceEnd$Reading" 48) "java/lang/String" "value" "[B") (.int 4)) (.int 114)) (by decide +kernel)
      · exact hs (Cond.eq (.elem (.field (.string "QuinceEnd$Reading" 48) "java/lang/String" "value" "[B") (.int 5)) (.int 32)) (by decide +kernel)
    · replace hj : j < 6 := hj
      rcases (show j = 0 ∨ j = 1 ∨ j = 2 ∨ j = 3 ∨ j = 4 ∨ j = 5 by omega) with rfl | rfl | rfl | rfl | rfl | rfl
      · exact hs (Cond.eq (.elem (.field (.string "QuinceEnd$Reading" 72) "java/lang/String" "value" "[B") (.int 0)) (.int 112)) (by decide +kernel)
      · exact hs (Cond.eq (.elem (.field (.string "QuinceEnd$Reading" 72) "java/lang/String" "value" "[B") (.int 1)) (.int 107)) (by decide +kernel)
      · exact hs (Cond.eq (.elem (.field (.string "QuinceEnd$Reading" 72) "java/lang/String" "value" "[B") (.int 2)) (.int 118)) (by decide +kernel)
      · exact hs (Cond.eq (.elem (.field (.string "QuinceEnd$Reading" 72) "java/lang/String" "value" "[B") (.int 3)) (.int 119)) (by decide +kernel)
      · exact hs (Cond.eq (.elem (.field (.string "QuinceEnd$Reading" 72) "java/lang/String" "value" "[B") (.int 4)) (.int 111)) (by decide +kernel)
      · exact hs (Cond.eq (.elem (.field (.string "QuinceEnd$Reading" 72) "java/lang/String" "value" "[B") (.int 5)) (.int 109)) (by decide +kernel)
    · replace hj : j < 3 := hj
      rcases (show j = 0 ∨ j = 1 ∨ j = 2 by omega) with rfl | rfl | rfl
      · exact hs (Cond.eq (.elem (.field (.string "QuinceEnd$Reading" 78) "java/lang/String" "value" "[B") (.int 0)) (.int 60)) (by decide +kernel)
      · exact hs (Cond.eq (.elem (.field (.string "QuinceEnd$Reading" 78) "java/lang/String" "value" "[B") (.int 1)) (.int 61)) (by decide +kernel)
      · exact hs (Cond.eq (.elem (.field (.string "QuinceEnd$Reading" 78) "java/lang/String" "value" "[B") (.int 2)) (.int 62)) (by decide +kernel)
  · intro i j hi hj hij
    rcases (show i = 0 ∨ i = 1 ∨ i = 2 ∨ i = 3 ∨ i = 4 by omega) with rfl | rfl | rfl | rfl | rfl <;> rcases (show j = 0 ∨ j = 1 ∨ j = 2 ∨ j = 3 ∨ j = 4 by omega) with rfl | rfl | rfl | rfl | rfl
    · exact absurd rfl hij
    · exact Or.inl (hs (Cond.not (Cond.eq (.string "QuinceEnd$Reading" 64) (.string "QuinceEnd$Reading" 46))) (by decide +kernel))
    · exact Or.inl (hs (Cond.not (Cond.eq (.string "QuinceEnd$Reading" 64) (.string "QuinceEnd$Reading" 48))) (by decide +kernel))
    · exact Or.inl (hs (Cond.not (Cond.eq (.string "QuinceEnd$Reading" 64) (.string "QuinceEnd$Reading" 72))) (by decide +kernel))
    · exact Or.inl (hs (Cond.not (Cond.eq (.string "QuinceEnd$Reading" 64) (.string "QuinceEnd$Reading" 78))) (by decide +kernel))
    · exact Or.inr (hs (Cond.not (Cond.eq (.string "QuinceEnd$Reading" 64) (.string "QuinceEnd$Reading" 46))) (by decide +kernel))
    · exact absurd rfl hij
    · exact Or.inl (hs (Cond.not (Cond.eq (.string "QuinceEnd$Reading" 46) (.string "QuinceEnd$Reading" 48))) (by decide +kernel))
    · exact Or.inl (hs (Cond.not (Cond.eq (.string "QuinceEnd$Reading" 46) (.string "QuinceEnd$Reading" 72))) (by decide +kernel))
    · exact Or.inl (hs (Cond.not (Cond.eq (.string "QuinceEnd$Reading" 46) (.string "QuinceEnd$Reading" 78))) (by decide +kernel))
    · exact Or.inr (hs (Cond.not (Cond.eq (.string "QuinceEnd$Reading" 64) (.string "QuinceEnd$Reading" 48))) (by decide +kernel))
    · exact Or.inr (hs (Cond.not (Cond.eq (.string "QuinceEnd$Reading" 46) (.string "QuinceEnd$Reading" 48))) (by decide +kernel))
    · exact absurd rfl hij
    · exact Or.inl (hs (Cond.not (Cond.eq (.string "QuinceEnd$Reading" 48) (.string "QuinceEnd$Reading" 72))) (by decide +kernel))
    · exact Or.inl (hs (Cond.not (Cond.eq (.string "QuinceEnd$Reading" 48) (.string "QuinceEnd$Reading" 78))) (by decide +kernel))
    · exact Or.inr (hs (Cond.not (Cond.eq (.string "QuinceEnd$Reading" 64) (.string "QuinceEnd$Reading" 72))) (by decide +kernel))
    · exact Or.inr (hs (Cond.not (Cond.eq (.string "QuinceEnd$Reading" 46) (.string "QuinceEnd$Reading" 72))) (by decide +kernel))
    · exact Or.inr (hs (Cond.not (Cond.eq (.string "QuinceEnd$Reading" 48) (.string "QuinceEnd$Reading" 72))) (by decide +kernel))
    · exact absurd rfl hij
    · exact Or.inl (hs (Cond.not (Cond.eq (.string "QuinceEnd$Reading" 72) (.string "QuinceEnd$Reading" 78))) (by decide +kernel))
    · exact Or.inr (hs (Cond.not (Cond.eq (.string "QuinceEnd$Reading" 64) (.string "QuinceEnd$Reading" 78))) (by decide +kernel))
    · exact Or.inr (hs (Cond.not (Cond.eq (.string "QuinceEnd$Reading" 46) (.string "QuinceEnd$Reading" 78))) (by decide +kernel))
    · exact Or.inr (hs (Cond.not (Cond.eq (.string "QuinceEnd$Reading" 48) (.string "QuinceEnd$Reading" 78))) (by decide +kernel))
    · exact Or.inr (hs (Cond.not (Cond.eq (.string "QuinceEnd$Reading" 72) (.string "QuinceEnd$Reading" 78))) (by decide +kernel))
    · exact absurd rfl hij
set_option maxHeartbeats 8000000 in
set_option maxRecDepth 20000 in
theorem q_env {s : State} {b L : Nat} {xs : Nat → Int32} (hts : ∀ w ∈ lw_tbl, w.before #[Value.ref b] s = true) (hX : va_X b L xs s s.heap) (hbl : b < s.heap.size) (hgv : (Jvm.Cond.and given_1 narrow_1).before #[Value.ref b] s = true) : ∃ E : qE, qb E = s.heap.size ∧ qL E = L ∧ qxs E = xs ∧ qc E 2 = b ∧ qK E s s.heap := by
  have hs := flat_of_before _ hgv
  have htG : ∀ w ∈ qG, w.before #[Value.ref b] s = true := fun w hw => hts w (q_sub hw)
  have hA : ∀ a : Nat, a < s.heap.size → ¬ (fun q : Nat => s.heap.size ≤ q) a := fun a h1 h2 => Nat.not_le.mpr h1 h2
  obtain ⟨dC, dI, hC⟩ := q_cls_of htG
  obtain ⟨c0, a0⟩ := q_arrs (Or.inl rfl) (htG _ q_arr_int)
  obtain ⟨c1, a1⟩ := q_arrs (Or.inr (Or.inl rfl)) (htG _ q_arr_long)
  obtain ⟨c2, a2⟩ := q_arrs (Or.inr (Or.inr rfl)) (htG _ q_arr_boolean)
  obtain ⟨c3, a3⟩ := q_arro (hts _ kao_0)
  obtain ⟨c4, a4⟩ := q_arro (hts _ kao_1)
  obtain ⟨c5, a5⟩ := q_arro (hts _ kao_2)
  obtain ⟨t0, e0, hT0⟩ := q_tab0 hs hA
  obtain ⟨t1, e1, hT1⟩ := q_tab1 hs hA
  obtain ⟨adK, adV, hS, hev⟩ := q_strs hs hA
  refine ⟨(s.heap.size, (dC, dI), (fun k => match k with | 0 => c0 | 1 => c1 | 2 => c2 | 3 => c3 | 4 => c4 | _ => c5), (fun n => if n = 0 then t0 else if n = 1 then t1 else if n = 2 then b else if n < 20 then adK (n - 10) else adV (n - 20)), L, xs), rfl, rfl, rfl, rfl, ⟨hC, ?_⟩, ⟨va_Zref (hts _ kls_0) (hts _ (q_sub ki_Qu)) e0 hA, hT0⟩, ⟨va_Zref (hts _ kls_1) (hts _ (q_sub ki_Ac)) e1 hA, hT1⟩, ⟨va_Zof (hts _ kls_2) (hts _ (q_sub ki_Js)) (va_eqi (hs (Cond.eq (.static "java/lang/String" "COMPACT_STRINGS" "Z") (.int 1)) (by decide +kernel))) hA, va_Zqof (hts _ kls_3) (hts _ (q_sub ki_Jp)) (hs (Cond.isRef (.static "jdk/internal/util/Preconditions" "SIOOBE_FORMATTER" "Ljava/util/function/BiFunction;")) (by decide +kernel)) hA⟩, ?_, ⟨vk_R.of (hts _ kr_64) (hev 0 (by decide)), vk_R.of (hts _ kr_46) (hev 1 (by decide)), vk_R.of (hts _ kr_48) (hev 2 (by decide)), vk_R.of (hts _ kr_72) (hev 3 (by decide)), vk_R.of (hts _ kr_78) (hev 4 (by decide))⟩, ⟨va_Nw.of rfl (hts _ kne_0), va_Nw.of rfl (hts _ kne_1), va_Nw.of rfl (hts _ kne_2), va_Nw.of rfl (hts _ kne_3), va_Nw.of rfl (hts _ kne_4)⟩, ⟨va_AO.of (hts _ kao_0), va_AO.of (hts _ kao_1), va_AO.of (hts _ kao_2)⟩, hX, hbl, hbl⟩
  · intro k q hk
    match k, hk with
    | 0, hk => cases hk; exact a0
    | 1, hk => cases hk; exact a1
    | 2, hk => cases hk; exact a2
    | 3, hk => cases hk; exact a3
    | 4, hk => cases hk; exact a4
    | 5, hk => cases hk; exact a5
    | k + 6, hk => simp [qtys] at hk
  · refine ⟨fun i hi => ?_, fun i j hi hj e => hS.2 i j hi hj ?_⟩
    · have h := hS.1 i hi
      rcases (show i = 0 ∨ i = 1 ∨ i = 2 ∨ i = 3 ∨ i = 4 by omega) with rfl | rfl | rfl | rfl | rfl <;> exact h
    · rcases (show i = 0 ∨ i = 1 ∨ i = 2 ∨ i = 3 ∨ i = 4 by omega) with rfl | rfl | rfl | rfl | rfl <;> rcases (show j = 0 ∨ j = 1 ∨ j = 2 ∨ j = 3 ∨ j = 4 by omega) with rfl | rfl | rfl | rfl | rfl <;> exact e
