def c_As_behind_0 (d : Nat) (E : qE) (Q : qW → Int32 → Prop) (a1 : Int32) (a2 : Int32) (w : qW) : Prop := Go (d + 5) M_As_behind E 161 161 (qFI Q) 0 [(0, .ref (qb E + 55)), (1, .int a1), (2, .int a2)] [] w
set_option maxHeartbeats 4000000 in
set_option maxRecDepth 8000 in
theorem s_As_behind_0 {d : Nat} {E : qE} {Q : qW → Int32 → Prop} {a1 : Int32} {a2 : Int32} {w : qW} (hw : Sh w) (h : CaV (d + 4) M_Pa_copyFrom [.ref (qb E + 58), .ref (qb E + 15)] E w (fun w1 => CaV (d + 4) M_Pa_goMinutes [.ref (qb E + 58), .int a1] E w1 (fun w2 => ((a2 = 0) → ((((qz (qi w2 58 4)) = 0) → (Q w2 0)) ∧ ((¬ (qz (qi w2 58 4)) = 0) → (Q w2 1)))) ∧ ((¬ a2 = 0) → (Q w2 (qi w2 58 3)))))) : c_As_behind_0 d E Q a1 a2 w := by
  unfold c_As_behind_0
  refine g_aload_n 0 e_As_behind_0 rfl rfl ?_
  refine gf_As_27 rfl e_As_behind_1 hw lay_55 (by decide) (sh_As_trial hw) ?_
  refine g_aload_n 0 e_As_behind_4 rfl rfl ?_
  refine gf_As_18 rfl e_As_behind_5 hw lay_55 (by decide) (sh_As_now hw) ?_
  refine gf_As_31 rfl e_As_behind_8 hw (lay_Wh isWh5) (lt_Wh isWh5) (sh_Wh_pan hw isWh5) ?_
  refine w_callVV (w := w) (As := [.ref (qb E + 15)]) (rest := []) e_As_behind_11 ok_Pa_copyFrom rfl km_As_36 kx_Pa_copyFrom kv_Pa_copyFrom rfl (by decide) hw (lay_Pa isPan58) (lt_Pa isPan58) rfl (Nat.le_of_ble_eq_true rfl) h (fun w1 hw1 h => ?_)
  refine g_aload_n 0 e_As_behind_14 rfl rfl ?_
  refine gf_As_27 rfl e_As_behind_15 hw1 lay_55 (by decide) (sh_As_trial hw1) ?_
  refine g_iload_n 1 e_As_behind_18 rfl rfl ?_
  refine w_callVV (w := w1) (As := [.int a1]) (rest := []) e_As_behind_19 ok_Pa_goMinutes rfl km_As_40 kx_Pa_goMinutes kv_Pa_goMinutes rfl (by decide) hw1 (lay_Pa isPan58) (lt_Pa isPan58) rfl (Nat.le_of_ble_eq_true rfl) h (fun w2 hw2 h => ?_)
  refine g_iload_n 2 e_As_behind_22 rfl rfl ?_
  refine g_if_eq 34 e_As_behind_23 (by decide) ⟨fun z3 => ?_, fun z3 => ?_⟩
  · have h := h.1 z3
    refine g_aload_n 0 e_As_behind_34 rfl rfl ?_
    refine gf_As_27 rfl e_As_behind_35 hw2 lay_55 (by decide) (sh_As_trial hw2) ?_
    refine gf_As_48 rfl e_As_behind_38 hw2 (lay_Pa isPan58) (lt_Pa isPan58) ?_
    refine g_if_eq 48 e_As_behind_41 (by decide) ⟨fun z4 => ?_, fun z4 => ?_⟩
    · have h := h.1 z4
      refine g_iconst (v := 0) e_As_behind_48 (by decide) ?_
      exact g_iret e_As_behind_49 rfl ⟨Sh.n hw2, _, rfl, hw2, h⟩
    · have h := h.2 z4
      refine g_iconst (v := 1) e_As_behind_44 (by decide) ?_
      refine g_goto 49 e_As_behind_45 (by decide) ?_
      exact g_iret e_As_behind_49 rfl ⟨Sh.n hw2, _, rfl, hw2, h⟩
  · have h := h.2 z3
    refine g_aload_n 0 e_As_behind_26 rfl rfl ?_
    refine gf_As_27 rfl e_As_behind_27 hw2 lay_55 (by decide) (sh_As_trial hw2) ?_
    refine gf_As_44 rfl e_As_behind_30 hw2 (lay_Pa isPan58) (lt_Pa isPan58) ?_
    exact g_iret e_As_behind_33 rfl ⟨Sh.n hw2, _, rfl, hw2, h⟩
theorem en_As_behind {d : Nat} {E : qE} {Q : qW → Int32 → Prop} {a1 : Int32} {a2 : Int32} {w : qW} (hw : Sh w) (h : c_As_behind_0 d E Q a1 a2 w) : CaI (d + 5) M_As_behind [.ref (qb E + 55), .int a1, .int a2] E w Q := Ca.into hw rfl (Nat.le_of_ble_eq_true rfl) h
def c_As_sets_0 (d : Nat) (E : qE) (Q : qW → Int32 → Prop) (w : qW) : Prop := Go (d + 5) M_As_sets E 161 161 (qFI Q) 0 [(0, .ref (qb E + 55))] [] w
set_option maxHeartbeats 4000000 in
set_option maxRecDepth 8000 in
theorem s_As_sets_0 {d : Nat} {E : qE} {Q : qW → Int32 → Prop} {w : qW} (hw : Sh w) (h : CaV (d + 4) M_Pa_copyFrom [.ref (qb E + 58), .ref (qb E + 15)] E w (fun w1 => CaI (d + 4) M_As_minutesToSet [.ref (qb E + 55)] E w1 (fun w2 x2 => ((¬ x2 = 61) → (Q w2 x2)) ∧ ((x2 = 61) → (Q w2 (-5)))))) : c_As_sets_0 d E Q  w := by
  unfold c_As_sets_0
  refine g_aload_n 0 e_As_sets_0 rfl rfl ?_
  refine gf_As_27 rfl e_As_sets_1 hw lay_55 (by decide) (sh_As_trial hw) ?_
  refine g_aload_n 0 e_As_sets_4 rfl rfl ?_
  refine gf_As_18 rfl e_As_sets_5 hw lay_55 (by decide) (sh_As_now hw) ?_
  refine gf_As_31 rfl e_As_sets_8 hw (lay_Wh isWh5) (lt_Wh isWh5) (sh_Wh_pan hw isWh5) ?_
  refine w_callVV (w := w) (As := [.ref (qb E + 15)]) (rest := []) e_As_sets_11 ok_Pa_copyFrom rfl km_As_36 kx_Pa_copyFrom kv_Pa_copyFrom rfl (by decide) hw (lay_Pa isPan58) (lt_Pa isPan58) rfl (Nat.le_of_ble_eq_true rfl) h (fun w1 hw1 h => ?_)
  refine g_aload_n 0 e_As_sets_14 rfl rfl ?_
  refine w_callVI (w := w1) (As := []) (rest := []) e_As_sets_15 ok_As_minutesToSet rfl km_As_52 kx_As_minutesToSet kv_As_minutesToSet rfl (by decide) hw1 lay_55 (by decide) rfl (Nat.le_of_ble_eq_true rfl) h (fun w2 x2 hw2 h => ?_)
  refine g_istore_n (lv := [(1, .int x2), (0, .ref (qb E + 55))]) e_As_sets_18 rfl (by decide) rfl ?_
  refine g_iload_n 0 e_As_sets_19 rfl rfl ?_
  refine g_bipush (v := 61) e_As_sets_20 (by decide) ?_
  refine g_icmp_ne 30 e_As_sets_22 (by decide) ⟨fun z3 => ?_, fun z3 => ?_⟩
  · have h := h.1 z3
    refine g_iload_n 0 e_As_sets_30 rfl rfl ?_
    exact g_iret e_As_sets_31 rfl ⟨Sh.n hw2, _, rfl, hw2, h⟩
  · have h := h.2 z3
    refine g_bipush (v := (-5)) e_As_sets_25 (by decide) ?_
    refine g_goto 31 e_As_sets_27 (by decide) ?_
    exact g_iret e_As_sets_31 rfl ⟨Sh.n hw2, _, rfl, hw2, h⟩
theorem en_As_sets {d : Nat} {E : qE} {Q : qW → Int32 → Prop} {w : qW} (hw : Sh w) (h : c_As_sets_0 d E Q  w) : CaI (d + 5) M_As_sets [.ref (qb E + 55)] E w Q := Ca.into hw rfl (Nat.le_of_ble_eq_true rfl) h
def c_As_minutesToSet_0 (d : Nat) (E : qE) (Q : qW → Int32 → Prop) (w : qW) : Prop := Go (d + 4) M_As_minutesToSet E 161 161 (qFI Q) 0 [(0, .ref (qb E + 55))] [] w
def c_As_minutesToSet_2 (d : Nat) (E : qE) (Q : qW → Int32 → Prop) (l1 : Int32) (w : qW) : Prop := Go (d + 4) M_As_minutesToSet E 161 161 (qFI Q) 2 [(0, .ref (qb E + 55)), (1, .int l1)] [] w
set_option maxHeartbeats 4000000 in
set_option maxRecDepth 8000 in
theorem s_As_minutesToSet_0 {d : Nat} {E : qE} {Q : qW → Int32 → Prop} {w : qW} (hw : Sh w) (h : c_As_minutesToSet_2 d E Q 0 w) : c_As_minutesToSet_0 d E Q  w := by
  unfold c_As_minutesToSet_0
  refine g_iconst (v := 0) e_As_minutesToSet_0 (by decide) ?_
  refine g_istore_n (lv := [(1, .int 0), (0, .ref (qb E + 55))]) e_As_minutesToSet_1 rfl (by decide) rfl ?_
  refine g_loc [1, 0] rfl ?_
  exact h
set_option maxHeartbeats 4000000 in
set_option maxRecDepth 8000 in
theorem s_As_minutesToSet_2 {d : Nat} {E : qE} {Q : qW → Int32 → Prop} {l1 : Int32} {w : qW} (hw : Sh w) (h : ((60 < l1) → (Q w 61)) ∧ ((¬ 60 < l1) → ((((qz (qi w 58 4)) = 0) → (CaV (d + 3) M_Pa_goMinute [.ref (qb E + 58)] E w (fun w3 => c_As_minutesToSet_2 d E Q (l1 + 1) w3))) ∧ ((¬ (qz (qi w 58 4)) = 0) → (Q w l1))))) : c_As_minutesToSet_2 d E Q l1 w := by
  unfold c_As_minutesToSet_2
  refine g_iload_n 1 e_As_minutesToSet_2 rfl rfl ?_
  refine g_bipush (v := 60) e_As_minutesToSet_3 (by decide) ?_
  refine g_icmp_gt 33 e_As_minutesToSet_5 (by decide) ⟨fun z1 => ?_, fun z1 => ?_⟩
  · have h := h.1 z1
    refine g_bipush (v := 61) e_As_minutesToSet_33 (by decide) ?_
    exact g_iret e_As_minutesToSet_35 rfl ⟨Sh.n hw, _, rfl, hw, h⟩
  · have h := h.2 z1
    refine g_aload_n 0 e_As_minutesToSet_8 rfl rfl ?_
    refine gf_As_27 rfl e_As_minutesToSet_9 hw lay_55 (by decide) (sh_As_trial hw) ?_
    refine gf_As_48 rfl e_As_minutesToSet_12 hw (lay_Pa isPan58) (lt_Pa isPan58) ?_
    refine g_if_eq 20 e_As_minutesToSet_15 (by decide) ⟨fun z2 => ?_, fun z2 => ?_⟩
    · have h := h.1 z2
      refine g_aload_n 0 e_As_minutesToSet_20 rfl rfl ?_
      refine gf_As_27 rfl e_As_minutesToSet_21 hw lay_55 (by decide) (sh_As_trial hw) ?_
      refine w_callVV (w := w) (As := []) (rest := []) e_As_minutesToSet_24 ok_Pa_goMinute rfl km_As_56 kx_Pa_goMinute kv_Pa_goMinute rfl (by decide) hw (lay_Pa isPan58) (lt_Pa isPan58) rfl (Nat.le_of_ble_eq_true rfl) h (fun w3 hw3 h => ?_)
      refine g_iinc (v := (l1 + 1)) (lv := [(1, .int (l1 + 1)), (0, .ref (qb E + 55))]) 1 e_As_minutesToSet_27 rfl rfl (by decide) rfl ?_
      refine g_goto 2 e_As_minutesToSet_30 (by decide) ?_
      refine g_loc [1, 0] rfl ?_
      exact h
    · have h := h.2 z2
      refine g_iload_n 1 e_As_minutesToSet_18 rfl rfl ?_
      exact g_iret e_As_minutesToSet_19 rfl ⟨Sh.n hw, _, rfl, hw, h⟩
theorem en_As_minutesToSet {d : Nat} {E : qE} {Q : qW → Int32 → Prop} {w : qW} (hw : Sh w) (h : c_As_minutesToSet_0 d E Q  w) : CaI (d + 4) M_As_minutesToSet [.ref (qb E + 55)] E w Q := Ca.into hw rfl (Nat.le_of_ble_eq_true rfl) h
def c_As_word_0 (d : Nat) (E : qE) (Q : qW → Int32 → Prop) (w : qW) : Prop := Go (d + 5) M_As_word E 161 161 (qFI Q) 0 [(0, .ref (qb E + 55))] [] w
def c_As_word_24 (d : Nat) (E : qE) (Q : qW → Int32 → Prop) (l1 : Int32) (l2 : Int32) (l3 : Int32) (w : qW) : Prop := Go (d + 5) M_As_word E 161 161 (qFI Q) 24 [(0, .ref (qb E + 55)), (1, .int l1), (2, .int l2), (3, .int l3)] [] w
set_option maxHeartbeats 4000000 in
set_option maxRecDepth 8000 in
theorem s_As_word_0 {d : Nat} {E : qE} {Q : qW → Int32 → Prop} {w : qW} (hw : Sh w) (h : CaV (d + 4) M_Pa_copyFrom [.ref (qb E + 58), .ref (qb E + 15)] E w (fun w1 => CaI (d + 4) M_As_minutesToSet [.ref (qb E + 55)] E w1 (fun w2 x2 => c_As_word_24 d E Q x2 (-5) 0 w2))) : c_As_word_0 d E Q  w := by
  unfold c_As_word_0
  refine g_aload_n 0 e_As_word_0 rfl rfl ?_
  refine gf_As_27 rfl e_As_word_1 hw lay_55 (by decide) (sh_As_trial hw) ?_
  refine g_aload_n 0 e_As_word_4 rfl rfl ?_
  refine gf_As_18 rfl e_As_word_5 hw lay_55 (by decide) (sh_As_now hw) ?_
  refine gf_As_31 rfl e_As_word_8 hw (lay_Wh isWh5) (lt_Wh isWh5) (sh_Wh_pan hw isWh5) ?_
  refine w_callVV (w := w) (As := [.ref (qb E + 15)]) (rest := []) e_As_word_11 ok_Pa_copyFrom rfl km_As_36 kx_Pa_copyFrom kv_Pa_copyFrom rfl (by decide) hw (lay_Pa isPan58) (lt_Pa isPan58) rfl (Nat.le_of_ble_eq_true rfl) h (fun w1 hw1 h => ?_)
  refine g_aload_n 0 e_As_word_14 rfl rfl ?_
  refine w_callVI (w := w1) (As := []) (rest := []) e_As_word_15 ok_As_minutesToSet rfl km_As_52 kx_As_minutesToSet kv_As_minutesToSet rfl (by decide) hw1 lay_55 (by decide) rfl (Nat.le_of_ble_eq_true rfl) h (fun w2 x2 hw2 h => ?_)
  refine g_istore_n (lv := [(1, .int x2), (0, .ref (qb E + 55))]) e_As_word_18 rfl (by decide) rfl ?_
  refine g_bipush (v := (-5)) e_As_word_19 (by decide) ?_
  refine g_istore_n (lv := [(2, .int (-5)), (1, .int x2), (0, .ref (qb E + 55))]) e_As_word_21 rfl (by decide) rfl ?_
  refine g_iconst (v := 0) e_As_word_22 (by decide) ?_
  refine g_istore_n (lv := [(3, .int 0), (2, .int (-5)), (1, .int x2), (0, .ref (qb E + 55))]) e_As_word_23 rfl (by decide) rfl ?_
  refine g_loc [3, 2, 1, 0] rfl ?_
  exact h
set_option maxHeartbeats 4000000 in
set_option maxRecDepth 8000 in
theorem s_As_word_24 {d : Nat} {E : qE} {Q : qW → Int32 → Prop} {l1 : Int32} {l2 : Int32} {l3 : Int32} {w : qW} (hw : Sh w) (h : ((6 ≤ l3) → (Q w l2)) ∧ ((¬ 6 ≤ l3) → (CaV (d + 4) M_Pa_copyFrom [.ref (qb E + 58), .ref (qb E + 15)] E w (fun w2 => CaR (d + 4) M_Pa_find [.ref (qb E + 58), .int l3] E w2 (fun w3 x3 => (x3 = none ∧ (c_As_word_24 d E Q l1 l2 (l3 + 1) w3)) ∨ (∃ i3, i3 < 6 ∧ x3 = some (58 + 3 + 2 * i3) ∧ ((((qi w3 (58 + 3 + 2 * i3) 5) = 2) → (c_As_word_24 d E Q l1 l2 (l3 + 1) w3)) ∧ ((¬ (qi w3 (58 + 3 + 2 * i3) 5) = 2) → (CaV (d + 4) M_Pa_speak [.ref (qb E + 58), .ref (qb E + (58 + 3 + 2 * i3))] E w3 (fun w5 => CaI (d + 4) M_As_minutesToSet [.ref (qb E + 55)] E w5 (fun w6 x6 => ((x6 ≤ l1) → (c_As_word_24 d E Q l1 l2 (l3 + 1) w6)) ∧ ((¬ x6 ≤ l1) → (c_As_word_24 d E Q x6 l3 (l3 + 1) w6))))))))))))) : c_As_word_24 d E Q l1 l2 l3 w := by
  unfold c_As_word_24
  refine g_iload_n 3 e_As_word_24 rfl rfl ?_
  refine g_bipush (v := 6) e_As_word_25 (by decide) ?_
  refine g_icmp_ge 100 e_As_word_27 (by decide) ⟨fun z1 => ?_, fun z1 => ?_⟩
  · have h := h.1 z1
    refine g_iload_n 2 e_As_word_100 rfl rfl ?_
    exact g_iret e_As_word_101 rfl ⟨Sh.n hw, _, rfl, hw, h⟩
  · have h := h.2 z1
    refine g_aload_n 0 e_As_word_30 rfl rfl ?_
    refine gf_As_27 rfl e_As_word_31 hw lay_55 (by decide) (sh_As_trial hw) ?_
    refine g_aload_n 0 e_As_word_34 rfl rfl ?_
    refine gf_As_18 rfl e_As_word_35 hw lay_55 (by decide) (sh_As_now hw) ?_
    refine gf_As_31 rfl e_As_word_38 hw (lay_Wh isWh5) (lt_Wh isWh5) (sh_Wh_pan hw isWh5) ?_
    refine w_callVV (w := w) (As := [.ref (qb E + 15)]) (rest := []) e_As_word_41 ok_Pa_copyFrom rfl km_As_36 kx_Pa_copyFrom kv_Pa_copyFrom rfl (by decide) hw (lay_Pa isPan58) (lt_Pa isPan58) rfl (Nat.le_of_ble_eq_true rfl) h (fun w2 hw2 h => ?_)
    refine g_aload_n 0 e_As_word_44 rfl rfl ?_
    refine gf_As_27 rfl e_As_word_45 hw2 lay_55 (by decide) (sh_As_trial hw2) ?_
    refine g_iload_n 3 e_As_word_48 rfl rfl ?_
    refine w_callVR (w := w2) (As := [.int l3]) (rest := []) e_As_word_49 ok_Pa_find rfl km_As_59 kx_Pa_find kv_Pa_find rfl (by decide) hw2 (lay_Pa isPan58) (lt_Pa isPan58) rfl (Nat.le_of_ble_eq_true rfl) h (fun w3 x3 hw3 h => ?_)
    obtain ⟨rfl, h⟩ | ⟨i3, hi3, rfl, h⟩ := h
    · change Go _ _ _ _ _ _ _ _ (.null :: _) _
      refine g_astoreN (lv := [(4, .null), (0, .ref (qb E + 55)), (1, .int l1), (2, .int l2), (3, .int l3)]) e_As_word_52 (by decide) rfl ?_
      refine g_aloadN 0 e_As_word_54 rfl ?_
      refine g_ifnullN 94 e_As_word_56 (by decide) ?_
      refine g_iinc (v := (l3 + 1)) (lv := [(3, .int (l3 + 1)), (4, .null), (0, .ref (qb E + 55)), (1, .int l1), (2, .int l2)]) 4 e_As_word_94 rfl rfl (by decide) rfl ?_
      refine g_goto 24 e_As_word_97 (by decide) ?_
      refine g_loc [2, 3, 4, 0] rfl ?_
      exact h
    · change Go _ _ _ _ _ _ _ _ (.ref (qb E + (58 + 3 + 2 * i3)) :: _) _
      refine g_astore (lv := [(4, .ref (qb E + (58 + 3 + 2 * i3))), (0, .ref (qb E + 55)), (1, .int l1), (2, .int l2), (3, .int l3)]) e_As_word_52 (by decide) rfl ?_
      refine g_aload 0 e_As_word_54 rfl ?_
      refine g_ifnull e_As_word_56 ?_
      refine g_aload 0 e_As_word_59 rfl ?_
      refine gf_As_63 rfl e_As_word_61 hw3 (lay_Th (isTh_of isPan58 hi3)) (lt_Th (isTh_of isPan58 hi3)) ?_
      refine g_iconst (v := 2) e_As_word_64 (by decide) ?_
      refine g_icmp_eq 94 e_As_word_65 (by decide) ⟨fun z4 => ?_, fun z4 => ?_⟩
      · have h := h.1 z4
        refine g_iinc (v := (l3 + 1)) (lv := [(3, .int (l3 + 1)), (4, .ref (qb E + (58 + 3 + 2 * i3))), (0, .ref (qb E + 55)), (1, .int l1), (2, .int l2)]) 4 e_As_word_94 rfl rfl (by decide) rfl ?_
        refine g_goto 24 e_As_word_97 (by decide) ?_
        refine g_loc [2, 3, 4, 0] rfl ?_
        exact h
      · have h := h.2 z4
        refine g_aload_n 1 e_As_word_68 rfl rfl ?_
        refine gf_As_27 rfl e_As_word_69 hw3 lay_55 (by decide) (sh_As_trial hw3) ?_
        refine g_aload 0 e_As_word_72 rfl ?_
        refine w_callVV (w := w3) (As := [.ref (qb E + (58 + 3 + 2 * i3))]) (rest := []) e_As_word_74 ok_Pa_speak rfl km_As_68 kx_Pa_speak kv_Pa_speak rfl (by decide) hw3 (lay_Pa isPan58) (lt_Pa isPan58) rfl (Nat.le_of_ble_eq_true rfl) h (fun w5 hw5 h => ?_)
        refine g_aload_n 1 e_As_word_77 rfl rfl ?_
        refine w_callVI (w := w5) (As := []) (rest := []) e_As_word_78 ok_As_minutesToSet rfl km_As_52 kx_As_minutesToSet kv_As_minutesToSet rfl (by decide) hw5 lay_55 (by decide) rfl (Nat.le_of_ble_eq_true rfl) h (fun w6 x6 hw6 h => ?_)
        refine g_istore (lv := [(5, .int x6), (4, .ref (qb E + (58 + 3 + 2 * i3))), (0, .ref (qb E + 55)), (1, .int l1), (2, .int l2), (3, .int l3)]) e_As_word_81 (by decide) rfl ?_
        refine g_iload 0 e_As_word_83 rfl ?_
        refine g_iload_n 3 e_As_word_85 rfl rfl ?_
        refine g_icmp_le 94 e_As_word_86 (by decide) ⟨fun z7 => ?_, fun z7 => ?_⟩
        · have h := h.1 z7
          refine g_iinc (v := (l3 + 1)) (lv := [(3, .int (l3 + 1)), (5, .int x6), (4, .ref (qb E + (58 + 3 + 2 * i3))), (0, .ref (qb E + 55)), (1, .int l1), (2, .int l2)]) 5 e_As_word_94 rfl rfl (by decide) rfl ?_
          refine g_goto 24 e_As_word_97 (by decide) ?_
          refine g_loc [3, 4, 5, 0] rfl ?_
          exact h
        · have h := h.2 z7
          refine g_iload 0 e_As_word_89 rfl ?_
          refine g_istore_n (lv := [(1, .int x6), (5, .int x6), (4, .ref (qb E + (58 + 3 + 2 * i3))), (0, .ref (qb E + 55)), (2, .int l2), (3, .int l3)]) e_As_word_91 rfl (by decide) rfl ?_
          refine g_iload_n 5 e_As_word_92 rfl rfl ?_
          refine g_istore_n (lv := [(2, .int l3), (1, .int x6), (5, .int x6), (4, .ref (qb E + (58 + 3 + 2 * i3))), (0, .ref (qb E + 55)), (3, .int l3)]) e_As_word_93 rfl (by decide) rfl ?_
          refine g_iinc (v := (l3 + 1)) (lv := [(3, .int (l3 + 1)), (2, .int l3), (1, .int x6), (5, .int x6), (4, .ref (qb E + (58 + 3 + 2 * i3))), (0, .ref (qb E + 55))]) 5 e_As_word_94 rfl rfl (by decide) rfl ?_
          refine g_goto 24 e_As_word_97 (by decide) ?_
          refine g_loc [5, 2, 1, 0] rfl ?_
          exact h
theorem en_As_word {d : Nat} {E : qE} {Q : qW → Int32 → Prop} {w : qW} (hw : Sh w) (h : c_As_word_0 d E Q  w) : CaI (d + 5) M_As_word [.ref (qb E + 55)] E w Q := Ca.into hw rfl (Nat.le_of_ble_eq_true rfl) h
def c_As_bestRow_0 (d : Nat) (E : qE) (Q : qW → Int32 → Prop) (a1 : Int32) (a2 : Int32) (w : qW) : Prop := Go (d + 5) M_As_bestRow E 161 161 (qFI Q) 0 [(0, .ref (qb E + 55)), (1, .int a1), (2, .int a2)] [] w
def c_As_bestRow_5 (d : Nat) (E : qE) (Q : qW → Int32 → Prop) (l1 : Int32) (l2 : Int32) (l3 : Int32) (l4 : Int32) (w : qW) : Prop := Go (d + 5) M_As_bestRow E 161 161 (qFI Q) 5 [(0, .ref (qb E + 55)), (1, .int l1), (2, .int l2), (3, .int l3), (4, .int l4)] [] w
def c_As_bestRow_29 (d : Nat) (E : qE) (Q : qW → Int32 → Prop) (l1 : Int32) (l2 : Int32) (l3 : Int32) (l4 : Int32) (l5 : Int32) (w : qW) : Prop := Go (d + 5) M_As_bestRow E 161 161 (qFI Q) 29 [(0, .ref (qb E + 55)), (1, .int l1), (2, .int l2), (3, .int l3), (4, .int l4), (5, .int l5)] [] w
set_option maxHeartbeats 4000000 in
set_option maxRecDepth 8000 in
theorem s_As_bestRow_0 {d : Nat} {E : qE} {Q : qW → Int32 → Prop} {a1 : Int32} {a2 : Int32} {w : qW} (hw : Sh w) (h : c_As_bestRow_5 d E Q a1 a2 1 0 w) : c_As_bestRow_0 d E Q a1 a2 w := by
  unfold c_As_bestRow_0
  refine g_iconst (v := 1) e_As_bestRow_0 (by decide) ?_
  refine g_istore_n (lv := [(3, .int 1), (0, .ref (qb E + 55)), (1, .int a1), (2, .int a2)]) e_As_bestRow_1 rfl (by decide) rfl ?_
  refine g_iconst (v := 0) e_As_bestRow_2 (by decide) ?_
  refine g_istore (lv := [(4, .int 0), (3, .int 1), (0, .ref (qb E + 55)), (1, .int a1), (2, .int a2)]) e_As_bestRow_3 (by decide) rfl ?_
  refine g_loc [2, 3, 4, 1, 0] rfl ?_
  exact h
set_option maxHeartbeats 4000000 in
set_option maxRecDepth 8000 in
theorem s_As_bestRow_5 {d : Nat} {E : qE} {Q : qW → Int32 → Prop} {l1 : Int32} {l2 : Int32} {l3 : Int32} {l4 : Int32} {w : qW} (hw : Sh w) (h : ((l1 ≤ l4) → (c_As_bestRow_29 d E Q l1 l2 l3 (-5) 0 w)) ∧ ((¬ l1 ≤ l4) → (c_As_bestRow_5 d E Q l1 l2 (l3 * 6) (l4 + 1) w))) : c_As_bestRow_5 d E Q l1 l2 l3 l4 w := by
  unfold c_As_bestRow_5
  refine g_iload 4 e_As_bestRow_5 rfl ?_
  refine g_iload_n 1 e_As_bestRow_7 rfl rfl ?_
  refine g_icmp_ge 22 e_As_bestRow_8 (by decide) ⟨fun z1 => ?_, fun z1 => ?_⟩
  · have h := h.1 z1
    refine g_bipush (v := (-5)) e_As_bestRow_22 (by decide) ?_
    refine g_istore (lv := [(4, .int (-5)), (0, .ref (qb E + 55)), (1, .int l1), (2, .int l2), (3, .int l3)]) e_As_bestRow_24 (by decide) rfl ?_
    refine g_iconst (v := 0) e_As_bestRow_26 (by decide) ?_
    refine g_istore (lv := [(5, .int 0), (4, .int (-5)), (0, .ref (qb E + 55)), (1, .int l1), (2, .int l2), (3, .int l3)]) e_As_bestRow_27 (by decide) rfl ?_
    refine g_loc [2, 3, 4, 5, 1, 0] rfl ?_
    exact h
  · have h := h.2 z1
    refine g_iload_n 3 e_As_bestRow_11 rfl rfl ?_
    refine g_bipush (v := 6) e_As_bestRow_12 (by decide) ?_
    refine g_imul e_As_bestRow_14 ?_
    refine g_istore_n (lv := [(3, .int (l3 * 6)), (0, .ref (qb E + 55)), (1, .int l1), (2, .int l2), (4, .int l4)]) e_As_bestRow_15 rfl (by decide) rfl ?_
    refine g_iinc (v := (l4 + 1)) (lv := [(4, .int (l4 + 1)), (3, .int (l3 * 6)), (0, .ref (qb E + 55)), (1, .int l1), (2, .int l2)]) 4 e_As_bestRow_16 rfl rfl (by decide) rfl ?_
    refine g_goto 5 e_As_bestRow_19 (by decide) ?_
    refine g_loc [2, 3, 4, 1, 0] rfl ?_
    exact h
set_option maxHeartbeats 4000000 in
set_option maxRecDepth 8000 in
theorem s_As_bestRow_29 {d : Nat} {E : qE} {Q : qW → Int32 → Prop} {l1 : Int32} {l2 : Int32} {l3 : Int32} {l4 : Int32} {l5 : Int32} {w : qW} (hw : Sh w) (h : ((l3 ≤ l5) → (((l2 = (-1)) → (Q w l4)) ∧ ((¬ l2 = (-1)) → (((¬ l4 = (-5)) → (((l2 < 0) → (Q w (-5))) ∧ ((¬ l2 < 0) → (((l1 ≤ l2) → (Q w (-5))) ∧ ((¬ l1 ≤ l2) → (((3 ≤ l2) → (Q w (-5))) ∧ ((¬ 3 ≤ l2) → (vp_in l2 3 ∧ (Q w (qi w 57 ((l2).toNatClampNeg))))))))))) ∧ ((l4 = (-5)) → (Q w l4)))))) ∧ ((¬ l3 ≤ l5) → (CaI (d + 4) M_As_colourOfRow [.ref (qb E + 55), .int l5, .int l1] E w (fun w8 x8 => ((x8 ≤ l4) → (c_As_bestRow_29 d E Q l1 l2 l3 l4 (l5 + 1) w8)) ∧ ((¬ x8 ≤ l4) → (c_As_bestRow_29 d E Q l1 l2 l3 x8 (l5 + 1) (qcp w8 56 0 57 0 3))))))) : c_As_bestRow_29 d E Q l1 l2 l3 l4 l5 w := by
  unfold c_As_bestRow_29
  refine g_iload 5 e_As_bestRow_29 rfl ?_
  refine g_iload_n 3 e_As_bestRow_31 rfl rfl ?_
  refine g_icmp_ge 75 e_As_bestRow_32 (by decide) ⟨fun z1 => ?_, fun z1 => ?_⟩
  · have h := h.1 z1
    refine g_iload_n 2 e_As_bestRow_75 rfl rfl ?_
    refine g_iconst (v := (-1)) e_As_bestRow_76 (by decide) ?_
    refine g_icmp_eq 87 e_As_bestRow_77 (by decide) ⟨fun z2 => ?_, fun z2 => ?_⟩
    · have h := h.1 z2
      refine g_iload 4 e_As_bestRow_87 rfl ?_
      exact g_iret e_As_bestRow_89 rfl ⟨Sh.n hw, _, rfl, hw, h⟩
    · have h := h.2 z2
      refine g_iload 4 e_As_bestRow_80 rfl ?_
      refine g_bipush (v := (-5)) e_As_bestRow_82 (by decide) ?_
      refine g_icmp_ne 90 e_As_bestRow_84 (by decide) ⟨fun z3 => ?_, fun z3 => ?_⟩
      · have h := h.1 z3
        refine g_iload_n 2 e_As_bestRow_90 rfl rfl ?_
        refine g_if_lt 113 e_As_bestRow_91 (by decide) ⟨fun z4 => ?_, fun z4 => ?_⟩
        · have h := h.1 z4
          refine g_bipush (v := (-5)) e_As_bestRow_113 (by decide) ?_
          exact g_iret e_As_bestRow_115 rfl ⟨Sh.n hw, _, rfl, hw, h⟩
        · have h := h.2 z4
          refine g_iload_n 2 e_As_bestRow_94 rfl rfl ?_
          refine g_iload_n 1 e_As_bestRow_95 rfl rfl ?_
          refine g_icmp_ge 113 e_As_bestRow_96 (by decide) ⟨fun z5 => ?_, fun z5 => ?_⟩
          · have h := h.1 z5
            refine g_bipush (v := (-5)) e_As_bestRow_113 (by decide) ?_
            exact g_iret e_As_bestRow_115 rfl ⟨Sh.n hw, _, rfl, hw, h⟩
          · have h := h.2 z5
            refine g_iload_n 2 e_As_bestRow_99 rfl rfl ?_
            refine g_iconst (v := 3) e_As_bestRow_100 (by decide) ?_
            refine g_icmp_ge 113 e_As_bestRow_101 (by decide) ⟨fun z6 => ?_, fun z6 => ?_⟩
            · have h := h.1 z6
              refine g_bipush (v := (-5)) e_As_bestRow_113 (by decide) ?_
              exact g_iret e_As_bestRow_115 rfl ⟨Sh.n hw, _, rfl, hw, h⟩
            · have h := h.2 z6
              refine g_aload_n 0 e_As_bestRow_104 rfl rfl ?_
              refine gf_As_15 rfl e_As_bestRow_105 hw lay_55 (by decide) (sh_As_chosen hw) ?_
              refine g_iload_n 2 e_As_bestRow_108 rfl rfl ?_
              obtain ⟨o7, h⟩ := h
              refine w_iaload ((l2).toNatClampNeg) e_As_bestRow_109 hw lay_57 (by decide) o7 rfl ?_
              refine g_goto 115 e_As_bestRow_110 (by decide) ?_
              exact g_iret e_As_bestRow_115 rfl ⟨Sh.n hw, _, rfl, hw, h⟩
      · have h := h.2 z3
        refine g_iload 4 e_As_bestRow_87 rfl ?_
        exact g_iret e_As_bestRow_89 rfl ⟨Sh.n hw, _, rfl, hw, h⟩
  · have h := h.2 z1
    refine g_aload_n 0 e_As_bestRow_35 rfl rfl ?_
    refine g_iload 5 e_As_bestRow_36 rfl ?_
    refine g_iload_n 1 e_As_bestRow_38 rfl rfl ?_
    refine w_callVI (w := w) (As := [.int l5, .int l1]) (rest := []) e_As_bestRow_39 ok_As_colourOfRow rfl km_As_72 kx_As_colourOfRow kv_As_colourOfRow rfl (by decide) hw lay_55 (by decide) rfl (Nat.le_of_ble_eq_true rfl) h (fun w8 x8 hw8 h => ?_)
    refine g_istore (lv := [(6, .int x8), (0, .ref (qb E + 55)), (1, .int l1), (2, .int l2), (3, .int l3), (4, .int l4), (5, .int l5)]) e_As_bestRow_42 (by decide) rfl ?_
    refine g_iload 0 e_As_bestRow_44 rfl ?_
    refine g_iload 5 e_As_bestRow_46 rfl ?_
    refine g_icmp_le 69 e_As_bestRow_48 (by decide) ⟨fun z9 => ?_, fun z9 => ?_⟩
    · have h := h.1 z9
      refine g_iinc (v := (l5 + 1)) (lv := [(5, .int (l5 + 1)), (6, .int x8), (0, .ref (qb E + 55)), (1, .int l1), (2, .int l2), (3, .int l3), (4, .int l4)]) 6 e_As_bestRow_69 rfl rfl (by decide) rfl ?_
      refine g_goto 29 e_As_bestRow_72 (by decide) ?_
      refine g_loc [2, 3, 4, 5, 6, 0] rfl ?_
      exact h
    · have h := h.2 z9
      refine g_iload 0 e_As_bestRow_51 rfl ?_
      refine g_istore (lv := [(4, .int x8), (6, .int x8), (0, .ref (qb E + 55)), (1, .int l1), (2, .int l2), (3, .int l3), (5, .int l5)]) e_As_bestRow_53 (by decide) rfl ?_
      refine g_aload_n 2 e_As_bestRow_55 rfl rfl ?_
      refine gf_As_9 rfl e_As_bestRow_56 hw8 lay_55 (by decide) (sh_As_tried hw8) ?_
      refine g_iconst (v := 0) e_As_bestRow_59 (by decide) ?_
      refine g_aload_n 2 e_As_bestRow_60 rfl rfl ?_
      refine gf_As_15 rfl e_As_bestRow_61 hw8 lay_55 (by decide) (sh_As_chosen hw8) ?_
      refine g_iconst (v := 0) e_As_bestRow_64 (by decide) ?_
      refine g_iconst (v := 3) e_As_bestRow_65 (by decide) ?_
      refine g_copy (i0 := 0) e_As_bestRow_66 km_As_76 lay_56 lay_57 (qlt hw8 (by decide)) (qlt hw8 (by decide)) hw8.1 (by decide) (by decide) (by decide) (by decide) (by decide) (Nat.le_of_ble_eq_true rfl) ?_
      refine g_iinc (v := (l5 + 1)) (lv := [(5, .int (l5 + 1)), (4, .int x8), (6, .int x8), (0, .ref (qb E + 55)), (1, .int l1), (2, .int l2), (3, .int l3)]) 6 e_As_bestRow_69 rfl rfl (by decide) rfl ?_
      refine g_goto 29 e_As_bestRow_72 (by decide) ?_
      refine g_loc [3, 4, 5, 6, 1, 0] rfl ?_
      exact h
theorem en_As_bestRow {d : Nat} {E : qE} {Q : qW → Int32 → Prop} {a1 : Int32} {a2 : Int32} {w : qW} (hw : Sh w) (h : c_As_bestRow_0 d E Q a1 a2 w) : CaI (d + 5) M_As_bestRow [.ref (qb E + 55), .int a1, .int a2] E w Q := Ca.into hw rfl (Nat.le_of_ble_eq_true rfl) h
def c_As_colourOfRow_0 (d : Nat) (E : qE) (Q : qW → Int32 → Prop) (a1 : Int32) (a2 : Int32) (w : qW) : Prop := Go (d + 4) M_As_colourOfRow E 161 161 (qFI Q) 0 [(0, .ref (qb E + 55)), (1, .int a1), (2, .int a2)] [] w
def c_As_colourOfRow_11 (d : Nat) (E : qE) (Q : qW → Int32 → Prop) (l2 : Int32) (l3 : Int32) (l4 : Int32) (w : qW) : Prop := Go (d + 4) M_As_colourOfRow E 161 161 (qFI Q) 11 [(0, .ref (qb E + 55)), (2, .int l2), (3, .int l3), (4, .int l4)] [] w
def c_As_colourOfRow_55 (d : Nat) (E : qE) (Q : qW → Int32 → Prop) (l2 : Int32) (l4 : Int32) (w : qW) : Prop := Go (d + 4) M_As_colourOfRow E 161 161 (qFI Q) 55 [(0, .ref (qb E + 55)), (2, .int l2), (4, .int l4)] [] w
set_option maxHeartbeats 4000000 in
set_option maxRecDepth 8000 in
theorem s_As_colourOfRow_0 {d : Nat} {E : qE} {Q : qW → Int32 → Prop} {a1 : Int32} {a2 : Int32} {w : qW} (hw : Sh w) (h : CaI (d + 3) M_Jm_min [.int a2, .int 3] E w (fun w1 x1 => c_As_colourOfRow_11 d E Q a2 a1 (x1 - 1) w1)) : c_As_colourOfRow_0 d E Q a1 a2 w := by
  unfold c_As_colourOfRow_0
  refine g_iload_n 1 e_As_colourOfRow_0 rfl rfl ?_
  refine g_istore_n (lv := [(3, .int a1), (0, .ref (qb E + 55)), (1, .int a1), (2, .int a2)]) e_As_colourOfRow_1 rfl (by decide) rfl ?_
  refine g_iload_n 3 e_As_colourOfRow_2 rfl rfl ?_
  refine g_iconst (v := 3) e_As_colourOfRow_3 (by decide) ?_
  refine w_callSI (w := w) (As := [.int a2, .int 3]) (rest := []) e_As_colourOfRow_4 ok_Jm_min rfl km_As_82 ks_Jm_min rfl (Nat.le_of_ble_eq_true rfl) h (fun w1 x1 hw1 h => ?_)
  refine g_iconst (v := 1) e_As_colourOfRow_7 (by decide) ?_
  refine g_isub e_As_colourOfRow_8 ?_
  refine g_istore (lv := [(4, .int (x1 - 1)), (3, .int a1), (0, .ref (qb E + 55)), (1, .int a1), (2, .int a2)]) e_As_colourOfRow_9 (by decide) rfl ?_
  refine g_loc [2, 4, 1, 0] rfl ?_
  exact h
set_option maxHeartbeats 4000000 in
set_option maxRecDepth 8000 in
theorem s_As_colourOfRow_11 {d : Nat} {E : qE} {Q : qW → Int32 → Prop} {l2 : Int32} {l3 : Int32} {l4 : Int32} {w : qW} (hw : Sh w) (h : ((l4 < 0) → (CaV (d + 3) M_Pa_copyFrom [.ref (qb E + 58), .ref (qb E + 15)] E w (fun w2 => c_As_colourOfRow_55 d E Q l2 0 w2))) ∧ ((¬ l4 < 0) → (vp_in l4 3 ∧ (c_As_colourOfRow_11 d E Q l2 (l3 / 6) (l4 + (-1)) (qpi w 56 ((l4).toNatClampNeg) (l3 - l3 / 6 * 6)))))) : c_As_colourOfRow_11 d E Q l2 l3 l4 w := by
  unfold c_As_colourOfRow_11
  refine g_iload 3 e_As_colourOfRow_11 rfl ?_
  refine g_if_lt 38 e_As_colourOfRow_13 (by decide) ⟨fun z1 => ?_, fun z1 => ?_⟩
  · have h := h.1 z1
    refine g_aload_n 0 e_As_colourOfRow_38 rfl rfl ?_
    refine gf_As_27 rfl e_As_colourOfRow_39 hw lay_55 (by decide) (sh_As_trial hw) ?_
    refine g_aload_n 0 e_As_colourOfRow_42 rfl rfl ?_
    refine gf_As_18 rfl e_As_colourOfRow_43 hw lay_55 (by decide) (sh_As_now hw) ?_
    refine gf_As_31 rfl e_As_colourOfRow_46 hw (lay_Wh isWh5) (lt_Wh isWh5) (sh_Wh_pan hw isWh5) ?_
    refine w_callVV (w := w) (As := [.ref (qb E + 15)]) (rest := []) e_As_colourOfRow_49 ok_Pa_copyFrom rfl km_As_36 kx_Pa_copyFrom kv_Pa_copyFrom rfl (by decide) hw (lay_Pa isPan58) (lt_Pa isPan58) rfl (Nat.le_of_ble_eq_true rfl) h (fun w2 hw2 h => ?_)
    refine g_iconst (v := 0) e_As_colourOfRow_52 (by decide) ?_
    refine g_istore (lv := [(4, .int 0), (0, .ref (qb E + 55)), (2, .int l2), (3, .int l3)]) e_As_colourOfRow_53 (by decide) rfl ?_
    refine g_loc [1, 2, 0] rfl ?_
    exact h
  · have h := h.2 z1
    refine g_aload_n 0 e_As_colourOfRow_16 rfl rfl ?_
    refine gf_As_9 rfl e_As_colourOfRow_17 hw lay_55 (by decide) (sh_As_tried hw) ?_
    refine g_iload 3 e_As_colourOfRow_20 rfl ?_
    refine g_iload_n 2 e_As_colourOfRow_22 rfl rfl ?_
    refine g_bipush (v := 6) e_As_colourOfRow_23 (by decide) ?_
    refine g_irem e_As_colourOfRow_25 (by decide) ?_
    obtain ⟨o3, h⟩ := h
    refine w_iastore ((l4).toNatClampNeg) e_As_colourOfRow_26 hw lay_56 (by decide) o3 rfl ?_
    refine g_iload_n 2 e_As_colourOfRow_27 rfl rfl ?_
    refine g_bipush (v := 6) e_As_colourOfRow_28 (by decide) ?_
    refine g_idiv e_As_colourOfRow_30 (by decide) ?_
    refine g_istore_n (lv := [(3, .int (l3 / 6)), (0, .ref (qb E + 55)), (2, .int l2), (4, .int l4)]) e_As_colourOfRow_31 rfl (by decide) rfl ?_
    refine g_iinc (v := (l4 + (-1))) (lv := [(4, .int (l4 + (-1))), (3, .int (l3 / 6)), (0, .ref (qb E + 55)), (2, .int l2)]) 3 e_As_colourOfRow_32 rfl rfl (by decide) rfl ?_
    refine g_goto 11 e_As_colourOfRow_35 (by decide) ?_
    refine g_loc [2, 3, 1, 0] rfl ?_
    exact h
set_option maxHeartbeats 4000000 in
set_option maxRecDepth 8000 in
theorem s_As_colourOfRow_55 {d : Nat} {E : qE} {Q : qW → Int32 → Prop} {l2 : Int32} {l4 : Int32} {w : qW} (hw : Sh w) (h : ((l2 ≤ l4) → (Q w (qi w 58 3))) ∧ ((¬ l2 ≤ l4) → (((3 ≤ l4) → (Q w (qi w 58 3))) ∧ ((¬ 3 ≤ l4) → (vp_in l4 3 ∧ (CaR (d + 3) M_Pa_find [.ref (qb E + 58), .int (qi w 56 ((l4).toNatClampNeg))] E w (fun w4 x4 => (x4 = none ∧ (Q w4 (-5))) ∨ (∃ i4, i4 < 6 ∧ x4 = some (58 + 3 + 2 * i4) ∧ ((((qi w4 (58 + 3 + 2 * i4) 5) = 0) → (CaV (d + 3) M_Th_putIn [.ref (qb E + (58 + 3 + 2 * i4))] E w4 (fun w6 => CaV (d + 3) M_Pa_goMinute [.ref (qb E + 58)] E w6 (fun w7 => c_As_colourOfRow_55 d E Q l2 (l4 + 1) w7)))) ∧ ((¬ (qi w4 (58 + 3 + 2 * i4) 5) = 0) → (Q w4 (-5)))))))))))) : c_As_colourOfRow_55 d E Q l2 l4 w := by
  unfold c_As_colourOfRow_55
  refine g_iload 2 e_As_colourOfRow_55 rfl ?_
  refine g_iload_n 1 e_As_colourOfRow_57 rfl rfl ?_
  refine g_icmp_ge 117 e_As_colourOfRow_58 (by decide) ⟨fun z1 => ?_, fun z1 => ?_⟩
  · have h := h.1 z1
    refine g_aload_n 0 e_As_colourOfRow_117 rfl rfl ?_
    refine gf_As_27 rfl e_As_colourOfRow_118 hw lay_55 (by decide) (sh_As_trial hw) ?_
    refine gf_As_44 rfl e_As_colourOfRow_121 hw (lay_Pa isPan58) (lt_Pa isPan58) ?_
    exact g_iret e_As_colourOfRow_124 rfl ⟨Sh.n hw, _, rfl, hw, h⟩
  · have h := h.2 z1
    refine g_iload 2 e_As_colourOfRow_61 rfl ?_
    refine g_iconst (v := 3) e_As_colourOfRow_63 (by decide) ?_
    refine g_icmp_ge 117 e_As_colourOfRow_64 (by decide) ⟨fun z2 => ?_, fun z2 => ?_⟩
    · have h := h.1 z2
      refine g_aload_n 0 e_As_colourOfRow_117 rfl rfl ?_
      refine gf_As_27 rfl e_As_colourOfRow_118 hw lay_55 (by decide) (sh_As_trial hw) ?_
      refine gf_As_44 rfl e_As_colourOfRow_121 hw (lay_Pa isPan58) (lt_Pa isPan58) ?_
      exact g_iret e_As_colourOfRow_124 rfl ⟨Sh.n hw, _, rfl, hw, h⟩
    · have h := h.2 z2
      refine g_aload_n 0 e_As_colourOfRow_67 rfl rfl ?_
      refine gf_As_27 rfl e_As_colourOfRow_68 hw lay_55 (by decide) (sh_As_trial hw) ?_
      refine g_aload_n 0 e_As_colourOfRow_71 rfl rfl ?_
      refine gf_As_9 rfl e_As_colourOfRow_72 hw lay_55 (by decide) (sh_As_tried hw) ?_
      refine g_iload 2 e_As_colourOfRow_75 rfl ?_
      obtain ⟨o3, h⟩ := h
      refine w_iaload ((l4).toNatClampNeg) e_As_colourOfRow_77 hw lay_56 (by decide) o3 rfl ?_
      refine w_callVR (w := w) (As := [.int (qi w 56 ((l4).toNatClampNeg))]) (rest := []) e_As_colourOfRow_78 ok_Pa_find rfl km_As_59 kx_Pa_find kv_Pa_find rfl (by decide) hw (lay_Pa isPan58) (lt_Pa isPan58) rfl (Nat.le_of_ble_eq_true rfl) h (fun w4 x4 hw4 h => ?_)
      obtain ⟨rfl, h⟩ | ⟨i4, hi4, rfl, h⟩ := h
      · change Go _ _ _ _ _ _ _ _ (.null :: _) _
        refine g_astoreN (lv := [(5, .null), (0, .ref (qb E + 55)), (2, .int l2), (4, .int l4)]) e_As_colourOfRow_81 (by decide) rfl ?_
        refine g_aloadN 0 e_As_colourOfRow_83 rfl ?_
        refine g_ifnullN 96 e_As_colourOfRow_85 (by decide) ?_
        refine g_bipush (v := (-5)) e_As_colourOfRow_96 (by decide) ?_
        exact g_iret e_As_colourOfRow_98 rfl ⟨Sh.n hw4, _, rfl, hw4, h⟩
      · change Go _ _ _ _ _ _ _ _ (.ref (qb E + (58 + 3 + 2 * i4)) :: _) _
        refine g_astore (lv := [(5, .ref (qb E + (58 + 3 + 2 * i4))), (0, .ref (qb E + 55)), (2, .int l2), (4, .int l4)]) e_As_colourOfRow_81 (by decide) rfl ?_
        refine g_aload 0 e_As_colourOfRow_83 rfl ?_
        refine g_ifnull e_As_colourOfRow_85 ?_
        refine g_aload 0 e_As_colourOfRow_88 rfl ?_
        refine gf_As_63 rfl e_As_colourOfRow_90 hw4 (lay_Th (isTh_of isPan58 hi4)) (lt_Th (isTh_of isPan58 hi4)) ?_
        refine g_if_eq 99 e_As_colourOfRow_93 (by decide) ⟨fun z5 => ?_, fun z5 => ?_⟩
        · have h := h.1 z5
          refine g_aload 0 e_As_colourOfRow_99 rfl ?_
          refine w_callVV (w := w4) (As := []) (rest := []) e_As_colourOfRow_101 ok_Th_putIn rfl km_As_87 kx_Th_putIn kv_Th_putIn rfl (by decide) hw4 (lay_Th (isTh_of isPan58 hi4)) (lt_Th (isTh_of isPan58 hi4)) rfl (Nat.le_of_ble_eq_true rfl) h (fun w6 hw6 h => ?_)
          refine g_aload_n 1 e_As_colourOfRow_104 rfl rfl ?_
          refine gf_As_27 rfl e_As_colourOfRow_105 hw6 lay_55 (by decide) (sh_As_trial hw6) ?_
          refine w_callVV (w := w6) (As := []) (rest := []) e_As_colourOfRow_108 ok_Pa_goMinute rfl km_As_56 kx_Pa_goMinute kv_Pa_goMinute rfl (by decide) hw6 (lay_Pa isPan58) (lt_Pa isPan58) rfl (Nat.le_of_ble_eq_true rfl) h (fun w7 hw7 h => ?_)
          refine g_iinc (v := (l4 + 1)) (lv := [(4, .int (l4 + 1)), (5, .ref (qb E + (58 + 3 + 2 * i4))), (0, .ref (qb E + 55)), (2, .int l2)]) 3 e_As_colourOfRow_111 rfl rfl (by decide) rfl ?_
          refine g_goto 55 e_As_colourOfRow_114 (by decide) ?_
          refine g_loc [2, 3, 0] rfl ?_
          exact h
        · have h := h.2 z5
          refine g_bipush (v := (-5)) e_As_colourOfRow_96 (by decide) ?_
          exact g_iret e_As_colourOfRow_98 rfl ⟨Sh.n hw4, _, rfl, hw4, h⟩
theorem en_As_colourOfRow {d : Nat} {E : qE} {Q : qW → Int32 → Prop} {a1 : Int32} {a2 : Int32} {w : qW} (hw : Sh w) (h : c_As_colourOfRow_0 d E Q a1 a2 w) : CaI (d + 4) M_As_colourOfRow [.ref (qb E + 55), .int a1, .int a2] E w Q := Ca.into hw rfl (Nat.le_of_ble_eq_true rfl) h
def c_As_fewest_0 (d : Nat) (E : qE) (Q : qW → Int32 → Prop) (a1 : Int32) (w : qW) : Prop := Go (d + 5) M_As_fewest E 161 161 (qFI Q) 0 [(0, .ref (qb E + 55)), (1, .int a1)] [] w
def c_As_fewest_22 (d : Nat) (E : qE) (Q : qW → Int32 → Prop) (l1 : Int32) (l2 : Int32) (l3 : Int32) (l4 : Int32) (l5 : Int32) (w : qW) : Prop := Go (d + 5) M_As_fewest E 161 161 (qFI Q) 22 [(0, .ref (qb E + 55)), (1, .int l1), (2, .int l2), (3, .int l3), (4, .int l4), (5, .int l5)] [] w
set_option maxHeartbeats 4000000 in
set_option maxRecDepth 8000 in
theorem s_As_fewest_0 {d : Nat} {E : qE} {Q : qW → Int32 → Prop} {a1 : Int32} {w : qW} (hw : Sh w) (h : CaI (d + 4) M_Pa_bitsOf [.ref (qb E + 15), .int 0] E w (fun w1 x1 => c_As_fewest_22 d E Q a1 x1 7 (-5) 0 w1)) : c_As_fewest_0 d E Q a1 w := by
  unfold c_As_fewest_0
  refine g_aload_n 0 e_As_fewest_0 rfl rfl ?_
  refine gf_As_18 rfl e_As_fewest_1 hw lay_55 (by decide) (sh_As_now hw) ?_
  refine gf_As_31 rfl e_As_fewest_4 hw (lay_Wh isWh5) (lt_Wh isWh5) (sh_Wh_pan hw isWh5) ?_
  refine g_iconst (v := 0) e_As_fewest_7 (by decide) ?_
  refine w_callVI (w := w) (As := [.int 0]) (rest := []) e_As_fewest_8 ok_Pa_bitsOf rfl km_As_90 kx_Pa_bitsOf kv_Pa_bitsOf rfl (by decide) hw (lay_Pa (isPan_Wh isWh5)) (lt_Pa (isPan_Wh isWh5)) rfl (Nat.le_of_ble_eq_true rfl) h (fun w1 x1 hw1 h => ?_)
  refine g_istore_n (lv := [(2, .int x1), (0, .ref (qb E + 55)), (1, .int a1)]) e_As_fewest_11 rfl (by decide) rfl ?_
  refine g_bipush (v := 7) e_As_fewest_12 (by decide) ?_
  refine g_istore_n (lv := [(3, .int 7), (2, .int x1), (0, .ref (qb E + 55)), (1, .int a1)]) e_As_fewest_14 rfl (by decide) rfl ?_
  refine g_bipush (v := (-5)) e_As_fewest_15 (by decide) ?_
  refine g_istore (lv := [(4, .int (-5)), (3, .int 7), (2, .int x1), (0, .ref (qb E + 55)), (1, .int a1)]) e_As_fewest_17 (by decide) rfl ?_
  refine g_iconst (v := 0) e_As_fewest_19 (by decide) ?_
  refine g_istore (lv := [(5, .int 0), (4, .int (-5)), (3, .int 7), (2, .int x1), (0, .ref (qb E + 55)), (1, .int a1)]) e_As_fewest_20 (by decide) rfl ?_
  refine g_loc [4, 5, 3, 2, 1, 0] rfl ?_
  exact h
set_option maxHeartbeats 4000000 in
set_option maxRecDepth 8000 in
theorem s_As_fewest_22 {d : Nat} {E : qE} {Q : qW → Int32 → Prop} {l1 : Int32} {l2 : Int32} {l3 : Int32} {l4 : Int32} {l5 : Int32} {w : qW} (hw : Sh w) (h : ((64 ≤ l5) → (Q w l4)) ∧ ((¬ 64 ≤ l5) → (CaI (d + 4) M_Ji_bitCount [.int l5] E w (fun w2 x2 => ((¬ (l5 &&& (l2 ^^^ (-1))) = 0) → (c_As_fewest_22 d E Q l1 l2 l3 l4 (l5 + 1) w2)) ∧ (((l5 &&& (l2 ^^^ (-1))) = 0) → (((l3 ≤ x2) → (c_As_fewest_22 d E Q l1 l2 l3 l4 (l5 + 1) w2)) ∧ ((¬ l3 ≤ x2) → (CaI (d + 4) M_As_setsWith [.ref (qb E + 55), .int l5, .int l1] E w2 (fun w5 x5 => ((x5 = 0) → (c_As_fewest_22 d E Q l1 l2 l3 l4 (l5 + 1) w5)) ∧ ((¬ x5 = 0) → (c_As_fewest_22 d E Q l1 l2 x2 l5 (l5 + 1) w5))))))))))) : c_As_fewest_22 d E Q l1 l2 l3 l4 l5 w := by
  unfold c_As_fewest_22
  refine g_iload 5 e_As_fewest_22 rfl ?_
  refine g_bipush (v := 64) e_As_fewest_24 (by decide) ?_
  refine g_icmp_ge 74 e_As_fewest_26 (by decide) ⟨fun z1 => ?_, fun z1 => ?_⟩
  · have h := h.1 z1
    refine g_iload 4 e_As_fewest_74 rfl ?_
    exact g_iret e_As_fewest_76 rfl ⟨Sh.n hw, _, rfl, hw, h⟩
  · have h := h.2 z1
    refine g_iload 5 e_As_fewest_29 rfl ?_
    refine w_callSI (w := w) (As := [.int l5]) (rest := []) e_As_fewest_31 ok_Ji_bitCount rfl km_As_94 ks_Ji_bitCount rfl (Nat.le_of_ble_eq_true rfl) h (fun w2 x2 hw2 h => ?_)
    refine g_istore (lv := [(6, .int x2), (0, .ref (qb E + 55)), (1, .int l1), (2, .int l2), (3, .int l3), (4, .int l4), (5, .int l5)]) e_As_fewest_34 (by decide) rfl ?_
    refine g_iload 6 e_As_fewest_36 rfl ?_
    refine g_iload_n 3 e_As_fewest_38 rfl rfl ?_
    refine g_iconst (v := (-1)) e_As_fewest_39 (by decide) ?_
    refine g_ixor e_As_fewest_40 ?_
    refine g_iand e_As_fewest_41 ?_
    refine g_if_ne 68 e_As_fewest_42 (by decide) ⟨fun z3 => ?_, fun z3 => ?_⟩
    · have h := h.1 z3
      refine g_iinc (v := (l5 + 1)) (lv := [(5, .int (l5 + 1)), (6, .int x2), (0, .ref (qb E + 55)), (1, .int l1), (2, .int l2), (3, .int l3), (4, .int l4)]) 6 e_As_fewest_68 rfl rfl (by decide) rfl ?_
      refine g_goto 22 e_As_fewest_71 (by decide) ?_
      refine g_loc [2, 3, 4, 5, 6, 0] rfl ?_
      exact h
    · have h := h.2 z3
      refine g_iload 0 e_As_fewest_45 rfl ?_
      refine g_iload_n 4 e_As_fewest_47 rfl rfl ?_
      refine g_icmp_ge 68 e_As_fewest_48 (by decide) ⟨fun z4 => ?_, fun z4 => ?_⟩
      · have h := h.1 z4
        refine g_iinc (v := (l5 + 1)) (lv := [(5, .int (l5 + 1)), (6, .int x2), (0, .ref (qb E + 55)), (1, .int l1), (2, .int l2), (3, .int l3), (4, .int l4)]) 6 e_As_fewest_68 rfl rfl (by decide) rfl ?_
        refine g_goto 22 e_As_fewest_71 (by decide) ?_
        refine g_loc [2, 3, 4, 5, 6, 0] rfl ?_
        exact h
      · have h := h.2 z4
        refine g_aload_n 1 e_As_fewest_51 rfl rfl ?_
        refine g_iload 6 e_As_fewest_52 rfl ?_
        refine g_iload_n 2 e_As_fewest_54 rfl rfl ?_
        refine w_callVI (w := w2) (As := [.int l5, .int l1]) (rest := []) e_As_fewest_55 ok_As_setsWith rfl km_As_99 kx_As_setsWith kv_As_setsWith rfl (by decide) hw2 lay_55 (by decide) rfl (Nat.le_of_ble_eq_true rfl) h (fun w5 x5 hw5 h => ?_)
        refine g_if_eq 68 e_As_fewest_58 (by decide) ⟨fun z6 => ?_, fun z6 => ?_⟩
        · have h := h.1 z6
          refine g_iinc (v := (l5 + 1)) (lv := [(5, .int (l5 + 1)), (6, .int x2), (0, .ref (qb E + 55)), (1, .int l1), (2, .int l2), (3, .int l3), (4, .int l4)]) 6 e_As_fewest_68 rfl rfl (by decide) rfl ?_
          refine g_goto 22 e_As_fewest_71 (by decide) ?_
          refine g_loc [2, 3, 4, 5, 6, 0] rfl ?_
          exact h
        · have h := h.2 z6
          refine g_iload 0 e_As_fewest_61 rfl ?_
          refine g_istore_n (lv := [(3, .int x2), (6, .int x2), (0, .ref (qb E + 55)), (1, .int l1), (2, .int l2), (4, .int l4), (5, .int l5)]) e_As_fewest_63 rfl (by decide) rfl ?_
          refine g_iload 6 e_As_fewest_64 rfl ?_
          refine g_istore (lv := [(4, .int l5), (3, .int x2), (6, .int x2), (0, .ref (qb E + 55)), (1, .int l1), (2, .int l2), (5, .int l5)]) e_As_fewest_66 (by decide) rfl ?_
          refine g_iinc (v := (l5 + 1)) (lv := [(5, .int (l5 + 1)), (4, .int l5), (3, .int x2), (6, .int x2), (0, .ref (qb E + 55)), (1, .int l1), (2, .int l2)]) 6 e_As_fewest_68 rfl rfl (by decide) rfl ?_
          refine g_goto 22 e_As_fewest_71 (by decide) ?_
          refine g_loc [4, 5, 6, 2, 1, 0] rfl ?_
          exact h
theorem en_As_fewest {d : Nat} {E : qE} {Q : qW → Int32 → Prop} {a1 : Int32} {w : qW} (hw : Sh w) (h : c_As_fewest_0 d E Q a1 w) : CaI (d + 5) M_As_fewest [.ref (qb E + 55), .int a1] E w Q := Ca.into hw rfl (Nat.le_of_ble_eq_true rfl) h
def c_As_setsWith_0 (d : Nat) (E : qE) (Q : qW → Int32 → Prop) (a1 : Int32) (a2 : Int32) (w : qW) : Prop := Go (d + 4) M_As_setsWith E 161 161 (qFI Q) 0 [(0, .ref (qb E + 55)), (1, .int a1), (2, .int a2)] [] w
def c_As_setsWith_16 (d : Nat) (E : qE) (Q : qW → Int32 → Prop) (l1 : Int32) (l2 : Int32) (l3 : Int32) (w : qW) : Prop := Go (d + 4) M_As_setsWith E 161 161 (qFI Q) 16 [(0, .ref (qb E + 55)), (1, .int l1), (2, .int l2), (3, .int l3)] [] w
def c_As_setsWith_59 (d : Nat) (E : qE) (Q : qW → Int32 → Prop) (l2 : Int32) (l3 : Int32) (w : qW) : Prop := Go (d + 4) M_As_setsWith E 161 161 (qFI Q) 59 [(0, .ref (qb E + 55)), (2, .int l2), (3, .int l3)] [] w
set_option maxHeartbeats 4000000 in
set_option maxRecDepth 8000 in
theorem s_As_setsWith_0 {d : Nat} {E : qE} {Q : qW → Int32 → Prop} {a1 : Int32} {a2 : Int32} {w : qW} (hw : Sh w) (h : CaV (d + 3) M_Pa_copyFrom [.ref (qb E + 58), .ref (qb E + 15)] E w (fun w1 => c_As_setsWith_16 d E Q a1 a2 0 w1)) : c_As_setsWith_0 d E Q a1 a2 w := by
  unfold c_As_setsWith_0
  refine g_aload_n 0 e_As_setsWith_0 rfl rfl ?_
  refine gf_As_27 rfl e_As_setsWith_1 hw lay_55 (by decide) (sh_As_trial hw) ?_
  refine g_aload_n 0 e_As_setsWith_4 rfl rfl ?_
  refine gf_As_18 rfl e_As_setsWith_5 hw lay_55 (by decide) (sh_As_now hw) ?_
  refine gf_As_31 rfl e_As_setsWith_8 hw (lay_Wh isWh5) (lt_Wh isWh5) (sh_Wh_pan hw isWh5) ?_
  refine w_callVV (w := w) (As := [.ref (qb E + 15)]) (rest := []) e_As_setsWith_11 ok_Pa_copyFrom rfl km_As_36 kx_Pa_copyFrom kv_Pa_copyFrom rfl (by decide) hw (lay_Pa isPan58) (lt_Pa isPan58) rfl (Nat.le_of_ble_eq_true rfl) h (fun w1 hw1 h => ?_)
  refine g_iconst (v := 0) e_As_setsWith_14 (by decide) ?_
  refine g_istore_n (lv := [(3, .int 0), (0, .ref (qb E + 55)), (1, .int a1), (2, .int a2)]) e_As_setsWith_15 rfl (by decide) rfl ?_
  refine g_loc [1, 2, 3, 0] rfl ?_
  exact h
set_option maxHeartbeats 4000000 in
set_option maxRecDepth 8000 in
theorem s_As_setsWith_16 {d : Nat} {E : qE} {Q : qW → Int32 → Prop} {l1 : Int32} {l2 : Int32} {l3 : Int32} {w : qW} (hw : Sh w) (h : ((6 ≤ l3) → (c_As_setsWith_59 d E Q l2 0 w)) ∧ ((¬ 6 ≤ l3) → (CaR (d + 3) M_Pa_find [.ref (qb E + 58), .int l3] E w (fun w2 x2 => (x2 = none ∧ (c_As_setsWith_16 d E Q l1 l2 (l3 + 1) w2)) ∨ (∃ i2, i2 < 6 ∧ x2 = some (58 + 3 + 2 * i2) ∧ (((¬ ((l1 >>> (l3 &&& 31)) &&& 1) = 1) → (c_As_setsWith_16 d E Q l1 l2 (l3 + 1) w2)) ∧ ((((l1 >>> (l3 &&& 31)) &&& 1) = 1) → (CaV (d + 3) M_Th_putIn [.ref (qb E + (58 + 3 + 2 * i2))] E w2 (fun w4 => c_As_setsWith_16 d E Q l1 l2 (l3 + 1) w4))))))))) : c_As_setsWith_16 d E Q l1 l2 l3 w := by
  unfold c_As_setsWith_16
  refine g_iload_n 3 e_As_setsWith_16 rfl rfl ?_
  refine g_bipush (v := 6) e_As_setsWith_17 (by decide) ?_
  refine g_icmp_ge 57 e_As_setsWith_19 (by decide) ⟨fun z1 => ?_, fun z1 => ?_⟩
  · have h := h.1 z1
    refine g_iconst (v := 0) e_As_setsWith_57 (by decide) ?_
    refine g_istore_n (lv := [(3, .int 0), (0, .ref (qb E + 55)), (1, .int l1), (2, .int l2)]) e_As_setsWith_58 rfl (by decide) rfl ?_
    refine g_loc [1, 3, 0] rfl ?_
    exact h
  · have h := h.2 z1
    refine g_aload_n 0 e_As_setsWith_22 rfl rfl ?_
    refine gf_As_27 rfl e_As_setsWith_23 hw lay_55 (by decide) (sh_As_trial hw) ?_
    refine g_iload_n 3 e_As_setsWith_26 rfl rfl ?_
    refine w_callVR (w := w) (As := [.int l3]) (rest := []) e_As_setsWith_27 ok_Pa_find rfl km_As_59 kx_Pa_find kv_Pa_find rfl (by decide) hw (lay_Pa isPan58) (lt_Pa isPan58) rfl (Nat.le_of_ble_eq_true rfl) h (fun w2 x2 hw2 h => ?_)
    obtain ⟨rfl, h⟩ | ⟨i2, hi2, rfl, h⟩ := h
    · change Go _ _ _ _ _ _ _ _ (.null :: _) _
      refine g_astoreN (lv := [(4, .null), (0, .ref (qb E + 55)), (1, .int l1), (2, .int l2), (3, .int l3)]) e_As_setsWith_30 (by decide) rfl ?_
      refine g_aloadN 0 e_As_setsWith_32 rfl ?_
      refine g_ifnullN 51 e_As_setsWith_34 (by decide) ?_
      refine g_iinc (v := (l3 + 1)) (lv := [(3, .int (l3 + 1)), (4, .null), (0, .ref (qb E + 55)), (1, .int l1), (2, .int l2)]) 4 e_As_setsWith_51 rfl rfl (by decide) rfl ?_
      refine g_goto 16 e_As_setsWith_54 (by decide) ?_
      refine g_loc [2, 3, 4, 0] rfl ?_
      exact h
    · change Go _ _ _ _ _ _ _ _ (.ref (qb E + (58 + 3 + 2 * i2)) :: _) _
      refine g_astore (lv := [(4, .ref (qb E + (58 + 3 + 2 * i2))), (0, .ref (qb E + 55)), (1, .int l1), (2, .int l2), (3, .int l3)]) e_As_setsWith_30 (by decide) rfl ?_
      refine g_aload 0 e_As_setsWith_32 rfl ?_
      refine g_ifnull e_As_setsWith_34 ?_
      refine g_iload_n 2 e_As_setsWith_37 rfl rfl ?_
      refine g_iload_n 4 e_As_setsWith_38 rfl rfl ?_
      refine g_ishr e_As_setsWith_39 ?_
      refine g_iconst (v := 1) e_As_setsWith_40 (by decide) ?_
      refine g_iand e_As_setsWith_41 ?_
      refine g_iconst (v := 1) e_As_setsWith_42 (by decide) ?_
      refine g_icmp_ne 51 e_As_setsWith_43 (by decide) ⟨fun z3 => ?_, fun z3 => ?_⟩
      · have h := h.1 z3
        refine g_iinc (v := (l3 + 1)) (lv := [(3, .int (l3 + 1)), (4, .ref (qb E + (58 + 3 + 2 * i2))), (0, .ref (qb E + 55)), (1, .int l1), (2, .int l2)]) 4 e_As_setsWith_51 rfl rfl (by decide) rfl ?_
        refine g_goto 16 e_As_setsWith_54 (by decide) ?_
        refine g_loc [2, 3, 4, 0] rfl ?_
        exact h
      · have h := h.2 z3
        refine g_aload 0 e_As_setsWith_46 rfl ?_
        refine w_callVV (w := w2) (As := []) (rest := []) e_As_setsWith_48 ok_Th_putIn rfl km_As_87 kx_Th_putIn kv_Th_putIn rfl (by decide) hw2 (lay_Th (isTh_of isPan58 hi2)) (lt_Th (isTh_of isPan58 hi2)) rfl (Nat.le_of_ble_eq_true rfl) h (fun w4 hw4 h => ?_)
        refine g_iinc (v := (l3 + 1)) (lv := [(3, .int (l3 + 1)), (4, .ref (qb E + (58 + 3 + 2 * i2))), (0, .ref (qb E + 55)), (1, .int l1), (2, .int l2)]) 4 e_As_setsWith_51 rfl rfl (by decide) rfl ?_
        refine g_goto 16 e_As_setsWith_54 (by decide) ?_
        refine g_loc [2, 3, 4, 0] rfl ?_
        exact h
set_option maxHeartbeats 4000000 in
set_option maxRecDepth 8000 in
theorem s_As_setsWith_59 {d : Nat} {E : qE} {Q : qW → Int32 → Prop} {l2 : Int32} {l3 : Int32} {w : qW} (hw : Sh w) (h : ((l2 ≤ l3) → (Q w (qz (qi w 58 4)))) ∧ ((¬ l2 ≤ l3) → (((¬ (qz (qi w 58 4)) = 0) → (Q w (qz (qi w 58 4)))) ∧ (((qz (qi w 58 4)) = 0) → (CaV (d + 3) M_Pa_goMinute [.ref (qb E + 58)] E w (fun w3 => c_As_setsWith_59 d E Q l2 (l3 + 1) w3)))))) : c_As_setsWith_59 d E Q l2 l3 w := by
  unfold c_As_setsWith_59
  refine g_iload_n 2 e_As_setsWith_59 rfl rfl ?_
  refine g_iload_n 1 e_As_setsWith_60 rfl rfl ?_
  refine g_icmp_ge 87 e_As_setsWith_61 (by decide) ⟨fun z1 => ?_, fun z1 => ?_⟩
  · have h := h.1 z1
    refine g_aload_n 0 e_As_setsWith_87 rfl rfl ?_
    refine gf_As_27 rfl e_As_setsWith_88 hw lay_55 (by decide) (sh_As_trial hw) ?_
    refine gf_As_48 rfl e_As_setsWith_91 hw (lay_Pa isPan58) (lt_Pa isPan58) ?_
    exact g_zret e_As_setsWith_94 rfl (qz_01 _) ⟨Sh.n hw, _, rfl, hw, h⟩
  · have h := h.2 z1
    refine g_aload_n 0 e_As_setsWith_64 rfl rfl ?_
    refine gf_As_27 rfl e_As_setsWith_65 hw lay_55 (by decide) (sh_As_trial hw) ?_
    refine gf_As_48 rfl e_As_setsWith_68 hw (lay_Pa isPan58) (lt_Pa isPan58) ?_
    refine g_if_ne 87 e_As_setsWith_71 (by decide) ⟨fun z2 => ?_, fun z2 => ?_⟩
    · have h := h.1 z2
      refine g_aload_n 0 e_As_setsWith_87 rfl rfl ?_
      refine gf_As_27 rfl e_As_setsWith_88 hw lay_55 (by decide) (sh_As_trial hw) ?_
      refine gf_As_48 rfl e_As_setsWith_91 hw (lay_Pa isPan58) (lt_Pa isPan58) ?_
      exact g_zret e_As_setsWith_94 rfl (qz_01 _) ⟨Sh.n hw, _, rfl, hw, h⟩
    · have h := h.2 z2
      refine g_aload_n 0 e_As_setsWith_74 rfl rfl ?_
      refine gf_As_27 rfl e_As_setsWith_75 hw lay_55 (by decide) (sh_As_trial hw) ?_
      refine w_callVV (w := w) (As := []) (rest := []) e_As_setsWith_78 ok_Pa_goMinute rfl km_As_56 kx_Pa_goMinute kv_Pa_goMinute rfl (by decide) hw (lay_Pa isPan58) (lt_Pa isPan58) rfl (Nat.le_of_ble_eq_true rfl) h (fun w3 hw3 h => ?_)
      refine g_iinc (v := (l3 + 1)) (lv := [(3, .int (l3 + 1)), (0, .ref (qb E + 55)), (2, .int l2)]) 2 e_As_setsWith_81 rfl rfl (by decide) rfl ?_
      refine g_goto 59 e_As_setsWith_84 (by decide) ?_
      refine g_loc [1, 2, 0] rfl ?_
      exact h
theorem en_As_setsWith {d : Nat} {E : qE} {Q : qW → Int32 → Prop} {a1 : Int32} {a2 : Int32} {w : qW} (hw : Sh w) (h : c_As_setsWith_0 d E Q a1 a2 w) : CaI (d + 4) M_As_setsWith [.ref (qb E + 55), .int a1, .int a2] E w Q := Ca.into hw rfl (Nat.le_of_ble_eq_true rfl) h
def c_As_nearestFire_0 (d : Nat) (E : qE) (Q : qW → Int32 → Prop) (a1 : Int32) (a2 : Int32) (w : qW) : Prop := Go (d + 5) M_As_nearestFire E 161 161 (qFI Q) 0 [(0, .ref (qb E + 55)), (1, .int a1), (2, .int a2)] [] w
def c_As_nearestFire_9 (d : Nat) (E : qE) (Q : qW → Int32 → Prop) (l1 : Int32) (l2 : Int32) (l3 : Int32) (l4 : Int32) (l5 : Int32) (w : qW) : Prop := Go (d + 5) M_As_nearestFire E 161 161 (qFI Q) 9 [(0, .ref (qb E + 55)), (1, .int l1), (2, .int l2), (3, .int l3), (4, .int l4), (5, .int l5)] [] w
set_option maxHeartbeats 4000000 in
set_option maxRecDepth 8000 in
theorem s_As_nearestFire_0 {d : Nat} {E : qE} {Q : qW → Int32 → Prop} {a1 : Int32} {a2 : Int32} {w : qW} (hw : Sh w) (h : c_As_nearestFire_9 d E Q a1 a2 0 100000 0 w) : c_As_nearestFire_0 d E Q a1 a2 w := by
  unfold c_As_nearestFire_0
  refine g_iconst (v := 0) e_As_nearestFire_0 (by decide) ?_
  refine g_istore_n (lv := [(3, .int 0), (0, .ref (qb E + 55)), (1, .int a1), (2, .int a2)]) e_As_nearestFire_1 rfl (by decide) rfl ?_
  refine g_ldc (v := 100000) e_As_nearestFire_2 kk_As_103 ?_
  refine g_istore (lv := [(4, .int 100000), (3, .int 0), (0, .ref (qb E + 55)), (1, .int a1), (2, .int a2)]) e_As_nearestFire_4 (by decide) rfl ?_
  refine g_iconst (v := 0) e_As_nearestFire_6 (by decide) ?_
  refine g_istore (lv := [(5, .int 0), (4, .int 100000), (3, .int 0), (0, .ref (qb E + 55)), (1, .int a1), (2, .int a2)]) e_As_nearestFire_7 (by decide) rfl ?_
  refine g_loc [3, 4, 5, 2, 1, 0] rfl ?_
  exact h
set_option maxHeartbeats 4000000 in
set_option maxRecDepth 8000 in
theorem s_As_nearestFire_9 {d : Nat} {E : qE} {Q : qW → Int32 → Prop} {l1 : Int32} {l2 : Int32} {l3 : Int32} {l4 : Int32} {l5 : Int32} {w : qW} (hw : Sh w) (h : ((9 < l5) → (Q w l3)) ∧ ((¬ 9 < l5) → (CaV (d + 4) M_Pa_copyFrom [.ref (qb E + 58), .ref (qb E + 15)] E w (fun w2 => CaV (d + 4) M_Pa_goMinutes [.ref (qb E + 58), .int l1] E (qpi w2 58 2 l5) (fun w3 => CaI (d + 4) M_Jm_abs [.int ((qi w3 58 3) - l2)] E w3 (fun w4 x4 => ((l4 ≤ x4) → (c_As_nearestFire_9 d E Q l1 l2 l3 l4 (l5 + 1) w4)) ∧ ((¬ l4 ≤ x4) → (c_As_nearestFire_9 d E Q l1 l2 l5 x4 (l5 + 1) w4)))))))) : c_As_nearestFire_9 d E Q l1 l2 l3 l4 l5 w := by
  unfold c_As_nearestFire_9
  refine g_iload 5 e_As_nearestFire_9 rfl ?_
  refine g_bipush (v := 9) e_As_nearestFire_11 (by decide) ?_
  refine g_icmp_gt 81 e_As_nearestFire_13 (by decide) ⟨fun z1 => ?_, fun z1 => ?_⟩
  · have h := h.1 z1
    refine g_iload_n 3 e_As_nearestFire_81 rfl rfl ?_
    exact g_iret e_As_nearestFire_82 rfl ⟨Sh.n hw, _, rfl, hw, h⟩
  · have h := h.2 z1
    refine g_aload_n 0 e_As_nearestFire_16 rfl rfl ?_
    refine gf_As_27 rfl e_As_nearestFire_17 hw lay_55 (by decide) (sh_As_trial hw) ?_
    refine g_aload_n 0 e_As_nearestFire_20 rfl rfl ?_
    refine gf_As_18 rfl e_As_nearestFire_21 hw lay_55 (by decide) (sh_As_now hw) ?_
    refine gf_As_31 rfl e_As_nearestFire_24 hw (lay_Wh isWh5) (lt_Wh isWh5) (sh_Wh_pan hw isWh5) ?_
    refine w_callVV (w := w) (As := [.ref (qb E + 15)]) (rest := []) e_As_nearestFire_27 ok_Pa_copyFrom rfl km_As_36 kx_Pa_copyFrom kv_Pa_copyFrom rfl (by decide) hw (lay_Pa isPan58) (lt_Pa isPan58) rfl (Nat.le_of_ble_eq_true rfl) h (fun w2 hw2 h => ?_)
    refine g_aload_n 0 e_As_nearestFire_30 rfl rfl ?_
    refine gf_As_27 rfl e_As_nearestFire_31 hw2 lay_55 (by decide) (sh_As_trial hw2) ?_
    refine g_iload 5 e_As_nearestFire_34 rfl ?_
    refine pf_As_104 rfl e_As_nearestFire_36 hw2 (lay_Pa isPan58) (lt_Pa isPan58) ?_
    refine g_aload_n 0 e_As_nearestFire_39 rfl rfl ?_
    refine gf_As_27 rfl e_As_nearestFire_40 hw2 lay_55 (by decide) (sh_As_trial hw2) ?_
    refine g_iload_n 1 e_As_nearestFire_43 rfl rfl ?_
    refine w_callVV (w := (qpi w2 58 2 l5)) (As := [.int l1]) (rest := []) e_As_nearestFire_44 ok_Pa_goMinutes rfl km_As_40 kx_Pa_goMinutes kv_Pa_goMinutes rfl (by decide) hw2 (lay_Pa isPan58) (lt_Pa isPan58) rfl (Nat.le_of_ble_eq_true rfl) h (fun w3 hw3 h => ?_)
    refine g_aload_n 0 e_As_nearestFire_47 rfl rfl ?_
    refine gf_As_27 rfl e_As_nearestFire_48 hw3 lay_55 (by decide) (sh_As_trial hw3) ?_
    refine gf_As_44 rfl e_As_nearestFire_51 hw3 (lay_Pa isPan58) (lt_Pa isPan58) ?_
    refine g_iload_n 2 e_As_nearestFire_54 rfl rfl ?_
    refine g_isub e_As_nearestFire_55 ?_
    refine w_callSI (w := w3) (As := [.int ((qi w3 58 3) - l2)]) (rest := []) e_As_nearestFire_56 ok_Jm_abs rfl km_As_107 ks_Jm_abs rfl (Nat.le_of_ble_eq_true rfl) h (fun w4 x4 hw4 h => ?_)
    refine g_istore (lv := [(6, .int x4), (0, .ref (qb E + 55)), (1, .int l1), (2, .int l2), (3, .int l3), (4, .int l4), (5, .int l5)]) e_As_nearestFire_59 (by decide) rfl ?_
    refine g_iload 0 e_As_nearestFire_61 rfl ?_
    refine g_iload 5 e_As_nearestFire_63 rfl ?_
    refine g_icmp_ge 75 e_As_nearestFire_65 (by decide) ⟨fun z5 => ?_, fun z5 => ?_⟩
    · have h := h.1 z5
      refine g_iinc (v := (l5 + 1)) (lv := [(5, .int (l5 + 1)), (6, .int x4), (0, .ref (qb E + 55)), (1, .int l1), (2, .int l2), (3, .int l3), (4, .int l4)]) 6 e_As_nearestFire_75 rfl rfl (by decide) rfl ?_
      refine g_goto 9 e_As_nearestFire_78 (by decide) ?_
      refine g_loc [2, 3, 4, 5, 6, 0] rfl ?_
      exact h
    · have h := h.2 z5
      refine g_iload 0 e_As_nearestFire_68 rfl ?_
      refine g_istore (lv := [(4, .int x4), (6, .int x4), (0, .ref (qb E + 55)), (1, .int l1), (2, .int l2), (3, .int l3), (5, .int l5)]) e_As_nearestFire_70 (by decide) rfl ?_
      refine g_iload 6 e_As_nearestFire_72 rfl ?_
      refine g_istore_n (lv := [(3, .int l5), (4, .int x4), (6, .int x4), (0, .ref (qb E + 55)), (1, .int l1), (2, .int l2), (5, .int l5)]) e_As_nearestFire_74 rfl (by decide) rfl ?_
      refine g_iinc (v := (l5 + 1)) (lv := [(5, .int (l5 + 1)), (3, .int l5), (4, .int x4), (6, .int x4), (0, .ref (qb E + 55)), (1, .int l1), (2, .int l2)]) 6 e_As_nearestFire_75 rfl rfl (by decide) rfl ?_
      refine g_goto 9 e_As_nearestFire_78 (by decide) ?_
      refine g_loc [4, 5, 6, 1, 2, 0] rfl ?_
      exact h
theorem en_As_nearestFire {d : Nat} {E : qE} {Q : qW → Int32 → Prop} {a1 : Int32} {a2 : Int32} {w : qW} (hw : Sh w) (h : c_As_nearestFire_0 d E Q a1 a2 w) : CaI (d + 5) M_As_nearestFire [.ref (qb E + 55), .int a1, .int a2] E w Q := Ca.into hw rfl (Nat.le_of_ble_eq_true rfl) h
def c_As_weights_0 (d : Nat) (E : qE) (Q : qW → Int32 → Prop) (a1 : Int32) (w : qW) : Prop := Go (d + 5) M_As_weights E 161 161 (qFI Q) 0 [(0, .ref (qb E + 55)), (1, .int a1)] [] w
def c_As_weights_4 (d : Nat) (E : qE) (Q : qW → Int32 → Prop) (l1 : Int32) (l2 : Int32) (l3 : Int32) (w : qW) : Prop := Go (d + 5) M_As_weights E 161 161 (qFI Q) 4 [(0, .ref (qb E + 55)), (1, .int l1), (2, .int l2), (3, .int l3)] [] w
set_option maxHeartbeats 4000000 in
set_option maxRecDepth 8000 in
theorem s_As_weights_0 {d : Nat} {E : qE} {Q : qW → Int32 → Prop} {a1 : Int32} {w : qW} (hw : Sh w) (h : c_As_weights_4 d E Q a1 0 0 w) : c_As_weights_0 d E Q a1 w := by
  unfold c_As_weights_0
  refine g_iconst (v := 0) e_As_weights_0 (by decide) ?_
  refine g_istore_n (lv := [(2, .int 0), (0, .ref (qb E + 55)), (1, .int a1)]) e_As_weights_1 rfl (by decide) rfl ?_
  refine g_iconst (v := 0) e_As_weights_2 (by decide) ?_
  refine g_istore_n (lv := [(3, .int 0), (2, .int 0), (0, .ref (qb E + 55)), (1, .int a1)]) e_As_weights_3 rfl (by decide) rfl ?_
  refine g_loc [2, 3, 1, 0] rfl ?_
  exact h
set_option maxHeartbeats 4000000 in
set_option maxRecDepth 8000 in
theorem s_As_weights_4 {d : Nat} {E : qE} {Q : qW → Int32 → Prop} {l1 : Int32} {l2 : Int32} {l3 : Int32} {w : qW} (hw : Sh w) (h : ((20 < l3) → (Q w l2)) ∧ ((¬ 20 < l3) → (CaV (d + 4) M_Pa_copyFrom [.ref (qb E + 58), .ref (qb E + 15)] E w (fun w2 => CaR (d + 4) M_Pa_find [.ref (qb E + 58), .int l1] E w2 (fun w3 x3 => (x3 = none ∧ (c_As_weights_4 d E Q l1 l2 (l3 + 1) w3)) ∨ (∃ i3, i3 < 6 ∧ x3 = some (58 + 3 + 2 * i3) ∧ (CaI (d + 4) M_As_isAsSeen [.ref (qb E + 55)] E (qpi w3 (58 + 3 + 2 * i3) 3 l3) (fun w4 x4 => ((x4 = 0) → (c_As_weights_4 d E Q l1 (l2 ||| 0) (l3 + 1) w4)) ∧ ((¬ x4 = 0) → (c_As_weights_4 d E Q l1 (l2 ||| (1 <<< (l3 &&& 31))) (l3 + 1) w4)))))))))) : c_As_weights_4 d E Q l1 l2 l3 w := by
  unfold c_As_weights_4
  refine g_iload_n 3 e_As_weights_4 rfl rfl ?_
  refine g_bipush (v := 20) e_As_weights_5 (by decide) ?_
  refine g_icmp_gt 68 e_As_weights_7 (by decide) ⟨fun z1 => ?_, fun z1 => ?_⟩
  · have h := h.1 z1
    refine g_iload_n 2 e_As_weights_68 rfl rfl ?_
    exact g_iret e_As_weights_69 rfl ⟨Sh.n hw, _, rfl, hw, h⟩
  · have h := h.2 z1
    refine g_aload_n 0 e_As_weights_10 rfl rfl ?_
    refine gf_As_27 rfl e_As_weights_11 hw lay_55 (by decide) (sh_As_trial hw) ?_
    refine g_aload_n 0 e_As_weights_14 rfl rfl ?_
    refine gf_As_18 rfl e_As_weights_15 hw lay_55 (by decide) (sh_As_now hw) ?_
    refine gf_As_31 rfl e_As_weights_18 hw (lay_Wh isWh5) (lt_Wh isWh5) (sh_Wh_pan hw isWh5) ?_
    refine w_callVV (w := w) (As := [.ref (qb E + 15)]) (rest := []) e_As_weights_21 ok_Pa_copyFrom rfl km_As_36 kx_Pa_copyFrom kv_Pa_copyFrom rfl (by decide) hw (lay_Pa isPan58) (lt_Pa isPan58) rfl (Nat.le_of_ble_eq_true rfl) h (fun w2 hw2 h => ?_)
    refine g_aload_n 0 e_As_weights_24 rfl rfl ?_
    refine gf_As_27 rfl e_As_weights_25 hw2 lay_55 (by decide) (sh_As_trial hw2) ?_
    refine g_iload_n 1 e_As_weights_28 rfl rfl ?_
    refine w_callVR (w := w2) (As := [.int l1]) (rest := []) e_As_weights_29 ok_Pa_find rfl km_As_59 kx_Pa_find kv_Pa_find rfl (by decide) hw2 (lay_Pa isPan58) (lt_Pa isPan58) rfl (Nat.le_of_ble_eq_true rfl) h (fun w3 x3 hw3 h => ?_)
    obtain ⟨rfl, h⟩ | ⟨i3, hi3, rfl, h⟩ := h
    · change Go _ _ _ _ _ _ _ _ (.null :: _) _
      refine g_astoreN (lv := [(4, .null), (0, .ref (qb E + 55)), (1, .int l1), (2, .int l2), (3, .int l3)]) e_As_weights_32 (by decide) rfl ?_
      refine g_aloadN 0 e_As_weights_34 rfl ?_
      refine g_ifnullN 62 e_As_weights_36 (by decide) ?_
      refine g_iinc (v := (l3 + 1)) (lv := [(3, .int (l3 + 1)), (4, .null), (0, .ref (qb E + 55)), (1, .int l1), (2, .int l2)]) 4 e_As_weights_62 rfl rfl (by decide) rfl ?_
      refine g_goto 4 e_As_weights_65 (by decide) ?_
      refine g_loc [2, 3, 4, 0] rfl ?_
      exact h
    · change Go _ _ _ _ _ _ _ _ (.ref (qb E + (58 + 3 + 2 * i3)) :: _) _
      refine g_astore (lv := [(4, .ref (qb E + (58 + 3 + 2 * i3))), (0, .ref (qb E + 55)), (1, .int l1), (2, .int l2), (3, .int l3)]) e_As_weights_32 (by decide) rfl ?_
      refine g_aload 0 e_As_weights_34 rfl ?_
      refine g_ifnull e_As_weights_36 ?_
      refine g_aload 0 e_As_weights_39 rfl ?_
      refine g_iload_n 4 e_As_weights_41 rfl rfl ?_
      refine pf_As_110 rfl e_As_weights_42 hw3 (lay_Th (isTh_of isPan58 hi3)) (lt_Th (isTh_of isPan58 hi3)) ?_
      refine g_iload_n 3 e_As_weights_45 rfl rfl ?_
      refine g_aload_n 1 e_As_weights_46 rfl rfl ?_
      refine w_callVI (w := (qpi w3 (58 + 3 + 2 * i3) 3 l3)) (As := []) (rest := [.int l2]) e_As_weights_47 ok_As_isAsSeen rfl km_As_113 kx_As_isAsSeen kv_As_isAsSeen rfl (by decide) hw3 lay_55 (by decide) rfl (Nat.le_of_ble_eq_true rfl) h (fun w4 x4 hw4 h => ?_)
      refine g_if_eq 59 e_As_weights_50 (by decide) ⟨fun z5 => ?_, fun z5 => ?_⟩
      · have h := h.1 z5
        refine g_iconst (v := 0) e_As_weights_59 (by decide) ?_
        refine g_ior e_As_weights_60 ?_
        refine g_istore_n (lv := [(2, .int (l2 ||| 0)), (4, .ref (qb E + (58 + 3 + 2 * i3))), (0, .ref (qb E + 55)), (1, .int l1), (3, .int l3)]) e_As_weights_61 rfl (by decide) rfl ?_
        refine g_iinc (v := (l3 + 1)) (lv := [(3, .int (l3 + 1)), (2, .int (l2 ||| 0)), (4, .ref (qb E + (58 + 3 + 2 * i3))), (0, .ref (qb E + 55)), (1, .int l1)]) 4 e_As_weights_62 rfl rfl (by decide) rfl ?_
        refine g_goto 4 e_As_weights_65 (by decide) ?_
        refine g_loc [3, 4, 1, 0] rfl ?_
        exact h
      · have h := h.2 z5
        refine g_iconst (v := 1) e_As_weights_53 (by decide) ?_
        refine g_iload_n 4 e_As_weights_54 rfl rfl ?_
        refine g_ishl e_As_weights_55 ?_
        refine g_goto 60 e_As_weights_56 (by decide) ?_
        refine g_ior e_As_weights_60 ?_
        refine g_istore_n (lv := [(2, .int (l2 ||| (1 <<< (l3 &&& 31)))), (4, .ref (qb E + (58 + 3 + 2 * i3))), (0, .ref (qb E + 55)), (1, .int l1), (3, .int l3)]) e_As_weights_61 rfl (by decide) rfl ?_
        refine g_iinc (v := (l3 + 1)) (lv := [(3, .int (l3 + 1)), (2, .int (l2 ||| (1 <<< (l3 &&& 31)))), (4, .ref (qb E + (58 + 3 + 2 * i3))), (0, .ref (qb E + 55)), (1, .int l1)]) 4 e_As_weights_62 rfl rfl (by decide) rfl ?_
        refine g_goto 4 e_As_weights_65 (by decide) ?_
        refine g_loc [3, 4, 1, 0] rfl ?_
        exact h
theorem en_As_weights {d : Nat} {E : qE} {Q : qW → Int32 → Prop} {a1 : Int32} {w : qW} (hw : Sh w) (h : c_As_weights_0 d E Q a1 w) : CaI (d + 5) M_As_weights [.ref (qb E + 55), .int a1] E w Q := Ca.into hw rfl (Nat.le_of_ble_eq_true rfl) h
def c_As_firmness_0 (d : Nat) (E : qE) (Q : qW → Int32 → Prop) (a1 : Int32) (a2 : Int32) (w : qW) : Prop := Go (d + 5) M_As_firmness E 161 161 (qFI Q) 0 [(0, .ref (qb E + 55)), (1, .int a1), (2, .int a2)] [] w
def c_As_firmness_10 (d : Nat) (E : qE) (Q : qW → Int32 → Prop) (l1 : Int32) (l2 : Int32) (l3 : Int32) (l4 : Int32) (l5 : Int32) (w : qW) : Prop := Go (d + 5) M_As_firmness E 161 161 (qFI Q) 10 [(0, .ref (qb E + 55)), (1, .int l1), (2, .int l2), (3, .int l3), (4, .int l4), (5, .int l5)] [] w
set_option maxHeartbeats 4000000 in
set_option maxRecDepth 8000 in
theorem s_As_firmness_0 {d : Nat} {E : qE} {Q : qW → Int32 → Prop} {a1 : Int32} {a2 : Int32} {w : qW} (hw : Sh w) (h : c_As_firmness_10 d E Q a1 a2 0 (-5) 9 w) : c_As_firmness_0 d E Q a1 a2 w := by
  unfold c_As_firmness_0
  refine g_iconst (v := 0) e_As_firmness_0 (by decide) ?_
  refine g_istore_n (lv := [(3, .int 0), (0, .ref (qb E + 55)), (1, .int a1), (2, .int a2)]) e_As_firmness_1 rfl (by decide) rfl ?_
  refine g_bipush (v := (-5)) e_As_firmness_2 (by decide) ?_
  refine g_istore (lv := [(4, .int (-5)), (3, .int 0), (0, .ref (qb E + 55)), (1, .int a1), (2, .int a2)]) e_As_firmness_4 (by decide) rfl ?_
  refine g_bipush (v := 9) e_As_firmness_6 (by decide) ?_
  refine g_istore (lv := [(5, .int 9), (4, .int (-5)), (3, .int 0), (0, .ref (qb E + 55)), (1, .int a1), (2, .int a2)]) e_As_firmness_8 (by decide) rfl ?_
  refine g_loc [3, 4, 5, 2, 1, 0] rfl ?_
  exact h
set_option maxHeartbeats 4000000 in
set_option maxRecDepth 8000 in
theorem s_As_firmness_10 {d : Nat} {E : qE} {Q : qW → Int32 → Prop} {l1 : Int32} {l2 : Int32} {l3 : Int32} {l4 : Int32} {l5 : Int32} {w : qW} (hw : Sh w) (h : ((l5 < 0) → (((l2 = 0) → (Q w l4)) ∧ ((¬ l2 = 0) → (Q w l3)))) ∧ ((¬ l5 < 0) → (CaV (d + 4) M_Pa_copyFrom [.ref (qb E + 58), .ref (qb E + 15)] E w (fun w3 => CaR (d + 4) M_Pa_find [.ref (qb E + 58), .int l1] E w3 (fun w4 x4 => (x4 = none ∧ (c_As_firmness_10 d E Q l1 l2 l3 l4 (l5 + (-1)) w4)) ∨ (∃ i4, i4 < 6 ∧ x4 = some (58 + 3 + 2 * i4) ∧ (CaI (d + 4) M_As_isAsSeen [.ref (qb E + 55)] E (qpi w4 (58 + 3 + 2 * i4) 2 l5) (fun w5 x5 => ((x5 = 0) → (c_As_firmness_10 d E Q l1 l2 l3 l4 (l5 + (-1)) w5)) ∧ ((¬ x5 = 0) → (c_As_firmness_10 d E Q l1 l2 (l3 + 1) l5 (l5 + (-1)) w5)))))))))) : c_As_firmness_10 d E Q l1 l2 l3 l4 l5 w := by
  unfold c_As_firmness_10
  refine g_iload 5 e_As_firmness_10 rfl ?_
  refine g_if_lt 71 e_As_firmness_12 (by decide) ⟨fun z1 => ?_, fun z1 => ?_⟩
  · have h := h.1 z1
    refine g_iload_n 2 e_As_firmness_71 rfl rfl ?_
    refine g_if_eq 79 e_As_firmness_72 (by decide) ⟨fun z2 => ?_, fun z2 => ?_⟩
    · have h := h.1 z2
      refine g_iload 4 e_As_firmness_79 rfl ?_
      exact g_iret e_As_firmness_81 rfl ⟨Sh.n hw, _, rfl, hw, h⟩
    · have h := h.2 z2
      refine g_iload_n 3 e_As_firmness_75 rfl rfl ?_
      refine g_goto 81 e_As_firmness_76 (by decide) ?_
      exact g_iret e_As_firmness_81 rfl ⟨Sh.n hw, _, rfl, hw, h⟩
  · have h := h.2 z1
    refine g_aload_n 0 e_As_firmness_15 rfl rfl ?_
    refine gf_As_27 rfl e_As_firmness_16 hw lay_55 (by decide) (sh_As_trial hw) ?_
    refine g_aload_n 0 e_As_firmness_19 rfl rfl ?_
    refine gf_As_18 rfl e_As_firmness_20 hw lay_55 (by decide) (sh_As_now hw) ?_
    refine gf_As_31 rfl e_As_firmness_23 hw (lay_Wh isWh5) (lt_Wh isWh5) (sh_Wh_pan hw isWh5) ?_
    refine w_callVV (w := w) (As := [.ref (qb E + 15)]) (rest := []) e_As_firmness_26 ok_Pa_copyFrom rfl km_As_36 kx_Pa_copyFrom kv_Pa_copyFrom rfl (by decide) hw (lay_Pa isPan58) (lt_Pa isPan58) rfl (Nat.le_of_ble_eq_true rfl) h (fun w3 hw3 h => ?_)
    refine g_aload_n 0 e_As_firmness_29 rfl rfl ?_
    refine gf_As_27 rfl e_As_firmness_30 hw3 lay_55 (by decide) (sh_As_trial hw3) ?_
    refine g_iload_n 1 e_As_firmness_33 rfl rfl ?_
    refine w_callVR (w := w3) (As := [.int l1]) (rest := []) e_As_firmness_34 ok_Pa_find rfl km_As_59 kx_Pa_find kv_Pa_find rfl (by decide) hw3 (lay_Pa isPan58) (lt_Pa isPan58) rfl (Nat.le_of_ble_eq_true rfl) h (fun w4 x4 hw4 h => ?_)
    obtain ⟨rfl, h⟩ | ⟨i4, hi4, rfl, h⟩ := h
    · change Go _ _ _ _ _ _ _ _ (.null :: _) _
      refine g_astoreN (lv := [(6, .null), (0, .ref (qb E + 55)), (1, .int l1), (2, .int l2), (3, .int l3), (4, .int l4), (5, .int l5)]) e_As_firmness_37 (by decide) rfl ?_
      refine g_aloadN 0 e_As_firmness_39 rfl ?_
      refine g_ifnullN 65 e_As_firmness_41 (by decide) ?_
      refine g_iinc (v := (l5 + (-1))) (lv := [(5, .int (l5 + (-1))), (6, .null), (0, .ref (qb E + 55)), (1, .int l1), (2, .int l2), (3, .int l3), (4, .int l4)]) 6 e_As_firmness_65 rfl rfl (by decide) rfl ?_
      refine g_goto 10 e_As_firmness_68 (by decide) ?_
      refine g_loc [2, 3, 4, 5, 6, 0] rfl ?_
      exact h
    · change Go _ _ _ _ _ _ _ _ (.ref (qb E + (58 + 3 + 2 * i4)) :: _) _
      refine g_astore (lv := [(6, .ref (qb E + (58 + 3 + 2 * i4))), (0, .ref (qb E + 55)), (1, .int l1), (2, .int l2), (3, .int l3), (4, .int l4), (5, .int l5)]) e_As_firmness_37 (by decide) rfl ?_
      refine g_aload 0 e_As_firmness_39 rfl ?_
      refine g_ifnull e_As_firmness_41 ?_
      refine g_aload 0 e_As_firmness_44 rfl ?_
      refine g_iload 6 e_As_firmness_46 rfl ?_
      refine pf_As_117 rfl e_As_firmness_48 hw4 (lay_Th (isTh_of isPan58 hi4)) (lt_Th (isTh_of isPan58 hi4)) ?_
      refine g_aload_n 1 e_As_firmness_51 rfl rfl ?_
      refine w_callVI (w := (qpi w4 (58 + 3 + 2 * i4) 2 l5)) (As := []) (rest := []) e_As_firmness_52 ok_As_isAsSeen rfl km_As_113 kx_As_isAsSeen kv_As_isAsSeen rfl (by decide) hw4 lay_55 (by decide) rfl (Nat.le_of_ble_eq_true rfl) h (fun w5 x5 hw5 h => ?_)
      refine g_if_eq 65 e_As_firmness_55 (by decide) ⟨fun z6 => ?_, fun z6 => ?_⟩
      · have h := h.1 z6
        refine g_iinc (v := (l5 + (-1))) (lv := [(5, .int (l5 + (-1))), (6, .ref (qb E + (58 + 3 + 2 * i4))), (0, .ref (qb E + 55)), (1, .int l1), (2, .int l2), (3, .int l3), (4, .int l4)]) 6 e_As_firmness_65 rfl rfl (by decide) rfl ?_
        refine g_goto 10 e_As_firmness_68 (by decide) ?_
        refine g_loc [2, 3, 4, 5, 6, 0] rfl ?_
        exact h
      · have h := h.2 z6
        refine g_iinc (v := (l3 + 1)) (lv := [(3, .int (l3 + 1)), (6, .ref (qb E + (58 + 3 + 2 * i4))), (0, .ref (qb E + 55)), (1, .int l1), (2, .int l2), (4, .int l4), (5, .int l5)]) 4 e_As_firmness_58 rfl rfl (by decide) rfl ?_
        refine g_iload 6 e_As_firmness_61 rfl ?_
        refine g_istore (lv := [(4, .int l5), (3, .int (l3 + 1)), (6, .ref (qb E + (58 + 3 + 2 * i4))), (0, .ref (qb E + 55)), (1, .int l1), (2, .int l2), (5, .int l5)]) e_As_firmness_63 (by decide) rfl ?_
        refine g_iinc (v := (l5 + (-1))) (lv := [(5, .int (l5 + (-1))), (4, .int l5), (3, .int (l3 + 1)), (6, .ref (qb E + (58 + 3 + 2 * i4))), (0, .ref (qb E + 55)), (1, .int l1), (2, .int l2)]) 6 e_As_firmness_65 rfl rfl (by decide) rfl ?_
        refine g_goto 10 e_As_firmness_68 (by decide) ?_
        refine g_loc [4, 5, 6, 2, 1, 0] rfl ?_
        exact h
theorem en_As_firmness {d : Nat} {E : qE} {Q : qW → Int32 → Prop} {a1 : Int32} {a2 : Int32} {w : qW} (hw : Sh w) (h : c_As_firmness_0 d E Q a1 a2 w) : CaI (d + 5) M_As_firmness [.ref (qb E + 55), .int a1, .int a2] E w Q := Ca.into hw rfl (Nat.le_of_ble_eq_true rfl) h
def c_As_isAsSeen_0 (d : Nat) (E : qE) (Q : qW → Int32 → Prop) (w : qW) : Prop := Go (d + 4) M_As_isAsSeen E 161 161 (qFI Q) 0 [(0, .ref (qb E + 55))] [] w
def c_As_isAsSeen_12 (d : Nat) (E : qE) (Q : qW → Int32 → Prop) (l2 : Int32) (l3 : Int32) (w : qW) : Prop := Go (d + 4) M_As_isAsSeen E 161 161 (qFI Q) 12 [(0, .ref (qb E + 55)), (1, .ref (qb E + 6)), (2, .int l2), (3, .int l3)] [] w
def c_As_isAsSeen_29 (d : Nat) (E : qE) (Q : qW → Int32 → Prop) (l2 : Int32) (l3 : Int32) (l4 : Int32) (w : qW) : Prop := Go (d + 4) M_As_isAsSeen E 161 161 (qFI Q) 29 [(0, .ref (qb E + 55)), (1, .ref (qb E + 6)), (2, .int l2), (3, .int l3), (4, .int l4)] [] w
set_option maxHeartbeats 4000000 in
set_option maxRecDepth 8000 in
theorem s_As_isAsSeen_0 {d : Nat} {E : qE} {Q : qW → Int32 → Prop} {w : qW} (hw : Sh w) (h : c_As_isAsSeen_12 d E Q 0 0 w) : c_As_isAsSeen_0 d E Q  w := by
  unfold c_As_isAsSeen_0
  refine g_aload_n 0 e_As_isAsSeen_0 rfl rfl ?_
  refine gf_As_18 rfl e_As_isAsSeen_1 hw lay_55 (by decide) (sh_As_now hw) ?_
  refine gf_As_120 rfl e_As_isAsSeen_4 hw (lay_Wh isWh5) (lt_Wh isWh5) (sh_Wh_seen hw isWh5) ?_
  refine g_astore_n (lv := [(1, .ref (qb E + 6)), (0, .ref (qb E + 55))]) e_As_isAsSeen_7 rfl (by decide) rfl ?_
  refine g_iconst (v := 0) e_As_isAsSeen_8 (by decide) ?_
  refine g_istore_n (lv := [(2, .int 0), (1, .ref (qb E + 6)), (0, .ref (qb E + 55))]) e_As_isAsSeen_9 rfl (by decide) rfl ?_
  refine g_iconst (v := 0) e_As_isAsSeen_10 (by decide) ?_
  refine g_istore_n (lv := [(3, .int 0), (2, .int 0), (1, .ref (qb E + 6)), (0, .ref (qb E + 55))]) e_As_isAsSeen_11 rfl (by decide) rfl ?_
  refine g_loc [3, 2, 1, 0] rfl ?_
  exact h
set_option maxHeartbeats 4000000 in
set_option maxRecDepth 8000 in
theorem s_As_isAsSeen_12 {d : Nat} {E : qE} {Q : qW → Int32 → Prop} {l2 : Int32} {l3 : Int32} {w : qW} (hw : Sh w) (h : ((12 < l3) → (Q w 1)) ∧ ((¬ 12 < l3) → ((((qi w 6 2) ≤ l2) → (Q w 1)) ∧ ((¬ (qi w 6 2) ≤ l2) → (c_As_isAsSeen_29 d E Q l2 l3 0 w))))) : c_As_isAsSeen_12 d E Q l2 l3 w := by
  unfold c_As_isAsSeen_12
  refine g_iload_n 3 e_As_isAsSeen_12 rfl rfl ?_
  refine g_bipush (v := 12) e_As_isAsSeen_13 (by decide) ?_
  refine g_icmp_gt 88 e_As_isAsSeen_15 (by decide) ⟨fun z1 => ?_, fun z1 => ?_⟩
  · have h := h.1 z1
    refine g_iconst (v := 1) e_As_isAsSeen_88 (by decide) ?_
    exact g_zret e_As_isAsSeen_89 rfl (Or.inr rfl) ⟨Sh.n hw, _, rfl, hw, h⟩
  · have h := h.2 z1
    refine g_iload_n 2 e_As_isAsSeen_18 rfl rfl ?_
    refine g_aload_n 1 e_As_isAsSeen_19 rfl rfl ?_
    refine gf_As_124 rfl e_As_isAsSeen_20 hw (lay_Ro (isRo1 isWh5)) (lt_Ro (isRo1 isWh5)) ?_
    refine g_icmp_ge 88 e_As_isAsSeen_23 (by decide) ⟨fun z2 => ?_, fun z2 => ?_⟩
    · have h := h.1 z2
      refine g_iconst (v := 1) e_As_isAsSeen_88 (by decide) ?_
      exact g_zret e_As_isAsSeen_89 rfl (Or.inr rfl) ⟨Sh.n hw, _, rfl, hw, h⟩
    · have h := h.2 z2
      refine g_iconst (v := 0) e_As_isAsSeen_26 (by decide) ?_
      refine g_istore (lv := [(4, .int 0), (0, .ref (qb E + 55)), (1, .ref (qb E + 6)), (2, .int l2), (3, .int l3)]) e_As_isAsSeen_27 (by decide) rfl ?_
      refine g_loc [1, 2, 3, 4, 0] rfl ?_
      exact h
set_option maxHeartbeats 4000000 in
set_option maxRecDepth 8000 in
theorem s_As_isAsSeen_29 {d : Nat} {E : qE} {Q : qW → Int32 → Prop} {l2 : Int32} {l3 : Int32} {l4 : Int32} {w : qW} (hw : Sh w) (h : (((qi w 6 2) ≤ l4) → (CaV (d + 3) M_Pa_goMinute [.ref (qb E + 58)] E w (fun w2 => c_As_isAsSeen_12 d E Q l2 (l3 + 1) w2))) ∧ ((¬ (qi w 6 2) ≤ l4) → (CaI (d + 3) M_Ro_first [.ref (qb E + 6), .int l4] E w (fun w3 x3 => ((¬ x3 = l3) → (c_As_isAsSeen_29 d E Q l2 l3 (l4 + 1) w3)) ∧ ((x3 = l3) → (CaI (d + 3) M_Ro_second [.ref (qb E + 6), .int l4] E w3 (fun w5 x5 => ((x5 = (qi w5 58 3)) → (c_As_isAsSeen_29 d E Q (l2 + 1) l3 (l4 + 1) w5)) ∧ ((¬ x5 = (qi w5 58 3)) → (Q w5 0))))))))) : c_As_isAsSeen_29 d E Q l2 l3 l4 w := by
  unfold c_As_isAsSeen_29
  refine g_iload 4 e_As_isAsSeen_29 rfl ?_
  refine g_aload_n 1 e_As_isAsSeen_31 rfl rfl ?_
  refine gf_As_124 rfl e_As_isAsSeen_32 hw (lay_Ro (isRo1 isWh5)) (lt_Ro (isRo1 isWh5)) ?_
  refine g_icmp_ge 75 e_As_isAsSeen_35 (by decide) ⟨fun z1 => ?_, fun z1 => ?_⟩
  · have h := h.1 z1
    refine g_aload_n 0 e_As_isAsSeen_75 rfl rfl ?_
    refine gf_As_27 rfl e_As_isAsSeen_76 hw lay_55 (by decide) (sh_As_trial hw) ?_
    refine w_callVV (w := w) (As := []) (rest := []) e_As_isAsSeen_79 ok_Pa_goMinute rfl km_As_56 kx_Pa_goMinute kv_Pa_goMinute rfl (by decide) hw (lay_Pa isPan58) (lt_Pa isPan58) rfl (Nat.le_of_ble_eq_true rfl) h (fun w2 hw2 h => ?_)
    refine g_iinc (v := (l3 + 1)) (lv := [(3, .int (l3 + 1)), (0, .ref (qb E + 55)), (1, .ref (qb E + 6)), (2, .int l2), (4, .int l4)]) 3 e_As_isAsSeen_82 rfl rfl (by decide) rfl ?_
    refine g_goto 12 e_As_isAsSeen_85 (by decide) ?_
    refine g_loc [1, 2, 3, 0] rfl ?_
    exact h
  · have h := h.2 z1
    refine g_aload_n 1 e_As_isAsSeen_38 rfl rfl ?_
    refine g_iload 4 e_As_isAsSeen_39 rfl ?_
    refine w_callVI (w := w) (As := [.int l4]) (rest := []) e_As_isAsSeen_41 ok_Ro_first rfl km_As_129 kx_Ro_first kv_Ro_first rfl (by decide) hw (lay_Ro (isRo1 isWh5)) (lt_Ro (isRo1 isWh5)) rfl (Nat.le_of_ble_eq_true rfl) h (fun w3 x3 hw3 h => ?_)
    refine g_iload_n 3 e_As_isAsSeen_44 rfl rfl ?_
    refine g_icmp_ne 69 e_As_isAsSeen_45 (by decide) ⟨fun z4 => ?_, fun z4 => ?_⟩
    · have h := h.1 z4
      refine g_iinc (v := (l4 + 1)) (lv := [(4, .int (l4 + 1)), (0, .ref (qb E + 55)), (1, .ref (qb E + 6)), (2, .int l2), (3, .int l3)]) 4 e_As_isAsSeen_69 rfl rfl (by decide) rfl ?_
      refine g_goto 29 e_As_isAsSeen_72 (by decide) ?_
      refine g_loc [1, 2, 3, 4, 0] rfl ?_
      exact h
    · have h := h.2 z4
      refine g_aload_n 1 e_As_isAsSeen_48 rfl rfl ?_
      refine g_iload 4 e_As_isAsSeen_49 rfl ?_
      refine w_callVI (w := w3) (As := [.int l4]) (rest := []) e_As_isAsSeen_51 ok_Ro_second rfl km_As_132 kx_Ro_second kv_Ro_second rfl (by decide) hw3 (lay_Ro (isRo1 isWh5)) (lt_Ro (isRo1 isWh5)) rfl (Nat.le_of_ble_eq_true rfl) h (fun w5 x5 hw5 h => ?_)
      refine g_aload_n 0 e_As_isAsSeen_54 rfl rfl ?_
      refine gf_As_27 rfl e_As_isAsSeen_55 hw5 lay_55 (by decide) (sh_As_trial hw5) ?_
      refine gf_As_44 rfl e_As_isAsSeen_58 hw5 (lay_Pa isPan58) (lt_Pa isPan58) ?_
      refine g_icmp_eq 66 e_As_isAsSeen_61 (by decide) ⟨fun z6 => ?_, fun z6 => ?_⟩
      · have h := h.1 z6
        refine g_iinc (v := (l2 + 1)) (lv := [(2, .int (l2 + 1)), (0, .ref (qb E + 55)), (1, .ref (qb E + 6)), (3, .int l3), (4, .int l4)]) 2 e_As_isAsSeen_66 rfl rfl (by decide) rfl ?_
        refine g_iinc (v := (l4 + 1)) (lv := [(4, .int (l4 + 1)), (2, .int (l2 + 1)), (0, .ref (qb E + 55)), (1, .ref (qb E + 6)), (3, .int l3)]) 4 e_As_isAsSeen_69 rfl rfl (by decide) rfl ?_
        refine g_goto 29 e_As_isAsSeen_72 (by decide) ?_
        refine g_loc [2, 3, 1, 4, 0] rfl ?_
        exact h
      · have h := h.2 z6
        refine g_iconst (v := 0) e_As_isAsSeen_64 (by decide) ?_
        exact g_zret e_As_isAsSeen_65 rfl (Or.inl rfl) ⟨Sh.n hw5, _, rfl, hw5, h⟩
theorem en_As_isAsSeen {d : Nat} {E : qE} {Q : qW → Int32 → Prop} {w : qW} (hw : Sh w) (h : c_As_isAsSeen_0 d E Q  w) : CaI (d + 4) M_As_isAsSeen [.ref (qb E + 55)] E w Q := Ca.into hw rfl (Nat.le_of_ble_eq_true rfl) h
def c_As_chances_0 (d : Nat) (E : qE) (Q : qW → Int32 → Prop) (a1 : Int32) (w : qW) : Prop := Go (d + 5) M_As_chances E 161 161 (qFI Q) 0 [(0, .ref (qb E + 55)), (1, .int a1)] [] w
def c_As_chances_17 (d : Nat) (E : qE) (Q : qW → Int32 → Prop) (l1 : Int32) (l2 : Int32) (l3 : Int32) (l4 : Int32) (w : qW) : Prop := Go (d + 5) M_As_chances E 161 161 (qFI Q) 17 [(0, .ref (qb E + 55)), (1, .int l1), (2, .int l2), (3, .int l3), (4, .int l4)] [] w
set_option maxHeartbeats 4000000 in
set_option maxRecDepth 8000 in
theorem s_As_chances_0 {d : Nat} {E : qE} {Q : qW → Int32 → Prop} {a1 : Int32} {w : qW} (hw : Sh w) (h : CaI (d + 4) M_Pa_bitsOf [.ref (qb E + 15), .int 0] E w (fun w1 x1 => c_As_chances_17 d E Q a1 x1 0 0 w1)) : c_As_chances_0 d E Q a1 w := by
  unfold c_As_chances_0
  refine g_aload_n 0 e_As_chances_0 rfl rfl ?_
  refine gf_As_18 rfl e_As_chances_1 hw lay_55 (by decide) (sh_As_now hw) ?_
  refine gf_As_31 rfl e_As_chances_4 hw (lay_Wh isWh5) (lt_Wh isWh5) (sh_Wh_pan hw isWh5) ?_
  refine g_iconst (v := 0) e_As_chances_7 (by decide) ?_
  refine w_callVI (w := w) (As := [.int 0]) (rest := []) e_As_chances_8 ok_Pa_bitsOf rfl km_As_90 kx_Pa_bitsOf kv_Pa_bitsOf rfl (by decide) hw (lay_Pa (isPan_Wh isWh5)) (lt_Pa (isPan_Wh isWh5)) rfl (Nat.le_of_ble_eq_true rfl) h (fun w1 x1 hw1 h => ?_)
  refine g_istore_n (lv := [(2, .int x1), (0, .ref (qb E + 55)), (1, .int a1)]) e_As_chances_11 rfl (by decide) rfl ?_
  refine g_iconst (v := 0) e_As_chances_12 (by decide) ?_
  refine g_istore_n (lv := [(3, .int 0), (2, .int x1), (0, .ref (qb E + 55)), (1, .int a1)]) e_As_chances_13 rfl (by decide) rfl ?_
  refine g_iconst (v := 0) e_As_chances_14 (by decide) ?_
  refine g_istore (lv := [(4, .int 0), (3, .int 0), (2, .int x1), (0, .ref (qb E + 55)), (1, .int a1)]) e_As_chances_15 (by decide) rfl ?_
  refine g_loc [3, 4, 2, 1, 0] rfl ?_
  exact h
set_option maxHeartbeats 4000000 in
set_option maxRecDepth 8000 in
theorem s_As_chances_17 {d : Nat} {E : qE} {Q : qW → Int32 → Prop} {l1 : Int32} {l2 : Int32} {l3 : Int32} {l4 : Int32} {w : qW} (hw : Sh w) (h : ((6 ≤ l4) → (Q w l3)) ∧ ((¬ 6 ≤ l4) → (((¬ ((l2 >>> (l4 &&& 31)) &&& 1) = 1) → (c_As_chances_17 d E Q l1 l2 l3 (l4 + 1) w)) ∧ ((((l2 >>> (l4 &&& 31)) &&& 1) = 1) → (CaI (d + 4) M_As_setsWith [.ref (qb E + 55), .int (1 <<< (l4 &&& 31)), .int l1] E w (fun w3 x3 => ((x3 = 0) → (c_As_chances_17 d E Q l1 l2 l3 (l4 + 1) w3)) ∧ ((¬ x3 = 0) → (c_As_chances_17 d E Q l1 l2 (l3 + 1) (l4 + 1) w3)))))))) : c_As_chances_17 d E Q l1 l2 l3 l4 w := by
  unfold c_As_chances_17
  refine g_iload 4 e_As_chances_17 rfl ?_
  refine g_bipush (v := 6) e_As_chances_19 (by decide) ?_
  refine g_icmp_ge 55 e_As_chances_21 (by decide) ⟨fun z1 => ?_, fun z1 => ?_⟩
  · have h := h.1 z1
    refine g_iload_n 3 e_As_chances_55 rfl rfl ?_
    exact g_iret e_As_chances_56 rfl ⟨Sh.n hw, _, rfl, hw, h⟩
  · have h := h.2 z1
    refine g_iload_n 2 e_As_chances_24 rfl rfl ?_
    refine g_iload 4 e_As_chances_25 rfl ?_
    refine g_ishr e_As_chances_27 ?_
    refine g_iconst (v := 1) e_As_chances_28 (by decide) ?_
    refine g_iand e_As_chances_29 ?_
    refine g_iconst (v := 1) e_As_chances_30 (by decide) ?_
    refine g_icmp_ne 49 e_As_chances_31 (by decide) ⟨fun z2 => ?_, fun z2 => ?_⟩
    · have h := h.1 z2
      refine g_iinc (v := (l4 + 1)) (lv := [(4, .int (l4 + 1)), (0, .ref (qb E + 55)), (1, .int l1), (2, .int l2), (3, .int l3)]) 4 e_As_chances_49 rfl rfl (by decide) rfl ?_
      refine g_goto 17 e_As_chances_52 (by decide) ?_
      refine g_loc [1, 2, 3, 4, 0] rfl ?_
      exact h
    · have h := h.2 z2
      refine g_aload_n 0 e_As_chances_34 rfl rfl ?_
      refine g_iconst (v := 1) e_As_chances_35 (by decide) ?_
      refine g_iload 4 e_As_chances_36 rfl ?_
      refine g_ishl e_As_chances_38 ?_
      refine g_iload_n 1 e_As_chances_39 rfl rfl ?_
      refine w_callVI (w := w) (As := [.int (1 <<< (l4 &&& 31)), .int l1]) (rest := []) e_As_chances_40 ok_As_setsWith rfl km_As_99 kx_As_setsWith kv_As_setsWith rfl (by decide) hw lay_55 (by decide) rfl (Nat.le_of_ble_eq_true rfl) h (fun w3 x3 hw3 h => ?_)
      refine g_if_eq 49 e_As_chances_43 (by decide) ⟨fun z4 => ?_, fun z4 => ?_⟩
      · have h := h.1 z4
        refine g_iinc (v := (l4 + 1)) (lv := [(4, .int (l4 + 1)), (0, .ref (qb E + 55)), (1, .int l1), (2, .int l2), (3, .int l3)]) 4 e_As_chances_49 rfl rfl (by decide) rfl ?_
        refine g_goto 17 e_As_chances_52 (by decide) ?_
        refine g_loc [1, 2, 3, 4, 0] rfl ?_
        exact h
      · have h := h.2 z4
        refine g_iinc (v := (l3 + 1)) (lv := [(3, .int (l3 + 1)), (0, .ref (qb E + 55)), (1, .int l1), (2, .int l2), (4, .int l4)]) 3 e_As_chances_46 rfl rfl (by decide) rfl ?_
        refine g_iinc (v := (l4 + 1)) (lv := [(4, .int (l4 + 1)), (3, .int (l3 + 1)), (0, .ref (qb E + 55)), (1, .int l1), (2, .int l2)]) 4 e_As_chances_49 rfl rfl (by decide) rfl ?_
        refine g_goto 17 e_As_chances_52 (by decide) ?_
        refine g_loc [2, 3, 4, 1, 0] rfl ?_
        exact h
theorem en_As_chances {d : Nat} {E : qE} {Q : qW → Int32 → Prop} {a1 : Int32} {w : qW} (hw : Sh w) (h : c_As_chances_0 d E Q a1 w) : CaI (d + 5) M_As_chances [.ref (qb E + 55), .int a1] E w Q := Ca.into hw rfl (Nat.le_of_ble_eq_true rfl) h
def c_As_planned_0 (d : Nat) (E : qE) (Q : qW → Int32 → Prop) (a1 : Int32) (w : qW) : Prop := Go (d + 5) M_As_planned E 161 161 (qFI Q) 0 [(0, .ref (qb E + 55)), (1, .int a1)] [] w
def c_As_planned_16 (d : Nat) (E : qE) (Q : qW → Int32 → Prop) (l1 : Int32) (l2 : Int32) (w : qW) : Prop := Go (d + 5) M_As_planned E 161 161 (qFI Q) 16 [(0, .ref (qb E + 55)), (1, .int l1), (2, .int l2)] [] w
set_option maxHeartbeats 4000000 in
set_option maxRecDepth 8000 in
theorem s_As_planned_0 {d : Nat} {E : qE} {Q : qW → Int32 → Prop} {a1 : Int32} {w : qW} (hw : Sh w) (h : CaV (d + 4) M_Pa_copyFrom [.ref (qb E + 58), .ref (qb E + 15)] E w (fun w1 => c_As_planned_16 d E Q a1 0 w1)) : c_As_planned_0 d E Q a1 w := by
  unfold c_As_planned_0
  refine g_aload_n 0 e_As_planned_0 rfl rfl ?_
  refine gf_As_27 rfl e_As_planned_1 hw lay_55 (by decide) (sh_As_trial hw) ?_
  refine g_aload_n 0 e_As_planned_4 rfl rfl ?_
  refine gf_As_18 rfl e_As_planned_5 hw lay_55 (by decide) (sh_As_now hw) ?_
  refine gf_As_31 rfl e_As_planned_8 hw (lay_Wh isWh5) (lt_Wh isWh5) (sh_Wh_pan hw isWh5) ?_
  refine w_callVV (w := w) (As := [.ref (qb E + 15)]) (rest := []) e_As_planned_11 ok_Pa_copyFrom rfl km_As_36 kx_Pa_copyFrom kv_Pa_copyFrom rfl (by decide) hw (lay_Pa isPan58) (lt_Pa isPan58) rfl (Nat.le_of_ble_eq_true rfl) h (fun w1 hw1 h => ?_)
  refine g_iconst (v := 0) e_As_planned_14 (by decide) ?_
  refine g_istore_n (lv := [(2, .int 0), (0, .ref (qb E + 55)), (1, .int a1)]) e_As_planned_15 rfl (by decide) rfl ?_
  refine g_loc [1, 2, 0] rfl ?_
  exact h
set_option maxHeartbeats 4000000 in
set_option maxRecDepth 8000 in
theorem s_As_planned_16 {d : Nat} {E : qE} {Q : qW → Int32 → Prop} {l1 : Int32} {l2 : Int32} {w : qW} (hw : Sh w) (h : (((qi w 9 2) ≤ l2) → (((l1 = 0) → (CaI (d + 4) M_Pa_bitsOf [.ref (qb E + 58), .int 1] E w (fun w3 x3 => Q w3 x3))) ∧ ((¬ l1 = 0) → (Q w (qi w 58 3))))) ∧ ((¬ (qi w 9 2) ≤ l2) → (CaI (d + 4) M_Ro_first [.ref (qb E + 9), .int l2] E w (fun w4 x4 => CaI (d + 4) M_Ro_second [.ref (qb E + 9), .int l2] E w4 (fun w5 x5 => CaV (d + 4) M_As_follow [.ref (qb E + 55), .int x4, .int x5] E w5 (fun w6 => c_As_planned_16 d E Q l1 (l2 + 1) w6)))))) : c_As_planned_16 d E Q l1 l2 w := by
  unfold c_As_planned_16
  refine g_iload_n 2 e_As_planned_16 rfl rfl ?_
  refine g_aload_n 0 e_As_planned_17 rfl rfl ?_
  refine gf_As_18 rfl e_As_planned_18 hw lay_55 (by decide) (sh_As_now hw) ?_
  refine gf_As_135 rfl e_As_planned_21 hw (lay_Wh isWh5) (lt_Wh isWh5) (sh_Wh_plan hw isWh5) ?_
  refine gf_As_124 rfl e_As_planned_24 hw (lay_Ro (isRo2 isWh5)) (lt_Ro (isRo2 isWh5)) ?_
  refine g_icmp_ge 62 e_As_planned_27 (by decide) ⟨fun z1 => ?_, fun z1 => ?_⟩
  · have h := h.1 z1
    refine g_iload_n 1 e_As_planned_62 rfl rfl ?_
    refine g_if_eq 76 e_As_planned_63 (by decide) ⟨fun z2 => ?_, fun z2 => ?_⟩
    · have h := h.1 z2
      refine g_aload_n 0 e_As_planned_76 rfl rfl ?_
      refine gf_As_27 rfl e_As_planned_77 hw lay_55 (by decide) (sh_As_trial hw) ?_
      refine g_iconst (v := 1) e_As_planned_80 (by decide) ?_
      refine w_callVI (w := w) (As := [.int 1]) (rest := []) e_As_planned_81 ok_Pa_bitsOf rfl km_As_90 kx_Pa_bitsOf kv_Pa_bitsOf rfl (by decide) hw (lay_Pa isPan58) (lt_Pa isPan58) rfl (Nat.le_of_ble_eq_true rfl) h (fun w3 x3 hw3 h => ?_)
      exact g_iret e_As_planned_84 rfl ⟨Sh.n hw3, _, rfl, hw3, h⟩
    · have h := h.2 z2
      refine g_aload_n 0 e_As_planned_66 rfl rfl ?_
      refine gf_As_27 rfl e_As_planned_67 hw lay_55 (by decide) (sh_As_trial hw) ?_
      refine gf_As_44 rfl e_As_planned_70 hw (lay_Pa isPan58) (lt_Pa isPan58) ?_
      refine g_goto 84 e_As_planned_73 (by decide) ?_
      exact g_iret e_As_planned_84 rfl ⟨Sh.n hw, _, rfl, hw, h⟩
  · have h := h.2 z1
    refine g_aload_n 0 e_As_planned_30 rfl rfl ?_
    refine g_aload_n 0 e_As_planned_31 rfl rfl ?_
    refine gf_As_18 rfl e_As_planned_32 hw lay_55 (by decide) (sh_As_now hw) ?_
    refine gf_As_135 rfl e_As_planned_35 hw (lay_Wh isWh5) (lt_Wh isWh5) (sh_Wh_plan hw isWh5) ?_
    refine g_iload_n 2 e_As_planned_38 rfl rfl ?_
    refine w_callVI (w := w) (As := [.int l2]) (rest := [.ref (qb E + 55)]) e_As_planned_39 ok_Ro_first rfl km_As_129 kx_Ro_first kv_Ro_first rfl (by decide) hw (lay_Ro (isRo2 isWh5)) (lt_Ro (isRo2 isWh5)) rfl (Nat.le_of_ble_eq_true rfl) h (fun w4 x4 hw4 h => ?_)
    refine g_aload_n 0 e_As_planned_42 rfl rfl ?_
    refine gf_As_18 rfl e_As_planned_43 hw4 lay_55 (by decide) (sh_As_now hw4) ?_
    refine gf_As_135 rfl e_As_planned_46 hw4 (lay_Wh isWh5) (lt_Wh isWh5) (sh_Wh_plan hw4 isWh5) ?_
    refine g_iload_n 2 e_As_planned_49 rfl rfl ?_
    refine w_callVI (w := w4) (As := [.int l2]) (rest := [.int x4, .ref (qb E + 55)]) e_As_planned_50 ok_Ro_second rfl km_As_132 kx_Ro_second kv_Ro_second rfl (by decide) hw4 (lay_Ro (isRo2 isWh5)) (lt_Ro (isRo2 isWh5)) rfl (Nat.le_of_ble_eq_true rfl) h (fun w5 x5 hw5 h => ?_)
    refine w_callVV (w := w5) (As := [.int x4, .int x5]) (rest := []) e_As_planned_53 ok_As_follow rfl km_As_138 kx_As_follow kv_As_follow rfl (by decide) hw5 lay_55 (by decide) rfl (Nat.le_of_ble_eq_true rfl) h (fun w6 hw6 h => ?_)
    refine g_iinc (v := (l2 + 1)) (lv := [(2, .int (l2 + 1)), (0, .ref (qb E + 55)), (1, .int l1)]) 2 e_As_planned_56 rfl rfl (by decide) rfl ?_
    refine g_goto 16 e_As_planned_59 (by decide) ?_
    refine g_loc [1, 2, 0] rfl ?_
    exact h
theorem en_As_planned {d : Nat} {E : qE} {Q : qW → Int32 → Prop} {a1 : Int32} {w : qW} (hw : Sh w) (h : c_As_planned_0 d E Q a1 w) : CaI (d + 5) M_As_planned [.ref (qb E + 55), .int a1] E w Q := Ca.into hw rfl (Nat.le_of_ble_eq_true rfl) h
def c_As_follow_0 (d : Nat) (E : qE) (Q : qW → Prop) (a1 : Int32) (a2 : Int32) (w : qW) : Prop := Go (d + 4) M_As_follow E 161 161 (qFV Q) 0 [(0, .ref (qb E + 55)), (1, .int a1), (2, .int a2)] [] w
set_option maxHeartbeats 4000000 in
set_option maxRecDepth 8000 in
theorem s_As_follow_0 {d : Nat} {E : qE} {Q : qW → Prop} {a1 : Int32} {a2 : Int32} {w : qW} (hw : Sh w) (h : ((¬ a1 = 0) → (((¬ a1 = 3) → (CaR (d + 3) M_Pa_find [.ref (qb E + 58), .int a2] E w (fun w3 x3 => (x3 = none ∧ (Q w3)) ∨ (∃ i3, i3 < 6 ∧ x3 = some (58 + 3 + 2 * i3) ∧ (((¬ a1 = 1) → (((¬ a1 = 2) → (Q w3)) ∧ ((a1 = 2) → ((((qi w3 (58 + 3 + 2 * i3) 5) = 2) → (Q w3)) ∧ ((¬ (qi w3 (58 + 3 + 2 * i3) 5) = 2) → (CaV (d + 3) M_Pa_speak [.ref (qb E + 58), .ref (qb E + (58 + 3 + 2 * i3))] E w3 (fun w7 => Q w7))))))) ∧ ((a1 = 1) → (((¬ (qi w3 (58 + 3 + 2 * i3) 5) = 0) → (((¬ a1 = 2) → (Q w3)) ∧ ((a1 = 2) → ((((qi w3 (58 + 3 + 2 * i3) 5) = 2) → (Q w3)) ∧ ((¬ (qi w3 (58 + 3 + 2 * i3) 5) = 2) → (CaV (d + 3) M_Pa_speak [.ref (qb E + 58), .ref (qb E + (58 + 3 + 2 * i3))] E w3 (fun w11 => Q w11))))))) ∧ (((qi w3 (58 + 3 + 2 * i3) 5) = 0) → (CaV (d + 3) M_Th_putIn [.ref (qb E + (58 + 3 + 2 * i3))] E w3 (fun w12 => Q w12)))))))))) ∧ ((a1 = 3) → (Q (qpi w 58 2 a2))))) ∧ ((a1 = 0) → (CaV (d + 3) M_Pa_goMinute [.ref (qb E + 58)] E w (fun w13 => Q w13)))) : c_As_follow_0 d E Q a1 a2 w := by
  unfold c_As_follow_0
  refine g_iload_n 1 e_As_follow_0 rfl rfl ?_
  refine g_if_ne 14 e_As_follow_1 (by decide) ⟨fun z1 => ?_, fun z1 => ?_⟩
  · have h := h.1 z1
    refine g_iload_n 1 e_As_follow_14 rfl rfl ?_
    refine g_iconst (v := 3) e_As_follow_15 (by decide) ?_
    refine g_icmp_ne 30 e_As_follow_16 (by decide) ⟨fun z2 => ?_, fun z2 => ?_⟩
    · have h := h.1 z2
      refine g_aload_n 0 e_As_follow_30 rfl rfl ?_
      refine gf_As_27 rfl e_As_follow_31 hw lay_55 (by decide) (sh_As_trial hw) ?_
      refine g_iload_n 2 e_As_follow_34 rfl rfl ?_
      refine w_callVR (w := w) (As := [.int a2]) (rest := []) e_As_follow_35 ok_Pa_find rfl km_As_59 kx_Pa_find kv_Pa_find rfl (by decide) hw (lay_Pa isPan58) (lt_Pa isPan58) rfl (Nat.le_of_ble_eq_true rfl) h (fun w3 x3 hw3 h => ?_)
      obtain ⟨rfl, h⟩ | ⟨i3, hi3, rfl, h⟩ := h
      · change Go _ _ _ _ _ _ _ _ (.null :: _) _
        refine g_astore_nN (lv := [(3, .null), (0, .ref (qb E + 55)), (1, .int a1), (2, .int a2)]) e_As_follow_38 rfl (by decide) rfl ?_
        refine g_aload_nN 0 e_As_follow_39 rfl rfl ?_
        refine g_ifnullN 62 e_As_follow_40 (by decide) ?_
        refine g_aload_nN 0 e_As_follow_62 rfl rfl ?_
        refine g_ifnullN 87 e_As_follow_63 (by decide) ?_
        exact g_vret e_As_follow_87 rfl ⟨Sh.n hw3, rfl, hw3, h⟩
      · change Go _ _ _ _ _ _ _ _ (.ref (qb E + (58 + 3 + 2 * i3)) :: _) _
        refine g_astore_n (lv := [(3, .ref (qb E + (58 + 3 + 2 * i3))), (0, .ref (qb E + 55)), (1, .int a1), (2, .int a2)]) e_As_follow_38 rfl (by decide) rfl ?_
        refine g_aload_n 0 e_As_follow_39 rfl rfl ?_
        refine g_ifnull e_As_follow_40 ?_
        refine g_iload_n 2 e_As_follow_43 rfl rfl ?_
        refine g_iconst (v := 1) e_As_follow_44 (by decide) ?_
        refine g_icmp_ne 62 e_As_follow_45 (by decide) ⟨fun z4 => ?_, fun z4 => ?_⟩
        · have h := h.1 z4
          refine g_aload_n 0 e_As_follow_62 rfl rfl ?_
          refine g_ifnull e_As_follow_63 ?_
          refine g_iload_n 2 e_As_follow_66 rfl rfl ?_
          refine g_iconst (v := 2) e_As_follow_67 (by decide) ?_
          refine g_icmp_ne 87 e_As_follow_68 (by decide) ⟨fun z5 => ?_, fun z5 => ?_⟩
          · have h := h.1 z5
            exact g_vret e_As_follow_87 rfl ⟨Sh.n hw3, rfl, hw3, h⟩
          · have h := h.2 z5
            refine g_aload_n 0 e_As_follow_71 rfl rfl ?_
            refine gf_As_63 rfl e_As_follow_72 hw3 (lay_Th (isTh_of isPan58 hi3)) (lt_Th (isTh_of isPan58 hi3)) ?_
            refine g_iconst (v := 2) e_As_follow_75 (by decide) ?_
            refine g_icmp_eq 87 e_As_follow_76 (by decide) ⟨fun z6 => ?_, fun z6 => ?_⟩
            · have h := h.1 z6
              exact g_vret e_As_follow_87 rfl ⟨Sh.n hw3, rfl, hw3, h⟩
            · have h := h.2 z6
              refine g_aload_n 1 e_As_follow_79 rfl rfl ?_
              refine gf_As_27 rfl e_As_follow_80 hw3 lay_55 (by decide) (sh_As_trial hw3) ?_
              refine g_aload_n 0 e_As_follow_83 rfl rfl ?_
              refine w_callVV (w := w3) (As := [.ref (qb E + (58 + 3 + 2 * i3))]) (rest := []) e_As_follow_84 ok_Pa_speak rfl km_As_68 kx_Pa_speak kv_Pa_speak rfl (by decide) hw3 (lay_Pa isPan58) (lt_Pa isPan58) rfl (Nat.le_of_ble_eq_true rfl) h (fun w7 hw7 h => ?_)
              exact g_vret e_As_follow_87 rfl ⟨Sh.n hw7, rfl, hw7, h⟩
        · have h := h.2 z4
          refine g_aload_n 0 e_As_follow_48 rfl rfl ?_
          refine gf_As_63 rfl e_As_follow_49 hw3 (lay_Th (isTh_of isPan58 hi3)) (lt_Th (isTh_of isPan58 hi3)) ?_
          refine g_if_ne 62 e_As_follow_52 (by decide) ⟨fun z8 => ?_, fun z8 => ?_⟩
          · have h := h.1 z8
            refine g_aload_n 0 e_As_follow_62 rfl rfl ?_
            refine g_ifnull e_As_follow_63 ?_
            refine g_iload_n 2 e_As_follow_66 rfl rfl ?_
            refine g_iconst (v := 2) e_As_follow_67 (by decide) ?_
            refine g_icmp_ne 87 e_As_follow_68 (by decide) ⟨fun z9 => ?_, fun z9 => ?_⟩
            · have h := h.1 z9
              exact g_vret e_As_follow_87 rfl ⟨Sh.n hw3, rfl, hw3, h⟩
            · have h := h.2 z9
              refine g_aload_n 0 e_As_follow_71 rfl rfl ?_
              refine gf_As_63 rfl e_As_follow_72 hw3 (lay_Th (isTh_of isPan58 hi3)) (lt_Th (isTh_of isPan58 hi3)) ?_
              refine g_iconst (v := 2) e_As_follow_75 (by decide) ?_
              refine g_icmp_eq 87 e_As_follow_76 (by decide) ⟨fun z10 => ?_, fun z10 => ?_⟩
              · have h := h.1 z10
                exact g_vret e_As_follow_87 rfl ⟨Sh.n hw3, rfl, hw3, h⟩
              · have h := h.2 z10
                refine g_aload_n 1 e_As_follow_79 rfl rfl ?_
                refine gf_As_27 rfl e_As_follow_80 hw3 lay_55 (by decide) (sh_As_trial hw3) ?_
                refine g_aload_n 0 e_As_follow_83 rfl rfl ?_
                refine w_callVV (w := w3) (As := [.ref (qb E + (58 + 3 + 2 * i3))]) (rest := []) e_As_follow_84 ok_Pa_speak rfl km_As_68 kx_Pa_speak kv_Pa_speak rfl (by decide) hw3 (lay_Pa isPan58) (lt_Pa isPan58) rfl (Nat.le_of_ble_eq_true rfl) h (fun w11 hw11 h => ?_)
                exact g_vret e_As_follow_87 rfl ⟨Sh.n hw11, rfl, hw11, h⟩
          · have h := h.2 z8
            refine g_aload_n 0 e_As_follow_55 rfl rfl ?_
            refine w_callVV (w := w3) (As := []) (rest := []) e_As_follow_56 ok_Th_putIn rfl km_As_87 kx_Th_putIn kv_Th_putIn rfl (by decide) hw3 (lay_Th (isTh_of isPan58 hi3)) (lt_Th (isTh_of isPan58 hi3)) rfl (Nat.le_of_ble_eq_true rfl) h (fun w12 hw12 h => ?_)
            refine g_goto 87 e_As_follow_59 (by decide) ?_
            exact g_vret e_As_follow_87 rfl ⟨Sh.n hw12, rfl, hw12, h⟩
    · have h := h.2 z2
      refine g_aload_n 0 e_As_follow_19 rfl rfl ?_
      refine gf_As_27 rfl e_As_follow_20 hw lay_55 (by decide) (sh_As_trial hw) ?_
      refine g_iload_n 2 e_As_follow_23 rfl rfl ?_
      refine pf_As_104 rfl e_As_follow_24 hw (lay_Pa isPan58) (lt_Pa isPan58) ?_
      refine g_goto 87 e_As_follow_27 (by decide) ?_
      exact g_vret e_As_follow_87 rfl ⟨Sh.n hw, rfl, hw, h⟩
  · have h := h.2 z1
    refine g_aload_n 0 e_As_follow_4 rfl rfl ?_
    refine gf_As_27 rfl e_As_follow_5 hw lay_55 (by decide) (sh_As_trial hw) ?_
    refine w_callVV (w := w) (As := []) (rest := []) e_As_follow_8 ok_Pa_goMinute rfl km_As_56 kx_Pa_goMinute kv_Pa_goMinute rfl (by decide) hw (lay_Pa isPan58) (lt_Pa isPan58) rfl (Nat.le_of_ble_eq_true rfl) h (fun w13 hw13 h => ?_)
    refine g_goto 87 e_As_follow_11 (by decide) ?_
    exact g_vret e_As_follow_87 rfl ⟨Sh.n hw13, rfl, hw13, h⟩
theorem en_As_follow {d : Nat} {E : qE} {Q : qW → Prop} {a1 : Int32} {a2 : Int32} {w : qW} (hw : Sh w) (h : c_As_follow_0 d E Q a1 a2 w) : CaV (d + 4) M_As_follow [.ref (qb E + 55), .int a1, .int a2] E w Q := Ca.into hw rfl (Nat.le_of_ble_eq_true rfl) h
def c_Pa_copyFrom_0 (d : Nat) (E : qE) (Q : qW → Prop) (q : Nat) (p1 : Nat) (w : qW) : Prop := Go (d + 2) M_Pa_copyFrom E 161 161 (qFV Q) 0 [(0, .ref (qb E + q)), (1, .ref (qb E + p1))] [] w
def c_Pa_copyFrom_10 (d : Nat) (E : qE) (Q : qW → Prop) (q : Nat) (p1 : Nat) (l2 : Int32) (w : qW) : Prop := Go (d + 2) M_Pa_copyFrom E 161 161 (qFV Q) 10 [(0, .ref (qb E + q)), (1, .ref (qb E + p1)), (2, .int l2)] [] w
set_option maxHeartbeats 4000000 in
set_option maxRecDepth 8000 in
theorem s_Pa_copyFrom_0 {d : Nat} {E : qE} {Q : qW → Prop} {q : Nat} {p1 : Nat} {w : qW} (hw : Sh w) (hq : isPan q) (hp1 : isPan p1) (h : c_Pa_copyFrom_10 d E Q q p1 0 (qpi w q 0 (qi w p1 0))) : c_Pa_copyFrom_0 d E Q q p1 w := by
  unfold c_Pa_copyFrom_0
  refine g_aload_n 0 e_Pa_copyFrom_0 rfl rfl ?_
  refine g_aload_n 1 e_Pa_copyFrom_1 rfl rfl ?_
  refine gf_Pa_34 rfl e_Pa_copyFrom_2 hw (lay_Pa hp1) (lt_Pa hp1) ?_
  refine pf_Pa_34 rfl e_Pa_copyFrom_5 hw (lay_Pa hq) (lt_Pa hq) ?_
  refine g_iconst (v := 0) e_Pa_copyFrom_8 (by decide) ?_
  refine g_istore_n (lv := [(2, .int 0), (0, .ref (qb E + q)), (1, .ref (qb E + p1))]) e_Pa_copyFrom_9 rfl (by decide) rfl ?_
  refine g_loc [1, 2, 0] rfl ?_
  exact h
set_option maxHeartbeats 4000000 in
set_option maxRecDepth 8000 in
theorem s_Pa_copyFrom_10 {d : Nat} {E : qE} {Q : qW → Prop} {q : Nat} {p1 : Nat} {l2 : Int32} {w : qW} (hw : Sh w) (hq : isPan q) (hp1 : isPan p1) (h : ((6 ≤ l2) → (∃ K2, isKi K2 ∧ qr (qpi (qpi (qpi (qpi w q 2 (qi w p1 2)) q 3 (qi (qpi w q 2 (qi w p1 2)) p1 3)) q 4 (qz (qi (qpi (qpi w q 2 (qi w p1 2)) q 3 (qi (qpi w q 2 (qi w p1 2)) p1 3)) p1 4))) q 5 (qi (qpi (qpi (qpi w q 2 (qi w p1 2)) q 3 (qi (qpi w q 2 (qi w p1 2)) p1 3)) q 4 (qz (qi (qpi (qpi w q 2 (qi w p1 2)) q 3 (qi (qpi w q 2 (qi w p1 2)) p1 3)) p1 4))) p1 5)) p1 6 = K2 + 1 ∧ (Q (qpr (qpi (qpi (qpi (qpi w q 2 (qi w p1 2)) q 3 (qi (qpi w q 2 (qi w p1 2)) p1 3)) q 4 (qz (qi (qpi (qpi w q 2 (qi w p1 2)) q 3 (qi (qpi w q 2 (qi w p1 2)) p1 3)) p1 4))) q 5 (qi (qpi (qpi (qpi w q 2 (qi w p1 2)) q 3 (qi (qpi w q 2 (qi w p1 2)) p1 3)) q 4 (qz (qi (qpi (qpi w q 2 (qi w p1 2)) q 3 (qi (qpi w q 2 (qi w p1 2)) p1 3)) p1 4))) p1 5)) q 6 (K2 + 1))))) ∧ ((¬ 6 ≤ l2) → (vp_in l2 6 ∧ (vp_in l2 6 ∧ (CaV (d + 1) M_Th_copyFrom [.ref (qb E + (q + 3 + 2 * ((l2).toNatClampNeg))), .ref (qb E + (p1 + 3 + 2 * ((l2).toNatClampNeg)))] E w (fun w5 => c_Pa_copyFrom_10 d E Q q p1 (l2 + 1) w5)))))) : c_Pa_copyFrom_10 d E Q q p1 l2 w := by
  unfold c_Pa_copyFrom_10
  refine g_iload_n 2 e_Pa_copyFrom_10 rfl rfl ?_
  refine g_bipush (v := 6) e_Pa_copyFrom_11 (by decide) ?_
  refine g_icmp_ge 37 e_Pa_copyFrom_13 (by decide) ⟨fun z1 => ?_, fun z1 => ?_⟩
  · have h := h.1 z1
    refine g_aload_n 0 e_Pa_copyFrom_37 rfl rfl ?_
    refine g_aload_n 1 e_Pa_copyFrom_38 rfl rfl ?_
    refine gf_Pa_17 rfl e_Pa_copyFrom_39 hw (lay_Pa hp1) (lt_Pa hp1) ?_
    refine pf_Pa_17 rfl e_Pa_copyFrom_42 hw (lay_Pa hq) (lt_Pa hq) ?_
    refine g_aload_n 0 e_Pa_copyFrom_45 rfl rfl ?_
    refine g_aload_n 1 e_Pa_copyFrom_46 rfl rfl ?_
    refine gf_Pa_41 rfl e_Pa_copyFrom_47 hw (lay_Pa hp1) (lt_Pa hp1) ?_
    refine pf_Pa_41 rfl e_Pa_copyFrom_50 hw (lay_Pa hq) (lt_Pa hq) ?_
    refine g_aload_n 0 e_Pa_copyFrom_53 rfl rfl ?_
    refine g_aload_n 1 e_Pa_copyFrom_54 rfl rfl ?_
    refine gf_Pa_44 rfl e_Pa_copyFrom_55 hw (lay_Pa hp1) (lt_Pa hp1) ?_
    refine pf_Pa_44 rfl e_Pa_copyFrom_58 hw (lay_Pa hq) (lt_Pa hq) (qz_01 _) ?_
    refine g_aload_n 0 e_Pa_copyFrom_61 rfl rfl ?_
    refine g_aload_n 1 e_Pa_copyFrom_62 rfl rfl ?_
    refine gf_Pa_48 rfl e_Pa_copyFrom_63 hw (lay_Pa hp1) (lt_Pa hp1) ?_
    refine pf_Pa_48 rfl e_Pa_copyFrom_66 hw (lay_Pa hq) (lt_Pa hq) ?_
    refine g_aload_n 0 e_Pa_copyFrom_69 rfl rfl ?_
    refine g_aload_n 1 e_Pa_copyFrom_70 rfl rfl ?_
    obtain ⟨K2, hK2, hr2, h⟩ := h
    refine gf_Pa_27 rfl e_Pa_copyFrom_71 hw (lay_Pa hp1) (lt_Pa hp1) hr2 ?_
    refine pf_Pa_27 rfl e_Pa_copyFrom_74 hw (lay_Pa hq) (lt_Pa hq) ?_
    exact g_vret e_Pa_copyFrom_77 rfl ⟨Sh.n (Sh.pr (sh_Pk hw hq) hw), rfl, (Sh.pr (sh_Pk hw hq) hw), h⟩
  · have h := h.2 z1
    refine g_aload_n 0 e_Pa_copyFrom_16 rfl rfl ?_
    refine gf_Pa_11 rfl e_Pa_copyFrom_17 hw (lay_Pa hq) (lt_Pa hq) (sh_Ths hw hq) ?_
    refine g_iload_n 2 e_Pa_copyFrom_20 rfl rfl ?_
    obtain ⟨o3, h⟩ := h
    refine w_aaload e_Pa_copyFrom_21 hw (lay_Ths hq) (Or.inl rfl) (lt_Ths hq) o3 (sh_ElI hw hq o3) ?_
    refine g_aload_n 1 e_Pa_copyFrom_22 rfl rfl ?_
    refine gf_Pa_11 rfl e_Pa_copyFrom_23 hw (lay_Pa hp1) (lt_Pa hp1) (sh_Ths hw hp1) ?_
    refine g_iload_n 2 e_Pa_copyFrom_26 rfl rfl ?_
    obtain ⟨o4, h⟩ := h
    refine w_aaload e_Pa_copyFrom_27 hw (lay_Ths hp1) (Or.inl rfl) (lt_Ths hp1) o4 (sh_ElI hw hp1 o4) ?_
    refine w_callVV (w := w) (As := [.ref (qb E + (p1 + 3 + 2 * ((l2).toNatClampNeg)))]) (rest := []) e_Pa_copyFrom_28 ok_Th_copyFrom rfl km_Pa_37 kx_Th_copyFrom kv_Th_copyFrom rfl (by decide) hw (lay_Th (isTh_in hq o3)) (lt_Th (isTh_in hq o3)) rfl (Nat.le_of_ble_eq_true rfl) h (fun w5 hw5 h => ?_)
    refine g_iinc (v := (l2 + 1)) (lv := [(2, .int (l2 + 1)), (0, .ref (qb E + q)), (1, .ref (qb E + p1))]) 2 e_Pa_copyFrom_31 rfl rfl (by decide) rfl ?_
    refine g_goto 10 e_Pa_copyFrom_34 (by decide) ?_
    refine g_loc [1, 2, 0] rfl ?_
    exact h
theorem en_Pa_copyFrom {d : Nat} {E : qE} {Q : qW → Prop} {q : Nat} {p1 : Nat} {w : qW} (hw : Sh w) (h : c_Pa_copyFrom_0 d E Q q p1 w) : CaV (d + 2) M_Pa_copyFrom [.ref (qb E + q), .ref (qb E + p1)] E w Q := Ca.into hw rfl (Nat.le_of_ble_eq_true rfl) h
def c_Pa_addThing_0 (d : Nat) (E : qE) (Q : qW → Int32 → Prop) (q : Nat) (a1 : Int32) (a2 : Int32) (a3 : Int32) (a4 : Int32) (w : qW) : Prop := Go (d + 1) M_Pa_addThing E 161 161 (qFI Q) 0 [(0, .ref (qb E + q)), (1, .int a1), (2, .int a2), (3, .int a3), (4, .int a4)] [] w
set_option maxHeartbeats 4000000 in
set_option maxRecDepth 8000 in
theorem s_Pa_addThing_0 {d : Nat} {E : qE} {Q : qW → Int32 → Prop} {q : Nat} {a1 : Int32} {a2 : Int32} {a3 : Int32} {a4 : Int32} {w : qW} (hw : Sh w) (hq : isPan q) (h : (((qi w q 0) < 0) → (Q w (-4))) ∧ ((¬ (qi w q 0) < 0) → ((((qi w q 0) < 6) → (vp_in (qi w q 0) 6 ∧ (CaV d M_Th_begin [.ref (qb E + (q + 3 + 2 * ((qi w q 0).toNatClampNeg))), .int a1, .int a2, .int a3, .int a4] E w (fun w4 => Q (qpi w4 q 0 ((qi w4 q 0) + 1)) ((qi (qpi w4 q 0 ((qi w4 q 0) + 1)) q 0) - 1))))) ∧ ((¬ (qi w q 0) < 6) → (Q w (-4)))))) : c_Pa_addThing_0 d E Q q a1 a2 a3 a4 w := by
  unfold c_Pa_addThing_0
  refine g_aload_n 0 e_Pa_addThing_0 rfl rfl ?_
  refine gf_Pa_34 rfl e_Pa_addThing_1 hw (lay_Pa hq) (lt_Pa hq) ?_
  refine g_if_lt 16 e_Pa_addThing_4 (by decide) ⟨fun z1 => ?_, fun z1 => ?_⟩
  · have h := h.1 z1
    refine g_bipush (v := (-4)) e_Pa_addThing_16 (by decide) ?_
    exact g_iret e_Pa_addThing_18 rfl ⟨Sh.n hw, _, rfl, hw, h⟩
  · have h := h.2 z1
    refine g_aload_n 0 e_Pa_addThing_7 rfl rfl ?_
    refine gf_Pa_34 rfl e_Pa_addThing_8 hw (lay_Pa hq) (lt_Pa hq) ?_
    refine g_bipush (v := 6) e_Pa_addThing_11 (by decide) ?_
    refine g_icmp_lt 19 e_Pa_addThing_13 (by decide) ⟨fun z2 => ?_, fun z2 => ?_⟩
    · have h := h.1 z2
      refine g_aload_n 0 e_Pa_addThing_19 rfl rfl ?_
      refine gf_Pa_11 rfl e_Pa_addThing_20 hw (lay_Pa hq) (lt_Pa hq) (sh_Ths hw hq) ?_
      refine g_aload_n 0 e_Pa_addThing_23 rfl rfl ?_
      refine gf_Pa_34 rfl e_Pa_addThing_24 hw (lay_Pa hq) (lt_Pa hq) ?_
      obtain ⟨o3, h⟩ := h
      refine w_aaload e_Pa_addThing_27 hw (lay_Ths hq) (Or.inl rfl) (lt_Ths hq) o3 (sh_ElI hw hq o3) ?_
      refine g_iload_n 1 e_Pa_addThing_28 rfl rfl ?_
      refine g_iload_n 2 e_Pa_addThing_29 rfl rfl ?_
      refine g_iload_n 3 e_Pa_addThing_30 rfl rfl ?_
      refine g_iload 4 e_Pa_addThing_31 rfl ?_
      refine w_callVV (w := w) (As := [.int a1, .int a2, .int a3, .int a4]) (rest := []) e_Pa_addThing_33 ok_Th_begin rfl km_Pa_51 kx_Th_begin kv_Th_begin rfl (by decide) hw (lay_Th (isTh_in hq o3)) (lt_Th (isTh_in hq o3)) rfl (Nat.le_of_ble_eq_true rfl) h (fun w4 hw4 h => ?_)
      refine g_aload_n 0 e_Pa_addThing_36 rfl rfl ?_
      refine g_dup e_Pa_addThing_37 rfl ?_
      refine gf_Pa_34 rfl e_Pa_addThing_38 hw4 (lay_Pa hq) (lt_Pa hq) ?_
      refine g_iconst (v := 1) e_Pa_addThing_41 (by decide) ?_
      refine g_iadd e_Pa_addThing_42 ?_
      refine pf_Pa_34 rfl e_Pa_addThing_43 hw4 (lay_Pa hq) (lt_Pa hq) ?_
      refine g_aload_n 0 e_Pa_addThing_46 rfl rfl ?_
      refine gf_Pa_34 rfl e_Pa_addThing_47 hw4 (lay_Pa hq) (lt_Pa hq) ?_
      refine g_iconst (v := 1) e_Pa_addThing_50 (by decide) ?_
      refine g_isub e_Pa_addThing_51 ?_
      exact g_iret e_Pa_addThing_52 rfl ⟨Sh.n hw4, _, rfl, hw4, h⟩
    · have h := h.2 z2
      refine g_bipush (v := (-4)) e_Pa_addThing_16 (by decide) ?_
      exact g_iret e_Pa_addThing_18 rfl ⟨Sh.n hw, _, rfl, hw, h⟩
theorem en_Pa_addThing {d : Nat} {E : qE} {Q : qW → Int32 → Prop} {q : Nat} {a1 : Int32} {a2 : Int32} {a3 : Int32} {a4 : Int32} {w : qW} (hw : Sh w) (h : c_Pa_addThing_0 d E Q q a1 a2 a3 a4 w) : CaI (d + 1) M_Pa_addThing [.ref (qb E + q), .int a1, .int a2, .int a3, .int a4] E w Q := Ca.into hw rfl (Nat.le_of_ble_eq_true rfl) h
def c_Pa_find_0 (d : Nat) (E : qE) (Q : qW → Option Nat → Prop) (q : Nat) (a1 : Int32) (w : qW) : Prop := Go d M_Pa_find E 161 161 (qFR E Q) 0 [(0, .ref (qb E + q)), (1, .int a1)] [] w
set_option maxHeartbeats 4000000 in
set_option maxRecDepth 8000 in
theorem s_Pa_find_0 {d : Nat} {E : qE} {Q : qW → Option Nat → Prop} {q : Nat} {a1 : Int32} {w : qW} (hw : Sh w) (hq : isPan q) (h : ((a1 < 0) → (Q w none)) ∧ ((¬ a1 < 0) → ((((qi w q 0) ≤ a1) → (Q w none)) ∧ ((¬ (qi w q 0) ≤ a1) → (((6 ≤ a1) → (Q w none)) ∧ ((¬ 6 ≤ a1) → (vp_in a1 6 ∧ (Q w (some (q + 3 + 2 * ((a1).toNatClampNeg))))))))))) : c_Pa_find_0 d E Q q a1 w := by
  unfold c_Pa_find_0
  refine g_iload_n 1 e_Pa_find_0 rfl rfl ?_
  refine g_if_lt 27 e_Pa_find_1 (by decide) ⟨fun z1 => ?_, fun z1 => ?_⟩
  · have h := h.1 z1
    refine g_null e_Pa_find_27 ?_
    exact g_aret (C := "QuinceEnd$Thing") e_Pa_find_28 rfl (Or.inl rfl) ⟨Sh.n hw, none, rfl, hw, h⟩
  · have h := h.2 z1
    refine g_iload_n 1 e_Pa_find_4 rfl rfl ?_
    refine g_aload_n 0 e_Pa_find_5 rfl rfl ?_
    refine gf_Pa_34 rfl e_Pa_find_6 hw (lay_Pa hq) (lt_Pa hq) ?_
    refine g_icmp_ge 27 e_Pa_find_9 (by decide) ⟨fun z2 => ?_, fun z2 => ?_⟩
    · have h := h.1 z2
      refine g_null e_Pa_find_27 ?_
      exact g_aret (C := "QuinceEnd$Thing") e_Pa_find_28 rfl (Or.inl rfl) ⟨Sh.n hw, none, rfl, hw, h⟩
    · have h := h.2 z2
      refine g_iload_n 1 e_Pa_find_12 rfl rfl ?_
      refine g_bipush (v := 6) e_Pa_find_13 (by decide) ?_
      refine g_icmp_ge 27 e_Pa_find_15 (by decide) ⟨fun z3 => ?_, fun z3 => ?_⟩
      · have h := h.1 z3
        refine g_null e_Pa_find_27 ?_
        exact g_aret (C := "QuinceEnd$Thing") e_Pa_find_28 rfl (Or.inl rfl) ⟨Sh.n hw, none, rfl, hw, h⟩
      · have h := h.2 z3
        refine g_aload_n 0 e_Pa_find_18 rfl rfl ?_
        refine gf_Pa_11 rfl e_Pa_find_19 hw (lay_Pa hq) (lt_Pa hq) (sh_Ths hw hq) ?_
        refine g_iload_n 1 e_Pa_find_22 rfl rfl ?_
        obtain ⟨o4, h⟩ := h
        refine w_aaload e_Pa_find_23 hw (lay_Ths hq) (Or.inl rfl) (lt_Ths hq) o4 (sh_ElI hw hq o4) ?_
        refine g_goto 28 e_Pa_find_24 (by decide) ?_
        exact g_aret (C := "QuinceEnd$Thing") e_Pa_find_28 rfl (Or.inr ⟨_, rfl⟩) ⟨Sh.n hw, some (q + 3 + 2 * ((a1).toNatClampNeg)), rfl, hw, h⟩
theorem en_Pa_find {d : Nat} {E : qE} {Q : qW → Option Nat → Prop} {q : Nat} {a1 : Int32} {w : qW} (hw : Sh w) (h : c_Pa_find_0 d E Q q a1 w) : CaR d M_Pa_find [.ref (qb E + q), .int a1] E w Q := Ca.into hw rfl (Nat.le_of_ble_eq_true rfl) h
def c_Pa_bitsOf_0 (d : Nat) (E : qE) (Q : qW → Int32 → Prop) (q : Nat) (a1 : Int32) (w : qW) : Prop := Go d M_Pa_bitsOf E 161 161 (qFI Q) 0 [(0, .ref (qb E + q)), (1, .int a1)] [] w
def c_Pa_bitsOf_4 (d : Nat) (E : qE) (Q : qW → Int32 → Prop) (q : Nat) (l1 : Int32) (l2 : Int32) (l3 : Int32) (w : qW) : Prop := Go d M_Pa_bitsOf E 161 161 (qFI Q) 4 [(0, .ref (qb E + q)), (1, .int l1), (2, .int l2), (3, .int l3)] [] w
set_option maxHeartbeats 4000000 in
set_option maxRecDepth 8000 in
theorem s_Pa_bitsOf_0 {d : Nat} {E : qE} {Q : qW → Int32 → Prop} {q : Nat} {a1 : Int32} {w : qW} (hw : Sh w) (hq : isPan q) (h : c_Pa_bitsOf_4 d E Q q a1 0 0 w) : c_Pa_bitsOf_0 d E Q q a1 w := by
  unfold c_Pa_bitsOf_0
  refine g_iconst (v := 0) e_Pa_bitsOf_0 (by decide) ?_
  refine g_istore_n (lv := [(2, .int 0), (0, .ref (qb E + q)), (1, .int a1)]) e_Pa_bitsOf_1 rfl (by decide) rfl ?_
  refine g_iconst (v := 0) e_Pa_bitsOf_2 (by decide) ?_
  refine g_istore_n (lv := [(3, .int 0), (2, .int 0), (0, .ref (qb E + q)), (1, .int a1)]) e_Pa_bitsOf_3 rfl (by decide) rfl ?_
  refine g_loc [2, 3, 1, 0] rfl ?_
  exact h
set_option maxHeartbeats 4000000 in
set_option maxRecDepth 8000 in
theorem s_Pa_bitsOf_4 {d : Nat} {E : qE} {Q : qW → Int32 → Prop} {q : Nat} {l1 : Int32} {l2 : Int32} {l3 : Int32} {w : qW} (hw : Sh w) (hq : isPan q) (h : (((qi w q 0) ≤ l3) → (Q w l2)) ∧ ((¬ (qi w q 0) ≤ l3) → (((6 ≤ l3) → (Q w l2)) ∧ ((¬ 6 ≤ l3) → (vp_in l3 6 ∧ (((¬ (qi w (q + 3 + 2 * ((l3).toNatClampNeg)) 5) = l1) → (c_Pa_bitsOf_4 d E Q q l1 l2 (l3 + 1) w)) ∧ (((qi w (q + 3 + 2 * ((l3).toNatClampNeg)) 5) = l1) → (c_Pa_bitsOf_4 d E Q q l1 (l2 ||| (1 <<< (l3 &&& 31))) (l3 + 1) w)))))))) : c_Pa_bitsOf_4 d E Q q l1 l2 l3 w := by
  unfold c_Pa_bitsOf_4
  refine g_iload_n 3 e_Pa_bitsOf_4 rfl rfl ?_
  refine g_aload_n 0 e_Pa_bitsOf_5 rfl rfl ?_
  refine gf_Pa_34 rfl e_Pa_bitsOf_6 hw (lay_Pa hq) (lt_Pa hq) ?_
  refine g_icmp_ge 43 e_Pa_bitsOf_9 (by decide) ⟨fun z1 => ?_, fun z1 => ?_⟩
  · have h := h.1 z1
    refine g_iload_n 2 e_Pa_bitsOf_43 rfl rfl ?_
    exact g_iret e_Pa_bitsOf_44 rfl ⟨Sh.n hw, _, rfl, hw, h⟩
  · have h := h.2 z1
    refine g_iload_n 3 e_Pa_bitsOf_12 rfl rfl ?_
    refine g_bipush (v := 6) e_Pa_bitsOf_13 (by decide) ?_
    refine g_icmp_ge 43 e_Pa_bitsOf_15 (by decide) ⟨fun z2 => ?_, fun z2 => ?_⟩
    · have h := h.1 z2
      refine g_iload_n 2 e_Pa_bitsOf_43 rfl rfl ?_
      exact g_iret e_Pa_bitsOf_44 rfl ⟨Sh.n hw, _, rfl, hw, h⟩
    · have h := h.2 z2
      refine g_aload_n 0 e_Pa_bitsOf_18 rfl rfl ?_
      refine gf_Pa_11 rfl e_Pa_bitsOf_19 hw (lay_Pa hq) (lt_Pa hq) (sh_Ths hw hq) ?_
      refine g_iload_n 3 e_Pa_bitsOf_22 rfl rfl ?_
      obtain ⟨o3, h⟩ := h
      refine w_aaload e_Pa_bitsOf_23 hw (lay_Ths hq) (Or.inl rfl) (lt_Ths hq) o3 (sh_ElI hw hq o3) ?_
      refine gf_Pa_55 rfl e_Pa_bitsOf_24 hw (lay_Th (isTh_in hq o3)) (lt_Th (isTh_in hq o3)) ?_
      refine g_iload_n 1 e_Pa_bitsOf_27 rfl rfl ?_
      refine g_icmp_ne 37 e_Pa_bitsOf_28 (by decide) ⟨fun z4 => ?_, fun z4 => ?_⟩
      · have h := h.1 z4
        refine g_iinc (v := (l3 + 1)) (lv := [(3, .int (l3 + 1)), (0, .ref (qb E + q)), (1, .int l1), (2, .int l2)]) 3 e_Pa_bitsOf_37 rfl rfl (by decide) rfl ?_
        refine g_goto 4 e_Pa_bitsOf_40 (by decide) ?_
        refine g_loc [1, 2, 3, 0] rfl ?_
        exact h
      · have h := h.2 z4
        refine g_iload_n 2 e_Pa_bitsOf_31 rfl rfl ?_
        refine g_iconst (v := 1) e_Pa_bitsOf_32 (by decide) ?_
        refine g_iload_n 3 e_Pa_bitsOf_33 rfl rfl ?_
        refine g_ishl e_Pa_bitsOf_34 ?_
        refine g_ior e_Pa_bitsOf_35 ?_
        refine g_istore_n (lv := [(2, .int (l2 ||| (1 <<< (l3 &&& 31)))), (0, .ref (qb E + q)), (1, .int l1), (3, .int l3)]) e_Pa_bitsOf_36 rfl (by decide) rfl ?_
        refine g_iinc (v := (l3 + 1)) (lv := [(3, .int (l3 + 1)), (2, .int (l2 ||| (1 <<< (l3 &&& 31)))), (0, .ref (qb E + q)), (1, .int l1)]) 3 e_Pa_bitsOf_37 rfl rfl (by decide) rfl ?_
        refine g_goto 4 e_Pa_bitsOf_40 (by decide) ?_
        refine g_loc [2, 3, 1, 0] rfl ?_
        exact h
theorem en_Pa_bitsOf {d : Nat} {E : qE} {Q : qW → Int32 → Prop} {q : Nat} {a1 : Int32} {w : qW} (hw : Sh w) (h : c_Pa_bitsOf_0 d E Q q a1 w) : CaI d M_Pa_bitsOf [.ref (qb E + q), .int a1] E w Q := Ca.into hw rfl (Nat.le_of_ble_eq_true rfl) h
def c_Pa_howMany_0 (d : Nat) (E : qE) (Q : qW → Int32 → Prop) (q : Nat) (a1 : Int32) (w : qW) : Prop := Go (d + 1) M_Pa_howMany E 161 161 (qFI Q) 0 [(0, .ref (qb E + q)), (1, .int a1)] [] w
set_option maxHeartbeats 4000000 in
set_option maxRecDepth 8000 in
theorem s_Pa_howMany_0 {d : Nat} {E : qE} {Q : qW → Int32 → Prop} {q : Nat} {a1 : Int32} {w : qW} (hw : Sh w) (hq : isPan q) (h : CaI d M_Pa_bitsOf [.ref (qb E + q), .int a1] E w (fun w1 x1 => CaI d M_Ji_bitCount [.int x1] E w1 (fun w2 x2 => Q w2 x2))) : c_Pa_howMany_0 d E Q q a1 w := by
  unfold c_Pa_howMany_0
  refine g_aload_n 0 e_Pa_howMany_0 rfl rfl ?_
  refine g_iload_n 1 e_Pa_howMany_1 rfl rfl ?_
  refine w_callVI (w := w) (As := [.int a1]) (rest := []) e_Pa_howMany_2 ok_Pa_bitsOf rfl km_Pa_58 kx_Pa_bitsOf kv_Pa_bitsOf rfl (by decide) hw (lay_Pa hq) (lt_Pa hq) rfl (Nat.le_of_ble_eq_true rfl) h (fun w1 x1 hw1 h => ?_)
  refine w_callSI (w := w1) (As := [.int x1]) (rest := []) e_Pa_howMany_5 ok_Ji_bitCount rfl km_Pa_62 ks_Ji_bitCount rfl (Nat.le_of_ble_eq_true rfl) h (fun w2 x2 hw2 h => ?_)
  exact g_iret e_Pa_howMany_8 rfl ⟨Sh.n hw2, _, rfl, hw2, h⟩
theorem en_Pa_howMany {d : Nat} {E : qE} {Q : qW → Int32 → Prop} {q : Nat} {a1 : Int32} {w : qW} (hw : Sh w) (h : c_Pa_howMany_0 d E Q q a1 w) : CaI (d + 1) M_Pa_howMany [.ref (qb E + q), .int a1] E w Q := Ca.into hw rfl (Nat.le_of_ble_eq_true rfl) h
def c_Pa_speak_0 (d : Nat) (E : qE) (Q : qW → Prop) (q : Nat) (p1 : Nat) (w : qW) : Prop := Go (d + 1) M_Pa_speak E 161 161 (qFV Q) 0 [(0, .ref (qb E + q)), (1, .ref (qb E + p1))] [] w
set_option maxHeartbeats 4000000 in
set_option maxRecDepth 8000 in
theorem s_Pa_speak_0 {d : Nat} {E : qE} {Q : qW → Prop} {q : Nat} {p1 : Nat} {w : qW} (hw : Sh w) (hq : isPan q) (hp1 : isTh p1) (h : ((¬ (qz (qi (qpi w p1 5 2) q 4)) = 0) → (Q (qpi w p1 5 2))) ∧ (((qz (qi (qpi w p1 5 2) q 4)) = 0) → (CaI d M_Jm_max [.int 0, .int ((qi (qpi w p1 5 2) q 3) - (10 * (qi (qpi w p1 5 2) p1 3)))] E (qpi w p1 5 2) (fun w2 x2 => Q (qpi w2 q 3 x2))))) : c_Pa_speak_0 d E Q q p1 w := by
  unfold c_Pa_speak_0
  refine g_aload_n 1 e_Pa_speak_0 rfl rfl ?_
  refine g_iconst (v := 2) e_Pa_speak_1 (by decide) ?_
  refine pf_Pa_55 rfl e_Pa_speak_2 hw (lay_Th hp1) (lt_Th hp1) ?_
  refine g_aload_n 0 e_Pa_speak_5 rfl rfl ?_
  refine gf_Pa_44 rfl e_Pa_speak_6 hw (lay_Pa hq) (lt_Pa hq) ?_
  refine g_if_ne 32 e_Pa_speak_9 (by decide) ⟨fun z1 => ?_, fun z1 => ?_⟩
  · have h := h.1 z1
    exact g_vret e_Pa_speak_32 rfl ⟨Sh.n hw, rfl, hw, h⟩
  · have h := h.2 z1
    refine g_aload_n 0 e_Pa_speak_12 rfl rfl ?_
    refine g_iconst (v := 0) e_Pa_speak_13 (by decide) ?_
    refine g_aload_n 0 e_Pa_speak_14 rfl rfl ?_
    refine gf_Pa_41 rfl e_Pa_speak_15 hw (lay_Pa hq) (lt_Pa hq) ?_
    refine g_bipush (v := 10) e_Pa_speak_18 (by decide) ?_
    refine g_aload_n 1 e_Pa_speak_20 rfl rfl ?_
    refine gf_Pa_67 rfl e_Pa_speak_21 hw (lay_Th hp1) (lt_Th hp1) ?_
    refine g_imul e_Pa_speak_24 ?_
    refine g_isub e_Pa_speak_25 ?_
    refine w_callSI (w := (qpi w p1 5 2)) (As := [.int 0, .int ((qi (qpi w p1 5 2) q 3) - (10 * (qi (qpi w p1 5 2) p1 3)))]) (rest := [.ref (qb E + q)]) e_Pa_speak_26 ok_Jm_max rfl km_Pa_70 ks_Jm_max rfl (Nat.le_of_ble_eq_true rfl) h (fun w2 x2 hw2 h => ?_)
    refine pf_Pa_41 rfl e_Pa_speak_29 hw2 (lay_Pa hq) (lt_Pa hq) ?_
    exact g_vret e_Pa_speak_32 rfl ⟨Sh.n hw2, rfl, hw2, h⟩
theorem en_Pa_speak {d : Nat} {E : qE} {Q : qW → Prop} {q : Nat} {p1 : Nat} {w : qW} (hw : Sh w) (h : c_Pa_speak_0 d E Q q p1 w) : CaV (d + 1) M_Pa_speak [.ref (qb E + q), .ref (qb E + p1)] E w Q := Ca.into hw rfl (Nat.le_of_ble_eq_true rfl) h
def c_Pa_tipOut_0 (d : Nat) (E : qE) (Q : qW → Prop) (q : Nat) (w : qW) : Prop := Go d M_Pa_tipOut E 161 161 (qFV Q) 0 [(0, .ref (qb E + q))] [] w
def c_Pa_tipOut_2 (d : Nat) (E : qE) (Q : qW → Prop) (q : Nat) (l1 : Int32) (w : qW) : Prop := Go d M_Pa_tipOut E 161 161 (qFV Q) 2 [(0, .ref (qb E + q)), (1, .int l1)] [] w
set_option maxHeartbeats 4000000 in
set_option maxRecDepth 8000 in
theorem s_Pa_tipOut_0 {d : Nat} {E : qE} {Q : qW → Prop} {q : Nat} {w : qW} (hw : Sh w) (hq : isPan q) (h : c_Pa_tipOut_2 d E Q q 0 w) : c_Pa_tipOut_0 d E Q q w := by
  unfold c_Pa_tipOut_0
  refine g_iconst (v := 0) e_Pa_tipOut_0 (by decide) ?_
  refine g_istore_n (lv := [(1, .int 0), (0, .ref (qb E + q))]) e_Pa_tipOut_1 rfl (by decide) rfl ?_
  refine g_loc [1, 0] rfl ?_
  exact h
set_option maxHeartbeats 4000000 in
set_option maxRecDepth 8000 in
theorem s_Pa_tipOut_2 {d : Nat} {E : qE} {Q : qW → Prop} {q : Nat} {l1 : Int32} {w : qW} (hw : Sh w) (hq : isPan q) (h : (((qi w q 0) ≤ l1) → (Q (qpi (qpi w q 3 0) q 4 0))) ∧ ((¬ (qi w q 0) ≤ l1) → (((6 ≤ l1) → (Q (qpi (qpi w q 3 0) q 4 0))) ∧ ((¬ 6 ≤ l1) → (vp_in l1 6 ∧ (((¬ (qi w (q + 3 + 2 * ((l1).toNatClampNeg)) 5) = 1) → (c_Pa_tipOut_2 d E Q q (l1 + 1) w)) ∧ (((qi w (q + 3 + 2 * ((l1).toNatClampNeg)) 5) = 1) → (vp_in l1 6 ∧ (c_Pa_tipOut_2 d E Q q (l1 + 1) (qpi w (q + 3 + 2 * ((l1).toNatClampNeg)) 5 0)))))))))) : c_Pa_tipOut_2 d E Q q l1 w := by
  unfold c_Pa_tipOut_2
  refine g_iload_n 1 e_Pa_tipOut_2 rfl rfl ?_
  refine g_aload_n 0 e_Pa_tipOut_3 rfl rfl ?_
  refine gf_Pa_34 rfl e_Pa_tipOut_4 hw (lay_Pa hq) (lt_Pa hq) ?_
  refine g_icmp_ge 45 e_Pa_tipOut_7 (by decide) ⟨fun z1 => ?_, fun z1 => ?_⟩
  · have h := h.1 z1
    refine g_aload_n 0 e_Pa_tipOut_45 rfl rfl ?_
    refine g_iconst (v := 0) e_Pa_tipOut_46 (by decide) ?_
    refine pf_Pa_41 rfl e_Pa_tipOut_47 hw (lay_Pa hq) (lt_Pa hq) ?_
    refine g_aload_n 0 e_Pa_tipOut_50 rfl rfl ?_
    refine g_iconst (v := 0) e_Pa_tipOut_51 (by decide) ?_
    refine pf_Pa_44 rfl e_Pa_tipOut_52 hw (lay_Pa hq) (lt_Pa hq) (Or.inl rfl) ?_
    exact g_vret e_Pa_tipOut_55 rfl ⟨Sh.n hw, rfl, hw, h⟩
  · have h := h.2 z1
    refine g_iload_n 1 e_Pa_tipOut_10 rfl rfl ?_
    refine g_bipush (v := 6) e_Pa_tipOut_11 (by decide) ?_
    refine g_icmp_ge 45 e_Pa_tipOut_13 (by decide) ⟨fun z2 => ?_, fun z2 => ?_⟩
    · have h := h.1 z2
      refine g_aload_n 0 e_Pa_tipOut_45 rfl rfl ?_
      refine g_iconst (v := 0) e_Pa_tipOut_46 (by decide) ?_
      refine pf_Pa_41 rfl e_Pa_tipOut_47 hw (lay_Pa hq) (lt_Pa hq) ?_
      refine g_aload_n 0 e_Pa_tipOut_50 rfl rfl ?_
      refine g_iconst (v := 0) e_Pa_tipOut_51 (by decide) ?_
      refine pf_Pa_44 rfl e_Pa_tipOut_52 hw (lay_Pa hq) (lt_Pa hq) (Or.inl rfl) ?_
      exact g_vret e_Pa_tipOut_55 rfl ⟨Sh.n hw, rfl, hw, h⟩
    · have h := h.2 z2
      refine g_aload_n 0 e_Pa_tipOut_16 rfl rfl ?_
      refine gf_Pa_11 rfl e_Pa_tipOut_17 hw (lay_Pa hq) (lt_Pa hq) (sh_Ths hw hq) ?_
      refine g_iload_n 1 e_Pa_tipOut_20 rfl rfl ?_
      obtain ⟨o3, h⟩ := h
      refine w_aaload e_Pa_tipOut_21 hw (lay_Ths hq) (Or.inl rfl) (lt_Ths hq) o3 (sh_ElI hw hq o3) ?_
      refine gf_Pa_55 rfl e_Pa_tipOut_22 hw (lay_Th (isTh_in hq o3)) (lt_Th (isTh_in hq o3)) ?_
      refine g_iconst (v := 1) e_Pa_tipOut_25 (by decide) ?_
      refine g_icmp_ne 39 e_Pa_tipOut_26 (by decide) ⟨fun z4 => ?_, fun z4 => ?_⟩
      · have h := h.1 z4
        refine g_iinc (v := (l1 + 1)) (lv := [(1, .int (l1 + 1)), (0, .ref (qb E + q))]) 1 e_Pa_tipOut_39 rfl rfl (by decide) rfl ?_
        refine g_goto 2 e_Pa_tipOut_42 (by decide) ?_
        refine g_loc [1, 0] rfl ?_
        exact h
      · have h := h.2 z4
        refine g_aload_n 0 e_Pa_tipOut_29 rfl rfl ?_
        refine gf_Pa_11 rfl e_Pa_tipOut_30 hw (lay_Pa hq) (lt_Pa hq) (sh_Ths hw hq) ?_
        refine g_iload_n 1 e_Pa_tipOut_33 rfl rfl ?_
        obtain ⟨o5, h⟩ := h
        refine w_aaload e_Pa_tipOut_34 hw (lay_Ths hq) (Or.inl rfl) (lt_Ths hq) o5 (sh_ElI hw hq o5) ?_
        refine g_iconst (v := 0) e_Pa_tipOut_35 (by decide) ?_
        refine pf_Pa_55 rfl e_Pa_tipOut_36 hw (lay_Th (isTh_in hq o5)) (lt_Th (isTh_in hq o5)) ?_
        refine g_iinc (v := (l1 + 1)) (lv := [(1, .int (l1 + 1)), (0, .ref (qb E + q))]) 1 e_Pa_tipOut_39 rfl rfl (by decide) rfl ?_
        refine g_goto 2 e_Pa_tipOut_42 (by decide) ?_
        refine g_loc [1, 0] rfl ?_
        exact h
theorem en_Pa_tipOut {d : Nat} {E : qE} {Q : qW → Prop} {q : Nat} {w : qW} (hw : Sh w) (h : c_Pa_tipOut_0 d E Q q w) : CaV d M_Pa_tipOut [.ref (qb E + q)] E w Q := Ca.into hw rfl (Nat.le_of_ble_eq_true rfl) h
def c_Pa_gives_0 (d : Nat) (E : qE) (Q : qW → Int32 → Prop) (q : Nat) (p1 : Nat) (w : qW) : Prop := Go (d + 1) M_Pa_gives E 161 161 (qFI Q) 0 [(0, .ref (qb E + q)), (1, .ref (qb E + p1))] [] w
set_option maxHeartbeats 4000000 in
set_option maxRecDepth 8000 in
theorem s_Pa_gives_0 {d : Nat} {E : qE} {Q : qW → Int32 → Prop} {q : Nat} {p1 : Nat} {w : qW} (hw : Sh w) (hq : isPan q) (hp1 : isTh p1) (h : CaI d M_Jm_floorMod [.int (qi (qpi (qpi (qpi (qpi (qpi w (q + 2) 0 (qi w p1 0)) (q + 2) 1 (qi (qpi w (q + 2) 0 (qi w p1 0)) p1 1)) (q + 2) 2 (qi (qpi (qpi w (q + 2) 0 (qi w p1 0)) (q + 2) 1 (qi (qpi w (q + 2) 0 (qi w p1 0)) p1 1)) p1 2)) (q + 2) 3 (qi (qpi (qpi (qpi w (q + 2) 0 (qi w p1 0)) (q + 2) 1 (qi (qpi w (q + 2) 0 (qi w p1 0)) p1 1)) (q + 2) 2 (qi (qpi (qpi w (q + 2) 0 (qi w p1 0)) (q + 2) 1 (qi (qpi w (q + 2) 0 (qi w p1 0)) p1 1)) p1 2)) p1 3)) (q + 2) 4 (qi (qpi (qpi (qpi (qpi w (q + 2) 0 (qi w p1 0)) (q + 2) 1 (qi (qpi w (q + 2) 0 (qi w p1 0)) p1 1)) (q + 2) 2 (qi (qpi (qpi w (q + 2) 0 (qi w p1 0)) (q + 2) 1 (qi (qpi w (q + 2) 0 (qi w p1 0)) p1 1)) p1 2)) (q + 2) 3 (qi (qpi (qpi (qpi w (q + 2) 0 (qi w p1 0)) (q + 2) 1 (qi (qpi w (q + 2) 0 (qi w p1 0)) p1 1)) (q + 2) 2 (qi (qpi (qpi w (q + 2) 0 (qi w p1 0)) (q + 2) 1 (qi (qpi w (q + 2) 0 (qi w p1 0)) p1 1)) p1 2)) p1 3)) p1 4)) q 5), .int 10] E (qpi (qpi (qpi (qpi (qpi w (q + 2) 0 (qi w p1 0)) (q + 2) 1 (qi (qpi w (q + 2) 0 (qi w p1 0)) p1 1)) (q + 2) 2 (qi (qpi (qpi w (q + 2) 0 (qi w p1 0)) (q + 2) 1 (qi (qpi w (q + 2) 0 (qi w p1 0)) p1 1)) p1 2)) (q + 2) 3 (qi (qpi (qpi (qpi w (q + 2) 0 (qi w p1 0)) (q + 2) 1 (qi (qpi w (q + 2) 0 (qi w p1 0)) p1 1)) (q + 2) 2 (qi (qpi (qpi w (q + 2) 0 (qi w p1 0)) (q + 2) 1 (qi (qpi w (q + 2) 0 (qi w p1 0)) p1 1)) p1 2)) p1 3)) (q + 2) 4 (qi (qpi (qpi (qpi (qpi w (q + 2) 0 (qi w p1 0)) (q + 2) 1 (qi (qpi w (q + 2) 0 (qi w p1 0)) p1 1)) (q + 2) 2 (qi (qpi (qpi w (q + 2) 0 (qi w p1 0)) (q + 2) 1 (qi (qpi w (q + 2) 0 (qi w p1 0)) p1 1)) p1 2)) (q + 2) 3 (qi (qpi (qpi (qpi w (q + 2) 0 (qi w p1 0)) (q + 2) 1 (qi (qpi w (q + 2) 0 (qi w p1 0)) p1 1)) (q + 2) 2 (qi (qpi (qpi w (q + 2) 0 (qi w p1 0)) (q + 2) 1 (qi (qpi w (q + 2) 0 (qi w p1 0)) p1 1)) p1 2)) p1 3)) p1 4)) (fun w1 x1 => ∃ K2, isKi K2 ∧ qr (qpi w1 (q + 2) 5 x1) q 6 = K2 + 1 ∧ (CaI d M_Ki_adds [.ref (qb E + K2), .ref (qb E + (q + 2))] E (qpi w1 (q + 2) 5 x1) (fun w3 x3 => ((qi w3 p1 1) = 1 → (Q w3 (((qi (qpi w1 (q + 2) 5 x1) p1 3) + x3) + (qi w3 p1 2)))) ∧ ((qi w3 p1 1) = 2 → (Q w3 (((qi (qpi w1 (q + 2) 5 x1) p1 3) + x3) / 2))) ∧ ((qi w3 p1 1) = 3 → (CaI d M_Pa_spokenOver [.ref (qb E + q), .ref (qb E + p1)] E w3 (fun w5 x5 => ((x5 = 0) → (Q w5 ((qi (qpi w1 (q + 2) 5 x1) p1 3) + x3))) ∧ ((¬ x5 = 0) → (Q w5 0))))) ∧ ((qi w3 p1 1) = 4 → ((((qi w3 q 2) < 6) → (Q w3 ((((qi (qpi w1 (q + 2) 5 x1) p1 3) + x3) + (qi w3 p1 2)) * 1))) ∧ ((¬ (qi w3 q 2) < 6) → (Q w3 ((((qi (qpi w1 (q + 2) 5 x1) p1 3) + x3) + (qi w3 p1 2)) * 2))))) ∧ ((qi w3 p1 1) = 5 → (CaI d M_Jm_min [.int (qi w3 p1 6), .int 9] E w3 (fun w8 x8 => Q w8 ((((qi (qpi w1 (q + 2) 5 x1) p1 3) + x3) / 2) + x8)))) ∧ ((qi w3 p1 1) = 6 → (CaI d M_Pa_spokenOver [.ref (qb E + q), .ref (qb E + p1)] E w3 (fun w9 x9 => ((x9 = 0) → (CaI d M_Jm_floorMod [.int (qi w9 q 5), .int 4] E w9 (fun w11 x11 => vp_in x11 4 ∧ (Q w11 (((qi (qpi w1 (q + 2) 5 x1) p1 3) + x3) + (qi w11 (p1 + 1) ((x11).toNatClampNeg))))))) ∧ ((¬ x9 = 0) → (CaI d M_Jm_floorMod [.int (qi w9 q 5), .int 4] E w9 (fun w13 x13 => vp_in x13 4 ∧ (Q w13 (0 + (qi w13 (p1 + 1) ((x13).toNatClampNeg)))))))))) ∧ (((qi w3 p1 1).toInt < 1 ∨ 6 < (qi w3 p1 1).toInt) → (Q w3 ((qi (qpi w1 (q + 2) 5 x1) p1 3) + x3))))))) : c_Pa_gives_0 d E Q q p1 w := by
  unfold c_Pa_gives_0
  refine g_aload_n 0 e_Pa_gives_0 rfl rfl ?_
  refine gf_Pa_23 rfl e_Pa_gives_1 hw (lay_Pa hq) (lt_Pa hq) (sh_Fac hw hq) ?_
  refine g_iconst (v := 0) e_Pa_gives_4 (by decide) ?_
  refine g_aload_n 1 e_Pa_gives_5 rfl rfl ?_
  refine gf_Pa_76 rfl e_Pa_gives_6 hw (lay_Th hp1) (lt_Th hp1) ?_
  refine w_iastore 0 e_Pa_gives_9 hw (lay_Fac hq) (lt_Fac hq) (show vp_in 0 6 by unfold vp_in; decide) rfl ?_
  refine g_aload_n 0 e_Pa_gives_10 rfl rfl ?_
  refine gf_Pa_23 rfl e_Pa_gives_11 hw (lay_Pa hq) (lt_Pa hq) (sh_Fac hw hq) ?_
  refine g_iconst (v := 1) e_Pa_gives_14 (by decide) ?_
  refine g_aload_n 1 e_Pa_gives_15 rfl rfl ?_
  refine gf_Pa_79 rfl e_Pa_gives_16 hw (lay_Th hp1) (lt_Th hp1) ?_
  refine w_iastore 1 e_Pa_gives_19 hw (lay_Fac hq) (lt_Fac hq) (show vp_in 1 6 by unfold vp_in; decide) rfl ?_
  refine g_aload_n 0 e_Pa_gives_20 rfl rfl ?_
  refine gf_Pa_23 rfl e_Pa_gives_21 hw (lay_Pa hq) (lt_Pa hq) (sh_Fac hw hq) ?_
  refine g_iconst (v := 2) e_Pa_gives_24 (by decide) ?_
  refine g_aload_n 1 e_Pa_gives_25 rfl rfl ?_
  refine gf_Pa_82 rfl e_Pa_gives_26 hw (lay_Th hp1) (lt_Th hp1) ?_
  refine w_iastore 2 e_Pa_gives_29 hw (lay_Fac hq) (lt_Fac hq) (show vp_in 2 6 by unfold vp_in; decide) rfl ?_
  refine g_aload_n 0 e_Pa_gives_30 rfl rfl ?_
  refine gf_Pa_23 rfl e_Pa_gives_31 hw (lay_Pa hq) (lt_Pa hq) (sh_Fac hw hq) ?_
  refine g_iconst (v := 3) e_Pa_gives_34 (by decide) ?_
  refine g_aload_n 1 e_Pa_gives_35 rfl rfl ?_
  refine gf_Pa_67 rfl e_Pa_gives_36 hw (lay_Th hp1) (lt_Th hp1) ?_
  refine w_iastore 3 e_Pa_gives_39 hw (lay_Fac hq) (lt_Fac hq) (show vp_in 3 6 by unfold vp_in; decide) rfl ?_
  refine g_aload_n 0 e_Pa_gives_40 rfl rfl ?_
  refine gf_Pa_23 rfl e_Pa_gives_41 hw (lay_Pa hq) (lt_Pa hq) (sh_Fac hw hq) ?_
  refine g_iconst (v := 4) e_Pa_gives_44 (by decide) ?_
  refine g_aload_n 1 e_Pa_gives_45 rfl rfl ?_
  refine gf_Pa_85 rfl e_Pa_gives_46 hw (lay_Th hp1) (lt_Th hp1) ?_
  refine w_iastore 4 e_Pa_gives_49 hw (lay_Fac hq) (lt_Fac hq) (show vp_in 4 6 by unfold vp_in; decide) rfl ?_
  refine g_aload_n 0 e_Pa_gives_50 rfl rfl ?_
  refine gf_Pa_23 rfl e_Pa_gives_51 hw (lay_Pa hq) (lt_Pa hq) (sh_Fac hw hq) ?_
  refine g_iconst (v := 5) e_Pa_gives_54 (by decide) ?_
  refine g_aload_n 0 e_Pa_gives_55 rfl rfl ?_
  refine gf_Pa_48 rfl e_Pa_gives_56 hw (lay_Pa hq) (lt_Pa hq) ?_
  refine g_bipush (v := 10) e_Pa_gives_59 (by decide) ?_
  refine w_callSI (w := (qpi (qpi (qpi (qpi (qpi w (q + 2) 0 (qi w p1 0)) (q + 2) 1 (qi (qpi w (q + 2) 0 (qi w p1 0)) p1 1)) (q + 2) 2 (qi (qpi (qpi w (q + 2) 0 (qi w p1 0)) (q + 2) 1 (qi (qpi w (q + 2) 0 (qi w p1 0)) p1 1)) p1 2)) (q + 2) 3 (qi (qpi (qpi (qpi w (q + 2) 0 (qi w p1 0)) (q + 2) 1 (qi (qpi w (q + 2) 0 (qi w p1 0)) p1 1)) (q + 2) 2 (qi (qpi (qpi w (q + 2) 0 (qi w p1 0)) (q + 2) 1 (qi (qpi w (q + 2) 0 (qi w p1 0)) p1 1)) p1 2)) p1 3)) (q + 2) 4 (qi (qpi (qpi (qpi (qpi w (q + 2) 0 (qi w p1 0)) (q + 2) 1 (qi (qpi w (q + 2) 0 (qi w p1 0)) p1 1)) (q + 2) 2 (qi (qpi (qpi w (q + 2) 0 (qi w p1 0)) (q + 2) 1 (qi (qpi w (q + 2) 0 (qi w p1 0)) p1 1)) p1 2)) (q + 2) 3 (qi (qpi (qpi (qpi w (q + 2) 0 (qi w p1 0)) (q + 2) 1 (qi (qpi w (q + 2) 0 (qi w p1 0)) p1 1)) (q + 2) 2 (qi (qpi (qpi w (q + 2) 0 (qi w p1 0)) (q + 2) 1 (qi (qpi w (q + 2) 0 (qi w p1 0)) p1 1)) p1 2)) p1 3)) p1 4))) (As := [.int (qi (qpi (qpi (qpi (qpi (qpi w (q + 2) 0 (qi w p1 0)) (q + 2) 1 (qi (qpi w (q + 2) 0 (qi w p1 0)) p1 1)) (q + 2) 2 (qi (qpi (qpi w (q + 2) 0 (qi w p1 0)) (q + 2) 1 (qi (qpi w (q + 2) 0 (qi w p1 0)) p1 1)) p1 2)) (q + 2) 3 (qi (qpi (qpi (qpi w (q + 2) 0 (qi w p1 0)) (q + 2) 1 (qi (qpi w (q + 2) 0 (qi w p1 0)) p1 1)) (q + 2) 2 (qi (qpi (qpi w (q + 2) 0 (qi w p1 0)) (q + 2) 1 (qi (qpi w (q + 2) 0 (qi w p1 0)) p1 1)) p1 2)) p1 3)) (q + 2) 4 (qi (qpi (qpi (qpi (qpi w (q + 2) 0 (qi w p1 0)) (q + 2) 1 (qi (qpi w (q + 2) 0 (qi w p1 0)) p1 1)) (q + 2) 2 (qi (qpi (qpi w (q + 2) 0 (qi w p1 0)) (q + 2) 1 (qi (qpi w (q + 2) 0 (qi w p1 0)) p1 1)) p1 2)) (q + 2) 3 (qi (qpi (qpi (qpi w (q + 2) 0 (qi w p1 0)) (q + 2) 1 (qi (qpi w (q + 2) 0 (qi w p1 0)) p1 1)) (q + 2) 2 (qi (qpi (qpi w (q + 2) 0 (qi w p1 0)) (q + 2) 1 (qi (qpi w (q + 2) 0 (qi w p1 0)) p1 1)) p1 2)) p1 3)) p1 4)) q 5), .int 10]) (rest := [.int 5, .ref (qb E + (q + 2))]) e_Pa_gives_61 ok_Jm_floorMod rfl km_Pa_88 ks_Jm_floorMod rfl (Nat.le_of_ble_eq_true rfl) h (fun w1 x1 hw1 h => ?_)
  refine w_iastore 5 e_Pa_gives_64 hw1 (lay_Fac hq) (lt_Fac hq) (show vp_in 5 6 by unfold vp_in; decide) rfl ?_
  refine g_aload_n 1 e_Pa_gives_65 rfl rfl ?_
  refine gf_Pa_67 rfl e_Pa_gives_66 hw1 (lay_Th hp1) (lt_Th hp1) ?_
  refine g_aload_n 0 e_Pa_gives_69 rfl rfl ?_
  obtain ⟨K2, hK2, hr2, h⟩ := h
  refine gf_Pa_27 rfl e_Pa_gives_70 hw1 (lay_Pa hq) (lt_Pa hq) hr2 ?_
  refine g_aload_n 0 e_Pa_gives_73 rfl rfl ?_
  refine gf_Pa_23 rfl e_Pa_gives_74 hw1 (lay_Pa hq) (lt_Pa hq) (sh_Fac hw1 hq) ?_
  refine w_callVI (w := (qpi w1 (q + 2) 5 x1)) (As := [.ref (qb E + (q + 2))]) (rest := [.int (qi (qpi w1 (q + 2) 5 x1) p1 3)]) e_Pa_gives_77 ok_Ki_adds rfl km_Pa_91 kx_Ki_adds kv_Ki_adds rfl (by decide) hw1 (lay_Ki hK2) (lt_Ki hK2) rfl (Nat.le_of_ble_eq_true rfl) h (fun w3 x3 hw3 h => ?_)
  refine g_iadd e_Pa_gives_80 ?_
  refine g_istore_n (lv := [(2, .int ((qi (qpi w1 (q + 2) 5 x1) p1 3) + x3)), (0, .ref (qb E + q)), (1, .ref (qb E + p1))]) e_Pa_gives_81 rfl (by decide) rfl ?_
  refine g_aload_n 2 e_Pa_gives_82 rfl rfl ?_
  refine gf_Pa_79 rfl e_Pa_gives_83 hw3 (lay_Th hp1) (lt_Th hp1) ?_
  refine g_table e_Pa_gives_86 6 (by decide) [124, 131, 135, 149, 171, 185] 213 (by decide) (by decide +kernel) ⟨fun j4 hj4 hx4 => ?_, fun hx4 => ?_⟩
  · rcases (show j4 = 0 ∨ j4 = 1 ∨ j4 = 2 ∨ j4 = 3 ∨ j4 = 4 ∨ j4 = 5 by omega) with rfl | rfl | rfl | rfl | rfl | rfl
    · have h := h.1 (q_key hx4 (by decide))
      change Go _ _ _ _ _ _ 124 _ _ _
      refine g_iload_n 0 e_Pa_gives_124 rfl rfl ?_
      refine g_aload_n 2 e_Pa_gives_125 rfl rfl ?_
      refine gf_Pa_82 rfl e_Pa_gives_126 hw3 (lay_Th hp1) (lt_Th hp1) ?_
      refine g_iadd e_Pa_gives_129 ?_
      exact g_iret e_Pa_gives_130 rfl ⟨Sh.n hw3, _, rfl, hw3, h⟩
    · have h := h.2.1 (q_key hx4 (by decide))
      change Go _ _ _ _ _ _ 131 _ _ _
      refine g_iload_n 0 e_Pa_gives_131 rfl rfl ?_
      refine g_iconst (v := 2) e_Pa_gives_132 (by decide) ?_
      refine g_idiv e_Pa_gives_133 (by decide) ?_
      exact g_iret e_Pa_gives_134 rfl ⟨Sh.n hw3, _, rfl, hw3, h⟩
    · have h := h.2.2.1 (q_key hx4 (by decide))
      change Go _ _ _ _ _ _ 135 _ _ _
      refine g_aload_n 1 e_Pa_gives_135 rfl rfl ?_
      refine g_aload_n 2 e_Pa_gives_136 rfl rfl ?_
      refine w_callVI (w := w3) (As := [.ref (qb E + p1)]) (rest := []) e_Pa_gives_137 ok_Pa_spokenOver rfl km_Pa_97 kx_Pa_spokenOver kv_Pa_spokenOver rfl (by decide) hw3 (lay_Pa hq) (lt_Pa hq) rfl (Nat.le_of_ble_eq_true rfl) h (fun w5 x5 hw5 h => ?_)
      refine g_if_eq 147 e_Pa_gives_140 (by decide) ⟨fun z6 => ?_, fun z6 => ?_⟩
      · have h := h.1 z6
        refine g_iload_n 0 e_Pa_gives_147 rfl rfl ?_
        exact g_iret e_Pa_gives_148 rfl ⟨Sh.n hw5, _, rfl, hw5, h⟩
      · have h := h.2 z6
        refine g_iconst (v := 0) e_Pa_gives_143 (by decide) ?_
        refine g_goto 148 e_Pa_gives_144 (by decide) ?_
        exact g_iret e_Pa_gives_148 rfl ⟨Sh.n hw5, _, rfl, hw5, h⟩
    · have h := h.2.2.2.1 (q_key hx4 (by decide))
      change Go _ _ _ _ _ _ 149 _ _ _
      refine g_iload_n 0 e_Pa_gives_149 rfl rfl ?_
      refine g_aload_n 2 e_Pa_gives_150 rfl rfl ?_
      refine gf_Pa_82 rfl e_Pa_gives_151 hw3 (lay_Th hp1) (lt_Th hp1) ?_
      refine g_iadd e_Pa_gives_154 ?_
      refine g_aload_n 1 e_Pa_gives_155 rfl rfl ?_
      refine gf_Pa_17 rfl e_Pa_gives_156 hw3 (lay_Pa hq) (lt_Pa hq) ?_
      refine g_bipush (v := 6) e_Pa_gives_159 (by decide) ?_
      refine g_icmp_lt 168 e_Pa_gives_161 (by decide) ⟨fun z7 => ?_, fun z7 => ?_⟩
      · have h := h.1 z7
        refine g_iconst (v := 1) e_Pa_gives_168 (by decide) ?_
        refine g_imul e_Pa_gives_169 ?_
        exact g_iret e_Pa_gives_170 rfl ⟨Sh.n hw3, _, rfl, hw3, h⟩
      · have h := h.2 z7
        refine g_iconst (v := 2) e_Pa_gives_164 (by decide) ?_
        refine g_goto 169 e_Pa_gives_165 (by decide) ?_
        refine g_imul e_Pa_gives_169 ?_
        exact g_iret e_Pa_gives_170 rfl ⟨Sh.n hw3, _, rfl, hw3, h⟩
    · have h := h.2.2.2.2.1 (q_key hx4 (by decide))
      change Go _ _ _ _ _ _ 171 _ _ _
      refine g_iload_n 0 e_Pa_gives_171 rfl rfl ?_
      refine g_iconst (v := 2) e_Pa_gives_172 (by decide) ?_
      refine g_idiv e_Pa_gives_173 (by decide) ?_
      refine g_aload_n 2 e_Pa_gives_174 rfl rfl ?_
      refine gf_Pa_101 rfl e_Pa_gives_175 hw3 (lay_Th hp1) (lt_Th hp1) ?_
      refine g_bipush (v := 9) e_Pa_gives_178 (by decide) ?_
      refine w_callSI (w := w3) (As := [.int (qi w3 p1 6), .int 9]) (rest := [.int (((qi (qpi w1 (q + 2) 5 x1) p1 3) + x3) / 2)]) e_Pa_gives_180 ok_Jm_min rfl km_Pa_104 ks_Jm_min rfl (Nat.le_of_ble_eq_true rfl) h (fun w8 x8 hw8 h => ?_)
      refine g_iadd e_Pa_gives_183 ?_
      exact g_iret e_Pa_gives_184 rfl ⟨Sh.n hw8, _, rfl, hw8, h⟩
    · have h := h.2.2.2.2.2.1 (q_key hx4 (by decide))
      change Go _ _ _ _ _ _ 185 _ _ _
      refine g_aload_n 1 e_Pa_gives_185 rfl rfl ?_
      refine g_aload_n 2 e_Pa_gives_186 rfl rfl ?_
      refine w_callVI (w := w3) (As := [.ref (qb E + p1)]) (rest := []) e_Pa_gives_187 ok_Pa_spokenOver rfl km_Pa_97 kx_Pa_spokenOver kv_Pa_spokenOver rfl (by decide) hw3 (lay_Pa hq) (lt_Pa hq) rfl (Nat.le_of_ble_eq_true rfl) h (fun w9 x9 hw9 h => ?_)
      refine g_if_eq 197 e_Pa_gives_190 (by decide) ⟨fun z10 => ?_, fun z10 => ?_⟩
      · have h := h.1 z10
        refine g_iload_n 0 e_Pa_gives_197 rfl rfl ?_
        refine g_aload_n 2 e_Pa_gives_198 rfl rfl ?_
        refine gf_Pa_107 rfl e_Pa_gives_199 hw9 (lay_Th hp1) (lt_Th hp1) (sh_Row hw9 hp1) ?_
        refine g_aload_n 1 e_Pa_gives_202 rfl rfl ?_
        refine gf_Pa_48 rfl e_Pa_gives_203 hw9 (lay_Pa hq) (lt_Pa hq) ?_
        refine g_iconst (v := 4) e_Pa_gives_206 (by decide) ?_
        refine w_callSI (w := w9) (As := [.int (qi w9 q 5), .int 4]) (rest := [.ref (qb E + (p1 + 1)), .int ((qi (qpi w1 (q + 2) 5 x1) p1 3) + x3)]) e_Pa_gives_207 ok_Jm_floorMod rfl km_Pa_88 ks_Jm_floorMod rfl (Nat.le_of_ble_eq_true rfl) h (fun w11 x11 hw11 h => ?_)
        obtain ⟨o12, h⟩ := h
        refine w_iaload ((x11).toNatClampNeg) e_Pa_gives_210 hw11 (lay_Row hp1) (lt_Row hp1) o12 rfl ?_
        refine g_iadd e_Pa_gives_211 ?_
        exact g_iret e_Pa_gives_212 rfl ⟨Sh.n hw11, _, rfl, hw11, h⟩
      · have h := h.2 z10
        refine g_iconst (v := 0) e_Pa_gives_193 (by decide) ?_
        refine g_goto 198 e_Pa_gives_194 (by decide) ?_
        refine g_aload_n 2 e_Pa_gives_198 rfl rfl ?_
        refine gf_Pa_107 rfl e_Pa_gives_199 hw9 (lay_Th hp1) (lt_Th hp1) (sh_Row hw9 hp1) ?_
        refine g_aload_n 1 e_Pa_gives_202 rfl rfl ?_
        refine gf_Pa_48 rfl e_Pa_gives_203 hw9 (lay_Pa hq) (lt_Pa hq) ?_
        refine g_iconst (v := 4) e_Pa_gives_206 (by decide) ?_
        refine w_callSI (w := w9) (As := [.int (qi w9 q 5), .int 4]) (rest := [.ref (qb E + (p1 + 1)), .int 0]) e_Pa_gives_207 ok_Jm_floorMod rfl km_Pa_88 ks_Jm_floorMod rfl (Nat.le_of_ble_eq_true rfl) h (fun w13 x13 hw13 h => ?_)
        obtain ⟨o14, h⟩ := h
        refine w_iaload ((x13).toNatClampNeg) e_Pa_gives_210 hw13 (lay_Row hp1) (lt_Row hp1) o14 rfl ?_
        refine g_iadd e_Pa_gives_211 ?_
        exact g_iret e_Pa_gives_212 rfl ⟨Sh.n hw13, _, rfl, hw13, h⟩
  · have h := h.2.2.2.2.2.2 hx4
    refine g_iload_n 0 e_Pa_gives_213 rfl rfl ?_
    exact g_iret e_Pa_gives_214 rfl ⟨Sh.n hw3, _, rfl, hw3, h⟩
theorem en_Pa_gives {d : Nat} {E : qE} {Q : qW → Int32 → Prop} {q : Nat} {p1 : Nat} {w : qW} (hw : Sh w) (h : c_Pa_gives_0 d E Q q p1 w) : CaI (d + 1) M_Pa_gives [.ref (qb E + q), .ref (qb E + p1)] E w Q := Ca.into hw rfl (Nat.le_of_ble_eq_true rfl) h
def c_Pa_spokenOver_0 (d : Nat) (E : qE) (Q : qW → Int32 → Prop) (q : Nat) (p1 : Nat) (w : qW) : Prop := Go d M_Pa_spokenOver E 161 161 (qFI Q) 0 [(0, .ref (qb E + q)), (1, .ref (qb E + p1))] [] w
def c_Pa_spokenOver_2 (d : Nat) (E : qE) (Q : qW → Int32 → Prop) (q : Nat) (p1 : Nat) (l2 : Int32) (w : qW) : Prop := Go d M_Pa_spokenOver E 161 161 (qFI Q) 2 [(0, .ref (qb E + q)), (1, .ref (qb E + p1)), (2, .int l2)] [] w
set_option maxHeartbeats 4000000 in
set_option maxRecDepth 8000 in
theorem s_Pa_spokenOver_0 {d : Nat} {E : qE} {Q : qW → Int32 → Prop} {q : Nat} {p1 : Nat} {w : qW} (hw : Sh w) (hq : isPan q) (hp1 : isTh p1) (h : c_Pa_spokenOver_2 d E Q q p1 0 w) : c_Pa_spokenOver_0 d E Q q p1 w := by
  unfold c_Pa_spokenOver_0
  refine g_iconst (v := 0) e_Pa_spokenOver_0 (by decide) ?_
  refine g_istore_n (lv := [(2, .int 0), (0, .ref (qb E + q)), (1, .ref (qb E + p1))]) e_Pa_spokenOver_1 rfl (by decide) rfl ?_
  refine g_loc [1, 2, 0] rfl ?_
  exact h
set_option maxHeartbeats 4000000 in
set_option maxRecDepth 8000 in
theorem s_Pa_spokenOver_2 {d : Nat} {E : qE} {Q : qW → Int32 → Prop} {q : Nat} {p1 : Nat} {l2 : Int32} {w : qW} (hw : Sh w) (hq : isPan q) (hp1 : isTh p1) (h : (((qi w q 0) ≤ l2) → (Q w 0)) ∧ ((¬ (qi w q 0) ≤ l2) → (((6 ≤ l2) → (Q w 0)) ∧ ((¬ 6 ≤ l2) → (vp_in l2 6 ∧ ((((qi w (q + 3 + 2 * ((l2).toNatClampNeg)) 0) = (qi w p1 0)) → (c_Pa_spokenOver_2 d E Q q p1 (l2 + 1) w)) ∧ ((¬ (qi w (q + 3 + 2 * ((l2).toNatClampNeg)) 0) = (qi w p1 0)) → (((¬ (qi w (q + 3 + 2 * ((l2).toNatClampNeg)) 4) = (qi w p1 4)) → (c_Pa_spokenOver_2 d E Q q p1 (l2 + 1) w)) ∧ (((qi w (q + 3 + 2 * ((l2).toNatClampNeg)) 4) = (qi w p1 4)) → (((¬ (qi w (q + 3 + 2 * ((l2).toNatClampNeg)) 5) = 2) → (c_Pa_spokenOver_2 d E Q q p1 (l2 + 1) w)) ∧ (((qi w (q + 3 + 2 * ((l2).toNatClampNeg)) 5) = 2) → (Q w 1)))))))))))) : c_Pa_spokenOver_2 d E Q q p1 l2 w := by
  unfold c_Pa_spokenOver_2
  refine g_iload_n 2 e_Pa_spokenOver_2 rfl rfl ?_
  refine g_aload_n 0 e_Pa_spokenOver_3 rfl rfl ?_
  refine gf_Pa_34 rfl e_Pa_spokenOver_4 hw (lay_Pa hq) (lt_Pa hq) ?_
  refine g_icmp_ge 61 e_Pa_spokenOver_7 (by decide) ⟨fun z1 => ?_, fun z1 => ?_⟩
  · have h := h.1 z1
    refine g_iconst (v := 0) e_Pa_spokenOver_61 (by decide) ?_
    exact g_zret e_Pa_spokenOver_62 rfl (Or.inl rfl) ⟨Sh.n hw, _, rfl, hw, h⟩
  · have h := h.2 z1
    refine g_iload_n 2 e_Pa_spokenOver_10 rfl rfl ?_
    refine g_bipush (v := 6) e_Pa_spokenOver_11 (by decide) ?_
    refine g_icmp_ge 61 e_Pa_spokenOver_13 (by decide) ⟨fun z2 => ?_, fun z2 => ?_⟩
    · have h := h.1 z2
      refine g_iconst (v := 0) e_Pa_spokenOver_61 (by decide) ?_
      exact g_zret e_Pa_spokenOver_62 rfl (Or.inl rfl) ⟨Sh.n hw, _, rfl, hw, h⟩
    · have h := h.2 z2
      refine g_aload_n 0 e_Pa_spokenOver_16 rfl rfl ?_
      refine gf_Pa_11 rfl e_Pa_spokenOver_17 hw (lay_Pa hq) (lt_Pa hq) (sh_Ths hw hq) ?_
      refine g_iload_n 2 e_Pa_spokenOver_20 rfl rfl ?_
      obtain ⟨o3, h⟩ := h
      refine w_aaload e_Pa_spokenOver_21 hw (lay_Ths hq) (Or.inl rfl) (lt_Ths hq) o3 (sh_ElI hw hq o3) ?_
      refine g_astore_n (lv := [(3, .ref (qb E + (q + 3 + 2 * ((l2).toNatClampNeg)))), (0, .ref (qb E + q)), (1, .ref (qb E + p1)), (2, .int l2)]) e_Pa_spokenOver_22 rfl (by decide) rfl ?_
      refine g_aload_n 0 e_Pa_spokenOver_23 rfl rfl ?_
      refine gf_Pa_76 rfl e_Pa_spokenOver_24 hw (lay_Th (isTh_in hq o3)) (lt_Th (isTh_in hq o3)) ?_
      refine g_aload_n 2 e_Pa_spokenOver_27 rfl rfl ?_
      refine gf_Pa_76 rfl e_Pa_spokenOver_28 hw (lay_Th hp1) (lt_Th hp1) ?_
      refine g_icmp_eq 55 e_Pa_spokenOver_31 (by decide) ⟨fun z4 => ?_, fun z4 => ?_⟩
      · have h := h.1 z4
        refine g_iinc (v := (l2 + 1)) (lv := [(2, .int (l2 + 1)), (3, .ref (qb E + (q + 3 + 2 * ((l2).toNatClampNeg)))), (0, .ref (qb E + q)), (1, .ref (qb E + p1))]) 3 e_Pa_spokenOver_55 rfl rfl (by decide) rfl ?_
        refine g_goto 2 e_Pa_spokenOver_58 (by decide) ?_
        refine g_loc [2, 3, 0] rfl ?_
        exact h
      · have h := h.2 z4
        refine g_aload_n 0 e_Pa_spokenOver_34 rfl rfl ?_
        refine gf_Pa_85 rfl e_Pa_spokenOver_35 hw (lay_Th (isTh_in hq o3)) (lt_Th (isTh_in hq o3)) ?_
        refine g_aload_n 2 e_Pa_spokenOver_38 rfl rfl ?_
        refine gf_Pa_85 rfl e_Pa_spokenOver_39 hw (lay_Th hp1) (lt_Th hp1) ?_
        refine g_icmp_ne 55 e_Pa_spokenOver_42 (by decide) ⟨fun z5 => ?_, fun z5 => ?_⟩
        · have h := h.1 z5
          refine g_iinc (v := (l2 + 1)) (lv := [(2, .int (l2 + 1)), (3, .ref (qb E + (q + 3 + 2 * ((l2).toNatClampNeg)))), (0, .ref (qb E + q)), (1, .ref (qb E + p1))]) 3 e_Pa_spokenOver_55 rfl rfl (by decide) rfl ?_
          refine g_goto 2 e_Pa_spokenOver_58 (by decide) ?_
          refine g_loc [2, 3, 0] rfl ?_
          exact h
        · have h := h.2 z5
          refine g_aload_n 0 e_Pa_spokenOver_45 rfl rfl ?_
          refine gf_Pa_55 rfl e_Pa_spokenOver_46 hw (lay_Th (isTh_in hq o3)) (lt_Th (isTh_in hq o3)) ?_
          refine g_iconst (v := 2) e_Pa_spokenOver_49 (by decide) ?_
          refine g_icmp_ne 55 e_Pa_spokenOver_50 (by decide) ⟨fun z6 => ?_, fun z6 => ?_⟩
          · have h := h.1 z6
            refine g_iinc (v := (l2 + 1)) (lv := [(2, .int (l2 + 1)), (3, .ref (qb E + (q + 3 + 2 * ((l2).toNatClampNeg)))), (0, .ref (qb E + q)), (1, .ref (qb E + p1))]) 3 e_Pa_spokenOver_55 rfl rfl (by decide) rfl ?_
            refine g_goto 2 e_Pa_spokenOver_58 (by decide) ?_
            refine g_loc [2, 3, 0] rfl ?_
            exact h
          · have h := h.2 z6
            refine g_iconst (v := 1) e_Pa_spokenOver_53 (by decide) ?_
            exact g_zret e_Pa_spokenOver_54 rfl (Or.inr rfl) ⟨Sh.n hw, _, rfl, hw, h⟩
theorem en_Pa_spokenOver {d : Nat} {E : qE} {Q : qW → Int32 → Prop} {q : Nat} {p1 : Nat} {w : qW} (hw : Sh w) (h : c_Pa_spokenOver_0 d E Q q p1 w) : CaI d M_Pa_spokenOver [.ref (qb E + q), .ref (qb E + p1)] E w Q := Ca.into hw rfl (Nat.le_of_ble_eq_true rfl) h
def c_Pa_together_0 (d : Nat) (E : qE) (Q : qW → Int32 → Prop) (q : Nat) (w : qW) : Prop := Go (d + 2) M_Pa_together E 161 161 (qFI Q) 0 [(0, .ref (qb E + q))] [] w
def c_Pa_together_4 (d : Nat) (E : qE) (Q : qW → Int32 → Prop) (q : Nat) (l1 : Int32) (l2 : Int32) (w : qW) : Prop := Go (d + 2) M_Pa_together E 161 161 (qFI Q) 4 [(0, .ref (qb E + q)), (1, .int l1), (2, .int l2)] [] w
set_option maxHeartbeats 4000000 in
set_option maxRecDepth 8000 in
theorem s_Pa_together_0 {d : Nat} {E : qE} {Q : qW → Int32 → Prop} {q : Nat} {w : qW} (hw : Sh w) (hq : isPan q) (h : c_Pa_together_4 d E Q q 0 0 w) : c_Pa_together_0 d E Q q w := by
  unfold c_Pa_together_0
  refine g_iconst (v := 0) e_Pa_together_0 (by decide) ?_
  refine g_istore_n (lv := [(1, .int 0), (0, .ref (qb E + q))]) e_Pa_together_1 rfl (by decide) rfl ?_
  refine g_iconst (v := 0) e_Pa_together_2 (by decide) ?_
  refine g_istore_n (lv := [(2, .int 0), (1, .int 0), (0, .ref (qb E + q))]) e_Pa_together_3 rfl (by decide) rfl ?_
  refine g_loc [2, 1, 0] rfl ?_
  exact h
set_option maxHeartbeats 4000000 in
set_option maxRecDepth 8000 in
theorem s_Pa_together_4 {d : Nat} {E : qE} {Q : qW → Int32 → Prop} {q : Nat} {l1 : Int32} {l2 : Int32} {w : qW} (hw : Sh w) (hq : isPan q) (h : (((qi w q 0) ≤ l2) → (Q w l1)) ∧ ((¬ (qi w q 0) ≤ l2) → (((6 ≤ l2) → (Q w l1)) ∧ ((¬ 6 ≤ l2) → (vp_in l2 6 ∧ (((¬ (qi w (q + 3 + 2 * ((l2).toNatClampNeg)) 5) = 1) → (c_Pa_together_4 d E Q q l1 (l2 + 1) w)) ∧ (((qi w (q + 3 + 2 * ((l2).toNatClampNeg)) 5) = 1) → (vp_in l2 6 ∧ (CaI (d + 1) M_Pa_gives [.ref (qb E + q), .ref (qb E + (q + 3 + 2 * ((l2).toNatClampNeg)))] E w (fun w6 x6 => c_Pa_together_4 d E Q q (l1 + x6) (l2 + 1) w6)))))))))) : c_Pa_together_4 d E Q q l1 l2 w := by
  unfold c_Pa_together_4
  refine g_iload_n 2 e_Pa_together_4 rfl rfl ?_
  refine g_aload_n 0 e_Pa_together_5 rfl rfl ?_
  refine gf_Pa_34 rfl e_Pa_together_6 hw (lay_Pa hq) (lt_Pa hq) ?_
  refine g_icmp_ge 50 e_Pa_together_9 (by decide) ⟨fun z1 => ?_, fun z1 => ?_⟩
  · have h := h.1 z1
    refine g_iload_n 1 e_Pa_together_50 rfl rfl ?_
    exact g_iret e_Pa_together_51 rfl ⟨Sh.n hw, _, rfl, hw, h⟩
  · have h := h.2 z1
    refine g_iload_n 2 e_Pa_together_12 rfl rfl ?_
    refine g_bipush (v := 6) e_Pa_together_13 (by decide) ?_
    refine g_icmp_ge 50 e_Pa_together_15 (by decide) ⟨fun z2 => ?_, fun z2 => ?_⟩
    · have h := h.1 z2
      refine g_iload_n 1 e_Pa_together_50 rfl rfl ?_
      exact g_iret e_Pa_together_51 rfl ⟨Sh.n hw, _, rfl, hw, h⟩
    · have h := h.2 z2
      refine g_aload_n 0 e_Pa_together_18 rfl rfl ?_
      refine gf_Pa_11 rfl e_Pa_together_19 hw (lay_Pa hq) (lt_Pa hq) (sh_Ths hw hq) ?_
      refine g_iload_n 2 e_Pa_together_22 rfl rfl ?_
      obtain ⟨o3, h⟩ := h
      refine w_aaload e_Pa_together_23 hw (lay_Ths hq) (Or.inl rfl) (lt_Ths hq) o3 (sh_ElI hw hq o3) ?_
      refine gf_Pa_55 rfl e_Pa_together_24 hw (lay_Th (isTh_in hq o3)) (lt_Th (isTh_in hq o3)) ?_
      refine g_iconst (v := 1) e_Pa_together_27 (by decide) ?_
      refine g_icmp_ne 44 e_Pa_together_28 (by decide) ⟨fun z4 => ?_, fun z4 => ?_⟩
      · have h := h.1 z4
        refine g_iinc (v := (l2 + 1)) (lv := [(2, .int (l2 + 1)), (0, .ref (qb E + q)), (1, .int l1)]) 2 e_Pa_together_44 rfl rfl (by decide) rfl ?_
        refine g_goto 4 e_Pa_together_47 (by decide) ?_
        refine g_loc [1, 2, 0] rfl ?_
        exact h
      · have h := h.2 z4
        refine g_iload_n 1 e_Pa_together_31 rfl rfl ?_
        refine g_aload_n 0 e_Pa_together_32 rfl rfl ?_
        refine g_aload_n 0 e_Pa_together_33 rfl rfl ?_
        refine gf_Pa_11 rfl e_Pa_together_34 hw (lay_Pa hq) (lt_Pa hq) (sh_Ths hw hq) ?_
        refine g_iload_n 2 e_Pa_together_37 rfl rfl ?_
        obtain ⟨o5, h⟩ := h
        refine w_aaload e_Pa_together_38 hw (lay_Ths hq) (Or.inl rfl) (lt_Ths hq) o5 (sh_ElI hw hq o5) ?_
        refine w_callVI (w := w) (As := [.ref (qb E + (q + 3 + 2 * ((l2).toNatClampNeg)))]) (rest := [.int l1]) e_Pa_together_39 ok_Pa_gives rfl km_Pa_110 kx_Pa_gives kv_Pa_gives rfl (by decide) hw (lay_Pa hq) (lt_Pa hq) rfl (Nat.le_of_ble_eq_true rfl) h (fun w6 x6 hw6 h => ?_)
        refine g_iadd e_Pa_together_42 ?_
        refine g_istore_n (lv := [(1, .int (l1 + x6)), (0, .ref (qb E + q)), (2, .int l2)]) e_Pa_together_43 rfl (by decide) rfl ?_
        refine g_iinc (v := (l2 + 1)) (lv := [(2, .int (l2 + 1)), (1, .int (l1 + x6)), (0, .ref (qb E + q))]) 2 e_Pa_together_44 rfl rfl (by decide) rfl ?_
        refine g_goto 4 e_Pa_together_47 (by decide) ?_
        refine g_loc [2, 1, 0] rfl ?_
        exact h
theorem en_Pa_together {d : Nat} {E : qE} {Q : qW → Int32 → Prop} {q : Nat} {w : qW} (hw : Sh w) (h : c_Pa_together_0 d E Q q w) : CaI (d + 2) M_Pa_together [.ref (qb E + q)] E w Q := Ca.into hw rfl (Nat.le_of_ble_eq_true rfl) h
def c_Pa_goMinute_0 (d : Nat) (E : qE) (Q : qW → Prop) (q : Nat) (w : qW) : Prop := Go (d + 3) M_Pa_goMinute E 161 161 (qFV Q) 0 [(0, .ref (qb E + q))] [] w
def c_Pa_goMinute_61 (d : Nat) (E : qE) (Q : qW → Prop) (q : Nat) (l1 : Int32) (w : qW) : Prop := Go (d + 3) M_Pa_goMinute E 161 161 (qFV Q) 61 [(0, .ref (qb E + q)), (1, .int l1)] [] w
set_option maxHeartbeats 4000000 in
set_option maxRecDepth 8000 in
theorem s_Pa_goMinute_0 {d : Nat} {E : qE} {Q : qW → Prop} {q : Nat} {w : qW} (hw : Sh w) (hq : isPan q) (h : ((¬ (qz (qi w q 4)) = 0) → (c_Pa_goMinute_61 d E Q q 0 w)) ∧ (((qz (qi w q 4)) = 0) → (CaI (d + 2) M_Pa_together [.ref (qb E + q)] E w (fun w2 x2 => CaI (d + 2) M_Jm_max [.int 0, .int ((qi w q 3) + ((qi w q 2) * x2))] E w2 (fun w3 x3 => CaI (d + 2) M_Jm_min [.int 99999, .int x3] E w3 (fun w4 x4 => ∃ K5, isKi K5 ∧ qr (qpi w4 q 3 x4) q 6 = K5 + 1 ∧ ((((qi (qpi w4 q 3 x4) q 3) < (qi (qpi w4 q 3 x4) K5 4)) → (c_Pa_goMinute_61 d E Q q 0 (qpi (qpi w4 q 3 x4) q 4 0))) ∧ ((¬ (qi (qpi w4 q 3 x4) q 3) < (qi (qpi w4 q 3 x4) K5 4)) → (c_Pa_goMinute_61 d E Q q 0 (qpi (qpi w4 q 3 x4) q 4 1)))))))))) : c_Pa_goMinute_0 d E Q q w := by
  unfold c_Pa_goMinute_0
  refine g_aload_n 0 e_Pa_goMinute_0 rfl rfl ?_
  refine gf_Pa_44 rfl e_Pa_goMinute_1 hw (lay_Pa hq) (lt_Pa hq) ?_
  refine g_if_ne 59 e_Pa_goMinute_4 (by decide) ⟨fun z1 => ?_, fun z1 => ?_⟩
  · have h := h.1 z1
    refine g_iconst (v := 0) e_Pa_goMinute_59 (by decide) ?_
    refine g_istore_n (lv := [(1, .int 0), (0, .ref (qb E + q))]) e_Pa_goMinute_60 rfl (by decide) rfl ?_
    refine g_loc [1, 0] rfl ?_
    exact h
  · have h := h.2 z1
    refine g_aload_n 0 e_Pa_goMinute_7 rfl rfl ?_
    refine gf_Pa_41 rfl e_Pa_goMinute_8 hw (lay_Pa hq) (lt_Pa hq) ?_
    refine g_aload_n 0 e_Pa_goMinute_11 rfl rfl ?_
    refine gf_Pa_17 rfl e_Pa_goMinute_12 hw (lay_Pa hq) (lt_Pa hq) ?_
    refine g_aload_n 0 e_Pa_goMinute_15 rfl rfl ?_
    refine w_callVI (w := w) (As := []) (rest := [.int (qi w q 2), .int (qi w q 3)]) e_Pa_goMinute_16 ok_Pa_together rfl km_Pa_114 kx_Pa_together kv_Pa_together rfl (by decide) hw (lay_Pa hq) (lt_Pa hq) rfl (Nat.le_of_ble_eq_true rfl) h (fun w2 x2 hw2 h => ?_)
    refine g_imul e_Pa_goMinute_19 ?_
    refine g_iadd e_Pa_goMinute_20 ?_
    refine g_istore_n (lv := [(1, .int ((qi w q 3) + ((qi w q 2) * x2))), (0, .ref (qb E + q))]) e_Pa_goMinute_21 rfl (by decide) rfl ?_
    refine g_aload_n 1 e_Pa_goMinute_22 rfl rfl ?_
    refine g_ldc (v := 99999) e_Pa_goMinute_23 kk_Pa_118 ?_
    refine g_iconst (v := 0) e_Pa_goMinute_25 (by decide) ?_
    refine g_iload_n 0 e_Pa_goMinute_26 rfl rfl ?_
    refine w_callSI (w := w2) (As := [.int 0, .int ((qi w q 3) + ((qi w q 2) * x2))]) (rest := [.int 99999, .ref (qb E + q)]) e_Pa_goMinute_27 ok_Jm_max rfl km_Pa_70 ks_Jm_max rfl (Nat.le_of_ble_eq_true rfl) h (fun w3 x3 hw3 h => ?_)
    refine w_callSI (w := w3) (As := [.int 99999, .int x3]) (rest := [.ref (qb E + q)]) e_Pa_goMinute_30 ok_Jm_min rfl km_Pa_104 ks_Jm_min rfl (Nat.le_of_ble_eq_true rfl) h (fun w4 x4 hw4 h => ?_)
    refine pf_Pa_41 rfl e_Pa_goMinute_33 hw4 (lay_Pa hq) (lt_Pa hq) ?_
    refine g_aload_n 1 e_Pa_goMinute_36 rfl rfl ?_
    refine g_aload_n 1 e_Pa_goMinute_37 rfl rfl ?_
    refine gf_Pa_41 rfl e_Pa_goMinute_38 hw4 (lay_Pa hq) (lt_Pa hq) ?_
    refine g_aload_n 1 e_Pa_goMinute_41 rfl rfl ?_
    obtain ⟨K5, hK5, hr5, h⟩ := h
    refine gf_Pa_27 rfl e_Pa_goMinute_42 hw4 (lay_Pa hq) (lt_Pa hq) hr5 ?_
    refine gf_Pa_119 rfl e_Pa_goMinute_45 hw4 (lay_Ki hK5) (lt_Ki hK5) ?_
    refine g_icmp_lt 55 e_Pa_goMinute_48 (by decide) ⟨fun z6 => ?_, fun z6 => ?_⟩
    · have h := h.1 z6
      refine g_iconst (v := 0) e_Pa_goMinute_55 (by decide) ?_
      refine pf_Pa_44 rfl e_Pa_goMinute_56 hw4 (lay_Pa hq) (lt_Pa hq) (Or.inl rfl) ?_
      refine g_iconst (v := 0) e_Pa_goMinute_59 (by decide) ?_
      refine g_istore_n (lv := [(1, .int 0), (0, .ref (qb E + q))]) e_Pa_goMinute_60 rfl (by decide) rfl ?_
      refine g_loc [1, 0] rfl ?_
      exact h
    · have h := h.2 z6
      refine g_iconst (v := 1) e_Pa_goMinute_51 (by decide) ?_
      refine g_goto 56 e_Pa_goMinute_52 (by decide) ?_
      refine pf_Pa_44 rfl e_Pa_goMinute_56 hw4 (lay_Pa hq) (lt_Pa hq) (Or.inr rfl) ?_
      refine g_iconst (v := 0) e_Pa_goMinute_59 (by decide) ?_
      refine g_istore_n (lv := [(1, .int 0), (0, .ref (qb E + q))]) e_Pa_goMinute_60 rfl (by decide) rfl ?_
      refine g_loc [1, 0] rfl ?_
      exact h
set_option maxHeartbeats 4000000 in
set_option maxRecDepth 8000 in
theorem s_Pa_goMinute_61 {d : Nat} {E : qE} {Q : qW → Prop} {q : Nat} {l1 : Int32} {w : qW} (hw : Sh w) (hq : isPan q) (h : (((qi w q 0) ≤ l1) → (Q (qpi w q 5 ((qi w q 5) + 1)))) ∧ ((¬ (qi w q 0) ≤ l1) → (((6 ≤ l1) → (Q (qpi w q 5 ((qi w q 5) + 1)))) ∧ ((¬ 6 ≤ l1) → (vp_in l1 6 ∧ (((¬ (qi w (q + 3 + 2 * ((l1).toNatClampNeg)) 5) = 1) → (c_Pa_goMinute_61 d E Q q (l1 + 1) w)) ∧ (((qi w (q + 3 + 2 * ((l1).toNatClampNeg)) 5) = 1) → (vp_in l1 6 ∧ (vp_in l1 6 ∧ (CaI (d + 2) M_Jm_min [.int 9999, .int ((qi w (q + 3 + 2 * ((l1).toNatClampNeg)) 6) + 1)] E w (fun w7 x7 => c_Pa_goMinute_61 d E Q q (l1 + 1) (qpi w7 (q + 3 + 2 * ((l1).toNatClampNeg)) 6 x7)))))))))))) : c_Pa_goMinute_61 d E Q q l1 w := by
  unfold c_Pa_goMinute_61
  refine g_iload_n 1 e_Pa_goMinute_61 rfl rfl ?_
  refine g_aload_n 0 e_Pa_goMinute_62 rfl rfl ?_
  refine gf_Pa_34 rfl e_Pa_goMinute_63 hw (lay_Pa hq) (lt_Pa hq) ?_
  refine g_icmp_ge 120 e_Pa_goMinute_66 (by decide) ⟨fun z1 => ?_, fun z1 => ?_⟩
  · have h := h.1 z1
    refine g_aload_n 0 e_Pa_goMinute_120 rfl rfl ?_
    refine g_dup e_Pa_goMinute_121 rfl ?_
    refine gf_Pa_48 rfl e_Pa_goMinute_122 hw (lay_Pa hq) (lt_Pa hq) ?_
    refine g_iconst (v := 1) e_Pa_goMinute_125 (by decide) ?_
    refine g_iadd e_Pa_goMinute_126 ?_
    refine pf_Pa_48 rfl e_Pa_goMinute_127 hw (lay_Pa hq) (lt_Pa hq) ?_
    exact g_vret e_Pa_goMinute_130 rfl ⟨Sh.n hw, rfl, hw, h⟩
  · have h := h.2 z1
    refine g_iload_n 1 e_Pa_goMinute_69 rfl rfl ?_
    refine g_bipush (v := 6) e_Pa_goMinute_70 (by decide) ?_
    refine g_icmp_ge 120 e_Pa_goMinute_72 (by decide) ⟨fun z2 => ?_, fun z2 => ?_⟩
    · have h := h.1 z2
      refine g_aload_n 0 e_Pa_goMinute_120 rfl rfl ?_
      refine g_dup e_Pa_goMinute_121 rfl ?_
      refine gf_Pa_48 rfl e_Pa_goMinute_122 hw (lay_Pa hq) (lt_Pa hq) ?_
      refine g_iconst (v := 1) e_Pa_goMinute_125 (by decide) ?_
      refine g_iadd e_Pa_goMinute_126 ?_
      refine pf_Pa_48 rfl e_Pa_goMinute_127 hw (lay_Pa hq) (lt_Pa hq) ?_
      exact g_vret e_Pa_goMinute_130 rfl ⟨Sh.n hw, rfl, hw, h⟩
    · have h := h.2 z2
      refine g_aload_n 0 e_Pa_goMinute_75 rfl rfl ?_
      refine gf_Pa_11 rfl e_Pa_goMinute_76 hw (lay_Pa hq) (lt_Pa hq) (sh_Ths hw hq) ?_
      refine g_iload_n 1 e_Pa_goMinute_79 rfl rfl ?_
      obtain ⟨o3, h⟩ := h
      refine w_aaload e_Pa_goMinute_80 hw (lay_Ths hq) (Or.inl rfl) (lt_Ths hq) o3 (sh_ElI hw hq o3) ?_
      refine gf_Pa_55 rfl e_Pa_goMinute_81 hw (lay_Th (isTh_in hq o3)) (lt_Th (isTh_in hq o3)) ?_
      refine g_iconst (v := 1) e_Pa_goMinute_84 (by decide) ?_
      refine g_icmp_ne 114 e_Pa_goMinute_85 (by decide) ⟨fun z4 => ?_, fun z4 => ?_⟩
      · have h := h.1 z4
        refine g_iinc (v := (l1 + 1)) (lv := [(1, .int (l1 + 1)), (0, .ref (qb E + q))]) 1 e_Pa_goMinute_114 rfl rfl (by decide) rfl ?_
        refine g_goto 61 e_Pa_goMinute_117 (by decide) ?_
        refine g_loc [1, 0] rfl ?_
        exact h
      · have h := h.2 z4
        refine g_aload_n 0 e_Pa_goMinute_88 rfl rfl ?_
        refine gf_Pa_11 rfl e_Pa_goMinute_89 hw (lay_Pa hq) (lt_Pa hq) (sh_Ths hw hq) ?_
        refine g_iload_n 1 e_Pa_goMinute_92 rfl rfl ?_
        obtain ⟨o5, h⟩ := h
        refine w_aaload e_Pa_goMinute_93 hw (lay_Ths hq) (Or.inl rfl) (lt_Ths hq) o5 (sh_ElI hw hq o5) ?_
        refine g_sipush (v := 9999) e_Pa_goMinute_94 (by decide) ?_
        refine g_aload_n 0 e_Pa_goMinute_97 rfl rfl ?_
        refine gf_Pa_11 rfl e_Pa_goMinute_98 hw (lay_Pa hq) (lt_Pa hq) (sh_Ths hw hq) ?_
        refine g_iload_n 1 e_Pa_goMinute_101 rfl rfl ?_
        obtain ⟨o6, h⟩ := h
        refine w_aaload e_Pa_goMinute_102 hw (lay_Ths hq) (Or.inl rfl) (lt_Ths hq) o6 (sh_ElI hw hq o6) ?_
        refine gf_Pa_101 rfl e_Pa_goMinute_103 hw (lay_Th (isTh_in hq o6)) (lt_Th (isTh_in hq o6)) ?_
        refine g_iconst (v := 1) e_Pa_goMinute_106 (by decide) ?_
        refine g_iadd e_Pa_goMinute_107 ?_
        refine w_callSI (w := w) (As := [.int 9999, .int ((qi w (q + 3 + 2 * ((l1).toNatClampNeg)) 6) + 1)]) (rest := [.ref (qb E + (q + 3 + 2 * ((l1).toNatClampNeg)))]) e_Pa_goMinute_108 ok_Jm_min rfl km_Pa_104 ks_Jm_min rfl (Nat.le_of_ble_eq_true rfl) h (fun w7 x7 hw7 h => ?_)
        refine pf_Pa_101 rfl e_Pa_goMinute_111 hw7 (lay_Th (isTh_in hq o5)) (lt_Th (isTh_in hq o5)) ?_
        refine g_iinc (v := (l1 + 1)) (lv := [(1, .int (l1 + 1)), (0, .ref (qb E + q))]) 1 e_Pa_goMinute_114 rfl rfl (by decide) rfl ?_
        refine g_goto 61 e_Pa_goMinute_117 (by decide) ?_
        refine g_loc [1, 0] rfl ?_
        exact h
theorem en_Pa_goMinute {d : Nat} {E : qE} {Q : qW → Prop} {q : Nat} {w : qW} (hw : Sh w) (h : c_Pa_goMinute_0 d E Q q w) : CaV (d + 3) M_Pa_goMinute [.ref (qb E + q)] E w Q := Ca.into hw rfl (Nat.le_of_ble_eq_true rfl) h
def c_Pa_goMinutes_0 (d : Nat) (E : qE) (Q : qW → Prop) (q : Nat) (a1 : Int32) (w : qW) : Prop := Go (d + 4) M_Pa_goMinutes E 161 161 (qFV Q) 0 [(0, .ref (qb E + q)), (1, .int a1)] [] w
def c_Pa_goMinutes_2 (d : Nat) (E : qE) (Q : qW → Prop) (q : Nat) (l1 : Int32) (l2 : Int32) (w : qW) : Prop := Go (d + 4) M_Pa_goMinutes E 161 161 (qFV Q) 2 [(0, .ref (qb E + q)), (1, .int l1), (2, .int l2)] [] w
set_option maxHeartbeats 4000000 in
set_option maxRecDepth 8000 in
theorem s_Pa_goMinutes_0 {d : Nat} {E : qE} {Q : qW → Prop} {q : Nat} {a1 : Int32} {w : qW} (hw : Sh w) (hq : isPan q) (h : c_Pa_goMinutes_2 d E Q q a1 0 w) : c_Pa_goMinutes_0 d E Q q a1 w := by
  unfold c_Pa_goMinutes_0
  refine g_iconst (v := 0) e_Pa_goMinutes_0 (by decide) ?_
  refine g_istore_n (lv := [(2, .int 0), (0, .ref (qb E + q)), (1, .int a1)]) e_Pa_goMinutes_1 rfl (by decide) rfl ?_
  refine g_loc [1, 2, 0] rfl ?_
  exact h
set_option maxHeartbeats 4000000 in
set_option maxRecDepth 8000 in
theorem s_Pa_goMinutes_2 {d : Nat} {E : qE} {Q : qW → Prop} {q : Nat} {l1 : Int32} {l2 : Int32} {w : qW} (hw : Sh w) (hq : isPan q) (h : ((l1 ≤ l2) → (Q w)) ∧ ((¬ l1 ≤ l2) → (CaV (d + 3) M_Pa_goMinute [.ref (qb E + q)] E w (fun w2 => c_Pa_goMinutes_2 d E Q q l1 (l2 + 1) w2)))) : c_Pa_goMinutes_2 d E Q q l1 l2 w := by
  unfold c_Pa_goMinutes_2
  refine g_iload_n 2 e_Pa_goMinutes_2 rfl rfl ?_
  refine g_iload_n 1 e_Pa_goMinutes_3 rfl rfl ?_
  refine g_icmp_ge 17 e_Pa_goMinutes_4 (by decide) ⟨fun z1 => ?_, fun z1 => ?_⟩
  · have h := h.1 z1
    exact g_vret e_Pa_goMinutes_17 rfl ⟨Sh.n hw, rfl, hw, h⟩
  · have h := h.2 z1
    refine g_aload_n 0 e_Pa_goMinutes_7 rfl rfl ?_
    refine w_callVV (w := w) (As := []) (rest := []) e_Pa_goMinutes_8 ok_Pa_goMinute rfl km_Pa_122 kx_Pa_goMinute kv_Pa_goMinute rfl (by decide) hw (lay_Pa hq) (lt_Pa hq) rfl (Nat.le_of_ble_eq_true rfl) h (fun w2 hw2 h => ?_)
    refine g_iinc (v := (l2 + 1)) (lv := [(2, .int (l2 + 1)), (0, .ref (qb E + q)), (1, .int l1)]) 2 e_Pa_goMinutes_11 rfl rfl (by decide) rfl ?_
    refine g_goto 2 e_Pa_goMinutes_14 (by decide) ?_
    refine g_loc [1, 2, 0] rfl ?_
    exact h
theorem en_Pa_goMinutes {d : Nat} {E : qE} {Q : qW → Prop} {q : Nat} {a1 : Int32} {w : qW} (hw : Sh w) (h : c_Pa_goMinutes_0 d E Q q a1 w) : CaV (d + 4) M_Pa_goMinutes [.ref (qb E + q), .int a1] E w Q := Ca.into hw rfl (Nat.le_of_ble_eq_true rfl) h
def c_Pa_judgeTimes_0 (d : Nat) (E : qE) (Q : qW → Int32 → Prop) (q : Nat) (p1 : Nat) (a2 : Int32) (w : qW) : Prop := Go (d + 1) M_Pa_judgeTimes E 161 161 (qFI Q) 0 [(0, .ref (qb E + q)), (1, .ref (qb E + p1)), (2, .int a2)] [] w
def c_Pa_judgeTimes_5 (d : Nat) (E : qE) (Q : qW → Int32 → Prop) (q : Nat) (p1 : Nat) (l3 : Int32) (l4 : Int32) (w : qW) : Prop := Go (d + 1) M_Pa_judgeTimes E 161 161 (qFI Q) 5 [(0, .ref (qb E + q)), (1, .ref (qb E + p1)), (3, .int l3), (4, .int l4)] [] w
set_option maxHeartbeats 4000000 in
set_option maxRecDepth 8000 in
theorem s_Pa_judgeTimes_0 {d : Nat} {E : qE} {Q : qW → Int32 → Prop} {q : Nat} {p1 : Nat} {a2 : Int32} {w : qW} (hw : Sh w) (hq : isPan q) (hp1 : isTa p1) (h : c_Pa_judgeTimes_5 d E Q q p1 a2 0 w) : c_Pa_judgeTimes_0 d E Q q p1 a2 w := by
  unfold c_Pa_judgeTimes_0
  refine g_iload_n 2 e_Pa_judgeTimes_0 rfl rfl ?_
  refine g_istore_n (lv := [(3, .int a2), (0, .ref (qb E + q)), (1, .ref (qb E + p1)), (2, .int a2)]) e_Pa_judgeTimes_1 rfl (by decide) rfl ?_
  refine g_iconst (v := 0) e_Pa_judgeTimes_2 (by decide) ?_
  refine g_istore (lv := [(4, .int 0), (3, .int a2), (0, .ref (qb E + q)), (1, .ref (qb E + p1)), (2, .int a2)]) e_Pa_judgeTimes_3 (by decide) rfl ?_
  refine g_loc [2, 3, 1, 0] rfl ?_
  exact h
set_option maxHeartbeats 4000000 in
set_option maxRecDepth 8000 in
theorem s_Pa_judgeTimes_5 {d : Nat} {E : qE} {Q : qW → Int32 → Prop} {q : Nat} {p1 : Nat} {l3 : Int32} {l4 : Int32} {w : qW} (hw : Sh w) (hq : isPan q) (hp1 : isTa p1) (h : (((qi w q 0) ≤ l4) → (Q w (-5))) ∧ ((¬ (qi w q 0) ≤ l4) → (((6 ≤ l4) → (Q w (-5))) ∧ ((¬ 6 ≤ l4) → (CaI d M_Ta_has [.ref (qb E + p1), .int l3] E w (fun w3 x3 => ((¬ x3 = 0) → (vp_in l3 60 ∧ (vp_in l4 6 ∧ ((((lg_cmp (ql w3 (p1 + 1) ((l3).toNatClampNeg)) (((qi w3 (q + 3 + 2 * ((l4).toNatClampNeg)) 6) : Int32).toInt64)) = 0) → (c_Pa_judgeTimes_5 d E Q q p1 (l3 + 1) (l4 + 1) w3)) ∧ ((¬ (lg_cmp (ql w3 (p1 + 1) ((l3).toNatClampNeg)) (((qi w3 (q + 3 + 2 * ((l4).toNatClampNeg)) 6) : Int32).toInt64)) = 0) → (Q w3 l4)))))) ∧ ((x3 = 0) → (Q w3 (100 + l4))))))))) : c_Pa_judgeTimes_5 d E Q q p1 l3 l4 w := by
  unfold c_Pa_judgeTimes_5
  refine g_iload 3 e_Pa_judgeTimes_5 rfl ?_
  refine g_aload_n 0 e_Pa_judgeTimes_7 rfl rfl ?_
  refine gf_Pa_34 rfl e_Pa_judgeTimes_8 hw (lay_Pa hq) (lt_Pa hq) ?_
  refine g_icmp_ge 68 e_Pa_judgeTimes_11 (by decide) ⟨fun z1 => ?_, fun z1 => ?_⟩
  · have h := h.1 z1
    refine g_bipush (v := (-5)) e_Pa_judgeTimes_68 (by decide) ?_
    exact g_iret e_Pa_judgeTimes_70 rfl ⟨Sh.n hw, _, rfl, hw, h⟩
  · have h := h.2 z1
    refine g_iload 3 e_Pa_judgeTimes_14 rfl ?_
    refine g_bipush (v := 6) e_Pa_judgeTimes_16 (by decide) ?_
    refine g_icmp_ge 68 e_Pa_judgeTimes_18 (by decide) ⟨fun z2 => ?_, fun z2 => ?_⟩
    · have h := h.1 z2
      refine g_bipush (v := (-5)) e_Pa_judgeTimes_68 (by decide) ?_
      exact g_iret e_Pa_judgeTimes_70 rfl ⟨Sh.n hw, _, rfl, hw, h⟩
    · have h := h.2 z2
      refine g_aload_n 1 e_Pa_judgeTimes_21 rfl rfl ?_
      refine g_iload_n 2 e_Pa_judgeTimes_22 rfl rfl ?_
      refine w_callVI (w := w) (As := [.int l3]) (rest := []) e_Pa_judgeTimes_23 ok_Ta_has rfl km_Pa_125 kx_Ta_has kv_Ta_has rfl (by decide) hw (lay_Ta hp1) (lt_Ta hp1) rfl (Nat.le_of_ble_eq_true rfl) h (fun w3 x3 hw3 h => ?_)
      refine g_if_ne 35 e_Pa_judgeTimes_26 (by decide) ⟨fun z4 => ?_, fun z4 => ?_⟩
      · have h := h.1 z4
        refine g_aload_n 1 e_Pa_judgeTimes_35 rfl rfl ?_
        refine gf_Pa_131 rfl e_Pa_judgeTimes_36 hw3 (lay_Ta hp1) (lt_Ta hp1) (sh_Ta_items hw3 hp1) ?_
        refine g_iload_n 2 e_Pa_judgeTimes_39 rfl rfl ?_
        obtain ⟨o5, h⟩ := h
        refine w_laload ((l3).toNatClampNeg) e_Pa_judgeTimes_40 hw3 (lay_Ta1 hp1) (lt_Ta1 hp1) o5 rfl ?_
        refine g_aload_n 0 e_Pa_judgeTimes_41 rfl rfl ?_
        refine gf_Pa_11 rfl e_Pa_judgeTimes_42 hw3 (lay_Pa hq) (lt_Pa hq) (sh_Ths hw3 hq) ?_
        refine g_iload 3 e_Pa_judgeTimes_45 rfl ?_
        obtain ⟨o6, h⟩ := h
        refine w_aaload e_Pa_judgeTimes_47 hw3 (lay_Ths hq) (Or.inl rfl) (lt_Ths hq) o6 (sh_ElI hw3 hq o6) ?_
        refine gf_Pa_101 rfl e_Pa_judgeTimes_48 hw3 (lay_Th (isTh_in hq o6)) (lt_Th (isTh_in hq o6)) ?_
        refine g_i2l e_Pa_judgeTimes_51 ?_
        refine g_lcmp e_Pa_judgeTimes_52 ?_
        refine g_if_eq 59 e_Pa_judgeTimes_53 (by decide) ⟨fun z7 => ?_, fun z7 => ?_⟩
        · have h := h.1 z7
          refine g_iinc (v := (l3 + 1)) (lv := [(3, .int (l3 + 1)), (0, .ref (qb E + q)), (1, .ref (qb E + p1)), (4, .int l4)]) 2 e_Pa_judgeTimes_59 rfl rfl (by decide) rfl ?_
          refine g_iinc (v := (l4 + 1)) (lv := [(4, .int (l4 + 1)), (3, .int (l3 + 1)), (0, .ref (qb E + q)), (1, .ref (qb E + p1))]) 3 e_Pa_judgeTimes_62 rfl rfl (by decide) rfl ?_
          refine g_goto 5 e_Pa_judgeTimes_65 (by decide) ?_
          refine g_loc [2, 3, 1, 0] rfl ?_
          exact h
        · have h := h.2 z7
          refine g_iload 3 e_Pa_judgeTimes_56 rfl ?_
          exact g_iret e_Pa_judgeTimes_58 rfl ⟨Sh.n hw3, _, rfl, hw3, h⟩
      · have h := h.2 z4
        refine g_bipush (v := 100) e_Pa_judgeTimes_29 (by decide) ?_
        refine g_iload 3 e_Pa_judgeTimes_31 rfl ?_
        refine g_iadd e_Pa_judgeTimes_33 ?_
        exact g_iret e_Pa_judgeTimes_34 rfl ⟨Sh.n hw3, _, rfl, hw3, h⟩
theorem en_Pa_judgeTimes {d : Nat} {E : qE} {Q : qW → Int32 → Prop} {q : Nat} {p1 : Nat} {a2 : Int32} {w : qW} (hw : Sh w) (h : c_Pa_judgeTimes_0 d E Q q p1 a2 w) : CaI (d + 1) M_Pa_judgeTimes [.ref (qb E + q), .ref (qb E + p1), .int a2] E w Q := Ca.into hw rfl (Nat.le_of_ble_eq_true rfl) h
def c_Wh_copyFrom_0 (d : Nat) (E : qE) (Q : qW → Prop) (q : Nat) (p1 : Nat) (w : qW) : Prop := Go (d + 3) M_Wh_copyFrom E 161 161 (qFV Q) 0 [(0, .ref (qb E + q)), (1, .ref (qb E + p1))] [] w
set_option maxHeartbeats 4000000 in
set_option maxRecDepth 8000 in
theorem s_Wh_copyFrom_0 {d : Nat} {E : qE} {Q : qW → Prop} {q : Nat} {p1 : Nat} {w : qW} (hw : Sh w) (hq : isWh q) (hp1 : isWh p1) (h : CaV (d + 2) M_Pa_copyFrom [.ref (qb E + (q + 10)), .ref (qb E + (p1 + 10))] E w (fun w1 => CaV (d + 2) M_Ro_copyFrom [.ref (qb E + (q + 1)), .ref (qb E + (p1 + 1))] E w1 (fun w2 => CaV (d + 2) M_Ro_copyFrom [.ref (qb E + (q + 4)), .ref (qb E + (p1 + 4))] E w2 (fun w3 => CaV (d + 2) M_Ro_copyFrom [.ref (qb E + (q + 7)), .ref (qb E + (p1 + 7))] E w3 (fun w4 => Q w4))))) : c_Wh_copyFrom_0 d E Q q p1 w := by
  unfold c_Wh_copyFrom_0
  refine g_aload_n 0 e_Wh_copyFrom_0 rfl rfl ?_
  refine gf_Wh_31 rfl e_Wh_copyFrom_1 hw (lay_Wh hq) (lt_Wh hq) (sh_Wh_pan hw hq) ?_
  refine g_aload_n 1 e_Wh_copyFrom_4 rfl rfl ?_
  refine gf_Wh_31 rfl e_Wh_copyFrom_5 hw (lay_Wh hp1) (lt_Wh hp1) (sh_Wh_pan hw hp1) ?_
  refine w_callVV (w := w) (As := [.ref (qb E + (p1 + 10))]) (rest := []) e_Wh_copyFrom_8 ok_Pa_copyFrom rfl km_Wh_35 kx_Pa_copyFrom kv_Pa_copyFrom rfl (by decide) hw (lay_Pa (isPan_Wh hq)) (lt_Pa (isPan_Wh hq)) rfl (Nat.le_of_ble_eq_true rfl) h (fun w1 hw1 h => ?_)
  refine g_aload_n 0 e_Wh_copyFrom_11 rfl rfl ?_
  refine gf_Wh_14 rfl e_Wh_copyFrom_12 hw1 (lay_Wh hq) (lt_Wh hq) (sh_Wh_seen hw1 hq) ?_
  refine g_aload_n 1 e_Wh_copyFrom_15 rfl rfl ?_
  refine gf_Wh_14 rfl e_Wh_copyFrom_16 hw1 (lay_Wh hp1) (lt_Wh hp1) (sh_Wh_seen hw1 hp1) ?_
  refine w_callVV (w := w1) (As := [.ref (qb E + (p1 + 1))]) (rest := []) e_Wh_copyFrom_19 ok_Ro_copyFrom rfl km_Wh_39 kx_Ro_copyFrom kv_Ro_copyFrom rfl (by decide) hw1 (lay_Ro (isRo1 hq)) (lt_Ro (isRo1 hq)) rfl (Nat.le_of_ble_eq_true rfl) h (fun w2 hw2 h => ?_)
  refine g_aload_n 0 e_Wh_copyFrom_22 rfl rfl ?_
  refine gf_Wh_20 rfl e_Wh_copyFrom_23 hw2 (lay_Wh hq) (lt_Wh hq) (sh_Wh_plan hw2 hq) ?_
  refine g_aload_n 1 e_Wh_copyFrom_26 rfl rfl ?_
  refine gf_Wh_20 rfl e_Wh_copyFrom_27 hw2 (lay_Wh hp1) (lt_Wh hp1) (sh_Wh_plan hw2 hp1) ?_
  refine w_callVV (w := w2) (As := [.ref (qb E + (p1 + 4))]) (rest := []) e_Wh_copyFrom_30 ok_Ro_copyFrom rfl km_Wh_39 kx_Ro_copyFrom kv_Ro_copyFrom rfl (by decide) hw2 (lay_Ro (isRo2 hq)) (lt_Ro (isRo2 hq)) rfl (Nat.le_of_ble_eq_true rfl) h (fun w3 hw3 h => ?_)
  refine g_aload_n 0 e_Wh_copyFrom_33 rfl rfl ?_
  refine gf_Wh_23 rfl e_Wh_copyFrom_34 hw3 (lay_Wh hq) (lt_Wh hq) (sh_Wh_book hw3 hq) ?_
  refine g_aload_n 1 e_Wh_copyFrom_37 rfl rfl ?_
  refine gf_Wh_23 rfl e_Wh_copyFrom_38 hw3 (lay_Wh hp1) (lt_Wh hp1) (sh_Wh_book hw3 hp1) ?_
  refine w_callVV (w := w3) (As := [.ref (qb E + (p1 + 7))]) (rest := []) e_Wh_copyFrom_41 ok_Ro_copyFrom rfl km_Wh_39 kx_Ro_copyFrom kv_Ro_copyFrom rfl (by decide) hw3 (lay_Ro (isRo3 hq)) (lt_Ro (isRo3 hq)) rfl (Nat.le_of_ble_eq_true rfl) h (fun w4 hw4 h => ?_)
  exact g_vret e_Wh_copyFrom_44 rfl ⟨Sh.n hw4, rfl, hw4, h⟩
theorem en_Wh_copyFrom {d : Nat} {E : qE} {Q : qW → Prop} {q : Nat} {p1 : Nat} {w : qW} (hw : Sh w) (h : c_Wh_copyFrom_0 d E Q q p1 w) : CaV (d + 3) M_Wh_copyFrom [.ref (qb E + q), .ref (qb E + p1)] E w Q := Ca.into hw rfl (Nat.le_of_ble_eq_true rfl) h
