def c_Qu_thing_0 (d : Nat) (E : qE) (Q : qW → Int32 → Prop) (a1 : Int32) (a2 : Int32) (a3 : Int32) (a4 : Int32) (w : qW) : Prop := Go (d + 2) M_Qu_thing E 161 161 (qFI Q) 0 [(0, .ref (qb E + 0)), (1, .int a1), (2, .int a2), (3, .int a3), (4, .int a4)] [] w
set_option maxHeartbeats 4000000 in
set_option maxRecDepth 8000 in
theorem s_Qu_thing_0 {d : Nat} {E : qE} {Q : qW → Int32 → Prop} {a1 : Int32} {a2 : Int32} {a3 : Int32} {a4 : Int32} {w : qW} (hw : Sh w) (h : CaI (d + 1) M_Qu_within [.int a1, .int 0, .int 6] E w (fun w1 x1 => ((¬ x1 = 0) → (CaI (d + 1) M_Qu_within [.int a2, .int 0, .int 9] E w1 (fun w3 x3 => ((x3 = 0) → (Q w3 (-2))) ∧ ((¬ x3 = 0) → (CaI (d + 1) M_Qu_within [.int a3, .int 0, .int 20] E w3 (fun w5 x5 => ((x5 = 0) → (Q w5 (-2))) ∧ ((¬ x5 = 0) → (CaI (d + 1) M_Qu_within [.int a4, .int 0, .int 1] E w5 (fun w7 x7 => ((¬ x7 = 0) → (CaI (d + 1) M_Pa_addThing [.ref (qb E + 15), .int a1, .int a2, .int a3, .int a4] E w7 (fun w9 x9 => Q w9 x9))) ∧ ((x7 = 0) → (Q w7 (-2)))))))))))) ∧ ((x1 = 0) → (Q w1 (-1))))) : c_Qu_thing_0 d E Q a1 a2 a3 a4 w := by
  unfold c_Qu_thing_0
  refine g_iload_n 1 e_Qu_thing_0 rfl rfl ?_
  refine g_iconst (v := 0) e_Qu_thing_1 (by decide) ?_
  refine g_bipush (v := 6) e_Qu_thing_2 (by decide) ?_
  refine w_callSI (w := w) (As := [.int a1, .int 0, .int 6]) (rest := []) e_Qu_thing_4 ok_Qu_within rfl km_Qu_60 ks_Qu_within rfl (Nat.le_of_ble_eq_true rfl) h (fun w1 x1 hw1 h => ?_)
  refine g_if_ne 12 e_Qu_thing_7 (by decide) ⟨fun z2 => ?_, fun z2 => ?_⟩
  · have h := h.1 z2
    refine g_iload_n 2 e_Qu_thing_12 rfl rfl ?_
    refine g_iconst (v := 0) e_Qu_thing_13 (by decide) ?_
    refine g_bipush (v := 9) e_Qu_thing_14 (by decide) ?_
    refine w_callSI (w := w1) (As := [.int a2, .int 0, .int 9]) (rest := []) e_Qu_thing_16 ok_Qu_within rfl km_Qu_60 ks_Qu_within rfl (Nat.le_of_ble_eq_true rfl) h (fun w3 x3 hw3 h => ?_)
    refine g_if_eq 42 e_Qu_thing_19 (by decide) ⟨fun z4 => ?_, fun z4 => ?_⟩
    · have h := h.1 z4
      refine g_bipush (v := (-2)) e_Qu_thing_42 (by decide) ?_
      exact g_iret e_Qu_thing_44 rfl ⟨Sh.n hw3, _, rfl, hw3, h⟩
    · have h := h.2 z4
      refine g_iload_n 3 e_Qu_thing_22 rfl rfl ?_
      refine g_iconst (v := 0) e_Qu_thing_23 (by decide) ?_
      refine g_bipush (v := 20) e_Qu_thing_24 (by decide) ?_
      refine w_callSI (w := w3) (As := [.int a3, .int 0, .int 20]) (rest := []) e_Qu_thing_26 ok_Qu_within rfl km_Qu_60 ks_Qu_within rfl (Nat.le_of_ble_eq_true rfl) h (fun w5 x5 hw5 h => ?_)
      refine g_if_eq 42 e_Qu_thing_29 (by decide) ⟨fun z6 => ?_, fun z6 => ?_⟩
      · have h := h.1 z6
        refine g_bipush (v := (-2)) e_Qu_thing_42 (by decide) ?_
        exact g_iret e_Qu_thing_44 rfl ⟨Sh.n hw5, _, rfl, hw5, h⟩
      · have h := h.2 z6
        refine g_iload 4 e_Qu_thing_32 rfl ?_
        refine g_iconst (v := 0) e_Qu_thing_34 (by decide) ?_
        refine g_iconst (v := 1) e_Qu_thing_35 (by decide) ?_
        refine w_callSI (w := w5) (As := [.int a4, .int 0, .int 1]) (rest := []) e_Qu_thing_36 ok_Qu_within rfl km_Qu_60 ks_Qu_within rfl (Nat.le_of_ble_eq_true rfl) h (fun w7 x7 hw7 h => ?_)
        refine g_if_ne 45 e_Qu_thing_39 (by decide) ⟨fun z8 => ?_, fun z8 => ?_⟩
        · have h := h.1 z8
          refine g_aload_n 0 e_Qu_thing_45 rfl rfl ?_
          refine gf_Qu_17 rfl e_Qu_thing_46 hw7 lay_0 (by decide) (sh_Qu_now hw7) ?_
          refine gf_Qu_64 rfl e_Qu_thing_49 hw7 (lay_Wh isWh5) (lt_Wh isWh5) (sh_Wh_pan hw7 isWh5) ?_
          refine g_iload_n 1 e_Qu_thing_52 rfl rfl ?_
          refine g_iload_n 2 e_Qu_thing_53 rfl rfl ?_
          refine g_iload_n 3 e_Qu_thing_54 rfl rfl ?_
          refine g_iload 4 e_Qu_thing_55 rfl ?_
          refine w_callVI (w := w7) (As := [.int a1, .int a2, .int a3, .int a4]) (rest := []) e_Qu_thing_57 ok_Pa_addThing rfl km_Qu_68 kx_Pa_addThing kv_Pa_addThing rfl (by decide) hw7 (lay_Pa (isPan_Wh isWh5)) (lt_Pa (isPan_Wh isWh5)) rfl (Nat.le_of_ble_eq_true rfl) h (fun w9 x9 hw9 h => ?_)
          exact g_iret e_Qu_thing_60 rfl ⟨Sh.n hw9, _, rfl, hw9, h⟩
        · have h := h.2 z8
          refine g_bipush (v := (-2)) e_Qu_thing_42 (by decide) ?_
          exact g_iret e_Qu_thing_44 rfl ⟨Sh.n hw7, _, rfl, hw7, h⟩
  · have h := h.2 z2
    refine g_iconst (v := (-1)) e_Qu_thing_10 (by decide) ?_
    exact g_iret e_Qu_thing_11 rfl ⟨Sh.n hw1, _, rfl, hw1, h⟩
theorem en_Qu_thing {d : Nat} {E : qE} {Q : qW → Int32 → Prop} {a1 : Int32} {a2 : Int32} {a3 : Int32} {a4 : Int32} {w : qW} (hw : Sh w) (h : c_Qu_thing_0 d E Q a1 a2 a3 a4 w) : CaI (d + 2) M_Qu_thing [.ref (qb E + 0), .int a1, .int a2, .int a3, .int a4] E w Q := Ca.into hw rfl (Nat.le_of_ble_eq_true rfl) h
def c_Qu_of_0 (d : Nat) (E : qE) (Q : qW → Int32 → Prop) (a1 : Int32) (a2 : Int32) (w : qW) : Prop := Go (d + 6) M_Qu_of E 161 161 (qFI Q) 0 [(0, .ref (qb E + 0)), (1, .int a1), (2, .int a2)] [] w
set_option maxHeartbeats 4000000 in
set_option maxRecDepth 8000 in
theorem s_Qu_of_0 {d : Nat} {E : qE} {Q : qW → Int32 → Prop} {a1 : Int32} {a2 : Int32} {w : qW} (hw : Sh w) (h : CaR (d + 5) M_Pa_find [.ref (qb E + 15), .int a1] E w (fun w1 x1 => (x1 = none ∧ (Q w1 (-10001))) ∨ (∃ i1, i1 < 6 ∧ x1 = some (15 + 3 + 2 * i1) ∧ ((a2 = 0 → (Q w1 (qi w1 (15 + 3 + 2 * i1) 1))) ∧ (a2 = 1 → (Q w1 (qi w1 (15 + 3 + 2 * i1) 2))) ∧ (a2 = 2 → (Q w1 (qi w1 (15 + 3 + 2 * i1) 3))) ∧ (a2 = 3 → (Q w1 (qi w1 (15 + 3 + 2 * i1) 4))) ∧ (a2 = 4 → (Q w1 (qi w1 (15 + 3 + 2 * i1) 5))) ∧ (a2 = 5 → (Q w1 (qi w1 (15 + 3 + 2 * i1) 6))) ∧ (a2 = 6 → (CaI (d + 5) M_Pa_gives [.ref (qb E + 15), .ref (qb E + (15 + 3 + 2 * i1))] E w1 (fun w3 x3 => Q w3 x3))) ∧ (a2 = 7 → (CaI (d + 5) M_As_weights [.ref (qb E + 55), .int a1] E w1 (fun w4 x4 => Q w4 x4))) ∧ ((a2.toInt < 0 ∨ 7 < a2.toInt) → (Q w1 (-10001))))))) : c_Qu_of_0 d E Q a1 a2 w := by
  unfold c_Qu_of_0
  refine g_aload_n 0 e_Qu_of_0 rfl rfl ?_
  refine gf_Qu_17 rfl e_Qu_of_1 hw lay_0 (by decide) (sh_Qu_now hw) ?_
  refine gf_Qu_64 rfl e_Qu_of_4 hw (lay_Wh isWh5) (lt_Wh isWh5) (sh_Wh_pan hw isWh5) ?_
  refine g_iload_n 1 e_Qu_of_7 rfl rfl ?_
  refine w_callVR (w := w) (As := [.int a1]) (rest := []) e_Qu_of_8 ok_Pa_find rfl km_Qu_74 kx_Pa_find kv_Pa_find rfl (by decide) hw (lay_Pa (isPan_Wh isWh5)) (lt_Pa (isPan_Wh isWh5)) rfl (Nat.le_of_ble_eq_true rfl) h (fun w1 x1 hw1 h => ?_)
  obtain ⟨rfl, h⟩ | ⟨i1, hi1, rfl, h⟩ := h
  · change Go _ _ _ _ _ _ _ _ (.null :: _) _
    refine g_astore_nN (lv := [(3, .null), (0, .ref (qb E + 0)), (1, .int a1), (2, .int a2)]) e_Qu_of_11 rfl (by decide) rfl ?_
    refine g_aload_nN 0 e_Qu_of_12 rfl rfl ?_
    refine g_ifnonnullN e_Qu_of_13 ?_
    refine g_sipush (v := (-10001)) e_Qu_of_16 (by decide) ?_
    exact g_iret e_Qu_of_19 rfl ⟨Sh.n hw1, _, rfl, hw1, h⟩
  · change Go _ _ _ _ _ _ _ _ (.ref (qb E + (15 + 3 + 2 * i1)) :: _) _
    refine g_astore_n (lv := [(3, .ref (qb E + (15 + 3 + 2 * i1))), (0, .ref (qb E + 0)), (1, .int a1), (2, .int a2)]) e_Qu_of_11 rfl (by decide) rfl ?_
    refine g_aload_n 0 e_Qu_of_12 rfl rfl ?_
    refine g_ifnonnull 20 e_Qu_of_13 (by decide) ?_
    refine g_iload_n 3 e_Qu_of_20 rfl rfl ?_
    refine g_table e_Qu_of_21 8 (by decide) [68, 73, 78, 83, 88, 93, 98, 110] 119 (by decide) (by decide +kernel) ⟨fun j2 hj2 hx2 => ?_, fun hx2 => ?_⟩
    · rcases (show j2 = 0 ∨ j2 = 1 ∨ j2 = 2 ∨ j2 = 3 ∨ j2 = 4 ∨ j2 = 5 ∨ j2 = 6 ∨ j2 = 7 by omega) with rfl | rfl | rfl | rfl | rfl | rfl | rfl | rfl
      · have h := h.1 (q_key hx2 (by decide))
        change Go _ _ _ _ _ _ 68 _ _ _
        refine g_aload_n 0 e_Qu_of_68 rfl rfl ?_
        refine gf_Qu_78 rfl e_Qu_of_69 hw1 (lay_Th (isTh_of (isPan_Wh isWh5) hi1)) (lt_Th (isTh_of (isPan_Wh isWh5) hi1)) ?_
        exact g_iret e_Qu_of_72 rfl ⟨Sh.n hw1, _, rfl, hw1, h⟩
      · have h := h.2.1 (q_key hx2 (by decide))
        change Go _ _ _ _ _ _ 73 _ _ _
        refine g_aload_n 0 e_Qu_of_73 rfl rfl ?_
        refine gf_Qu_84 rfl e_Qu_of_74 hw1 (lay_Th (isTh_of (isPan_Wh isWh5) hi1)) (lt_Th (isTh_of (isPan_Wh isWh5) hi1)) ?_
        exact g_iret e_Qu_of_77 rfl ⟨Sh.n hw1, _, rfl, hw1, h⟩
      · have h := h.2.2.1 (q_key hx2 (by decide))
        change Go _ _ _ _ _ _ 78 _ _ _
        refine g_aload_n 0 e_Qu_of_78 rfl rfl ?_
        refine gf_Qu_87 rfl e_Qu_of_79 hw1 (lay_Th (isTh_of (isPan_Wh isWh5) hi1)) (lt_Th (isTh_of (isPan_Wh isWh5) hi1)) ?_
        exact g_iret e_Qu_of_82 rfl ⟨Sh.n hw1, _, rfl, hw1, h⟩
      · have h := h.2.2.2.1 (q_key hx2 (by decide))
        change Go _ _ _ _ _ _ 83 _ _ _
        refine g_aload_n 0 e_Qu_of_83 rfl rfl ?_
        refine gf_Qu_90 rfl e_Qu_of_84 hw1 (lay_Th (isTh_of (isPan_Wh isWh5) hi1)) (lt_Th (isTh_of (isPan_Wh isWh5) hi1)) ?_
        exact g_iret e_Qu_of_87 rfl ⟨Sh.n hw1, _, rfl, hw1, h⟩
      · have h := h.2.2.2.2.1 (q_key hx2 (by decide))
        change Go _ _ _ _ _ _ 88 _ _ _
        refine g_aload_n 0 e_Qu_of_88 rfl rfl ?_
        refine gf_Qu_93 rfl e_Qu_of_89 hw1 (lay_Th (isTh_of (isPan_Wh isWh5) hi1)) (lt_Th (isTh_of (isPan_Wh isWh5) hi1)) ?_
        exact g_iret e_Qu_of_92 rfl ⟨Sh.n hw1, _, rfl, hw1, h⟩
      · have h := h.2.2.2.2.2.1 (q_key hx2 (by decide))
        change Go _ _ _ _ _ _ 93 _ _ _
        refine g_aload_n 0 e_Qu_of_93 rfl rfl ?_
        refine gf_Qu_96 rfl e_Qu_of_94 hw1 (lay_Th (isTh_of (isPan_Wh isWh5) hi1)) (lt_Th (isTh_of (isPan_Wh isWh5) hi1)) ?_
        exact g_iret e_Qu_of_97 rfl ⟨Sh.n hw1, _, rfl, hw1, h⟩
      · have h := h.2.2.2.2.2.2.1 (q_key hx2 (by decide))
        change Go _ _ _ _ _ _ 98 _ _ _
        refine g_aload_n 1 e_Qu_of_98 rfl rfl ?_
        refine gf_Qu_17 rfl e_Qu_of_99 hw1 lay_0 (by decide) (sh_Qu_now hw1) ?_
        refine gf_Qu_64 rfl e_Qu_of_102 hw1 (lay_Wh isWh5) (lt_Wh isWh5) (sh_Wh_pan hw1 isWh5) ?_
        refine g_aload_n 0 e_Qu_of_105 rfl rfl ?_
        refine w_callVI (w := w1) (As := [.ref (qb E + (15 + 3 + 2 * i1))]) (rest := []) e_Qu_of_106 ok_Pa_gives rfl km_Qu_99 kx_Pa_gives kv_Pa_gives rfl (by decide) hw1 (lay_Pa (isPan_Wh isWh5)) (lt_Pa (isPan_Wh isWh5)) rfl (Nat.le_of_ble_eq_true rfl) h (fun w3 x3 hw3 h => ?_)
        exact g_iret e_Qu_of_109 rfl ⟨Sh.n hw3, _, rfl, hw3, h⟩
      · have h := h.2.2.2.2.2.2.2.1 (q_key hx2 (by decide))
        change Go _ _ _ _ _ _ 110 _ _ _
        refine g_aload_n 1 e_Qu_of_110 rfl rfl ?_
        refine gf_Qu_31 rfl e_Qu_of_111 hw1 lay_0 (by decide) (sh_Qu_asking hw1) ?_
        refine g_iload_n 2 e_Qu_of_114 rfl rfl ?_
        refine w_callVI (w := w1) (As := [.int a1]) (rest := []) e_Qu_of_115 ok_As_weights rfl km_Qu_103 kx_As_weights kv_As_weights rfl (by decide) hw1 lay_55 (by decide) rfl (Nat.le_of_ble_eq_true rfl) h (fun w4 x4 hw4 h => ?_)
        exact g_iret e_Qu_of_118 rfl ⟨Sh.n hw4, _, rfl, hw4, h⟩
    · have h := h.2.2.2.2.2.2.2.2 hx2
      refine g_sipush (v := (-10001)) e_Qu_of_119 (by decide) ?_
      exact g_iret e_Qu_of_122 rfl ⟨Sh.n hw1, _, rfl, hw1, h⟩
theorem en_Qu_of {d : Nat} {E : qE} {Q : qW → Int32 → Prop} {a1 : Int32} {a2 : Int32} {w : qW} (hw : Sh w) (h : c_Qu_of_0 d E Q a1 a2 w) : CaI (d + 6) M_Qu_of [.ref (qb E + 0), .int a1, .int a2] E w Q := Ca.into hw rfl (Nat.le_of_ble_eq_true rfl) h
def c_Qu_put_0 (d : Nat) (E : qE) (Q : qW → Int32 → Prop) (a1 : Int32) (w : qW) : Prop := Go (d + 2) M_Qu_put E 161 161 (qFI Q) 0 [(0, .ref (qb E + 0)), (1, .int a1)] [] w
set_option maxHeartbeats 4000000 in
set_option maxRecDepth 8000 in
theorem s_Qu_put_0 {d : Nat} {E : qE} {Q : qW → Int32 → Prop} {a1 : Int32} {w : qW} (hw : Sh w) (h : CaR (d + 1) M_Pa_find [.ref (qb E + 15), .int a1] E w (fun w1 x1 => (x1 = none ∧ (Q w1 (-1))) ∨ (∃ i1, i1 < 6 ∧ x1 = some (15 + 3 + 2 * i1) ∧ ((((qi w1 (15 + 3 + 2 * i1) 5) = 0) → (CaV (d + 1) M_Th_putIn [.ref (qb E + (15 + 3 + 2 * i1))] E w1 (fun w3 => CaI (d + 1) M_Pa_howMany [.ref (qb E + 15), .int 1] E w3 (fun w4 x4 => Q w4 x4)))) ∧ ((¬ (qi w1 (15 + 3 + 2 * i1) 5) = 0) → (Q w1 (-3))))))) : c_Qu_put_0 d E Q a1 w := by
  unfold c_Qu_put_0
  refine g_aload_n 0 e_Qu_put_0 rfl rfl ?_
  refine gf_Qu_17 rfl e_Qu_put_1 hw lay_0 (by decide) (sh_Qu_now hw) ?_
  refine gf_Qu_64 rfl e_Qu_put_4 hw (lay_Wh isWh5) (lt_Wh isWh5) (sh_Wh_pan hw isWh5) ?_
  refine g_iload_n 1 e_Qu_put_7 rfl rfl ?_
  refine w_callVR (w := w) (As := [.int a1]) (rest := []) e_Qu_put_8 ok_Pa_find rfl km_Qu_74 kx_Pa_find kv_Pa_find rfl (by decide) hw (lay_Pa (isPan_Wh isWh5)) (lt_Pa (isPan_Wh isWh5)) rfl (Nat.le_of_ble_eq_true rfl) h (fun w1 x1 hw1 h => ?_)
  obtain ⟨rfl, h⟩ | ⟨i1, hi1, rfl, h⟩ := h
  · change Go _ _ _ _ _ _ _ _ (.null :: _) _
    refine g_astore_nN (lv := [(2, .null), (0, .ref (qb E + 0)), (1, .int a1)]) e_Qu_put_11 rfl (by decide) rfl ?_
    refine g_aload_nN 0 e_Qu_put_12 rfl rfl ?_
    refine g_ifnonnullN e_Qu_put_13 ?_
    refine g_iconst (v := (-1)) e_Qu_put_16 (by decide) ?_
    exact g_iret e_Qu_put_17 rfl ⟨Sh.n hw1, _, rfl, hw1, h⟩
  · change Go _ _ _ _ _ _ _ _ (.ref (qb E + (15 + 3 + 2 * i1)) :: _) _
    refine g_astore_n (lv := [(2, .ref (qb E + (15 + 3 + 2 * i1))), (0, .ref (qb E + 0)), (1, .int a1)]) e_Qu_put_11 rfl (by decide) rfl ?_
    refine g_aload_n 0 e_Qu_put_12 rfl rfl ?_
    refine g_ifnonnull 18 e_Qu_put_13 (by decide) ?_
    refine g_aload_n 0 e_Qu_put_18 rfl rfl ?_
    refine gf_Qu_93 rfl e_Qu_put_19 hw1 (lay_Th (isTh_of (isPan_Wh isWh5) hi1)) (lt_Th (isTh_of (isPan_Wh isWh5) hi1)) ?_
    refine g_if_eq 28 e_Qu_put_22 (by decide) ⟨fun z2 => ?_, fun z2 => ?_⟩
    · have h := h.1 z2
      refine g_aload_n 0 e_Qu_put_28 rfl rfl ?_
      refine w_callVV (w := w1) (As := []) (rest := []) e_Qu_put_29 ok_Th_putIn rfl km_Qu_107 kx_Th_putIn kv_Th_putIn rfl (by decide) hw1 (lay_Th (isTh_of (isPan_Wh isWh5) hi1)) (lt_Th (isTh_of (isPan_Wh isWh5) hi1)) rfl (Nat.le_of_ble_eq_true rfl) h (fun w3 hw3 h => ?_)
      refine g_aload_n 1 e_Qu_put_32 rfl rfl ?_
      refine gf_Qu_17 rfl e_Qu_put_33 hw3 lay_0 (by decide) (sh_Qu_now hw3) ?_
      refine gf_Qu_64 rfl e_Qu_put_36 hw3 (lay_Wh isWh5) (lt_Wh isWh5) (sh_Wh_pan hw3 isWh5) ?_
      refine g_iconst (v := 1) e_Qu_put_39 (by decide) ?_
      refine w_callVI (w := w3) (As := [.int 1]) (rest := []) e_Qu_put_40 ok_Pa_howMany rfl km_Qu_110 kx_Pa_howMany kv_Pa_howMany rfl (by decide) hw3 (lay_Pa (isPan_Wh isWh5)) (lt_Pa (isPan_Wh isWh5)) rfl (Nat.le_of_ble_eq_true rfl) h (fun w4 x4 hw4 h => ?_)
      exact g_iret e_Qu_put_43 rfl ⟨Sh.n hw4, _, rfl, hw4, h⟩
    · have h := h.2 z2
      refine g_bipush (v := (-3)) e_Qu_put_25 (by decide) ?_
      exact g_iret e_Qu_put_27 rfl ⟨Sh.n hw1, _, rfl, hw1, h⟩
theorem en_Qu_put {d : Nat} {E : qE} {Q : qW → Int32 → Prop} {a1 : Int32} {w : qW} (hw : Sh w) (h : c_Qu_put_0 d E Q a1 w) : CaI (d + 2) M_Qu_put [.ref (qb E + 0), .int a1] E w Q := Ca.into hw rfl (Nat.le_of_ble_eq_true rfl) h
def c_Qu_say_0 (d : Nat) (E : qE) (Q : qW → Int32 → Prop) (a1 : Int32) (w : qW) : Prop := Go (d + 2) M_Qu_say E 161 161 (qFI Q) 0 [(0, .ref (qb E + 0)), (1, .int a1)] [] w
set_option maxHeartbeats 4000000 in
set_option maxRecDepth 8000 in
theorem s_Qu_say_0 {d : Nat} {E : qE} {Q : qW → Int32 → Prop} {a1 : Int32} {w : qW} (hw : Sh w) (h : CaR (d + 1) M_Pa_find [.ref (qb E + 15), .int a1] E w (fun w1 x1 => (x1 = none ∧ (Q w1 (-1))) ∨ (∃ i1, i1 < 6 ∧ x1 = some (15 + 3 + 2 * i1) ∧ (((¬ (qi w1 (15 + 3 + 2 * i1) 5) = 2) → (CaV (d + 1) M_Pa_speak [.ref (qb E + 15), .ref (qb E + (15 + 3 + 2 * i1))] E w1 (fun w3 => Q w3 (qi w3 15 3)))) ∧ (((qi w1 (15 + 3 + 2 * i1) 5) = 2) → (Q w1 (-3))))))) : c_Qu_say_0 d E Q a1 w := by
  unfold c_Qu_say_0
  refine g_aload_n 0 e_Qu_say_0 rfl rfl ?_
  refine gf_Qu_17 rfl e_Qu_say_1 hw lay_0 (by decide) (sh_Qu_now hw) ?_
  refine gf_Qu_64 rfl e_Qu_say_4 hw (lay_Wh isWh5) (lt_Wh isWh5) (sh_Wh_pan hw isWh5) ?_
  refine g_iload_n 1 e_Qu_say_7 rfl rfl ?_
  refine w_callVR (w := w) (As := [.int a1]) (rest := []) e_Qu_say_8 ok_Pa_find rfl km_Qu_74 kx_Pa_find kv_Pa_find rfl (by decide) hw (lay_Pa (isPan_Wh isWh5)) (lt_Pa (isPan_Wh isWh5)) rfl (Nat.le_of_ble_eq_true rfl) h (fun w1 x1 hw1 h => ?_)
  obtain ⟨rfl, h⟩ | ⟨i1, hi1, rfl, h⟩ := h
  · change Go _ _ _ _ _ _ _ _ (.null :: _) _
    refine g_astore_nN (lv := [(2, .null), (0, .ref (qb E + 0)), (1, .int a1)]) e_Qu_say_11 rfl (by decide) rfl ?_
    refine g_aload_nN 0 e_Qu_say_12 rfl rfl ?_
    refine g_ifnonnullN e_Qu_say_13 ?_
    refine g_iconst (v := (-1)) e_Qu_say_16 (by decide) ?_
    exact g_iret e_Qu_say_17 rfl ⟨Sh.n hw1, _, rfl, hw1, h⟩
  · change Go _ _ _ _ _ _ _ _ (.ref (qb E + (15 + 3 + 2 * i1)) :: _) _
    refine g_astore_n (lv := [(2, .ref (qb E + (15 + 3 + 2 * i1))), (0, .ref (qb E + 0)), (1, .int a1)]) e_Qu_say_11 rfl (by decide) rfl ?_
    refine g_aload_n 0 e_Qu_say_12 rfl rfl ?_
    refine g_ifnonnull 18 e_Qu_say_13 (by decide) ?_
    refine g_aload_n 0 e_Qu_say_18 rfl rfl ?_
    refine gf_Qu_93 rfl e_Qu_say_19 hw1 (lay_Th (isTh_of (isPan_Wh isWh5) hi1)) (lt_Th (isTh_of (isPan_Wh isWh5) hi1)) ?_
    refine g_iconst (v := 2) e_Qu_say_22 (by decide) ?_
    refine g_icmp_ne 29 e_Qu_say_23 (by decide) ⟨fun z2 => ?_, fun z2 => ?_⟩
    · have h := h.1 z2
      refine g_aload_n 1 e_Qu_say_29 rfl rfl ?_
      refine gf_Qu_17 rfl e_Qu_say_30 hw1 lay_0 (by decide) (sh_Qu_now hw1) ?_
      refine gf_Qu_64 rfl e_Qu_say_33 hw1 (lay_Wh isWh5) (lt_Wh isWh5) (sh_Wh_pan hw1 isWh5) ?_
      refine g_aload_n 0 e_Qu_say_36 rfl rfl ?_
      refine w_callVV (w := w1) (As := [.ref (qb E + (15 + 3 + 2 * i1))]) (rest := []) e_Qu_say_37 ok_Pa_speak rfl km_Qu_113 kx_Pa_speak kv_Pa_speak rfl (by decide) hw1 (lay_Pa (isPan_Wh isWh5)) (lt_Pa (isPan_Wh isWh5)) rfl (Nat.le_of_ble_eq_true rfl) h (fun w3 hw3 h => ?_)
      refine g_aload_n 1 e_Qu_say_40 rfl rfl ?_
      refine gf_Qu_17 rfl e_Qu_say_41 hw3 lay_0 (by decide) (sh_Qu_now hw3) ?_
      refine gf_Qu_64 rfl e_Qu_say_44 hw3 (lay_Wh isWh5) (lt_Wh isWh5) (sh_Wh_pan hw3 isWh5) ?_
      refine gf_Qu_117 rfl e_Qu_say_47 hw3 (lay_Pa (isPan_Wh isWh5)) (lt_Pa (isPan_Wh isWh5)) ?_
      exact g_iret e_Qu_say_50 rfl ⟨Sh.n hw3, _, rfl, hw3, h⟩
    · have h := h.2 z2
      refine g_bipush (v := (-3)) e_Qu_say_26 (by decide) ?_
      exact g_iret e_Qu_say_28 rfl ⟨Sh.n hw1, _, rfl, hw1, h⟩
theorem en_Qu_say {d : Nat} {E : qE} {Q : qW → Int32 → Prop} {a1 : Int32} {w : qW} (hw : Sh w) (h : c_Qu_say_0 d E Q a1 w) : CaI (d + 2) M_Qu_say [.ref (qb E + 0), .int a1] E w Q := Ca.into hw rfl (Nat.le_of_ble_eq_true rfl) h
def c_Qu_weigh_0 (d : Nat) (E : qE) (Q : qW → Int32 → Prop) (a1 : Int32) (a2 : Int32) (w : qW) : Prop := Go (d + 1) M_Qu_weigh E 161 161 (qFI Q) 0 [(0, .ref (qb E + 0)), (1, .int a1), (2, .int a2)] [] w
set_option maxHeartbeats 4000000 in
set_option maxRecDepth 8000 in
theorem s_Qu_weigh_0 {d : Nat} {E : qE} {Q : qW → Int32 → Prop} {a1 : Int32} {a2 : Int32} {w : qW} (hw : Sh w) (h : CaR d M_Pa_find [.ref (qb E + 15), .int a1] E w (fun w1 x1 => (x1 = none ∧ (Q w1 (-1))) ∨ (∃ i1, i1 < 6 ∧ x1 = some (15 + 3 + 2 * i1) ∧ (CaI d M_Qu_within [.int a2, .int 0, .int 20] E w1 (fun w2 x2 => ((¬ x2 = 0) → (Q (qpi w2 (15 + 3 + 2 * i1) 3 a2) (qi w2 (15 + 3 + 2 * i1) 3))) ∧ ((x2 = 0) → (Q w2 (-2)))))))) : c_Qu_weigh_0 d E Q a1 a2 w := by
  unfold c_Qu_weigh_0
  refine g_aload_n 0 e_Qu_weigh_0 rfl rfl ?_
  refine gf_Qu_17 rfl e_Qu_weigh_1 hw lay_0 (by decide) (sh_Qu_now hw) ?_
  refine gf_Qu_64 rfl e_Qu_weigh_4 hw (lay_Wh isWh5) (lt_Wh isWh5) (sh_Wh_pan hw isWh5) ?_
  refine g_iload_n 1 e_Qu_weigh_7 rfl rfl ?_
  refine w_callVR (w := w) (As := [.int a1]) (rest := []) e_Qu_weigh_8 ok_Pa_find rfl km_Qu_74 kx_Pa_find kv_Pa_find rfl (by decide) hw (lay_Pa (isPan_Wh isWh5)) (lt_Pa (isPan_Wh isWh5)) rfl (Nat.le_of_ble_eq_true rfl) h (fun w1 x1 hw1 h => ?_)
  obtain ⟨rfl, h⟩ | ⟨i1, hi1, rfl, h⟩ := h
  · change Go _ _ _ _ _ _ _ _ (.null :: _) _
    refine g_astore_nN (lv := [(3, .null), (0, .ref (qb E + 0)), (1, .int a1), (2, .int a2)]) e_Qu_weigh_11 rfl (by decide) rfl ?_
    refine g_aload_nN 0 e_Qu_weigh_12 rfl rfl ?_
    refine g_ifnonnullN e_Qu_weigh_13 ?_
    refine g_iconst (v := (-1)) e_Qu_weigh_16 (by decide) ?_
    exact g_iret e_Qu_weigh_17 rfl ⟨Sh.n hw1, _, rfl, hw1, h⟩
  · change Go _ _ _ _ _ _ _ _ (.ref (qb E + (15 + 3 + 2 * i1)) :: _) _
    refine g_astore_n (lv := [(3, .ref (qb E + (15 + 3 + 2 * i1))), (0, .ref (qb E + 0)), (1, .int a1), (2, .int a2)]) e_Qu_weigh_11 rfl (by decide) rfl ?_
    refine g_aload_n 0 e_Qu_weigh_12 rfl rfl ?_
    refine g_ifnonnull 18 e_Qu_weigh_13 (by decide) ?_
    refine g_iload_n 3 e_Qu_weigh_18 rfl rfl ?_
    refine g_iconst (v := 0) e_Qu_weigh_19 (by decide) ?_
    refine g_bipush (v := 20) e_Qu_weigh_20 (by decide) ?_
    refine w_callSI (w := w1) (As := [.int a2, .int 0, .int 20]) (rest := []) e_Qu_weigh_22 ok_Qu_within rfl km_Qu_60 ks_Qu_within rfl (Nat.le_of_ble_eq_true rfl) h (fun w2 x2 hw2 h => ?_)
    refine g_if_ne 31 e_Qu_weigh_25 (by decide) ⟨fun z3 => ?_, fun z3 => ?_⟩
    · have h := h.1 z3
      refine g_aload_n 0 e_Qu_weigh_31 rfl rfl ?_
      refine gf_Qu_87 rfl e_Qu_weigh_32 hw2 (lay_Th (isTh_of (isPan_Wh isWh5) hi1)) (lt_Th (isTh_of (isPan_Wh isWh5) hi1)) ?_
      refine g_istore (lv := [(4, .int (qi w2 (15 + 3 + 2 * i1) 3)), (3, .ref (qb E + (15 + 3 + 2 * i1))), (0, .ref (qb E + 0)), (1, .int a1), (2, .int a2)]) e_Qu_weigh_35 (by decide) rfl ?_
      refine g_aload_n 1 e_Qu_weigh_37 rfl rfl ?_
      refine g_iload_n 4 e_Qu_weigh_38 rfl rfl ?_
      refine pf_Qu_87 rfl e_Qu_weigh_39 hw2 (lay_Th (isTh_of (isPan_Wh isWh5) hi1)) (lt_Th (isTh_of (isPan_Wh isWh5) hi1)) ?_
      refine g_iload 0 e_Qu_weigh_42 rfl ?_
      exact g_iret e_Qu_weigh_44 rfl ⟨Sh.n hw2, _, rfl, hw2, h⟩
    · have h := h.2 z3
      refine g_bipush (v := (-2)) e_Qu_weigh_28 (by decide) ?_
      exact g_iret e_Qu_weigh_30 rfl ⟨Sh.n hw2, _, rfl, hw2, h⟩
theorem en_Qu_weigh {d : Nat} {E : qE} {Q : qW → Int32 → Prop} {a1 : Int32} {a2 : Int32} {w : qW} (hw : Sh w) (h : c_Qu_weigh_0 d E Q a1 a2 w) : CaI (d + 1) M_Qu_weigh [.ref (qb E + 0), .int a1, .int a2] E w Q := Ca.into hw rfl (Nat.le_of_ble_eq_true rfl) h
def c_Qu_fire_0 (d : Nat) (E : qE) (Q : qW → Int32 → Prop) (a1 : Int32) (w : qW) : Prop := Go (d + 1) M_Qu_fire E 161 161 (qFI Q) 0 [(0, .ref (qb E + 0)), (1, .int a1)] [] w
set_option maxHeartbeats 4000000 in
set_option maxRecDepth 8000 in
theorem s_Qu_fire_0 {d : Nat} {E : qE} {Q : qW → Int32 → Prop} {a1 : Int32} {w : qW} (hw : Sh w) (h : CaI d M_Qu_within [.int a1, .int 0, .int 9] E w (fun w1 x1 => ((¬ x1 = 0) → (Q (qpi w1 15 2 a1) (qi w1 15 2))) ∧ ((x1 = 0) → (Q w1 (-2))))) : c_Qu_fire_0 d E Q a1 w := by
  unfold c_Qu_fire_0
  refine g_iload_n 1 e_Qu_fire_0 rfl rfl ?_
  refine g_iconst (v := 0) e_Qu_fire_1 (by decide) ?_
  refine g_bipush (v := 9) e_Qu_fire_2 (by decide) ?_
  refine w_callSI (w := w) (As := [.int a1, .int 0, .int 9]) (rest := []) e_Qu_fire_4 ok_Qu_within rfl km_Qu_60 ks_Qu_within rfl (Nat.le_of_ble_eq_true rfl) h (fun w1 x1 hw1 h => ?_)
  refine g_if_ne 13 e_Qu_fire_7 (by decide) ⟨fun z2 => ?_, fun z2 => ?_⟩
  · have h := h.1 z2
    refine g_aload_n 0 e_Qu_fire_13 rfl rfl ?_
    refine gf_Qu_17 rfl e_Qu_fire_14 hw1 lay_0 (by decide) (sh_Qu_now hw1) ?_
    refine gf_Qu_64 rfl e_Qu_fire_17 hw1 (lay_Wh isWh5) (lt_Wh isWh5) (sh_Wh_pan hw1 isWh5) ?_
    refine gf_Qu_120 rfl e_Qu_fire_20 hw1 (lay_Pa (isPan_Wh isWh5)) (lt_Pa (isPan_Wh isWh5)) ?_
    refine g_istore_n (lv := [(2, .int (qi w1 15 2)), (0, .ref (qb E + 0)), (1, .int a1)]) e_Qu_fire_23 rfl (by decide) rfl ?_
    refine g_aload_n 1 e_Qu_fire_24 rfl rfl ?_
    refine gf_Qu_17 rfl e_Qu_fire_25 hw1 lay_0 (by decide) (sh_Qu_now hw1) ?_
    refine gf_Qu_64 rfl e_Qu_fire_28 hw1 (lay_Wh isWh5) (lt_Wh isWh5) (sh_Wh_pan hw1 isWh5) ?_
    refine g_iload_n 2 e_Qu_fire_31 rfl rfl ?_
    refine pf_Qu_120 rfl e_Qu_fire_32 hw1 (lay_Pa (isPan_Wh isWh5)) (lt_Pa (isPan_Wh isWh5)) ?_
    refine g_iload_n 0 e_Qu_fire_35 rfl rfl ?_
    exact g_iret e_Qu_fire_36 rfl ⟨Sh.n hw1, _, rfl, hw1, h⟩
  · have h := h.2 z2
    refine g_bipush (v := (-2)) e_Qu_fire_10 (by decide) ?_
    exact g_iret e_Qu_fire_12 rfl ⟨Sh.n hw1, _, rfl, hw1, h⟩
theorem en_Qu_fire {d : Nat} {E : qE} {Q : qW → Int32 → Prop} {a1 : Int32} {w : qW} (hw : Sh w) (h : c_Qu_fire_0 d E Q a1 w) : CaI (d + 1) M_Qu_fire [.ref (qb E + 0), .int a1] E w Q := Ca.into hw rfl (Nat.le_of_ble_eq_true rfl) h
def c_Qu_tip_0 (d : Nat) (E : qE) (Q : qW → Int32 → Prop) (w : qW) : Prop := Go (d + 2) M_Qu_tip E 161 161 (qFI Q) 0 [(0, .ref (qb E + 0))] [] w
set_option maxHeartbeats 4000000 in
set_option maxRecDepth 8000 in
theorem s_Qu_tip_0 {d : Nat} {E : qE} {Q : qW → Int32 → Prop} {w : qW} (hw : Sh w) (h : CaI (d + 1) M_Pa_howMany [.ref (qb E + 15), .int 1] E w (fun w1 x1 => CaV (d + 1) M_Pa_tipOut [.ref (qb E + 15)] E w1 (fun w2 => Q w2 x1))) : c_Qu_tip_0 d E Q  w := by
  unfold c_Qu_tip_0
  refine g_aload_n 0 e_Qu_tip_0 rfl rfl ?_
  refine gf_Qu_17 rfl e_Qu_tip_1 hw lay_0 (by decide) (sh_Qu_now hw) ?_
  refine gf_Qu_64 rfl e_Qu_tip_4 hw (lay_Wh isWh5) (lt_Wh isWh5) (sh_Wh_pan hw isWh5) ?_
  refine g_iconst (v := 1) e_Qu_tip_7 (by decide) ?_
  refine w_callVI (w := w) (As := [.int 1]) (rest := []) e_Qu_tip_8 ok_Pa_howMany rfl km_Qu_110 kx_Pa_howMany kv_Pa_howMany rfl (by decide) hw (lay_Pa (isPan_Wh isWh5)) (lt_Pa (isPan_Wh isWh5)) rfl (Nat.le_of_ble_eq_true rfl) h (fun w1 x1 hw1 h => ?_)
  refine g_istore_n (lv := [(1, .int x1), (0, .ref (qb E + 0))]) e_Qu_tip_11 rfl (by decide) rfl ?_
  refine g_aload_n 1 e_Qu_tip_12 rfl rfl ?_
  refine gf_Qu_17 rfl e_Qu_tip_13 hw1 lay_0 (by decide) (sh_Qu_now hw1) ?_
  refine gf_Qu_64 rfl e_Qu_tip_16 hw1 (lay_Wh isWh5) (lt_Wh isWh5) (sh_Wh_pan hw1 isWh5) ?_
  refine w_callVV (w := w1) (As := []) (rest := []) e_Qu_tip_19 ok_Pa_tipOut rfl km_Qu_123 kx_Pa_tipOut kv_Pa_tipOut rfl (by decide) hw1 (lay_Pa (isPan_Wh isWh5)) (lt_Pa (isPan_Wh isWh5)) rfl (Nat.le_of_ble_eq_true rfl) h (fun w2 hw2 h => ?_)
  refine g_iload_n 0 e_Qu_tip_22 rfl rfl ?_
  exact g_iret e_Qu_tip_23 rfl ⟨Sh.n hw2, _, rfl, hw2, h⟩
theorem en_Qu_tip {d : Nat} {E : qE} {Q : qW → Int32 → Prop} {w : qW} (hw : Sh w) (h : c_Qu_tip_0 d E Q  w) : CaI (d + 2) M_Qu_tip [.ref (qb E + 0)] E w Q := Ca.into hw rfl (Nat.le_of_ble_eq_true rfl) h
def c_Qu_row_0 (d : Nat) (E : qE) (Q : qW → Int32 → Prop) (a1 : Int32) (a2 : Int32) (a3 : Int32) (w : qW) : Prop := Go (d + 1) M_Qu_row E 161 161 (qFI Q) 0 [(0, .ref (qb E + 0)), (1, .int a1), (2, .int a2), (3, .int a3)] [] w
set_option maxHeartbeats 4000000 in
set_option maxRecDepth 8000 in
theorem s_Qu_row_0 {d : Nat} {E : qE} {Q : qW → Int32 → Prop} {a1 : Int32} {a2 : Int32} {a3 : Int32} {w : qW} (hw : Sh w) (h : CaR d M_Pa_find [.ref (qb E + 15), .int a1] E w (fun w1 x1 => (x1 = none ∧ (Q w1 (-1))) ∨ (∃ i1, i1 < 6 ∧ x1 = some (15 + 3 + 2 * i1) ∧ (CaI d M_Qu_within [.int a2, .int 0, .int 3] E w1 (fun w2 x2 => ((¬ x2 = 0) → (CaI d M_Qu_within [.int a3, .int 0, .int 9] E w2 (fun w4 x4 => ((¬ x4 = 0) → ((((qi w4 (15 + 3 + 2 * i1) 1) = 6) → (vp_in a2 4 ∧ (vp_in a2 4 ∧ (Q (qpi w4 ((15 + 3 + 2 * i1) + 1) ((a2).toNatClampNeg) a3) (qi w4 ((15 + 3 + 2 * i1) + 1) ((a2).toNatClampNeg)))))) ∧ ((¬ (qi w4 (15 + 3 + 2 * i1) 1) = 6) → (Q w4 (-3))))) ∧ ((x4 = 0) → (Q w4 (-2)))))) ∧ ((x2 = 0) → (Q w2 (-1)))))))) : c_Qu_row_0 d E Q a1 a2 a3 w := by
  unfold c_Qu_row_0
  refine g_aload_n 0 e_Qu_row_0 rfl rfl ?_
  refine gf_Qu_17 rfl e_Qu_row_1 hw lay_0 (by decide) (sh_Qu_now hw) ?_
  refine gf_Qu_64 rfl e_Qu_row_4 hw (lay_Wh isWh5) (lt_Wh isWh5) (sh_Wh_pan hw isWh5) ?_
  refine g_iload_n 1 e_Qu_row_7 rfl rfl ?_
  refine w_callVR (w := w) (As := [.int a1]) (rest := []) e_Qu_row_8 ok_Pa_find rfl km_Qu_74 kx_Pa_find kv_Pa_find rfl (by decide) hw (lay_Pa (isPan_Wh isWh5)) (lt_Pa (isPan_Wh isWh5)) rfl (Nat.le_of_ble_eq_true rfl) h (fun w1 x1 hw1 h => ?_)
  obtain ⟨rfl, h⟩ | ⟨i1, hi1, rfl, h⟩ := h
  · change Go _ _ _ _ _ _ _ _ (.null :: _) _
    refine g_astoreN (lv := [(4, .null), (0, .ref (qb E + 0)), (1, .int a1), (2, .int a2), (3, .int a3)]) e_Qu_row_11 (by decide) rfl ?_
    refine g_aloadN 0 e_Qu_row_13 rfl ?_
    refine g_ifnullN 27 e_Qu_row_15 (by decide) ?_
    refine g_iconst (v := (-1)) e_Qu_row_27 (by decide) ?_
    exact g_iret e_Qu_row_28 rfl ⟨Sh.n hw1, _, rfl, hw1, h⟩
  · change Go _ _ _ _ _ _ _ _ (.ref (qb E + (15 + 3 + 2 * i1)) :: _) _
    refine g_astore (lv := [(4, .ref (qb E + (15 + 3 + 2 * i1))), (0, .ref (qb E + 0)), (1, .int a1), (2, .int a2), (3, .int a3)]) e_Qu_row_11 (by decide) rfl ?_
    refine g_aload 0 e_Qu_row_13 rfl ?_
    refine g_ifnull e_Qu_row_15 ?_
    refine g_iload_n 3 e_Qu_row_18 rfl rfl ?_
    refine g_iconst (v := 0) e_Qu_row_19 (by decide) ?_
    refine g_iconst (v := 3) e_Qu_row_20 (by decide) ?_
    refine w_callSI (w := w1) (As := [.int a2, .int 0, .int 3]) (rest := []) e_Qu_row_21 ok_Qu_within rfl km_Qu_60 ks_Qu_within rfl (Nat.le_of_ble_eq_true rfl) h (fun w2 x2 hw2 h => ?_)
    refine g_if_ne 29 e_Qu_row_24 (by decide) ⟨fun z3 => ?_, fun z3 => ?_⟩
    · have h := h.1 z3
      refine g_iload_n 4 e_Qu_row_29 rfl rfl ?_
      refine g_iconst (v := 0) e_Qu_row_30 (by decide) ?_
      refine g_bipush (v := 9) e_Qu_row_31 (by decide) ?_
      refine w_callSI (w := w2) (As := [.int a3, .int 0, .int 9]) (rest := []) e_Qu_row_33 ok_Qu_within rfl km_Qu_60 ks_Qu_within rfl (Nat.le_of_ble_eq_true rfl) h (fun w4 x4 hw4 h => ?_)
      refine g_if_ne 42 e_Qu_row_36 (by decide) ⟨fun z5 => ?_, fun z5 => ?_⟩
      · have h := h.1 z5
        refine g_aload 0 e_Qu_row_42 rfl ?_
        refine gf_Qu_78 rfl e_Qu_row_44 hw4 (lay_Th (isTh_of (isPan_Wh isWh5) hi1)) (lt_Th (isTh_of (isPan_Wh isWh5) hi1)) ?_
        refine g_bipush (v := 6) e_Qu_row_47 (by decide) ?_
        refine g_icmp_eq 55 e_Qu_row_49 (by decide) ⟨fun z6 => ?_, fun z6 => ?_⟩
        · have h := h.1 z6
          refine g_aload 0 e_Qu_row_55 rfl ?_
          refine gf_Qu_126 rfl e_Qu_row_57 hw4 (lay_Th (isTh_of (isPan_Wh isWh5) hi1)) (lt_Th (isTh_of (isPan_Wh isWh5) hi1)) (sh_Row hw4 (isTh_of (isPan_Wh isWh5) hi1)) ?_
          refine g_iload_n 3 e_Qu_row_60 rfl rfl ?_
          obtain ⟨o7, h⟩ := h
          refine w_iaload ((a2).toNatClampNeg) e_Qu_row_61 hw4 (lay_Row (isTh_of (isPan_Wh isWh5) hi1)) (lt_Row (isTh_of (isPan_Wh isWh5) hi1)) o7 rfl ?_
          refine g_istore (lv := [(5, .int (qi w4 ((15 + 3 + 2 * i1) + 1) ((a2).toNatClampNeg))), (4, .ref (qb E + (15 + 3 + 2 * i1))), (0, .ref (qb E + 0)), (1, .int a1), (2, .int a2), (3, .int a3)]) e_Qu_row_62 (by decide) rfl ?_
          refine g_aload 1 e_Qu_row_64 rfl ?_
          refine gf_Qu_126 rfl e_Qu_row_66 hw4 (lay_Th (isTh_of (isPan_Wh isWh5) hi1)) (lt_Th (isTh_of (isPan_Wh isWh5) hi1)) (sh_Row hw4 (isTh_of (isPan_Wh isWh5) hi1)) ?_
          refine g_iload_n 4 e_Qu_row_69 rfl rfl ?_
          refine g_iload_n 5 e_Qu_row_70 rfl rfl ?_
          obtain ⟨o8, h⟩ := h
          refine w_iastore ((a2).toNatClampNeg) e_Qu_row_71 hw4 (lay_Row (isTh_of (isPan_Wh isWh5) hi1)) (lt_Row (isTh_of (isPan_Wh isWh5) hi1)) o8 rfl ?_
          refine g_iload 0 e_Qu_row_72 rfl ?_
          exact g_iret e_Qu_row_74 rfl ⟨Sh.n hw4, _, rfl, hw4, h⟩
        · have h := h.2 z6
          refine g_bipush (v := (-3)) e_Qu_row_52 (by decide) ?_
          exact g_iret e_Qu_row_54 rfl ⟨Sh.n hw4, _, rfl, hw4, h⟩
      · have h := h.2 z5
        refine g_bipush (v := (-2)) e_Qu_row_39 (by decide) ?_
        exact g_iret e_Qu_row_41 rfl ⟨Sh.n hw4, _, rfl, hw4, h⟩
    · have h := h.2 z3
      refine g_iconst (v := (-1)) e_Qu_row_27 (by decide) ?_
      exact g_iret e_Qu_row_28 rfl ⟨Sh.n hw2, _, rfl, hw2, h⟩
theorem en_Qu_row {d : Nat} {E : qE} {Q : qW → Int32 → Prop} {a1 : Int32} {a2 : Int32} {a3 : Int32} {w : qW} (hw : Sh w) (h : c_Qu_row_0 d E Q a1 a2 a3 w) : CaI (d + 1) M_Qu_row [.ref (qb E + 0), .int a1, .int a2, .int a3] E w Q := Ca.into hw rfl (Nat.le_of_ble_eq_true rfl) h
def c_Qu_feed_0 (d : Nat) (E : qE) (Q : qW → Int32 → Prop) (a1 : Int32) (w : qW) : Prop := Go (d + 1) M_Qu_feed E 161 161 (qFI Q) 0 [(0, .ref (qb E + 0)), (1, .int a1)] [] w
set_option maxHeartbeats 4000000 in
set_option maxRecDepth 8000 in
theorem s_Qu_feed_0 {d : Nat} {E : qE} {Q : qW → Int32 → Prop} {a1 : Int32} {w : qW} (hw : Sh w) (h : CaI d M_Qu_within [.int a1, .int 0, .int 127] E w (fun w1 x1 => ((¬ x1 = 0) → (CaI d M_Re_addSign [.ref (qb E + 73), .int a1] E w1 (fun w3 x3 => Q w3 x3))) ∧ ((x1 = 0) → (Q w1 (-2))))) : c_Qu_feed_0 d E Q a1 w := by
  unfold c_Qu_feed_0
  refine g_iload_n 1 e_Qu_feed_0 rfl rfl ?_
  refine g_iconst (v := 0) e_Qu_feed_1 (by decide) ?_
  refine g_bipush (v := 127) e_Qu_feed_2 (by decide) ?_
  refine w_callSI (w := w) (As := [.int a1, .int 0, .int 127]) (rest := []) e_Qu_feed_4 ok_Qu_within rfl km_Qu_60 ks_Qu_within rfl (Nat.le_of_ble_eq_true rfl) h (fun w1 x1 hw1 h => ?_)
  refine g_if_ne 13 e_Qu_feed_7 (by decide) ⟨fun z2 => ?_, fun z2 => ?_⟩
  · have h := h.1 z2
    refine g_aload_n 0 e_Qu_feed_13 rfl rfl ?_
    refine gf_Qu_38 rfl e_Qu_feed_14 hw1 lay_0 (by decide) (sh_Qu_text hw1) ?_
    refine g_iload_n 1 e_Qu_feed_17 rfl rfl ?_
    refine w_callVI (w := w1) (As := [.int a1]) (rest := []) e_Qu_feed_18 ok_Re_addSign rfl km_Qu_130 kx_Re_addSign kv_Re_addSign rfl (by decide) hw1 lay_73 (by decide) rfl (Nat.le_of_ble_eq_true rfl) h (fun w3 x3 hw3 h => ?_)
    exact g_iret e_Qu_feed_21 rfl ⟨Sh.n hw3, _, rfl, hw3, h⟩
  · have h := h.2 z2
    refine g_bipush (v := (-2)) e_Qu_feed_10 (by decide) ?_
    exact g_iret e_Qu_feed_12 rfl ⟨Sh.n hw1, _, rfl, hw1, h⟩
theorem en_Qu_feed {d : Nat} {E : qE} {Q : qW → Int32 → Prop} {a1 : Int32} {w : qW} (hw : Sh w) (h : c_Qu_feed_0 d E Q a1 w) : CaI (d + 1) M_Qu_feed [.ref (qb E + 0), .int a1] E w Q := Ca.into hw rfl (Nat.le_of_ble_eq_true rfl) h
def c_Qu_kitchen_0 (d : Nat) (E : qE) (Q : qW → Int32 → Prop) (w : qW) : Prop := Go (d + 43) M_Qu_kitchen E 161 161 (qFI Q) 0 [(0, .ref (qb E + 0))] [] w
set_option maxHeartbeats 4000000 in
set_option maxRecDepth 8000 in
theorem s_Qu_kitchen_0 {d : Nat} {E : qE} {Q : qW → Int32 → Prop} {w : qW} (hw : Sh w) (h : (((qi w 0 6) < 0) → (Q w (-4))) ∧ ((¬ (qi w 0 6) < 0) → ((((qi w 0 6) < 6) → (vp_in (qi w 0 6) 6 ∧ (CaI (d + 42) M_Re_readInto [.ref (qb E + 73), .ref (qb E + (76 + 4 * ((qi w 0 6).toNatClampNeg)))] E w (fun w4 x4 => CaV (d + 42) M_Re_empty [.ref (qb E + 73)] E w4 (fun w5 => ((x4 < 0) → (Q (qpi (qpr w5 15 6 ((76 + 4 * ((qi w 0 6).toNatClampNeg)) + 1)) 0 6 ((qi (qpr w5 15 6 ((76 + 4 * ((qi w 0 6).toNatClampNeg)) + 1)) 0 6) + 1)) ((qi (qpi (qpr w5 15 6 ((76 + 4 * ((qi w 0 6).toNatClampNeg)) + 1)) 0 6 ((qi (qpr w5 15 6 ((76 + 4 * ((qi w 0 6).toNatClampNeg)) + 1)) 0 6) + 1)) 0 6) - 1))) ∧ ((¬ x4 < 0) → (Q w5 ((-10) - x4)))))))) ∧ ((¬ (qi w 0 6) < 6) → (Q w (-4)))))) : c_Qu_kitchen_0 d E Q  w := by
  unfold c_Qu_kitchen_0
  refine g_aload_n 0 e_Qu_kitchen_0 rfl rfl ?_
  refine gf_Qu_133 rfl e_Qu_kitchen_1 hw lay_0 (by decide) ?_
  refine g_if_lt 16 e_Qu_kitchen_4 (by decide) ⟨fun z1 => ?_, fun z1 => ?_⟩
  · have h := h.1 z1
    refine g_bipush (v := (-4)) e_Qu_kitchen_16 (by decide) ?_
    exact g_iret e_Qu_kitchen_18 rfl ⟨Sh.n hw, _, rfl, hw, h⟩
  · have h := h.2 z1
    refine g_aload_n 0 e_Qu_kitchen_7 rfl rfl ?_
    refine gf_Qu_133 rfl e_Qu_kitchen_8 hw lay_0 (by decide) ?_
    refine g_bipush (v := 6) e_Qu_kitchen_11 (by decide) ?_
    refine g_icmp_lt 19 e_Qu_kitchen_13 (by decide) ⟨fun z2 => ?_, fun z2 => ?_⟩
    · have h := h.1 z2
      refine g_aload_n 0 e_Qu_kitchen_19 rfl rfl ?_
      refine gf_Qu_42 rfl e_Qu_kitchen_20 hw lay_0 (by decide) (sh_Qu_kitchens hw) ?_
      refine g_aload_n 0 e_Qu_kitchen_23 rfl rfl ?_
      refine gf_Qu_133 rfl e_Qu_kitchen_24 hw lay_0 (by decide) ?_
      obtain ⟨o3, h⟩ := h
      refine w_aaload e_Qu_kitchen_27 hw lay_75 (Or.inr (Or.inl rfl)) (by decide) o3 (sh_Kits hw o3) ?_
      refine g_astore_n (lv := [(1, .ref (qb E + (76 + 4 * ((qi w 0 6).toNatClampNeg)))), (0, .ref (qb E + 0))]) e_Qu_kitchen_28 rfl (by decide) rfl ?_
      refine g_aload_n 1 e_Qu_kitchen_29 rfl rfl ?_
      refine gf_Qu_38 rfl e_Qu_kitchen_30 hw lay_0 (by decide) (sh_Qu_text hw) ?_
      refine g_aload_n 0 e_Qu_kitchen_33 rfl rfl ?_
      refine w_callVI (w := w) (As := [.ref (qb E + (76 + 4 * ((qi w 0 6).toNatClampNeg)))]) (rest := []) e_Qu_kitchen_34 ok_Re_readInto rfl km_Qu_136 kx_Re_readInto kv_Re_readInto rfl (by decide) hw lay_73 (by decide) rfl (Nat.le_of_ble_eq_true rfl) h (fun w4 x4 hw4 h => ?_)
      refine g_istore_n (lv := [(2, .int x4), (1, .ref (qb E + (76 + 4 * ((qi w 0 6).toNatClampNeg)))), (0, .ref (qb E + 0))]) e_Qu_kitchen_37 rfl (by decide) rfl ?_
      refine g_aload_n 2 e_Qu_kitchen_38 rfl rfl ?_
      refine gf_Qu_38 rfl e_Qu_kitchen_39 hw4 lay_0 (by decide) (sh_Qu_text hw4) ?_
      refine w_callVV (w := w4) (As := []) (rest := []) e_Qu_kitchen_42 ok_Re_empty rfl km_Qu_140 kx_Re_empty kv_Re_empty rfl (by decide) hw4 lay_73 (by decide) rfl (Nat.le_of_ble_eq_true rfl) h (fun w5 hw5 h => ?_)
      refine g_iload_n 0 e_Qu_kitchen_45 rfl rfl ?_
      refine g_if_lt 54 e_Qu_kitchen_46 (by decide) ⟨fun z6 => ?_, fun z6 => ?_⟩
      · have h := h.1 z6
        refine g_aload_n 2 e_Qu_kitchen_54 rfl rfl ?_
        refine gf_Qu_17 rfl e_Qu_kitchen_55 hw5 lay_0 (by decide) (sh_Qu_now hw5) ?_
        refine gf_Qu_64 rfl e_Qu_kitchen_58 hw5 (lay_Wh isWh5) (lt_Wh isWh5) (sh_Wh_pan hw5 isWh5) ?_
        refine g_aload_n 1 e_Qu_kitchen_61 rfl rfl ?_
        refine pf_Qu_143 rfl e_Qu_kitchen_62 hw5 (lay_Pa (isPan_Wh isWh5)) (lt_Pa (isPan_Wh isWh5)) ?_
        refine g_aload_n 2 e_Qu_kitchen_65 rfl rfl ?_
        refine g_dup e_Qu_kitchen_66 rfl ?_
        refine gf_Qu_133 rfl e_Qu_kitchen_67 (Sh.pr (sh_Pk hw5 (isPan_Wh isWh5)) hw5) lay_0 (by decide) ?_
        refine g_iconst (v := 1) e_Qu_kitchen_70 (by decide) ?_
        refine g_iadd e_Qu_kitchen_71 ?_
        refine pf_Qu_133 rfl e_Qu_kitchen_72 (Sh.pr (sh_Pk hw5 (isPan_Wh isWh5)) hw5) lay_0 (by decide) ?_
        refine g_aload_n 2 e_Qu_kitchen_75 rfl rfl ?_
        refine gf_Qu_133 rfl e_Qu_kitchen_76 (Sh.pr (sh_Pk hw5 (isPan_Wh isWh5)) hw5) lay_0 (by decide) ?_
        refine g_iconst (v := 1) e_Qu_kitchen_79 (by decide) ?_
        refine g_isub e_Qu_kitchen_80 ?_
        exact g_iret e_Qu_kitchen_81 rfl ⟨Sh.n (Sh.pr (sh_Pk hw5 (isPan_Wh isWh5)) hw5), _, rfl, (Sh.pr (sh_Pk hw5 (isPan_Wh isWh5)) hw5), h⟩
      · have h := h.2 z6
        refine g_bipush (v := (-10)) e_Qu_kitchen_49 (by decide) ?_
        refine g_iload_n 0 e_Qu_kitchen_51 rfl rfl ?_
        refine g_isub e_Qu_kitchen_52 ?_
        exact g_iret e_Qu_kitchen_53 rfl ⟨Sh.n hw5, _, rfl, hw5, h⟩
    · have h := h.2 z2
      refine g_bipush (v := (-4)) e_Qu_kitchen_16 (by decide) ?_
      exact g_iret e_Qu_kitchen_18 rfl ⟨Sh.n hw, _, rfl, hw, h⟩
theorem en_Qu_kitchen {d : Nat} {E : qE} {Q : qW → Int32 → Prop} {w : qW} (hw : Sh w) (h : c_Qu_kitchen_0 d E Q  w) : CaI (d + 43) M_Qu_kitchen [.ref (qb E + 0)] E w Q := Ca.into hw rfl (Nat.le_of_ble_eq_true rfl) h
def c_Qu_told_0 (d : Nat) (E : qE) (Q : qW → Int32 → Prop) (a1 : Int32) (w : qW) : Prop := Go (d + 6) M_Qu_told E 161 161 (qFI Q) 0 [(0, .ref (qb E + 0)), (1, .int a1)] [] w
set_option maxHeartbeats 4000000 in
set_option maxRecDepth 8000 in
theorem s_Qu_told_0 {d : Nat} {E : qE} {Q : qW → Int32 → Prop} {a1 : Int32} {w : qW} (hw : Sh w) (h : (a1 = 0 → (Q w (qi w 15 5))) ∧ (a1 = 1 → (∃ K2, isKi K2 ∧ qr w 15 6 = K2 + 1 ∧ (Q w (qi w K2 4)))) ∧ (a1 = 2 → (Q w (qi w 15 2))) ∧ (a1 = 3 → (Q w (qi w 15 3))) ∧ (a1 = 4 → ((((qz (qi w 15 4)) = 0) → (Q w 0)) ∧ ((¬ (qz (qi w 15 4)) = 0) → (Q w 1)))) ∧ (a1 = 5 → (CaI (d + 5) M_Pa_bitsOf [.ref (qb E + 15), .int 1] E w (fun w4 x4 => Q w4 x4))) ∧ (a1 = 6 → (CaI (d + 5) M_Pa_bitsOf [.ref (qb E + 15), .int 2] E w (fun w5 x5 => Q w5 x5))) ∧ (a1 = 7 → (CaI (d + 5) M_As_sets [.ref (qb E + 55)] E w (fun w6 x6 => Q w6 x6))) ∧ (a1 = 8 → (CaI (d + 5) M_As_word [.ref (qb E + 55)] E w (fun w7 x7 => Q w7 x7))) ∧ (a1 = 9 → (CaI (d + 5) M_Pa_together [.ref (qb E + 15)] E w (fun w8 x8 => Q w8 x8))) ∧ ((a1.toInt < 0 ∨ 9 < a1.toInt) → (Q w (-10001)))) : c_Qu_told_0 d E Q a1 w := by
  unfold c_Qu_told_0
  refine g_aload_n 0 e_Qu_told_0 rfl rfl ?_
  refine gf_Qu_17 rfl e_Qu_told_1 hw lay_0 (by decide) (sh_Qu_now hw) ?_
  refine gf_Qu_64 rfl e_Qu_told_4 hw (lay_Wh isWh5) (lt_Wh isWh5) (sh_Wh_pan hw isWh5) ?_
  refine g_astore_n (lv := [(2, .ref (qb E + 15)), (0, .ref (qb E + 0)), (1, .int a1)]) e_Qu_told_7 rfl (by decide) rfl ?_
  refine g_iload_n 2 e_Qu_told_8 rfl rfl ?_
  refine g_table e_Qu_told_9 10 (by decide) [64, 69, 77, 82, 87, 100, 106, 112, 120, 128] 133 (by decide) (by decide +kernel) ⟨fun j1 hj1 hx1 => ?_, fun hx1 => ?_⟩
  · rcases (show j1 = 0 ∨ j1 = 1 ∨ j1 = 2 ∨ j1 = 3 ∨ j1 = 4 ∨ j1 = 5 ∨ j1 = 6 ∨ j1 = 7 ∨ j1 = 8 ∨ j1 = 9 by omega) with rfl | rfl | rfl | rfl | rfl | rfl | rfl | rfl | rfl | rfl
    · have h := h.1 (q_key hx1 (by decide))
      change Go _ _ _ _ _ _ 64 _ _ _
      refine g_aload_n 0 e_Qu_told_64 rfl rfl ?_
      refine gf_Qu_147 rfl e_Qu_told_65 hw (lay_Pa (isPan_Wh isWh5)) (lt_Pa (isPan_Wh isWh5)) ?_
      exact g_iret e_Qu_told_68 rfl ⟨Sh.n hw, _, rfl, hw, h⟩
    · have h := h.2.1 (q_key hx1 (by decide))
      change Go _ _ _ _ _ _ 69 _ _ _
      refine g_aload_n 0 e_Qu_told_69 rfl rfl ?_
      obtain ⟨K2, hK2, hr2, h⟩ := h
      refine gf_Qu_143 rfl e_Qu_told_70 hw (lay_Pa (isPan_Wh isWh5)) (lt_Pa (isPan_Wh isWh5)) hr2 ?_
      refine gf_Qu_150 rfl e_Qu_told_73 hw (lay_Ki hK2) (lt_Ki hK2) ?_
      exact g_iret e_Qu_told_76 rfl ⟨Sh.n hw, _, rfl, hw, h⟩
    · have h := h.2.2.1 (q_key hx1 (by decide))
      change Go _ _ _ _ _ _ 77 _ _ _
      refine g_aload_n 0 e_Qu_told_77 rfl rfl ?_
      refine gf_Qu_120 rfl e_Qu_told_78 hw (lay_Pa (isPan_Wh isWh5)) (lt_Pa (isPan_Wh isWh5)) ?_
      exact g_iret e_Qu_told_81 rfl ⟨Sh.n hw, _, rfl, hw, h⟩
    · have h := h.2.2.2.1 (q_key hx1 (by decide))
      change Go _ _ _ _ _ _ 82 _ _ _
      refine g_aload_n 0 e_Qu_told_82 rfl rfl ?_
      refine gf_Qu_117 rfl e_Qu_told_83 hw (lay_Pa (isPan_Wh isWh5)) (lt_Pa (isPan_Wh isWh5)) ?_
      exact g_iret e_Qu_told_86 rfl ⟨Sh.n hw, _, rfl, hw, h⟩
    · have h := h.2.2.2.2.1 (q_key hx1 (by decide))
      change Go _ _ _ _ _ _ 87 _ _ _
      refine g_aload_n 0 e_Qu_told_87 rfl rfl ?_
      refine gf_Qu_153 rfl e_Qu_told_88 hw (lay_Pa (isPan_Wh isWh5)) (lt_Pa (isPan_Wh isWh5)) ?_
      refine g_if_eq 98 e_Qu_told_91 (by decide) ⟨fun z3 => ?_, fun z3 => ?_⟩
      · have h := h.1 z3
        refine g_iconst (v := 0) e_Qu_told_98 (by decide) ?_
        exact g_iret e_Qu_told_99 rfl ⟨Sh.n hw, _, rfl, hw, h⟩
      · have h := h.2 z3
        refine g_iconst (v := 1) e_Qu_told_94 (by decide) ?_
        refine g_goto 99 e_Qu_told_95 (by decide) ?_
        exact g_iret e_Qu_told_99 rfl ⟨Sh.n hw, _, rfl, hw, h⟩
    · have h := h.2.2.2.2.2.1 (q_key hx1 (by decide))
      change Go _ _ _ _ _ _ 100 _ _ _
      refine g_aload_n 0 e_Qu_told_100 rfl rfl ?_
      refine g_iconst (v := 1) e_Qu_told_101 (by decide) ?_
      refine w_callVI (w := w) (As := [.int 1]) (rest := []) e_Qu_told_102 ok_Pa_bitsOf rfl km_Qu_157 kx_Pa_bitsOf kv_Pa_bitsOf rfl (by decide) hw (lay_Pa (isPan_Wh isWh5)) (lt_Pa (isPan_Wh isWh5)) rfl (Nat.le_of_ble_eq_true rfl) h (fun w4 x4 hw4 h => ?_)
      exact g_iret e_Qu_told_105 rfl ⟨Sh.n hw4, _, rfl, hw4, h⟩
    · have h := h.2.2.2.2.2.2.1 (q_key hx1 (by decide))
      change Go _ _ _ _ _ _ 106 _ _ _
      refine g_aload_n 0 e_Qu_told_106 rfl rfl ?_
      refine g_iconst (v := 2) e_Qu_told_107 (by decide) ?_
      refine w_callVI (w := w) (As := [.int 2]) (rest := []) e_Qu_told_108 ok_Pa_bitsOf rfl km_Qu_157 kx_Pa_bitsOf kv_Pa_bitsOf rfl (by decide) hw (lay_Pa (isPan_Wh isWh5)) (lt_Pa (isPan_Wh isWh5)) rfl (Nat.le_of_ble_eq_true rfl) h (fun w5 x5 hw5 h => ?_)
      exact g_iret e_Qu_told_111 rfl ⟨Sh.n hw5, _, rfl, hw5, h⟩
    · have h := h.2.2.2.2.2.2.2.1 (q_key hx1 (by decide))
      change Go _ _ _ _ _ _ 112 _ _ _
      refine g_aload_n 1 e_Qu_told_112 rfl rfl ?_
      refine gf_Qu_31 rfl e_Qu_told_113 hw lay_0 (by decide) (sh_Qu_asking hw) ?_
      refine w_callVI (w := w) (As := []) (rest := []) e_Qu_told_116 ok_As_sets rfl km_Qu_160 kx_As_sets kv_As_sets rfl (by decide) hw lay_55 (by decide) rfl (Nat.le_of_ble_eq_true rfl) h (fun w6 x6 hw6 h => ?_)
      exact g_iret e_Qu_told_119 rfl ⟨Sh.n hw6, _, rfl, hw6, h⟩
    · have h := h.2.2.2.2.2.2.2.2.1 (q_key hx1 (by decide))
      change Go _ _ _ _ _ _ 120 _ _ _
      refine g_aload_n 1 e_Qu_told_120 rfl rfl ?_
      refine gf_Qu_31 rfl e_Qu_told_121 hw lay_0 (by decide) (sh_Qu_asking hw) ?_
      refine w_callVI (w := w) (As := []) (rest := []) e_Qu_told_124 ok_As_word rfl km_Qu_164 kx_As_word kv_As_word rfl (by decide) hw lay_55 (by decide) rfl (Nat.le_of_ble_eq_true rfl) h (fun w7 x7 hw7 h => ?_)
      exact g_iret e_Qu_told_127 rfl ⟨Sh.n hw7, _, rfl, hw7, h⟩
    · have h := h.2.2.2.2.2.2.2.2.2.1 (q_key hx1 (by decide))
      change Go _ _ _ _ _ _ 128 _ _ _
      refine g_aload_n 0 e_Qu_told_128 rfl rfl ?_
      refine w_callVI (w := w) (As := []) (rest := []) e_Qu_told_129 ok_Pa_together rfl km_Qu_167 kx_Pa_together kv_Pa_together rfl (by decide) hw (lay_Pa (isPan_Wh isWh5)) (lt_Pa (isPan_Wh isWh5)) rfl (Nat.le_of_ble_eq_true rfl) h (fun w8 x8 hw8 h => ?_)
      exact g_iret e_Qu_told_132 rfl ⟨Sh.n hw8, _, rfl, hw8, h⟩
  · have h := h.2.2.2.2.2.2.2.2.2.2 hx1
    refine g_sipush (v := (-10001)) e_Qu_told_133 (by decide) ?_
    exact g_iret e_Qu_told_136 rfl ⟨Sh.n hw, _, rfl, hw, h⟩
theorem en_Qu_told {d : Nat} {E : qE} {Q : qW → Int32 → Prop} {a1 : Int32} {w : qW} (hw : Sh w) (h : c_Qu_told_0 d E Q a1 w) : CaI (d + 6) M_Qu_told [.ref (qb E + 0), .int a1] E w Q := Ca.into hw rfl (Nat.le_of_ble_eq_true rfl) h
def c_Qu_pass_0 (d : Nat) (E : qE) (Q : qW → Int32 → Prop) (a1 : Int32) (w : qW) : Prop := Go (d + 5) M_Qu_pass E 161 161 (qFI Q) 0 [(0, .ref (qb E + 0)), (1, .int a1)] [] w
set_option maxHeartbeats 4000000 in
set_option maxRecDepth 8000 in
theorem s_Qu_pass_0 {d : Nat} {E : qE} {Q : qW → Int32 → Prop} {a1 : Int32} {w : qW} (hw : Sh w) (h : CaI (d + 4) M_Qu_within [.int a1, .int 0, .int 60] E w (fun w1 x1 => ((¬ x1 = 0) → (((((qi w1 15 5) + a1) ≤ 9999) → (CaV (d + 4) M_Pa_goMinutes [.ref (qb E + 15), .int a1] E w1 (fun w4 => Q w4 (qi w4 15 5)))) ∧ ((¬ ((qi w1 15 5) + a1) ≤ 9999) → (Q w1 (-3))))) ∧ ((x1 = 0) → (Q w1 (-2))))) : c_Qu_pass_0 d E Q a1 w := by
  unfold c_Qu_pass_0
  refine g_iload_n 1 e_Qu_pass_0 rfl rfl ?_
  refine g_iconst (v := 0) e_Qu_pass_1 (by decide) ?_
  refine g_bipush (v := 60) e_Qu_pass_2 (by decide) ?_
  refine w_callSI (w := w) (As := [.int a1, .int 0, .int 60]) (rest := []) e_Qu_pass_4 ok_Qu_within rfl km_Qu_60 ks_Qu_within rfl (Nat.le_of_ble_eq_true rfl) h (fun w1 x1 hw1 h => ?_)
  refine g_if_ne 13 e_Qu_pass_7 (by decide) ⟨fun z2 => ?_, fun z2 => ?_⟩
  · have h := h.1 z2
    refine g_aload_n 0 e_Qu_pass_13 rfl rfl ?_
    refine gf_Qu_17 rfl e_Qu_pass_14 hw1 lay_0 (by decide) (sh_Qu_now hw1) ?_
    refine gf_Qu_64 rfl e_Qu_pass_17 hw1 (lay_Wh isWh5) (lt_Wh isWh5) (sh_Wh_pan hw1 isWh5) ?_
    refine gf_Qu_147 rfl e_Qu_pass_20 hw1 (lay_Pa (isPan_Wh isWh5)) (lt_Pa (isPan_Wh isWh5)) ?_
    refine g_iload_n 1 e_Qu_pass_23 rfl rfl ?_
    refine g_iadd e_Qu_pass_24 ?_
    refine g_sipush (v := 9999) e_Qu_pass_25 (by decide) ?_
    refine g_icmp_le 34 e_Qu_pass_28 (by decide) ⟨fun z3 => ?_, fun z3 => ?_⟩
    · have h := h.1 z3
      refine g_aload_n 0 e_Qu_pass_34 rfl rfl ?_
      refine gf_Qu_17 rfl e_Qu_pass_35 hw1 lay_0 (by decide) (sh_Qu_now hw1) ?_
      refine gf_Qu_64 rfl e_Qu_pass_38 hw1 (lay_Wh isWh5) (lt_Wh isWh5) (sh_Wh_pan hw1 isWh5) ?_
      refine g_iload_n 1 e_Qu_pass_41 rfl rfl ?_
      refine w_callVV (w := w1) (As := [.int a1]) (rest := []) e_Qu_pass_42 ok_Pa_goMinutes rfl km_Qu_170 kx_Pa_goMinutes kv_Pa_goMinutes rfl (by decide) hw1 (lay_Pa (isPan_Wh isWh5)) (lt_Pa (isPan_Wh isWh5)) rfl (Nat.le_of_ble_eq_true rfl) h (fun w4 hw4 h => ?_)
      refine g_aload_n 0 e_Qu_pass_45 rfl rfl ?_
      refine gf_Qu_17 rfl e_Qu_pass_46 hw4 lay_0 (by decide) (sh_Qu_now hw4) ?_
      refine gf_Qu_64 rfl e_Qu_pass_49 hw4 (lay_Wh isWh5) (lt_Wh isWh5) (sh_Wh_pan hw4 isWh5) ?_
      refine gf_Qu_147 rfl e_Qu_pass_52 hw4 (lay_Pa (isPan_Wh isWh5)) (lt_Pa (isPan_Wh isWh5)) ?_
      exact g_iret e_Qu_pass_55 rfl ⟨Sh.n hw4, _, rfl, hw4, h⟩
    · have h := h.2 z3
      refine g_bipush (v := (-3)) e_Qu_pass_31 (by decide) ?_
      exact g_iret e_Qu_pass_33 rfl ⟨Sh.n hw1, _, rfl, hw1, h⟩
  · have h := h.2 z2
    refine g_bipush (v := (-2)) e_Qu_pass_10 (by decide) ?_
    exact g_iret e_Qu_pass_12 rfl ⟨Sh.n hw1, _, rfl, hw1, h⟩
theorem en_Qu_pass {d : Nat} {E : qE} {Q : qW → Int32 → Prop} {a1 : Int32} {w : qW} (hw : Sh w) (h : c_Qu_pass_0 d E Q a1 w) : CaI (d + 5) M_Qu_pass [.ref (qb E + 0), .int a1] E w Q := Ca.into hw rfl (Nat.le_of_ble_eq_true rfl) h
def c_Qu_on_0 (d : Nat) (E : qE) (Q : qW → Int32 → Prop) (a1 : Int32) (a2 : Int32) (w : qW) : Prop := Go (d + 6) M_Qu_on E 161 161 (qFI Q) 0 [(0, .ref (qb E + 0)), (1, .int a1), (2, .int a2)] [] w
set_option maxHeartbeats 4000000 in
set_option maxRecDepth 8000 in
theorem s_Qu_on_0 {d : Nat} {E : qE} {Q : qW → Int32 → Prop} {a1 : Int32} {a2 : Int32} {w : qW} (hw : Sh w) (h : CaI (d + 5) M_Qu_within [.int a2, .int 0, .int 1] E w (fun w1 x1 => ((¬ x1 = 0) → (CaI (d + 5) M_Qu_within [.int a1, .int 0, .int 60] E w1 (fun w3 x3 => ((¬ x3 = 0) → (((¬ a2 = 0) → (CaI (d + 5) M_As_behind [.ref (qb E + 55), .int a1, .int 0] E w3 (fun w6 x6 => Q w6 x6))) ∧ ((a2 = 0) → (CaI (d + 5) M_As_behind [.ref (qb E + 55), .int a1, .int 1] E w3 (fun w7 x7 => Q w7 x7))))) ∧ ((x3 = 0) → (Q w3 (-2)))))) ∧ ((x1 = 0) → (Q w1 (-1))))) : c_Qu_on_0 d E Q a1 a2 w := by
  unfold c_Qu_on_0
  refine g_iload_n 2 e_Qu_on_0 rfl rfl ?_
  refine g_iconst (v := 0) e_Qu_on_1 (by decide) ?_
  refine g_iconst (v := 1) e_Qu_on_2 (by decide) ?_
  refine w_callSI (w := w) (As := [.int a2, .int 0, .int 1]) (rest := []) e_Qu_on_3 ok_Qu_within rfl km_Qu_60 ks_Qu_within rfl (Nat.le_of_ble_eq_true rfl) h (fun w1 x1 hw1 h => ?_)
  refine g_if_ne 11 e_Qu_on_6 (by decide) ⟨fun z2 => ?_, fun z2 => ?_⟩
  · have h := h.1 z2
    refine g_iload_n 1 e_Qu_on_11 rfl rfl ?_
    refine g_iconst (v := 0) e_Qu_on_12 (by decide) ?_
    refine g_bipush (v := 60) e_Qu_on_13 (by decide) ?_
    refine w_callSI (w := w1) (As := [.int a1, .int 0, .int 60]) (rest := []) e_Qu_on_15 ok_Qu_within rfl km_Qu_60 ks_Qu_within rfl (Nat.le_of_ble_eq_true rfl) h (fun w3 x3 hw3 h => ?_)
    refine g_if_ne 24 e_Qu_on_18 (by decide) ⟨fun z4 => ?_, fun z4 => ?_⟩
    · have h := h.1 z4
      refine g_aload_n 0 e_Qu_on_24 rfl rfl ?_
      refine gf_Qu_31 rfl e_Qu_on_25 hw3 lay_0 (by decide) (sh_Qu_asking hw3) ?_
      refine g_iload_n 1 e_Qu_on_28 rfl rfl ?_
      refine g_iload_n 2 e_Qu_on_29 rfl rfl ?_
      refine g_if_ne 37 e_Qu_on_30 (by decide) ⟨fun z5 => ?_, fun z5 => ?_⟩
      · have h := h.1 z5
        refine g_iconst (v := 0) e_Qu_on_37 (by decide) ?_
        refine w_callVI (w := w3) (As := [.int a1, .int 0]) (rest := []) e_Qu_on_38 ok_As_behind rfl km_Qu_174 kx_As_behind kv_As_behind rfl (by decide) hw3 lay_55 (by decide) rfl (Nat.le_of_ble_eq_true rfl) h (fun w6 x6 hw6 h => ?_)
        exact g_iret e_Qu_on_41 rfl ⟨Sh.n hw6, _, rfl, hw6, h⟩
      · have h := h.2 z5
        refine g_iconst (v := 1) e_Qu_on_33 (by decide) ?_
        refine g_goto 38 e_Qu_on_34 (by decide) ?_
        refine w_callVI (w := w3) (As := [.int a1, .int 1]) (rest := []) e_Qu_on_38 ok_As_behind rfl km_Qu_174 kx_As_behind kv_As_behind rfl (by decide) hw3 lay_55 (by decide) rfl (Nat.le_of_ble_eq_true rfl) h (fun w7 x7 hw7 h => ?_)
        exact g_iret e_Qu_on_41 rfl ⟨Sh.n hw7, _, rfl, hw7, h⟩
    · have h := h.2 z4
      refine g_bipush (v := (-2)) e_Qu_on_21 (by decide) ?_
      exact g_iret e_Qu_on_23 rfl ⟨Sh.n hw3, _, rfl, hw3, h⟩
  · have h := h.2 z2
    refine g_iconst (v := (-1)) e_Qu_on_9 (by decide) ?_
    exact g_iret e_Qu_on_10 rfl ⟨Sh.n hw1, _, rfl, hw1, h⟩
theorem en_Qu_on {d : Nat} {E : qE} {Q : qW → Int32 → Prop} {a1 : Int32} {a2 : Int32} {w : qW} (hw : Sh w) (h : c_Qu_on_0 d E Q a1 a2 w) : CaI (d + 6) M_Qu_on [.ref (qb E + 0), .int a1, .int a2] E w Q := Ca.into hw rfl (Nat.le_of_ble_eq_true rfl) h
def c_Qu_best_0 (d : Nat) (E : qE) (Q : qW → Int32 → Prop) (a1 : Int32) (a2 : Int32) (w : qW) : Prop := Go (d + 6) M_Qu_best E 161 161 (qFI Q) 0 [(0, .ref (qb E + 0)), (1, .int a1), (2, .int a2)] [] w
set_option maxHeartbeats 4000000 in
set_option maxRecDepth 8000 in
theorem s_Qu_best_0 {d : Nat} {E : qE} {Q : qW → Int32 → Prop} {a1 : Int32} {a2 : Int32} {w : qW} (hw : Sh w) (h : CaI (d + 5) M_Qu_within [.int a2, .int (-1), .int 2] E w (fun w1 x1 => ((¬ x1 = 0) → (CaI (d + 5) M_Qu_within [.int a1, .int 1, .int 3] E w1 (fun w3 x3 => ((¬ x3 = 0) → (CaI (d + 5) M_As_bestRow [.ref (qb E + 55), .int a1, .int a2] E w3 (fun w5 x5 => Q w5 x5))) ∧ ((x3 = 0) → (Q w3 (-2)))))) ∧ ((x1 = 0) → (Q w1 (-1))))) : c_Qu_best_0 d E Q a1 a2 w := by
  unfold c_Qu_best_0
  refine g_iload_n 2 e_Qu_best_0 rfl rfl ?_
  refine g_iconst (v := (-1)) e_Qu_best_1 (by decide) ?_
  refine g_iconst (v := 2) e_Qu_best_2 (by decide) ?_
  refine w_callSI (w := w) (As := [.int a2, .int (-1), .int 2]) (rest := []) e_Qu_best_3 ok_Qu_within rfl km_Qu_60 ks_Qu_within rfl (Nat.le_of_ble_eq_true rfl) h (fun w1 x1 hw1 h => ?_)
  refine g_if_ne 11 e_Qu_best_6 (by decide) ⟨fun z2 => ?_, fun z2 => ?_⟩
  · have h := h.1 z2
    refine g_iload_n 1 e_Qu_best_11 rfl rfl ?_
    refine g_iconst (v := 1) e_Qu_best_12 (by decide) ?_
    refine g_iconst (v := 3) e_Qu_best_13 (by decide) ?_
    refine w_callSI (w := w1) (As := [.int a1, .int 1, .int 3]) (rest := []) e_Qu_best_14 ok_Qu_within rfl km_Qu_60 ks_Qu_within rfl (Nat.le_of_ble_eq_true rfl) h (fun w3 x3 hw3 h => ?_)
    refine g_if_ne 23 e_Qu_best_17 (by decide) ⟨fun z4 => ?_, fun z4 => ?_⟩
    · have h := h.1 z4
      refine g_aload_n 0 e_Qu_best_23 rfl rfl ?_
      refine gf_Qu_31 rfl e_Qu_best_24 hw3 lay_0 (by decide) (sh_Qu_asking hw3) ?_
      refine g_iload_n 1 e_Qu_best_27 rfl rfl ?_
      refine g_iload_n 2 e_Qu_best_28 rfl rfl ?_
      refine w_callVI (w := w3) (As := [.int a1, .int a2]) (rest := []) e_Qu_best_29 ok_As_bestRow rfl km_Qu_178 kx_As_bestRow kv_As_bestRow rfl (by decide) hw3 lay_55 (by decide) rfl (Nat.le_of_ble_eq_true rfl) h (fun w5 x5 hw5 h => ?_)
      exact g_iret e_Qu_best_32 rfl ⟨Sh.n hw5, _, rfl, hw5, h⟩
    · have h := h.2 z4
      refine g_bipush (v := (-2)) e_Qu_best_20 (by decide) ?_
      exact g_iret e_Qu_best_22 rfl ⟨Sh.n hw3, _, rfl, hw3, h⟩
  · have h := h.2 z2
    refine g_iconst (v := (-1)) e_Qu_best_9 (by decide) ?_
    exact g_iret e_Qu_best_10 rfl ⟨Sh.n hw1, _, rfl, hw1, h⟩
theorem en_Qu_best {d : Nat} {E : qE} {Q : qW → Int32 → Prop} {a1 : Int32} {a2 : Int32} {w : qW} (hw : Sh w) (h : c_Qu_best_0 d E Q a1 a2 w) : CaI (d + 6) M_Qu_best [.ref (qb E + 0), .int a1, .int a2] E w Q := Ca.into hw rfl (Nat.le_of_ble_eq_true rfl) h
def c_Qu_enough_0 (d : Nat) (E : qE) (Q : qW → Int32 → Prop) (a1 : Int32) (w : qW) : Prop := Go (d + 6) M_Qu_enough E 161 161 (qFI Q) 0 [(0, .ref (qb E + 0)), (1, .int a1)] [] w
set_option maxHeartbeats 4000000 in
set_option maxRecDepth 8000 in
theorem s_Qu_enough_0 {d : Nat} {E : qE} {Q : qW → Int32 → Prop} {a1 : Int32} {w : qW} (hw : Sh w) (h : CaI (d + 5) M_Qu_within [.int a1, .int 1, .int 12] E w (fun w1 x1 => ((¬ x1 = 0) → (CaI (d + 5) M_As_fewest [.ref (qb E + 55), .int a1] E w1 (fun w3 x3 => Q w3 x3))) ∧ ((x1 = 0) → (Q w1 (-2))))) : c_Qu_enough_0 d E Q a1 w := by
  unfold c_Qu_enough_0
  refine g_iload_n 1 e_Qu_enough_0 rfl rfl ?_
  refine g_iconst (v := 1) e_Qu_enough_1 (by decide) ?_
  refine g_bipush (v := 12) e_Qu_enough_2 (by decide) ?_
  refine w_callSI (w := w) (As := [.int a1, .int 1, .int 12]) (rest := []) e_Qu_enough_4 ok_Qu_within rfl km_Qu_60 ks_Qu_within rfl (Nat.le_of_ble_eq_true rfl) h (fun w1 x1 hw1 h => ?_)
  refine g_if_ne 13 e_Qu_enough_7 (by decide) ⟨fun z2 => ?_, fun z2 => ?_⟩
  · have h := h.1 z2
    refine g_aload_n 0 e_Qu_enough_13 rfl rfl ?_
    refine gf_Qu_31 rfl e_Qu_enough_14 hw1 lay_0 (by decide) (sh_Qu_asking hw1) ?_
    refine g_iload_n 1 e_Qu_enough_17 rfl rfl ?_
    refine w_callVI (w := w1) (As := [.int a1]) (rest := []) e_Qu_enough_18 ok_As_fewest rfl km_Qu_182 kx_As_fewest kv_As_fewest rfl (by decide) hw1 lay_55 (by decide) rfl (Nat.le_of_ble_eq_true rfl) h (fun w3 x3 hw3 h => ?_)
    exact g_iret e_Qu_enough_21 rfl ⟨Sh.n hw3, _, rfl, hw3, h⟩
  · have h := h.2 z2
    refine g_bipush (v := (-2)) e_Qu_enough_10 (by decide) ?_
    exact g_iret e_Qu_enough_12 rfl ⟨Sh.n hw1, _, rfl, hw1, h⟩
theorem en_Qu_enough {d : Nat} {E : qE} {Q : qW → Int32 → Prop} {a1 : Int32} {w : qW} (hw : Sh w) (h : c_Qu_enough_0 d E Q a1 w) : CaI (d + 6) M_Qu_enough [.ref (qb E + 0), .int a1] E w Q := Ca.into hw rfl (Nat.le_of_ble_eq_true rfl) h
def c_Qu_flame_0 (d : Nat) (E : qE) (Q : qW → Int32 → Prop) (a1 : Int32) (a2 : Int32) (w : qW) : Prop := Go (d + 6) M_Qu_flame E 161 161 (qFI Q) 0 [(0, .ref (qb E + 0)), (1, .int a1), (2, .int a2)] [] w
set_option maxHeartbeats 4000000 in
set_option maxRecDepth 8000 in
theorem s_Qu_flame_0 {d : Nat} {E : qE} {Q : qW → Int32 → Prop} {a1 : Int32} {a2 : Int32} {w : qW} (hw : Sh w) (h : CaI (d + 5) M_Qu_within [.int a1, .int 1, .int 20] E w (fun w1 x1 => ((x1 = 0) → (Q w1 (-2))) ∧ ((¬ x1 = 0) → (CaI (d + 5) M_Qu_within [.int a2, .int 0, .int 9999] E w1 (fun w3 x3 => ((¬ x3 = 0) → (CaI (d + 5) M_As_nearestFire [.ref (qb E + 55), .int a1, .int a2] E w3 (fun w5 x5 => Q w5 x5))) ∧ ((x3 = 0) → (Q w3 (-2)))))))) : c_Qu_flame_0 d E Q a1 a2 w := by
  unfold c_Qu_flame_0
  refine g_iload_n 1 e_Qu_flame_0 rfl rfl ?_
  refine g_iconst (v := 1) e_Qu_flame_1 (by decide) ?_
  refine g_bipush (v := 20) e_Qu_flame_2 (by decide) ?_
  refine w_callSI (w := w) (As := [.int a1, .int 1, .int 20]) (rest := []) e_Qu_flame_4 ok_Qu_within rfl km_Qu_60 ks_Qu_within rfl (Nat.le_of_ble_eq_true rfl) h (fun w1 x1 hw1 h => ?_)
  refine g_if_eq 21 e_Qu_flame_7 (by decide) ⟨fun z2 => ?_, fun z2 => ?_⟩
  · have h := h.1 z2
    refine g_bipush (v := (-2)) e_Qu_flame_21 (by decide) ?_
    exact g_iret e_Qu_flame_23 rfl ⟨Sh.n hw1, _, rfl, hw1, h⟩
  · have h := h.2 z2
    refine g_iload_n 2 e_Qu_flame_10 rfl rfl ?_
    refine g_iconst (v := 0) e_Qu_flame_11 (by decide) ?_
    refine g_sipush (v := 9999) e_Qu_flame_12 (by decide) ?_
    refine w_callSI (w := w1) (As := [.int a2, .int 0, .int 9999]) (rest := []) e_Qu_flame_15 ok_Qu_within rfl km_Qu_60 ks_Qu_within rfl (Nat.le_of_ble_eq_true rfl) h (fun w3 x3 hw3 h => ?_)
    refine g_if_ne 24 e_Qu_flame_18 (by decide) ⟨fun z4 => ?_, fun z4 => ?_⟩
    · have h := h.1 z4
      refine g_aload_n 0 e_Qu_flame_24 rfl rfl ?_
      refine gf_Qu_31 rfl e_Qu_flame_25 hw3 lay_0 (by decide) (sh_Qu_asking hw3) ?_
      refine g_iload_n 1 e_Qu_flame_28 rfl rfl ?_
      refine g_iload_n 2 e_Qu_flame_29 rfl rfl ?_
      refine w_callVI (w := w3) (As := [.int a1, .int a2]) (rest := []) e_Qu_flame_30 ok_As_nearestFire rfl km_Qu_185 kx_As_nearestFire kv_As_nearestFire rfl (by decide) hw3 lay_55 (by decide) rfl (Nat.le_of_ble_eq_true rfl) h (fun w5 x5 hw5 h => ?_)
      exact g_iret e_Qu_flame_33 rfl ⟨Sh.n hw5, _, rfl, hw5, h⟩
    · have h := h.2 z4
      refine g_bipush (v := (-2)) e_Qu_flame_21 (by decide) ?_
      exact g_iret e_Qu_flame_23 rfl ⟨Sh.n hw3, _, rfl, hw3, h⟩
theorem en_Qu_flame {d : Nat} {E : qE} {Q : qW → Int32 → Prop} {a1 : Int32} {a2 : Int32} {w : qW} (hw : Sh w) (h : c_Qu_flame_0 d E Q a1 a2 w) : CaI (d + 6) M_Qu_flame [.ref (qb E + 0), .int a1, .int a2] E w Q := Ca.into hw rfl (Nat.le_of_ble_eq_true rfl) h
def c_Qu_see_0 (d : Nat) (E : qE) (Q : qW → Int32 → Prop) (a1 : Int32) (a2 : Int32) (w : qW) : Prop := Go (d + 1) M_Qu_see E 161 161 (qFI Q) 0 [(0, .ref (qb E + 0)), (1, .int a1), (2, .int a2)] [] w
set_option maxHeartbeats 4000000 in
set_option maxRecDepth 8000 in
theorem s_Qu_see_0 {d : Nat} {E : qE} {Q : qW → Int32 → Prop} {a1 : Int32} {a2 : Int32} {w : qW} (hw : Sh w) (h : ((¬ a1 = (-1)) → (CaI d M_Qu_within [.int a1, .int 0, .int 12] E w (fun w2 x2 => ((x2 = 0) → (Q w2 (-2))) ∧ ((¬ x2 = 0) → (CaI d M_Qu_within [.int a2, .int 0, .int 9999] E w2 (fun w4 x4 => ((¬ x4 = 0) → (CaI d M_Ro_add [.ref (qb E + 6), .int a1, .int a2] E w4 (fun w6 x6 => Q w6 x6))) ∧ ((x4 = 0) → (Q w4 (-2))))))))) ∧ ((a1 = (-1)) → (CaI d M_Ro_empty [.ref (qb E + 6)] E w (fun w7 x7 => Q w7 x7)))) : c_Qu_see_0 d E Q a1 a2 w := by
  unfold c_Qu_see_0
  refine g_iload_n 1 e_Qu_see_0 rfl rfl ?_
  refine g_iconst (v := (-1)) e_Qu_see_1 (by decide) ?_
  refine g_icmp_ne 16 e_Qu_see_2 (by decide) ⟨fun z1 => ?_, fun z1 => ?_⟩
  · have h := h.1 z1
    refine g_iload_n 1 e_Qu_see_16 rfl rfl ?_
    refine g_iconst (v := 0) e_Qu_see_17 (by decide) ?_
    refine g_bipush (v := 12) e_Qu_see_18 (by decide) ?_
    refine w_callSI (w := w) (As := [.int a1, .int 0, .int 12]) (rest := []) e_Qu_see_20 ok_Qu_within rfl km_Qu_60 ks_Qu_within rfl (Nat.le_of_ble_eq_true rfl) h (fun w2 x2 hw2 h => ?_)
    refine g_if_eq 37 e_Qu_see_23 (by decide) ⟨fun z3 => ?_, fun z3 => ?_⟩
    · have h := h.1 z3
      refine g_bipush (v := (-2)) e_Qu_see_37 (by decide) ?_
      exact g_iret e_Qu_see_39 rfl ⟨Sh.n hw2, _, rfl, hw2, h⟩
    · have h := h.2 z3
      refine g_iload_n 2 e_Qu_see_26 rfl rfl ?_
      refine g_iconst (v := 0) e_Qu_see_27 (by decide) ?_
      refine g_sipush (v := 9999) e_Qu_see_28 (by decide) ?_
      refine w_callSI (w := w2) (As := [.int a2, .int 0, .int 9999]) (rest := []) e_Qu_see_31 ok_Qu_within rfl km_Qu_60 ks_Qu_within rfl (Nat.le_of_ble_eq_true rfl) h (fun w4 x4 hw4 h => ?_)
      refine g_if_ne 40 e_Qu_see_34 (by decide) ⟨fun z5 => ?_, fun z5 => ?_⟩
      · have h := h.1 z5
        refine g_aload_n 0 e_Qu_see_40 rfl rfl ?_
        refine gf_Qu_17 rfl e_Qu_see_41 hw4 lay_0 (by decide) (sh_Qu_now hw4) ?_
        refine gf_Qu_188 rfl e_Qu_see_44 hw4 (lay_Wh isWh5) (lt_Wh isWh5) (sh_Wh_seen hw4 isWh5) ?_
        refine g_iload_n 1 e_Qu_see_47 rfl rfl ?_
        refine g_iload_n 2 e_Qu_see_48 rfl rfl ?_
        refine w_callVI (w := w4) (As := [.int a1, .int a2]) (rest := []) e_Qu_see_49 ok_Ro_add rfl km_Qu_196 kx_Ro_add kv_Ro_add rfl (by decide) hw4 (lay_Ro (isRo1 isWh5)) (lt_Ro (isRo1 isWh5)) rfl (Nat.le_of_ble_eq_true rfl) h (fun w6 x6 hw6 h => ?_)
        exact g_iret e_Qu_see_52 rfl ⟨Sh.n hw6, _, rfl, hw6, h⟩
      · have h := h.2 z5
        refine g_bipush (v := (-2)) e_Qu_see_37 (by decide) ?_
        exact g_iret e_Qu_see_39 rfl ⟨Sh.n hw4, _, rfl, hw4, h⟩
  · have h := h.2 z1
    refine g_aload_n 0 e_Qu_see_5 rfl rfl ?_
    refine gf_Qu_17 rfl e_Qu_see_6 hw lay_0 (by decide) (sh_Qu_now hw) ?_
    refine gf_Qu_188 rfl e_Qu_see_9 hw (lay_Wh isWh5) (lt_Wh isWh5) (sh_Wh_seen hw isWh5) ?_
    refine w_callVI (w := w) (As := []) (rest := []) e_Qu_see_12 ok_Ro_empty rfl km_Qu_192 kx_Ro_empty kv_Ro_empty rfl (by decide) hw (lay_Ro (isRo1 isWh5)) (lt_Ro (isRo1 isWh5)) rfl (Nat.le_of_ble_eq_true rfl) h (fun w7 x7 hw7 h => ?_)
    exact g_iret e_Qu_see_15 rfl ⟨Sh.n hw7, _, rfl, hw7, h⟩
theorem en_Qu_see {d : Nat} {E : qE} {Q : qW → Int32 → Prop} {a1 : Int32} {a2 : Int32} {w : qW} (hw : Sh w) (h : c_Qu_see_0 d E Q a1 a2 w) : CaI (d + 1) M_Qu_see [.ref (qb E + 0), .int a1, .int a2] E w Q := Ca.into hw rfl (Nat.le_of_ble_eq_true rfl) h
def c_Qu_can_0 (d : Nat) (E : qE) (Q : qW → Int32 → Prop) (a1 : Int32) (a2 : Int32) (w : qW) : Prop := Go (d + 6) M_Qu_can E 161 161 (qFI Q) 0 [(0, .ref (qb E + 0)), (1, .int a1), (2, .int a2)] [] w
set_option maxHeartbeats 4000000 in
set_option maxRecDepth 8000 in
theorem s_Qu_can_0 {d : Nat} {E : qE} {Q : qW → Int32 → Prop} {a1 : Int32} {a2 : Int32} {w : qW} (hw : Sh w) (h : CaR (d + 5) M_Pa_find [.ref (qb E + 15), .int a1] E w (fun w1 x1 => (x1 = none ∧ (Q w1 (-1))) ∨ (∃ i1, i1 < 6 ∧ x1 = some (15 + 3 + 2 * i1) ∧ (CaI (d + 5) M_Qu_within [.int a2, .int 0, .int 1] E w1 (fun w2 x2 => ((¬ x2 = 0) → (((¬ a2 = 0) → (CaI (d + 5) M_As_firmness [.ref (qb E + 55), .int a1, .int 0] E w2 (fun w5 x5 => Q w5 x5))) ∧ ((a2 = 0) → (CaI (d + 5) M_As_firmness [.ref (qb E + 55), .int a1, .int 1] E w2 (fun w6 x6 => Q w6 x6))))) ∧ ((x2 = 0) → (Q w2 (-1)))))))) : c_Qu_can_0 d E Q a1 a2 w := by
  unfold c_Qu_can_0
  refine g_aload_n 0 e_Qu_can_0 rfl rfl ?_
  refine gf_Qu_17 rfl e_Qu_can_1 hw lay_0 (by decide) (sh_Qu_now hw) ?_
  refine gf_Qu_64 rfl e_Qu_can_4 hw (lay_Wh isWh5) (lt_Wh isWh5) (sh_Wh_pan hw isWh5) ?_
  refine g_iload_n 1 e_Qu_can_7 rfl rfl ?_
  refine w_callVR (w := w) (As := [.int a1]) (rest := []) e_Qu_can_8 ok_Pa_find rfl km_Qu_74 kx_Pa_find kv_Pa_find rfl (by decide) hw (lay_Pa (isPan_Wh isWh5)) (lt_Pa (isPan_Wh isWh5)) rfl (Nat.le_of_ble_eq_true rfl) h (fun w1 x1 hw1 h => ?_)
  obtain ⟨rfl, h⟩ | ⟨i1, hi1, rfl, h⟩ := h
  · change Go _ _ _ _ _ _ _ _ (.null :: _) _
    refine g_ifnullN 23 e_Qu_can_11 (by decide) ?_
    refine g_iconst (v := (-1)) e_Qu_can_23 (by decide) ?_
    exact g_iret e_Qu_can_24 rfl ⟨Sh.n hw1, _, rfl, hw1, h⟩
  · change Go _ _ _ _ _ _ _ _ (.ref (qb E + (15 + 3 + 2 * i1)) :: _) _
    refine g_ifnull e_Qu_can_11 ?_
    refine g_iload_n 2 e_Qu_can_14 rfl rfl ?_
    refine g_iconst (v := 0) e_Qu_can_15 (by decide) ?_
    refine g_iconst (v := 1) e_Qu_can_16 (by decide) ?_
    refine w_callSI (w := w1) (As := [.int a2, .int 0, .int 1]) (rest := []) e_Qu_can_17 ok_Qu_within rfl km_Qu_60 ks_Qu_within rfl (Nat.le_of_ble_eq_true rfl) h (fun w2 x2 hw2 h => ?_)
    refine g_if_ne 25 e_Qu_can_20 (by decide) ⟨fun z3 => ?_, fun z3 => ?_⟩
    · have h := h.1 z3
      refine g_aload_n 0 e_Qu_can_25 rfl rfl ?_
      refine gf_Qu_31 rfl e_Qu_can_26 hw2 lay_0 (by decide) (sh_Qu_asking hw2) ?_
      refine g_iload_n 1 e_Qu_can_29 rfl rfl ?_
      refine g_iload_n 2 e_Qu_can_30 rfl rfl ?_
      refine g_if_ne 38 e_Qu_can_31 (by decide) ⟨fun z4 => ?_, fun z4 => ?_⟩
      · have h := h.1 z4
        refine g_iconst (v := 0) e_Qu_can_38 (by decide) ?_
        refine w_callVI (w := w2) (As := [.int a1, .int 0]) (rest := []) e_Qu_can_39 ok_As_firmness rfl km_Qu_199 kx_As_firmness kv_As_firmness rfl (by decide) hw2 lay_55 (by decide) rfl (Nat.le_of_ble_eq_true rfl) h (fun w5 x5 hw5 h => ?_)
        exact g_iret e_Qu_can_42 rfl ⟨Sh.n hw5, _, rfl, hw5, h⟩
      · have h := h.2 z4
        refine g_iconst (v := 1) e_Qu_can_34 (by decide) ?_
        refine g_goto 39 e_Qu_can_35 (by decide) ?_
        refine w_callVI (w := w2) (As := [.int a1, .int 1]) (rest := []) e_Qu_can_39 ok_As_firmness rfl km_Qu_199 kx_As_firmness kv_As_firmness rfl (by decide) hw2 lay_55 (by decide) rfl (Nat.le_of_ble_eq_true rfl) h (fun w6 x6 hw6 h => ?_)
        exact g_iret e_Qu_can_42 rfl ⟨Sh.n hw6, _, rfl, hw6, h⟩
    · have h := h.2 z3
      refine g_iconst (v := (-1)) e_Qu_can_23 (by decide) ?_
      exact g_iret e_Qu_can_24 rfl ⟨Sh.n hw2, _, rfl, hw2, h⟩
theorem en_Qu_can {d : Nat} {E : qE} {Q : qW → Int32 → Prop} {a1 : Int32} {a2 : Int32} {w : qW} (hw : Sh w) (h : c_Qu_can_0 d E Q a1 a2 w) : CaI (d + 6) M_Qu_can [.ref (qb E + 0), .int a1, .int a2] E w Q := Ca.into hw rfl (Nat.le_of_ble_eq_true rfl) h
def c_Qu_odds_0 (d : Nat) (E : qE) (Q : qW → Int64 → Prop) (a1 : Int32) (a2 : Int32) (w : qW) : Prop := Go (d + 6) M_Qu_odds E 161 161 (qFL Q) 0 [(0, .ref (qb E + 0)), (1, .int a1), (2, .int a2)] [] w
set_option maxHeartbeats 4000000 in
set_option maxRecDepth 8000 in
theorem s_Qu_odds_0 {d : Nat} {E : qE} {Q : qW → Int64 → Prop} {a1 : Int32} {a2 : Int32} {w : qW} (hw : Sh w) (h : CaI (d + 5) M_Pa_howMany [.ref (qb E + 15), .int 0] E w (fun w1 x1 => CaI (d + 5) M_Qu_within [.int a1, .int 0, .int 20] E w1 (fun w2 x2 => ((x2 = 0) → (Q w2 (-9223372036854775808))) ∧ ((¬ x2 = 0) → (CaI (d + 5) M_Qu_within [.int a2, .int 0, .int 1] E w2 (fun w4 x4 => ((x4 = 0) → (Q w4 (-9223372036854775808))) ∧ ((¬ x4 = 0) → (((¬ x1 = 0) → (CaI (d + 5) M_As_chances [.ref (qb E + 55), .int a1] E w4 (fun w7 x7 => CaL (d + 5) M_Qu_fraction [.int x7, .int x1, .int a2] E w7 (fun w8 x8 => Q w8 x8)))) ∧ ((x1 = 0) → (Q w4 (-9223372036854775808))))))))))) : c_Qu_odds_0 d E Q a1 a2 w := by
  unfold c_Qu_odds_0
  refine g_aload_n 0 e_Qu_odds_0 rfl rfl ?_
  refine gf_Qu_17 rfl e_Qu_odds_1 hw lay_0 (by decide) (sh_Qu_now hw) ?_
  refine gf_Qu_64 rfl e_Qu_odds_4 hw (lay_Wh isWh5) (lt_Wh isWh5) (sh_Wh_pan hw isWh5) ?_
  refine g_iconst (v := 0) e_Qu_odds_7 (by decide) ?_
  refine w_callVI (w := w) (As := [.int 0]) (rest := []) e_Qu_odds_8 ok_Pa_howMany rfl km_Qu_110 kx_Pa_howMany kv_Pa_howMany rfl (by decide) hw (lay_Pa (isPan_Wh isWh5)) (lt_Pa (isPan_Wh isWh5)) rfl (Nat.le_of_ble_eq_true rfl) h (fun w1 x1 hw1 h => ?_)
  refine g_istore_n (lv := [(3, .int x1), (0, .ref (qb E + 0)), (1, .int a1), (2, .int a2)]) e_Qu_odds_11 rfl (by decide) rfl ?_
  refine g_iload_n 2 e_Qu_odds_12 rfl rfl ?_
  refine g_iconst (v := 0) e_Qu_odds_13 (by decide) ?_
  refine g_bipush (v := 20) e_Qu_odds_14 (by decide) ?_
  refine w_callSI (w := w1) (As := [.int a1, .int 0, .int 20]) (rest := []) e_Qu_odds_16 ok_Qu_within rfl km_Qu_60 ks_Qu_within rfl (Nat.le_of_ble_eq_true rfl) h (fun w2 x2 hw2 h => ?_)
  refine g_if_eq 35 e_Qu_odds_19 (by decide) ⟨fun z3 => ?_, fun z3 => ?_⟩
  · have h := h.1 z3
    refine g_ldc2 (v := (-9223372036854775808)) e_Qu_odds_35 kk_Qu_202 ?_
    exact g_lret e_Qu_odds_38 rfl ⟨Sh.n hw2, _, rfl, hw2, h⟩
  · have h := h.2 z3
    refine g_iload_n 3 e_Qu_odds_22 rfl rfl ?_
    refine g_iconst (v := 0) e_Qu_odds_23 (by decide) ?_
    refine g_iconst (v := 1) e_Qu_odds_24 (by decide) ?_
    refine w_callSI (w := w2) (As := [.int a2, .int 0, .int 1]) (rest := []) e_Qu_odds_25 ok_Qu_within rfl km_Qu_60 ks_Qu_within rfl (Nat.le_of_ble_eq_true rfl) h (fun w4 x4 hw4 h => ?_)
    refine g_if_eq 35 e_Qu_odds_28 (by decide) ⟨fun z5 => ?_, fun z5 => ?_⟩
    · have h := h.1 z5
      refine g_ldc2 (v := (-9223372036854775808)) e_Qu_odds_35 kk_Qu_202 ?_
      exact g_lret e_Qu_odds_38 rfl ⟨Sh.n hw4, _, rfl, hw4, h⟩
    · have h := h.2 z5
      refine g_iload_n 0 e_Qu_odds_31 rfl rfl ?_
      refine g_if_ne 39 e_Qu_odds_32 (by decide) ⟨fun z6 => ?_, fun z6 => ?_⟩
      · have h := h.1 z6
        refine g_aload_n 1 e_Qu_odds_39 rfl rfl ?_
        refine gf_Qu_31 rfl e_Qu_odds_40 hw4 lay_0 (by decide) (sh_Qu_asking hw4) ?_
        refine g_iload_n 2 e_Qu_odds_43 rfl rfl ?_
        refine w_callVI (w := w4) (As := [.int a1]) (rest := []) e_Qu_odds_44 ok_As_chances rfl km_Qu_204 kx_As_chances kv_As_chances rfl (by decide) hw4 lay_55 (by decide) rfl (Nat.le_of_ble_eq_true rfl) h (fun w7 x7 hw7 h => ?_)
        refine g_iload_n 0 e_Qu_odds_47 rfl rfl ?_
        refine g_iload_n 3 e_Qu_odds_48 rfl rfl ?_
        refine w_callSL (w := w7) (As := [.int x7, .int x1, .int a2]) (rest := []) e_Qu_odds_49 ok_Qu_fraction rfl km_Qu_207 ks_Qu_fraction rfl (Nat.le_of_ble_eq_true rfl) h (fun w8 x8 hw8 h => ?_)
        exact g_lret e_Qu_odds_52 rfl ⟨Sh.n hw8, _, rfl, hw8, h⟩
      · have h := h.2 z6
        refine g_ldc2 (v := (-9223372036854775808)) e_Qu_odds_35 kk_Qu_202 ?_
        exact g_lret e_Qu_odds_38 rfl ⟨Sh.n hw4, _, rfl, hw4, h⟩
theorem en_Qu_odds {d : Nat} {E : qE} {Q : qW → Int64 → Prop} {a1 : Int32} {a2 : Int32} {w : qW} (hw : Sh w) (h : c_Qu_odds_0 d E Q a1 a2 w) : CaL (d + 6) M_Qu_odds [.ref (qb E + 0), .int a1, .int a2] E w Q := Ca.into hw rfl (Nat.le_of_ble_eq_true rfl) h
def c_Qu_mean_0 (d : Nat) (E : qE) (Q : qW → Int64 → Prop) (a1 : Int32) (w : qW) : Prop := Go (d + 3) M_Qu_mean E 161 161 (qFL Q) 0 [(0, .ref (qb E + 0)), (1, .int a1)] [] w
set_option maxHeartbeats 4000000 in
set_option maxRecDepth 8000 in
theorem s_Qu_mean_0 {d : Nat} {E : qE} {Q : qW → Int64 → Prop} {a1 : Int32} {w : qW} (hw : Sh w) (h : CaI (d + 2) M_Pa_howMany [.ref (qb E + 15), .int 1] E w (fun w1 x1 => CaI (d + 2) M_Qu_within [.int a1, .int 0, .int 1] E w1 (fun w2 x2 => ((x2 = 0) → (Q w2 (-9223372036854775808))) ∧ ((¬ x2 = 0) → (((¬ x1 = 0) → (CaI (d + 2) M_Pa_together [.ref (qb E + 15)] E w2 (fun w5 x5 => CaL (d + 2) M_Qu_fraction [.int x5, .int x1, .int a1] E w5 (fun w6 x6 => Q w6 x6)))) ∧ ((x1 = 0) → (Q w2 (-9223372036854775808)))))))) : c_Qu_mean_0 d E Q a1 w := by
  unfold c_Qu_mean_0
  refine g_aload_n 0 e_Qu_mean_0 rfl rfl ?_
  refine gf_Qu_17 rfl e_Qu_mean_1 hw lay_0 (by decide) (sh_Qu_now hw) ?_
  refine gf_Qu_64 rfl e_Qu_mean_4 hw (lay_Wh isWh5) (lt_Wh isWh5) (sh_Wh_pan hw isWh5) ?_
  refine g_iconst (v := 1) e_Qu_mean_7 (by decide) ?_
  refine w_callVI (w := w) (As := [.int 1]) (rest := []) e_Qu_mean_8 ok_Pa_howMany rfl km_Qu_110 kx_Pa_howMany kv_Pa_howMany rfl (by decide) hw (lay_Pa (isPan_Wh isWh5)) (lt_Pa (isPan_Wh isWh5)) rfl (Nat.le_of_ble_eq_true rfl) h (fun w1 x1 hw1 h => ?_)
  refine g_istore_n (lv := [(2, .int x1), (0, .ref (qb E + 0)), (1, .int a1)]) e_Qu_mean_11 rfl (by decide) rfl ?_
  refine g_iload_n 2 e_Qu_mean_12 rfl rfl ?_
  refine g_iconst (v := 0) e_Qu_mean_13 (by decide) ?_
  refine g_iconst (v := 1) e_Qu_mean_14 (by decide) ?_
  refine w_callSI (w := w1) (As := [.int a1, .int 0, .int 1]) (rest := []) e_Qu_mean_15 ok_Qu_within rfl km_Qu_60 ks_Qu_within rfl (Nat.le_of_ble_eq_true rfl) h (fun w2 x2 hw2 h => ?_)
  refine g_if_eq 25 e_Qu_mean_18 (by decide) ⟨fun z3 => ?_, fun z3 => ?_⟩
  · have h := h.1 z3
    refine g_ldc2 (v := (-9223372036854775808)) e_Qu_mean_25 kk_Qu_202 ?_
    exact g_lret e_Qu_mean_28 rfl ⟨Sh.n hw2, _, rfl, hw2, h⟩
  · have h := h.2 z3
    refine g_iload_n 0 e_Qu_mean_21 rfl rfl ?_
    refine g_if_ne 29 e_Qu_mean_22 (by decide) ⟨fun z4 => ?_, fun z4 => ?_⟩
    · have h := h.1 z4
      refine g_aload_n 1 e_Qu_mean_29 rfl rfl ?_
      refine gf_Qu_17 rfl e_Qu_mean_30 hw2 lay_0 (by decide) (sh_Qu_now hw2) ?_
      refine gf_Qu_64 rfl e_Qu_mean_33 hw2 (lay_Wh isWh5) (lt_Wh isWh5) (sh_Wh_pan hw2 isWh5) ?_
      refine w_callVI (w := w2) (As := []) (rest := []) e_Qu_mean_36 ok_Pa_together rfl km_Qu_167 kx_Pa_together kv_Pa_together rfl (by decide) hw2 (lay_Pa (isPan_Wh isWh5)) (lt_Pa (isPan_Wh isWh5)) rfl (Nat.le_of_ble_eq_true rfl) h (fun w5 x5 hw5 h => ?_)
      refine g_iload_n 0 e_Qu_mean_39 rfl rfl ?_
      refine g_iload_n 2 e_Qu_mean_40 rfl rfl ?_
      refine w_callSL (w := w5) (As := [.int x5, .int x1, .int a1]) (rest := []) e_Qu_mean_41 ok_Qu_fraction rfl km_Qu_207 ks_Qu_fraction rfl (Nat.le_of_ble_eq_true rfl) h (fun w6 x6 hw6 h => ?_)
      exact g_lret e_Qu_mean_44 rfl ⟨Sh.n hw6, _, rfl, hw6, h⟩
    · have h := h.2 z4
      refine g_ldc2 (v := (-9223372036854775808)) e_Qu_mean_25 kk_Qu_202 ?_
      exact g_lret e_Qu_mean_28 rfl ⟨Sh.n hw2, _, rfl, hw2, h⟩
theorem en_Qu_mean {d : Nat} {E : qE} {Q : qW → Int64 → Prop} {a1 : Int32} {w : qW} (hw : Sh w) (h : c_Qu_mean_0 d E Q a1 w) : CaL (d + 3) M_Qu_mean [.ref (qb E + 0), .int a1] E w Q := Ca.into hw rfl (Nat.le_of_ble_eq_true rfl) h
def c_Qu_plan_0 (d : Nat) (E : qE) (Q : qW → Int32 → Prop) (a1 : Int32) (a2 : Int32) (w : qW) : Prop := Go (d + 1) M_Qu_plan E 161 161 (qFI Q) 0 [(0, .ref (qb E + 0)), (1, .int a1), (2, .int a2)] [] w
set_option maxHeartbeats 4000000 in
set_option maxRecDepth 8000 in
theorem s_Qu_plan_0 {d : Nat} {E : qE} {Q : qW → Int32 → Prop} {a1 : Int32} {a2 : Int32} {w : qW} (hw : Sh w) (h : ((¬ a1 = (-1)) → (CaI d M_Qu_within [.int a1, .int 0, .int 3] E w (fun w2 x2 => ((¬ x2 = 0) → (((a1 = 1) → (CaR d M_Pa_find [.ref (qb E + 15), .int a2] E w2 (fun w5 x5 => (x5 = none ∧ (Q w5 (-1))) ∨ (∃ i5, i5 < 6 ∧ x5 = some (15 + 3 + 2 * i5) ∧ (((¬ a1 = 3) → (CaI d M_Ro_add [.ref (qb E + 9), .int a1, .int a2] E w5 (fun w7 x7 => Q w7 x7))) ∧ ((a1 = 3) → (CaI d M_Qu_within [.int a2, .int 0, .int 9] E w5 (fun w8 x8 => ((¬ x8 = 0) → (CaI d M_Ro_add [.ref (qb E + 9), .int a1, .int a2] E w8 (fun w10 x10 => Q w10 x10))) ∧ ((x8 = 0) → (Q w8 (-2))))))))))) ∧ ((¬ a1 = 1) → (((¬ a1 = 2) → (((¬ a1 = 3) → (CaI d M_Ro_add [.ref (qb E + 9), .int a1, .int a2] E w2 (fun w13 x13 => Q w13 x13))) ∧ ((a1 = 3) → (CaI d M_Qu_within [.int a2, .int 0, .int 9] E w2 (fun w14 x14 => ((¬ x14 = 0) → (CaI d M_Ro_add [.ref (qb E + 9), .int a1, .int a2] E w14 (fun w16 x16 => Q w16 x16))) ∧ ((x14 = 0) → (Q w14 (-2)))))))) ∧ ((a1 = 2) → (CaR d M_Pa_find [.ref (qb E + 15), .int a2] E w2 (fun w17 x17 => (x17 = none ∧ (Q w17 (-1))) ∨ (∃ i17, i17 < 6 ∧ x17 = some (15 + 3 + 2 * i17) ∧ (((¬ a1 = 3) → (CaI d M_Ro_add [.ref (qb E + 9), .int a1, .int a2] E w17 (fun w19 x19 => Q w19 x19))) ∧ ((a1 = 3) → (CaI d M_Qu_within [.int a2, .int 0, .int 9] E w17 (fun w20 x20 => ((¬ x20 = 0) → (CaI d M_Ro_add [.ref (qb E + 9), .int a1, .int a2] E w20 (fun w22 x22 => Q w22 x22))) ∧ ((x20 = 0) → (Q w20 (-2))))))))))))))) ∧ ((x2 = 0) → (Q w2 (-1)))))) ∧ ((a1 = (-1)) → (CaI d M_Ro_empty [.ref (qb E + 9)] E w (fun w23 x23 => Q w23 x23)))) : c_Qu_plan_0 d E Q a1 a2 w := by
  unfold c_Qu_plan_0
  refine g_iload_n 1 e_Qu_plan_0 rfl rfl ?_
  refine g_iconst (v := (-1)) e_Qu_plan_1 (by decide) ?_
  refine g_icmp_ne 16 e_Qu_plan_2 (by decide) ⟨fun z1 => ?_, fun z1 => ?_⟩
  · have h := h.1 z1
    refine g_iload_n 1 e_Qu_plan_16 rfl rfl ?_
    refine g_iconst (v := 0) e_Qu_plan_17 (by decide) ?_
    refine g_iconst (v := 3) e_Qu_plan_18 (by decide) ?_
    refine w_callSI (w := w) (As := [.int a1, .int 0, .int 3]) (rest := []) e_Qu_plan_19 ok_Qu_within rfl km_Qu_60 ks_Qu_within rfl (Nat.le_of_ble_eq_true rfl) h (fun w2 x2 hw2 h => ?_)
    refine g_if_ne 27 e_Qu_plan_22 (by decide) ⟨fun z3 => ?_, fun z3 => ?_⟩
    · have h := h.1 z3
      refine g_iload_n 1 e_Qu_plan_27 rfl rfl ?_
      refine g_iconst (v := 1) e_Qu_plan_28 (by decide) ?_
      refine g_icmp_eq 37 e_Qu_plan_29 (by decide) ⟨fun z4 => ?_, fun z4 => ?_⟩
      · have h := h.1 z4
        refine g_aload_n 0 e_Qu_plan_37 rfl rfl ?_
        refine gf_Qu_17 rfl e_Qu_plan_38 hw2 lay_0 (by decide) (sh_Qu_now hw2) ?_
        refine gf_Qu_64 rfl e_Qu_plan_41 hw2 (lay_Wh isWh5) (lt_Wh isWh5) (sh_Wh_pan hw2 isWh5) ?_
        refine g_iload_n 2 e_Qu_plan_44 rfl rfl ?_
        refine w_callVR (w := w2) (As := [.int a2]) (rest := []) e_Qu_plan_45 ok_Pa_find rfl km_Qu_74 kx_Pa_find kv_Pa_find rfl (by decide) hw2 (lay_Pa (isPan_Wh isWh5)) (lt_Pa (isPan_Wh isWh5)) rfl (Nat.le_of_ble_eq_true rfl) h (fun w5 x5 hw5 h => ?_)
        obtain ⟨rfl, h⟩ | ⟨i5, hi5, rfl, h⟩ := h
        · change Go _ _ _ _ _ _ _ _ (.null :: _) _
          refine g_ifnonnullN e_Qu_plan_48 ?_
          refine g_iconst (v := (-1)) e_Qu_plan_51 (by decide) ?_
          exact g_iret e_Qu_plan_52 rfl ⟨Sh.n hw5, _, rfl, hw5, h⟩
        · change Go _ _ _ _ _ _ _ _ (.ref (qb E + (15 + 3 + 2 * i5)) :: _) _
          refine g_ifnonnull 53 e_Qu_plan_48 (by decide) ?_
          refine g_iload_n 1 e_Qu_plan_53 rfl rfl ?_
          refine g_iconst (v := 3) e_Qu_plan_54 (by decide) ?_
          refine g_icmp_ne 71 e_Qu_plan_55 (by decide) ⟨fun z6 => ?_, fun z6 => ?_⟩
          · have h := h.1 z6
            refine g_aload_n 0 e_Qu_plan_71 rfl rfl ?_
            refine gf_Qu_17 rfl e_Qu_plan_72 hw5 lay_0 (by decide) (sh_Qu_now hw5) ?_
            refine gf_Qu_211 rfl e_Qu_plan_75 hw5 (lay_Wh isWh5) (lt_Wh isWh5) (sh_Wh_plan hw5 isWh5) ?_
            refine g_iload_n 1 e_Qu_plan_78 rfl rfl ?_
            refine g_iload_n 2 e_Qu_plan_79 rfl rfl ?_
            refine w_callVI (w := w5) (As := [.int a1, .int a2]) (rest := []) e_Qu_plan_80 ok_Ro_add rfl km_Qu_196 kx_Ro_add kv_Ro_add rfl (by decide) hw5 (lay_Ro (isRo2 isWh5)) (lt_Ro (isRo2 isWh5)) rfl (Nat.le_of_ble_eq_true rfl) h (fun w7 x7 hw7 h => ?_)
            exact g_iret e_Qu_plan_83 rfl ⟨Sh.n hw7, _, rfl, hw7, h⟩
          · have h := h.2 z6
            refine g_iload_n 2 e_Qu_plan_58 rfl rfl ?_
            refine g_iconst (v := 0) e_Qu_plan_59 (by decide) ?_
            refine g_bipush (v := 9) e_Qu_plan_60 (by decide) ?_
            refine w_callSI (w := w5) (As := [.int a2, .int 0, .int 9]) (rest := []) e_Qu_plan_62 ok_Qu_within rfl km_Qu_60 ks_Qu_within rfl (Nat.le_of_ble_eq_true rfl) h (fun w8 x8 hw8 h => ?_)
            refine g_if_ne 71 e_Qu_plan_65 (by decide) ⟨fun z9 => ?_, fun z9 => ?_⟩
            · have h := h.1 z9
              refine g_aload_n 0 e_Qu_plan_71 rfl rfl ?_
              refine gf_Qu_17 rfl e_Qu_plan_72 hw8 lay_0 (by decide) (sh_Qu_now hw8) ?_
              refine gf_Qu_211 rfl e_Qu_plan_75 hw8 (lay_Wh isWh5) (lt_Wh isWh5) (sh_Wh_plan hw8 isWh5) ?_
              refine g_iload_n 1 e_Qu_plan_78 rfl rfl ?_
              refine g_iload_n 2 e_Qu_plan_79 rfl rfl ?_
              refine w_callVI (w := w8) (As := [.int a1, .int a2]) (rest := []) e_Qu_plan_80 ok_Ro_add rfl km_Qu_196 kx_Ro_add kv_Ro_add rfl (by decide) hw8 (lay_Ro (isRo2 isWh5)) (lt_Ro (isRo2 isWh5)) rfl (Nat.le_of_ble_eq_true rfl) h (fun w10 x10 hw10 h => ?_)
              exact g_iret e_Qu_plan_83 rfl ⟨Sh.n hw10, _, rfl, hw10, h⟩
            · have h := h.2 z9
              refine g_bipush (v := (-2)) e_Qu_plan_68 (by decide) ?_
              exact g_iret e_Qu_plan_70 rfl ⟨Sh.n hw8, _, rfl, hw8, h⟩
      · have h := h.2 z4
        refine g_iload_n 1 e_Qu_plan_32 rfl rfl ?_
        refine g_iconst (v := 2) e_Qu_plan_33 (by decide) ?_
        refine g_icmp_ne 53 e_Qu_plan_34 (by decide) ⟨fun z11 => ?_, fun z11 => ?_⟩
        · have h := h.1 z11
          refine g_iload_n 1 e_Qu_plan_53 rfl rfl ?_
          refine g_iconst (v := 3) e_Qu_plan_54 (by decide) ?_
          refine g_icmp_ne 71 e_Qu_plan_55 (by decide) ⟨fun z12 => ?_, fun z12 => ?_⟩
          · have h := h.1 z12
            refine g_aload_n 0 e_Qu_plan_71 rfl rfl ?_
            refine gf_Qu_17 rfl e_Qu_plan_72 hw2 lay_0 (by decide) (sh_Qu_now hw2) ?_
            refine gf_Qu_211 rfl e_Qu_plan_75 hw2 (lay_Wh isWh5) (lt_Wh isWh5) (sh_Wh_plan hw2 isWh5) ?_
            refine g_iload_n 1 e_Qu_plan_78 rfl rfl ?_
            refine g_iload_n 2 e_Qu_plan_79 rfl rfl ?_
            refine w_callVI (w := w2) (As := [.int a1, .int a2]) (rest := []) e_Qu_plan_80 ok_Ro_add rfl km_Qu_196 kx_Ro_add kv_Ro_add rfl (by decide) hw2 (lay_Ro (isRo2 isWh5)) (lt_Ro (isRo2 isWh5)) rfl (Nat.le_of_ble_eq_true rfl) h (fun w13 x13 hw13 h => ?_)
            exact g_iret e_Qu_plan_83 rfl ⟨Sh.n hw13, _, rfl, hw13, h⟩
          · have h := h.2 z12
            refine g_iload_n 2 e_Qu_plan_58 rfl rfl ?_
            refine g_iconst (v := 0) e_Qu_plan_59 (by decide) ?_
            refine g_bipush (v := 9) e_Qu_plan_60 (by decide) ?_
            refine w_callSI (w := w2) (As := [.int a2, .int 0, .int 9]) (rest := []) e_Qu_plan_62 ok_Qu_within rfl km_Qu_60 ks_Qu_within rfl (Nat.le_of_ble_eq_true rfl) h (fun w14 x14 hw14 h => ?_)
            refine g_if_ne 71 e_Qu_plan_65 (by decide) ⟨fun z15 => ?_, fun z15 => ?_⟩
            · have h := h.1 z15
              refine g_aload_n 0 e_Qu_plan_71 rfl rfl ?_
              refine gf_Qu_17 rfl e_Qu_plan_72 hw14 lay_0 (by decide) (sh_Qu_now hw14) ?_
              refine gf_Qu_211 rfl e_Qu_plan_75 hw14 (lay_Wh isWh5) (lt_Wh isWh5) (sh_Wh_plan hw14 isWh5) ?_
              refine g_iload_n 1 e_Qu_plan_78 rfl rfl ?_
              refine g_iload_n 2 e_Qu_plan_79 rfl rfl ?_
              refine w_callVI (w := w14) (As := [.int a1, .int a2]) (rest := []) e_Qu_plan_80 ok_Ro_add rfl km_Qu_196 kx_Ro_add kv_Ro_add rfl (by decide) hw14 (lay_Ro (isRo2 isWh5)) (lt_Ro (isRo2 isWh5)) rfl (Nat.le_of_ble_eq_true rfl) h (fun w16 x16 hw16 h => ?_)
              exact g_iret e_Qu_plan_83 rfl ⟨Sh.n hw16, _, rfl, hw16, h⟩
            · have h := h.2 z15
              refine g_bipush (v := (-2)) e_Qu_plan_68 (by decide) ?_
              exact g_iret e_Qu_plan_70 rfl ⟨Sh.n hw14, _, rfl, hw14, h⟩
        · have h := h.2 z11
          refine g_aload_n 0 e_Qu_plan_37 rfl rfl ?_
          refine gf_Qu_17 rfl e_Qu_plan_38 hw2 lay_0 (by decide) (sh_Qu_now hw2) ?_
          refine gf_Qu_64 rfl e_Qu_plan_41 hw2 (lay_Wh isWh5) (lt_Wh isWh5) (sh_Wh_pan hw2 isWh5) ?_
          refine g_iload_n 2 e_Qu_plan_44 rfl rfl ?_
          refine w_callVR (w := w2) (As := [.int a2]) (rest := []) e_Qu_plan_45 ok_Pa_find rfl km_Qu_74 kx_Pa_find kv_Pa_find rfl (by decide) hw2 (lay_Pa (isPan_Wh isWh5)) (lt_Pa (isPan_Wh isWh5)) rfl (Nat.le_of_ble_eq_true rfl) h (fun w17 x17 hw17 h => ?_)
          obtain ⟨rfl, h⟩ | ⟨i17, hi17, rfl, h⟩ := h
          · change Go _ _ _ _ _ _ _ _ (.null :: _) _
            refine g_ifnonnullN e_Qu_plan_48 ?_
            refine g_iconst (v := (-1)) e_Qu_plan_51 (by decide) ?_
            exact g_iret e_Qu_plan_52 rfl ⟨Sh.n hw17, _, rfl, hw17, h⟩
          · change Go _ _ _ _ _ _ _ _ (.ref (qb E + (15 + 3 + 2 * i17)) :: _) _
            refine g_ifnonnull 53 e_Qu_plan_48 (by decide) ?_
            refine g_iload_n 1 e_Qu_plan_53 rfl rfl ?_
            refine g_iconst (v := 3) e_Qu_plan_54 (by decide) ?_
            refine g_icmp_ne 71 e_Qu_plan_55 (by decide) ⟨fun z18 => ?_, fun z18 => ?_⟩
            · have h := h.1 z18
              refine g_aload_n 0 e_Qu_plan_71 rfl rfl ?_
              refine gf_Qu_17 rfl e_Qu_plan_72 hw17 lay_0 (by decide) (sh_Qu_now hw17) ?_
              refine gf_Qu_211 rfl e_Qu_plan_75 hw17 (lay_Wh isWh5) (lt_Wh isWh5) (sh_Wh_plan hw17 isWh5) ?_
              refine g_iload_n 1 e_Qu_plan_78 rfl rfl ?_
              refine g_iload_n 2 e_Qu_plan_79 rfl rfl ?_
              refine w_callVI (w := w17) (As := [.int a1, .int a2]) (rest := []) e_Qu_plan_80 ok_Ro_add rfl km_Qu_196 kx_Ro_add kv_Ro_add rfl (by decide) hw17 (lay_Ro (isRo2 isWh5)) (lt_Ro (isRo2 isWh5)) rfl (Nat.le_of_ble_eq_true rfl) h (fun w19 x19 hw19 h => ?_)
              exact g_iret e_Qu_plan_83 rfl ⟨Sh.n hw19, _, rfl, hw19, h⟩
            · have h := h.2 z18
              refine g_iload_n 2 e_Qu_plan_58 rfl rfl ?_
              refine g_iconst (v := 0) e_Qu_plan_59 (by decide) ?_
              refine g_bipush (v := 9) e_Qu_plan_60 (by decide) ?_
              refine w_callSI (w := w17) (As := [.int a2, .int 0, .int 9]) (rest := []) e_Qu_plan_62 ok_Qu_within rfl km_Qu_60 ks_Qu_within rfl (Nat.le_of_ble_eq_true rfl) h (fun w20 x20 hw20 h => ?_)
              refine g_if_ne 71 e_Qu_plan_65 (by decide) ⟨fun z21 => ?_, fun z21 => ?_⟩
              · have h := h.1 z21
                refine g_aload_n 0 e_Qu_plan_71 rfl rfl ?_
                refine gf_Qu_17 rfl e_Qu_plan_72 hw20 lay_0 (by decide) (sh_Qu_now hw20) ?_
                refine gf_Qu_211 rfl e_Qu_plan_75 hw20 (lay_Wh isWh5) (lt_Wh isWh5) (sh_Wh_plan hw20 isWh5) ?_
                refine g_iload_n 1 e_Qu_plan_78 rfl rfl ?_
                refine g_iload_n 2 e_Qu_plan_79 rfl rfl ?_
                refine w_callVI (w := w20) (As := [.int a1, .int a2]) (rest := []) e_Qu_plan_80 ok_Ro_add rfl km_Qu_196 kx_Ro_add kv_Ro_add rfl (by decide) hw20 (lay_Ro (isRo2 isWh5)) (lt_Ro (isRo2 isWh5)) rfl (Nat.le_of_ble_eq_true rfl) h (fun w22 x22 hw22 h => ?_)
                exact g_iret e_Qu_plan_83 rfl ⟨Sh.n hw22, _, rfl, hw22, h⟩
              · have h := h.2 z21
                refine g_bipush (v := (-2)) e_Qu_plan_68 (by decide) ?_
                exact g_iret e_Qu_plan_70 rfl ⟨Sh.n hw20, _, rfl, hw20, h⟩
    · have h := h.2 z3
      refine g_iconst (v := (-1)) e_Qu_plan_25 (by decide) ?_
      exact g_iret e_Qu_plan_26 rfl ⟨Sh.n hw2, _, rfl, hw2, h⟩
  · have h := h.2 z1
    refine g_aload_n 0 e_Qu_plan_5 rfl rfl ?_
    refine gf_Qu_17 rfl e_Qu_plan_6 hw lay_0 (by decide) (sh_Qu_now hw) ?_
    refine gf_Qu_211 rfl e_Qu_plan_9 hw (lay_Wh isWh5) (lt_Wh isWh5) (sh_Wh_plan hw isWh5) ?_
    refine w_callVI (w := w) (As := []) (rest := []) e_Qu_plan_12 ok_Ro_empty rfl km_Qu_192 kx_Ro_empty kv_Ro_empty rfl (by decide) hw (lay_Ro (isRo2 isWh5)) (lt_Ro (isRo2 isWh5)) rfl (Nat.le_of_ble_eq_true rfl) h (fun w23 x23 hw23 h => ?_)
    exact g_iret e_Qu_plan_15 rfl ⟨Sh.n hw23, _, rfl, hw23, h⟩
theorem en_Qu_plan {d : Nat} {E : qE} {Q : qW → Int32 → Prop} {a1 : Int32} {a2 : Int32} {w : qW} (hw : Sh w) (h : c_Qu_plan_0 d E Q a1 a2 w) : CaI (d + 1) M_Qu_plan [.ref (qb E + 0), .int a1, .int a2] E w Q := Ca.into hw rfl (Nat.le_of_ble_eq_true rfl) h
def c_Qu_ends_0 (d : Nat) (E : qE) (Q : qW → Int32 → Prop) (a1 : Int32) (w : qW) : Prop := Go (d + 6) M_Qu_ends E 161 161 (qFI Q) 0 [(0, .ref (qb E + 0)), (1, .int a1)] [] w
set_option maxHeartbeats 4000000 in
set_option maxRecDepth 8000 in
theorem s_Qu_ends_0 {d : Nat} {E : qE} {Q : qW → Int32 → Prop} {a1 : Int32} {w : qW} (hw : Sh w) (h : CaI (d + 5) M_Qu_within [.int a1, .int 0, .int 1] E w (fun w1 x1 => ((¬ x1 = 0) → (((¬ a1 = 0) → (CaI (d + 5) M_As_planned [.ref (qb E + 55), .int 0] E w1 (fun w4 x4 => Q w4 x4))) ∧ ((a1 = 0) → (CaI (d + 5) M_As_planned [.ref (qb E + 55), .int 1] E w1 (fun w5 x5 => Q w5 x5))))) ∧ ((x1 = 0) → (Q w1 (-1))))) : c_Qu_ends_0 d E Q a1 w := by
  unfold c_Qu_ends_0
  refine g_iload_n 1 e_Qu_ends_0 rfl rfl ?_
  refine g_iconst (v := 0) e_Qu_ends_1 (by decide) ?_
  refine g_iconst (v := 1) e_Qu_ends_2 (by decide) ?_
  refine w_callSI (w := w) (As := [.int a1, .int 0, .int 1]) (rest := []) e_Qu_ends_3 ok_Qu_within rfl km_Qu_60 ks_Qu_within rfl (Nat.le_of_ble_eq_true rfl) h (fun w1 x1 hw1 h => ?_)
  refine g_if_ne 11 e_Qu_ends_6 (by decide) ⟨fun z2 => ?_, fun z2 => ?_⟩
  · have h := h.1 z2
    refine g_aload_n 0 e_Qu_ends_11 rfl rfl ?_
    refine gf_Qu_31 rfl e_Qu_ends_12 hw1 lay_0 (by decide) (sh_Qu_asking hw1) ?_
    refine g_iload_n 1 e_Qu_ends_15 rfl rfl ?_
    refine g_if_ne 23 e_Qu_ends_16 (by decide) ⟨fun z3 => ?_, fun z3 => ?_⟩
    · have h := h.1 z3
      refine g_iconst (v := 0) e_Qu_ends_23 (by decide) ?_
      refine w_callVI (w := w1) (As := [.int 0]) (rest := []) e_Qu_ends_24 ok_As_planned rfl km_Qu_214 kx_As_planned kv_As_planned rfl (by decide) hw1 lay_55 (by decide) rfl (Nat.le_of_ble_eq_true rfl) h (fun w4 x4 hw4 h => ?_)
      exact g_iret e_Qu_ends_27 rfl ⟨Sh.n hw4, _, rfl, hw4, h⟩
    · have h := h.2 z3
      refine g_iconst (v := 1) e_Qu_ends_19 (by decide) ?_
      refine g_goto 24 e_Qu_ends_20 (by decide) ?_
      refine w_callVI (w := w1) (As := [.int 1]) (rest := []) e_Qu_ends_24 ok_As_planned rfl km_Qu_214 kx_As_planned kv_As_planned rfl (by decide) hw1 lay_55 (by decide) rfl (Nat.le_of_ble_eq_true rfl) h (fun w5 x5 hw5 h => ?_)
      exact g_iret e_Qu_ends_27 rfl ⟨Sh.n hw5, _, rfl, hw5, h⟩
  · have h := h.2 z2
    refine g_iconst (v := (-1)) e_Qu_ends_9 (by decide) ?_
    exact g_iret e_Qu_ends_10 rfl ⟨Sh.n hw1, _, rfl, hw1, h⟩
theorem en_Qu_ends {d : Nat} {E : qE} {Q : qW → Int32 → Prop} {a1 : Int32} {w : qW} (hw : Sh w) (h : c_Qu_ends_0 d E Q a1 w) : CaI (d + 6) M_Qu_ends [.ref (qb E + 0), .int a1] E w Q := Ca.into hw rfl (Nat.le_of_ble_eq_true rfl) h
def c_Qu_book_0 (d : Nat) (E : qE) (Q : qW → Int32 → Prop) (a1 : Int32) (a2 : Int32) (w : qW) : Prop := Go (d + 1) M_Qu_book E 161 161 (qFI Q) 0 [(0, .ref (qb E + 0)), (1, .int a1), (2, .int a2)] [] w
set_option maxHeartbeats 4000000 in
set_option maxRecDepth 8000 in
theorem s_Qu_book_0 {d : Nat} {E : qE} {Q : qW → Int32 → Prop} {a1 : Int32} {a2 : Int32} {w : qW} (hw : Sh w) (h : ((¬ a1 = (-1)) → (CaR d M_Pa_find [.ref (qb E + 15), .int a1] E w (fun w2 x2 => (x2 = none ∧ (Q w2 (-1))) ∨ (∃ i2, i2 < 6 ∧ x2 = some (15 + 3 + 2 * i2) ∧ (CaI d M_Qu_within [.int a2, .int 0, .int 20] E w2 (fun w3 x3 => ((¬ x3 = 0) → (CaI d M_Ro_add [.ref (qb E + 12), .int a1, .int a2] E w3 (fun w5 x5 => Q w5 x5))) ∧ ((x3 = 0) → (Q w3 (-2))))))))) ∧ ((a1 = (-1)) → (CaI d M_Ro_empty [.ref (qb E + 12)] E w (fun w6 x6 => Q w6 x6)))) : c_Qu_book_0 d E Q a1 a2 w := by
  unfold c_Qu_book_0
  refine g_iload_n 1 e_Qu_book_0 rfl rfl ?_
  refine g_iconst (v := (-1)) e_Qu_book_1 (by decide) ?_
  refine g_icmp_ne 16 e_Qu_book_2 (by decide) ⟨fun z1 => ?_, fun z1 => ?_⟩
  · have h := h.1 z1
    refine g_aload_n 0 e_Qu_book_16 rfl rfl ?_
    refine gf_Qu_17 rfl e_Qu_book_17 hw lay_0 (by decide) (sh_Qu_now hw) ?_
    refine gf_Qu_64 rfl e_Qu_book_20 hw (lay_Wh isWh5) (lt_Wh isWh5) (sh_Wh_pan hw isWh5) ?_
    refine g_iload_n 1 e_Qu_book_23 rfl rfl ?_
    refine w_callVR (w := w) (As := [.int a1]) (rest := []) e_Qu_book_24 ok_Pa_find rfl km_Qu_74 kx_Pa_find kv_Pa_find rfl (by decide) hw (lay_Pa (isPan_Wh isWh5)) (lt_Pa (isPan_Wh isWh5)) rfl (Nat.le_of_ble_eq_true rfl) h (fun w2 x2 hw2 h => ?_)
    obtain ⟨rfl, h⟩ | ⟨i2, hi2, rfl, h⟩ := h
    · change Go _ _ _ _ _ _ _ _ (.null :: _) _
      refine g_ifnonnullN e_Qu_book_27 ?_
      refine g_iconst (v := (-1)) e_Qu_book_30 (by decide) ?_
      exact g_iret e_Qu_book_31 rfl ⟨Sh.n hw2, _, rfl, hw2, h⟩
    · change Go _ _ _ _ _ _ _ _ (.ref (qb E + (15 + 3 + 2 * i2)) :: _) _
      refine g_ifnonnull 32 e_Qu_book_27 (by decide) ?_
      refine g_iload_n 2 e_Qu_book_32 rfl rfl ?_
      refine g_iconst (v := 0) e_Qu_book_33 (by decide) ?_
      refine g_bipush (v := 20) e_Qu_book_34 (by decide) ?_
      refine w_callSI (w := w2) (As := [.int a2, .int 0, .int 20]) (rest := []) e_Qu_book_36 ok_Qu_within rfl km_Qu_60 ks_Qu_within rfl (Nat.le_of_ble_eq_true rfl) h (fun w3 x3 hw3 h => ?_)
      refine g_if_ne 45 e_Qu_book_39 (by decide) ⟨fun z4 => ?_, fun z4 => ?_⟩
      · have h := h.1 z4
        refine g_aload_n 0 e_Qu_book_45 rfl rfl ?_
        refine gf_Qu_17 rfl e_Qu_book_46 hw3 lay_0 (by decide) (sh_Qu_now hw3) ?_
        refine gf_Qu_218 rfl e_Qu_book_49 hw3 (lay_Wh isWh5) (lt_Wh isWh5) (sh_Wh_book hw3 isWh5) ?_
        refine g_iload_n 1 e_Qu_book_52 rfl rfl ?_
        refine g_iload_n 2 e_Qu_book_53 rfl rfl ?_
        refine w_callVI (w := w3) (As := [.int a1, .int a2]) (rest := []) e_Qu_book_54 ok_Ro_add rfl km_Qu_196 kx_Ro_add kv_Ro_add rfl (by decide) hw3 (lay_Ro (isRo3 isWh5)) (lt_Ro (isRo3 isWh5)) rfl (Nat.le_of_ble_eq_true rfl) h (fun w5 x5 hw5 h => ?_)
        exact g_iret e_Qu_book_57 rfl ⟨Sh.n hw5, _, rfl, hw5, h⟩
      · have h := h.2 z4
        refine g_bipush (v := (-2)) e_Qu_book_42 (by decide) ?_
        exact g_iret e_Qu_book_44 rfl ⟨Sh.n hw3, _, rfl, hw3, h⟩
  · have h := h.2 z1
    refine g_aload_n 0 e_Qu_book_5 rfl rfl ?_
    refine gf_Qu_17 rfl e_Qu_book_6 hw lay_0 (by decide) (sh_Qu_now hw) ?_
    refine gf_Qu_218 rfl e_Qu_book_9 hw (lay_Wh isWh5) (lt_Wh isWh5) (sh_Wh_book hw isWh5) ?_
    refine w_callVI (w := w) (As := []) (rest := []) e_Qu_book_12 ok_Ro_empty rfl km_Qu_192 kx_Ro_empty kv_Ro_empty rfl (by decide) hw (lay_Ro (isRo3 isWh5)) (lt_Ro (isRo3 isWh5)) rfl (Nat.le_of_ble_eq_true rfl) h (fun w6 x6 hw6 h => ?_)
    exact g_iret e_Qu_book_15 rfl ⟨Sh.n hw6, _, rfl, hw6, h⟩
theorem en_Qu_book {d : Nat} {E : qE} {Q : qW → Int32 → Prop} {a1 : Int32} {a2 : Int32} {w : qW} (hw : Sh w) (h : c_Qu_book_0 d E Q a1 a2 w) : CaI (d + 1) M_Qu_book [.ref (qb E + 0), .int a1, .int a2] E w Q := Ca.into hw rfl (Nat.le_of_ble_eq_true rfl) h
def c_Qu_looked_0 (d : Nat) (E : qE) (Q : qW → Int32 → Prop) (w : qW) : Prop := Go (d + 1) M_Qu_looked E 161 161 (qFI Q) 0 [(0, .ref (qb E + 0))] [] w
def c_Qu_looked_2 (d : Nat) (E : qE) (Q : qW → Int32 → Prop) (l1 : Int32) (w : qW) : Prop := Go (d + 1) M_Qu_looked E 161 161 (qFI Q) 2 [(0, .ref (qb E + 0)), (1, .int l1)] [] w
set_option maxHeartbeats 4000000 in
set_option maxRecDepth 8000 in
theorem s_Qu_looked_0 {d : Nat} {E : qE} {Q : qW → Int32 → Prop} {w : qW} (hw : Sh w) (h : c_Qu_looked_2 d E Q 0 w) : c_Qu_looked_0 d E Q  w := by
  unfold c_Qu_looked_0
  refine g_iconst (v := 0) e_Qu_looked_0 (by decide) ?_
  refine g_istore_n (lv := [(1, .int 0), (0, .ref (qb E + 0))]) e_Qu_looked_1 rfl (by decide) rfl ?_
  refine g_loc [1, 0] rfl ?_
  exact h
set_option maxHeartbeats 4000000 in
set_option maxRecDepth 8000 in
theorem s_Qu_looked_2 {d : Nat} {E : qE} {Q : qW → Int32 → Prop} {l1 : Int32} {w : qW} (hw : Sh w) (h : (((qi w 12 2) ≤ l1) → (Q w (-5))) ∧ ((¬ (qi w 12 2) ≤ l1) → (CaI d M_Ro_first [.ref (qb E + 12), .int l1] E w (fun w2 x2 => CaR d M_Pa_find [.ref (qb E + 15), .int x2] E w2 (fun w3 x3 => (x3 = none ∧ (Q w3 l1)) ∨ (∃ i3, i3 < 6 ∧ x3 = some (15 + 3 + 2 * i3) ∧ (CaI d M_Ro_second [.ref (qb E + 12), .int l1] E w3 (fun w4 x4 => (((qi w3 (15 + 3 + 2 * i3) 3) = x4) → (c_Qu_looked_2 d E Q (l1 + 1) w4)) ∧ ((¬ (qi w3 (15 + 3 + 2 * i3) 3) = x4) → (Q w4 l1)))))))))) : c_Qu_looked_2 d E Q l1 w := by
  unfold c_Qu_looked_2
  refine g_iload_n 1 e_Qu_looked_2 rfl rfl ?_
  refine g_aload_n 0 e_Qu_looked_3 rfl rfl ?_
  refine gf_Qu_17 rfl e_Qu_looked_4 hw lay_0 (by decide) (sh_Qu_now hw) ?_
  refine gf_Qu_218 rfl e_Qu_looked_7 hw (lay_Wh isWh5) (lt_Wh isWh5) (sh_Wh_book hw isWh5) ?_
  refine gf_Qu_221 rfl e_Qu_looked_10 hw (lay_Ro (isRo3 isWh5)) (lt_Ro (isRo3 isWh5)) ?_
  refine g_icmp_ge 68 e_Qu_looked_13 (by decide) ⟨fun z1 => ?_, fun z1 => ?_⟩
  · have h := h.1 z1
    refine g_bipush (v := (-5)) e_Qu_looked_68 (by decide) ?_
    exact g_iret e_Qu_looked_70 rfl ⟨Sh.n hw, _, rfl, hw, h⟩
  · have h := h.2 z1
    refine g_aload_n 0 e_Qu_looked_16 rfl rfl ?_
    refine gf_Qu_17 rfl e_Qu_looked_17 hw lay_0 (by decide) (sh_Qu_now hw) ?_
    refine gf_Qu_64 rfl e_Qu_looked_20 hw (lay_Wh isWh5) (lt_Wh isWh5) (sh_Wh_pan hw isWh5) ?_
    refine g_aload_n 0 e_Qu_looked_23 rfl rfl ?_
    refine gf_Qu_17 rfl e_Qu_looked_24 hw lay_0 (by decide) (sh_Qu_now hw) ?_
    refine gf_Qu_218 rfl e_Qu_looked_27 hw (lay_Wh isWh5) (lt_Wh isWh5) (sh_Wh_book hw isWh5) ?_
    refine g_iload_n 1 e_Qu_looked_30 rfl rfl ?_
    refine w_callVI (w := w) (As := [.int l1]) (rest := [.ref (qb E + 15)]) e_Qu_looked_31 ok_Ro_first rfl km_Qu_224 kx_Ro_first kv_Ro_first rfl (by decide) hw (lay_Ro (isRo3 isWh5)) (lt_Ro (isRo3 isWh5)) rfl (Nat.le_of_ble_eq_true rfl) h (fun w2 x2 hw2 h => ?_)
    refine w_callVR (w := w2) (As := [.int x2]) (rest := []) e_Qu_looked_34 ok_Pa_find rfl km_Qu_74 kx_Pa_find kv_Pa_find rfl (by decide) hw2 (lay_Pa (isPan_Wh isWh5)) (lt_Pa (isPan_Wh isWh5)) rfl (Nat.le_of_ble_eq_true rfl) h (fun w3 x3 hw3 h => ?_)
    obtain ⟨rfl, h⟩ | ⟨i3, hi3, rfl, h⟩ := h
    · change Go _ _ _ _ _ _ _ _ (.null :: _) _
      refine g_astore_nN (lv := [(2, .null), (0, .ref (qb E + 0)), (1, .int l1)]) e_Qu_looked_37 rfl (by decide) rfl ?_
      refine g_aload_nN 0 e_Qu_looked_38 rfl rfl ?_
      refine g_ifnullN 60 e_Qu_looked_39 (by decide) ?_
      refine g_iload_n 2 e_Qu_looked_60 rfl rfl ?_
      exact g_iret e_Qu_looked_61 rfl ⟨Sh.n hw3, _, rfl, hw3, h⟩
    · change Go _ _ _ _ _ _ _ _ (.ref (qb E + (15 + 3 + 2 * i3)) :: _) _
      refine g_astore_n (lv := [(2, .ref (qb E + (15 + 3 + 2 * i3))), (0, .ref (qb E + 0)), (1, .int l1)]) e_Qu_looked_37 rfl (by decide) rfl ?_
      refine g_aload_n 0 e_Qu_looked_38 rfl rfl ?_
      refine g_ifnull e_Qu_looked_39 ?_
      refine g_aload_n 0 e_Qu_looked_42 rfl rfl ?_
      refine gf_Qu_87 rfl e_Qu_looked_43 hw3 (lay_Th (isTh_of (isPan_Wh isWh5) hi3)) (lt_Th (isTh_of (isPan_Wh isWh5) hi3)) ?_
      refine g_aload_n 1 e_Qu_looked_46 rfl rfl ?_
      refine gf_Qu_17 rfl e_Qu_looked_47 hw3 lay_0 (by decide) (sh_Qu_now hw3) ?_
      refine gf_Qu_218 rfl e_Qu_looked_50 hw3 (lay_Wh isWh5) (lt_Wh isWh5) (sh_Wh_book hw3 isWh5) ?_
      refine g_iload_n 2 e_Qu_looked_53 rfl rfl ?_
      refine w_callVI (w := w3) (As := [.int l1]) (rest := [.int (qi w3 (15 + 3 + 2 * i3) 3)]) e_Qu_looked_54 ok_Ro_second rfl km_Qu_227 kx_Ro_second kv_Ro_second rfl (by decide) hw3 (lay_Ro (isRo3 isWh5)) (lt_Ro (isRo3 isWh5)) rfl (Nat.le_of_ble_eq_true rfl) h (fun w4 x4 hw4 h => ?_)
      refine g_icmp_eq 62 e_Qu_looked_57 (by decide) ⟨fun z5 => ?_, fun z5 => ?_⟩
      · have h := h.1 z5
        refine g_iinc (v := (l1 + 1)) (lv := [(1, .int (l1 + 1)), (2, .ref (qb E + (15 + 3 + 2 * i3))), (0, .ref (qb E + 0))]) 2 e_Qu_looked_62 rfl rfl (by decide) rfl ?_
        refine g_goto 2 e_Qu_looked_65 (by decide) ?_
        refine g_loc [2, 0] rfl ?_
        exact h
      · have h := h.2 z5
        refine g_iload_n 2 e_Qu_looked_60 rfl rfl ?_
        exact g_iret e_Qu_looked_61 rfl ⟨Sh.n hw4, _, rfl, hw4, h⟩
theorem en_Qu_looked {d : Nat} {E : qE} {Q : qW → Int32 → Prop} {w : qW} (hw : Sh w) (h : c_Qu_looked_0 d E Q  w) : CaI (d + 1) M_Qu_looked [.ref (qb E + 0)] E w Q := Ca.into hw rfl (Nat.le_of_ble_eq_true rfl) h
def c_Qu_judge_0 (d : Nat) (E : qE) (Q : qW → Int32 → Prop) (a1 : Int32) (a2 : Int32) (w : qW) : Prop := Go (d + 2) M_Qu_judge E 161 161 (qFI Q) 0 [(0, .ref (qb E + 0)), (1, .int a1), (2, .int a2)] [] w
set_option maxHeartbeats 4000000 in
set_option maxRecDepth 8000 in
theorem s_Qu_judge_0 {d : Nat} {E : qE} {Q : qW → Int32 → Prop} {a1 : Int32} {a2 : Int32} {w : qW} (hw : Sh w) (h : CaI (d + 1) M_Qu_within [.int a1, .int 0, .int 5] E w (fun w1 x1 => ((¬ x1 = 0) → (vp_in a1 6 ∧ ((((qi w1 (103 + 2 * ((a1).toNatClampNeg)) 0) = 3) → (CaI (d + 1) M_Pa_judgeTimes [.ref (qb E + 15), .ref (qb E + (103 + 2 * ((a1).toNatClampNeg))), .int a2] E w1 (fun w5 x5 => Q w5 x5))) ∧ ((¬ (qi w1 (103 + 2 * ((a1).toNatClampNeg)) 0) = 3) → ((((qi w1 (103 + 2 * ((a1).toNatClampNeg)) 0) = (-1)) → (CaI (d + 1) M_Pa_judgeTimes [.ref (qb E + 15), .ref (qb E + (103 + 2 * ((a1).toNatClampNeg))), .int a2] E w1 (fun w7 x7 => Q w7 x7))) ∧ ((¬ (qi w1 (103 + 2 * ((a1).toNatClampNeg)) 0) = (-1)) → (Q w1 (-12)))))))) ∧ ((x1 = 0) → (Q w1 (-1))))) : c_Qu_judge_0 d E Q a1 a2 w := by
  unfold c_Qu_judge_0
  refine g_iload_n 1 e_Qu_judge_0 rfl rfl ?_
  refine g_iconst (v := 0) e_Qu_judge_1 (by decide) ?_
  refine g_iconst (v := 5) e_Qu_judge_2 (by decide) ?_
  refine w_callSI (w := w) (As := [.int a1, .int 0, .int 5]) (rest := []) e_Qu_judge_3 ok_Qu_within rfl km_Qu_60 ks_Qu_within rfl (Nat.le_of_ble_eq_true rfl) h (fun w1 x1 hw1 h => ?_)
  refine g_if_ne 11 e_Qu_judge_6 (by decide) ⟨fun z2 => ?_, fun z2 => ?_⟩
  · have h := h.1 z2
    refine g_aload_n 0 e_Qu_judge_11 rfl rfl ?_
    refine gf_Qu_55 rfl e_Qu_judge_12 hw1 lay_0 (by decide) (sh_Qu_tapes hw1) ?_
    refine g_iload_n 1 e_Qu_judge_15 rfl rfl ?_
    obtain ⟨o3, h⟩ := h
    refine w_aaload e_Qu_judge_16 hw1 lay_102 (Or.inr (Or.inr rfl)) (by decide) o3 (sh_Taps hw1 o3) ?_
    refine g_astore_n (lv := [(3, .ref (qb E + (103 + 2 * ((a1).toNatClampNeg)))), (0, .ref (qb E + 0)), (1, .int a1), (2, .int a2)]) e_Qu_judge_17 rfl (by decide) rfl ?_
    refine g_aload_n 0 e_Qu_judge_18 rfl rfl ?_
    refine gf_Qu_230 rfl e_Qu_judge_19 hw1 (lay_Ta (isTa_in o3)) (lt_Ta (isTa_in o3)) ?_
    refine g_iconst (v := 3) e_Qu_judge_22 (by decide) ?_
    refine g_icmp_eq 37 e_Qu_judge_23 (by decide) ⟨fun z4 => ?_, fun z4 => ?_⟩
    · have h := h.1 z4
      refine g_aload_n 1 e_Qu_judge_37 rfl rfl ?_
      refine gf_Qu_17 rfl e_Qu_judge_38 hw1 lay_0 (by decide) (sh_Qu_now hw1) ?_
      refine gf_Qu_64 rfl e_Qu_judge_41 hw1 (lay_Wh isWh5) (lt_Wh isWh5) (sh_Wh_pan hw1 isWh5) ?_
      refine g_aload_n 0 e_Qu_judge_44 rfl rfl ?_
      refine g_iload_n 3 e_Qu_judge_45 rfl rfl ?_
      refine w_callVI (w := w1) (As := [.ref (qb E + (103 + 2 * ((a1).toNatClampNeg))), .int a2]) (rest := []) e_Qu_judge_46 ok_Pa_judgeTimes rfl km_Qu_233 kx_Pa_judgeTimes kv_Pa_judgeTimes rfl (by decide) hw1 (lay_Pa (isPan_Wh isWh5)) (lt_Pa (isPan_Wh isWh5)) rfl (Nat.le_of_ble_eq_true rfl) h (fun w5 x5 hw5 h => ?_)
      exact g_iret e_Qu_judge_49 rfl ⟨Sh.n hw5, _, rfl, hw5, h⟩
    · have h := h.2 z4
      refine g_aload_n 0 e_Qu_judge_26 rfl rfl ?_
      refine gf_Qu_230 rfl e_Qu_judge_27 hw1 (lay_Ta (isTa_in o3)) (lt_Ta (isTa_in o3)) ?_
      refine g_iconst (v := (-1)) e_Qu_judge_30 (by decide) ?_
      refine g_icmp_eq 37 e_Qu_judge_31 (by decide) ⟨fun z6 => ?_, fun z6 => ?_⟩
      · have h := h.1 z6
        refine g_aload_n 1 e_Qu_judge_37 rfl rfl ?_
        refine gf_Qu_17 rfl e_Qu_judge_38 hw1 lay_0 (by decide) (sh_Qu_now hw1) ?_
        refine gf_Qu_64 rfl e_Qu_judge_41 hw1 (lay_Wh isWh5) (lt_Wh isWh5) (sh_Wh_pan hw1 isWh5) ?_
        refine g_aload_n 0 e_Qu_judge_44 rfl rfl ?_
        refine g_iload_n 3 e_Qu_judge_45 rfl rfl ?_
        refine w_callVI (w := w1) (As := [.ref (qb E + (103 + 2 * ((a1).toNatClampNeg))), .int a2]) (rest := []) e_Qu_judge_46 ok_Pa_judgeTimes rfl km_Qu_233 kx_Pa_judgeTimes kv_Pa_judgeTimes rfl (by decide) hw1 (lay_Pa (isPan_Wh isWh5)) (lt_Pa (isPan_Wh isWh5)) rfl (Nat.le_of_ble_eq_true rfl) h (fun w7 x7 hw7 h => ?_)
        exact g_iret e_Qu_judge_49 rfl ⟨Sh.n hw7, _, rfl, hw7, h⟩
      · have h := h.2 z6
        refine g_bipush (v := (-12)) e_Qu_judge_34 (by decide) ?_
        exact g_iret e_Qu_judge_36 rfl ⟨Sh.n hw1, _, rfl, hw1, h⟩
  · have h := h.2 z2
    refine g_iconst (v := (-1)) e_Qu_judge_9 (by decide) ?_
    exact g_iret e_Qu_judge_10 rfl ⟨Sh.n hw1, _, rfl, hw1, h⟩
theorem en_Qu_judge {d : Nat} {E : qE} {Q : qW → Int32 → Prop} {a1 : Int32} {a2 : Int32} {w : qW} (hw : Sh w) (h : c_Qu_judge_0 d E Q a1 a2 w) : CaI (d + 2) M_Qu_judge [.ref (qb E + 0), .int a1, .int a2] E w Q := Ca.into hw rfl (Nat.le_of_ble_eq_true rfl) h
def c_Qu_image_0 (d : Nat) (E : qE) (Q : qW → Int32 → Prop) (w : qW) : Prop := Go (d + 4) M_Qu_image E 161 161 (qFI Q) 0 [(0, .ref (qb E + 0))] [] w
set_option maxHeartbeats 4000000 in
set_option maxRecDepth 8000 in
theorem s_Qu_image_0 {d : Nat} {E : qE} {Q : qW → Int32 → Prop} {w : qW} (hw : Sh w) (h : CaV (d + 3) M_Wh_copyFrom [.ref (qb E + 30), .ref (qb E + 5)] E w (fun w1 => Q (qpi w1 0 2 1) (qi (qpi w1 0 2 1) 15 0))) : c_Qu_image_0 d E Q  w := by
  unfold c_Qu_image_0
  refine g_aload_n 0 e_Qu_image_0 rfl rfl ?_
  refine gf_Qu_23 rfl e_Qu_image_1 hw lay_0 (by decide) (sh_Qu_kept hw) ?_
  refine g_aload_n 0 e_Qu_image_4 rfl rfl ?_
  refine gf_Qu_17 rfl e_Qu_image_5 hw lay_0 (by decide) (sh_Qu_now hw) ?_
  refine w_callVV (w := w) (As := [.ref (qb E + 5)]) (rest := []) e_Qu_image_8 ok_Wh_copyFrom rfl km_Qu_237 kx_Wh_copyFrom kv_Wh_copyFrom rfl (by decide) hw (lay_Wh isWh30) (lt_Wh isWh30) rfl (Nat.le_of_ble_eq_true rfl) h (fun w1 hw1 h => ?_)
  refine g_aload_n 0 e_Qu_image_11 rfl rfl ?_
  refine g_iconst (v := 1) e_Qu_image_12 (by decide) ?_
  refine pf_Qu_241 rfl e_Qu_image_13 hw1 lay_0 (by decide) (Or.inr rfl) ?_
  refine g_aload_n 0 e_Qu_image_16 rfl rfl ?_
  refine gf_Qu_17 rfl e_Qu_image_17 hw1 lay_0 (by decide) (sh_Qu_now hw1) ?_
  refine gf_Qu_64 rfl e_Qu_image_20 hw1 (lay_Wh isWh5) (lt_Wh isWh5) (sh_Wh_pan hw1 isWh5) ?_
  refine gf_Qu_244 rfl e_Qu_image_23 hw1 (lay_Pa (isPan_Wh isWh5)) (lt_Pa (isPan_Wh isWh5)) ?_
  exact g_iret e_Qu_image_26 rfl ⟨Sh.n hw1, _, rfl, hw1, h⟩
theorem en_Qu_image {d : Nat} {E : qE} {Q : qW → Int32 → Prop} {w : qW} (hw : Sh w) (h : c_Qu_image_0 d E Q  w) : CaI (d + 4) M_Qu_image [.ref (qb E + 0)] E w Q := Ca.into hw rfl (Nat.le_of_ble_eq_true rfl) h
def c_Qu_undo_0 (d : Nat) (E : qE) (Q : qW → Int32 → Prop) (w : qW) : Prop := Go (d + 4) M_Qu_undo E 161 161 (qFI Q) 0 [(0, .ref (qb E + 0))] [] w
set_option maxHeartbeats 4000000 in
set_option maxRecDepth 8000 in
theorem s_Qu_undo_0 {d : Nat} {E : qE} {Q : qW → Int32 → Prop} {w : qW} (hw : Sh w) (h : ((¬ (qz (qi w 0 2)) = 0) → (CaV (d + 3) M_Wh_copyFrom [.ref (qb E + 5), .ref (qb E + 30)] E w (fun w2 => Q w2 (qi w2 15 0)))) ∧ (((qz (qi w 0 2)) = 0) → (Q w (-3)))) : c_Qu_undo_0 d E Q  w := by
  unfold c_Qu_undo_0
  refine g_aload_n 0 e_Qu_undo_0 rfl rfl ?_
  refine gf_Qu_241 rfl e_Qu_undo_1 hw lay_0 (by decide) ?_
  refine g_if_ne 10 e_Qu_undo_4 (by decide) ⟨fun z1 => ?_, fun z1 => ?_⟩
  · have h := h.1 z1
    refine g_aload_n 0 e_Qu_undo_10 rfl rfl ?_
    refine gf_Qu_17 rfl e_Qu_undo_11 hw lay_0 (by decide) (sh_Qu_now hw) ?_
    refine g_aload_n 0 e_Qu_undo_14 rfl rfl ?_
    refine gf_Qu_23 rfl e_Qu_undo_15 hw lay_0 (by decide) (sh_Qu_kept hw) ?_
    refine w_callVV (w := w) (As := [.ref (qb E + 30)]) (rest := []) e_Qu_undo_18 ok_Wh_copyFrom rfl km_Qu_237 kx_Wh_copyFrom kv_Wh_copyFrom rfl (by decide) hw (lay_Wh isWh5) (lt_Wh isWh5) rfl (Nat.le_of_ble_eq_true rfl) h (fun w2 hw2 h => ?_)
    refine g_aload_n 0 e_Qu_undo_21 rfl rfl ?_
    refine gf_Qu_17 rfl e_Qu_undo_22 hw2 lay_0 (by decide) (sh_Qu_now hw2) ?_
    refine gf_Qu_64 rfl e_Qu_undo_25 hw2 (lay_Wh isWh5) (lt_Wh isWh5) (sh_Wh_pan hw2 isWh5) ?_
    refine gf_Qu_244 rfl e_Qu_undo_28 hw2 (lay_Pa (isPan_Wh isWh5)) (lt_Pa (isPan_Wh isWh5)) ?_
    exact g_iret e_Qu_undo_31 rfl ⟨Sh.n hw2, _, rfl, hw2, h⟩
  · have h := h.2 z1
    refine g_bipush (v := (-3)) e_Qu_undo_7 (by decide) ?_
    exact g_iret e_Qu_undo_9 rfl ⟨Sh.n hw, _, rfl, hw, h⟩
theorem en_Qu_undo {d : Nat} {E : qE} {Q : qW → Int32 → Prop} {w : qW} (hw : Sh w) (h : c_Qu_undo_0 d E Q  w) : CaI (d + 4) M_Qu_undo [.ref (qb E + 0)] E w Q := Ca.into hw rfl (Nat.le_of_ble_eq_true rfl) h
def c_Qu_act_0 (d : Nat) (E : qE) (Q : qW → Int32 → Prop) (a1 : Int32) (a2 : Int32) (a3 : Int32) (w : qW) : Prop := Go (d + 42) M_Qu_act E 161 161 (qFI Q) 0 [(0, .ref (qb E + 0)), (1, .int a1), (2, .int a2), (3, .int a3)] [] w
set_option maxHeartbeats 4000000 in
set_option maxRecDepth 8000 in
theorem s_Qu_act_0 {d : Nat} {E : qE} {Q : qW → Int32 → Prop} {a1 : Int32} {a2 : Int32} {a3 : Int32} {w : qW} (hw : Sh w) (h : CaV (d + 41) M_Ac_forget [.ref (qb E + 100)] E w (fun w1 => CaR (d + 41) M_Pa_find [.ref (qb E + 15), .int a1] E w1 (fun w2 x2 => (x2 = none ∧ (Q w2 0)) ∨ (∃ i2, i2 < 6 ∧ x2 = some (15 + 3 + 2 * i2) ∧ (CaI (d + 41) M_Qu_within [.int a2, .int 0, .int 2] E w2 (fun w3 x3 => ((¬ x3 = 0) → (CaI (d + 41) M_Ac_perform [.ref (qb E + 100), .ref (qb E + (15 + 3 + 2 * i2)), .int a2, .int a3] E w3 (fun w5 x5 => Q w5 x5))) ∧ ((x3 = 0) → (Q w3 0)))))))) : c_Qu_act_0 d E Q a1 a2 a3 w := by
  unfold c_Qu_act_0
  refine g_aload_n 0 e_Qu_act_0 rfl rfl ?_
  refine gf_Qu_49 rfl e_Qu_act_1 hw lay_0 (by decide) (sh_Qu_acting hw) ?_
  refine w_callVV (w := w) (As := []) (rest := []) e_Qu_act_4 ok_Ac_forget rfl km_Qu_245 kx_Ac_forget kv_Ac_forget rfl (by decide) hw lay_100 (by decide) rfl (Nat.le_of_ble_eq_true rfl) h (fun w1 hw1 h => ?_)
  refine g_aload_n 0 e_Qu_act_7 rfl rfl ?_
  refine gf_Qu_17 rfl e_Qu_act_8 hw1 lay_0 (by decide) (sh_Qu_now hw1) ?_
  refine gf_Qu_64 rfl e_Qu_act_11 hw1 (lay_Wh isWh5) (lt_Wh isWh5) (sh_Wh_pan hw1 isWh5) ?_
  refine g_iload_n 1 e_Qu_act_14 rfl rfl ?_
  refine w_callVR (w := w1) (As := [.int a1]) (rest := []) e_Qu_act_15 ok_Pa_find rfl km_Qu_74 kx_Pa_find kv_Pa_find rfl (by decide) hw1 (lay_Pa (isPan_Wh isWh5)) (lt_Pa (isPan_Wh isWh5)) rfl (Nat.le_of_ble_eq_true rfl) h (fun w2 x2 hw2 h => ?_)
  obtain ⟨rfl, h⟩ | ⟨i2, hi2, rfl, h⟩ := h
  · change Go _ _ _ _ _ _ _ _ (.null :: _) _
    refine g_astoreN (lv := [(4, .null), (0, .ref (qb E + 0)), (1, .int a1), (2, .int a2), (3, .int a3)]) e_Qu_act_18 (by decide) rfl ?_
    refine g_aloadN 0 e_Qu_act_20 rfl ?_
    refine g_ifnullN 34 e_Qu_act_22 (by decide) ?_
    refine g_iconst (v := 0) e_Qu_act_34 (by decide) ?_
    exact g_iret e_Qu_act_35 rfl ⟨Sh.n hw2, _, rfl, hw2, h⟩
  · change Go _ _ _ _ _ _ _ _ (.ref (qb E + (15 + 3 + 2 * i2)) :: _) _
    refine g_astore (lv := [(4, .ref (qb E + (15 + 3 + 2 * i2))), (0, .ref (qb E + 0)), (1, .int a1), (2, .int a2), (3, .int a3)]) e_Qu_act_18 (by decide) rfl ?_
    refine g_aload 0 e_Qu_act_20 rfl ?_
    refine g_ifnull e_Qu_act_22 ?_
    refine g_iload_n 3 e_Qu_act_25 rfl rfl ?_
    refine g_iconst (v := 0) e_Qu_act_26 (by decide) ?_
    refine g_iconst (v := 2) e_Qu_act_27 (by decide) ?_
    refine w_callSI (w := w2) (As := [.int a2, .int 0, .int 2]) (rest := []) e_Qu_act_28 ok_Qu_within rfl km_Qu_60 ks_Qu_within rfl (Nat.le_of_ble_eq_true rfl) h (fun w3 x3 hw3 h => ?_)
    refine g_if_ne 36 e_Qu_act_31 (by decide) ⟨fun z4 => ?_, fun z4 => ?_⟩
    · have h := h.1 z4
      refine g_aload_n 1 e_Qu_act_36 rfl rfl ?_
      refine gf_Qu_49 rfl e_Qu_act_37 hw3 lay_0 (by decide) (sh_Qu_acting hw3) ?_
      refine g_aload 0 e_Qu_act_40 rfl ?_
      refine g_iload_n 3 e_Qu_act_42 rfl rfl ?_
      refine g_iload_n 4 e_Qu_act_43 rfl rfl ?_
      refine w_callVI (w := w3) (As := [.ref (qb E + (15 + 3 + 2 * i2)), .int a2, .int a3]) (rest := []) e_Qu_act_44 ok_Ac_perform rfl km_Qu_248 kx_Ac_perform kv_Ac_perform rfl (by decide) hw3 lay_100 (by decide) rfl (Nat.le_of_ble_eq_true rfl) h (fun w5 x5 hw5 h => ?_)
      exact g_iret e_Qu_act_47 rfl ⟨Sh.n hw5, _, rfl, hw5, h⟩
    · have h := h.2 z4
      refine g_iconst (v := 0) e_Qu_act_34 (by decide) ?_
      exact g_iret e_Qu_act_35 rfl ⟨Sh.n hw3, _, rfl, hw3, h⟩
theorem en_Qu_act {d : Nat} {E : qE} {Q : qW → Int32 → Prop} {a1 : Int32} {a2 : Int32} {a3 : Int32} {w : qW} (hw : Sh w) (h : c_Qu_act_0 d E Q a1 a2 a3 w) : CaI (d + 42) M_Qu_act [.ref (qb E + 0), .int a1, .int a2, .int a3] E w Q := Ca.into hw rfl (Nat.le_of_ble_eq_true rfl) h
def c_Qu_trace_0 (d : Nat) (E : qE) (Q : qW → Int32 → Prop) (a1 : Int32) (w : qW) : Prop := Go (d + 1) M_Qu_trace E 161 161 (qFI Q) 0 [(0, .ref (qb E + 0)), (1, .int a1)] [] w
set_option maxHeartbeats 4000000 in
set_option maxRecDepth 8000 in
theorem s_Qu_trace_0 {d : Nat} {E : qE} {Q : qW → Int32 → Prop} {a1 : Int32} {w : qW} (hw : Sh w) (h : CaI d M_Ac_bodyAt [.ref (qb E + 100), .int a1] E w (fun w1 x1 => Q w1 x1)) : c_Qu_trace_0 d E Q a1 w := by
  unfold c_Qu_trace_0
  refine g_aload_n 0 e_Qu_trace_0 rfl rfl ?_
  refine gf_Qu_49 rfl e_Qu_trace_1 hw lay_0 (by decide) (sh_Qu_acting hw) ?_
  refine g_iload_n 1 e_Qu_trace_4 rfl rfl ?_
  refine w_callVI (w := w) (As := [.int a1]) (rest := []) e_Qu_trace_5 ok_Ac_bodyAt rfl km_Qu_252 kx_Ac_bodyAt kv_Ac_bodyAt rfl (by decide) hw lay_100 (by decide) rfl (Nat.le_of_ble_eq_true rfl) h (fun w1 x1 hw1 h => ?_)
  exact g_iret e_Qu_trace_8 rfl ⟨Sh.n hw1, _, rfl, hw1, h⟩
theorem en_Qu_trace {d : Nat} {E : qE} {Q : qW → Int32 → Prop} {a1 : Int32} {w : qW} (hw : Sh w) (h : c_Qu_trace_0 d E Q a1 w) : CaI (d + 1) M_Qu_trace [.ref (qb E + 0), .int a1] E w Q := Ca.into hw rfl (Nat.le_of_ble_eq_true rfl) h
def c_Qu_taken_0 (d : Nat) (E : qE) (Q : qW → Int32 → Prop) (a1 : Int32) (a2 : Int32) (w : qW) : Prop := Go (d + 1) M_Qu_taken E 161 161 (qFI Q) 0 [(0, .ref (qb E + 0)), (1, .int a1), (2, .int a2)] [] w
set_option maxHeartbeats 4000000 in
set_option maxRecDepth 8000 in
theorem s_Qu_taken_0 {d : Nat} {E : qE} {Q : qW → Int32 → Prop} {a1 : Int32} {a2 : Int32} {w : qW} (hw : Sh w) (h : CaI d M_Qu_within [.int a2, .int 0, .int 6] E w (fun w1 x1 => ((¬ x1 = 0) → (CaR d M_Pa_find [.ref (qb E + 15), .int a1] E w1 (fun w3 x3 => (x3 = none ∧ (Q w3 (-11))) ∨ (∃ i3, i3 < 6 ∧ x3 = some (15 + 3 + 2 * i3) ∧ (CaI d M_Th_isUnder [.ref (qb E + (15 + 3 + 2 * i3)), .int a2] E w3 (fun w4 x4 => ((x4 = 0) → (Q w4 (-12))) ∧ ((¬ x4 = 0) → (Q w4 (qi w4 (15 + 3 + 2 * i3) 1))))))))) ∧ ((x1 = 0) → (Q w1 (-2))))) : c_Qu_taken_0 d E Q a1 a2 w := by
  unfold c_Qu_taken_0
  refine g_iload_n 2 e_Qu_taken_0 rfl rfl ?_
  refine g_iconst (v := 0) e_Qu_taken_1 (by decide) ?_
  refine g_bipush (v := 6) e_Qu_taken_2 (by decide) ?_
  refine w_callSI (w := w) (As := [.int a2, .int 0, .int 6]) (rest := []) e_Qu_taken_4 ok_Qu_within rfl km_Qu_60 ks_Qu_within rfl (Nat.le_of_ble_eq_true rfl) h (fun w1 x1 hw1 h => ?_)
  refine g_if_ne 13 e_Qu_taken_7 (by decide) ⟨fun z2 => ?_, fun z2 => ?_⟩
  · have h := h.1 z2
    refine g_aload_n 0 e_Qu_taken_13 rfl rfl ?_
    refine gf_Qu_17 rfl e_Qu_taken_14 hw1 lay_0 (by decide) (sh_Qu_now hw1) ?_
    refine gf_Qu_64 rfl e_Qu_taken_17 hw1 (lay_Wh isWh5) (lt_Wh isWh5) (sh_Wh_pan hw1 isWh5) ?_
    refine g_iload_n 1 e_Qu_taken_20 rfl rfl ?_
    refine w_callVR (w := w1) (As := [.int a1]) (rest := []) e_Qu_taken_21 ok_Pa_find rfl km_Qu_74 kx_Pa_find kv_Pa_find rfl (by decide) hw1 (lay_Pa (isPan_Wh isWh5)) (lt_Pa (isPan_Wh isWh5)) rfl (Nat.le_of_ble_eq_true rfl) h (fun w3 x3 hw3 h => ?_)
    obtain ⟨rfl, h⟩ | ⟨i3, hi3, rfl, h⟩ := h
    · change Go _ _ _ _ _ _ _ _ (.null :: _) _
      refine g_astore_nN (lv := [(3, .null), (0, .ref (qb E + 0)), (1, .int a1), (2, .int a2)]) e_Qu_taken_24 rfl (by decide) rfl ?_
      refine g_aload_nN 0 e_Qu_taken_25 rfl rfl ?_
      refine g_ifnonnullN e_Qu_taken_26 ?_
      refine g_bipush (v := (-11)) e_Qu_taken_29 (by decide) ?_
      exact g_iret e_Qu_taken_31 rfl ⟨Sh.n hw3, _, rfl, hw3, h⟩
    · change Go _ _ _ _ _ _ _ _ (.ref (qb E + (15 + 3 + 2 * i3)) :: _) _
      refine g_astore_n (lv := [(3, .ref (qb E + (15 + 3 + 2 * i3))), (0, .ref (qb E + 0)), (1, .int a1), (2, .int a2)]) e_Qu_taken_24 rfl (by decide) rfl ?_
      refine g_aload_n 0 e_Qu_taken_25 rfl rfl ?_
      refine g_ifnonnull 32 e_Qu_taken_26 (by decide) ?_
      refine g_aload_n 0 e_Qu_taken_32 rfl rfl ?_
      refine g_iload_n 3 e_Qu_taken_33 rfl rfl ?_
      refine w_callVI (w := w3) (As := [.int a2]) (rest := []) e_Qu_taken_34 ok_Th_isUnder rfl km_Qu_255 kx_Th_isUnder kv_Th_isUnder rfl (by decide) hw3 (lay_Th (isTh_of (isPan_Wh isWh5) hi3)) (lt_Th (isTh_of (isPan_Wh isWh5) hi3)) rfl (Nat.le_of_ble_eq_true rfl) h (fun w4 x4 hw4 h => ?_)
      refine g_if_eq 47 e_Qu_taken_37 (by decide) ⟨fun z5 => ?_, fun z5 => ?_⟩
      · have h := h.1 z5
        refine g_bipush (v := (-12)) e_Qu_taken_47 (by decide) ?_
        exact g_iret e_Qu_taken_49 rfl ⟨Sh.n hw4, _, rfl, hw4, h⟩
      · have h := h.2 z5
        refine g_aload_n 0 e_Qu_taken_40 rfl rfl ?_
        refine gf_Qu_78 rfl e_Qu_taken_41 hw4 (lay_Th (isTh_of (isPan_Wh isWh5) hi3)) (lt_Th (isTh_of (isPan_Wh isWh5) hi3)) ?_
        refine g_goto 49 e_Qu_taken_44 (by decide) ?_
        exact g_iret e_Qu_taken_49 rfl ⟨Sh.n hw4, _, rfl, hw4, h⟩
  · have h := h.2 z2
    refine g_bipush (v := (-2)) e_Qu_taken_10 (by decide) ?_
    exact g_iret e_Qu_taken_12 rfl ⟨Sh.n hw1, _, rfl, hw1, h⟩
theorem en_Qu_taken {d : Nat} {E : qE} {Q : qW → Int32 → Prop} {a1 : Int32} {a2 : Int32} {w : qW} (hw : Sh w) (h : c_Qu_taken_0 d E Q a1 a2 w) : CaI (d + 1) M_Qu_taken [.ref (qb E + 0), .int a1, .int a2] E w Q := Ca.into hw rfl (Nat.le_of_ble_eq_true rfl) h
def c_Qu_count_0 (d : Nat) (E : qE) (Q : qW → Int32 → Prop) (a1 : Int32) (w : qW) : Prop := Go d M_Qu_count E 161 161 (qFI Q) 0 [(0, .ref (qb E + 0)), (1, .int a1)] [] w
set_option maxHeartbeats 4000000 in
set_option maxRecDepth 8000 in
theorem s_Qu_count_0 {d : Nat} {E : qE} {Q : qW → Int32 → Prop} {a1 : Int32} {w : qW} (hw : Sh w) (h : (a1 = 0 → (Q w (qi w 15 0))) ∧ (a1 = 1 → (Q w (qi w 0 6))) ∧ (a1 = 2 → (Q w (qi w 6 2))) ∧ (a1 = 3 → (Q w (qi w 9 2))) ∧ (a1 = 4 → (Q w (qi w 12 2))) ∧ (a1 = 5 → (Q w (qi w 73 1))) ∧ (a1 = 6 → (Q w (qi w 100 1))) ∧ ((a1.toInt < 0 ∨ 6 < a1.toInt) → (Q w (-2)))) : c_Qu_count_0 d E Q a1 w := by
  unfold c_Qu_count_0
  refine g_iload_n 1 e_Qu_count_0 rfl rfl ?_
  refine g_table e_Qu_count_1 7 (by decide) [44, 55, 60, 71, 82, 93, 101] 109 (by decide) (by decide +kernel) ⟨fun j1 hj1 hx1 => ?_, fun hx1 => ?_⟩
  · rcases (show j1 = 0 ∨ j1 = 1 ∨ j1 = 2 ∨ j1 = 3 ∨ j1 = 4 ∨ j1 = 5 ∨ j1 = 6 by omega) with rfl | rfl | rfl | rfl | rfl | rfl | rfl
    · have h := h.1 (q_key hx1 (by decide))
      change Go _ _ _ _ _ _ 44 _ _ _
      refine g_aload_n 0 e_Qu_count_44 rfl rfl ?_
      refine gf_Qu_17 rfl e_Qu_count_45 hw lay_0 (by decide) (sh_Qu_now hw) ?_
      refine gf_Qu_64 rfl e_Qu_count_48 hw (lay_Wh isWh5) (lt_Wh isWh5) (sh_Wh_pan hw isWh5) ?_
      refine gf_Qu_244 rfl e_Qu_count_51 hw (lay_Pa (isPan_Wh isWh5)) (lt_Pa (isPan_Wh isWh5)) ?_
      exact g_iret e_Qu_count_54 rfl ⟨Sh.n hw, _, rfl, hw, h⟩
    · have h := h.2.1 (q_key hx1 (by decide))
      change Go _ _ _ _ _ _ 55 _ _ _
      refine g_aload_n 0 e_Qu_count_55 rfl rfl ?_
      refine gf_Qu_133 rfl e_Qu_count_56 hw lay_0 (by decide) ?_
      exact g_iret e_Qu_count_59 rfl ⟨Sh.n hw, _, rfl, hw, h⟩
    · have h := h.2.2.1 (q_key hx1 (by decide))
      change Go _ _ _ _ _ _ 60 _ _ _
      refine g_aload_n 0 e_Qu_count_60 rfl rfl ?_
      refine gf_Qu_17 rfl e_Qu_count_61 hw lay_0 (by decide) (sh_Qu_now hw) ?_
      refine gf_Qu_188 rfl e_Qu_count_64 hw (lay_Wh isWh5) (lt_Wh isWh5) (sh_Wh_seen hw isWh5) ?_
      refine gf_Qu_221 rfl e_Qu_count_67 hw (lay_Ro (isRo1 isWh5)) (lt_Ro (isRo1 isWh5)) ?_
      exact g_iret e_Qu_count_70 rfl ⟨Sh.n hw, _, rfl, hw, h⟩
    · have h := h.2.2.2.1 (q_key hx1 (by decide))
      change Go _ _ _ _ _ _ 71 _ _ _
      refine g_aload_n 0 e_Qu_count_71 rfl rfl ?_
      refine gf_Qu_17 rfl e_Qu_count_72 hw lay_0 (by decide) (sh_Qu_now hw) ?_
      refine gf_Qu_211 rfl e_Qu_count_75 hw (lay_Wh isWh5) (lt_Wh isWh5) (sh_Wh_plan hw isWh5) ?_
      refine gf_Qu_221 rfl e_Qu_count_78 hw (lay_Ro (isRo2 isWh5)) (lt_Ro (isRo2 isWh5)) ?_
      exact g_iret e_Qu_count_81 rfl ⟨Sh.n hw, _, rfl, hw, h⟩
    · have h := h.2.2.2.2.1 (q_key hx1 (by decide))
      change Go _ _ _ _ _ _ 82 _ _ _
      refine g_aload_n 0 e_Qu_count_82 rfl rfl ?_
      refine gf_Qu_17 rfl e_Qu_count_83 hw lay_0 (by decide) (sh_Qu_now hw) ?_
      refine gf_Qu_218 rfl e_Qu_count_86 hw (lay_Wh isWh5) (lt_Wh isWh5) (sh_Wh_book hw isWh5) ?_
      refine gf_Qu_221 rfl e_Qu_count_89 hw (lay_Ro (isRo3 isWh5)) (lt_Ro (isRo3 isWh5)) ?_
      exact g_iret e_Qu_count_92 rfl ⟨Sh.n hw, _, rfl, hw, h⟩
    · have h := h.2.2.2.2.2.1 (q_key hx1 (by decide))
      change Go _ _ _ _ _ _ 93 _ _ _
      refine g_aload_n 0 e_Qu_count_93 rfl rfl ?_
      refine gf_Qu_38 rfl e_Qu_count_94 hw lay_0 (by decide) (sh_Qu_text hw) ?_
      refine gf_Qu_259 rfl e_Qu_count_97 hw lay_73 (by decide) ?_
      exact g_iret e_Qu_count_100 rfl ⟨Sh.n hw, _, rfl, hw, h⟩
    · have h := h.2.2.2.2.2.2.1 (q_key hx1 (by decide))
      change Go _ _ _ _ _ _ 101 _ _ _
      refine g_aload_n 0 e_Qu_count_101 rfl rfl ?_
      refine gf_Qu_49 rfl e_Qu_count_102 hw lay_0 (by decide) (sh_Qu_acting hw) ?_
      refine gf_Qu_262 rfl e_Qu_count_105 hw lay_100 (by decide) ?_
      exact g_iret e_Qu_count_108 rfl ⟨Sh.n hw, _, rfl, hw, h⟩
  · have h := h.2.2.2.2.2.2.2 hx1
    refine g_bipush (v := (-2)) e_Qu_count_109 (by decide) ?_
    exact g_iret e_Qu_count_111 rfl ⟨Sh.n hw, _, rfl, hw, h⟩
theorem en_Qu_count {d : Nat} {E : qE} {Q : qW → Int32 → Prop} {a1 : Int32} {w : qW} (hw : Sh w) (h : c_Qu_count_0 d E Q a1 w) : CaI d M_Qu_count [.ref (qb E + 0), .int a1] E w Q := Ca.into hw rfl (Nat.le_of_ble_eq_true rfl) h
def c_Qu_tape_0 (d : Nat) (E : qE) (Q : qW → Int32 → Prop) (a1 : Int32) (a2 : Int32) (a3 : Int32) (w : qW) : Prop := Go (d + 1) M_Qu_tape E 161 161 (qFI Q) 0 [(0, .ref (qb E + 0)), (1, .int a1), (2, .int a2), (3, .int a3)] [] w
set_option maxHeartbeats 4000000 in
set_option maxRecDepth 8000 in
theorem s_Qu_tape_0 {d : Nat} {E : qE} {Q : qW → Int32 → Prop} {a1 : Int32} {a2 : Int32} {a3 : Int32} {w : qW} (hw : Sh w) (h : CaI d M_Qu_within [.int a1, .int 0, .int 5] E w (fun w1 x1 => ((¬ x1 = 0) → (((¬ a2 = (-1)) → (CaI d M_Qu_within [.int a2, .int 0, .int 4] E w1 (fun w4 x4 => ((x4 = 0) → (Q w4 (-2))) ∧ ((¬ x4 = 0) → (((a3 ≤ 60) → (((0 ≤ a3) → (vp_in a1 6 ∧ (CaV d M_Ta_become [.ref (qb E + (103 + 2 * ((a1).toNatClampNeg))), .int a2, .int a3] E w4 (fun w9 => Q w9 1)))) ∧ ((¬ 0 ≤ a3) → (Q w4 (-14))))) ∧ ((¬ a3 ≤ 60) → (Q w4 (-2)))))))) ∧ ((a2 = (-1)) → (vp_in a1 6 ∧ (CaV d M_Ta_become [.ref (qb E + (103 + 2 * ((a1).toNatClampNeg))), .int (-1), .int 0] E w1 (fun w11 => Q w11 1)))))) ∧ ((x1 = 0) → (Q w1 (-1))))) : c_Qu_tape_0 d E Q a1 a2 a3 w := by
  unfold c_Qu_tape_0
  refine g_iload_n 1 e_Qu_tape_0 rfl rfl ?_
  refine g_iconst (v := 0) e_Qu_tape_1 (by decide) ?_
  refine g_iconst (v := 5) e_Qu_tape_2 (by decide) ?_
  refine w_callSI (w := w) (As := [.int a1, .int 0, .int 5]) (rest := []) e_Qu_tape_3 ok_Qu_within rfl km_Qu_60 ks_Qu_within rfl (Nat.le_of_ble_eq_true rfl) h (fun w1 x1 hw1 h => ?_)
  refine g_if_ne 11 e_Qu_tape_6 (by decide) ⟨fun z2 => ?_, fun z2 => ?_⟩
  · have h := h.1 z2
    refine g_iload_n 2 e_Qu_tape_11 rfl rfl ?_
    refine g_iconst (v := (-1)) e_Qu_tape_12 (by decide) ?_
    refine g_icmp_ne 29 e_Qu_tape_13 (by decide) ⟨fun z3 => ?_, fun z3 => ?_⟩
    · have h := h.1 z3
      refine g_iload_n 2 e_Qu_tape_29 rfl rfl ?_
      refine g_iconst (v := 0) e_Qu_tape_30 (by decide) ?_
      refine g_iconst (v := 4) e_Qu_tape_31 (by decide) ?_
      refine w_callSI (w := w1) (As := [.int a2, .int 0, .int 4]) (rest := []) e_Qu_tape_32 ok_Qu_within rfl km_Qu_60 ks_Qu_within rfl (Nat.le_of_ble_eq_true rfl) h (fun w4 x4 hw4 h => ?_)
      refine g_if_eq 44 e_Qu_tape_35 (by decide) ⟨fun z5 => ?_, fun z5 => ?_⟩
      · have h := h.1 z5
        refine g_bipush (v := (-2)) e_Qu_tape_44 (by decide) ?_
        exact g_iret e_Qu_tape_46 rfl ⟨Sh.n hw4, _, rfl, hw4, h⟩
      · have h := h.2 z5
        refine g_iload_n 3 e_Qu_tape_38 rfl rfl ?_
        refine g_bipush (v := 60) e_Qu_tape_39 (by decide) ?_
        refine g_icmp_le 47 e_Qu_tape_41 (by decide) ⟨fun z6 => ?_, fun z6 => ?_⟩
        · have h := h.1 z6
          refine g_iload_n 3 e_Qu_tape_47 rfl rfl ?_
          refine g_if_ge 54 e_Qu_tape_48 (by decide) ⟨fun z7 => ?_, fun z7 => ?_⟩
          · have h := h.1 z7
            refine g_aload_n 0 e_Qu_tape_54 rfl rfl ?_
            refine gf_Qu_55 rfl e_Qu_tape_55 hw4 lay_0 (by decide) (sh_Qu_tapes hw4) ?_
            refine g_iload_n 1 e_Qu_tape_58 rfl rfl ?_
            obtain ⟨o8, h⟩ := h
            refine w_aaload e_Qu_tape_59 hw4 lay_102 (Or.inr (Or.inr rfl)) (by decide) o8 (sh_Taps hw4 o8) ?_
            refine g_iload_n 2 e_Qu_tape_60 rfl rfl ?_
            refine g_iload_n 3 e_Qu_tape_61 rfl rfl ?_
            refine w_callVV (w := w4) (As := [.int a2, .int a3]) (rest := []) e_Qu_tape_62 ok_Ta_become rfl km_Qu_265 kx_Ta_become kv_Ta_become rfl (by decide) hw4 (lay_Ta (isTa_in o8)) (lt_Ta (isTa_in o8)) rfl (Nat.le_of_ble_eq_true rfl) h (fun w9 hw9 h => ?_)
            refine g_iconst (v := 1) e_Qu_tape_65 (by decide) ?_
            exact g_iret e_Qu_tape_66 rfl ⟨Sh.n hw9, _, rfl, hw9, h⟩
          · have h := h.2 z7
            refine g_bipush (v := (-14)) e_Qu_tape_51 (by decide) ?_
            exact g_iret e_Qu_tape_53 rfl ⟨Sh.n hw4, _, rfl, hw4, h⟩
        · have h := h.2 z6
          refine g_bipush (v := (-2)) e_Qu_tape_44 (by decide) ?_
          exact g_iret e_Qu_tape_46 rfl ⟨Sh.n hw4, _, rfl, hw4, h⟩
    · have h := h.2 z3
      refine g_aload_n 0 e_Qu_tape_16 rfl rfl ?_
      refine gf_Qu_55 rfl e_Qu_tape_17 hw1 lay_0 (by decide) (sh_Qu_tapes hw1) ?_
      refine g_iload_n 1 e_Qu_tape_20 rfl rfl ?_
      obtain ⟨o10, h⟩ := h
      refine w_aaload e_Qu_tape_21 hw1 lay_102 (Or.inr (Or.inr rfl)) (by decide) o10 (sh_Taps hw1 o10) ?_
      refine g_iconst (v := (-1)) e_Qu_tape_22 (by decide) ?_
      refine g_iconst (v := 0) e_Qu_tape_23 (by decide) ?_
      refine w_callVV (w := w1) (As := [.int (-1), .int 0]) (rest := []) e_Qu_tape_24 ok_Ta_become rfl km_Qu_265 kx_Ta_become kv_Ta_become rfl (by decide) hw1 (lay_Ta (isTa_in o10)) (lt_Ta (isTa_in o10)) rfl (Nat.le_of_ble_eq_true rfl) h (fun w11 hw11 h => ?_)
      refine g_iconst (v := 1) e_Qu_tape_27 (by decide) ?_
      exact g_iret e_Qu_tape_28 rfl ⟨Sh.n hw11, _, rfl, hw11, h⟩
  · have h := h.2 z2
    refine g_iconst (v := (-1)) e_Qu_tape_9 (by decide) ?_
    exact g_iret e_Qu_tape_10 rfl ⟨Sh.n hw1, _, rfl, hw1, h⟩
theorem en_Qu_tape {d : Nat} {E : qE} {Q : qW → Int32 → Prop} {a1 : Int32} {a2 : Int32} {a3 : Int32} {w : qW} (hw : Sh w) (h : c_Qu_tape_0 d E Q a1 a2 a3 w) : CaI (d + 1) M_Qu_tape [.ref (qb E + 0), .int a1, .int a2, .int a3] E w Q := Ca.into hw rfl (Nat.le_of_ble_eq_true rfl) h
def c_Qu_item_0 (d : Nat) (E : qE) (Q : qW → Int32 → Prop) (a1 : Int32) (a2 : Int32) (a3 : Int64) (w : qW) : Prop := Go (d + 1) M_Qu_item E 161 161 (qFI Q) 0 [(0, .ref (qb E + 0)), (1, .int a1), (2, .int a2), (3, .long a3)] [] w
set_option maxHeartbeats 4000000 in
set_option maxRecDepth 8000 in
theorem s_Qu_item_0 {d : Nat} {E : qE} {Q : qW → Int32 → Prop} {a1 : Int32} {a2 : Int32} {a3 : Int64} {w : qW} (hw : Sh w) (h : CaI d M_Qu_within [.int a1, .int 0, .int 5] E w (fun w1 x1 => ((¬ x1 = 0) → (vp_in a1 6 ∧ (((¬ (qi w1 (103 + 2 * ((a1).toNatClampNeg)) 0) = (-1)) → (CaI d M_Ta_has [.ref (qb E + (103 + 2 * ((a1).toNatClampNeg))), .int a2] E w1 (fun w5 x5 => ((¬ x5 = 0) → (CaL d M_Ta_fitted [.ref (qb E + (103 + 2 * ((a1).toNatClampNeg))), .long a3] E w5 (fun w7 x7 => vp_in a2 60 ∧ (Q (qpl w7 ((103 + 2 * ((a1).toNatClampNeg)) + 1) ((a2).toNatClampNeg) x7) 1)))) ∧ ((x5 = 0) → (Q w5 (-13)))))) ∧ (((qi w1 (103 + 2 * ((a1).toNatClampNeg)) 0) = (-1)) → (Q w1 (-11)))))) ∧ ((x1 = 0) → (Q w1 (-1))))) : c_Qu_item_0 d E Q a1 a2 a3 w := by
  unfold c_Qu_item_0
  refine g_iload_n 1 e_Qu_item_0 rfl rfl ?_
  refine g_iconst (v := 0) e_Qu_item_1 (by decide) ?_
  refine g_iconst (v := 5) e_Qu_item_2 (by decide) ?_
  refine w_callSI (w := w) (As := [.int a1, .int 0, .int 5]) (rest := []) e_Qu_item_3 ok_Qu_within rfl km_Qu_60 ks_Qu_within rfl (Nat.le_of_ble_eq_true rfl) h (fun w1 x1 hw1 h => ?_)
  refine g_if_ne 11 e_Qu_item_6 (by decide) ⟨fun z2 => ?_, fun z2 => ?_⟩
  · have h := h.1 z2
    refine g_aload_n 0 e_Qu_item_11 rfl rfl ?_
    refine gf_Qu_55 rfl e_Qu_item_12 hw1 lay_0 (by decide) (sh_Qu_tapes hw1) ?_
    refine g_iload_n 1 e_Qu_item_15 rfl rfl ?_
    obtain ⟨o3, h⟩ := h
    refine w_aaload e_Qu_item_16 hw1 lay_102 (Or.inr (Or.inr rfl)) (by decide) o3 (sh_Taps hw1 o3) ?_
    refine g_astore (lv := [(5, .ref (qb E + (103 + 2 * ((a1).toNatClampNeg)))), (0, .ref (qb E + 0)), (1, .int a1), (2, .int a2), (3, .long a3)]) e_Qu_item_17 (by decide) rfl ?_
    refine g_aload 0 e_Qu_item_19 rfl ?_
    refine gf_Qu_230 rfl e_Qu_item_21 hw1 (lay_Ta (isTa_in o3)) (lt_Ta (isTa_in o3)) ?_
    refine g_iconst (v := (-1)) e_Qu_item_24 (by decide) ?_
    refine g_icmp_ne 31 e_Qu_item_25 (by decide) ⟨fun z4 => ?_, fun z4 => ?_⟩
    · have h := h.1 z4
      refine g_aload 0 e_Qu_item_31 rfl ?_
      refine g_iload_n 3 e_Qu_item_33 rfl rfl ?_
      refine w_callVI (w := w1) (As := [.int a2]) (rest := []) e_Qu_item_34 ok_Ta_has rfl km_Qu_269 kx_Ta_has kv_Ta_has rfl (by decide) hw1 (lay_Ta (isTa_in o3)) (lt_Ta (isTa_in o3)) rfl (Nat.le_of_ble_eq_true rfl) h (fun w5 x5 hw5 h => ?_)
      refine g_if_ne 43 e_Qu_item_37 (by decide) ⟨fun z6 => ?_, fun z6 => ?_⟩
      · have h := h.1 z6
        refine g_aload 0 e_Qu_item_43 rfl ?_
        refine gf_Qu_272 rfl e_Qu_item_45 hw5 (lay_Ta (isTa_in o3)) (lt_Ta (isTa_in o3)) (sh_Ta_items hw5 (isTa_in o3)) ?_
        refine g_iload_n 3 e_Qu_item_48 rfl rfl ?_
        refine g_aload 0 e_Qu_item_49 rfl ?_
        refine g_lload_n 4 e_Qu_item_51 rfl rfl ?_
        refine w_callVL (w := w5) (As := [.long a3]) (rest := [.int a2, .ref (qb E + ((103 + 2 * ((a1).toNatClampNeg)) + 1))]) e_Qu_item_52 ok_Ta_fitted rfl km_Qu_276 kx_Ta_fitted kv_Ta_fitted rfl (by decide) hw5 (lay_Ta (isTa_in o3)) (lt_Ta (isTa_in o3)) rfl (Nat.le_of_ble_eq_true rfl) h (fun w7 x7 hw7 h => ?_)
        obtain ⟨o8, h⟩ := h
        refine w_lastore ((a2).toNatClampNeg) e_Qu_item_55 hw7 (lay_Ta1 (isTa_in o3)) (lt_Ta1 (isTa_in o3)) o8 rfl ?_
        refine g_iconst (v := 1) e_Qu_item_56 (by decide) ?_
        exact g_iret e_Qu_item_57 rfl ⟨Sh.n hw7, _, rfl, hw7, h⟩
      · have h := h.2 z6
        refine g_bipush (v := (-13)) e_Qu_item_40 (by decide) ?_
        exact g_iret e_Qu_item_42 rfl ⟨Sh.n hw5, _, rfl, hw5, h⟩
    · have h := h.2 z4
      refine g_bipush (v := (-11)) e_Qu_item_28 (by decide) ?_
      exact g_iret e_Qu_item_30 rfl ⟨Sh.n hw1, _, rfl, hw1, h⟩
  · have h := h.2 z2
    refine g_iconst (v := (-1)) e_Qu_item_9 (by decide) ?_
    exact g_iret e_Qu_item_10 rfl ⟨Sh.n hw1, _, rfl, hw1, h⟩
theorem en_Qu_item {d : Nat} {E : qE} {Q : qW → Int32 → Prop} {a1 : Int32} {a2 : Int32} {a3 : Int64} {w : qW} (hw : Sh w) (h : c_Qu_item_0 d E Q a1 a2 a3 w) : CaI (d + 1) M_Qu_item [.ref (qb E + 0), .int a1, .int a2, .long a3] E w Q := Ca.into hw rfl (Nat.le_of_ble_eq_true rfl) h
def c_Qu_read_0 (d : Nat) (E : qE) (Q : qW → Int64 → Prop) (a1 : Int32) (a2 : Int32) (w : qW) : Prop := Go (d + 1) M_Qu_read E 161 161 (qFL Q) 0 [(0, .ref (qb E + 0)), (1, .int a1), (2, .int a2)] [] w
set_option maxHeartbeats 4000000 in
set_option maxRecDepth 8000 in
theorem s_Qu_read_0 {d : Nat} {E : qE} {Q : qW → Int64 → Prop} {a1 : Int32} {a2 : Int32} {w : qW} (hw : Sh w) (h : CaI d M_Qu_within [.int a1, .int 0, .int 5] E w (fun w1 x1 => ((x1 = 0) → (Q w1 (-9223372036854775808))) ∧ ((¬ x1 = 0) → (vp_in a1 6 ∧ (CaI d M_Ta_has [.ref (qb E + (103 + 2 * ((a1).toNatClampNeg))), .int a2] E w1 (fun w4 x4 => ((¬ x4 = 0) → (vp_in a1 6 ∧ (vp_in a2 60 ∧ (Q w4 (ql w4 ((103 + 2 * ((a1).toNatClampNeg)) + 1) ((a2).toNatClampNeg)))))) ∧ ((x4 = 0) → (Q w4 (-9223372036854775808))))))))) : c_Qu_read_0 d E Q a1 a2 w := by
  unfold c_Qu_read_0
  refine g_iload_n 1 e_Qu_read_0 rfl rfl ?_
  refine g_iconst (v := 0) e_Qu_read_1 (by decide) ?_
  refine g_iconst (v := 5) e_Qu_read_2 (by decide) ?_
  refine w_callSI (w := w) (As := [.int a1, .int 0, .int 5]) (rest := []) e_Qu_read_3 ok_Qu_within rfl km_Qu_60 ks_Qu_within rfl (Nat.le_of_ble_eq_true rfl) h (fun w1 x1 hw1 h => ?_)
  refine g_if_eq 22 e_Qu_read_6 (by decide) ⟨fun z2 => ?_, fun z2 => ?_⟩
  · have h := h.1 z2
    refine g_ldc2 (v := (-9223372036854775808)) e_Qu_read_22 kk_Qu_202 ?_
    exact g_lret e_Qu_read_25 rfl ⟨Sh.n hw1, _, rfl, hw1, h⟩
  · have h := h.2 z2
    refine g_aload_n 0 e_Qu_read_9 rfl rfl ?_
    refine gf_Qu_55 rfl e_Qu_read_10 hw1 lay_0 (by decide) (sh_Qu_tapes hw1) ?_
    refine g_iload_n 1 e_Qu_read_13 rfl rfl ?_
    obtain ⟨o3, h⟩ := h
    refine w_aaload e_Qu_read_14 hw1 lay_102 (Or.inr (Or.inr rfl)) (by decide) o3 (sh_Taps hw1 o3) ?_
    refine g_iload_n 2 e_Qu_read_15 rfl rfl ?_
    refine w_callVI (w := w1) (As := [.int a2]) (rest := []) e_Qu_read_16 ok_Ta_has rfl km_Qu_269 kx_Ta_has kv_Ta_has rfl (by decide) hw1 (lay_Ta (isTa_in o3)) (lt_Ta (isTa_in o3)) rfl (Nat.le_of_ble_eq_true rfl) h (fun w4 x4 hw4 h => ?_)
    refine g_if_ne 26 e_Qu_read_19 (by decide) ⟨fun z5 => ?_, fun z5 => ?_⟩
    · have h := h.1 z5
      refine g_aload_n 0 e_Qu_read_26 rfl rfl ?_
      refine gf_Qu_55 rfl e_Qu_read_27 hw4 lay_0 (by decide) (sh_Qu_tapes hw4) ?_
      refine g_iload_n 1 e_Qu_read_30 rfl rfl ?_
      obtain ⟨o6, h⟩ := h
      refine w_aaload e_Qu_read_31 hw4 lay_102 (Or.inr (Or.inr rfl)) (by decide) o6 (sh_Taps hw4 o6) ?_
      refine gf_Qu_272 rfl e_Qu_read_32 hw4 (lay_Ta (isTa_in o6)) (lt_Ta (isTa_in o6)) (sh_Ta_items hw4 (isTa_in o6)) ?_
      refine g_iload_n 2 e_Qu_read_35 rfl rfl ?_
      obtain ⟨o7, h⟩ := h
      refine w_laload ((a2).toNatClampNeg) e_Qu_read_36 hw4 (lay_Ta1 (isTa_in o6)) (lt_Ta1 (isTa_in o6)) o7 rfl ?_
      exact g_lret e_Qu_read_37 rfl ⟨Sh.n hw4, _, rfl, hw4, h⟩
    · have h := h.2 z5
      refine g_ldc2 (v := (-9223372036854775808)) e_Qu_read_22 kk_Qu_202 ?_
      exact g_lret e_Qu_read_25 rfl ⟨Sh.n hw4, _, rfl, hw4, h⟩
theorem en_Qu_read {d : Nat} {E : qE} {Q : qW → Int64 → Prop} {a1 : Int32} {a2 : Int32} {w : qW} (hw : Sh w) (h : c_Qu_read_0 d E Q a1 a2 w) : CaL (d + 1) M_Qu_read [.ref (qb E + 0), .int a1, .int a2] E w Q := Ca.into hw rfl (Nat.le_of_ble_eq_true rfl) h
def c_Qu_shift_0 (d : Nat) (E : qE) (Q : qW → Int32 → Prop) (a1 : Int32) (a2 : Int32) (a3 : Int32) (a4 : Int32) (a5 : Int32) (w : qW) : Prop := Go (d + 1) M_Qu_shift E 161 161 (qFI Q) 0 [(0, .ref (qb E + 0)), (1, .int a1), (2, .int a2), (3, .int a3), (4, .int a4), (5, .int a5)] [] w
set_option maxHeartbeats 4000000 in
set_option maxRecDepth 8000 in
theorem s_Qu_shift_0 {d : Nat} {E : qE} {Q : qW → Int32 → Prop} {a1 : Int32} {a2 : Int32} {a3 : Int32} {a4 : Int32} {a5 : Int32} {w : qW} (hw : Sh w) (h : CaI d M_Qu_within [.int a1, .int 0, .int 5] E w (fun w1 x1 => ((x1 = 0) → (Q w1 (-1))) ∧ ((¬ x1 = 0) → (CaI d M_Qu_within [.int a3, .int 0, .int 5] E w1 (fun w3 x3 => ((¬ x3 = 0) → (vp_in a1 6 ∧ (vp_in a3 6 ∧ ((((qi w3 (103 + 2 * ((a1).toNatClampNeg)) 0) = (-1)) → (Q w3 (-11))) ∧ ((¬ (qi w3 (103 + 2 * ((a1).toNatClampNeg)) 0) = (-1)) → (((¬ (qi w3 (103 + 2 * ((a3).toNatClampNeg)) 0) = (-1)) → ((((qi w3 (103 + 2 * ((a1).toNatClampNeg)) 0) = (qi w3 (103 + 2 * ((a3).toNatClampNeg)) 0)) → (CaI d M_Ta_hasRun [.ref (qb E + (103 + 2 * ((a1).toNatClampNeg))), .int a2, .int a5] E w3 (fun w10 x10 => ((x10 = 0) → (Q w10 (-13))) ∧ ((¬ x10 = 0) → (CaI d M_Ta_hasRun [.ref (qb E + (103 + 2 * ((a3).toNatClampNeg))), .int a4, .int a5] E w10 (fun w12 x12 => ((¬ x12 = 0) → (¬ a2 < 0 ∧ (¬ a4 < 0 ∧ (¬ a5 < 0 ∧ ((a2 : Int32).toNatClampNeg + (a5 : Int32).toNatClampNeg ≤ 60 ∧ ((a4 : Int32).toNatClampNeg + (a5 : Int32).toNatClampNeg ≤ 60 ∧ (Q (qcl w12 ((103 + 2 * ((a1).toNatClampNeg)) + 1) ((a2).toNatClampNeg) ((103 + 2 * ((a3).toNatClampNeg)) + 1) ((a4).toNatClampNeg) ((a5).toNatClampNeg)) a5))))))) ∧ ((x12 = 0) → (Q w12 (-13))))))))) ∧ ((¬ (qi w3 (103 + 2 * ((a1).toNatClampNeg)) 0) = (qi w3 (103 + 2 * ((a3).toNatClampNeg)) 0)) → (Q w3 (-12))))) ∧ (((qi w3 (103 + 2 * ((a3).toNatClampNeg)) 0) = (-1)) → (Q w3 (-11))))))))) ∧ ((x3 = 0) → (Q w3 (-1)))))))) : c_Qu_shift_0 d E Q a1 a2 a3 a4 a5 w := by
  unfold c_Qu_shift_0
  refine g_iload_n 1 e_Qu_shift_0 rfl rfl ?_
  refine g_iconst (v := 0) e_Qu_shift_1 (by decide) ?_
  refine g_iconst (v := 5) e_Qu_shift_2 (by decide) ?_
  refine w_callSI (w := w) (As := [.int a1, .int 0, .int 5]) (rest := []) e_Qu_shift_3 ok_Qu_within rfl km_Qu_60 ks_Qu_within rfl (Nat.le_of_ble_eq_true rfl) h (fun w1 x1 hw1 h => ?_)
  refine g_if_eq 18 e_Qu_shift_6 (by decide) ⟨fun z2 => ?_, fun z2 => ?_⟩
  · have h := h.1 z2
    refine g_iconst (v := (-1)) e_Qu_shift_18 (by decide) ?_
    exact g_iret e_Qu_shift_19 rfl ⟨Sh.n hw1, _, rfl, hw1, h⟩
  · have h := h.2 z2
    refine g_iload_n 3 e_Qu_shift_9 rfl rfl ?_
    refine g_iconst (v := 0) e_Qu_shift_10 (by decide) ?_
    refine g_iconst (v := 5) e_Qu_shift_11 (by decide) ?_
    refine w_callSI (w := w1) (As := [.int a3, .int 0, .int 5]) (rest := []) e_Qu_shift_12 ok_Qu_within rfl km_Qu_60 ks_Qu_within rfl (Nat.le_of_ble_eq_true rfl) h (fun w3 x3 hw3 h => ?_)
    refine g_if_ne 20 e_Qu_shift_15 (by decide) ⟨fun z4 => ?_, fun z4 => ?_⟩
    · have h := h.1 z4
      refine g_aload_n 0 e_Qu_shift_20 rfl rfl ?_
      refine gf_Qu_55 rfl e_Qu_shift_21 hw3 lay_0 (by decide) (sh_Qu_tapes hw3) ?_
      refine g_iload_n 1 e_Qu_shift_24 rfl rfl ?_
      obtain ⟨o5, h⟩ := h
      refine w_aaload e_Qu_shift_25 hw3 lay_102 (Or.inr (Or.inr rfl)) (by decide) o5 (sh_Taps hw3 o5) ?_
      refine g_astore (lv := [(6, .ref (qb E + (103 + 2 * ((a1).toNatClampNeg)))), (0, .ref (qb E + 0)), (1, .int a1), (2, .int a2), (3, .int a3), (4, .int a4), (5, .int a5)]) e_Qu_shift_26 (by decide) rfl ?_
      refine g_aload_n 1 e_Qu_shift_28 rfl rfl ?_
      refine gf_Qu_55 rfl e_Qu_shift_29 hw3 lay_0 (by decide) (sh_Qu_tapes hw3) ?_
      refine g_iload_n 4 e_Qu_shift_32 rfl rfl ?_
      obtain ⟨o6, h⟩ := h
      refine w_aaload e_Qu_shift_33 hw3 lay_102 (Or.inr (Or.inr rfl)) (by decide) o6 (sh_Taps hw3 o6) ?_
      refine g_astore (lv := [(7, .ref (qb E + (103 + 2 * ((a3).toNatClampNeg)))), (6, .ref (qb E + (103 + 2 * ((a1).toNatClampNeg)))), (0, .ref (qb E + 0)), (1, .int a1), (2, .int a2), (3, .int a3), (4, .int a4), (5, .int a5)]) e_Qu_shift_34 (by decide) rfl ?_
      refine g_aload 1 e_Qu_shift_36 rfl ?_
      refine gf_Qu_230 rfl e_Qu_shift_38 hw3 (lay_Ta (isTa_in o5)) (lt_Ta (isTa_in o5)) ?_
      refine g_iconst (v := (-1)) e_Qu_shift_41 (by decide) ?_
      refine g_icmp_eq 54 e_Qu_shift_42 (by decide) ⟨fun z7 => ?_, fun z7 => ?_⟩
      · have h := h.1 z7
        refine g_bipush (v := (-11)) e_Qu_shift_54 (by decide) ?_
        exact g_iret e_Qu_shift_56 rfl ⟨Sh.n hw3, _, rfl, hw3, h⟩
      · have h := h.2 z7
        refine g_aload 0 e_Qu_shift_45 rfl ?_
        refine gf_Qu_230 rfl e_Qu_shift_47 hw3 (lay_Ta (isTa_in o6)) (lt_Ta (isTa_in o6)) ?_
        refine g_iconst (v := (-1)) e_Qu_shift_50 (by decide) ?_
        refine g_icmp_ne 57 e_Qu_shift_51 (by decide) ⟨fun z8 => ?_, fun z8 => ?_⟩
        · have h := h.1 z8
          refine g_aload 1 e_Qu_shift_57 rfl ?_
          refine gf_Qu_230 rfl e_Qu_shift_59 hw3 (lay_Ta (isTa_in o5)) (lt_Ta (isTa_in o5)) ?_
          refine g_aload 0 e_Qu_shift_62 rfl ?_
          refine gf_Qu_230 rfl e_Qu_shift_64 hw3 (lay_Ta (isTa_in o6)) (lt_Ta (isTa_in o6)) ?_
          refine g_icmp_eq 73 e_Qu_shift_67 (by decide) ⟨fun z9 => ?_, fun z9 => ?_⟩
          · have h := h.1 z9
            refine g_aload 1 e_Qu_shift_73 rfl ?_
            refine g_iload_n 4 e_Qu_shift_75 rfl rfl ?_
            refine g_iload 7 e_Qu_shift_76 rfl ?_
            refine w_callVI (w := w3) (As := [.int a2, .int a5]) (rest := []) e_Qu_shift_78 ok_Ta_hasRun rfl km_Qu_280 kx_Ta_hasRun kv_Ta_hasRun rfl (by decide) hw3 (lay_Ta (isTa_in o5)) (lt_Ta (isTa_in o5)) rfl (Nat.le_of_ble_eq_true rfl) h (fun w10 x10 hw10 h => ?_)
            refine g_if_eq 96 e_Qu_shift_81 (by decide) ⟨fun z11 => ?_, fun z11 => ?_⟩
            · have h := h.1 z11
              refine g_bipush (v := (-13)) e_Qu_shift_96 (by decide) ?_
              exact g_iret e_Qu_shift_98 rfl ⟨Sh.n hw10, _, rfl, hw10, h⟩
            · have h := h.2 z11
              refine g_aload 0 e_Qu_shift_84 rfl ?_
              refine g_iload 6 e_Qu_shift_86 rfl ?_
              refine g_iload 7 e_Qu_shift_88 rfl ?_
              refine w_callVI (w := w10) (As := [.int a4, .int a5]) (rest := []) e_Qu_shift_90 ok_Ta_hasRun rfl km_Qu_280 kx_Ta_hasRun kv_Ta_hasRun rfl (by decide) hw10 (lay_Ta (isTa_in o6)) (lt_Ta (isTa_in o6)) rfl (Nat.le_of_ble_eq_true rfl) h (fun w12 x12 hw12 h => ?_)
              refine g_if_ne 99 e_Qu_shift_93 (by decide) ⟨fun z13 => ?_, fun z13 => ?_⟩
              · have h := h.1 z13
                refine g_aload 1 e_Qu_shift_99 rfl ?_
                refine gf_Qu_272 rfl e_Qu_shift_101 hw12 (lay_Ta (isTa_in o5)) (lt_Ta (isTa_in o5)) (sh_Ta_items hw12 (isTa_in o5)) ?_
                refine g_iload_n 4 e_Qu_shift_104 rfl rfl ?_
                refine g_aload 0 e_Qu_shift_105 rfl ?_
                refine gf_Qu_272 rfl e_Qu_shift_107 hw12 (lay_Ta (isTa_in o6)) (lt_Ta (isTa_in o6)) (sh_Ta_items hw12 (isTa_in o6)) ?_
                refine g_iload 6 e_Qu_shift_110 rfl ?_
                refine g_iload 7 e_Qu_shift_112 rfl ?_
                obtain ⟨o14, h⟩ := h
                obtain ⟨o15, h⟩ := h
                obtain ⟨o16, h⟩ := h
                obtain ⟨o17, h⟩ := h
                obtain ⟨o18, h⟩ := h
                refine g_copyl (i0 := 0) e_Qu_shift_114 km_Qu_284 (lay_Ta1 (isTa_in o5)) (lay_Ta1 (isTa_in o6)) (qlt hw12 (lt_Ta1 (isTa_in o5))) (qlt hw12 (lt_Ta1 (isTa_in o6))) hw12.1 o14 o15 o16 o17 o18 (Nat.le_of_ble_eq_true rfl) ?_
                refine g_iload 7 e_Qu_shift_117 rfl ?_
                exact g_iret e_Qu_shift_119 rfl ⟨Sh.n hw12, _, rfl, hw12, h⟩
              · have h := h.2 z13
                refine g_bipush (v := (-13)) e_Qu_shift_96 (by decide) ?_
                exact g_iret e_Qu_shift_98 rfl ⟨Sh.n hw12, _, rfl, hw12, h⟩
          · have h := h.2 z9
            refine g_bipush (v := (-12)) e_Qu_shift_70 (by decide) ?_
            exact g_iret e_Qu_shift_72 rfl ⟨Sh.n hw3, _, rfl, hw3, h⟩
        · have h := h.2 z8
          refine g_bipush (v := (-11)) e_Qu_shift_54 (by decide) ?_
          exact g_iret e_Qu_shift_56 rfl ⟨Sh.n hw3, _, rfl, hw3, h⟩
    · have h := h.2 z4
      refine g_iconst (v := (-1)) e_Qu_shift_18 (by decide) ?_
      exact g_iret e_Qu_shift_19 rfl ⟨Sh.n hw3, _, rfl, hw3, h⟩
theorem en_Qu_shift {d : Nat} {E : qE} {Q : qW → Int32 → Prop} {a1 : Int32} {a2 : Int32} {a3 : Int32} {a4 : Int32} {a5 : Int32} {w : qW} (hw : Sh w) (h : c_Qu_shift_0 d E Q a1 a2 a3 a4 a5 w) : CaI (d + 1) M_Qu_shift [.ref (qb E + 0), .int a1, .int a2, .int a3, .int a4, .int a5] E w Q := Ca.into hw rfl (Nat.le_of_ble_eq_true rfl) h
def c_Qu_within_0 (d : Nat) (E : qE) (Q : qW → Int32 → Prop) (a0 : Int32) (a1 : Int32) (a2 : Int32) (w : qW) : Prop := Go d M_Qu_within E 161 161 (qFI Q) 0 [(0, .int a0), (1, .int a1), (2, .int a2)] [] w
set_option maxHeartbeats 4000000 in
set_option maxRecDepth 8000 in
theorem s_Qu_within_0 {d : Nat} {E : qE} {Q : qW → Int32 → Prop} {a0 : Int32} {a1 : Int32} {a2 : Int32} {w : qW} (hw : Sh w) (h : ((a0 < a1) → (Q w 0)) ∧ ((¬ a0 < a1) → (((a2 < a0) → (Q w 0)) ∧ ((¬ a2 < a0) → (Q w 1))))) : c_Qu_within_0 d E Q a0 a1 a2 w := by
  unfold c_Qu_within_0
  refine g_iload_n 0 e_Qu_within_0 rfl rfl ?_
  refine g_iload_n 1 e_Qu_within_1 rfl rfl ?_
  refine g_icmp_lt 14 e_Qu_within_2 (by decide) ⟨fun z1 => ?_, fun z1 => ?_⟩
  · have h := h.1 z1
    refine g_iconst (v := 0) e_Qu_within_14 (by decide) ?_
    exact g_zret e_Qu_within_15 rfl (Or.inl rfl) ⟨Sh.n hw, _, rfl, hw, h⟩
  · have h := h.2 z1
    refine g_iload_n 0 e_Qu_within_5 rfl rfl ?_
    refine g_iload_n 2 e_Qu_within_6 rfl rfl ?_
    refine g_icmp_gt 14 e_Qu_within_7 (by decide) ⟨fun z2 => ?_, fun z2 => ?_⟩
    · have h := h.1 z2
      refine g_iconst (v := 0) e_Qu_within_14 (by decide) ?_
      exact g_zret e_Qu_within_15 rfl (Or.inl rfl) ⟨Sh.n hw, _, rfl, hw, h⟩
    · have h := h.2 z2
      refine g_iconst (v := 1) e_Qu_within_10 (by decide) ?_
      refine g_goto 15 e_Qu_within_11 (by decide) ?_
      exact g_zret e_Qu_within_15 rfl (Or.inr rfl) ⟨Sh.n hw, _, rfl, hw, h⟩
theorem en_Qu_within {d : Nat} {E : qE} {Q : qW → Int32 → Prop} {a0 : Int32} {a1 : Int32} {a2 : Int32} {w : qW} (hw : Sh w) (h : c_Qu_within_0 d E Q a0 a1 a2 w) : CaI d M_Qu_within [.int a0, .int a1, .int a2] E w Q := Ca.into hw rfl (Nat.le_of_ble_eq_true rfl) h
def c_Qu_fraction_0 (d : Nat) (E : qE) (Q : qW → Int64 → Prop) (a0 : Int32) (a1 : Int32) (a2 : Int32) (w : qW) : Prop := Go (d + 1) M_Qu_fraction E 161 161 (qFL Q) 0 [(0, .int a0), (1, .int a1), (2, .int a2)] [] w
set_option maxHeartbeats 4000000 in
set_option maxRecDepth 8000 in
theorem s_Qu_fraction_0 {d : Nat} {E : qE} {Q : qW → Int64 → Prop} {a0 : Int32} {a1 : Int32} {a2 : Int32} {w : qW} (hw : Sh w) (h : CaI d M_Jm_abs [.int a0] E w (fun w1 x1 => CaI d M_Qu_commonDivisor [.int x1, .int a1] E w1 (fun w2 x2 => ((¬ x2 = 0) → (((¬ a2 = 0) → ((¬ x2 = 0) ∧ (Q w2 (((a1 / x2) : Int32).toInt64)))) ∧ ((a2 = 0) → ((¬ x2 = 0) ∧ (Q w2 (((a0 / x2) : Int32).toInt64)))))) ∧ ((x2 = 0) → (Q w2 (-9223372036854775808)))))) : c_Qu_fraction_0 d E Q a0 a1 a2 w := by
  unfold c_Qu_fraction_0
  refine g_iload_n 0 e_Qu_fraction_0 rfl rfl ?_
  refine w_callSI (w := w) (As := [.int a0]) (rest := []) e_Qu_fraction_1 ok_Jm_abs rfl km_Qu_290 ks_Jm_abs rfl (Nat.le_of_ble_eq_true rfl) h (fun w1 x1 hw1 h => ?_)
  refine g_iload_n 1 e_Qu_fraction_4 rfl rfl ?_
  refine w_callSI (w := w1) (As := [.int x1, .int a1]) (rest := []) e_Qu_fraction_5 ok_Qu_commonDivisor rfl km_Qu_295 ks_Qu_commonDivisor rfl (Nat.le_of_ble_eq_true rfl) h (fun w2 x2 hw2 h => ?_)
  refine g_istore_n (lv := [(3, .int x2), (0, .int a0), (1, .int a1), (2, .int a2)]) e_Qu_fraction_8 rfl (by decide) rfl ?_
  refine g_iload_n 0 e_Qu_fraction_9 rfl rfl ?_
  refine g_if_ne 17 e_Qu_fraction_10 (by decide) ⟨fun z3 => ?_, fun z3 => ?_⟩
  · have h := h.1 z3
    refine g_iload_n 3 e_Qu_fraction_17 rfl rfl ?_
    refine g_if_ne 28 e_Qu_fraction_18 (by decide) ⟨fun z4 => ?_, fun z4 => ?_⟩
    · have h := h.1 z4
      refine g_iload_n 2 e_Qu_fraction_28 rfl rfl ?_
      refine g_iload_n 0 e_Qu_fraction_29 rfl rfl ?_
      obtain ⟨o5, h⟩ := h
      refine g_idiv e_Qu_fraction_30 o5 ?_
      refine g_i2l e_Qu_fraction_31 ?_
      exact g_lret e_Qu_fraction_32 rfl ⟨Sh.n hw2, _, rfl, hw2, h⟩
    · have h := h.2 z4
      refine g_iload_n 1 e_Qu_fraction_21 rfl rfl ?_
      refine g_iload_n 0 e_Qu_fraction_22 rfl rfl ?_
      obtain ⟨o6, h⟩ := h
      refine g_idiv e_Qu_fraction_23 o6 ?_
      refine g_i2l e_Qu_fraction_24 ?_
      refine g_goto 32 e_Qu_fraction_25 (by decide) ?_
      exact g_lret e_Qu_fraction_32 rfl ⟨Sh.n hw2, _, rfl, hw2, h⟩
  · have h := h.2 z3
    refine g_ldc2 (v := (-9223372036854775808)) e_Qu_fraction_13 kk_Qu_202 ?_
    exact g_lret e_Qu_fraction_16 rfl ⟨Sh.n hw2, _, rfl, hw2, h⟩
theorem en_Qu_fraction {d : Nat} {E : qE} {Q : qW → Int64 → Prop} {a0 : Int32} {a1 : Int32} {a2 : Int32} {w : qW} (hw : Sh w) (h : c_Qu_fraction_0 d E Q a0 a1 a2 w) : CaL (d + 1) M_Qu_fraction [.int a0, .int a1, .int a2] E w Q := Ca.into hw rfl (Nat.le_of_ble_eq_true rfl) h
def c_Qu_commonDivisor_0 (d : Nat) (E : qE) (Q : qW → Int32 → Prop) (a0 : Int32) (a1 : Int32) (w : qW) : Prop := Go d M_Qu_commonDivisor E 161 161 (qFI Q) 0 [(0, .int a0), (1, .int a1)] [] w
def c_Qu_commonDivisor_7 (d : Nat) (E : qE) (Q : qW → Int32 → Prop) (l2 : Int32) (l3 : Int32) (l4 : Int32) (w : qW) : Prop := Go d M_Qu_commonDivisor E 161 161 (qFI Q) 7 [(2, .int l2), (3, .int l3), (4, .int l4)] [] w
set_option maxHeartbeats 4000000 in
set_option maxRecDepth 8000 in
theorem s_Qu_commonDivisor_0 {d : Nat} {E : qE} {Q : qW → Int32 → Prop} {a0 : Int32} {a1 : Int32} {w : qW} (hw : Sh w) (h : c_Qu_commonDivisor_7 d E Q a0 a1 0 w) : c_Qu_commonDivisor_0 d E Q a0 a1 w := by
  unfold c_Qu_commonDivisor_0
  refine g_iload_n 0 e_Qu_commonDivisor_0 rfl rfl ?_
  refine g_istore_n (lv := [(2, .int a0), (0, .int a0), (1, .int a1)]) e_Qu_commonDivisor_1 rfl (by decide) rfl ?_
  refine g_iload_n 2 e_Qu_commonDivisor_2 rfl rfl ?_
  refine g_istore_n (lv := [(3, .int a1), (2, .int a0), (0, .int a0), (1, .int a1)]) e_Qu_commonDivisor_3 rfl (by decide) rfl ?_
  refine g_iconst (v := 0) e_Qu_commonDivisor_4 (by decide) ?_
  refine g_istore (lv := [(4, .int 0), (3, .int a1), (2, .int a0), (0, .int a0), (1, .int a1)]) e_Qu_commonDivisor_5 (by decide) rfl ?_
  refine g_loc [2, 1, 0] rfl ?_
  exact h
set_option maxHeartbeats 4000000 in
set_option maxRecDepth 8000 in
theorem s_Qu_commonDivisor_7 {d : Nat} {E : qE} {Q : qW → Int32 → Prop} {l2 : Int32} {l3 : Int32} {l4 : Int32} {w : qW} (hw : Sh w) (h : ((100 ≤ l4) → (Q w l2)) ∧ ((¬ 100 ≤ l4) → (((l3 ≤ 0) → (Q w l2)) ∧ ((¬ l3 ≤ 0) → ((¬ l3 = 0) ∧ (c_Qu_commonDivisor_7 d E Q l3 (l2 - l2 / l3 * l3) (l4 + 1) w)))))) : c_Qu_commonDivisor_7 d E Q l2 l3 l4 w := by
  unfold c_Qu_commonDivisor_7
  refine g_iload 2 e_Qu_commonDivisor_7 rfl ?_
  refine g_bipush (v := 100) e_Qu_commonDivisor_9 (by decide) ?_
  refine g_icmp_ge 34 e_Qu_commonDivisor_11 (by decide) ⟨fun z1 => ?_, fun z1 => ?_⟩
  · have h := h.1 z1
    refine g_iload_n 0 e_Qu_commonDivisor_34 rfl rfl ?_
    exact g_iret e_Qu_commonDivisor_35 rfl ⟨Sh.n hw, _, rfl, hw, h⟩
  · have h := h.2 z1
    refine g_iload_n 1 e_Qu_commonDivisor_14 rfl rfl ?_
    refine g_if_le 34 e_Qu_commonDivisor_15 (by decide) ⟨fun z2 => ?_, fun z2 => ?_⟩
    · have h := h.1 z2
      refine g_iload_n 0 e_Qu_commonDivisor_34 rfl rfl ?_
      exact g_iret e_Qu_commonDivisor_35 rfl ⟨Sh.n hw, _, rfl, hw, h⟩
    · have h := h.2 z2
      refine g_iload_n 0 e_Qu_commonDivisor_18 rfl rfl ?_
      refine g_iload_n 1 e_Qu_commonDivisor_19 rfl rfl ?_
      obtain ⟨o3, h⟩ := h
      refine g_irem e_Qu_commonDivisor_20 o3 ?_
      refine g_istore (lv := [(5, .int (l2 - l2 / l3 * l3)), (2, .int l2), (3, .int l3), (4, .int l4)]) e_Qu_commonDivisor_21 (by decide) rfl ?_
      refine g_iload_n 2 e_Qu_commonDivisor_23 rfl rfl ?_
      refine g_istore_n (lv := [(2, .int l3), (5, .int (l2 - l2 / l3 * l3)), (3, .int l3), (4, .int l4)]) e_Qu_commonDivisor_24 rfl (by decide) rfl ?_
      refine g_iload 1 e_Qu_commonDivisor_25 rfl ?_
      refine g_istore_n (lv := [(3, .int (l2 - l2 / l3 * l3)), (2, .int l3), (5, .int (l2 - l2 / l3 * l3)), (4, .int l4)]) e_Qu_commonDivisor_27 rfl (by decide) rfl ?_
      refine g_iinc (v := (l4 + 1)) (lv := [(4, .int (l4 + 1)), (3, .int (l2 - l2 / l3 * l3)), (2, .int l3), (5, .int (l2 - l2 / l3 * l3))]) 3 e_Qu_commonDivisor_28 rfl rfl (by decide) rfl ?_
      refine g_goto 7 e_Qu_commonDivisor_31 (by decide) ?_
      refine g_loc [2, 1, 0] rfl ?_
      exact h
theorem en_Qu_commonDivisor {d : Nat} {E : qE} {Q : qW → Int32 → Prop} {a0 : Int32} {a1 : Int32} {w : qW} (hw : Sh w) (h : c_Qu_commonDivisor_0 d E Q a0 a1 w) : CaI d M_Qu_commonDivisor [.int a0, .int a1] E w Q := Ca.into hw rfl (Nat.le_of_ble_eq_true rfl) h
