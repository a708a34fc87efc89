def c_Mo_in_0 (d : Nat) (E : qE) (Q : qW → Int32 → Prop) (a1 : Int32) (a2 : Int32) (a3 : Int32) (w : qW) : Prop := Go d M_Mo_in E 161 161 (qFI Q) 0 [(0, .ref (qb E + 115)), (1, .int a1), (2, .int a2), (3, .int a3)] [] w
set_option maxHeartbeats 4000000 in
set_option maxRecDepth 8000 in
theorem s_Mo_in_0 {d : Nat} {E : qE} {Q : qW → Int32 → Prop} {a1 : Int32} {a2 : Int32} {a3 : Int32} {w : qW} (hw : Sh w) (h : ((a1 < a2) → (Q w 0)) ∧ ((¬ a1 < a2) → (((a3 < a1) → (Q w 0)) ∧ ((¬ a3 < a1) → (Q w 1))))) : c_Mo_in_0 d E Q a1 a2 a3 w := by
  unfold c_Mo_in_0
  refine g_iload_n 1 e_Mo_in_0 rfl rfl ?_
  refine g_iload_n 2 e_Mo_in_1 rfl rfl ?_
  refine g_icmp_lt 14 e_Mo_in_2 (by decide) ⟨fun z1 => ?_, fun z1 => ?_⟩
  · have h := h.1 z1
    refine g_iconst (v := 0) e_Mo_in_14 (by decide) ?_
    exact g_zret e_Mo_in_15 rfl (Or.inl rfl) ⟨Sh.n hw, _, rfl, hw, h⟩
  · have h := h.2 z1
    refine g_iload_n 1 e_Mo_in_5 rfl rfl ?_
    refine g_iload_n 3 e_Mo_in_6 rfl rfl ?_
    refine g_icmp_gt 14 e_Mo_in_7 (by decide) ⟨fun z2 => ?_, fun z2 => ?_⟩
    · have h := h.1 z2
      refine g_iconst (v := 0) e_Mo_in_14 (by decide) ?_
      exact g_zret e_Mo_in_15 rfl (Or.inl rfl) ⟨Sh.n hw, _, rfl, hw, h⟩
    · have h := h.2 z2
      refine g_iconst (v := 1) e_Mo_in_10 (by decide) ?_
      refine g_goto 15 e_Mo_in_11 (by decide) ?_
      exact g_zret e_Mo_in_15 rfl (Or.inr rfl) ⟨Sh.n hw, _, rfl, hw, h⟩
theorem en_Mo_in {d : Nat} {E : qE} {Q : qW → Int32 → Prop} {a1 : Int32} {a2 : Int32} {a3 : Int32} {w : qW} (hw : Sh w) (h : c_Mo_in_0 d E Q a1 a2 a3 w) : CaI d M_Mo_in [.ref (qb E + 115), .int a1, .int a2, .int a3] E w Q := Ca.into hw rfl (Nat.le_of_ble_eq_true rfl) h
def c_Mo_has_0 (d : Nat) (E : qE) (Q : qW → Int32 → Prop) (a1 : Int32) (a2 : Int32) (w : qW) : Prop := Go d M_Mo_has E 161 161 (qFI Q) 0 [(0, .ref (qb E + 115)), (1, .int a1), (2, .int a2)] [] w
set_option maxHeartbeats 4000000 in
set_option maxRecDepth 8000 in
theorem s_Mo_has_0 {d : Nat} {E : qE} {Q : qW → Int32 → Prop} {a1 : Int32} {a2 : Int32} {w : qW} (hw : Sh w) (h : ((¬ ((a1 >>> (a2 &&& 31)) &&& 1) = 1) → (Q w 0)) ∧ ((((a1 >>> (a2 &&& 31)) &&& 1) = 1) → (Q w 1))) : c_Mo_has_0 d E Q a1 a2 w := by
  unfold c_Mo_has_0
  refine g_iload_n 1 e_Mo_has_0 rfl rfl ?_
  refine g_iload_n 2 e_Mo_has_1 rfl rfl ?_
  refine g_ishr e_Mo_has_2 ?_
  refine g_iconst (v := 1) e_Mo_has_3 (by decide) ?_
  refine g_iand e_Mo_has_4 ?_
  refine g_iconst (v := 1) e_Mo_has_5 (by decide) ?_
  refine g_icmp_ne 13 e_Mo_has_6 (by decide) ⟨fun z1 => ?_, fun z1 => ?_⟩
  · have h := h.1 z1
    refine g_iconst (v := 0) e_Mo_has_13 (by decide) ?_
    exact g_zret e_Mo_has_14 rfl (Or.inl rfl) ⟨Sh.n hw, _, rfl, hw, h⟩
  · have h := h.2 z1
    refine g_iconst (v := 1) e_Mo_has_9 (by decide) ?_
    refine g_goto 14 e_Mo_has_10 (by decide) ?_
    exact g_zret e_Mo_has_14 rfl (Or.inr rfl) ⟨Sh.n hw, _, rfl, hw, h⟩
theorem en_Mo_has {d : Nat} {E : qE} {Q : qW → Int32 → Prop} {a1 : Int32} {a2 : Int32} {w : qW} (hw : Sh w) (h : c_Mo_has_0 d E Q a1 a2 w) : CaI d M_Mo_has [.ref (qb E + 115), .int a1, .int a2] E w Q := Ca.into hw rfl (Nat.le_of_ble_eq_true rfl) h
def c_Mo_least_0 (d : Nat) (E : qE) (Q : qW → Int32 → Prop) (a1 : Int32) (a2 : Int32) (w : qW) : Prop := Go d M_Mo_least E 161 161 (qFI Q) 0 [(0, .ref (qb E + 115)), (1, .int a1), (2, .int a2)] [] w
set_option maxHeartbeats 4000000 in
set_option maxRecDepth 8000 in
theorem s_Mo_least_0 {d : Nat} {E : qE} {Q : qW → Int32 → Prop} {a1 : Int32} {a2 : Int32} {w : qW} (hw : Sh w) (h : ((a2 ≤ a1) → (Q w a2)) ∧ ((¬ a2 ≤ a1) → (Q w a1))) : c_Mo_least_0 d E Q a1 a2 w := by
  unfold c_Mo_least_0
  refine g_iload_n 1 e_Mo_least_0 rfl rfl ?_
  refine g_iload_n 2 e_Mo_least_1 rfl rfl ?_
  refine g_icmp_ge 9 e_Mo_least_2 (by decide) ⟨fun z1 => ?_, fun z1 => ?_⟩
  · have h := h.1 z1
    refine g_iload_n 2 e_Mo_least_9 rfl rfl ?_
    exact g_iret e_Mo_least_10 rfl ⟨Sh.n hw, _, rfl, hw, h⟩
  · have h := h.2 z1
    refine g_iload_n 1 e_Mo_least_5 rfl rfl ?_
    refine g_goto 10 e_Mo_least_6 (by decide) ?_
    exact g_iret e_Mo_least_10 rfl ⟨Sh.n hw, _, rfl, hw, h⟩
theorem en_Mo_least {d : Nat} {E : qE} {Q : qW → Int32 → Prop} {a1 : Int32} {a2 : Int32} {w : qW} (hw : Sh w) (h : c_Mo_least_0 d E Q a1 a2 w) : CaI d M_Mo_least [.ref (qb E + 115), .int a1, .int a2] E w Q := Ca.into hw rfl (Nat.le_of_ble_eq_true rfl) h
def c_Mo_apart_0 (d : Nat) (E : qE) (Q : qW → Int32 → Prop) (a1 : Int32) (a2 : Int32) (w : qW) : Prop := Go d M_Mo_apart E 161 161 (qFI Q) 0 [(0, .ref (qb E + 115)), (1, .int a1), (2, .int a2)] [] w
set_option maxHeartbeats 4000000 in
set_option maxRecDepth 8000 in
theorem s_Mo_apart_0 {d : Nat} {E : qE} {Q : qW → Int32 → Prop} {a1 : Int32} {a2 : Int32} {w : qW} (hw : Sh w) (h : ((a2 ≤ a1) → (Q w (a1 - a2))) ∧ ((¬ a2 ≤ a1) → (Q w (a2 - a1)))) : c_Mo_apart_0 d E Q a1 a2 w := by
  unfold c_Mo_apart_0
  refine g_iload_n 1 e_Mo_apart_0 rfl rfl ?_
  refine g_iload_n 2 e_Mo_apart_1 rfl rfl ?_
  refine g_icmp_ge 11 e_Mo_apart_2 (by decide) ⟨fun z1 => ?_, fun z1 => ?_⟩
  · have h := h.1 z1
    refine g_iload_n 1 e_Mo_apart_11 rfl rfl ?_
    refine g_iload_n 2 e_Mo_apart_12 rfl rfl ?_
    refine g_isub e_Mo_apart_13 ?_
    exact g_iret e_Mo_apart_14 rfl ⟨Sh.n hw, _, rfl, hw, h⟩
  · have h := h.2 z1
    refine g_iload_n 2 e_Mo_apart_5 rfl rfl ?_
    refine g_iload_n 1 e_Mo_apart_6 rfl rfl ?_
    refine g_isub e_Mo_apart_7 ?_
    refine g_goto 14 e_Mo_apart_8 (by decide) ?_
    exact g_iret e_Mo_apart_14 rfl ⟨Sh.n hw, _, rfl, hw, h⟩
theorem en_Mo_apart {d : Nat} {E : qE} {Q : qW → Int32 → Prop} {a1 : Int32} {a2 : Int32} {w : qW} (hw : Sh w) (h : c_Mo_apart_0 d E Q a1 a2 w) : CaI d M_Mo_apart [.ref (qb E + 115), .int a1, .int a2] E w Q := Ca.into hw rfl (Nat.le_of_ble_eq_true rfl) h
def c_Mo_bits_0 (d : Nat) (E : qE) (Q : qW → Int32 → Prop) (a1 : Int32) (w : qW) : Prop := Go (d + 1) M_Mo_bits E 161 161 (qFI Q) 0 [(0, .ref (qb E + 115)), (1, .int a1)] [] w
def c_Mo_bits_4 (d : Nat) (E : qE) (Q : qW → Int32 → Prop) (l1 : Int32) (l2 : Int32) (l3 : Int32) (w : qW) : Prop := Go (d + 1) M_Mo_bits E 161 161 (qFI Q) 4 [(0, .ref (qb E + 115)), (1, .int l1), (2, .int l2), (3, .int l3)] [] w
set_option maxHeartbeats 4000000 in
set_option maxRecDepth 8000 in
theorem s_Mo_bits_0 {d : Nat} {E : qE} {Q : qW → Int32 → Prop} {a1 : Int32} {w : qW} (hw : Sh w) (h : c_Mo_bits_4 d E Q a1 0 0 w) : c_Mo_bits_0 d E Q a1 w := by
  unfold c_Mo_bits_0
  refine g_iconst (v := 0) e_Mo_bits_0 (by decide) ?_
  refine g_istore_n (lv := [(2, .int 0), (0, .ref (qb E + 115)), (1, .int a1)]) e_Mo_bits_1 rfl (by decide) rfl ?_
  refine g_iconst (v := 0) e_Mo_bits_2 (by decide) ?_
  refine g_istore_n (lv := [(3, .int 0), (2, .int 0), (0, .ref (qb E + 115)), (1, .int a1)]) e_Mo_bits_3 rfl (by decide) rfl ?_
  refine g_loc [2, 3, 1, 0] rfl ?_
  exact h
set_option maxHeartbeats 4000000 in
set_option maxRecDepth 8000 in
theorem s_Mo_bits_4 {d : Nat} {E : qE} {Q : qW → Int32 → Prop} {l1 : Int32} {l2 : Int32} {l3 : Int32} {w : qW} (hw : Sh w) (h : ((6 ≤ l3) → (Q w l2)) ∧ ((¬ 6 ≤ l3) → (CaI d M_Mo_has [.ref (qb E + 115), .int l1, .int l3] E w (fun w2 x2 => ((x2 = 0) → (c_Mo_bits_4 d E Q l1 (l2 + 0) (l3 + 1) w2)) ∧ ((¬ x2 = 0) → (c_Mo_bits_4 d E Q l1 (l2 + 1) (l3 + 1) w2)))))) : c_Mo_bits_4 d E Q l1 l2 l3 w := by
  unfold c_Mo_bits_4
  refine g_iload_n 3 e_Mo_bits_4 rfl rfl ?_
  refine g_bipush (v := 6) e_Mo_bits_5 (by decide) ?_
  refine g_icmp_ge 33 e_Mo_bits_7 (by decide) ⟨fun z1 => ?_, fun z1 => ?_⟩
  · have h := h.1 z1
    refine g_iload_n 2 e_Mo_bits_33 rfl rfl ?_
    exact g_iret e_Mo_bits_34 rfl ⟨Sh.n hw, _, rfl, hw, h⟩
  · have h := h.2 z1
    refine g_iload_n 2 e_Mo_bits_10 rfl rfl ?_
    refine g_aload_n 0 e_Mo_bits_11 rfl rfl ?_
    refine g_iload_n 1 e_Mo_bits_12 rfl rfl ?_
    refine g_iload_n 3 e_Mo_bits_13 rfl rfl ?_
    refine w_callVI (w := w) (As := [.int l1, .int l3]) (rest := [.int l2]) e_Mo_bits_14 ok_Mo_has rfl km_Mo_245 kx_Mo_has kv_Mo_has rfl (by decide) hw lay_115 (by decide) rfl (Nat.le_of_ble_eq_true rfl) h (fun w2 x2 hw2 h => ?_)
    refine g_if_eq 24 e_Mo_bits_17 (by decide) ⟨fun z3 => ?_, fun z3 => ?_⟩
    · have h := h.1 z3
      refine g_iconst (v := 0) e_Mo_bits_24 (by decide) ?_
      refine g_iadd e_Mo_bits_25 ?_
      refine g_istore_n (lv := [(2, .int (l2 + 0)), (0, .ref (qb E + 115)), (1, .int l1), (3, .int l3)]) e_Mo_bits_26 rfl (by decide) rfl ?_
      refine g_iinc (v := (l3 + 1)) (lv := [(3, .int (l3 + 1)), (2, .int (l2 + 0)), (0, .ref (qb E + 115)), (1, .int l1)]) 3 e_Mo_bits_27 rfl rfl (by decide) rfl ?_
      refine g_goto 4 e_Mo_bits_30 (by decide) ?_
      refine g_loc [2, 3, 1, 0] rfl ?_
      exact h
    · have h := h.2 z3
      refine g_iconst (v := 1) e_Mo_bits_20 (by decide) ?_
      refine g_goto 25 e_Mo_bits_21 (by decide) ?_
      refine g_iadd e_Mo_bits_25 ?_
      refine g_istore_n (lv := [(2, .int (l2 + 1)), (0, .ref (qb E + 115)), (1, .int l1), (3, .int l3)]) e_Mo_bits_26 rfl (by decide) rfl ?_
      refine g_iinc (v := (l3 + 1)) (lv := [(3, .int (l3 + 1)), (2, .int (l2 + 1)), (0, .ref (qb E + 115)), (1, .int l1)]) 3 e_Mo_bits_27 rfl rfl (by decide) rfl ?_
      refine g_goto 4 e_Mo_bits_30 (by decide) ?_
      refine g_loc [2, 3, 1, 0] rfl ?_
      exact h
theorem en_Mo_bits {d : Nat} {E : qE} {Q : qW → Int32 → Prop} {a1 : Int32} {w : qW} (hw : Sh w) (h : c_Mo_bits_0 d E Q a1 w) : CaI (d + 1) M_Mo_bits [.ref (qb E + 115), .int a1] E w Q := Ca.into hw rfl (Nat.le_of_ble_eq_true rfl) h
def c_Mo_isThing_0 (d : Nat) (E : qE) (Q : qW → Int32 → Prop) (a1 : Int32) (w : qW) : Prop := Go (d + 1) M_Mo_isThing E 161 161 (qFI Q) 0 [(0, .ref (qb E + 115)), (1, .int a1)] [] w
set_option maxHeartbeats 4000000 in
set_option maxRecDepth 8000 in
theorem s_Mo_isThing_0 {d : Nat} {E : qE} {Q : qW → Int32 → Prop} {a1 : Int32} {w : qW} (hw : Sh w) (h : CaI d M_Mo_in [.ref (qb E + 115), .int a1, .int 0, .int ((qi w 115 0) - 1)] E w (fun w1 x1 => (x1 = 0 ∨ x1 = 1) ∧ (Q w1 x1))) : c_Mo_isThing_0 d E Q a1 w := by
  unfold c_Mo_isThing_0
  refine g_aload_n 0 e_Mo_isThing_0 rfl rfl ?_
  refine g_iload_n 1 e_Mo_isThing_1 rfl rfl ?_
  refine g_iconst (v := 0) e_Mo_isThing_2 (by decide) ?_
  refine g_aload_n 0 e_Mo_isThing_3 rfl rfl ?_
  refine gf_Mo_7 rfl e_Mo_isThing_4 hw lay_115 (by decide) ?_
  refine g_iconst (v := 1) e_Mo_isThing_7 (by decide) ?_
  refine g_isub e_Mo_isThing_8 ?_
  refine w_callVI (w := w) (As := [.int a1, .int 0, .int ((qi w 115 0) - 1)]) (rest := []) e_Mo_isThing_9 ok_Mo_in rfl km_Mo_249 kx_Mo_in kv_Mo_in rfl (by decide) hw lay_115 (by decide) rfl (Nat.le_of_ble_eq_true rfl) h (fun w1 x1 hw1 h => ?_)
  obtain ⟨o2, h⟩ := h
  exact g_zret e_Mo_isThing_12 rfl o2 ⟨Sh.n hw1, _, rfl, hw1, h⟩
theorem en_Mo_isThing {d : Nat} {E : qE} {Q : qW → Int32 → Prop} {a1 : Int32} {w : qW} (hw : Sh w) (h : c_Mo_isThing_0 d E Q a1 w) : CaI (d + 1) M_Mo_isThing [.ref (qb E + 115), .int a1] E w Q := Ca.into hw rfl (Nat.le_of_ble_eq_true rfl) h
def c_Mo_isWeight_0 (d : Nat) (E : qE) (Q : qW → Int32 → Prop) (a1 : Int32) (w : qW) : Prop := Go (d + 1) M_Mo_isWeight E 161 161 (qFI Q) 0 [(0, .ref (qb E + 115)), (1, .int a1)] [] w
set_option maxHeartbeats 4000000 in
set_option maxRecDepth 8000 in
theorem s_Mo_isWeight_0 {d : Nat} {E : qE} {Q : qW → Int32 → Prop} {a1 : Int32} {w : qW} (hw : Sh w) (h : CaI d M_Mo_in [.ref (qb E + 115), .int a1, .int 0, .int 20] E w (fun w1 x1 => (x1 = 0 ∨ x1 = 1) ∧ (Q w1 x1))) : c_Mo_isWeight_0 d E Q a1 w := by
  unfold c_Mo_isWeight_0
  refine g_aload_n 0 e_Mo_isWeight_0 rfl rfl ?_
  refine g_iload_n 1 e_Mo_isWeight_1 rfl rfl ?_
  refine g_iconst (v := 0) e_Mo_isWeight_2 (by decide) ?_
  refine g_bipush (v := 20) e_Mo_isWeight_3 (by decide) ?_
  refine w_callVI (w := w) (As := [.int a1, .int 0, .int 20]) (rest := []) e_Mo_isWeight_5 ok_Mo_in rfl km_Mo_249 kx_Mo_in kv_Mo_in rfl (by decide) hw lay_115 (by decide) rfl (Nat.le_of_ble_eq_true rfl) h (fun w1 x1 hw1 h => ?_)
  obtain ⟨o2, h⟩ := h
  exact g_zret e_Mo_isWeight_8 rfl o2 ⟨Sh.n hw1, _, rfl, hw1, h⟩
theorem en_Mo_isWeight {d : Nat} {E : qE} {Q : qW → Int32 → Prop} {a1 : Int32} {w : qW} (hw : Sh w) (h : c_Mo_isWeight_0 d E Q a1 w) : CaI (d + 1) M_Mo_isWeight [.ref (qb E + 115), .int a1] E w Q := Ca.into hw rfl (Nat.le_of_ble_eq_true rfl) h
def c_Mo_isMinutes_0 (d : Nat) (E : qE) (Q : qW → Int32 → Prop) (a1 : Int32) (w : qW) : Prop := Go (d + 1) M_Mo_isMinutes E 161 161 (qFI Q) 0 [(0, .ref (qb E + 115)), (1, .int a1)] [] w
set_option maxHeartbeats 4000000 in
set_option maxRecDepth 8000 in
theorem s_Mo_isMinutes_0 {d : Nat} {E : qE} {Q : qW → Int32 → Prop} {a1 : Int32} {w : qW} (hw : Sh w) (h : CaI d M_Mo_in [.ref (qb E + 115), .int a1, .int 0, .int 60] E w (fun w1 x1 => (x1 = 0 ∨ x1 = 1) ∧ (Q w1 x1))) : c_Mo_isMinutes_0 d E Q a1 w := by
  unfold c_Mo_isMinutes_0
  refine g_aload_n 0 e_Mo_isMinutes_0 rfl rfl ?_
  refine g_iload_n 1 e_Mo_isMinutes_1 rfl rfl ?_
  refine g_iconst (v := 0) e_Mo_isMinutes_2 (by decide) ?_
  refine g_bipush (v := 60) e_Mo_isMinutes_3 (by decide) ?_
  refine w_callVI (w := w) (As := [.int a1, .int 0, .int 60]) (rest := []) e_Mo_isMinutes_5 ok_Mo_in rfl km_Mo_249 kx_Mo_in kv_Mo_in rfl (by decide) hw lay_115 (by decide) rfl (Nat.le_of_ble_eq_true rfl) h (fun w1 x1 hw1 h => ?_)
  obtain ⟨o2, h⟩ := h
  exact g_zret e_Mo_isMinutes_8 rfl o2 ⟨Sh.n hw1, _, rfl, hw1, h⟩
theorem en_Mo_isMinutes {d : Nat} {E : qE} {Q : qW → Int32 → Prop} {a1 : Int32} {w : qW} (hw : Sh w) (h : c_Mo_isMinutes_0 d E Q a1 w) : CaI (d + 1) M_Mo_isMinutes [.ref (qb E + 115), .int a1] E w Q := Ca.into hw rfl (Nat.le_of_ble_eq_true rfl) h
def c_Mo_thing_0 (d : Nat) (E : qE) (Q : qW → Int32 → Prop) (a1 : Int32) (a2 : Int32) (a3 : Int32) (a4 : Int32) (w : qW) : Prop := Go (d + 2) M_Mo_thing E 161 161 (qFI Q) 0 [(0, .ref (qb E + 115)), (1, .int a1), (2, .int a2), (3, .int a3), (4, .int a4)] [] w
def c_Mo_thing_122 (d : Nat) (E : qE) (Q : qW → Int32 → Prop) (l5 : Int32) (w : qW) : Prop := Go (d + 2) M_Mo_thing E 161 161 (qFI Q) 122 [(0, .ref (qb E + 115)), (5, .int l5)] [] w
set_option maxHeartbeats 4000000 in
set_option maxRecDepth 8000 in
theorem s_Mo_thing_0 {d : Nat} {E : qE} {Q : qW → Int32 → Prop} {a1 : Int32} {a2 : Int32} {a3 : Int32} {a4 : Int32} {w : qW} (hw : Sh w) (h : CaI (d + 1) M_Mo_in [.ref (qb E + 115), .int a1, .int 0, .int 6] E w (fun w1 x1 => ((¬ x1 = 0) → (CaI (d + 1) M_Mo_in [.ref (qb E + 115), .int a2, .int 0, .int 9] E w1 (fun w3 x3 => ((x3 = 0) → (Q w3 (-2))) ∧ ((¬ x3 = 0) → (CaI (d + 1) M_Mo_isWeight [.ref (qb E + 115), .int a3] E w3 (fun w5 x5 => ((x5 = 0) → (Q w5 (-2))) ∧ ((¬ x5 = 0) → (CaI (d + 1) M_Mo_in [.ref (qb E + 115), .int a4, .int 0, .int 1] E w5 (fun w7 x7 => ((¬ x7 = 0) → (((¬ (qi w7 115 0) = 6) → (vp_in (qi w7 115 0) 6 ∧ (vp_in (qi (qpi w7 116 ((qi w7 115 0).toNatClampNeg) a1) 115 0) 6 ∧ (vp_in (qi (qpi (qpi w7 116 ((qi w7 115 0).toNatClampNeg) a1) 117 ((qi (qpi w7 116 ((qi w7 115 0).toNatClampNeg) a1) 115 0).toNatClampNeg) a2) 115 0) 6 ∧ (vp_in (qi (qpi (qpi (qpi w7 116 ((qi w7 115 0).toNatClampNeg) a1) 117 ((qi (qpi w7 116 ((qi w7 115 0).toNatClampNeg) a1) 115 0).toNatClampNeg) a2) 118 ((qi (qpi (qpi w7 116 ((qi w7 115 0).toNatClampNeg) a1) 117 ((qi (qpi w7 116 ((qi w7 115 0).toNatClampNeg) a1) 115 0).toNatClampNeg) a2) 115 0).toNatClampNeg) a3) 115 0) 6 ∧ (vp_in (qi (qpi (qpi (qpi (qpi w7 116 ((qi w7 115 0).toNatClampNeg) a1) 117 ((qi (qpi w7 116 ((qi w7 115 0).toNatClampNeg) a1) 115 0).toNatClampNeg) a2) 118 ((qi (qpi (qpi w7 116 ((qi w7 115 0).toNatClampNeg) a1) 117 ((qi (qpi w7 116 ((qi w7 115 0).toNatClampNeg) a1) 115 0).toNatClampNeg) a2) 115 0).toNatClampNeg) a3) 119 ((qi (qpi (qpi (qpi w7 116 ((qi w7 115 0).toNatClampNeg) a1) 117 ((qi (qpi w7 116 ((qi w7 115 0).toNatClampNeg) a1) 115 0).toNatClampNeg) a2) 118 ((qi (qpi (qpi w7 116 ((qi w7 115 0).toNatClampNeg) a1) 117 ((qi (qpi w7 116 ((qi w7 115 0).toNatClampNeg) a1) 115 0).toNatClampNeg) a2) 115 0).toNatClampNeg) a3) 115 0).toNatClampNeg) a4) 115 0) 6 ∧ (vp_in (qi (qpi (qpi (qpi (qpi (qpi w7 116 ((qi w7 115 0).toNatClampNeg) a1) 117 ((qi (qpi w7 116 ((qi w7 115 0).toNatClampNeg) a1) 115 0).toNatClampNeg) a2) 118 ((qi (qpi (qpi w7 116 ((qi w7 115 0).toNatClampNeg) a1) 117 ((qi (qpi w7 116 ((qi w7 115 0).toNatClampNeg) a1) 115 0).toNatClampNeg) a2) 115 0).toNatClampNeg) a3) 119 ((qi (qpi (qpi (qpi w7 116 ((qi w7 115 0).toNatClampNeg) a1) 117 ((qi (qpi w7 116 ((qi w7 115 0).toNatClampNeg) a1) 115 0).toNatClampNeg) a2) 118 ((qi (qpi (qpi w7 116 ((qi w7 115 0).toNatClampNeg) a1) 117 ((qi (qpi w7 116 ((qi w7 115 0).toNatClampNeg) a1) 115 0).toNatClampNeg) a2) 115 0).toNatClampNeg) a3) 115 0).toNatClampNeg) a4) 120 ((qi (qpi (qpi (qpi (qpi w7 116 ((qi w7 115 0).toNatClampNeg) a1) 117 ((qi (qpi w7 116 ((qi w7 115 0).toNatClampNeg) a1) 115 0).toNatClampNeg) a2) 118 ((qi (qpi (qpi w7 116 ((qi w7 115 0).toNatClampNeg) a1) 117 ((qi (qpi w7 116 ((qi w7 115 0).toNatClampNeg) a1) 115 0).toNatClampNeg) a2) 115 0).toNatClampNeg) a3) 119 ((qi (qpi (qpi (qpi w7 116 ((qi w7 115 0).toNatClampNeg) a1) 117 ((qi (qpi w7 116 ((qi w7 115 0).toNatClampNeg) a1) 115 0).toNatClampNeg) a2) 118 ((qi (qpi (qpi w7 116 ((qi w7 115 0).toNatClampNeg) a1) 117 ((qi (qpi w7 116 ((qi w7 115 0).toNatClampNeg) a1) 115 0).toNatClampNeg) a2) 115 0).toNatClampNeg) a3) 115 0).toNatClampNeg) a4) 115 0).toNatClampNeg) 0) 115 0) 6 ∧ (c_Mo_thing_122 d E Q 0 (qpi (qpi (qpi (qpi (qpi (qpi w7 116 ((qi w7 115 0).toNatClampNeg) a1) 117 ((qi (qpi w7 116 ((qi w7 115 0).toNatClampNeg) a1) 115 0).toNatClampNeg) a2) 118 ((qi (qpi (qpi w7 116 ((qi w7 115 0).toNatClampNeg) a1) 117 ((qi (qpi w7 116 ((qi w7 115 0).toNatClampNeg) a1) 115 0).toNatClampNeg) a2) 115 0).toNatClampNeg) a3) 119 ((qi (qpi (qpi (qpi w7 116 ((qi w7 115 0).toNatClampNeg) a1) 117 ((qi (qpi w7 116 ((qi w7 115 0).toNatClampNeg) a1) 115 0).toNatClampNeg) a2) 118 ((qi (qpi (qpi w7 116 ((qi w7 115 0).toNatClampNeg) a1) 117 ((qi (qpi w7 116 ((qi w7 115 0).toNatClampNeg) a1) 115 0).toNatClampNeg) a2) 115 0).toNatClampNeg) a3) 115 0).toNatClampNeg) a4) 120 ((qi (qpi (qpi (qpi (qpi w7 116 ((qi w7 115 0).toNatClampNeg) a1) 117 ((qi (qpi w7 116 ((qi w7 115 0).toNatClampNeg) a1) 115 0).toNatClampNeg) a2) 118 ((qi (qpi (qpi w7 116 ((qi w7 115 0).toNatClampNeg) a1) 117 ((qi (qpi w7 116 ((qi w7 115 0).toNatClampNeg) a1) 115 0).toNatClampNeg) a2) 115 0).toNatClampNeg) a3) 119 ((qi (qpi (qpi (qpi w7 116 ((qi w7 115 0).toNatClampNeg) a1) 117 ((qi (qpi w7 116 ((qi w7 115 0).toNatClampNeg) a1) 115 0).toNatClampNeg) a2) 118 ((qi (qpi (qpi w7 116 ((qi w7 115 0).toNatClampNeg) a1) 117 ((qi (qpi w7 116 ((qi w7 115 0).toNatClampNeg) a1) 115 0).toNatClampNeg) a2) 115 0).toNatClampNeg) a3) 115 0).toNatClampNeg) a4) 115 0).toNatClampNeg) 0) 121 ((qi (qpi (qpi (qpi (qpi (qpi w7 116 ((qi w7 115 0).toNatClampNeg) a1) 117 ((qi (qpi w7 116 ((qi w7 115 0).toNatClampNeg) a1) 115 0).toNatClampNeg) a2) 118 ((qi (qpi (qpi w7 116 ((qi w7 115 0).toNatClampNeg) a1) 117 ((qi (qpi w7 116 ((qi w7 115 0).toNatClampNeg) a1) 115 0).toNatClampNeg) a2) 115 0).toNatClampNeg) a3) 119 ((qi (qpi (qpi (qpi w7 116 ((qi w7 115 0).toNatClampNeg) a1) 117 ((qi (qpi w7 116 ((qi w7 115 0).toNatClampNeg) a1) 115 0).toNatClampNeg) a2) 118 ((qi (qpi (qpi w7 116 ((qi w7 115 0).toNatClampNeg) a1) 117 ((qi (qpi w7 116 ((qi w7 115 0).toNatClampNeg) a1) 115 0).toNatClampNeg) a2) 115 0).toNatClampNeg) a3) 115 0).toNatClampNeg) a4) 120 ((qi (qpi (qpi (qpi (qpi w7 116 ((qi w7 115 0).toNatClampNeg) a1) 117 ((qi (qpi w7 116 ((qi w7 115 0).toNatClampNeg) a1) 115 0).toNatClampNeg) a2) 118 ((qi (qpi (qpi w7 116 ((qi w7 115 0).toNatClampNeg) a1) 117 ((qi (qpi w7 116 ((qi w7 115 0).toNatClampNeg) a1) 115 0).toNatClampNeg) a2) 115 0).toNatClampNeg) a3) 119 ((qi (qpi (qpi (qpi w7 116 ((qi w7 115 0).toNatClampNeg) a1) 117 ((qi (qpi w7 116 ((qi w7 115 0).toNatClampNeg) a1) 115 0).toNatClampNeg) a2) 118 ((qi (qpi (qpi w7 116 ((qi w7 115 0).toNatClampNeg) a1) 117 ((qi (qpi w7 116 ((qi w7 115 0).toNatClampNeg) a1) 115 0).toNatClampNeg) a2) 115 0).toNatClampNeg) a3) 115 0).toNatClampNeg) a4) 115 0).toNatClampNeg) 0) 115 0).toNatClampNeg) 0))))))))) ∧ (((qi w7 115 0) = 6) → (Q w7 (-4))))) ∧ ((x7 = 0) → (Q w7 (-2)))))))))))) ∧ ((x1 = 0) → (Q w1 (-1))))) : c_Mo_thing_0 d E Q a1 a2 a3 a4 w := by
  unfold c_Mo_thing_0
  refine g_aload_n 0 e_Mo_thing_0 rfl rfl ?_
  refine g_iload_n 1 e_Mo_thing_1 rfl rfl ?_
  refine g_iconst (v := 0) e_Mo_thing_2 (by decide) ?_
  refine g_bipush (v := 6) e_Mo_thing_3 (by decide) ?_
  refine w_callVI (w := w) (As := [.int a1, .int 0, .int 6]) (rest := []) e_Mo_thing_5 ok_Mo_in rfl km_Mo_249 kx_Mo_in kv_Mo_in rfl (by decide) hw lay_115 (by decide) rfl (Nat.le_of_ble_eq_true rfl) h (fun w1 x1 hw1 h => ?_)
  refine g_if_ne 13 e_Mo_thing_8 (by decide) ⟨fun z2 => ?_, fun z2 => ?_⟩
  · have h := h.1 z2
    refine g_aload_n 0 e_Mo_thing_13 rfl rfl ?_
    refine g_iload_n 2 e_Mo_thing_14 rfl rfl ?_
    refine g_iconst (v := 0) e_Mo_thing_15 (by decide) ?_
    refine g_bipush (v := 9) e_Mo_thing_16 (by decide) ?_
    refine w_callVI (w := w1) (As := [.int a2, .int 0, .int 9]) (rest := []) e_Mo_thing_18 ok_Mo_in rfl km_Mo_249 kx_Mo_in kv_Mo_in rfl (by decide) hw1 lay_115 (by decide) rfl (Nat.le_of_ble_eq_true rfl) h (fun w3 x3 hw3 h => ?_)
    refine g_if_eq 43 e_Mo_thing_21 (by decide) ⟨fun z4 => ?_, fun z4 => ?_⟩
    · have h := h.1 z4
      refine g_bipush (v := (-2)) e_Mo_thing_43 (by decide) ?_
      exact g_iret e_Mo_thing_45 rfl ⟨Sh.n hw3, _, rfl, hw3, h⟩
    · have h := h.2 z4
      refine g_aload_n 0 e_Mo_thing_24 rfl rfl ?_
      refine g_iload_n 3 e_Mo_thing_25 rfl rfl ?_
      refine w_callVI (w := w3) (As := [.int a3]) (rest := []) e_Mo_thing_26 ok_Mo_isWeight rfl km_Mo_253 kx_Mo_isWeight kv_Mo_isWeight rfl (by decide) hw3 lay_115 (by decide) rfl (Nat.le_of_ble_eq_true rfl) h (fun w5 x5 hw5 h => ?_)
      refine g_if_eq 43 e_Mo_thing_29 (by decide) ⟨fun z6 => ?_, fun z6 => ?_⟩
      · have h := h.1 z6
        refine g_bipush (v := (-2)) e_Mo_thing_43 (by decide) ?_
        exact g_iret e_Mo_thing_45 rfl ⟨Sh.n hw5, _, rfl, hw5, h⟩
      · have h := h.2 z6
        refine g_aload_n 0 e_Mo_thing_32 rfl rfl ?_
        refine g_iload 4 e_Mo_thing_33 rfl ?_
        refine g_iconst (v := 0) e_Mo_thing_35 (by decide) ?_
        refine g_iconst (v := 1) e_Mo_thing_36 (by decide) ?_
        refine w_callVI (w := w5) (As := [.int a4, .int 0, .int 1]) (rest := []) e_Mo_thing_37 ok_Mo_in rfl km_Mo_249 kx_Mo_in kv_Mo_in rfl (by decide) hw5 lay_115 (by decide) rfl (Nat.le_of_ble_eq_true rfl) h (fun w7 x7 hw7 h => ?_)
        refine g_if_ne 46 e_Mo_thing_40 (by decide) ⟨fun z8 => ?_, fun z8 => ?_⟩
        · have h := h.1 z8
          refine g_aload_n 0 e_Mo_thing_46 rfl rfl ?_
          refine gf_Mo_7 rfl e_Mo_thing_47 hw7 lay_115 (by decide) ?_
          refine g_bipush (v := 6) e_Mo_thing_50 (by decide) ?_
          refine g_icmp_ne 58 e_Mo_thing_52 (by decide) ⟨fun z9 => ?_, fun z9 => ?_⟩
          · have h := h.1 z9
            refine g_aload_n 0 e_Mo_thing_58 rfl rfl ?_
            refine gf_Mo_26 rfl e_Mo_thing_59 hw7 lay_115 (by decide) (sh_Mo_kind hw7) ?_
            refine g_aload_n 0 e_Mo_thing_62 rfl rfl ?_
            refine gf_Mo_7 rfl e_Mo_thing_63 hw7 lay_115 (by decide) ?_
            refine g_iload_n 1 e_Mo_thing_66 rfl rfl ?_
            obtain ⟨o10, h⟩ := h
            refine w_iastore ((qi w7 115 0).toNatClampNeg) e_Mo_thing_67 hw7 lay_116 (by decide) o10 rfl ?_
            refine g_aload_n 0 e_Mo_thing_68 rfl rfl ?_
            refine gf_Mo_30 rfl e_Mo_thing_69 hw7 lay_115 (by decide) (sh_Mo_v hw7) ?_
            refine g_aload_n 0 e_Mo_thing_72 rfl rfl ?_
            refine gf_Mo_7 rfl e_Mo_thing_73 hw7 lay_115 (by decide) ?_
            refine g_iload_n 2 e_Mo_thing_76 rfl rfl ?_
            obtain ⟨o11, h⟩ := h
            refine w_iastore ((qi (qpi w7 116 ((qi w7 115 0).toNatClampNeg) a1) 115 0).toNatClampNeg) e_Mo_thing_77 hw7 lay_117 (by decide) o11 rfl ?_
            refine g_aload_n 0 e_Mo_thing_78 rfl rfl ?_
            refine gf_Mo_33 rfl e_Mo_thing_79 hw7 lay_115 (by decide) (sh_Mo_weight hw7) ?_
            refine g_aload_n 0 e_Mo_thing_82 rfl rfl ?_
            refine gf_Mo_7 rfl e_Mo_thing_83 hw7 lay_115 (by decide) ?_
            refine g_iload_n 3 e_Mo_thing_86 rfl rfl ?_
            obtain ⟨o12, h⟩ := h
            refine w_iastore ((qi (qpi (qpi w7 116 ((qi w7 115 0).toNatClampNeg) a1) 117 ((qi (qpi w7 116 ((qi w7 115 0).toNatClampNeg) a1) 115 0).toNatClampNeg) a2) 115 0).toNatClampNeg) e_Mo_thing_87 hw7 lay_118 (by decide) o12 rfl ?_
            refine g_aload_n 0 e_Mo_thing_88 rfl rfl ?_
            refine gf_Mo_36 rfl e_Mo_thing_89 hw7 lay_115 (by decide) (sh_Mo_whose hw7) ?_
            refine g_aload_n 0 e_Mo_thing_92 rfl rfl ?_
            refine gf_Mo_7 rfl e_Mo_thing_93 hw7 lay_115 (by decide) ?_
            refine g_iload 4 e_Mo_thing_96 rfl ?_
            obtain ⟨o13, h⟩ := h
            refine w_iastore ((qi (qpi (qpi (qpi w7 116 ((qi w7 115 0).toNatClampNeg) a1) 117 ((qi (qpi w7 116 ((qi w7 115 0).toNatClampNeg) a1) 115 0).toNatClampNeg) a2) 118 ((qi (qpi (qpi w7 116 ((qi w7 115 0).toNatClampNeg) a1) 117 ((qi (qpi w7 116 ((qi w7 115 0).toNatClampNeg) a1) 115 0).toNatClampNeg) a2) 115 0).toNatClampNeg) a3) 115 0).toNatClampNeg) e_Mo_thing_98 hw7 lay_119 (by decide) o13 rfl ?_
            refine g_aload_n 0 e_Mo_thing_99 rfl rfl ?_
            refine gf_Mo_39 rfl e_Mo_thing_100 hw7 lay_115 (by decide) (sh_Mo_lies hw7) ?_
            refine g_aload_n 0 e_Mo_thing_103 rfl rfl ?_
            refine gf_Mo_7 rfl e_Mo_thing_104 hw7 lay_115 (by decide) ?_
            refine g_iconst (v := 0) e_Mo_thing_107 (by decide) ?_
            obtain ⟨o14, h⟩ := h
            refine w_iastore ((qi (qpi (qpi (qpi (qpi w7 116 ((qi w7 115 0).toNatClampNeg) a1) 117 ((qi (qpi w7 116 ((qi w7 115 0).toNatClampNeg) a1) 115 0).toNatClampNeg) a2) 118 ((qi (qpi (qpi w7 116 ((qi w7 115 0).toNatClampNeg) a1) 117 ((qi (qpi w7 116 ((qi w7 115 0).toNatClampNeg) a1) 115 0).toNatClampNeg) a2) 115 0).toNatClampNeg) a3) 119 ((qi (qpi (qpi (qpi w7 116 ((qi w7 115 0).toNatClampNeg) a1) 117 ((qi (qpi w7 116 ((qi w7 115 0).toNatClampNeg) a1) 115 0).toNatClampNeg) a2) 118 ((qi (qpi (qpi w7 116 ((qi w7 115 0).toNatClampNeg) a1) 117 ((qi (qpi w7 116 ((qi w7 115 0).toNatClampNeg) a1) 115 0).toNatClampNeg) a2) 115 0).toNatClampNeg) a3) 115 0).toNatClampNeg) a4) 115 0).toNatClampNeg) e_Mo_thing_108 hw7 lay_120 (by decide) o14 rfl ?_
            refine g_aload_n 0 e_Mo_thing_109 rfl rfl ?_
            refine gf_Mo_42 rfl e_Mo_thing_110 hw7 lay_115 (by decide) (sh_Mo_time hw7) ?_
            refine g_aload_n 0 e_Mo_thing_113 rfl rfl ?_
            refine gf_Mo_7 rfl e_Mo_thing_114 hw7 lay_115 (by decide) ?_
            refine g_iconst (v := 0) e_Mo_thing_117 (by decide) ?_
            obtain ⟨o15, h⟩ := h
            refine w_iastore ((qi (qpi (qpi (qpi (qpi (qpi w7 116 ((qi w7 115 0).toNatClampNeg) a1) 117 ((qi (qpi w7 116 ((qi w7 115 0).toNatClampNeg) a1) 115 0).toNatClampNeg) a2) 118 ((qi (qpi (qpi w7 116 ((qi w7 115 0).toNatClampNeg) a1) 117 ((qi (qpi w7 116 ((qi w7 115 0).toNatClampNeg) a1) 115 0).toNatClampNeg) a2) 115 0).toNatClampNeg) a3) 119 ((qi (qpi (qpi (qpi w7 116 ((qi w7 115 0).toNatClampNeg) a1) 117 ((qi (qpi w7 116 ((qi w7 115 0).toNatClampNeg) a1) 115 0).toNatClampNeg) a2) 118 ((qi (qpi (qpi w7 116 ((qi w7 115 0).toNatClampNeg) a1) 117 ((qi (qpi w7 116 ((qi w7 115 0).toNatClampNeg) a1) 115 0).toNatClampNeg) a2) 115 0).toNatClampNeg) a3) 115 0).toNatClampNeg) a4) 120 ((qi (qpi (qpi (qpi (qpi w7 116 ((qi w7 115 0).toNatClampNeg) a1) 117 ((qi (qpi w7 116 ((qi w7 115 0).toNatClampNeg) a1) 115 0).toNatClampNeg) a2) 118 ((qi (qpi (qpi w7 116 ((qi w7 115 0).toNatClampNeg) a1) 117 ((qi (qpi w7 116 ((qi w7 115 0).toNatClampNeg) a1) 115 0).toNatClampNeg) a2) 115 0).toNatClampNeg) a3) 119 ((qi (qpi (qpi (qpi w7 116 ((qi w7 115 0).toNatClampNeg) a1) 117 ((qi (qpi w7 116 ((qi w7 115 0).toNatClampNeg) a1) 115 0).toNatClampNeg) a2) 118 ((qi (qpi (qpi w7 116 ((qi w7 115 0).toNatClampNeg) a1) 117 ((qi (qpi w7 116 ((qi w7 115 0).toNatClampNeg) a1) 115 0).toNatClampNeg) a2) 115 0).toNatClampNeg) a3) 115 0).toNatClampNeg) a4) 115 0).toNatClampNeg) 0) 115 0).toNatClampNeg) e_Mo_thing_118 hw7 lay_121 (by decide) o15 rfl ?_
            refine g_iconst (v := 0) e_Mo_thing_119 (by decide) ?_
            refine g_istore (lv := [(5, .int 0), (0, .ref (qb E + 115)), (1, .int a1), (2, .int a2), (3, .int a3), (4, .int a4)]) e_Mo_thing_120 (by decide) rfl ?_
            refine g_loc [1, 0] rfl ?_
            exact h
          · have h := h.2 z9
            refine g_bipush (v := (-4)) e_Mo_thing_55 (by decide) ?_
            exact g_iret e_Mo_thing_57 rfl ⟨Sh.n hw7, _, rfl, hw7, h⟩
        · have h := h.2 z8
          refine g_bipush (v := (-2)) e_Mo_thing_43 (by decide) ?_
          exact g_iret e_Mo_thing_45 rfl ⟨Sh.n hw7, _, rfl, hw7, h⟩
  · have h := h.2 z2
    refine g_iconst (v := (-1)) e_Mo_thing_11 (by decide) ?_
    exact g_iret e_Mo_thing_12 rfl ⟨Sh.n hw1, _, rfl, hw1, h⟩
set_option maxHeartbeats 4000000 in
set_option maxRecDepth 8000 in
theorem s_Mo_thing_122 {d : Nat} {E : qE} {Q : qW → Int32 → Prop} {l5 : Int32} {w : qW} (hw : Sh w) (h : ((4 ≤ l5) → (Q (qpi w 115 0 ((qi w 115 0) + 1)) ((qi (qpi w 115 0 ((qi w 115 0) + 1)) 115 0) - 1))) ∧ ((¬ 4 ≤ l5) → (vp_in ((4 * (qi w 115 0)) + l5) 24 ∧ (c_Mo_thing_122 d E Q (l5 + 1) (qpi w 122 (((4 * (qi w 115 0)) + l5).toNatClampNeg) 0))))) : c_Mo_thing_122 d E Q l5 w := by
  unfold c_Mo_thing_122
  refine g_iload 1 e_Mo_thing_122 rfl ?_
  refine g_iconst (v := 4) e_Mo_thing_124 (by decide) ?_
  refine g_icmp_ge 149 e_Mo_thing_125 (by decide) ⟨fun z1 => ?_, fun z1 => ?_⟩
  · have h := h.1 z1
    refine g_aload_n 0 e_Mo_thing_149 rfl rfl ?_
    refine g_dup e_Mo_thing_150 rfl ?_
    refine gf_Mo_7 rfl e_Mo_thing_151 hw lay_115 (by decide) ?_
    refine g_iconst (v := 1) e_Mo_thing_154 (by decide) ?_
    refine g_iadd e_Mo_thing_155 ?_
    refine pf_Mo_7 rfl e_Mo_thing_156 hw lay_115 (by decide) ?_
    refine g_aload_n 0 e_Mo_thing_159 rfl rfl ?_
    refine gf_Mo_7 rfl e_Mo_thing_160 hw lay_115 (by decide) ?_
    refine g_iconst (v := 1) e_Mo_thing_163 (by decide) ?_
    refine g_isub e_Mo_thing_164 ?_
    exact g_iret e_Mo_thing_165 rfl ⟨Sh.n hw, _, rfl, hw, h⟩
  · have h := h.2 z1
    refine g_aload_n 0 e_Mo_thing_128 rfl rfl ?_
    refine gf_Mo_45 rfl e_Mo_thing_129 hw lay_115 (by decide) (sh_Mo_rows hw) ?_
    refine g_iconst (v := 4) e_Mo_thing_132 (by decide) ?_
    refine g_aload_n 0 e_Mo_thing_133 rfl rfl ?_
    refine gf_Mo_7 rfl e_Mo_thing_134 hw lay_115 (by decide) ?_
    refine g_imul e_Mo_thing_137 ?_
    refine g_iload 1 e_Mo_thing_138 rfl ?_
    refine g_iadd e_Mo_thing_140 ?_
    refine g_iconst (v := 0) e_Mo_thing_141 (by decide) ?_
    obtain ⟨o2, h⟩ := h
    refine w_iastore (((4 * (qi w 115 0)) + l5).toNatClampNeg) e_Mo_thing_142 hw lay_122 (by decide) o2 rfl ?_
    refine g_iinc (v := (l5 + 1)) (lv := [(5, .int (l5 + 1)), (0, .ref (qb E + 115))]) 1 e_Mo_thing_143 rfl rfl (by decide) rfl ?_
    refine g_goto 122 e_Mo_thing_146 (by decide) ?_
    refine g_loc [1, 0] rfl ?_
    exact h
theorem en_Mo_thing {d : Nat} {E : qE} {Q : qW → Int32 → Prop} {a1 : Int32} {a2 : Int32} {a3 : Int32} {a4 : Int32} {w : qW} (hw : Sh w) (h : c_Mo_thing_0 d E Q a1 a2 a3 a4 w) : CaI (d + 2) M_Mo_thing [.ref (qb E + 115), .int a1, .int a2, .int a3, .int a4] E w Q := Ca.into hw rfl (Nat.le_of_ble_eq_true rfl) h
def c_Mo_setOf_0 (d : Nat) (E : qE) (Q : qW → Int32 → Prop) (a1 : Int32) (w : qW) : Prop := Go d M_Mo_setOf E 161 161 (qFI Q) 0 [(0, .ref (qb E + 115)), (1, .int a1)] [] w
def c_Mo_setOf_4 (d : Nat) (E : qE) (Q : qW → Int32 → Prop) (l1 : Int32) (l2 : Int32) (l3 : Int32) (w : qW) : Prop := Go d M_Mo_setOf E 161 161 (qFI Q) 4 [(0, .ref (qb E + 115)), (1, .int l1), (2, .int l2), (3, .int l3)] [] w
set_option maxHeartbeats 4000000 in
set_option maxRecDepth 8000 in
theorem s_Mo_setOf_0 {d : Nat} {E : qE} {Q : qW → Int32 → Prop} {a1 : Int32} {w : qW} (hw : Sh w) (h : c_Mo_setOf_4 d E Q a1 0 0 w) : c_Mo_setOf_0 d E Q a1 w := by
  unfold c_Mo_setOf_0
  refine g_iconst (v := 0) e_Mo_setOf_0 (by decide) ?_
  refine g_istore_n (lv := [(2, .int 0), (0, .ref (qb E + 115)), (1, .int a1)]) e_Mo_setOf_1 rfl (by decide) rfl ?_
  refine g_iconst (v := 0) e_Mo_setOf_2 (by decide) ?_
  refine g_istore_n (lv := [(3, .int 0), (2, .int 0), (0, .ref (qb E + 115)), (1, .int a1)]) e_Mo_setOf_3 rfl (by decide) rfl ?_
  refine g_loc [2, 3, 1, 0] rfl ?_
  exact h
set_option maxHeartbeats 4000000 in
set_option maxRecDepth 8000 in
theorem s_Mo_setOf_4 {d : Nat} {E : qE} {Q : qW → Int32 → Prop} {l1 : Int32} {l2 : Int32} {l3 : Int32} {w : qW} (hw : Sh w) (h : (((qi w 115 0) ≤ l3) → (Q w l2)) ∧ ((¬ (qi w 115 0) ≤ l3) → (vp_in l3 6 ∧ (((¬ (qi w 120 ((l3).toNatClampNeg)) = l1) → (c_Mo_setOf_4 d E Q l1 (l2 ||| 0) (l3 + 1) w)) ∧ (((qi w 120 ((l3).toNatClampNeg)) = l1) → (c_Mo_setOf_4 d E Q l1 (l2 ||| (1 <<< (l3 &&& 31))) (l3 + 1) w)))))) : c_Mo_setOf_4 d E Q l1 l2 l3 w := by
  unfold c_Mo_setOf_4
  refine g_iload_n 3 e_Mo_setOf_4 rfl rfl ?_
  refine g_aload_n 0 e_Mo_setOf_5 rfl rfl ?_
  refine gf_Mo_7 rfl e_Mo_setOf_6 hw lay_115 (by decide) ?_
  refine g_icmp_ge 38 e_Mo_setOf_9 (by decide) ⟨fun z1 => ?_, fun z1 => ?_⟩
  · have h := h.1 z1
    refine g_iload_n 2 e_Mo_setOf_38 rfl rfl ?_
    exact g_iret e_Mo_setOf_39 rfl ⟨Sh.n hw, _, rfl, hw, h⟩
  · have h := h.2 z1
    refine g_iload_n 2 e_Mo_setOf_12 rfl rfl ?_
    refine g_aload_n 0 e_Mo_setOf_13 rfl rfl ?_
    refine gf_Mo_39 rfl e_Mo_setOf_14 hw lay_115 (by decide) (sh_Mo_lies hw) ?_
    refine g_iload_n 3 e_Mo_setOf_17 rfl rfl ?_
    obtain ⟨o2, h⟩ := h
    refine w_iaload ((l3).toNatClampNeg) e_Mo_setOf_18 hw lay_120 (by decide) o2 rfl ?_
    refine g_iload_n 1 e_Mo_setOf_19 rfl rfl ?_
    refine g_icmp_ne 29 e_Mo_setOf_20 (by decide) ⟨fun z3 => ?_, fun z3 => ?_⟩
    · have h := h.1 z3
      refine g_iconst (v := 0) e_Mo_setOf_29 (by decide) ?_
      refine g_ior e_Mo_setOf_30 ?_
      refine g_istore_n (lv := [(2, .int (l2 ||| 0)), (0, .ref (qb E + 115)), (1, .int l1), (3, .int l3)]) e_Mo_setOf_31 rfl (by decide) rfl ?_
      refine g_iinc (v := (l3 + 1)) (lv := [(3, .int (l3 + 1)), (2, .int (l2 ||| 0)), (0, .ref (qb E + 115)), (1, .int l1)]) 3 e_Mo_setOf_32 rfl rfl (by decide) rfl ?_
      refine g_goto 4 e_Mo_setOf_35 (by decide) ?_
      refine g_loc [2, 3, 1, 0] rfl ?_
      exact h
    · have h := h.2 z3
      refine g_iconst (v := 1) e_Mo_setOf_23 (by decide) ?_
      refine g_iload_n 3 e_Mo_setOf_24 rfl rfl ?_
      refine g_ishl e_Mo_setOf_25 ?_
      refine g_goto 30 e_Mo_setOf_26 (by decide) ?_
      refine g_ior e_Mo_setOf_30 ?_
      refine g_istore_n (lv := [(2, .int (l2 ||| (1 <<< (l3 &&& 31)))), (0, .ref (qb E + 115)), (1, .int l1), (3, .int l3)]) e_Mo_setOf_31 rfl (by decide) rfl ?_
      refine g_iinc (v := (l3 + 1)) (lv := [(3, .int (l3 + 1)), (2, .int (l2 ||| (1 <<< (l3 &&& 31)))), (0, .ref (qb E + 115)), (1, .int l1)]) 3 e_Mo_setOf_32 rfl rfl (by decide) rfl ?_
      refine g_goto 4 e_Mo_setOf_35 (by decide) ?_
      refine g_loc [2, 3, 1, 0] rfl ?_
      exact h
theorem en_Mo_setOf {d : Nat} {E : qE} {Q : qW → Int32 → Prop} {a1 : Int32} {w : qW} (hw : Sh w) (h : c_Mo_setOf_0 d E Q a1 w) : CaI d M_Mo_setOf [.ref (qb E + 115), .int a1] E w Q := Ca.into hw rfl (Nat.le_of_ble_eq_true rfl) h
def c_Mo_puts_0 (d : Nat) (E : qE) (Q : qW → Prop) (a1 : Int32) (w : qW) : Prop := Go d M_Mo_puts E 161 161 (qFV Q) 0 [(0, .ref (qb E + 115)), (1, .int a1)] [] w
set_option maxHeartbeats 4000000 in
set_option maxRecDepth 8000 in
theorem s_Mo_puts_0 {d : Nat} {E : qE} {Q : qW → Prop} {a1 : Int32} {w : qW} (hw : Sh w) (h : vp_in a1 6 ∧ (vp_in a1 6 ∧ (Q (qpi (qpi w 120 ((a1).toNatClampNeg) 1) 121 ((a1).toNatClampNeg) 0)))) : c_Mo_puts_0 d E Q a1 w := by
  unfold c_Mo_puts_0
  refine g_aload_n 0 e_Mo_puts_0 rfl rfl ?_
  refine gf_Mo_39 rfl e_Mo_puts_1 hw lay_115 (by decide) (sh_Mo_lies hw) ?_
  refine g_iload_n 1 e_Mo_puts_4 rfl rfl ?_
  refine g_iconst (v := 1) e_Mo_puts_5 (by decide) ?_
  obtain ⟨o1, h⟩ := h
  refine w_iastore ((a1).toNatClampNeg) e_Mo_puts_6 hw lay_120 (by decide) o1 rfl ?_
  refine g_aload_n 0 e_Mo_puts_7 rfl rfl ?_
  refine gf_Mo_42 rfl e_Mo_puts_8 hw lay_115 (by decide) (sh_Mo_time hw) ?_
  refine g_iload_n 1 e_Mo_puts_11 rfl rfl ?_
  refine g_iconst (v := 0) e_Mo_puts_12 (by decide) ?_
  obtain ⟨o2, h⟩ := h
  refine w_iastore ((a1).toNatClampNeg) e_Mo_puts_13 hw lay_121 (by decide) o2 rfl ?_
  exact g_vret e_Mo_puts_14 rfl ⟨Sh.n hw, rfl, hw, h⟩
theorem en_Mo_puts {d : Nat} {E : qE} {Q : qW → Prop} {a1 : Int32} {w : qW} (hw : Sh w) (h : c_Mo_puts_0 d E Q a1 w) : CaV d M_Mo_puts [.ref (qb E + 115), .int a1] E w Q := Ca.into hw rfl (Nat.le_of_ble_eq_true rfl) h
def c_Mo_put_0 (d : Nat) (E : qE) (Q : qW → Int32 → Prop) (a1 : Int32) (w : qW) : Prop := Go (d + 2) M_Mo_put E 161 161 (qFI Q) 0 [(0, .ref (qb E + 115)), (1, .int a1)] [] w
set_option maxHeartbeats 4000000 in
set_option maxRecDepth 8000 in
theorem s_Mo_put_0 {d : Nat} {E : qE} {Q : qW → Int32 → Prop} {a1 : Int32} {w : qW} (hw : Sh w) (h : CaI (d + 1) M_Mo_isThing [.ref (qb E + 115), .int a1] E w (fun w1 x1 => ((¬ x1 = 0) → (vp_in a1 6 ∧ ((((qi w1 120 ((a1).toNatClampNeg)) = 0) → (CaV (d + 1) M_Mo_puts [.ref (qb E + 115), .int a1] E w1 (fun w5 => CaI (d + 1) M_Mo_setOf [.ref (qb E + 115), .int 1] E w5 (fun w6 x6 => CaI (d + 1) M_Mo_bits [.ref (qb E + 115), .int x6] E w6 (fun w7 x7 => Q w7 x7))))) ∧ ((¬ (qi w1 120 ((a1).toNatClampNeg)) = 0) → (Q w1 (-3)))))) ∧ ((x1 = 0) → (Q w1 (-1))))) : c_Mo_put_0 d E Q a1 w := by
  unfold c_Mo_put_0
  refine g_aload_n 0 e_Mo_put_0 rfl rfl ?_
  refine g_iload_n 1 e_Mo_put_1 rfl rfl ?_
  refine w_callVI (w := w) (As := [.int a1]) (rest := []) e_Mo_put_2 ok_Mo_isThing rfl km_Mo_257 kx_Mo_isThing kv_Mo_isThing rfl (by decide) hw lay_115 (by decide) rfl (Nat.le_of_ble_eq_true rfl) h (fun w1 x1 hw1 h => ?_)
  refine g_if_ne 10 e_Mo_put_5 (by decide) ⟨fun z2 => ?_, fun z2 => ?_⟩
  · have h := h.1 z2
    refine g_aload_n 0 e_Mo_put_10 rfl rfl ?_
    refine gf_Mo_39 rfl e_Mo_put_11 hw1 lay_115 (by decide) (sh_Mo_lies hw1) ?_
    refine g_iload_n 1 e_Mo_put_14 rfl rfl ?_
    obtain ⟨o3, h⟩ := h
    refine w_iaload ((a1).toNatClampNeg) e_Mo_put_15 hw1 lay_120 (by decide) o3 rfl ?_
    refine g_if_eq 22 e_Mo_put_16 (by decide) ⟨fun z4 => ?_, fun z4 => ?_⟩
    · have h := h.1 z4
      refine g_aload_n 0 e_Mo_put_22 rfl rfl ?_
      refine g_iload_n 1 e_Mo_put_23 rfl rfl ?_
      refine w_callVV (w := w1) (As := [.int a1]) (rest := []) e_Mo_put_24 ok_Mo_puts rfl km_Mo_260 kx_Mo_puts kv_Mo_puts rfl (by decide) hw1 lay_115 (by decide) rfl (Nat.le_of_ble_eq_true rfl) h (fun w5 hw5 h => ?_)
      refine g_aload_n 0 e_Mo_put_27 rfl rfl ?_
      refine g_aload_n 0 e_Mo_put_28 rfl rfl ?_
      refine g_iconst (v := 1) e_Mo_put_29 (by decide) ?_
      refine w_callVI (w := w5) (As := [.int 1]) (rest := [.ref (qb E + 115)]) e_Mo_put_30 ok_Mo_setOf rfl km_Mo_264 kx_Mo_setOf kv_Mo_setOf rfl (by decide) hw5 lay_115 (by decide) rfl (Nat.le_of_ble_eq_true rfl) h (fun w6 x6 hw6 h => ?_)
      refine w_callVI (w := w6) (As := [.int x6]) (rest := []) e_Mo_put_33 ok_Mo_bits rfl km_Mo_268 kx_Mo_bits kv_Mo_bits rfl (by decide) hw6 lay_115 (by decide) rfl (Nat.le_of_ble_eq_true rfl) h (fun w7 x7 hw7 h => ?_)
      exact g_iret e_Mo_put_36 rfl ⟨Sh.n hw7, _, rfl, hw7, h⟩
    · have h := h.2 z4
      refine g_bipush (v := (-3)) e_Mo_put_19 (by decide) ?_
      exact g_iret e_Mo_put_21 rfl ⟨Sh.n hw1, _, rfl, hw1, h⟩
  · have h := h.2 z2
    refine g_iconst (v := (-1)) e_Mo_put_8 (by decide) ?_
    exact g_iret e_Mo_put_9 rfl ⟨Sh.n hw1, _, rfl, hw1, h⟩
theorem en_Mo_put {d : Nat} {E : qE} {Q : qW → Int32 → Prop} {a1 : Int32} {w : qW} (hw : Sh w) (h : c_Mo_put_0 d E Q a1 w) : CaI (d + 2) M_Mo_put [.ref (qb E + 115), .int a1] E w Q := Ca.into hw rfl (Nat.le_of_ble_eq_true rfl) h
def c_Mo_says_0 (d : Nat) (E : qE) (Q : qW → Prop) (a1 : Int32) (w : qW) : Prop := Go d M_Mo_says E 161 161 (qFV Q) 0 [(0, .ref (qb E + 115)), (1, .int a1)] [] w
set_option maxHeartbeats 4000000 in
set_option maxRecDepth 8000 in
theorem s_Mo_says_0 {d : Nat} {E : qE} {Q : qW → Prop} {a1 : Int32} {w : qW} (hw : Sh w) (h : vp_in a1 6 ∧ (((¬ (qz (qi (qpi w 120 ((a1).toNatClampNeg) 2) 115 4)) = 0) → (Q (qpi w 120 ((a1).toNatClampNeg) 2))) ∧ (((qz (qi (qpi w 120 ((a1).toNatClampNeg) 2) 115 4)) = 0) → (vp_in a1 6 ∧ ((((10 * (qi (qpi w 120 ((a1).toNatClampNeg) 2) 118 ((a1).toNatClampNeg))) ≤ (qi (qpi w 120 ((a1).toNatClampNeg) 2) 115 2)) → (vp_in a1 6 ∧ (Q (qpi (qpi w 120 ((a1).toNatClampNeg) 2) 115 2 ((qi (qpi w 120 ((a1).toNatClampNeg) 2) 115 2) - (10 * (qi (qpi w 120 ((a1).toNatClampNeg) 2) 118 ((a1).toNatClampNeg)))))))) ∧ ((¬ (10 * (qi (qpi w 120 ((a1).toNatClampNeg) 2) 118 ((a1).toNatClampNeg))) ≤ (qi (qpi w 120 ((a1).toNatClampNeg) 2) 115 2)) → (Q (qpi (qpi w 120 ((a1).toNatClampNeg) 2) 115 2 0)))))))) : c_Mo_says_0 d E Q a1 w := by
  unfold c_Mo_says_0
  refine g_aload_n 0 e_Mo_says_0 rfl rfl ?_
  refine gf_Mo_39 rfl e_Mo_says_1 hw lay_115 (by decide) (sh_Mo_lies hw) ?_
  refine g_iload_n 1 e_Mo_says_4 rfl rfl ?_
  refine g_iconst (v := 2) e_Mo_says_5 (by decide) ?_
  obtain ⟨o1, h⟩ := h
  refine w_iastore ((a1).toNatClampNeg) e_Mo_says_6 hw lay_120 (by decide) o1 rfl ?_
  refine g_aload_n 0 e_Mo_says_7 rfl rfl ?_
  refine gf_Mo_22 rfl e_Mo_says_8 hw lay_115 (by decide) ?_
  refine g_if_ne 52 e_Mo_says_11 (by decide) ⟨fun z2 => ?_, fun z2 => ?_⟩
  · have h := h.1 z2
    exact g_vret e_Mo_says_52 rfl ⟨Sh.n hw, rfl, hw, h⟩
  · have h := h.2 z2
    refine g_aload_n 0 e_Mo_says_14 rfl rfl ?_
    refine g_aload_n 0 e_Mo_says_15 rfl rfl ?_
    refine gf_Mo_16 rfl e_Mo_says_16 hw lay_115 (by decide) ?_
    refine g_bipush (v := 10) e_Mo_says_19 (by decide) ?_
    refine g_aload_n 0 e_Mo_says_21 rfl rfl ?_
    refine gf_Mo_33 rfl e_Mo_says_22 hw lay_115 (by decide) (sh_Mo_weight hw) ?_
    refine g_iload_n 1 e_Mo_says_25 rfl rfl ?_
    obtain ⟨o3, h⟩ := h
    refine w_iaload ((a1).toNatClampNeg) e_Mo_says_26 hw lay_118 (by decide) o3 rfl ?_
    refine g_imul e_Mo_says_27 ?_
    refine g_icmp_ge 35 e_Mo_says_28 (by decide) ⟨fun z4 => ?_, fun z4 => ?_⟩
    · have h := h.1 z4
      refine g_aload_n 0 e_Mo_says_35 rfl rfl ?_
      refine gf_Mo_16 rfl e_Mo_says_36 hw lay_115 (by decide) ?_
      refine g_bipush (v := 10) e_Mo_says_39 (by decide) ?_
      refine g_aload_n 0 e_Mo_says_41 rfl rfl ?_
      refine gf_Mo_33 rfl e_Mo_says_42 hw lay_115 (by decide) (sh_Mo_weight hw) ?_
      refine g_iload_n 1 e_Mo_says_45 rfl rfl ?_
      obtain ⟨o5, h⟩ := h
      refine w_iaload ((a1).toNatClampNeg) e_Mo_says_46 hw lay_118 (by decide) o5 rfl ?_
      refine g_imul e_Mo_says_47 ?_
      refine g_isub e_Mo_says_48 ?_
      refine pf_Mo_16 rfl e_Mo_says_49 hw lay_115 (by decide) ?_
      exact g_vret e_Mo_says_52 rfl ⟨Sh.n hw, rfl, hw, h⟩
    · have h := h.2 z4
      refine g_iconst (v := 0) e_Mo_says_31 (by decide) ?_
      refine g_goto 49 e_Mo_says_32 (by decide) ?_
      refine pf_Mo_16 rfl e_Mo_says_49 hw lay_115 (by decide) ?_
      exact g_vret e_Mo_says_52 rfl ⟨Sh.n hw, rfl, hw, h⟩
theorem en_Mo_says {d : Nat} {E : qE} {Q : qW → Prop} {a1 : Int32} {w : qW} (hw : Sh w) (h : c_Mo_says_0 d E Q a1 w) : CaV d M_Mo_says [.ref (qb E + 115), .int a1] E w Q := Ca.into hw rfl (Nat.le_of_ble_eq_true rfl) h
def c_Mo_say_0 (d : Nat) (E : qE) (Q : qW → Int32 → Prop) (a1 : Int32) (w : qW) : Prop := Go (d + 2) M_Mo_say E 161 161 (qFI Q) 0 [(0, .ref (qb E + 115)), (1, .int a1)] [] w
set_option maxHeartbeats 4000000 in
set_option maxRecDepth 8000 in
theorem s_Mo_say_0 {d : Nat} {E : qE} {Q : qW → Int32 → Prop} {a1 : Int32} {w : qW} (hw : Sh w) (h : CaI (d + 1) M_Mo_isThing [.ref (qb E + 115), .int a1] E w (fun w1 x1 => ((¬ x1 = 0) → (vp_in a1 6 ∧ (((¬ (qi w1 120 ((a1).toNatClampNeg)) = 2) → (CaV (d + 1) M_Mo_says [.ref (qb E + 115), .int a1] E w1 (fun w5 => Q w5 (qi w5 115 2)))) ∧ (((qi w1 120 ((a1).toNatClampNeg)) = 2) → (Q w1 (-3)))))) ∧ ((x1 = 0) → (Q w1 (-1))))) : c_Mo_say_0 d E Q a1 w := by
  unfold c_Mo_say_0
  refine g_aload_n 0 e_Mo_say_0 rfl rfl ?_
  refine g_iload_n 1 e_Mo_say_1 rfl rfl ?_
  refine w_callVI (w := w) (As := [.int a1]) (rest := []) e_Mo_say_2 ok_Mo_isThing rfl km_Mo_257 kx_Mo_isThing kv_Mo_isThing rfl (by decide) hw lay_115 (by decide) rfl (Nat.le_of_ble_eq_true rfl) h (fun w1 x1 hw1 h => ?_)
  refine g_if_ne 10 e_Mo_say_5 (by decide) ⟨fun z2 => ?_, fun z2 => ?_⟩
  · have h := h.1 z2
    refine g_aload_n 0 e_Mo_say_10 rfl rfl ?_
    refine gf_Mo_39 rfl e_Mo_say_11 hw1 lay_115 (by decide) (sh_Mo_lies hw1) ?_
    refine g_iload_n 1 e_Mo_say_14 rfl rfl ?_
    obtain ⟨o3, h⟩ := h
    refine w_iaload ((a1).toNatClampNeg) e_Mo_say_15 hw1 lay_120 (by decide) o3 rfl ?_
    refine g_iconst (v := 2) e_Mo_say_16 (by decide) ?_
    refine g_icmp_ne 23 e_Mo_say_17 (by decide) ⟨fun z4 => ?_, fun z4 => ?_⟩
    · have h := h.1 z4
      refine g_aload_n 0 e_Mo_say_23 rfl rfl ?_
      refine g_iload_n 1 e_Mo_say_24 rfl rfl ?_
      refine w_callVV (w := w1) (As := [.int a1]) (rest := []) e_Mo_say_25 ok_Mo_says rfl km_Mo_271 kx_Mo_says kv_Mo_says rfl (by decide) hw1 lay_115 (by decide) rfl (Nat.le_of_ble_eq_true rfl) h (fun w5 hw5 h => ?_)
      refine g_aload_n 0 e_Mo_say_28 rfl rfl ?_
      refine gf_Mo_16 rfl e_Mo_say_29 hw5 lay_115 (by decide) ?_
      exact g_iret e_Mo_say_32 rfl ⟨Sh.n hw5, _, rfl, hw5, h⟩
    · have h := h.2 z4
      refine g_bipush (v := (-3)) e_Mo_say_20 (by decide) ?_
      exact g_iret e_Mo_say_22 rfl ⟨Sh.n hw1, _, rfl, hw1, h⟩
  · have h := h.2 z2
    refine g_iconst (v := (-1)) e_Mo_say_8 (by decide) ?_
    exact g_iret e_Mo_say_9 rfl ⟨Sh.n hw1, _, rfl, hw1, h⟩
theorem en_Mo_say {d : Nat} {E : qE} {Q : qW → Int32 → Prop} {a1 : Int32} {w : qW} (hw : Sh w) (h : c_Mo_say_0 d E Q a1 w) : CaI (d + 2) M_Mo_say [.ref (qb E + 115), .int a1] E w Q := Ca.into hw rfl (Nat.le_of_ble_eq_true rfl) h
def c_Mo_weigh_0 (d : Nat) (E : qE) (Q : qW → Int32 → Prop) (a1 : Int32) (a2 : Int32) (w : qW) : Prop := Go (d + 2) M_Mo_weigh E 161 161 (qFI Q) 0 [(0, .ref (qb E + 115)), (1, .int a1), (2, .int a2)] [] w
set_option maxHeartbeats 4000000 in
set_option maxRecDepth 8000 in
theorem s_Mo_weigh_0 {d : Nat} {E : qE} {Q : qW → Int32 → Prop} {a1 : Int32} {a2 : Int32} {w : qW} (hw : Sh w) (h : CaI (d + 1) M_Mo_isThing [.ref (qb E + 115), .int a1] E w (fun w1 x1 => ((¬ x1 = 0) → (CaI (d + 1) M_Mo_isWeight [.ref (qb E + 115), .int a2] E w1 (fun w3 x3 => ((¬ x3 = 0) → (vp_in a1 6 ∧ (vp_in a1 6 ∧ (Q (qpi w3 118 ((a1).toNatClampNeg) a2) (qi w3 118 ((a1).toNatClampNeg)))))) ∧ ((x3 = 0) → (Q w3 (-2)))))) ∧ ((x1 = 0) → (Q w1 (-1))))) : c_Mo_weigh_0 d E Q a1 a2 w := by
  unfold c_Mo_weigh_0
  refine g_aload_n 0 e_Mo_weigh_0 rfl rfl ?_
  refine g_iload_n 1 e_Mo_weigh_1 rfl rfl ?_
  refine w_callVI (w := w) (As := [.int a1]) (rest := []) e_Mo_weigh_2 ok_Mo_isThing rfl km_Mo_257 kx_Mo_isThing kv_Mo_isThing rfl (by decide) hw lay_115 (by decide) rfl (Nat.le_of_ble_eq_true rfl) h (fun w1 x1 hw1 h => ?_)
  refine g_if_ne 10 e_Mo_weigh_5 (by decide) ⟨fun z2 => ?_, fun z2 => ?_⟩
  · have h := h.1 z2
    refine g_aload_n 0 e_Mo_weigh_10 rfl rfl ?_
    refine g_iload_n 2 e_Mo_weigh_11 rfl rfl ?_
    refine w_callVI (w := w1) (As := [.int a2]) (rest := []) e_Mo_weigh_12 ok_Mo_isWeight rfl km_Mo_253 kx_Mo_isWeight kv_Mo_isWeight rfl (by decide) hw1 lay_115 (by decide) rfl (Nat.le_of_ble_eq_true rfl) h (fun w3 x3 hw3 h => ?_)
    refine g_if_ne 21 e_Mo_weigh_15 (by decide) ⟨fun z4 => ?_, fun z4 => ?_⟩
    · have h := h.1 z4
      refine g_aload_n 0 e_Mo_weigh_21 rfl rfl ?_
      refine gf_Mo_33 rfl e_Mo_weigh_22 hw3 lay_115 (by decide) (sh_Mo_weight hw3) ?_
      refine g_iload_n 1 e_Mo_weigh_25 rfl rfl ?_
      obtain ⟨o5, h⟩ := h
      refine w_iaload ((a1).toNatClampNeg) e_Mo_weigh_26 hw3 lay_118 (by decide) o5 rfl ?_
      refine g_istore_n (lv := [(3, .int (qi w3 118 ((a1).toNatClampNeg))), (0, .ref (qb E + 115)), (1, .int a1), (2, .int a2)]) e_Mo_weigh_27 rfl (by decide) rfl ?_
      refine g_aload_n 1 e_Mo_weigh_28 rfl rfl ?_
      refine gf_Mo_33 rfl e_Mo_weigh_29 hw3 lay_115 (by decide) (sh_Mo_weight hw3) ?_
      refine g_iload_n 2 e_Mo_weigh_32 rfl rfl ?_
      refine g_iload_n 3 e_Mo_weigh_33 rfl rfl ?_
      obtain ⟨o6, h⟩ := h
      refine w_iastore ((a1).toNatClampNeg) e_Mo_weigh_34 hw3 lay_118 (by decide) o6 rfl ?_
      refine g_iload_n 0 e_Mo_weigh_35 rfl rfl ?_
      exact g_iret e_Mo_weigh_36 rfl ⟨Sh.n hw3, _, rfl, hw3, h⟩
    · have h := h.2 z4
      refine g_bipush (v := (-2)) e_Mo_weigh_18 (by decide) ?_
      exact g_iret e_Mo_weigh_20 rfl ⟨Sh.n hw3, _, rfl, hw3, h⟩
  · have h := h.2 z2
    refine g_iconst (v := (-1)) e_Mo_weigh_8 (by decide) ?_
    exact g_iret e_Mo_weigh_9 rfl ⟨Sh.n hw1, _, rfl, hw1, h⟩
theorem en_Mo_weigh {d : Nat} {E : qE} {Q : qW → Int32 → Prop} {a1 : Int32} {a2 : Int32} {w : qW} (hw : Sh w) (h : c_Mo_weigh_0 d E Q a1 a2 w) : CaI (d + 2) M_Mo_weigh [.ref (qb E + 115), .int a1, .int a2] E w Q := Ca.into hw rfl (Nat.le_of_ble_eq_true rfl) h
def c_Mo_fire_0 (d : Nat) (E : qE) (Q : qW → Int32 → Prop) (a1 : Int32) (w : qW) : Prop := Go (d + 1) M_Mo_fire E 161 161 (qFI Q) 0 [(0, .ref (qb E + 115)), (1, .int a1)] [] w
set_option maxHeartbeats 4000000 in
set_option maxRecDepth 8000 in
theorem s_Mo_fire_0 {d : Nat} {E : qE} {Q : qW → Int32 → Prop} {a1 : Int32} {w : qW} (hw : Sh w) (h : CaI d M_Mo_in [.ref (qb E + 115), .int a1, .int 0, .int 9] E w (fun w1 x1 => ((¬ x1 = 0) → (Q (qpi w1 115 1 a1) (qi w1 115 1))) ∧ ((x1 = 0) → (Q w1 (-2))))) : c_Mo_fire_0 d E Q a1 w := by
  unfold c_Mo_fire_0
  refine g_aload_n 0 e_Mo_fire_0 rfl rfl ?_
  refine g_iload_n 1 e_Mo_fire_1 rfl rfl ?_
  refine g_iconst (v := 0) e_Mo_fire_2 (by decide) ?_
  refine g_bipush (v := 9) e_Mo_fire_3 (by decide) ?_
  refine w_callVI (w := w) (As := [.int a1, .int 0, .int 9]) (rest := []) e_Mo_fire_5 ok_Mo_in rfl km_Mo_249 kx_Mo_in kv_Mo_in rfl (by decide) hw lay_115 (by decide) rfl (Nat.le_of_ble_eq_true rfl) h (fun w1 x1 hw1 h => ?_)
  refine g_if_ne 14 e_Mo_fire_8 (by decide) ⟨fun z2 => ?_, fun z2 => ?_⟩
  · have h := h.1 z2
    refine g_aload_n 0 e_Mo_fire_14 rfl rfl ?_
    refine gf_Mo_13 rfl e_Mo_fire_15 hw1 lay_115 (by decide) ?_
    refine g_istore_n (lv := [(2, .int (qi w1 115 1)), (0, .ref (qb E + 115)), (1, .int a1)]) e_Mo_fire_18 rfl (by decide) rfl ?_
    refine g_aload_n 1 e_Mo_fire_19 rfl rfl ?_
    refine g_iload_n 2 e_Mo_fire_20 rfl rfl ?_
    refine pf_Mo_13 rfl e_Mo_fire_21 hw1 lay_115 (by decide) ?_
    refine g_iload_n 0 e_Mo_fire_24 rfl rfl ?_
    exact g_iret e_Mo_fire_25 rfl ⟨Sh.n hw1, _, rfl, hw1, h⟩
  · have h := h.2 z2
    refine g_bipush (v := (-2)) e_Mo_fire_11 (by decide) ?_
    exact g_iret e_Mo_fire_13 rfl ⟨Sh.n hw1, _, rfl, hw1, h⟩
theorem en_Mo_fire {d : Nat} {E : qE} {Q : qW → Int32 → Prop} {a1 : Int32} {w : qW} (hw : Sh w) (h : c_Mo_fire_0 d E Q a1 w) : CaI (d + 1) M_Mo_fire [.ref (qb E + 115), .int a1] E w Q := Ca.into hw rfl (Nat.le_of_ble_eq_true rfl) h
def c_Mo_tip_0 (d : Nat) (E : qE) (Q : qW → Int32 → Prop) (w : qW) : Prop := Go (d + 2) M_Mo_tip E 161 161 (qFI Q) 0 [(0, .ref (qb E + 115))] [] w
def c_Mo_tip_12 (d : Nat) (E : qE) (Q : qW → Int32 → Prop) (l1 : Int32) (l2 : Int32) (w : qW) : Prop := Go (d + 2) M_Mo_tip E 161 161 (qFI Q) 12 [(0, .ref (qb E + 115)), (1, .int l1), (2, .int l2)] [] w
set_option maxHeartbeats 4000000 in
set_option maxRecDepth 8000 in
theorem s_Mo_tip_0 {d : Nat} {E : qE} {Q : qW → Int32 → Prop} {w : qW} (hw : Sh w) (h : CaI (d + 1) M_Mo_setOf [.ref (qb E + 115), .int 1] E w (fun w1 x1 => CaI (d + 1) M_Mo_bits [.ref (qb E + 115), .int x1] E w1 (fun w2 x2 => c_Mo_tip_12 d E Q x2 0 w2))) : c_Mo_tip_0 d E Q  w := by
  unfold c_Mo_tip_0
  refine g_aload_n 0 e_Mo_tip_0 rfl rfl ?_
  refine g_aload_n 0 e_Mo_tip_1 rfl rfl ?_
  refine g_iconst (v := 1) e_Mo_tip_2 (by decide) ?_
  refine w_callVI (w := w) (As := [.int 1]) (rest := [.ref (qb E + 115)]) e_Mo_tip_3 ok_Mo_setOf rfl km_Mo_264 kx_Mo_setOf kv_Mo_setOf rfl (by decide) hw lay_115 (by decide) rfl (Nat.le_of_ble_eq_true rfl) h (fun w1 x1 hw1 h => ?_)
  refine w_callVI (w := w1) (As := [.int x1]) (rest := []) e_Mo_tip_6 ok_Mo_bits rfl km_Mo_268 kx_Mo_bits kv_Mo_bits rfl (by decide) hw1 lay_115 (by decide) rfl (Nat.le_of_ble_eq_true rfl) h (fun w2 x2 hw2 h => ?_)
  refine g_istore_n (lv := [(1, .int x2), (0, .ref (qb E + 115))]) e_Mo_tip_9 rfl (by decide) rfl ?_
  refine g_iconst (v := 0) e_Mo_tip_10 (by decide) ?_
  refine g_istore_n (lv := [(2, .int 0), (1, .int x2), (0, .ref (qb E + 115))]) e_Mo_tip_11 rfl (by decide) rfl ?_
  refine g_loc [2, 1, 0] rfl ?_
  exact h
set_option maxHeartbeats 4000000 in
set_option maxRecDepth 8000 in
theorem s_Mo_tip_12 {d : Nat} {E : qE} {Q : qW → Int32 → Prop} {l1 : Int32} {l2 : Int32} {w : qW} (hw : Sh w) (h : (((qi w 115 0) ≤ l2) → (Q (qpi (qpi w 115 2 0) 115 4 0) l1)) ∧ ((¬ (qi w 115 0) ≤ l2) → (vp_in l2 6 ∧ (((¬ (qi w 120 ((l2).toNatClampNeg)) = 1) → (c_Mo_tip_12 d E Q l1 (l2 + 1) w)) ∧ (((qi w 120 ((l2).toNatClampNeg)) = 1) → (vp_in l2 6 ∧ (c_Mo_tip_12 d E Q l1 (l2 + 1) (qpi w 120 ((l2).toNatClampNeg) 0)))))))) : c_Mo_tip_12 d E Q l1 l2 w := by
  unfold c_Mo_tip_12
  refine g_iload_n 2 e_Mo_tip_12 rfl rfl ?_
  refine g_aload_n 0 e_Mo_tip_13 rfl rfl ?_
  refine gf_Mo_7 rfl e_Mo_tip_14 hw lay_115 (by decide) ?_
  refine g_icmp_ge 43 e_Mo_tip_17 (by decide) ⟨fun z1 => ?_, fun z1 => ?_⟩
  · have h := h.1 z1
    refine g_aload_n 0 e_Mo_tip_43 rfl rfl ?_
    refine g_iconst (v := 0) e_Mo_tip_44 (by decide) ?_
    refine pf_Mo_16 rfl e_Mo_tip_45 hw lay_115 (by decide) ?_
    refine g_aload_n 0 e_Mo_tip_48 rfl rfl ?_
    refine g_iconst (v := 0) e_Mo_tip_49 (by decide) ?_
    refine pf_Mo_22 rfl e_Mo_tip_50 hw lay_115 (by decide) (Or.inl rfl) ?_
    refine g_iload_n 1 e_Mo_tip_53 rfl rfl ?_
    exact g_iret e_Mo_tip_54 rfl ⟨Sh.n hw, _, rfl, hw, h⟩
  · have h := h.2 z1
    refine g_aload_n 0 e_Mo_tip_20 rfl rfl ?_
    refine gf_Mo_39 rfl e_Mo_tip_21 hw lay_115 (by decide) (sh_Mo_lies hw) ?_
    refine g_iload_n 2 e_Mo_tip_24 rfl rfl ?_
    obtain ⟨o2, h⟩ := h
    refine w_iaload ((l2).toNatClampNeg) e_Mo_tip_25 hw lay_120 (by decide) o2 rfl ?_
    refine g_iconst (v := 1) e_Mo_tip_26 (by decide) ?_
    refine g_icmp_ne 37 e_Mo_tip_27 (by decide) ⟨fun z3 => ?_, fun z3 => ?_⟩
    · have h := h.1 z3
      refine g_iinc (v := (l2 + 1)) (lv := [(2, .int (l2 + 1)), (0, .ref (qb E + 115)), (1, .int l1)]) 2 e_Mo_tip_37 rfl rfl (by decide) rfl ?_
      refine g_goto 12 e_Mo_tip_40 (by decide) ?_
      refine g_loc [1, 2, 0] rfl ?_
      exact h
    · have h := h.2 z3
      refine g_aload_n 0 e_Mo_tip_30 rfl rfl ?_
      refine gf_Mo_39 rfl e_Mo_tip_31 hw lay_115 (by decide) (sh_Mo_lies hw) ?_
      refine g_iload_n 2 e_Mo_tip_34 rfl rfl ?_
      refine g_iconst (v := 0) e_Mo_tip_35 (by decide) ?_
      obtain ⟨o4, h⟩ := h
      refine w_iastore ((l2).toNatClampNeg) e_Mo_tip_36 hw lay_120 (by decide) o4 rfl ?_
      refine g_iinc (v := (l2 + 1)) (lv := [(2, .int (l2 + 1)), (0, .ref (qb E + 115)), (1, .int l1)]) 2 e_Mo_tip_37 rfl rfl (by decide) rfl ?_
      refine g_goto 12 e_Mo_tip_40 (by decide) ?_
      refine g_loc [1, 2, 0] rfl ?_
      exact h
theorem en_Mo_tip {d : Nat} {E : qE} {Q : qW → Int32 → Prop} {w : qW} (hw : Sh w) (h : c_Mo_tip_0 d E Q  w) : CaI (d + 2) M_Mo_tip [.ref (qb E + 115)] E w Q := Ca.into hw rfl (Nat.le_of_ble_eq_true rfl) h
def c_Mo_row_0 (d : Nat) (E : qE) (Q : qW → Int32 → Prop) (a1 : Int32) (a2 : Int32) (a3 : Int32) (w : qW) : Prop := Go (d + 2) M_Mo_row E 161 161 (qFI Q) 0 [(0, .ref (qb E + 115)), (1, .int a1), (2, .int a2), (3, .int a3)] [] w
set_option maxHeartbeats 4000000 in
set_option maxRecDepth 8000 in
theorem s_Mo_row_0 {d : Nat} {E : qE} {Q : qW → Int32 → Prop} {a1 : Int32} {a2 : Int32} {a3 : Int32} {w : qW} (hw : Sh w) (h : CaI (d + 1) M_Mo_isThing [.ref (qb E + 115), .int a1] E w (fun w1 x1 => ((x1 = 0) → (Q w1 (-1))) ∧ ((¬ x1 = 0) → (CaI (d + 1) M_Mo_in [.ref (qb E + 115), .int a2, .int 0, .int 3] E w1 (fun w3 x3 => ((¬ x3 = 0) → (CaI (d + 1) M_Mo_in [.ref (qb E + 115), .int a3, .int 0, .int 9] E w3 (fun w5 x5 => ((¬ x5 = 0) → (vp_in a1 6 ∧ ((((qi w5 116 ((a1).toNatClampNeg)) = 6) → (vp_in ((4 * a1) + a2) 24 ∧ (vp_in ((4 * a1) + a2) 24 ∧ (Q (qpi w5 122 (((4 * a1) + a2).toNatClampNeg) a3) (qi w5 122 (((4 * a1) + a2).toNatClampNeg)))))) ∧ ((¬ (qi w5 116 ((a1).toNatClampNeg)) = 6) → (Q w5 (-3)))))) ∧ ((x5 = 0) → (Q w5 (-2)))))) ∧ ((x3 = 0) → (Q w3 (-1)))))))) : c_Mo_row_0 d E Q a1 a2 a3 w := by
  unfold c_Mo_row_0
  refine g_aload_n 0 e_Mo_row_0 rfl rfl ?_
  refine g_iload_n 1 e_Mo_row_1 rfl rfl ?_
  refine w_callVI (w := w) (As := [.int a1]) (rest := []) e_Mo_row_2 ok_Mo_isThing rfl km_Mo_257 kx_Mo_isThing kv_Mo_isThing rfl (by decide) hw lay_115 (by decide) rfl (Nat.le_of_ble_eq_true rfl) h (fun w1 x1 hw1 h => ?_)
  refine g_if_eq 18 e_Mo_row_5 (by decide) ⟨fun z2 => ?_, fun z2 => ?_⟩
  · have h := h.1 z2
    refine g_iconst (v := (-1)) e_Mo_row_18 (by decide) ?_
    exact g_iret e_Mo_row_19 rfl ⟨Sh.n hw1, _, rfl, hw1, h⟩
  · have h := h.2 z2
    refine g_aload_n 0 e_Mo_row_8 rfl rfl ?_
    refine g_iload_n 2 e_Mo_row_9 rfl rfl ?_
    refine g_iconst (v := 0) e_Mo_row_10 (by decide) ?_
    refine g_iconst (v := 3) e_Mo_row_11 (by decide) ?_
    refine w_callVI (w := w1) (As := [.int a2, .int 0, .int 3]) (rest := []) e_Mo_row_12 ok_Mo_in rfl km_Mo_249 kx_Mo_in kv_Mo_in rfl (by decide) hw1 lay_115 (by decide) rfl (Nat.le_of_ble_eq_true rfl) h (fun w3 x3 hw3 h => ?_)
    refine g_if_ne 20 e_Mo_row_15 (by decide) ⟨fun z4 => ?_, fun z4 => ?_⟩
    · have h := h.1 z4
      refine g_aload_n 0 e_Mo_row_20 rfl rfl ?_
      refine g_iload_n 3 e_Mo_row_21 rfl rfl ?_
      refine g_iconst (v := 0) e_Mo_row_22 (by decide) ?_
      refine g_bipush (v := 9) e_Mo_row_23 (by decide) ?_
      refine w_callVI (w := w3) (As := [.int a3, .int 0, .int 9]) (rest := []) e_Mo_row_25 ok_Mo_in rfl km_Mo_249 kx_Mo_in kv_Mo_in rfl (by decide) hw3 lay_115 (by decide) rfl (Nat.le_of_ble_eq_true rfl) h (fun w5 x5 hw5 h => ?_)
      refine g_if_ne 34 e_Mo_row_28 (by decide) ⟨fun z6 => ?_, fun z6 => ?_⟩
      · have h := h.1 z6
        refine g_aload_n 0 e_Mo_row_34 rfl rfl ?_
        refine gf_Mo_26 rfl e_Mo_row_35 hw5 lay_115 (by decide) (sh_Mo_kind hw5) ?_
        refine g_iload_n 1 e_Mo_row_38 rfl rfl ?_
        obtain ⟨o7, h⟩ := h
        refine w_iaload ((a1).toNatClampNeg) e_Mo_row_39 hw5 lay_116 (by decide) o7 rfl ?_
        refine g_bipush (v := 6) e_Mo_row_40 (by decide) ?_
        refine g_icmp_eq 48 e_Mo_row_42 (by decide) ⟨fun z8 => ?_, fun z8 => ?_⟩
        · have h := h.1 z8
          refine g_aload_n 0 e_Mo_row_48 rfl rfl ?_
          refine gf_Mo_45 rfl e_Mo_row_49 hw5 lay_115 (by decide) (sh_Mo_rows hw5) ?_
          refine g_iconst (v := 4) e_Mo_row_52 (by decide) ?_
          refine g_iload_n 1 e_Mo_row_53 rfl rfl ?_
          refine g_imul e_Mo_row_54 ?_
          refine g_iload_n 2 e_Mo_row_55 rfl rfl ?_
          refine g_iadd e_Mo_row_56 ?_
          obtain ⟨o9, h⟩ := h
          refine w_iaload (((4 * a1) + a2).toNatClampNeg) e_Mo_row_57 hw5 lay_122 (by decide) o9 rfl ?_
          refine g_istore (lv := [(4, .int (qi w5 122 (((4 * a1) + a2).toNatClampNeg))), (0, .ref (qb E + 115)), (1, .int a1), (2, .int a2), (3, .int a3)]) e_Mo_row_58 (by decide) rfl ?_
          refine g_aload_n 1 e_Mo_row_60 rfl rfl ?_
          refine gf_Mo_45 rfl e_Mo_row_61 hw5 lay_115 (by decide) (sh_Mo_rows hw5) ?_
          refine g_iconst (v := 4) e_Mo_row_64 (by decide) ?_
          refine g_iload_n 2 e_Mo_row_65 rfl rfl ?_
          refine g_imul e_Mo_row_66 ?_
          refine g_iload_n 3 e_Mo_row_67 rfl rfl ?_
          refine g_iadd e_Mo_row_68 ?_
          refine g_iload_n 4 e_Mo_row_69 rfl rfl ?_
          obtain ⟨o10, h⟩ := h
          refine w_iastore (((4 * a1) + a2).toNatClampNeg) e_Mo_row_70 hw5 lay_122 (by decide) o10 rfl ?_
          refine g_iload 0 e_Mo_row_71 rfl ?_
          exact g_iret e_Mo_row_73 rfl ⟨Sh.n hw5, _, rfl, hw5, h⟩
        · have h := h.2 z8
          refine g_bipush (v := (-3)) e_Mo_row_45 (by decide) ?_
          exact g_iret e_Mo_row_47 rfl ⟨Sh.n hw5, _, rfl, hw5, h⟩
      · have h := h.2 z6
        refine g_bipush (v := (-2)) e_Mo_row_31 (by decide) ?_
        exact g_iret e_Mo_row_33 rfl ⟨Sh.n hw5, _, rfl, hw5, h⟩
    · have h := h.2 z4
      refine g_iconst (v := (-1)) e_Mo_row_18 (by decide) ?_
      exact g_iret e_Mo_row_19 rfl ⟨Sh.n hw3, _, rfl, hw3, h⟩
theorem en_Mo_row {d : Nat} {E : qE} {Q : qW → Int32 → Prop} {a1 : Int32} {a2 : Int32} {a3 : Int32} {w : qW} (hw : Sh w) (h : c_Mo_row_0 d E Q a1 a2 a3 w) : CaI (d + 2) M_Mo_row [.ref (qb E + 115), .int a1, .int a2, .int a3] E w Q := Ca.into hw rfl (Nat.le_of_ble_eq_true rfl) h
def c_Mo_feed_0 (d : Nat) (E : qE) (Q : qW → Int32 → Prop) (a1 : Int32) (w : qW) : Prop := Go (d + 1) M_Mo_feed E 161 161 (qFI Q) 0 [(0, .ref (qb E + 115)), (1, .int a1)] [] w
set_option maxHeartbeats 4000000 in
set_option maxRecDepth 8000 in
theorem s_Mo_feed_0 {d : Nat} {E : qE} {Q : qW → Int32 → Prop} {a1 : Int32} {w : qW} (hw : Sh w) (h : CaI d M_Mo_in [.ref (qb E + 115), .int a1, .int 0, .int 127] E w (fun w1 x1 => ((¬ x1 = 0) → (((¬ (qi w1 115 14) = 100) → (vp_in (qi w1 115 14) 100 ∧ (Q (qpi (qpi w1 123 ((qi w1 115 14).toNatClampNeg) a1) 115 14 ((qi (qpi w1 123 ((qi w1 115 14).toNatClampNeg) a1) 115 14) + 1)) (qi (qpi (qpi w1 123 ((qi w1 115 14).toNatClampNeg) a1) 115 14 ((qi (qpi w1 123 ((qi w1 115 14).toNatClampNeg) a1) 115 14) + 1)) 115 14)))) ∧ (((qi w1 115 14) = 100) → (Q w1 (-4))))) ∧ ((x1 = 0) → (Q w1 (-2))))) : c_Mo_feed_0 d E Q a1 w := by
  unfold c_Mo_feed_0
  refine g_aload_n 0 e_Mo_feed_0 rfl rfl ?_
  refine g_iload_n 1 e_Mo_feed_1 rfl rfl ?_
  refine g_iconst (v := 0) e_Mo_feed_2 (by decide) ?_
  refine g_bipush (v := 127) e_Mo_feed_3 (by decide) ?_
  refine w_callVI (w := w) (As := [.int a1, .int 0, .int 127]) (rest := []) e_Mo_feed_5 ok_Mo_in rfl km_Mo_249 kx_Mo_in kv_Mo_in rfl (by decide) hw lay_115 (by decide) rfl (Nat.le_of_ble_eq_true rfl) h (fun w1 x1 hw1 h => ?_)
  refine g_if_ne 14 e_Mo_feed_8 (by decide) ⟨fun z2 => ?_, fun z2 => ?_⟩
  · have h := h.1 z2
    refine g_aload_n 0 e_Mo_feed_14 rfl rfl ?_
    refine gf_Mo_54 rfl e_Mo_feed_15 hw1 lay_115 (by decide) ?_
    refine g_bipush (v := 100) e_Mo_feed_18 (by decide) ?_
    refine g_icmp_ne 26 e_Mo_feed_20 (by decide) ⟨fun z3 => ?_, fun z3 => ?_⟩
    · have h := h.1 z3
      refine g_aload_n 0 e_Mo_feed_26 rfl rfl ?_
      refine gf_Mo_63 rfl e_Mo_feed_27 hw1 lay_115 (by decide) (sh_Mo_text hw1) ?_
      refine g_aload_n 0 e_Mo_feed_30 rfl rfl ?_
      refine gf_Mo_54 rfl e_Mo_feed_31 hw1 lay_115 (by decide) ?_
      refine g_iload_n 1 e_Mo_feed_34 rfl rfl ?_
      obtain ⟨o4, h⟩ := h
      refine w_iastore ((qi w1 115 14).toNatClampNeg) e_Mo_feed_35 hw1 lay_123 (by decide) o4 rfl ?_
      refine g_aload_n 0 e_Mo_feed_36 rfl rfl ?_
      refine g_dup e_Mo_feed_37 rfl ?_
      refine gf_Mo_54 rfl e_Mo_feed_38 hw1 lay_115 (by decide) ?_
      refine g_iconst (v := 1) e_Mo_feed_41 (by decide) ?_
      refine g_iadd e_Mo_feed_42 ?_
      refine pf_Mo_54 rfl e_Mo_feed_43 hw1 lay_115 (by decide) ?_
      refine g_aload_n 0 e_Mo_feed_46 rfl rfl ?_
      refine gf_Mo_54 rfl e_Mo_feed_47 hw1 lay_115 (by decide) ?_
      exact g_iret e_Mo_feed_50 rfl ⟨Sh.n hw1, _, rfl, hw1, h⟩
    · have h := h.2 z3
      refine g_bipush (v := (-4)) e_Mo_feed_23 (by decide) ?_
      exact g_iret e_Mo_feed_25 rfl ⟨Sh.n hw1, _, rfl, hw1, h⟩
  · have h := h.2 z2
    refine g_bipush (v := (-2)) e_Mo_feed_11 (by decide) ?_
    exact g_iret e_Mo_feed_13 rfl ⟨Sh.n hw1, _, rfl, hw1, h⟩
theorem en_Mo_feed {d : Nat} {E : qE} {Q : qW → Int32 → Prop} {a1 : Int32} {w : qW} (hw : Sh w) (h : c_Mo_feed_0 d E Q a1 w) : CaI (d + 1) M_Mo_feed [.ref (qb E + 115), .int a1] E w Q := Ca.into hw rfl (Nat.le_of_ble_eq_true rfl) h
def c_Mo_next_0 (d : Nat) (E : qE) (Q : qW → Int32 → Prop) (w : qW) : Prop := Go d M_Mo_next E 161 161 (qFI Q) 0 [(0, .ref (qb E + 115))] [] w
set_option maxHeartbeats 4000000 in
set_option maxRecDepth 8000 in
theorem s_Mo_next_0 {d : Nat} {E : qE} {Q : qW → Int32 → Prop} {w : qW} (hw : Sh w) (h : (((qi w 115 14) ≤ (qi w 115 15)) → (Q w (-1))) ∧ ((¬ (qi w 115 14) ≤ (qi w 115 15)) → (vp_in (qi w 115 15) 100 ∧ (Q w (qi w 123 ((qi w 115 15).toNatClampNeg)))))) : c_Mo_next_0 d E Q  w := by
  unfold c_Mo_next_0
  refine g_aload_n 0 e_Mo_next_0 rfl rfl ?_
  refine gf_Mo_57 rfl e_Mo_next_1 hw lay_115 (by decide) ?_
  refine g_aload_n 0 e_Mo_next_4 rfl rfl ?_
  refine gf_Mo_54 rfl e_Mo_next_5 hw lay_115 (by decide) ?_
  refine g_icmp_ge 23 e_Mo_next_8 (by decide) ⟨fun z1 => ?_, fun z1 => ?_⟩
  · have h := h.1 z1
    refine g_iconst (v := (-1)) e_Mo_next_23 (by decide) ?_
    exact g_iret e_Mo_next_24 rfl ⟨Sh.n hw, _, rfl, hw, h⟩
  · have h := h.2 z1
    refine g_aload_n 0 e_Mo_next_11 rfl rfl ?_
    refine gf_Mo_63 rfl e_Mo_next_12 hw lay_115 (by decide) (sh_Mo_text hw) ?_
    refine g_aload_n 0 e_Mo_next_15 rfl rfl ?_
    refine gf_Mo_57 rfl e_Mo_next_16 hw lay_115 (by decide) ?_
    obtain ⟨o2, h⟩ := h
    refine w_iaload ((qi w 115 15).toNatClampNeg) e_Mo_next_19 hw lay_123 (by decide) o2 rfl ?_
    refine g_goto 24 e_Mo_next_20 (by decide) ?_
    exact g_iret e_Mo_next_24 rfl ⟨Sh.n hw, _, rfl, hw, h⟩
theorem en_Mo_next {d : Nat} {E : qE} {Q : qW → Int32 → Prop} {w : qW} (hw : Sh w) (h : c_Mo_next_0 d E Q  w) : CaI d M_Mo_next [.ref (qb E + 115)] E w Q := Ca.into hw rfl (Nat.le_of_ble_eq_true rfl) h
def c_Mo_takes_0 (d : Nat) (E : qE) (Q : qW → Int32 → Prop) (a1 : Int32) (w : qW) : Prop := Go (d + 1) M_Mo_takes E 161 161 (qFI Q) 0 [(0, .ref (qb E + 115)), (1, .int a1)] [] w
set_option maxHeartbeats 4000000 in
set_option maxRecDepth 8000 in
theorem s_Mo_takes_0 {d : Nat} {E : qE} {Q : qW → Int32 → Prop} {a1 : Int32} {w : qW} (hw : Sh w) (h : CaI d M_Mo_next [.ref (qb E + 115)] E w (fun w1 x1 => ((x1 = a1) → (Q (qpi w1 115 15 ((qi w1 115 15) + 1)) 1)) ∧ ((¬ x1 = a1) → (Q w1 0)))) : c_Mo_takes_0 d E Q a1 w := by
  unfold c_Mo_takes_0
  refine g_aload_n 0 e_Mo_takes_0 rfl rfl ?_
  refine w_callVI (w := w) (As := []) (rest := []) e_Mo_takes_1 ok_Mo_next rfl km_Mo_274 kx_Mo_next kv_Mo_next rfl (by decide) hw lay_115 (by decide) rfl (Nat.le_of_ble_eq_true rfl) h (fun w1 x1 hw1 h => ?_)
  refine g_iload_n 1 e_Mo_takes_4 rfl rfl ?_
  refine g_icmp_eq 10 e_Mo_takes_5 (by decide) ⟨fun z2 => ?_, fun z2 => ?_⟩
  · have h := h.1 z2
    refine g_aload_n 0 e_Mo_takes_10 rfl rfl ?_
    refine g_dup e_Mo_takes_11 rfl ?_
    refine gf_Mo_57 rfl e_Mo_takes_12 hw1 lay_115 (by decide) ?_
    refine g_iconst (v := 1) e_Mo_takes_15 (by decide) ?_
    refine g_iadd e_Mo_takes_16 ?_
    refine pf_Mo_57 rfl e_Mo_takes_17 hw1 lay_115 (by decide) ?_
    refine g_iconst (v := 1) e_Mo_takes_20 (by decide) ?_
    exact g_zret e_Mo_takes_21 rfl (Or.inr rfl) ⟨Sh.n hw1, _, rfl, hw1, h⟩
  · have h := h.2 z2
    refine g_iconst (v := 0) e_Mo_takes_8 (by decide) ?_
    exact g_zret e_Mo_takes_9 rfl (Or.inl rfl) ⟨Sh.n hw1, _, rfl, hw1, h⟩
theorem en_Mo_takes {d : Nat} {E : qE} {Q : qW → Int32 → Prop} {a1 : Int32} {w : qW} (hw : Sh w) (h : c_Mo_takes_0 d E Q a1 w) : CaI (d + 1) M_Mo_takes [.ref (qb E + 115), .int a1] E w Q := Ca.into hw rfl (Nat.le_of_ble_eq_true rfl) h
def c_Mo_takesWord_0 (d : Nat) (E : qE) (Q : qW → Int32 → Prop) (a1 : Int32) (a2 : Int32) (w : qW) : Prop := Go (d + 2) M_Mo_takesWord E 161 161 (qFI Q) 0 [(0, .ref (qb E + 115)), (1, .int a1), (2, .int a2)] [] w
def c_Mo_takesWord_2 (d : Nat) (E : qE) (Q : qW → Int32 → Prop) (l1 : Int32) (l2 : Int32) (l3 : Int32) (w : qW) : Prop := Go (d + 2) M_Mo_takesWord E 161 161 (qFI Q) 2 [(0, .ref (qb E + 115)), (1, .int l1), (2, .int l2), (3, .int l3)] [] w
set_option maxHeartbeats 4000000 in
set_option maxRecDepth 8000 in
theorem s_Mo_takesWord_0 {d : Nat} {E : qE} {Q : qW → Int32 → Prop} {a1 : Int32} {a2 : Int32} {w : qW} (hw : Sh w) (h : c_Mo_takesWord_2 d E Q a1 a2 0 w) : c_Mo_takesWord_0 d E Q a1 a2 w := by
  unfold c_Mo_takesWord_0
  refine g_iconst (v := 0) e_Mo_takesWord_0 (by decide) ?_
  refine g_istore_n (lv := [(3, .int 0), (0, .ref (qb E + 115)), (1, .int a1), (2, .int a2)]) e_Mo_takesWord_1 rfl (by decide) rfl ?_
  refine g_loc [1, 2, 3, 0] rfl ?_
  exact h
set_option maxHeartbeats 4000000 in
set_option maxRecDepth 8000 in
theorem s_Mo_takesWord_2 {d : Nat} {E : qE} {Q : qW → Int32 → Prop} {l1 : Int32} {l2 : Int32} {l3 : Int32} {w : qW} (hw : Sh w) (h : ((l2 ≤ l3) → (CaI (d + 1) M_Mo_takes [.ref (qb E + 115), .int 32] E w (fun w2 x2 => (x2 = 0 ∨ x2 = 1) ∧ (Q w2 x2)))) ∧ ((¬ l2 ≤ l3) → (vp_in (l1 + l3) 13 ∧ (CaI (d + 1) M_Mo_takes [.ref (qb E + 115), .int (qi w 131 ((l1 + l3).toNatClampNeg))] E w (fun w5 x5 => ((¬ x5 = 0) → (c_Mo_takesWord_2 d E Q l1 l2 (l3 + 1) w5)) ∧ ((x5 = 0) → (Q w5 0))))))) : c_Mo_takesWord_2 d E Q l1 l2 l3 w := by
  unfold c_Mo_takesWord_2
  refine g_iload_n 3 e_Mo_takesWord_2 rfl rfl ?_
  refine g_iload_n 2 e_Mo_takesWord_3 rfl rfl ?_
  refine g_icmp_ge 30 e_Mo_takesWord_4 (by decide) ⟨fun z1 => ?_, fun z1 => ?_⟩
  · have h := h.1 z1
    refine g_aload_n 0 e_Mo_takesWord_30 rfl rfl ?_
    refine g_bipush (v := 32) e_Mo_takesWord_31 (by decide) ?_
    refine w_callVI (w := w) (As := [.int 32]) (rest := []) e_Mo_takesWord_33 ok_Mo_takes rfl km_Mo_278 kx_Mo_takes kv_Mo_takes rfl (by decide) hw lay_115 (by decide) rfl (Nat.le_of_ble_eq_true rfl) h (fun w2 x2 hw2 h => ?_)
    obtain ⟨o3, h⟩ := h
    exact g_zret e_Mo_takesWord_36 rfl o3 ⟨Sh.n hw2, _, rfl, hw2, h⟩
  · have h := h.2 z1
    refine g_aload_n 0 e_Mo_takesWord_7 rfl rfl ?_
    refine g_aload_n 0 e_Mo_takesWord_8 rfl rfl ?_
    refine gf_Mo_96 rfl e_Mo_takesWord_9 hw lay_115 (by decide) (sh_Mo_letters hw) ?_
    refine g_iload_n 1 e_Mo_takesWord_12 rfl rfl ?_
    refine g_iload_n 3 e_Mo_takesWord_13 rfl rfl ?_
    refine g_iadd e_Mo_takesWord_14 ?_
    obtain ⟨o4, h⟩ := h
    refine w_iaload ((l1 + l3).toNatClampNeg) e_Mo_takesWord_15 hw lay_131 (by decide) o4 rfl ?_
    refine w_callVI (w := w) (As := [.int (qi w 131 ((l1 + l3).toNatClampNeg))]) (rest := []) e_Mo_takesWord_16 ok_Mo_takes rfl km_Mo_278 kx_Mo_takes kv_Mo_takes rfl (by decide) hw lay_115 (by decide) rfl (Nat.le_of_ble_eq_true rfl) h (fun w5 x5 hw5 h => ?_)
    refine g_if_ne 24 e_Mo_takesWord_19 (by decide) ⟨fun z6 => ?_, fun z6 => ?_⟩
    · have h := h.1 z6
      refine g_iinc (v := (l3 + 1)) (lv := [(3, .int (l3 + 1)), (0, .ref (qb E + 115)), (1, .int l1), (2, .int l2)]) 3 e_Mo_takesWord_24 rfl rfl (by decide) rfl ?_
      refine g_goto 2 e_Mo_takesWord_27 (by decide) ?_
      refine g_loc [1, 2, 3, 0] rfl ?_
      exact h
    · have h := h.2 z6
      refine g_iconst (v := 0) e_Mo_takesWord_22 (by decide) ?_
      exact g_zret e_Mo_takesWord_23 rfl (Or.inl rfl) ⟨Sh.n hw5, _, rfl, hw5, h⟩
theorem en_Mo_takesWord {d : Nat} {E : qE} {Q : qW → Int32 → Prop} {a1 : Int32} {a2 : Int32} {w : qW} (hw : Sh w) (h : c_Mo_takesWord_0 d E Q a1 a2 w) : CaI (d + 2) M_Mo_takesWord [.ref (qb E + 115), .int a1, .int a2] E w Q := Ca.into hw rfl (Nat.le_of_ble_eq_true rfl) h
def c_Mo_isDigit_0 (d : Nat) (E : qE) (Q : qW → Int32 → Prop) (w : qW) : Prop := Go (d + 1) M_Mo_isDigit E 161 161 (qFI Q) 0 [(0, .ref (qb E + 115))] [] w
set_option maxHeartbeats 4000000 in
set_option maxRecDepth 8000 in
theorem s_Mo_isDigit_0 {d : Nat} {E : qE} {Q : qW → Int32 → Prop} {w : qW} (hw : Sh w) (h : CaI d M_Mo_next [.ref (qb E + 115)] E w (fun w1 x1 => CaI d M_Mo_in [.ref (qb E + 115), .int x1, .int 48, .int 57] E w1 (fun w2 x2 => (x2 = 0 ∨ x2 = 1) ∧ (Q w2 x2)))) : c_Mo_isDigit_0 d E Q  w := by
  unfold c_Mo_isDigit_0
  refine g_aload_n 0 e_Mo_isDigit_0 rfl rfl ?_
  refine g_aload_n 0 e_Mo_isDigit_1 rfl rfl ?_
  refine w_callVI (w := w) (As := []) (rest := [.ref (qb E + 115)]) e_Mo_isDigit_2 ok_Mo_next rfl km_Mo_274 kx_Mo_next kv_Mo_next rfl (by decide) hw lay_115 (by decide) rfl (Nat.le_of_ble_eq_true rfl) h (fun w1 x1 hw1 h => ?_)
  refine g_bipush (v := 48) e_Mo_isDigit_5 (by decide) ?_
  refine g_bipush (v := 57) e_Mo_isDigit_7 (by decide) ?_
  refine w_callVI (w := w1) (As := [.int x1, .int 48, .int 57]) (rest := []) e_Mo_isDigit_9 ok_Mo_in rfl km_Mo_249 kx_Mo_in kv_Mo_in rfl (by decide) hw1 lay_115 (by decide) rfl (Nat.le_of_ble_eq_true rfl) h (fun w2 x2 hw2 h => ?_)
  obtain ⟨o3, h⟩ := h
  exact g_zret e_Mo_isDigit_12 rfl o3 ⟨Sh.n hw2, _, rfl, hw2, h⟩
theorem en_Mo_isDigit {d : Nat} {E : qE} {Q : qW → Int32 → Prop} {w : qW} (hw : Sh w) (h : c_Mo_isDigit_0 d E Q  w) : CaI (d + 1) M_Mo_isDigit [.ref (qb E + 115)] E w Q := Ca.into hw rfl (Nat.le_of_ble_eq_true rfl) h
def c_Mo_takesNumber_0 (d : Nat) (E : qE) (Q : qW → Int32 → Prop) (w : qW) : Prop := Go (d + 2) M_Mo_takesNumber E 161 161 (qFI Q) 0 [(0, .ref (qb E + 115))] [] w
def c_Mo_takesNumber_16 (d : Nat) (E : qE) (Q : qW → Int32 → Prop) (l1 : Int32) (w : qW) : Prop := Go (d + 2) M_Mo_takesNumber E 161 161 (qFI Q) 16 [(0, .ref (qb E + 115)), (1, .int l1)] [] w
set_option maxHeartbeats 4000000 in
set_option maxRecDepth 8000 in
theorem s_Mo_takesNumber_0 {d : Nat} {E : qE} {Q : qW → Int32 → Prop} {w : qW} (hw : Sh w) (h : CaI (d + 1) M_Mo_isDigit [.ref (qb E + 115)] E w (fun w1 x1 => ((¬ x1 = 0) → (c_Mo_takesNumber_16 d E Q 0 (qpi w1 115 16 0))) ∧ ((x1 = 0) → (Q w1 0)))) : c_Mo_takesNumber_0 d E Q  w := by
  unfold c_Mo_takesNumber_0
  refine g_aload_n 0 e_Mo_takesNumber_0 rfl rfl ?_
  refine w_callVI (w := w) (As := []) (rest := []) e_Mo_takesNumber_1 ok_Mo_isDigit rfl km_Mo_281 kx_Mo_isDigit kv_Mo_isDigit rfl (by decide) hw lay_115 (by decide) rfl (Nat.le_of_ble_eq_true rfl) h (fun w1 x1 hw1 h => ?_)
  refine g_if_ne 9 e_Mo_takesNumber_4 (by decide) ⟨fun z2 => ?_, fun z2 => ?_⟩
  · have h := h.1 z2
    refine g_aload_n 0 e_Mo_takesNumber_9 rfl rfl ?_
    refine g_iconst (v := 0) e_Mo_takesNumber_10 (by decide) ?_
    refine pf_Mo_60 rfl e_Mo_takesNumber_11 hw1 lay_115 (by decide) ?_
    refine g_iconst (v := 0) e_Mo_takesNumber_14 (by decide) ?_
    refine g_istore_n (lv := [(1, .int 0), (0, .ref (qb E + 115))]) e_Mo_takesNumber_15 rfl (by decide) rfl ?_
    refine g_loc [1, 0] rfl ?_
    exact h
  · have h := h.2 z2
    refine g_iconst (v := 0) e_Mo_takesNumber_7 (by decide) ?_
    exact g_zret e_Mo_takesNumber_8 rfl (Or.inl rfl) ⟨Sh.n hw1, _, rfl, hw1, h⟩
set_option maxHeartbeats 4000000 in
set_option maxRecDepth 8000 in
theorem s_Mo_takesNumber_16 {d : Nat} {E : qE} {Q : qW → Int32 → Prop} {l1 : Int32} {w : qW} (hw : Sh w) (h : ((2 ≤ l1) → (Q w 1)) ∧ ((¬ 2 ≤ l1) → (CaI (d + 1) M_Mo_isDigit [.ref (qb E + 115)] E w (fun w2 x2 => ((x2 = 0) → (Q w2 1)) ∧ ((¬ x2 = 0) → (CaI (d + 1) M_Mo_next [.ref (qb E + 115)] E w2 (fun w4 x4 => c_Mo_takesNumber_16 d E Q (l1 + 1) (qpi (qpi w4 115 16 (((10 * (qi w2 115 16)) + x4) - 48)) 115 15 ((qi (qpi w4 115 16 (((10 * (qi w2 115 16)) + x4) - 48)) 115 15) + 1))))))))) : c_Mo_takesNumber_16 d E Q l1 w := by
  unfold c_Mo_takesNumber_16
  refine g_iload_n 1 e_Mo_takesNumber_16 rfl rfl ?_
  refine g_iconst (v := 2) e_Mo_takesNumber_17 (by decide) ?_
  refine g_icmp_ge 63 e_Mo_takesNumber_18 (by decide) ⟨fun z1 => ?_, fun z1 => ?_⟩
  · have h := h.1 z1
    refine g_iconst (v := 1) e_Mo_takesNumber_63 (by decide) ?_
    exact g_zret e_Mo_takesNumber_64 rfl (Or.inr rfl) ⟨Sh.n hw, _, rfl, hw, h⟩
  · have h := h.2 z1
    refine g_aload_n 0 e_Mo_takesNumber_21 rfl rfl ?_
    refine w_callVI (w := w) (As := []) (rest := []) e_Mo_takesNumber_22 ok_Mo_isDigit rfl km_Mo_281 kx_Mo_isDigit kv_Mo_isDigit rfl (by decide) hw lay_115 (by decide) rfl (Nat.le_of_ble_eq_true rfl) h (fun w2 x2 hw2 h => ?_)
    refine g_if_eq 63 e_Mo_takesNumber_25 (by decide) ⟨fun z3 => ?_, fun z3 => ?_⟩
    · have h := h.1 z3
      refine g_iconst (v := 1) e_Mo_takesNumber_63 (by decide) ?_
      exact g_zret e_Mo_takesNumber_64 rfl (Or.inr rfl) ⟨Sh.n hw2, _, rfl, hw2, h⟩
    · have h := h.2 z3
      refine g_aload_n 0 e_Mo_takesNumber_28 rfl rfl ?_
      refine g_bipush (v := 10) e_Mo_takesNumber_29 (by decide) ?_
      refine g_aload_n 0 e_Mo_takesNumber_31 rfl rfl ?_
      refine gf_Mo_60 rfl e_Mo_takesNumber_32 hw2 lay_115 (by decide) ?_
      refine g_imul e_Mo_takesNumber_35 ?_
      refine g_aload_n 0 e_Mo_takesNumber_36 rfl rfl ?_
      refine w_callVI (w := w2) (As := []) (rest := [.int (10 * (qi w2 115 16)), .ref (qb E + 115)]) e_Mo_takesNumber_37 ok_Mo_next rfl km_Mo_274 kx_Mo_next kv_Mo_next rfl (by decide) hw2 lay_115 (by decide) rfl (Nat.le_of_ble_eq_true rfl) h (fun w4 x4 hw4 h => ?_)
      refine g_iadd e_Mo_takesNumber_40 ?_
      refine g_bipush (v := 48) e_Mo_takesNumber_41 (by decide) ?_
      refine g_isub e_Mo_takesNumber_43 ?_
      refine pf_Mo_60 rfl e_Mo_takesNumber_44 hw4 lay_115 (by decide) ?_
      refine g_aload_n 0 e_Mo_takesNumber_47 rfl rfl ?_
      refine g_dup e_Mo_takesNumber_48 rfl ?_
      refine gf_Mo_57 rfl e_Mo_takesNumber_49 hw4 lay_115 (by decide) ?_
      refine g_iconst (v := 1) e_Mo_takesNumber_52 (by decide) ?_
      refine g_iadd e_Mo_takesNumber_53 ?_
      refine pf_Mo_57 rfl e_Mo_takesNumber_54 hw4 lay_115 (by decide) ?_
      refine g_iinc (v := (l1 + 1)) (lv := [(1, .int (l1 + 1)), (0, .ref (qb E + 115))]) 1 e_Mo_takesNumber_57 rfl rfl (by decide) rfl ?_
      refine g_goto 16 e_Mo_takesNumber_60 (by decide) ?_
      refine g_loc [1, 0] rfl ?_
      exact h
theorem en_Mo_takesNumber {d : Nat} {E : qE} {Q : qW → Int32 → Prop} {w : qW} (hw : Sh w) (h : c_Mo_takesNumber_0 d E Q  w) : CaI (d + 2) M_Mo_takesNumber [.ref (qb E + 115)] E w Q := Ca.into hw rfl (Nat.le_of_ble_eq_true rfl) h
def c_Mo_emits_0 (d : Nat) (E : qE) (Q : qW → Prop) (a1 : Int32) (w : qW) : Prop := Go d M_Mo_emits E 161 161 (qFV Q) 0 [(0, .ref (qb E + 115)), (1, .int a1)] [] w
set_option maxHeartbeats 4000000 in
set_option maxRecDepth 8000 in
theorem s_Mo_emits_0 {d : Nat} {E : qE} {Q : qW → Prop} {a1 : Int32} {w : qW} (hw : Sh w) (h : vp_in (qi w 115 25) 600 ∧ (Q (qpi (qpi w 129 ((qi w 115 25).toNatClampNeg) a1) 115 25 ((qi (qpi w 129 ((qi w 115 25).toNatClampNeg) a1) 115 25) + 1)))) : c_Mo_emits_0 d E Q a1 w := by
  unfold c_Mo_emits_0
  refine g_aload_n 0 e_Mo_emits_0 rfl rfl ?_
  refine gf_Mo_81 rfl e_Mo_emits_1 hw lay_115 (by decide) (sh_Mo_sign hw) ?_
  refine g_aload_n 0 e_Mo_emits_4 rfl rfl ?_
  refine gf_Mo_87 rfl e_Mo_emits_5 hw lay_115 (by decide) ?_
  refine g_iload_n 1 e_Mo_emits_8 rfl rfl ?_
  obtain ⟨o1, h⟩ := h
  refine w_iastore ((qi w 115 25).toNatClampNeg) e_Mo_emits_9 hw lay_129 (by decide) o1 rfl ?_
  refine g_aload_n 0 e_Mo_emits_10 rfl rfl ?_
  refine g_dup e_Mo_emits_11 rfl ?_
  refine gf_Mo_87 rfl e_Mo_emits_12 hw lay_115 (by decide) ?_
  refine g_iconst (v := 1) e_Mo_emits_15 (by decide) ?_
  refine g_iadd e_Mo_emits_16 ?_
  refine pf_Mo_87 rfl e_Mo_emits_17 hw lay_115 (by decide) ?_
  exact g_vret e_Mo_emits_20 rfl ⟨Sh.n hw, rfl, hw, h⟩
theorem en_Mo_emits {d : Nat} {E : qE} {Q : qW → Prop} {a1 : Int32} {w : qW} (hw : Sh w) (h : c_Mo_emits_0 d E Q a1 w) : CaV d M_Mo_emits [.ref (qb E + 115), .int a1] E w Q := Ca.into hw rfl (Nat.le_of_ble_eq_true rfl) h
def c_Mo_whole_0 (d : Nat) (E : qE) (Q : qW → Prop) (w : qW) : Prop := Go (d + 1) M_Mo_whole E 161 161 (qFV Q) 0 [(0, .ref (qb E + 115))] [] w
set_option maxHeartbeats 4000000 in
set_option maxRecDepth 8000 in
theorem s_Mo_whole_0 {d : Nat} {E : qE} {Q : qW → Prop} {w : qW} (hw : Sh w) (h : (((qi w 115 26) ≤ 0) → (Q w)) ∧ ((¬ (qi w 115 26) ≤ 0) → (vp_in ((qi w 115 26) - 1) 101 ∧ (((¬ (qi w 130 (((qi w 115 26) - 1).toNatClampNeg)) = 33) → (Q w)) ∧ (((qi w 130 (((qi w 115 26) - 1).toNatClampNeg)) = 33) → (CaV d M_Mo_emits [.ref (qb E + 115), .int (-33)] E w (fun w4 => c_Mo_whole_0 d E Q (qpi (qpi w4 115 26 ((qi w4 115 26) - 1)) 115 27 ((qi (qpi w4 115 26 ((qi w4 115 26) - 1)) 115 27) - 1))))))))) : c_Mo_whole_0 d E Q  w := by
  unfold c_Mo_whole_0
  refine g_aload_n 0 e_Mo_whole_0 rfl rfl ?_
  refine gf_Mo_90 rfl e_Mo_whole_1 hw lay_115 (by decide) ?_
  refine g_if_le 52 e_Mo_whole_4 (by decide) ⟨fun z1 => ?_, fun z1 => ?_⟩
  · have h := h.1 z1
    exact g_vret e_Mo_whole_52 rfl ⟨Sh.n hw, rfl, hw, h⟩
  · have h := h.2 z1
    refine g_aload_n 0 e_Mo_whole_7 rfl rfl ?_
    refine gf_Mo_84 rfl e_Mo_whole_8 hw lay_115 (by decide) (sh_Mo_waits hw) ?_
    refine g_aload_n 0 e_Mo_whole_11 rfl rfl ?_
    refine gf_Mo_90 rfl e_Mo_whole_12 hw lay_115 (by decide) ?_
    refine g_iconst (v := 1) e_Mo_whole_15 (by decide) ?_
    refine g_isub e_Mo_whole_16 ?_
    obtain ⟨o2, h⟩ := h
    refine w_iaload (((qi w 115 26) - 1).toNatClampNeg) e_Mo_whole_17 hw lay_130 (by decide) o2 rfl ?_
    refine g_bipush (v := 33) e_Mo_whole_18 (by decide) ?_
    refine g_icmp_ne 52 e_Mo_whole_20 (by decide) ⟨fun z3 => ?_, fun z3 => ?_⟩
    · have h := h.1 z3
      exact g_vret e_Mo_whole_52 rfl ⟨Sh.n hw, rfl, hw, h⟩
    · have h := h.2 z3
      refine g_aload_n 0 e_Mo_whole_23 rfl rfl ?_
      refine g_bipush (v := (-33)) e_Mo_whole_24 (by decide) ?_
      refine w_callVV (w := w) (As := [.int (-33)]) (rest := []) e_Mo_whole_26 ok_Mo_emits rfl km_Mo_285 kx_Mo_emits kv_Mo_emits rfl (by decide) hw lay_115 (by decide) rfl (Nat.le_of_ble_eq_true rfl) h (fun w4 hw4 h => ?_)
      refine g_aload_n 0 e_Mo_whole_29 rfl rfl ?_
      refine g_dup e_Mo_whole_30 rfl ?_
      refine gf_Mo_90 rfl e_Mo_whole_31 hw4 lay_115 (by decide) ?_
      refine g_iconst (v := 1) e_Mo_whole_34 (by decide) ?_
      refine g_isub e_Mo_whole_35 ?_
      refine pf_Mo_90 rfl e_Mo_whole_36 hw4 lay_115 (by decide) ?_
      refine g_aload_n 0 e_Mo_whole_39 rfl rfl ?_
      refine g_dup e_Mo_whole_40 rfl ?_
      refine gf_Mo_93 rfl e_Mo_whole_41 hw4 lay_115 (by decide) ?_
      refine g_iconst (v := 1) e_Mo_whole_44 (by decide) ?_
      refine g_isub e_Mo_whole_45 ?_
      refine pf_Mo_93 rfl e_Mo_whole_46 hw4 lay_115 (by decide) ?_
      refine g_goto 0 e_Mo_whole_49 (by decide) ?_
      refine g_loc [0] rfl ?_
      exact h
theorem en_Mo_whole {d : Nat} {E : qE} {Q : qW → Prop} {w : qW} (hw : Sh w) (h : c_Mo_whole_0 d E Q  w) : CaV (d + 1) M_Mo_whole [.ref (qb E + 115)] E w Q := Ca.into hw rfl (Nat.le_of_ble_eq_true rfl) h
def c_Mo_settle_0 (d : Nat) (E : qE) (Q : qW → Prop) (a1 : Int32) (w : qW) : Prop := Go (d + 1) M_Mo_settle E 161 161 (qFV Q) 0 [(0, .ref (qb E + 115)), (1, .int a1)] [] w
set_option maxHeartbeats 4000000 in
set_option maxRecDepth 8000 in
theorem s_Mo_settle_0 {d : Nat} {E : qE} {Q : qW → Prop} {a1 : Int32} {w : qW} (hw : Sh w) (h : (((qi w 115 26) ≤ 0) → (Q w)) ∧ ((¬ (qi w 115 26) ≤ 0) → (vp_in ((qi w 115 26) - 1) 101 ∧ ((((qi w 130 (((qi w 115 26) - 1).toNatClampNeg)) = 38) → (vp_in (qi (qpi w 115 26 ((qi w 115 26) - 1)) 115 26) 101 ∧ (CaV d M_Mo_emits [.ref (qb E + 115), .int (-(qi (qpi w 115 26 ((qi w 115 26) - 1)) 130 ((qi (qpi w 115 26 ((qi w 115 26) - 1)) 115 26).toNatClampNeg)))] E (qpi w 115 26 ((qi w 115 26) - 1)) (fun w5 => c_Mo_settle_0 d E Q a1 w5)))) ∧ ((¬ (qi w 130 (((qi w 115 26) - 1).toNatClampNeg)) = 38) → (vp_in ((qi w 115 26) - 1) 101 ∧ (((¬ (qi w 130 (((qi w 115 26) - 1).toNatClampNeg)) = 124) → (Q w)) ∧ (((qi w 130 (((qi w 115 26) - 1).toNatClampNeg)) = 124) → (((a1 = 38) → (Q w)) ∧ ((¬ a1 = 38) → (vp_in (qi (qpi w 115 26 ((qi w 115 26) - 1)) 115 26) 101 ∧ (CaV d M_Mo_emits [.ref (qb E + 115), .int (-(qi (qpi w 115 26 ((qi w 115 26) - 1)) 130 ((qi (qpi w 115 26 ((qi w 115 26) - 1)) 115 26).toNatClampNeg)))] E (qpi w 115 26 ((qi w 115 26) - 1)) (fun w10 => c_Mo_settle_0 d E Q a1 w10))))))))))))) : c_Mo_settle_0 d E Q a1 w := by
  unfold c_Mo_settle_0
  refine g_aload_n 0 e_Mo_settle_0 rfl rfl ?_
  refine gf_Mo_90 rfl e_Mo_settle_1 hw lay_115 (by decide) ?_
  refine g_if_le 72 e_Mo_settle_4 (by decide) ⟨fun z1 => ?_, fun z1 => ?_⟩
  · have h := h.1 z1
    exact g_vret e_Mo_settle_72 rfl ⟨Sh.n hw, rfl, hw, h⟩
  · have h := h.2 z1
    refine g_aload_n 0 e_Mo_settle_7 rfl rfl ?_
    refine gf_Mo_84 rfl e_Mo_settle_8 hw lay_115 (by decide) (sh_Mo_waits hw) ?_
    refine g_aload_n 0 e_Mo_settle_11 rfl rfl ?_
    refine gf_Mo_90 rfl e_Mo_settle_12 hw lay_115 (by decide) ?_
    refine g_iconst (v := 1) e_Mo_settle_15 (by decide) ?_
    refine g_isub e_Mo_settle_16 ?_
    obtain ⟨o2, h⟩ := h
    refine w_iaload (((qi w 115 26) - 1).toNatClampNeg) e_Mo_settle_17 hw lay_130 (by decide) o2 rfl ?_
    refine g_bipush (v := 38) e_Mo_settle_18 (by decide) ?_
    refine g_icmp_eq 45 e_Mo_settle_20 (by decide) ⟨fun z3 => ?_, fun z3 => ?_⟩
    · have h := h.1 z3
      refine g_aload_n 0 e_Mo_settle_45 rfl rfl ?_
      refine g_dup e_Mo_settle_46 rfl ?_
      refine gf_Mo_90 rfl e_Mo_settle_47 hw lay_115 (by decide) ?_
      refine g_iconst (v := 1) e_Mo_settle_50 (by decide) ?_
      refine g_isub e_Mo_settle_51 ?_
      refine pf_Mo_90 rfl e_Mo_settle_52 hw lay_115 (by decide) ?_
      refine g_aload_n 0 e_Mo_settle_55 rfl rfl ?_
      refine g_aload_n 0 e_Mo_settle_56 rfl rfl ?_
      refine gf_Mo_84 rfl e_Mo_settle_57 hw lay_115 (by decide) (sh_Mo_waits hw) ?_
      refine g_aload_n 0 e_Mo_settle_60 rfl rfl ?_
      refine gf_Mo_90 rfl e_Mo_settle_61 hw lay_115 (by decide) ?_
      obtain ⟨o4, h⟩ := h
      refine w_iaload ((qi (qpi w 115 26 ((qi w 115 26) - 1)) 115 26).toNatClampNeg) e_Mo_settle_64 hw lay_130 (by decide) o4 rfl ?_
      refine g_ineg e_Mo_settle_65 ?_
      refine w_callVV (w := (qpi w 115 26 ((qi w 115 26) - 1))) (As := [.int (-(qi (qpi w 115 26 ((qi w 115 26) - 1)) 130 ((qi (qpi w 115 26 ((qi w 115 26) - 1)) 115 26).toNatClampNeg)))]) (rest := []) e_Mo_settle_66 ok_Mo_emits rfl km_Mo_285 kx_Mo_emits kv_Mo_emits rfl (by decide) hw lay_115 (by decide) rfl (Nat.le_of_ble_eq_true rfl) h (fun w5 hw5 h => ?_)
      refine g_goto 0 e_Mo_settle_69 (by decide) ?_
      refine g_loc [0, 1] rfl ?_
      exact h
    · have h := h.2 z3
      refine g_aload_n 0 e_Mo_settle_23 rfl rfl ?_
      refine gf_Mo_84 rfl e_Mo_settle_24 hw lay_115 (by decide) (sh_Mo_waits hw) ?_
      refine g_aload_n 0 e_Mo_settle_27 rfl rfl ?_
      refine gf_Mo_90 rfl e_Mo_settle_28 hw lay_115 (by decide) ?_
      refine g_iconst (v := 1) e_Mo_settle_31 (by decide) ?_
      refine g_isub e_Mo_settle_32 ?_
      obtain ⟨o6, h⟩ := h
      refine w_iaload (((qi w 115 26) - 1).toNatClampNeg) e_Mo_settle_33 hw lay_130 (by decide) o6 rfl ?_
      refine g_bipush (v := 124) e_Mo_settle_34 (by decide) ?_
      refine g_icmp_ne 72 e_Mo_settle_36 (by decide) ⟨fun z7 => ?_, fun z7 => ?_⟩
      · have h := h.1 z7
        exact g_vret e_Mo_settle_72 rfl ⟨Sh.n hw, rfl, hw, h⟩
      · have h := h.2 z7
        refine g_iload_n 1 e_Mo_settle_39 rfl rfl ?_
        refine g_bipush (v := 38) e_Mo_settle_40 (by decide) ?_
        refine g_icmp_eq 72 e_Mo_settle_42 (by decide) ⟨fun z8 => ?_, fun z8 => ?_⟩
        · have h := h.1 z8
          exact g_vret e_Mo_settle_72 rfl ⟨Sh.n hw, rfl, hw, h⟩
        · have h := h.2 z8
          refine g_aload_n 0 e_Mo_settle_45 rfl rfl ?_
          refine g_dup e_Mo_settle_46 rfl ?_
          refine gf_Mo_90 rfl e_Mo_settle_47 hw lay_115 (by decide) ?_
          refine g_iconst (v := 1) e_Mo_settle_50 (by decide) ?_
          refine g_isub e_Mo_settle_51 ?_
          refine pf_Mo_90 rfl e_Mo_settle_52 hw lay_115 (by decide) ?_
          refine g_aload_n 0 e_Mo_settle_55 rfl rfl ?_
          refine g_aload_n 0 e_Mo_settle_56 rfl rfl ?_
          refine gf_Mo_84 rfl e_Mo_settle_57 hw lay_115 (by decide) (sh_Mo_waits hw) ?_
          refine g_aload_n 0 e_Mo_settle_60 rfl rfl ?_
          refine gf_Mo_90 rfl e_Mo_settle_61 hw lay_115 (by decide) ?_
          obtain ⟨o9, h⟩ := h
          refine w_iaload ((qi (qpi w 115 26 ((qi w 115 26) - 1)) 115 26).toNatClampNeg) e_Mo_settle_64 hw lay_130 (by decide) o9 rfl ?_
          refine g_ineg e_Mo_settle_65 ?_
          refine w_callVV (w := (qpi w 115 26 ((qi w 115 26) - 1))) (As := [.int (-(qi (qpi w 115 26 ((qi w 115 26) - 1)) 130 ((qi (qpi w 115 26 ((qi w 115 26) - 1)) 115 26).toNatClampNeg)))]) (rest := []) e_Mo_settle_66 ok_Mo_emits rfl km_Mo_285 kx_Mo_emits kv_Mo_emits rfl (by decide) hw lay_115 (by decide) rfl (Nat.le_of_ble_eq_true rfl) h (fun w10 hw10 h => ?_)
          refine g_goto 0 e_Mo_settle_69 (by decide) ?_
          refine g_loc [0, 1] rfl ?_
          exact h
theorem en_Mo_settle {d : Nat} {E : qE} {Q : qW → Prop} {a1 : Int32} {w : qW} (hw : Sh w) (h : c_Mo_settle_0 d E Q a1 w) : CaV (d + 1) M_Mo_settle [.ref (qb E + 115), .int a1] E w Q := Ca.into hw rfl (Nat.le_of_ble_eq_true rfl) h
def c_Mo_place_0 (d : Nat) (E : qE) (Q : qW → Int32 → Prop) (a1 : Int32) (w : qW) : Prop := Go d M_Mo_place E 161 161 (qFI Q) 0 [(0, .ref (qb E + 115)), (1, .int a1)] [] w
set_option maxHeartbeats 4000000 in
set_option maxRecDepth 8000 in
theorem s_Mo_place_0 {d : Nat} {E : qE} {Q : qW → Int32 → Prop} {a1 : Int32} {w : qW} (hw : Sh w) (h : (a1 = 107 → (Q w 1)) ∧ (a1 = 108 → (Q w (-1))) ∧ (a1 = 109 → (Q w 5)) ∧ (a1 = 110 → (Q w (-1))) ∧ (a1 = 111 → (Q w 4)) ∧ (a1 = 112 → (Q w 0)) ∧ (a1 = 113 → (Q w (-1))) ∧ (a1 = 114 → (Q w (-1))) ∧ (a1 = 115 → (Q w (-1))) ∧ (a1 = 116 → (Q w (-1))) ∧ (a1 = 117 → (Q w (-1))) ∧ (a1 = 118 → (Q w 2)) ∧ (a1 = 119 → (Q w 3)) ∧ ((a1.toInt < 107 ∨ 119 < a1.toInt) → (Q w (-1)))) : c_Mo_place_0 d E Q a1 w := by
  unfold c_Mo_place_0
  refine g_iload_n 1 e_Mo_place_0 rfl rfl ?_
  refine g_table e_Mo_place_1 13 (by decide) [70, 80, 78, 80, 76, 68, 80, 80, 80, 80, 80, 72, 74] 80 (by decide) (by decide +kernel) ⟨fun j1 hj1 hx1 => ?_, fun hx1 => ?_⟩
  · rcases (show j1 = 0 ∨ j1 = 1 ∨ j1 = 2 ∨ j1 = 3 ∨ j1 = 4 ∨ j1 = 5 ∨ j1 = 6 ∨ j1 = 7 ∨ j1 = 8 ∨ j1 = 9 ∨ j1 = 10 ∨ j1 = 11 ∨ j1 = 12 by omega) with rfl | rfl | rfl | rfl | rfl | rfl | rfl | rfl | rfl | rfl | rfl | rfl | rfl
    · have h := h.1 (q_key hx1 (by decide))
      change Go _ _ _ _ _ _ 70 _ _ _
      refine g_iconst (v := 1) e_Mo_place_70 (by decide) ?_
      exact g_iret e_Mo_place_71 rfl ⟨Sh.n hw, _, rfl, hw, h⟩
    · have h := h.2.1 (q_key hx1 (by decide))
      change Go _ _ _ _ _ _ 80 _ _ _
      refine g_iconst (v := (-1)) e_Mo_place_80 (by decide) ?_
      exact g_iret e_Mo_place_81 rfl ⟨Sh.n hw, _, rfl, hw, h⟩
    · have h := h.2.2.1 (q_key hx1 (by decide))
      change Go _ _ _ _ _ _ 78 _ _ _
      refine g_iconst (v := 5) e_Mo_place_78 (by decide) ?_
      exact g_iret e_Mo_place_79 rfl ⟨Sh.n hw, _, rfl, hw, h⟩
    · have h := h.2.2.2.1 (q_key hx1 (by decide))
      change Go _ _ _ _ _ _ 80 _ _ _
      refine g_iconst (v := (-1)) e_Mo_place_80 (by decide) ?_
      exact g_iret e_Mo_place_81 rfl ⟨Sh.n hw, _, rfl, hw, h⟩
    · have h := h.2.2.2.2.1 (q_key hx1 (by decide))
      change Go _ _ _ _ _ _ 76 _ _ _
      refine g_iconst (v := 4) e_Mo_place_76 (by decide) ?_
      exact g_iret e_Mo_place_77 rfl ⟨Sh.n hw, _, rfl, hw, h⟩
    · have h := h.2.2.2.2.2.1 (q_key hx1 (by decide))
      change Go _ _ _ _ _ _ 68 _ _ _
      refine g_iconst (v := 0) e_Mo_place_68 (by decide) ?_
      exact g_iret e_Mo_place_69 rfl ⟨Sh.n hw, _, rfl, hw, h⟩
    · have h := h.2.2.2.2.2.2.1 (q_key hx1 (by decide))
      change Go _ _ _ _ _ _ 80 _ _ _
      refine g_iconst (v := (-1)) e_Mo_place_80 (by decide) ?_
      exact g_iret e_Mo_place_81 rfl ⟨Sh.n hw, _, rfl, hw, h⟩
    · have h := h.2.2.2.2.2.2.2.1 (q_key hx1 (by decide))
      change Go _ _ _ _ _ _ 80 _ _ _
      refine g_iconst (v := (-1)) e_Mo_place_80 (by decide) ?_
      exact g_iret e_Mo_place_81 rfl ⟨Sh.n hw, _, rfl, hw, h⟩
    · have h := h.2.2.2.2.2.2.2.2.1 (q_key hx1 (by decide))
      change Go _ _ _ _ _ _ 80 _ _ _
      refine g_iconst (v := (-1)) e_Mo_place_80 (by decide) ?_
      exact g_iret e_Mo_place_81 rfl ⟨Sh.n hw, _, rfl, hw, h⟩
    · have h := h.2.2.2.2.2.2.2.2.2.1 (q_key hx1 (by decide))
      change Go _ _ _ _ _ _ 80 _ _ _
      refine g_iconst (v := (-1)) e_Mo_place_80 (by decide) ?_
      exact g_iret e_Mo_place_81 rfl ⟨Sh.n hw, _, rfl, hw, h⟩
    · have h := h.2.2.2.2.2.2.2.2.2.2.1 (q_key hx1 (by decide))
      change Go _ _ _ _ _ _ 80 _ _ _
      refine g_iconst (v := (-1)) e_Mo_place_80 (by decide) ?_
      exact g_iret e_Mo_place_81 rfl ⟨Sh.n hw, _, rfl, hw, h⟩
    · have h := h.2.2.2.2.2.2.2.2.2.2.2.1 (q_key hx1 (by decide))
      change Go _ _ _ _ _ _ 72 _ _ _
      refine g_iconst (v := 2) e_Mo_place_72 (by decide) ?_
      exact g_iret e_Mo_place_73 rfl ⟨Sh.n hw, _, rfl, hw, h⟩
    · have h := h.2.2.2.2.2.2.2.2.2.2.2.2.1 (q_key hx1 (by decide))
      change Go _ _ _ _ _ _ 74 _ _ _
      refine g_iconst (v := 3) e_Mo_place_74 (by decide) ?_
      exact g_iret e_Mo_place_75 rfl ⟨Sh.n hw, _, rfl, hw, h⟩
  · have h := h.2.2.2.2.2.2.2.2.2.2.2.2.2 hx1
    refine g_iconst (v := (-1)) e_Mo_place_80 (by decide) ?_
    exact g_iret e_Mo_place_81 rfl ⟨Sh.n hw, _, rfl, hw, h⟩
theorem en_Mo_place {d : Nat} {E : qE} {Q : qW → Int32 → Prop} {a1 : Int32} {w : qW} (hw : Sh w) (h : c_Mo_place_0 d E Q a1 w) : CaI d M_Mo_place [.ref (qb E + 115), .int a1] E w Q := Ca.into hw rfl (Nat.le_of_ble_eq_true rfl) h
def c_Mo_takesTest_0 (d : Nat) (E : qE) (Q : qW → Int32 → Prop) (w : qW) : Prop := Go (d + 3) M_Mo_takesTest E 161 161 (qFI Q) 0 [(0, .ref (qb E + 115))] [] w
set_option maxHeartbeats 4000000 in
set_option maxRecDepth 8000 in
theorem s_Mo_takesTest_0 {d : Nat} {E : qE} {Q : qW → Int32 → Prop} {w : qW} (hw : Sh w) (h : CaI (d + 2) M_Mo_next [.ref (qb E + 115)] E w (fun w1 x1 => CaI (d + 2) M_Mo_place [.ref (qb E + 115), .int x1] E w1 (fun w2 x2 => ((0 ≤ x2) → (CaI (d + 2) M_Mo_next [.ref (qb E + 115)] E (qpi w2 115 15 ((qi w2 115 15) + 1)) (fun w4 x4 => CaI (d + 2) M_Mo_in [.ref (qb E + 115), .int x4, .int 60, .int 62] E w4 (fun w5 x5 => ((¬ x5 = 0) → (CaI (d + 2) M_Mo_takesNumber [.ref (qb E + 115)] E (qpi w5 115 15 ((qi w5 115 15) + 1)) (fun w7 x7 => ((¬ x7 = 0) → (CaV (d + 2) M_Mo_emits [.ref (qb E + 115), .int (((1000 * x2) + (100 * (x4 - 60))) + (qi w7 115 16))] E w7 (fun w9 => CaV (d + 2) M_Mo_whole [.ref (qb E + 115)] E w9 (fun w10 => Q w10 1)))) ∧ ((x7 = 0) → (Q w7 0))))) ∧ ((x5 = 0) → (Q w5 0)))))) ∧ ((¬ 0 ≤ x2) → (Q w2 0))))) : c_Mo_takesTest_0 d E Q  w := by
  unfold c_Mo_takesTest_0
  refine g_aload_n 0 e_Mo_takesTest_0 rfl rfl ?_
  refine g_aload_n 0 e_Mo_takesTest_1 rfl rfl ?_
  refine w_callVI (w := w) (As := []) (rest := [.ref (qb E + 115)]) e_Mo_takesTest_2 ok_Mo_next rfl km_Mo_274 kx_Mo_next kv_Mo_next rfl (by decide) hw lay_115 (by decide) rfl (Nat.le_of_ble_eq_true rfl) h (fun w1 x1 hw1 h => ?_)
  refine w_callVI (w := w1) (As := [.int x1]) (rest := []) e_Mo_takesTest_5 ok_Mo_place rfl km_Mo_288 kx_Mo_place kv_Mo_place rfl (by decide) hw1 lay_115 (by decide) rfl (Nat.le_of_ble_eq_true rfl) h (fun w2 x2 hw2 h => ?_)
  refine g_istore_n (lv := [(1, .int x2), (0, .ref (qb E + 115))]) e_Mo_takesTest_8 rfl (by decide) rfl ?_
  refine g_iload_n 0 e_Mo_takesTest_9 rfl rfl ?_
  refine g_if_ge 15 e_Mo_takesTest_10 (by decide) ⟨fun z3 => ?_, fun z3 => ?_⟩
  · have h := h.1 z3
    refine g_aload_n 1 e_Mo_takesTest_15 rfl rfl ?_
    refine g_dup e_Mo_takesTest_16 rfl ?_
    refine gf_Mo_57 rfl e_Mo_takesTest_17 hw2 lay_115 (by decide) ?_
    refine g_iconst (v := 1) e_Mo_takesTest_20 (by decide) ?_
    refine g_iadd e_Mo_takesTest_21 ?_
    refine pf_Mo_57 rfl e_Mo_takesTest_22 hw2 lay_115 (by decide) ?_
    refine g_aload_n 1 e_Mo_takesTest_25 rfl rfl ?_
    refine w_callVI (w := (qpi w2 115 15 ((qi w2 115 15) + 1))) (As := []) (rest := []) e_Mo_takesTest_26 ok_Mo_next rfl km_Mo_274 kx_Mo_next kv_Mo_next rfl (by decide) hw2 lay_115 (by decide) rfl (Nat.le_of_ble_eq_true rfl) h (fun w4 x4 hw4 h => ?_)
    refine g_istore_n (lv := [(2, .int x4), (1, .int x2), (0, .ref (qb E + 115))]) e_Mo_takesTest_29 rfl (by decide) rfl ?_
    refine g_aload_n 2 e_Mo_takesTest_30 rfl rfl ?_
    refine g_iload_n 0 e_Mo_takesTest_31 rfl rfl ?_
    refine g_bipush (v := 60) e_Mo_takesTest_32 (by decide) ?_
    refine g_bipush (v := 62) e_Mo_takesTest_34 (by decide) ?_
    refine w_callVI (w := w4) (As := [.int x4, .int 60, .int 62]) (rest := []) e_Mo_takesTest_36 ok_Mo_in rfl km_Mo_249 kx_Mo_in kv_Mo_in rfl (by decide) hw4 lay_115 (by decide) rfl (Nat.le_of_ble_eq_true rfl) h (fun w5 x5 hw5 h => ?_)
    refine g_if_ne 44 e_Mo_takesTest_39 (by decide) ⟨fun z6 => ?_, fun z6 => ?_⟩
    · have h := h.1 z6
      refine g_aload_n 2 e_Mo_takesTest_44 rfl rfl ?_
      refine g_dup e_Mo_takesTest_45 rfl ?_
      refine gf_Mo_57 rfl e_Mo_takesTest_46 hw5 lay_115 (by decide) ?_
      refine g_iconst (v := 1) e_Mo_takesTest_49 (by decide) ?_
      refine g_iadd e_Mo_takesTest_50 ?_
      refine pf_Mo_57 rfl e_Mo_takesTest_51 hw5 lay_115 (by decide) ?_
      refine g_aload_n 2 e_Mo_takesTest_54 rfl rfl ?_
      refine w_callVI (w := (qpi w5 115 15 ((qi w5 115 15) + 1))) (As := []) (rest := []) e_Mo_takesTest_55 ok_Mo_takesNumber rfl km_Mo_291 kx_Mo_takesNumber kv_Mo_takesNumber rfl (by decide) hw5 lay_115 (by decide) rfl (Nat.le_of_ble_eq_true rfl) h (fun w7 x7 hw7 h => ?_)
      refine g_if_ne 63 e_Mo_takesTest_58 (by decide) ⟨fun z8 => ?_, fun z8 => ?_⟩
      · have h := h.1 z8
        refine g_aload_n 2 e_Mo_takesTest_63 rfl rfl ?_
        refine g_sipush (v := 1000) e_Mo_takesTest_64 (by decide) ?_
        refine g_iload_n 1 e_Mo_takesTest_67 rfl rfl ?_
        refine g_imul e_Mo_takesTest_68 ?_
        refine g_bipush (v := 100) e_Mo_takesTest_69 (by decide) ?_
        refine g_iload_n 0 e_Mo_takesTest_71 rfl rfl ?_
        refine g_bipush (v := 60) e_Mo_takesTest_72 (by decide) ?_
        refine g_isub e_Mo_takesTest_74 ?_
        refine g_imul e_Mo_takesTest_75 ?_
        refine g_iadd e_Mo_takesTest_76 ?_
        refine g_aload_n 2 e_Mo_takesTest_77 rfl rfl ?_
        refine gf_Mo_60 rfl e_Mo_takesTest_78 hw7 lay_115 (by decide) ?_
        refine g_iadd e_Mo_takesTest_81 ?_
        refine w_callVV (w := w7) (As := [.int (((1000 * x2) + (100 * (x4 - 60))) + (qi w7 115 16))]) (rest := []) e_Mo_takesTest_82 ok_Mo_emits rfl km_Mo_285 kx_Mo_emits kv_Mo_emits rfl (by decide) hw7 lay_115 (by decide) rfl (Nat.le_of_ble_eq_true rfl) h (fun w9 hw9 h => ?_)
        refine g_aload_n 2 e_Mo_takesTest_85 rfl rfl ?_
        refine w_callVV (w := w9) (As := []) (rest := []) e_Mo_takesTest_86 ok_Mo_whole rfl km_Mo_294 kx_Mo_whole kv_Mo_whole rfl (by decide) hw9 lay_115 (by decide) rfl (Nat.le_of_ble_eq_true rfl) h (fun w10 hw10 h => ?_)
        refine g_iconst (v := 1) e_Mo_takesTest_89 (by decide) ?_
        exact g_zret e_Mo_takesTest_90 rfl (Or.inr rfl) ⟨Sh.n hw10, _, rfl, hw10, h⟩
      · have h := h.2 z8
        refine g_iconst (v := 0) e_Mo_takesTest_61 (by decide) ?_
        exact g_zret e_Mo_takesTest_62 rfl (Or.inl rfl) ⟨Sh.n hw7, _, rfl, hw7, h⟩
    · have h := h.2 z6
      refine g_iconst (v := 0) e_Mo_takesTest_42 (by decide) ?_
      exact g_zret e_Mo_takesTest_43 rfl (Or.inl rfl) ⟨Sh.n hw5, _, rfl, hw5, h⟩
  · have h := h.2 z3
    refine g_iconst (v := 0) e_Mo_takesTest_13 (by decide) ?_
    exact g_zret e_Mo_takesTest_14 rfl (Or.inl rfl) ⟨Sh.n hw2, _, rfl, hw2, h⟩
theorem en_Mo_takesTest {d : Nat} {E : qE} {Q : qW → Int32 → Prop} {w : qW} (hw : Sh w) (h : c_Mo_takesTest_0 d E Q  w) : CaI (d + 3) M_Mo_takesTest [.ref (qb E + 115)] E w Q := Ca.into hw rfl (Nat.le_of_ble_eq_true rfl) h
def c_Mo_takesE_0 (d : Nat) (E : qE) (Q : qW → Int32 → Prop) (a1 : Int32) (w : qW) : Prop := Go (d + 4) M_Mo_takesE E 161 161 (qFI Q) 0 [(0, .ref (qb E + 115)), (1, .int a1)] [] w
def c_Mo_takesE_22 (d : Nat) (E : qE) (Q : qW → Int32 → Prop) (l1 : Int32) (l2 : Int32) (w : qW) : Prop := Go (d + 4) M_Mo_takesE E 161 161 (qFI Q) 22 [(0, .ref (qb E + 115)), (1, .int l1), (2, .int l2)] [] w
set_option maxHeartbeats 4000000 in
set_option maxRecDepth 8000 in
theorem s_Mo_takesE_0 {d : Nat} {E : qE} {Q : qW → Int32 → Prop} {a1 : Int32} {w : qW} (hw : Sh w) (h : vp_in a1 60 ∧ (c_Mo_takesE_22 d E Q a1 1 (qpi (qpi (qpi w 115 26 0) 115 27 0) 127 ((a1).toNatClampNeg) (qi (qpi (qpi w 115 26 0) 115 27 0) 115 25)))) : c_Mo_takesE_0 d E Q a1 w := by
  unfold c_Mo_takesE_0
  refine g_aload_n 0 e_Mo_takesE_0 rfl rfl ?_
  refine g_iconst (v := 0) e_Mo_takesE_1 (by decide) ?_
  refine pf_Mo_90 rfl e_Mo_takesE_2 hw lay_115 (by decide) ?_
  refine g_aload_n 0 e_Mo_takesE_5 rfl rfl ?_
  refine g_iconst (v := 0) e_Mo_takesE_6 (by decide) ?_
  refine pf_Mo_93 rfl e_Mo_takesE_7 hw lay_115 (by decide) ?_
  refine g_aload_n 0 e_Mo_takesE_10 rfl rfl ?_
  refine gf_Mo_75 rfl e_Mo_takesE_11 hw lay_115 (by decide) (sh_Mo_from hw) ?_
  refine g_iload_n 1 e_Mo_takesE_14 rfl rfl ?_
  refine g_aload_n 0 e_Mo_takesE_15 rfl rfl ?_
  refine gf_Mo_87 rfl e_Mo_takesE_16 hw lay_115 (by decide) ?_
  obtain ⟨o1, h⟩ := h
  refine w_iastore ((a1).toNatClampNeg) e_Mo_takesE_19 hw lay_127 (by decide) o1 rfl ?_
  refine g_iconst (v := 1) e_Mo_takesE_20 (by decide) ?_
  refine g_istore_n (lv := [(2, .int 1), (0, .ref (qb E + 115)), (1, .int a1)]) e_Mo_takesE_21 rfl (by decide) rfl ?_
  refine g_loc [1, 2, 0] rfl ?_
  exact h
set_option maxHeartbeats 4000000 in
set_option maxRecDepth 8000 in
theorem s_Mo_takesE_22 {d : Nat} {E : qE} {Q : qW → Int32 → Prop} {l1 : Int32} {l2 : Int32} {w : qW} (hw : Sh w) (h : CaI (d + 3) M_Mo_next [.ref (qb E + 115)] E w (fun w1 x1 => ((l2 = 0) → (((x1 = 38) → (CaV (d + 3) M_Mo_settle [.ref (qb E + 115), .int x1] E w1 (fun w4 => vp_in (qi w4 115 26) 101 ∧ (c_Mo_takesE_22 d E Q l1 1 (qpi (qpi (qpi w4 130 ((qi w4 115 26).toNatClampNeg) x1) 115 26 ((qi (qpi w4 130 ((qi w4 115 26).toNatClampNeg) x1) 115 26) + 1)) 115 15 ((qi (qpi (qpi w4 130 ((qi w4 115 26).toNatClampNeg) x1) 115 26 ((qi (qpi w4 130 ((qi w4 115 26).toNatClampNeg) x1) 115 26) + 1)) 115 15) + 1)))))) ∧ ((¬ x1 = 38) → (((¬ x1 = 124) → (CaV (d + 3) M_Mo_settle [.ref (qb E + 115), .int 124] E w1 (fun w7 => vp_in l1 60 ∧ (((¬ (qi (qpi w7 128 ((l1).toNatClampNeg) (qi w7 115 25)) 115 26) = 0) → (((x1 = 41) → (CaV (d + 3) M_Mo_whole [.ref (qb E + 115)] E (qpi (qpi (qpi (qpi w7 128 ((l1).toNatClampNeg) (qi w7 115 25)) 115 26 ((qi (qpi w7 128 ((l1).toNatClampNeg) (qi w7 115 25)) 115 26) - 1)) 115 27 ((qi (qpi (qpi w7 128 ((l1).toNatClampNeg) (qi w7 115 25)) 115 26 ((qi (qpi w7 128 ((l1).toNatClampNeg) (qi w7 115 25)) 115 26) - 1)) 115 27) - 1)) 115 15 ((qi (qpi (qpi (qpi w7 128 ((l1).toNatClampNeg) (qi w7 115 25)) 115 26 ((qi (qpi w7 128 ((l1).toNatClampNeg) (qi w7 115 25)) 115 26) - 1)) 115 27 ((qi (qpi (qpi w7 128 ((l1).toNatClampNeg) (qi w7 115 25)) 115 26 ((qi (qpi w7 128 ((l1).toNatClampNeg) (qi w7 115 25)) 115 26) - 1)) 115 27) - 1)) 115 15) + 1)) (fun w11 => c_Mo_takesE_22 d E Q l1 l2 w11))) ∧ ((¬ x1 = 41) → (Q (qpi w7 128 ((l1).toNatClampNeg) (qi w7 115 25)) 0)))) ∧ (((qi (qpi w7 128 ((l1).toNatClampNeg) (qi w7 115 25)) 115 26) = 0) → (Q (qpi w7 128 ((l1).toNatClampNeg) (qi w7 115 25)) 1)))))) ∧ ((x1 = 124) → (CaV (d + 3) M_Mo_settle [.ref (qb E + 115), .int x1] E w1 (fun w12 => vp_in (qi w12 115 26) 101 ∧ (c_Mo_takesE_22 d E Q l1 1 (qpi (qpi (qpi w12 130 ((qi w12 115 26).toNatClampNeg) x1) 115 26 ((qi (qpi w12 130 ((qi w12 115 26).toNatClampNeg) x1) 115 26) + 1)) 115 15 ((qi (qpi (qpi w12 130 ((qi w12 115 26).toNatClampNeg) x1) 115 26 ((qi (qpi w12 130 ((qi w12 115 26).toNatClampNeg) x1) 115 26) + 1)) 115 15) + 1)))))))))) ∧ ((¬ l2 = 0) → (((x1 = 33) → (((¬ (qi w1 115 27) = 4) → (vp_in (qi (qpi w1 115 27 ((qi w1 115 27) + 1)) 115 26) 101 ∧ (c_Mo_takesE_22 d E Q l1 l2 (qpi (qpi (qpi (qpi w1 115 27 ((qi w1 115 27) + 1)) 130 ((qi (qpi w1 115 27 ((qi w1 115 27) + 1)) 115 26).toNatClampNeg) x1) 115 26 ((qi (qpi (qpi w1 115 27 ((qi w1 115 27) + 1)) 130 ((qi (qpi w1 115 27 ((qi w1 115 27) + 1)) 115 26).toNatClampNeg) x1) 115 26) + 1)) 115 15 ((qi (qpi (qpi (qpi w1 115 27 ((qi w1 115 27) + 1)) 130 ((qi (qpi w1 115 27 ((qi w1 115 27) + 1)) 115 26).toNatClampNeg) x1) 115 26 ((qi (qpi (qpi w1 115 27 ((qi w1 115 27) + 1)) 130 ((qi (qpi w1 115 27 ((qi w1 115 27) + 1)) 115 26).toNatClampNeg) x1) 115 26) + 1)) 115 15) + 1))))) ∧ (((qi w1 115 27) = 4) → (Q w1 0)))) ∧ ((¬ x1 = 33) → (((¬ x1 = 40) → (CaI (d + 3) M_Mo_takesTest [.ref (qb E + 115)] E w1 (fun w18 x18 => ((x18 = 0) → (Q w18 0)) ∧ ((¬ x18 = 0) → (c_Mo_takesE_22 d E Q l1 0 w18))))) ∧ ((x1 = 40) → (((¬ (qi w1 115 27) = 4) → (vp_in (qi (qpi w1 115 27 ((qi w1 115 27) + 1)) 115 26) 101 ∧ (c_Mo_takesE_22 d E Q l1 l2 (qpi (qpi (qpi (qpi w1 115 27 ((qi w1 115 27) + 1)) 130 ((qi (qpi w1 115 27 ((qi w1 115 27) + 1)) 115 26).toNatClampNeg) x1) 115 26 ((qi (qpi (qpi w1 115 27 ((qi w1 115 27) + 1)) 130 ((qi (qpi w1 115 27 ((qi w1 115 27) + 1)) 115 26).toNatClampNeg) x1) 115 26) + 1)) 115 15 ((qi (qpi (qpi (qpi w1 115 27 ((qi w1 115 27) + 1)) 130 ((qi (qpi w1 115 27 ((qi w1 115 27) + 1)) 115 26).toNatClampNeg) x1) 115 26 ((qi (qpi (qpi w1 115 27 ((qi w1 115 27) + 1)) 130 ((qi (qpi w1 115 27 ((qi w1 115 27) + 1)) 115 26).toNatClampNeg) x1) 115 26) + 1)) 115 15) + 1))))) ∧ (((qi w1 115 27) = 4) → (Q w1 0)))))))))) : c_Mo_takesE_22 d E Q l1 l2 w := by
  unfold c_Mo_takesE_22
  refine g_aload_n 0 e_Mo_takesE_22 rfl rfl ?_
  refine w_callVI (w := w) (As := []) (rest := []) e_Mo_takesE_23 ok_Mo_next rfl km_Mo_274 kx_Mo_next kv_Mo_next rfl (by decide) hw lay_115 (by decide) rfl (Nat.le_of_ble_eq_true rfl) h (fun w1 x1 hw1 h => ?_)
  refine g_istore_n (lv := [(3, .int x1), (0, .ref (qb E + 115)), (1, .int l1), (2, .int l2)]) e_Mo_takesE_26 rfl (by decide) rfl ?_
  refine g_iload_n 3 e_Mo_takesE_27 rfl rfl ?_
  refine g_if_eq 110 e_Mo_takesE_28 (by decide) ⟨fun z2 => ?_, fun z2 => ?_⟩
  · have h := h.1 z2
    refine g_iload_n 0 e_Mo_takesE_110 rfl rfl ?_
    refine g_bipush (v := 38) e_Mo_takesE_111 (by decide) ?_
    refine g_icmp_eq 122 e_Mo_takesE_113 (by decide) ⟨fun z3 => ?_, fun z3 => ?_⟩
    · have h := h.1 z3
      refine g_aload_n 1 e_Mo_takesE_122 rfl rfl ?_
      refine g_iload_n 0 e_Mo_takesE_123 rfl rfl ?_
      refine w_callVV (w := w1) (As := [.int x1]) (rest := []) e_Mo_takesE_124 ok_Mo_settle rfl km_Mo_300 kx_Mo_settle kv_Mo_settle rfl (by decide) hw1 lay_115 (by decide) rfl (Nat.le_of_ble_eq_true rfl) h (fun w4 hw4 h => ?_)
      refine g_aload_n 1 e_Mo_takesE_127 rfl rfl ?_
      refine gf_Mo_84 rfl e_Mo_takesE_128 hw4 lay_115 (by decide) (sh_Mo_waits hw4) ?_
      refine g_aload_n 1 e_Mo_takesE_131 rfl rfl ?_
      refine gf_Mo_90 rfl e_Mo_takesE_132 hw4 lay_115 (by decide) ?_
      refine g_iload_n 0 e_Mo_takesE_135 rfl rfl ?_
      obtain ⟨o5, h⟩ := h
      refine w_iastore ((qi w4 115 26).toNatClampNeg) e_Mo_takesE_136 hw4 lay_130 (by decide) o5 rfl ?_
      refine g_aload_n 1 e_Mo_takesE_137 rfl rfl ?_
      refine g_dup e_Mo_takesE_138 rfl ?_
      refine gf_Mo_90 rfl e_Mo_takesE_139 hw4 lay_115 (by decide) ?_
      refine g_iconst (v := 1) e_Mo_takesE_142 (by decide) ?_
      refine g_iadd e_Mo_takesE_143 ?_
      refine pf_Mo_90 rfl e_Mo_takesE_144 hw4 lay_115 (by decide) ?_
      refine g_iconst (v := 1) e_Mo_takesE_147 (by decide) ?_
      refine g_istore_n (lv := [(2, .int 1), (3, .int x1), (0, .ref (qb E + 115)), (1, .int l1)]) e_Mo_takesE_148 rfl (by decide) rfl ?_
      refine g_aload_n 2 e_Mo_takesE_149 rfl rfl ?_
      refine g_dup e_Mo_takesE_150 rfl ?_
      refine gf_Mo_57 rfl e_Mo_takesE_151 hw4 lay_115 (by decide) ?_
      refine g_iconst (v := 1) e_Mo_takesE_154 (by decide) ?_
      refine g_iadd e_Mo_takesE_155 ?_
      refine pf_Mo_57 rfl e_Mo_takesE_156 hw4 lay_115 (by decide) ?_
      refine g_goto 22 e_Mo_takesE_159 (by decide) ?_
      refine g_loc [2, 3, 0] rfl ?_
      exact h
    · have h := h.2 z3
      refine g_iload_n 0 e_Mo_takesE_116 rfl rfl ?_
      refine g_bipush (v := 124) e_Mo_takesE_117 (by decide) ?_
      refine g_icmp_ne 162 e_Mo_takesE_119 (by decide) ⟨fun z6 => ?_, fun z6 => ?_⟩
      · have h := h.1 z6
        refine g_aload_n 1 e_Mo_takesE_162 rfl rfl ?_
        refine g_bipush (v := 124) e_Mo_takesE_163 (by decide) ?_
        refine w_callVV (w := w1) (As := [.int 124]) (rest := []) e_Mo_takesE_165 ok_Mo_settle rfl km_Mo_300 kx_Mo_settle kv_Mo_settle rfl (by decide) hw1 lay_115 (by decide) rfl (Nat.le_of_ble_eq_true rfl) h (fun w7 hw7 h => ?_)
        refine g_aload_n 1 e_Mo_takesE_168 rfl rfl ?_
        refine gf_Mo_78 rfl e_Mo_takesE_169 hw7 lay_115 (by decide) (sh_Mo_to hw7) ?_
        refine g_iload_n 2 e_Mo_takesE_172 rfl rfl ?_
        refine g_aload_n 1 e_Mo_takesE_173 rfl rfl ?_
        refine gf_Mo_87 rfl e_Mo_takesE_174 hw7 lay_115 (by decide) ?_
        obtain ⟨o8, h⟩ := h
        refine w_iastore ((l1).toNatClampNeg) e_Mo_takesE_177 hw7 lay_128 (by decide) o8 rfl ?_
        refine g_aload_n 1 e_Mo_takesE_178 rfl rfl ?_
        refine gf_Mo_90 rfl e_Mo_takesE_179 hw7 lay_115 (by decide) ?_
        refine g_if_ne 187 e_Mo_takesE_182 (by decide) ⟨fun z9 => ?_, fun z9 => ?_⟩
        · have h := h.1 z9
          refine g_iload_n 0 e_Mo_takesE_187 rfl rfl ?_
          refine g_bipush (v := 41) e_Mo_takesE_188 (by decide) ?_
          refine g_icmp_eq 195 e_Mo_takesE_190 (by decide) ⟨fun z10 => ?_, fun z10 => ?_⟩
          · have h := h.1 z10
            refine g_aload_n 1 e_Mo_takesE_195 rfl rfl ?_
            refine g_dup e_Mo_takesE_196 rfl ?_
            refine gf_Mo_90 rfl e_Mo_takesE_197 hw7 lay_115 (by decide) ?_
            refine g_iconst (v := 1) e_Mo_takesE_200 (by decide) ?_
            refine g_isub e_Mo_takesE_201 ?_
            refine pf_Mo_90 rfl e_Mo_takesE_202 hw7 lay_115 (by decide) ?_
            refine g_aload_n 1 e_Mo_takesE_205 rfl rfl ?_
            refine g_dup e_Mo_takesE_206 rfl ?_
            refine gf_Mo_93 rfl e_Mo_takesE_207 hw7 lay_115 (by decide) ?_
            refine g_iconst (v := 1) e_Mo_takesE_210 (by decide) ?_
            refine g_isub e_Mo_takesE_211 ?_
            refine pf_Mo_93 rfl e_Mo_takesE_212 hw7 lay_115 (by decide) ?_
            refine g_aload_n 1 e_Mo_takesE_215 rfl rfl ?_
            refine g_dup e_Mo_takesE_216 rfl ?_
            refine gf_Mo_57 rfl e_Mo_takesE_217 hw7 lay_115 (by decide) ?_
            refine g_iconst (v := 1) e_Mo_takesE_220 (by decide) ?_
            refine g_iadd e_Mo_takesE_221 ?_
            refine pf_Mo_57 rfl e_Mo_takesE_222 hw7 lay_115 (by decide) ?_
            refine g_aload_n 1 e_Mo_takesE_225 rfl rfl ?_
            refine w_callVV (w := (qpi (qpi (qpi (qpi w7 128 ((l1).toNatClampNeg) (qi w7 115 25)) 115 26 ((qi (qpi w7 128 ((l1).toNatClampNeg) (qi w7 115 25)) 115 26) - 1)) 115 27 ((qi (qpi (qpi w7 128 ((l1).toNatClampNeg) (qi w7 115 25)) 115 26 ((qi (qpi w7 128 ((l1).toNatClampNeg) (qi w7 115 25)) 115 26) - 1)) 115 27) - 1)) 115 15 ((qi (qpi (qpi (qpi w7 128 ((l1).toNatClampNeg) (qi w7 115 25)) 115 26 ((qi (qpi w7 128 ((l1).toNatClampNeg) (qi w7 115 25)) 115 26) - 1)) 115 27 ((qi (qpi (qpi w7 128 ((l1).toNatClampNeg) (qi w7 115 25)) 115 26 ((qi (qpi w7 128 ((l1).toNatClampNeg) (qi w7 115 25)) 115 26) - 1)) 115 27) - 1)) 115 15) + 1))) (As := []) (rest := []) e_Mo_takesE_226 ok_Mo_whole rfl km_Mo_294 kx_Mo_whole kv_Mo_whole rfl (by decide) hw7 lay_115 (by decide) rfl (Nat.le_of_ble_eq_true rfl) h (fun w11 hw11 h => ?_)
            refine g_goto 22 e_Mo_takesE_229 (by decide) ?_
            refine g_loc [1, 2, 3] rfl ?_
            exact h
          · have h := h.2 z10
            refine g_iconst (v := 0) e_Mo_takesE_193 (by decide) ?_
            exact g_zret e_Mo_takesE_194 rfl (Or.inl rfl) ⟨Sh.n hw7, _, rfl, hw7, h⟩
        · have h := h.2 z9
          refine g_iconst (v := 1) e_Mo_takesE_185 (by decide) ?_
          exact g_zret e_Mo_takesE_186 rfl (Or.inr rfl) ⟨Sh.n hw7, _, rfl, hw7, h⟩
      · have h := h.2 z6
        refine g_aload_n 1 e_Mo_takesE_122 rfl rfl ?_
        refine g_iload_n 0 e_Mo_takesE_123 rfl rfl ?_
        refine w_callVV (w := w1) (As := [.int x1]) (rest := []) e_Mo_takesE_124 ok_Mo_settle rfl km_Mo_300 kx_Mo_settle kv_Mo_settle rfl (by decide) hw1 lay_115 (by decide) rfl (Nat.le_of_ble_eq_true rfl) h (fun w12 hw12 h => ?_)
        refine g_aload_n 1 e_Mo_takesE_127 rfl rfl ?_
        refine gf_Mo_84 rfl e_Mo_takesE_128 hw12 lay_115 (by decide) (sh_Mo_waits hw12) ?_
        refine g_aload_n 1 e_Mo_takesE_131 rfl rfl ?_
        refine gf_Mo_90 rfl e_Mo_takesE_132 hw12 lay_115 (by decide) ?_
        refine g_iload_n 0 e_Mo_takesE_135 rfl rfl ?_
        obtain ⟨o13, h⟩ := h
        refine w_iastore ((qi w12 115 26).toNatClampNeg) e_Mo_takesE_136 hw12 lay_130 (by decide) o13 rfl ?_
        refine g_aload_n 1 e_Mo_takesE_137 rfl rfl ?_
        refine g_dup e_Mo_takesE_138 rfl ?_
        refine gf_Mo_90 rfl e_Mo_takesE_139 hw12 lay_115 (by decide) ?_
        refine g_iconst (v := 1) e_Mo_takesE_142 (by decide) ?_
        refine g_iadd e_Mo_takesE_143 ?_
        refine pf_Mo_90 rfl e_Mo_takesE_144 hw12 lay_115 (by decide) ?_
        refine g_iconst (v := 1) e_Mo_takesE_147 (by decide) ?_
        refine g_istore_n (lv := [(2, .int 1), (3, .int x1), (0, .ref (qb E + 115)), (1, .int l1)]) e_Mo_takesE_148 rfl (by decide) rfl ?_
        refine g_aload_n 2 e_Mo_takesE_149 rfl rfl ?_
        refine g_dup e_Mo_takesE_150 rfl ?_
        refine gf_Mo_57 rfl e_Mo_takesE_151 hw12 lay_115 (by decide) ?_
        refine g_iconst (v := 1) e_Mo_takesE_154 (by decide) ?_
        refine g_iadd e_Mo_takesE_155 ?_
        refine pf_Mo_57 rfl e_Mo_takesE_156 hw12 lay_115 (by decide) ?_
        refine g_goto 22 e_Mo_takesE_159 (by decide) ?_
        refine g_loc [2, 3, 0] rfl ?_
        exact h
  · have h := h.2 z2
    refine g_iload_n 0 e_Mo_takesE_31 rfl rfl ?_
    refine g_bipush (v := 33) e_Mo_takesE_32 (by decide) ?_
    refine g_icmp_eq 43 e_Mo_takesE_34 (by decide) ⟨fun z14 => ?_, fun z14 => ?_⟩
    · have h := h.1 z14
      refine g_aload_n 1 e_Mo_takesE_43 rfl rfl ?_
      refine gf_Mo_93 rfl e_Mo_takesE_44 hw1 lay_115 (by decide) ?_
      refine g_iconst (v := 4) e_Mo_takesE_47 (by decide) ?_
      refine g_icmp_ne 53 e_Mo_takesE_48 (by decide) ⟨fun z15 => ?_, fun z15 => ?_⟩
      · have h := h.1 z15
        refine g_aload_n 1 e_Mo_takesE_53 rfl rfl ?_
        refine g_dup e_Mo_takesE_54 rfl ?_
        refine gf_Mo_93 rfl e_Mo_takesE_55 hw1 lay_115 (by decide) ?_
        refine g_iconst (v := 1) e_Mo_takesE_58 (by decide) ?_
        refine g_iadd e_Mo_takesE_59 ?_
        refine pf_Mo_93 rfl e_Mo_takesE_60 hw1 lay_115 (by decide) ?_
        refine g_aload_n 1 e_Mo_takesE_63 rfl rfl ?_
        refine gf_Mo_84 rfl e_Mo_takesE_64 hw1 lay_115 (by decide) (sh_Mo_waits hw1) ?_
        refine g_aload_n 1 e_Mo_takesE_67 rfl rfl ?_
        refine gf_Mo_90 rfl e_Mo_takesE_68 hw1 lay_115 (by decide) ?_
        refine g_iload_n 0 e_Mo_takesE_71 rfl rfl ?_
        obtain ⟨o16, h⟩ := h
        refine w_iastore ((qi (qpi w1 115 27 ((qi w1 115 27) + 1)) 115 26).toNatClampNeg) e_Mo_takesE_72 hw1 lay_130 (by decide) o16 rfl ?_
        refine g_aload_n 1 e_Mo_takesE_73 rfl rfl ?_
        refine g_dup e_Mo_takesE_74 rfl ?_
        refine gf_Mo_90 rfl e_Mo_takesE_75 hw1 lay_115 (by decide) ?_
        refine g_iconst (v := 1) e_Mo_takesE_78 (by decide) ?_
        refine g_iadd e_Mo_takesE_79 ?_
        refine pf_Mo_90 rfl e_Mo_takesE_80 hw1 lay_115 (by decide) ?_
        refine g_aload_n 1 e_Mo_takesE_83 rfl rfl ?_
        refine g_dup e_Mo_takesE_84 rfl ?_
        refine gf_Mo_57 rfl e_Mo_takesE_85 hw1 lay_115 (by decide) ?_
        refine g_iconst (v := 1) e_Mo_takesE_88 (by decide) ?_
        refine g_iadd e_Mo_takesE_89 ?_
        refine pf_Mo_57 rfl e_Mo_takesE_90 hw1 lay_115 (by decide) ?_
        refine g_goto 22 e_Mo_takesE_93 (by decide) ?_
        refine g_loc [1, 2, 3] rfl ?_
        exact h
      · have h := h.2 z15
        refine g_iconst (v := 0) e_Mo_takesE_51 (by decide) ?_
        exact g_zret e_Mo_takesE_52 rfl (Or.inl rfl) ⟨Sh.n hw1, _, rfl, hw1, h⟩
    · have h := h.2 z14
      refine g_iload_n 0 e_Mo_takesE_37 rfl rfl ?_
      refine g_bipush (v := 40) e_Mo_takesE_38 (by decide) ?_
      refine g_icmp_ne 96 e_Mo_takesE_40 (by decide) ⟨fun z17 => ?_, fun z17 => ?_⟩
      · have h := h.1 z17
        refine g_aload_n 1 e_Mo_takesE_96 rfl rfl ?_
        refine w_callVI (w := w1) (As := []) (rest := []) e_Mo_takesE_97 ok_Mo_takesTest rfl km_Mo_297 kx_Mo_takesTest kv_Mo_takesTest rfl (by decide) hw1 lay_115 (by decide) rfl (Nat.le_of_ble_eq_true rfl) h (fun w18 x18 hw18 h => ?_)
        refine g_if_eq 108 e_Mo_takesE_100 (by decide) ⟨fun z19 => ?_, fun z19 => ?_⟩
        · have h := h.1 z19
          refine g_iconst (v := 0) e_Mo_takesE_108 (by decide) ?_
          exact g_zret e_Mo_takesE_109 rfl (Or.inl rfl) ⟨Sh.n hw18, _, rfl, hw18, h⟩
        · have h := h.2 z19
          refine g_iconst (v := 0) e_Mo_takesE_103 (by decide) ?_
          refine g_istore_n (lv := [(2, .int 0), (3, .int x1), (0, .ref (qb E + 115)), (1, .int l1)]) e_Mo_takesE_104 rfl (by decide) rfl ?_
          refine g_goto 22 e_Mo_takesE_105 (by decide) ?_
          refine g_loc [2, 3, 0] rfl ?_
          exact h
      · have h := h.2 z17
        refine g_aload_n 1 e_Mo_takesE_43 rfl rfl ?_
        refine gf_Mo_93 rfl e_Mo_takesE_44 hw1 lay_115 (by decide) ?_
        refine g_iconst (v := 4) e_Mo_takesE_47 (by decide) ?_
        refine g_icmp_ne 53 e_Mo_takesE_48 (by decide) ⟨fun z20 => ?_, fun z20 => ?_⟩
        · have h := h.1 z20
          refine g_aload_n 1 e_Mo_takesE_53 rfl rfl ?_
          refine g_dup e_Mo_takesE_54 rfl ?_
          refine gf_Mo_93 rfl e_Mo_takesE_55 hw1 lay_115 (by decide) ?_
          refine g_iconst (v := 1) e_Mo_takesE_58 (by decide) ?_
          refine g_iadd e_Mo_takesE_59 ?_
          refine pf_Mo_93 rfl e_Mo_takesE_60 hw1 lay_115 (by decide) ?_
          refine g_aload_n 1 e_Mo_takesE_63 rfl rfl ?_
          refine gf_Mo_84 rfl e_Mo_takesE_64 hw1 lay_115 (by decide) (sh_Mo_waits hw1) ?_
          refine g_aload_n 1 e_Mo_takesE_67 rfl rfl ?_
          refine gf_Mo_90 rfl e_Mo_takesE_68 hw1 lay_115 (by decide) ?_
          refine g_iload_n 0 e_Mo_takesE_71 rfl rfl ?_
          obtain ⟨o21, h⟩ := h
          refine w_iastore ((qi (qpi w1 115 27 ((qi w1 115 27) + 1)) 115 26).toNatClampNeg) e_Mo_takesE_72 hw1 lay_130 (by decide) o21 rfl ?_
          refine g_aload_n 1 e_Mo_takesE_73 rfl rfl ?_
          refine g_dup e_Mo_takesE_74 rfl ?_
          refine gf_Mo_90 rfl e_Mo_takesE_75 hw1 lay_115 (by decide) ?_
          refine g_iconst (v := 1) e_Mo_takesE_78 (by decide) ?_
          refine g_iadd e_Mo_takesE_79 ?_
          refine pf_Mo_90 rfl e_Mo_takesE_80 hw1 lay_115 (by decide) ?_
          refine g_aload_n 1 e_Mo_takesE_83 rfl rfl ?_
          refine g_dup e_Mo_takesE_84 rfl ?_
          refine gf_Mo_57 rfl e_Mo_takesE_85 hw1 lay_115 (by decide) ?_
          refine g_iconst (v := 1) e_Mo_takesE_88 (by decide) ?_
          refine g_iadd e_Mo_takesE_89 ?_
          refine pf_Mo_57 rfl e_Mo_takesE_90 hw1 lay_115 (by decide) ?_
          refine g_goto 22 e_Mo_takesE_93 (by decide) ?_
          refine g_loc [1, 2, 3] rfl ?_
          exact h
        · have h := h.2 z20
          refine g_iconst (v := 0) e_Mo_takesE_51 (by decide) ?_
          exact g_zret e_Mo_takesE_52 rfl (Or.inl rfl) ⟨Sh.n hw1, _, rfl, hw1, h⟩
theorem en_Mo_takesE {d : Nat} {E : qE} {Q : qW → Int32 → Prop} {a1 : Int32} {w : qW} (hw : Sh w) (h : c_Mo_takesE_0 d E Q a1 w) : CaI (d + 4) M_Mo_takesE [.ref (qb E + 115), .int a1] E w Q := Ca.into hw rfl (Nat.le_of_ble_eq_true rfl) h
def c_Mo_takesHead_0 (d : Nat) (E : qE) (Q : qW → Int32 → Prop) (a1 : Int32) (w : qW) : Prop := Go (d + 3) M_Mo_takesHead E 161 161 (qFI Q) 0 [(0, .ref (qb E + 115)), (1, .int a1)] [] w
set_option maxHeartbeats 4000000 in
set_option maxRecDepth 8000 in
theorem s_Mo_takesHead_0 {d : Nat} {E : qE} {Q : qW → Int32 → Prop} {a1 : Int32} {w : qW} (hw : Sh w) (h : CaI (d + 2) M_Mo_next [.ref (qb E + 115)] E w (fun w1 x1 => (x1 = 99 → (vp_in a1 60 ∧ (CaI (d + 2) M_Mo_takesWord [.ref (qb E + 115), .int 4, .int 5] E (qpi w1 125 ((a1).toNatClampNeg) 1) (fun w4 x4 => (x4 = 0 ∨ x4 = 1) ∧ (Q w4 x4))))) ∧ (x1 = 100 → (vp_in a1 60 ∧ (CaI (d + 2) M_Mo_takesWord [.ref (qb E + 115), .int 0, .int 4] E (qpi w1 125 ((a1).toNatClampNeg) 0) (fun w7 x7 => (x7 = 0 ∨ x7 = 1) ∧ (Q w7 x7))))) ∧ (¬ x1 = 99 → ¬ x1 = 100 → (vp_in a1 60 ∧ (CaI (d + 2) M_Mo_takesWord [.ref (qb E + 115), .int 9, .int 4] E (qpi w1 125 ((a1).toNatClampNeg) 2) (fun w10 x10 => (x10 = 0 ∨ x10 = 1) ∧ (Q w10 x10))))))) : c_Mo_takesHead_0 d E Q a1 w := by
  unfold c_Mo_takesHead_0
  refine g_aload_n 0 e_Mo_takesHead_0 rfl rfl ?_
  refine w_callVI (w := w) (As := []) (rest := []) e_Mo_takesHead_1 ok_Mo_next rfl km_Mo_274 kx_Mo_next kv_Mo_next rfl (by decide) hw lay_115 (by decide) rfl (Nat.le_of_ble_eq_true rfl) h (fun w1 x1 hw1 h => ?_)
  by_cases y2_0 : x1 = 99
  · refine g_lookup (off := 42) 46 e_Mo_takesHead_4 (by decide) (by  show Op.lookupswitch.offset _ _ _ = _; rw [y2_0]; rfl) (by decide) ?_
    have h := h.1 y2_0
    refine g_aload_n 0 e_Mo_takesHead_46 rfl rfl ?_
    refine gf_Mo_69 rfl e_Mo_takesHead_47 hw1 lay_115 (by decide) (sh_Mo_word hw1) ?_
    refine g_iload_n 1 e_Mo_takesHead_50 rfl rfl ?_
    refine g_iconst (v := 1) e_Mo_takesHead_51 (by decide) ?_
    obtain ⟨o3, h⟩ := h
    refine w_iastore ((a1).toNatClampNeg) e_Mo_takesHead_52 hw1 lay_125 (by decide) o3 rfl ?_
    refine g_aload_n 0 e_Mo_takesHead_53 rfl rfl ?_
    refine g_iconst (v := 4) e_Mo_takesHead_54 (by decide) ?_
    refine g_iconst (v := 5) e_Mo_takesHead_55 (by decide) ?_
    refine w_callVI (w := (qpi w1 125 ((a1).toNatClampNeg) 1)) (As := [.int 4, .int 5]) (rest := []) e_Mo_takesHead_56 ok_Mo_takesWord rfl km_Mo_303 kx_Mo_takesWord kv_Mo_takesWord rfl (by decide) hw1 lay_115 (by decide) rfl (Nat.le_of_ble_eq_true rfl) h (fun w4 x4 hw4 h => ?_)
    obtain ⟨o5, h⟩ := h
    exact g_zret e_Mo_takesHead_59 rfl o5 ⟨Sh.n hw4, _, rfl, hw4, h⟩
  by_cases y2_1 : x1 = 100
  · refine g_lookup (off := 28) 32 e_Mo_takesHead_4 (by decide) (by rw [lv_osw y2_0 (a := 99) (by decide)]; show Op.lookupswitch.offset _ _ _ = _; rw [y2_1]; rfl) (by decide) ?_
    have h := h.2.1 y2_1
    refine g_aload_n 0 e_Mo_takesHead_32 rfl rfl ?_
    refine gf_Mo_69 rfl e_Mo_takesHead_33 hw1 lay_115 (by decide) (sh_Mo_word hw1) ?_
    refine g_iload_n 1 e_Mo_takesHead_36 rfl rfl ?_
    refine g_iconst (v := 0) e_Mo_takesHead_37 (by decide) ?_
    obtain ⟨o6, h⟩ := h
    refine w_iastore ((a1).toNatClampNeg) e_Mo_takesHead_38 hw1 lay_125 (by decide) o6 rfl ?_
    refine g_aload_n 0 e_Mo_takesHead_39 rfl rfl ?_
    refine g_iconst (v := 0) e_Mo_takesHead_40 (by decide) ?_
    refine g_iconst (v := 4) e_Mo_takesHead_41 (by decide) ?_
    refine w_callVI (w := (qpi w1 125 ((a1).toNatClampNeg) 0)) (As := [.int 0, .int 4]) (rest := []) e_Mo_takesHead_42 ok_Mo_takesWord rfl km_Mo_303 kx_Mo_takesWord kv_Mo_takesWord rfl (by decide) hw1 lay_115 (by decide) rfl (Nat.le_of_ble_eq_true rfl) h (fun w7 x7 hw7 h => ?_)
    obtain ⟨o8, h⟩ := h
    exact g_zret e_Mo_takesHead_45 rfl o8 ⟨Sh.n hw7, _, rfl, hw7, h⟩
  refine g_lookup (off := 56) 60 e_Mo_takesHead_4 (by decide) (by rw [lv_osw y2_0 (a := 99) (by decide)]; rw [lv_osw y2_1 (a := 100) (by decide)]; rfl) (by decide) ?_
  have h := h.2.2 y2_0 y2_1
  refine g_aload_n 0 e_Mo_takesHead_60 rfl rfl ?_
  refine gf_Mo_69 rfl e_Mo_takesHead_61 hw1 lay_115 (by decide) (sh_Mo_word hw1) ?_
  refine g_iload_n 1 e_Mo_takesHead_64 rfl rfl ?_
  refine g_iconst (v := 2) e_Mo_takesHead_65 (by decide) ?_
  obtain ⟨o9, h⟩ := h
  refine w_iastore ((a1).toNatClampNeg) e_Mo_takesHead_66 hw1 lay_125 (by decide) o9 rfl ?_
  refine g_aload_n 0 e_Mo_takesHead_67 rfl rfl ?_
  refine g_bipush (v := 9) e_Mo_takesHead_68 (by decide) ?_
  refine g_iconst (v := 4) e_Mo_takesHead_70 (by decide) ?_
  refine w_callVI (w := (qpi w1 125 ((a1).toNatClampNeg) 2)) (As := [.int 9, .int 4]) (rest := []) e_Mo_takesHead_71 ok_Mo_takesWord rfl km_Mo_303 kx_Mo_takesWord kv_Mo_takesWord rfl (by decide) hw1 lay_115 (by decide) rfl (Nat.le_of_ble_eq_true rfl) h (fun w10 x10 hw10 h => ?_)
  obtain ⟨o11, h⟩ := h
  exact g_zret e_Mo_takesHead_74 rfl o11 ⟨Sh.n hw10, _, rfl, hw10, h⟩
theorem en_Mo_takesHead {d : Nat} {E : qE} {Q : qW → Int32 → Prop} {a1 : Int32} {w : qW} (hw : Sh w) (h : c_Mo_takesHead_0 d E Q a1 w) : CaI (d + 3) M_Mo_takesHead [.ref (qb E + 115), .int a1] E w Q := Ca.into hw rfl (Nat.le_of_ble_eq_true rfl) h
def c_Mo_takesClause_0 (d : Nat) (E : qE) (Q : qW → Int32 → Prop) (a1 : Int32) (w : qW) : Prop := Go (d + 5) M_Mo_takesClause E 161 161 (qFI Q) 0 [(0, .ref (qb E + 115)), (1, .int a1)] [] w
set_option maxHeartbeats 4000000 in
set_option maxRecDepth 8000 in
theorem s_Mo_takesClause_0 {d : Nat} {E : qE} {Q : qW → Int32 → Prop} {a1 : Int32} {w : qW} (hw : Sh w) (h : CaI (d + 4) M_Mo_takesHead [.ref (qb E + 115), .int a1] E w (fun w1 x1 => ((x1 = 0) → (Q w1 0)) ∧ ((¬ x1 = 0) → (CaI (d + 4) M_Mo_takesNumber [.ref (qb E + 115)] E w1 (fun w3 x3 => ((¬ x3 = 0) → (vp_in a1 60 ∧ (vp_in a1 60 ∧ ((((qi (qpi w3 126 ((a1).toNatClampNeg) (qi w3 115 16)) 125 ((a1).toNatClampNeg)) = 2) → (Q (qpi w3 126 ((a1).toNatClampNeg) (qi w3 115 16)) 1)) ∧ ((¬ (qi (qpi w3 126 ((a1).toNatClampNeg) (qi w3 115 16)) 125 ((a1).toNatClampNeg)) = 2) → (CaI (d + 4) M_Mo_takes [.ref (qb E + 115), .int 32] E (qpi w3 126 ((a1).toNatClampNeg) (qi w3 115 16)) (fun w8 x8 => ((x8 = 0) → (Q w8 0)) ∧ ((¬ x8 = 0) → (CaI (d + 4) M_Mo_takesE [.ref (qb E + 115), .int a1] E w8 (fun w10 x10 => ((x10 = 0) → (Q w10 0)) ∧ ((¬ x10 = 0) → (Q w10 1)))))))))))) ∧ ((x3 = 0) → (Q w3 0))))))) : c_Mo_takesClause_0 d E Q a1 w := by
  unfold c_Mo_takesClause_0
  refine g_aload_n 0 e_Mo_takesClause_0 rfl rfl ?_
  refine g_iload_n 1 e_Mo_takesClause_1 rfl rfl ?_
  refine w_callVI (w := w) (As := [.int a1]) (rest := []) e_Mo_takesClause_2 ok_Mo_takesHead rfl km_Mo_306 kx_Mo_takesHead kv_Mo_takesHead rfl (by decide) hw lay_115 (by decide) rfl (Nat.le_of_ble_eq_true rfl) h (fun w1 x1 hw1 h => ?_)
  refine g_if_eq 15 e_Mo_takesClause_5 (by decide) ⟨fun z2 => ?_, fun z2 => ?_⟩
  · have h := h.1 z2
    refine g_iconst (v := 0) e_Mo_takesClause_15 (by decide) ?_
    exact g_zret e_Mo_takesClause_16 rfl (Or.inl rfl) ⟨Sh.n hw1, _, rfl, hw1, h⟩
  · have h := h.2 z2
    refine g_aload_n 0 e_Mo_takesClause_8 rfl rfl ?_
    refine w_callVI (w := w1) (As := []) (rest := []) e_Mo_takesClause_9 ok_Mo_takesNumber rfl km_Mo_291 kx_Mo_takesNumber kv_Mo_takesNumber rfl (by decide) hw1 lay_115 (by decide) rfl (Nat.le_of_ble_eq_true rfl) h (fun w3 x3 hw3 h => ?_)
    refine g_if_ne 17 e_Mo_takesClause_12 (by decide) ⟨fun z4 => ?_, fun z4 => ?_⟩
    · have h := h.1 z4
      refine g_aload_n 0 e_Mo_takesClause_17 rfl rfl ?_
      refine gf_Mo_72 rfl e_Mo_takesClause_18 hw3 lay_115 (by decide) (sh_Mo_number hw3) ?_
      refine g_iload_n 1 e_Mo_takesClause_21 rfl rfl ?_
      refine g_aload_n 0 e_Mo_takesClause_22 rfl rfl ?_
      refine gf_Mo_60 rfl e_Mo_takesClause_23 hw3 lay_115 (by decide) ?_
      obtain ⟨o5, h⟩ := h
      refine w_iastore ((a1).toNatClampNeg) e_Mo_takesClause_26 hw3 lay_126 (by decide) o5 rfl ?_
      refine g_aload_n 0 e_Mo_takesClause_27 rfl rfl ?_
      refine gf_Mo_69 rfl e_Mo_takesClause_28 hw3 lay_115 (by decide) (sh_Mo_word hw3) ?_
      refine g_iload_n 1 e_Mo_takesClause_31 rfl rfl ?_
      obtain ⟨o6, h⟩ := h
      refine w_iaload ((a1).toNatClampNeg) e_Mo_takesClause_32 hw3 lay_125 (by decide) o6 rfl ?_
      refine g_iconst (v := 2) e_Mo_takesClause_33 (by decide) ?_
      refine g_icmp_eq 54 e_Mo_takesClause_34 (by decide) ⟨fun z7 => ?_, fun z7 => ?_⟩
      · have h := h.1 z7
        refine g_iconst (v := 1) e_Mo_takesClause_54 (by decide) ?_
        refine g_goto 59 e_Mo_takesClause_55 (by decide) ?_
        exact g_zret e_Mo_takesClause_59 rfl (Or.inr rfl) ⟨Sh.n hw3, _, rfl, hw3, h⟩
      · have h := h.2 z7
        refine g_aload_n 0 e_Mo_takesClause_37 rfl rfl ?_
        refine g_bipush (v := 32) e_Mo_takesClause_38 (by decide) ?_
        refine w_callVI (w := (qpi w3 126 ((a1).toNatClampNeg) (qi w3 115 16))) (As := [.int 32]) (rest := []) e_Mo_takesClause_40 ok_Mo_takes rfl km_Mo_278 kx_Mo_takes kv_Mo_takes rfl (by decide) hw3 lay_115 (by decide) rfl (Nat.le_of_ble_eq_true rfl) h (fun w8 x8 hw8 h => ?_)
        refine g_if_eq 58 e_Mo_takesClause_43 (by decide) ⟨fun z9 => ?_, fun z9 => ?_⟩
        · have h := h.1 z9
          refine g_iconst (v := 0) e_Mo_takesClause_58 (by decide) ?_
          exact g_zret e_Mo_takesClause_59 rfl (Or.inl rfl) ⟨Sh.n hw8, _, rfl, hw8, h⟩
        · have h := h.2 z9
          refine g_aload_n 0 e_Mo_takesClause_46 rfl rfl ?_
          refine g_iload_n 1 e_Mo_takesClause_47 rfl rfl ?_
          refine w_callVI (w := w8) (As := [.int a1]) (rest := []) e_Mo_takesClause_48 ok_Mo_takesE rfl km_Mo_309 kx_Mo_takesE kv_Mo_takesE rfl (by decide) hw8 lay_115 (by decide) rfl (Nat.le_of_ble_eq_true rfl) h (fun w10 x10 hw10 h => ?_)
          refine g_if_eq 58 e_Mo_takesClause_51 (by decide) ⟨fun z11 => ?_, fun z11 => ?_⟩
          · have h := h.1 z11
            refine g_iconst (v := 0) e_Mo_takesClause_58 (by decide) ?_
            exact g_zret e_Mo_takesClause_59 rfl (Or.inl rfl) ⟨Sh.n hw10, _, rfl, hw10, h⟩
          · have h := h.2 z11
            refine g_iconst (v := 1) e_Mo_takesClause_54 (by decide) ?_
            refine g_goto 59 e_Mo_takesClause_55 (by decide) ?_
            exact g_zret e_Mo_takesClause_59 rfl (Or.inr rfl) ⟨Sh.n hw10, _, rfl, hw10, h⟩
    · have h := h.2 z4
      refine g_iconst (v := 0) e_Mo_takesClause_15 (by decide) ?_
      exact g_zret e_Mo_takesClause_16 rfl (Or.inl rfl) ⟨Sh.n hw3, _, rfl, hw3, h⟩
theorem en_Mo_takesClause {d : Nat} {E : qE} {Q : qW → Int32 → Prop} {a1 : Int32} {w : qW} (hw : Sh w) (h : c_Mo_takesClause_0 d E Q a1 w) : CaI (d + 5) M_Mo_takesClause [.ref (qb E + 115), .int a1] E w Q := Ca.into hw rfl (Nat.le_of_ble_eq_true rfl) h
def c_Mo_goesText_0 (d : Nat) (E : qE) (Q : qW → Int32 → Prop) (a1 : Int32) (w : qW) : Prop := Go (d + 6) M_Mo_goesText E 161 161 (qFI Q) 0 [(0, .ref (qb E + 115)), (1, .int a1)] [] w
def c_Mo_goesText_15 (d : Nat) (E : qE) (Q : qW → Int32 → Prop) (l1 : Int32) (l2 : Int32) (w : qW) : Prop := Go (d + 6) M_Mo_goesText E 161 161 (qFI Q) 15 [(0, .ref (qb E + 115)), (1, .int l1), (2, .int l2)] [] w
set_option maxHeartbeats 4000000 in
set_option maxRecDepth 8000 in
theorem s_Mo_goesText_0 {d : Nat} {E : qE} {Q : qW → Int32 → Prop} {a1 : Int32} {w : qW} (hw : Sh w) (h : c_Mo_goesText_15 d E Q a1 0 (qpi (qpi w 115 15 0) 115 25 (100 * a1))) : c_Mo_goesText_0 d E Q a1 w := by
  unfold c_Mo_goesText_0
  refine g_aload_n 0 e_Mo_goesText_0 rfl rfl ?_
  refine g_iconst (v := 0) e_Mo_goesText_1 (by decide) ?_
  refine pf_Mo_57 rfl e_Mo_goesText_2 hw lay_115 (by decide) ?_
  refine g_aload_n 0 e_Mo_goesText_5 rfl rfl ?_
  refine g_bipush (v := 100) e_Mo_goesText_6 (by decide) ?_
  refine g_iload_n 1 e_Mo_goesText_8 rfl rfl ?_
  refine g_imul e_Mo_goesText_9 ?_
  refine pf_Mo_87 rfl e_Mo_goesText_10 hw lay_115 (by decide) ?_
  refine g_iconst (v := 0) e_Mo_goesText_13 (by decide) ?_
  refine g_istore_n (lv := [(2, .int 0), (0, .ref (qb E + 115)), (1, .int a1)]) e_Mo_goesText_14 rfl (by decide) rfl ?_
  refine g_loc [1, 2, 0] rfl ?_
  exact h
set_option maxHeartbeats 4000000 in
set_option maxRecDepth 8000 in
theorem s_Mo_goesText_15 {d : Nat} {E : qE} {Q : qW → Int32 → Prop} {l1 : Int32} {l2 : Int32} {w : qW} (hw : Sh w) (h : CaI (d + 5) M_Mo_takesClause [.ref (qb E + 115), .int ((10 * l1) + l2)] E w (fun w1 x1 => ((¬ x1 = 0) → (vp_in l1 6 ∧ (((¬ (qi (qpi w1 124 ((l1).toNatClampNeg) (l2 + 1)) 115 15) = (qi (qpi w1 124 ((l1).toNatClampNeg) (l2 + 1)) 115 14)) → ((((l2 + 1) = 10) → (Q (qpi w1 124 ((l1).toNatClampNeg) (l2 + 1)) 0)) ∧ ((¬ (l2 + 1) = 10) → (CaI (d + 5) M_Mo_takes [.ref (qb E + 115), .int 59] E (qpi w1 124 ((l1).toNatClampNeg) (l2 + 1)) (fun w6 x6 => ((¬ x6 = 0) → (c_Mo_goesText_15 d E Q l1 (l2 + 1) w6)) ∧ ((x6 = 0) → (Q w6 0))))))) ∧ (((qi (qpi w1 124 ((l1).toNatClampNeg) (l2 + 1)) 115 15) = (qi (qpi w1 124 ((l1).toNatClampNeg) (l2 + 1)) 115 14)) → (Q (qpi w1 124 ((l1).toNatClampNeg) (l2 + 1)) 1))))) ∧ ((x1 = 0) → (Q w1 0)))) : c_Mo_goesText_15 d E Q l1 l2 w := by
  unfold c_Mo_goesText_15
  refine g_aload_n 0 e_Mo_goesText_15 rfl rfl ?_
  refine g_bipush (v := 10) e_Mo_goesText_16 (by decide) ?_
  refine g_iload_n 1 e_Mo_goesText_18 rfl rfl ?_
  refine g_imul e_Mo_goesText_19 ?_
  refine g_iload_n 2 e_Mo_goesText_20 rfl rfl ?_
  refine g_iadd e_Mo_goesText_21 ?_
  refine w_callVI (w := w) (As := [.int ((10 * l1) + l2)]) (rest := []) e_Mo_goesText_22 ok_Mo_takesClause rfl km_Mo_312 kx_Mo_takesClause kv_Mo_takesClause rfl (by decide) hw lay_115 (by decide) rfl (Nat.le_of_ble_eq_true rfl) h (fun w1 x1 hw1 h => ?_)
  refine g_if_ne 30 e_Mo_goesText_25 (by decide) ⟨fun z2 => ?_, fun z2 => ?_⟩
  · have h := h.1 z2
    refine g_iinc (v := (l2 + 1)) (lv := [(2, .int (l2 + 1)), (0, .ref (qb E + 115)), (1, .int l1)]) 2 e_Mo_goesText_30 rfl rfl (by decide) rfl ?_
    refine g_aload_n 1 e_Mo_goesText_33 rfl rfl ?_
    refine gf_Mo_66 rfl e_Mo_goesText_34 hw1 lay_115 (by decide) (sh_Mo_clauses hw1) ?_
    refine g_iload_n 2 e_Mo_goesText_37 rfl rfl ?_
    refine g_iload_n 0 e_Mo_goesText_38 rfl rfl ?_
    obtain ⟨o3, h⟩ := h
    refine w_iastore ((l1).toNatClampNeg) e_Mo_goesText_39 hw1 lay_124 (by decide) o3 rfl ?_
    refine g_aload_n 1 e_Mo_goesText_40 rfl rfl ?_
    refine gf_Mo_57 rfl e_Mo_goesText_41 hw1 lay_115 (by decide) ?_
    refine g_aload_n 1 e_Mo_goesText_44 rfl rfl ?_
    refine gf_Mo_54 rfl e_Mo_goesText_45 hw1 lay_115 (by decide) ?_
    refine g_icmp_ne 53 e_Mo_goesText_48 (by decide) ⟨fun z4 => ?_, fun z4 => ?_⟩
    · have h := h.1 z4
      refine g_iload_n 0 e_Mo_goesText_53 rfl rfl ?_
      refine g_bipush (v := 10) e_Mo_goesText_54 (by decide) ?_
      refine g_icmp_eq 68 e_Mo_goesText_56 (by decide) ⟨fun z5 => ?_, fun z5 => ?_⟩
      · have h := h.1 z5
        refine g_iconst (v := 0) e_Mo_goesText_68 (by decide) ?_
        exact g_zret e_Mo_goesText_69 rfl (Or.inl rfl) ⟨Sh.n hw1, _, rfl, hw1, h⟩
      · have h := h.2 z5
        refine g_aload_n 1 e_Mo_goesText_59 rfl rfl ?_
        refine g_bipush (v := 59) e_Mo_goesText_60 (by decide) ?_
        refine w_callVI (w := (qpi w1 124 ((l1).toNatClampNeg) (l2 + 1))) (As := [.int 59]) (rest := []) e_Mo_goesText_62 ok_Mo_takes rfl km_Mo_278 kx_Mo_takes kv_Mo_takes rfl (by decide) hw1 lay_115 (by decide) rfl (Nat.le_of_ble_eq_true rfl) h (fun w6 x6 hw6 h => ?_)
        refine g_if_ne 15 e_Mo_goesText_65 (by decide) ⟨fun z7 => ?_, fun z7 => ?_⟩
        · have h := h.1 z7
          refine g_loc [1, 2, 0] rfl ?_
          exact h
        · have h := h.2 z7
          refine g_iconst (v := 0) e_Mo_goesText_68 (by decide) ?_
          exact g_zret e_Mo_goesText_69 rfl (Or.inl rfl) ⟨Sh.n hw6, _, rfl, hw6, h⟩
    · have h := h.2 z4
      refine g_iconst (v := 1) e_Mo_goesText_51 (by decide) ?_
      exact g_zret e_Mo_goesText_52 rfl (Or.inr rfl) ⟨Sh.n hw1, _, rfl, hw1, h⟩
  · have h := h.2 z2
    refine g_iconst (v := 0) e_Mo_goesText_28 (by decide) ?_
    exact g_zret e_Mo_goesText_29 rfl (Or.inl rfl) ⟨Sh.n hw1, _, rfl, hw1, h⟩
theorem en_Mo_goesText {d : Nat} {E : qE} {Q : qW → Int32 → Prop} {a1 : Int32} {w : qW} (hw : Sh w) (h : c_Mo_goesText_0 d E Q a1 w) : CaI (d + 6) M_Mo_goesText [.ref (qb E + 115), .int a1] E w Q := Ca.into hw rfl (Nat.le_of_ble_eq_true rfl) h
def c_Mo_kitchen_0 (d : Nat) (E : qE) (Q : qW → Int32 → Prop) (w : qW) : Prop := Go (d + 7) M_Mo_kitchen E 161 161 (qFI Q) 0 [(0, .ref (qb E + 115))] [] w
set_option maxHeartbeats 4000000 in
set_option maxRecDepth 8000 in
theorem s_Mo_kitchen_0 {d : Nat} {E : qE} {Q : qW → Int32 → Prop} {w : qW} (hw : Sh w) (h : ((¬ (qi w 115 12) = 6) → (CaI (d + 6) M_Mo_goesText [.ref (qb E + 115), .int (qi w 115 12)] E w (fun w2 x2 => ((¬ x2 = 0) → (Q (qpi (qpi (qpi w2 115 14 0) 115 13 (qi (qpi w2 115 14 0) 115 12)) 115 12 ((qi (qpi (qpi w2 115 14 0) 115 13 (qi (qpi w2 115 14 0) 115 12)) 115 12) + 1)) (qi (qpi (qpi (qpi w2 115 14 0) 115 13 (qi (qpi w2 115 14 0) 115 12)) 115 12 ((qi (qpi (qpi w2 115 14 0) 115 13 (qi (qpi w2 115 14 0) 115 12)) 115 12) + 1)) 115 13))) ∧ ((x2 = 0) → (Q (qpi w2 115 14 0) ((-10) - (qi (qpi w2 115 14 0) 115 15))))))) ∧ (((qi w 115 12) = 6) → (Q w (-4)))) : c_Mo_kitchen_0 d E Q  w := by
  unfold c_Mo_kitchen_0
  refine g_aload_n 0 e_Mo_kitchen_0 rfl rfl ?_
  refine gf_Mo_48 rfl e_Mo_kitchen_1 hw lay_115 (by decide) ?_
  refine g_bipush (v := 6) e_Mo_kitchen_4 (by decide) ?_
  refine g_icmp_ne 12 e_Mo_kitchen_6 (by decide) ⟨fun z1 => ?_, fun z1 => ?_⟩
  · have h := h.1 z1
    refine g_aload_n 0 e_Mo_kitchen_12 rfl rfl ?_
    refine g_aload_n 0 e_Mo_kitchen_13 rfl rfl ?_
    refine gf_Mo_48 rfl e_Mo_kitchen_14 hw lay_115 (by decide) ?_
    refine w_callVI (w := w) (As := [.int (qi w 115 12)]) (rest := []) e_Mo_kitchen_17 ok_Mo_goesText rfl km_Mo_315 kx_Mo_goesText kv_Mo_goesText rfl (by decide) hw lay_115 (by decide) rfl (Nat.le_of_ble_eq_true rfl) h (fun w2 x2 hw2 h => ?_)
    refine g_istore_n (lv := [(1, .int x2), (0, .ref (qb E + 115))]) e_Mo_kitchen_20 rfl (by decide) rfl ?_
    refine g_aload_n 1 e_Mo_kitchen_21 rfl rfl ?_
    refine g_iconst (v := 0) e_Mo_kitchen_22 (by decide) ?_
    refine pf_Mo_54 rfl e_Mo_kitchen_23 hw2 lay_115 (by decide) ?_
    refine g_iload_n 0 e_Mo_kitchen_26 rfl rfl ?_
    refine g_if_ne 38 e_Mo_kitchen_27 (by decide) ⟨fun z3 => ?_, fun z3 => ?_⟩
    · have h := h.1 z3
      refine g_aload_n 1 e_Mo_kitchen_38 rfl rfl ?_
      refine g_aload_n 1 e_Mo_kitchen_39 rfl rfl ?_
      refine gf_Mo_48 rfl e_Mo_kitchen_40 hw2 lay_115 (by decide) ?_
      refine pf_Mo_51 rfl e_Mo_kitchen_43 hw2 lay_115 (by decide) ?_
      refine g_aload_n 1 e_Mo_kitchen_46 rfl rfl ?_
      refine g_dup e_Mo_kitchen_47 rfl ?_
      refine gf_Mo_48 rfl e_Mo_kitchen_48 hw2 lay_115 (by decide) ?_
      refine g_iconst (v := 1) e_Mo_kitchen_51 (by decide) ?_
      refine g_iadd e_Mo_kitchen_52 ?_
      refine pf_Mo_48 rfl e_Mo_kitchen_53 hw2 lay_115 (by decide) ?_
      refine g_aload_n 1 e_Mo_kitchen_56 rfl rfl ?_
      refine gf_Mo_51 rfl e_Mo_kitchen_57 hw2 lay_115 (by decide) ?_
      exact g_iret e_Mo_kitchen_60 rfl ⟨Sh.n hw2, _, rfl, hw2, h⟩
    · have h := h.2 z3
      refine g_bipush (v := (-10)) e_Mo_kitchen_30 (by decide) ?_
      refine g_aload_n 1 e_Mo_kitchen_32 rfl rfl ?_
      refine gf_Mo_57 rfl e_Mo_kitchen_33 hw2 lay_115 (by decide) ?_
      refine g_isub e_Mo_kitchen_36 ?_
      exact g_iret e_Mo_kitchen_37 rfl ⟨Sh.n hw2, _, rfl, hw2, h⟩
  · have h := h.2 z1
    refine g_bipush (v := (-4)) e_Mo_kitchen_9 (by decide) ?_
    exact g_iret e_Mo_kitchen_11 rfl ⟨Sh.n hw, _, rfl, hw, h⟩
theorem en_Mo_kitchen {d : Nat} {E : qE} {Q : qW → Int32 → Prop} {w : qW} (hw : Sh w) (h : c_Mo_kitchen_0 d E Q  w) : CaI (d + 7) M_Mo_kitchen [.ref (qb E + 115)] E w Q := Ca.into hw rfl (Nat.le_of_ble_eq_true rfl) h
def c_Mo_begin_0 (d : Nat) (E : qE) (Q : qW → Int32 → Prop) (w : qW) : Prop := Go d M_Mo_begin E 161 161 (qFI Q) 0 [(0, .ref (qb E + 115))] [] w
set_option maxHeartbeats 4000000 in
set_option maxRecDepth 8000 in
theorem s_Mo_begin_0 {d : Nat} {E : qE} {Q : qW → Int32 → Prop} {w : qW} (hw : Sh w) (h : ((0 ≤ (qi w 115 13)) → (Q w (10 * (qi w 115 13)))) ∧ ((¬ 0 ≤ (qi w 115 13)) → (Q w 0))) : c_Mo_begin_0 d E Q  w := by
  unfold c_Mo_begin_0
  refine g_aload_n 0 e_Mo_begin_0 rfl rfl ?_
  refine gf_Mo_51 rfl e_Mo_begin_1 hw lay_115 (by decide) ?_
  refine g_if_ge 11 e_Mo_begin_4 (by decide) ⟨fun z1 => ?_, fun z1 => ?_⟩
  · have h := h.1 z1
    refine g_bipush (v := 10) e_Mo_begin_11 (by decide) ?_
    refine g_aload_n 0 e_Mo_begin_13 rfl rfl ?_
    refine gf_Mo_51 rfl e_Mo_begin_14 hw lay_115 (by decide) ?_
    refine g_imul e_Mo_begin_17 ?_
    exact g_iret e_Mo_begin_18 rfl ⟨Sh.n hw, _, rfl, hw, h⟩
  · have h := h.2 z1
    refine g_iconst (v := 0) e_Mo_begin_7 (by decide) ?_
    refine g_goto 18 e_Mo_begin_8 (by decide) ?_
    exact g_iret e_Mo_begin_18 rfl ⟨Sh.n hw, _, rfl, hw, h⟩
theorem en_Mo_begin {d : Nat} {E : qE} {Q : qW → Int32 → Prop} {w : qW} (hw : Sh w) (h : c_Mo_begin_0 d E Q  w) : CaI d M_Mo_begin [.ref (qb E + 115)] E w Q := Ca.into hw rfl (Nat.le_of_ble_eq_true rfl) h
def c_Mo_behind_0 (d : Nat) (E : qE) (Q : qW → Int32 → Prop) (w : qW) : Prop := Go d M_Mo_behind E 161 161 (qFI Q) 0 [(0, .ref (qb E + 115))] [] w
set_option maxHeartbeats 4000000 in
set_option maxRecDepth 8000 in
theorem s_Mo_behind_0 {d : Nat} {E : qE} {Q : qW → Int32 → Prop} {w : qW} (hw : Sh w) (h : ((0 ≤ (qi w 115 13)) → (vp_in (qi w 115 13) 6 ∧ (Q w ((10 * (qi w 115 13)) + (qi w 124 ((qi w 115 13).toNatClampNeg)))))) ∧ ((¬ 0 ≤ (qi w 115 13)) → (Q w 0))) : c_Mo_behind_0 d E Q  w := by
  unfold c_Mo_behind_0
  refine g_aload_n 0 e_Mo_behind_0 rfl rfl ?_
  refine gf_Mo_51 rfl e_Mo_behind_1 hw lay_115 (by decide) ?_
  refine g_if_ge 11 e_Mo_behind_4 (by decide) ⟨fun z1 => ?_, fun z1 => ?_⟩
  · have h := h.1 z1
    refine g_bipush (v := 10) e_Mo_behind_11 (by decide) ?_
    refine g_aload_n 0 e_Mo_behind_13 rfl rfl ?_
    refine gf_Mo_51 rfl e_Mo_behind_14 hw lay_115 (by decide) ?_
    refine g_imul e_Mo_behind_17 ?_
    refine g_aload_n 0 e_Mo_behind_18 rfl rfl ?_
    refine gf_Mo_66 rfl e_Mo_behind_19 hw lay_115 (by decide) (sh_Mo_clauses hw) ?_
    refine g_aload_n 0 e_Mo_behind_22 rfl rfl ?_
    refine gf_Mo_51 rfl e_Mo_behind_23 hw lay_115 (by decide) ?_
    obtain ⟨o2, h⟩ := h
    refine w_iaload ((qi w 115 13).toNatClampNeg) e_Mo_behind_26 hw lay_124 (by decide) o2 rfl ?_
    refine g_iadd e_Mo_behind_27 ?_
    exact g_iret e_Mo_behind_28 rfl ⟨Sh.n hw, _, rfl, hw, h⟩
  · have h := h.2 z1
    refine g_iconst (v := 0) e_Mo_behind_7 (by decide) ?_
    refine g_goto 28 e_Mo_behind_8 (by decide) ?_
    exact g_iret e_Mo_behind_28 rfl ⟨Sh.n hw, _, rfl, hw, h⟩
theorem en_Mo_behind {d : Nat} {E : qE} {Q : qW → Int32 → Prop} {w : qW} (hw : Sh w) (h : c_Mo_behind_0 d E Q  w) : CaI d M_Mo_behind [.ref (qb E + 115)] E w Q := Ca.into hw rfl (Nat.le_of_ble_eq_true rfl) h
def c_Mo_need_0 (d : Nat) (E : qE) (Q : qW → Int32 → Prop) (w : qW) : Prop := Go (d + 1) M_Mo_need E 161 161 (qFI Q) 0 [(0, .ref (qb E + 115))] [] w
def c_Mo_need_8 (d : Nat) (E : qE) (Q : qW → Int32 → Prop) (l1 : Int32) (l2 : Int32) (w : qW) : Prop := Go (d + 1) M_Mo_need E 161 161 (qFI Q) 8 [(0, .ref (qb E + 115)), (1, .int l1), (2, .int l2)] [] w
set_option maxHeartbeats 4000000 in
set_option maxRecDepth 8000 in
theorem s_Mo_need_0 {d : Nat} {E : qE} {Q : qW → Int32 → Prop} {w : qW} (hw : Sh w) (h : CaI d M_Mo_begin [.ref (qb E + 115)] E w (fun w1 x1 => c_Mo_need_8 d E Q 60 x1 w1)) : c_Mo_need_0 d E Q  w := by
  unfold c_Mo_need_0
  refine g_bipush (v := 60) e_Mo_need_0 (by decide) ?_
  refine g_istore_n (lv := [(1, .int 60), (0, .ref (qb E + 115))]) e_Mo_need_2 rfl (by decide) rfl ?_
  refine g_aload_n 1 e_Mo_need_3 rfl rfl ?_
  refine w_callVI (w := w) (As := []) (rest := []) e_Mo_need_4 ok_Mo_begin rfl km_Mo_318 kx_Mo_begin kv_Mo_begin rfl (by decide) hw lay_115 (by decide) rfl (Nat.le_of_ble_eq_true rfl) h (fun w1 x1 hw1 h => ?_)
  refine g_istore_n (lv := [(2, .int x1), (1, .int 60), (0, .ref (qb E + 115))]) e_Mo_need_7 rfl (by decide) rfl ?_
  refine g_loc [2, 1, 0] rfl ?_
  exact h
set_option maxHeartbeats 4000000 in
set_option maxRecDepth 8000 in
theorem s_Mo_need_8 {d : Nat} {E : qE} {Q : qW → Int32 → Prop} {l1 : Int32} {l2 : Int32} {w : qW} (hw : Sh w) (h : CaI d M_Mo_behind [.ref (qb E + 115)] E w (fun w1 x1 => ((x1 ≤ l2) → (Q w1 l1)) ∧ ((¬ x1 ≤ l2) → (vp_in l2 60 ∧ (((¬ (qi w1 125 ((l2).toNatClampNeg)) = 2) → (c_Mo_need_8 d E Q l1 (l2 + 1) w1)) ∧ (((qi w1 125 ((l2).toNatClampNeg)) = 2) → (vp_in l2 60 ∧ (c_Mo_need_8 d E Q (10 * (qi w1 126 ((l2).toNatClampNeg))) (l2 + 1) w1)))))))) : c_Mo_need_8 d E Q l1 l2 w := by
  unfold c_Mo_need_8
  refine g_iload_n 2 e_Mo_need_8 rfl rfl ?_
  refine g_aload_n 0 e_Mo_need_9 rfl rfl ?_
  refine w_callVI (w := w) (As := []) (rest := [.int l2]) e_Mo_need_10 ok_Mo_behind rfl km_Mo_321 kx_Mo_behind kv_Mo_behind rfl (by decide) hw lay_115 (by decide) rfl (Nat.le_of_ble_eq_true rfl) h (fun w1 x1 hw1 h => ?_)
  refine g_icmp_ge 46 e_Mo_need_13 (by decide) ⟨fun z2 => ?_, fun z2 => ?_⟩
  · have h := h.1 z2
    refine g_iload_n 1 e_Mo_need_46 rfl rfl ?_
    exact g_iret e_Mo_need_47 rfl ⟨Sh.n hw1, _, rfl, hw1, h⟩
  · have h := h.2 z2
    refine g_aload_n 0 e_Mo_need_16 rfl rfl ?_
    refine gf_Mo_69 rfl e_Mo_need_17 hw1 lay_115 (by decide) (sh_Mo_word hw1) ?_
    refine g_iload_n 2 e_Mo_need_20 rfl rfl ?_
    obtain ⟨o3, h⟩ := h
    refine w_iaload ((l2).toNatClampNeg) e_Mo_need_21 hw1 lay_125 (by decide) o3 rfl ?_
    refine g_iconst (v := 2) e_Mo_need_22 (by decide) ?_
    refine g_icmp_ne 38 e_Mo_need_23 (by decide) ⟨fun z4 => ?_, fun z4 => ?_⟩
    · have h := h.1 z4
      refine g_iload_n 1 e_Mo_need_38 rfl rfl ?_
      refine g_istore_n (lv := [(1, .int l1), (0, .ref (qb E + 115)), (2, .int l2)]) e_Mo_need_39 rfl (by decide) rfl ?_
      refine g_iinc (v := (l2 + 1)) (lv := [(2, .int (l2 + 1)), (1, .int l1), (0, .ref (qb E + 115))]) 2 e_Mo_need_40 rfl rfl (by decide) rfl ?_
      refine g_goto 8 e_Mo_need_43 (by decide) ?_
      refine g_loc [2, 1, 0] rfl ?_
      exact h
    · have h := h.2 z4
      refine g_bipush (v := 10) e_Mo_need_26 (by decide) ?_
      refine g_aload_n 0 e_Mo_need_28 rfl rfl ?_
      refine gf_Mo_72 rfl e_Mo_need_29 hw1 lay_115 (by decide) (sh_Mo_number hw1) ?_
      refine g_iload_n 2 e_Mo_need_32 rfl rfl ?_
      obtain ⟨o5, h⟩ := h
      refine w_iaload ((l2).toNatClampNeg) e_Mo_need_33 hw1 lay_126 (by decide) o5 rfl ?_
      refine g_imul e_Mo_need_34 ?_
      refine g_goto 39 e_Mo_need_35 (by decide) ?_
      refine g_istore_n (lv := [(1, .int (10 * (qi w1 126 ((l2).toNatClampNeg)))), (0, .ref (qb E + 115)), (2, .int l2)]) e_Mo_need_39 rfl (by decide) rfl ?_
      refine g_iinc (v := (l2 + 1)) (lv := [(2, .int (l2 + 1)), (1, .int (10 * (qi w1 126 ((l2).toNatClampNeg)))), (0, .ref (qb E + 115))]) 2 e_Mo_need_40 rfl rfl (by decide) rfl ?_
      refine g_goto 8 e_Mo_need_43 (by decide) ?_
      refine g_loc [2, 1, 0] rfl ?_
      exact h
theorem en_Mo_need {d : Nat} {E : qE} {Q : qW → Int32 → Prop} {w : qW} (hw : Sh w) (h : c_Mo_need_0 d E Q  w) : CaI (d + 1) M_Mo_need [.ref (qb E + 115)] E w Q := Ca.into hw rfl (Nat.le_of_ble_eq_true rfl) h
def c_Mo_factOf_0 (d : Nat) (E : qE) (Q : qW → Int32 → Prop) (a1 : Int32) (a2 : Int32) (w : qW) : Prop := Go d M_Mo_factOf E 161 161 (qFI Q) 0 [(0, .ref (qb E + 115)), (1, .int a1), (2, .int a2)] [] w
set_option maxHeartbeats 4000000 in
set_option maxRecDepth 8000 in
theorem s_Mo_factOf_0 {d : Nat} {E : qE} {Q : qW → Int32 → Prop} {a1 : Int32} {a2 : Int32} {w : qW} (hw : Sh w) (h : (a1 = 0 → (Q w a2)) ∧ (a1 = 1 → (vp_in a2 6 ∧ (Q w (qi w 116 ((a2).toNatClampNeg))))) ∧ (a1 = 2 → (vp_in a2 6 ∧ (Q w (qi w 117 ((a2).toNatClampNeg))))) ∧ (a1 = 3 → (vp_in a2 6 ∧ (Q w (qi w 118 ((a2).toNatClampNeg))))) ∧ (a1 = 4 → (vp_in a2 6 ∧ (Q w (qi w 119 ((a2).toNatClampNeg))))) ∧ ((a1.toInt < 0 ∨ 4 < a1.toInt) → (Q w ((qi w 115 3) - (qi w 115 3) / 10 * 10)))) : c_Mo_factOf_0 d E Q a1 a2 w := by
  unfold c_Mo_factOf_0
  refine g_iload_n 1 e_Mo_factOf_0 rfl rfl ?_
  refine g_table e_Mo_factOf_1 5 (by decide) [36, 38, 45, 52, 59] 66 (by decide) (by decide +kernel) ⟨fun j1 hj1 hx1 => ?_, fun hx1 => ?_⟩
  · rcases (show j1 = 0 ∨ j1 = 1 ∨ j1 = 2 ∨ j1 = 3 ∨ j1 = 4 by omega) with rfl | rfl | rfl | rfl | rfl
    · have h := h.1 (q_key hx1 (by decide))
      change Go _ _ _ _ _ _ 36 _ _ _
      refine g_iload_n 2 e_Mo_factOf_36 rfl rfl ?_
      exact g_iret e_Mo_factOf_37 rfl ⟨Sh.n hw, _, rfl, hw, h⟩
    · have h := h.2.1 (q_key hx1 (by decide))
      change Go _ _ _ _ _ _ 38 _ _ _
      refine g_aload_n 0 e_Mo_factOf_38 rfl rfl ?_
      refine gf_Mo_26 rfl e_Mo_factOf_39 hw lay_115 (by decide) (sh_Mo_kind hw) ?_
      refine g_iload_n 2 e_Mo_factOf_42 rfl rfl ?_
      obtain ⟨o2, h⟩ := h
      refine w_iaload ((a2).toNatClampNeg) e_Mo_factOf_43 hw lay_116 (by decide) o2 rfl ?_
      exact g_iret e_Mo_factOf_44 rfl ⟨Sh.n hw, _, rfl, hw, h⟩
    · have h := h.2.2.1 (q_key hx1 (by decide))
      change Go _ _ _ _ _ _ 45 _ _ _
      refine g_aload_n 0 e_Mo_factOf_45 rfl rfl ?_
      refine gf_Mo_30 rfl e_Mo_factOf_46 hw lay_115 (by decide) (sh_Mo_v hw) ?_
      refine g_iload_n 2 e_Mo_factOf_49 rfl rfl ?_
      obtain ⟨o3, h⟩ := h
      refine w_iaload ((a2).toNatClampNeg) e_Mo_factOf_50 hw lay_117 (by decide) o3 rfl ?_
      exact g_iret e_Mo_factOf_51 rfl ⟨Sh.n hw, _, rfl, hw, h⟩
    · have h := h.2.2.2.1 (q_key hx1 (by decide))
      change Go _ _ _ _ _ _ 52 _ _ _
      refine g_aload_n 0 e_Mo_factOf_52 rfl rfl ?_
      refine gf_Mo_33 rfl e_Mo_factOf_53 hw lay_115 (by decide) (sh_Mo_weight hw) ?_
      refine g_iload_n 2 e_Mo_factOf_56 rfl rfl ?_
      obtain ⟨o4, h⟩ := h
      refine w_iaload ((a2).toNatClampNeg) e_Mo_factOf_57 hw lay_118 (by decide) o4 rfl ?_
      exact g_iret e_Mo_factOf_58 rfl ⟨Sh.n hw, _, rfl, hw, h⟩
    · have h := h.2.2.2.2.1 (q_key hx1 (by decide))
      change Go _ _ _ _ _ _ 59 _ _ _
      refine g_aload_n 0 e_Mo_factOf_59 rfl rfl ?_
      refine gf_Mo_36 rfl e_Mo_factOf_60 hw lay_115 (by decide) (sh_Mo_whose hw) ?_
      refine g_iload_n 2 e_Mo_factOf_63 rfl rfl ?_
      obtain ⟨o5, h⟩ := h
      refine w_iaload ((a2).toNatClampNeg) e_Mo_factOf_64 hw lay_119 (by decide) o5 rfl ?_
      exact g_iret e_Mo_factOf_65 rfl ⟨Sh.n hw, _, rfl, hw, h⟩
  · have h := h.2.2.2.2.2 hx1
    refine g_aload_n 0 e_Mo_factOf_66 rfl rfl ?_
    refine gf_Mo_19 rfl e_Mo_factOf_67 hw lay_115 (by decide) ?_
    refine g_bipush (v := 10) e_Mo_factOf_70 (by decide) ?_
    refine g_irem e_Mo_factOf_72 (by decide) ?_
    exact g_iret e_Mo_factOf_73 rfl ⟨Sh.n hw, _, rfl, hw, h⟩
theorem en_Mo_factOf {d : Nat} {E : qE} {Q : qW → Int32 → Prop} {a1 : Int32} {a2 : Int32} {w : qW} (hw : Sh w) (h : c_Mo_factOf_0 d E Q a1 a2 w) : CaI d M_Mo_factOf [.ref (qb E + 115), .int a1, .int a2] E w Q := Ca.into hw rfl (Nat.le_of_ble_eq_true rfl) h
def c_Mo_holds_0 (d : Nat) (E : qE) (Q : qW → Int32 → Prop) (a1 : Int32) (a2 : Int32) (w : qW) : Prop := Go (d + 1) M_Mo_holds E 161 161 (qFI Q) 0 [(0, .ref (qb E + 115)), (1, .int a1), (2, .int a2)] [] w
def c_Mo_holds_10 (d : Nat) (E : qE) (Q : qW → Int32 → Prop) (l1 : Int32) (l2 : Int32) (l3 : Int32) (l4 : Int32) (w : qW) : Prop := Go (d + 1) M_Mo_holds E 161 161 (qFI Q) 10 [(0, .ref (qb E + 115)), (1, .int l1), (2, .int l2), (3, .int l3), (4, .int l4)] [] w
set_option maxHeartbeats 4000000 in
set_option maxRecDepth 8000 in
theorem s_Mo_holds_0 {d : Nat} {E : qE} {Q : qW → Int32 → Prop} {a1 : Int32} {a2 : Int32} {w : qW} (hw : Sh w) (h : vp_in a1 60 ∧ (c_Mo_holds_10 d E Q a1 a2 0 (qi w 127 ((a1).toNatClampNeg)) w)) : c_Mo_holds_0 d E Q a1 a2 w := by
  unfold c_Mo_holds_0
  refine g_iconst (v := 0) e_Mo_holds_0 (by decide) ?_
  refine g_istore_n (lv := [(3, .int 0), (0, .ref (qb E + 115)), (1, .int a1), (2, .int a2)]) e_Mo_holds_1 rfl (by decide) rfl ?_
  refine g_aload_n 1 e_Mo_holds_2 rfl rfl ?_
  refine gf_Mo_75 rfl e_Mo_holds_3 hw lay_115 (by decide) (sh_Mo_from hw) ?_
  refine g_iload_n 2 e_Mo_holds_6 rfl rfl ?_
  obtain ⟨o1, h⟩ := h
  refine w_iaload ((a1).toNatClampNeg) e_Mo_holds_7 hw lay_127 (by decide) o1 rfl ?_
  refine g_istore (lv := [(4, .int (qi w 127 ((a1).toNatClampNeg))), (3, .int 0), (0, .ref (qb E + 115)), (1, .int a1), (2, .int a2)]) e_Mo_holds_8 (by decide) rfl ?_
  refine g_loc [2, 3, 4, 1, 0] rfl ?_
  exact h
set_option maxHeartbeats 4000000 in
set_option maxRecDepth 8000 in
theorem s_Mo_holds_10 {d : Nat} {E : qE} {Q : qW → Int32 → Prop} {l1 : Int32} {l2 : Int32} {l3 : Int32} {l4 : Int32} {w : qW} (hw : Sh w) (h : vp_in l1 60 ∧ ((((qi w 128 ((l1).toNatClampNeg)) ≤ l4) → (Q w (qz (qi w 132 0)))) ∧ ((¬ (qi w 128 ((l1).toNatClampNeg)) ≤ l4) → (vp_in l4 600 ∧ (((¬ (qi w 129 ((l4).toNatClampNeg)) = (-33)) → (((0 ≤ (qi w 129 ((l4).toNatClampNeg))) → (CaI d M_Mo_factOf [.ref (qb E + 115), .int ((qi w 129 ((l4).toNatClampNeg)) / 1000), .int l2] E w (fun w6 x6 => ((¬ (((qi w 129 ((l4).toNatClampNeg)) / 100) - ((qi w 129 ((l4).toNatClampNeg)) / 100) / 10 * 10) = 0) → (((¬ (((qi w 129 ((l4).toNatClampNeg)) / 100) - ((qi w 129 ((l4).toNatClampNeg)) / 100) / 10 * 10) = 1) → (((x6 ≤ ((qi w 129 ((l4).toNatClampNeg)) - (qi w 129 ((l4).toNatClampNeg)) / 100 * 100)) → (vp_in l3 100 ∧ (c_Mo_holds_10 d E Q l1 l2 (l3 + 1) (l4 + 1) (qpi w6 132 ((l3).toNatClampNeg) 0)))) ∧ ((¬ x6 ≤ ((qi w 129 ((l4).toNatClampNeg)) - (qi w 129 ((l4).toNatClampNeg)) / 100 * 100)) → (vp_in l3 100 ∧ (c_Mo_holds_10 d E Q l1 l2 (l3 + 1) (l4 + 1) (qpi w6 132 ((l3).toNatClampNeg) 1)))))) ∧ (((((qi w 129 ((l4).toNatClampNeg)) / 100) - ((qi w 129 ((l4).toNatClampNeg)) / 100) / 10 * 10) = 1) → (((¬ x6 = ((qi w 129 ((l4).toNatClampNeg)) - (qi w 129 ((l4).toNatClampNeg)) / 100 * 100)) → (vp_in l3 100 ∧ (c_Mo_holds_10 d E Q l1 l2 (l3 + 1) (l4 + 1) (qpi w6 132 ((l3).toNatClampNeg) 0)))) ∧ ((x6 = ((qi w 129 ((l4).toNatClampNeg)) - (qi w 129 ((l4).toNatClampNeg)) / 100 * 100)) → (vp_in l3 100 ∧ (c_Mo_holds_10 d E Q l1 l2 (l3 + 1) (l4 + 1) (qpi w6 132 ((l3).toNatClampNeg) 1)))))))) ∧ (((((qi w 129 ((l4).toNatClampNeg)) / 100) - ((qi w 129 ((l4).toNatClampNeg)) / 100) / 10 * 10) = 0) → (((((qi w 129 ((l4).toNatClampNeg)) - (qi w 129 ((l4).toNatClampNeg)) / 100 * 100) ≤ x6) → (vp_in l3 100 ∧ (c_Mo_holds_10 d E Q l1 l2 (l3 + 1) (l4 + 1) (qpi w6 132 ((l3).toNatClampNeg) 0)))) ∧ ((¬ ((qi w 129 ((l4).toNatClampNeg)) - (qi w 129 ((l4).toNatClampNeg)) / 100 * 100) ≤ x6) → (vp_in l3 100 ∧ (c_Mo_holds_10 d E Q l1 l2 (l3 + 1) (l4 + 1) (qpi w6 132 ((l3).toNatClampNeg) 1))))))))) ∧ ((¬ 0 ≤ (qi w 129 ((l4).toNatClampNeg))) → (((¬ (qi w 129 ((l4).toNatClampNeg)) = (-38)) → (vp_in ((l3 + (-1)) - 1) 100 ∧ (((¬ (qz (qi w 132 (((l3 + (-1)) - 1).toNatClampNeg))) = 0) → (vp_in ((l3 + (-1)) - 1) 100 ∧ (c_Mo_holds_10 d E Q l1 l2 (l3 + (-1)) (l4 + 1) (qpi w 132 (((l3 + (-1)) - 1).toNatClampNeg) 1)))) ∧ (((qz (qi w 132 (((l3 + (-1)) - 1).toNatClampNeg))) = 0) → (vp_in (l3 + (-1)) 100 ∧ ((((qz (qi w 132 ((l3 + (-1)).toNatClampNeg))) = 0) → (vp_in ((l3 + (-1)) - 1) 100 ∧ (c_Mo_holds_10 d E Q l1 l2 (l3 + (-1)) (l4 + 1) (qpi w 132 (((l3 + (-1)) - 1).toNatClampNeg) 0)))) ∧ ((¬ (qz (qi w 132 ((l3 + (-1)).toNatClampNeg))) = 0) → (vp_in ((l3 + (-1)) - 1) 100 ∧ (c_Mo_holds_10 d E Q l1 l2 (l3 + (-1)) (l4 + 1) (qpi w 132 (((l3 + (-1)) - 1).toNatClampNeg) 1)))))))))) ∧ (((qi w 129 ((l4).toNatClampNeg)) = (-38)) → (vp_in ((l3 + (-1)) - 1) 100 ∧ ((((qz (qi w 132 (((l3 + (-1)) - 1).toNatClampNeg))) = 0) → (vp_in ((l3 + (-1)) - 1) 100 ∧ (c_Mo_holds_10 d E Q l1 l2 (l3 + (-1)) (l4 + 1) (qpi w 132 (((l3 + (-1)) - 1).toNatClampNeg) 0)))) ∧ ((¬ (qz (qi w 132 (((l3 + (-1)) - 1).toNatClampNeg))) = 0) → (vp_in (l3 + (-1)) 100 ∧ ((((qz (qi w 132 ((l3 + (-1)).toNatClampNeg))) = 0) → (vp_in ((l3 + (-1)) - 1) 100 ∧ (c_Mo_holds_10 d E Q l1 l2 (l3 + (-1)) (l4 + 1) (qpi w 132 (((l3 + (-1)) - 1).toNatClampNeg) 0)))) ∧ ((¬ (qz (qi w 132 ((l3 + (-1)).toNatClampNeg))) = 0) → (vp_in ((l3 + (-1)) - 1) 100 ∧ (c_Mo_holds_10 d E Q l1 l2 (l3 + (-1)) (l4 + 1) (qpi w 132 (((l3 + (-1)) - 1).toNatClampNeg) 1)))))))))))))) ∧ (((qi w 129 ((l4).toNatClampNeg)) = (-33)) → (vp_in (l3 - 1) 100 ∧ (((¬ (qz (qi w 132 ((l3 - 1).toNatClampNeg))) = 0) → (vp_in (l3 - 1) 100 ∧ (c_Mo_holds_10 d E Q l1 l2 l3 (l4 + 1) (qpi w 132 ((l3 - 1).toNatClampNeg) 0)))) ∧ (((qz (qi w 132 ((l3 - 1).toNatClampNeg))) = 0) → (vp_in (l3 - 1) 100 ∧ (c_Mo_holds_10 d E Q l1 l2 l3 (l4 + 1) (qpi w 132 ((l3 - 1).toNatClampNeg) 1)))))))))))) : c_Mo_holds_10 d E Q l1 l2 l3 l4 w := by
  unfold c_Mo_holds_10
  refine g_iload 4 e_Mo_holds_10 rfl ?_
  refine g_aload_n 0 e_Mo_holds_12 rfl rfl ?_
  refine gf_Mo_78 rfl e_Mo_holds_13 hw lay_115 (by decide) (sh_Mo_to hw) ?_
  refine g_iload_n 1 e_Mo_holds_16 rfl rfl ?_
  obtain ⟨o1, h⟩ := h
  refine w_iaload ((l1).toNatClampNeg) e_Mo_holds_17 hw lay_128 (by decide) o1 rfl ?_
  refine g_icmp_ge 243 e_Mo_holds_18 (by decide) ⟨fun z2 => ?_, fun z2 => ?_⟩
  · have h := h.1 z2
    refine g_aload_n 0 e_Mo_holds_243 rfl rfl ?_
    refine gf_Mo_99 rfl e_Mo_holds_244 hw lay_115 (by decide) (sh_Mo_pile hw) ?_
    refine g_iconst (v := 0) e_Mo_holds_247 (by decide) ?_
    refine w_baload 0 e_Mo_holds_248 hw lay_132 (by decide) (show vp_in 0 100 by unfold vp_in; decide) rfl ?_
    exact g_zret e_Mo_holds_249 rfl (qz_01 _) ⟨Sh.n hw, _, rfl, hw, h⟩
  · have h := h.2 z2
    refine g_aload_n 0 e_Mo_holds_21 rfl rfl ?_
    refine gf_Mo_81 rfl e_Mo_holds_22 hw lay_115 (by decide) (sh_Mo_sign hw) ?_
    refine g_iload 4 e_Mo_holds_25 rfl ?_
    obtain ⟨o3, h⟩ := h
    refine w_iaload ((l4).toNatClampNeg) e_Mo_holds_27 hw lay_129 (by decide) o3 rfl ?_
    refine g_istore (lv := [(5, .int (qi w 129 ((l4).toNatClampNeg))), (0, .ref (qb E + 115)), (1, .int l1), (2, .int l2), (3, .int l3), (4, .int l4)]) e_Mo_holds_28 (by decide) rfl ?_
    refine g_iload 0 e_Mo_holds_30 rfl ?_
    refine g_bipush (v := (-33)) e_Mo_holds_32 (by decide) ?_
    refine g_icmp_ne 64 e_Mo_holds_34 (by decide) ⟨fun z4 => ?_, fun z4 => ?_⟩
    · have h := h.1 z4
      refine g_iload 0 e_Mo_holds_64 rfl ?_
      refine g_if_ge 143 e_Mo_holds_66 (by decide) ⟨fun z5 => ?_, fun z5 => ?_⟩
      · have h := h.1 z5
        refine g_aload_n 1 e_Mo_holds_143 rfl rfl ?_
        refine g_iload 0 e_Mo_holds_144 rfl ?_
        refine g_sipush (v := 1000) e_Mo_holds_146 (by decide) ?_
        refine g_idiv e_Mo_holds_149 (by decide) ?_
        refine g_iload_n 3 e_Mo_holds_150 rfl rfl ?_
        refine w_callVI (w := w) (As := [.int ((qi w 129 ((l4).toNatClampNeg)) / 1000), .int l2]) (rest := []) e_Mo_holds_151 ok_Mo_factOf rfl km_Mo_324 kx_Mo_factOf kv_Mo_factOf rfl (by decide) hw lay_115 (by decide) rfl (Nat.le_of_ble_eq_true rfl) h (fun w6 x6 hw6 h => ?_)
        refine g_istore (lv := [(6, .int x6), (5, .int (qi w 129 ((l4).toNatClampNeg))), (0, .ref (qb E + 115)), (1, .int l1), (2, .int l2), (3, .int l3), (4, .int l4)]) e_Mo_holds_154 (by decide) rfl ?_
        refine g_iload 1 e_Mo_holds_156 rfl ?_
        refine g_bipush (v := 100) e_Mo_holds_158 (by decide) ?_
        refine g_idiv e_Mo_holds_160 (by decide) ?_
        refine g_bipush (v := 10) e_Mo_holds_161 (by decide) ?_
        refine g_irem e_Mo_holds_163 (by decide) ?_
        refine g_istore (lv := [(7, .int (((qi w 129 ((l4).toNatClampNeg)) / 100) - ((qi w 129 ((l4).toNatClampNeg)) / 100) / 10 * 10)), (6, .int x6), (5, .int (qi w 129 ((l4).toNatClampNeg))), (0, .ref (qb E + 115)), (1, .int l1), (2, .int l2), (3, .int l3), (4, .int l4)]) e_Mo_holds_164 (by decide) rfl ?_
        refine g_aload_n 3 e_Mo_holds_166 rfl rfl ?_
        refine gf_Mo_99 rfl e_Mo_holds_167 hw6 lay_115 (by decide) (sh_Mo_pile hw6) ?_
        refine g_iload_n 6 e_Mo_holds_170 rfl rfl ?_
        refine g_iload 0 e_Mo_holds_171 rfl ?_
        refine g_if_ne 194 e_Mo_holds_173 (by decide) ⟨fun z7 => ?_, fun z7 => ?_⟩
        · have h := h.1 z7
          refine g_iload 0 e_Mo_holds_194 rfl ?_
          refine g_iconst (v := 1) e_Mo_holds_196 (by decide) ?_
          refine g_icmp_ne 218 e_Mo_holds_197 (by decide) ⟨fun z8 => ?_, fun z8 => ?_⟩
          · have h := h.1 z8
            refine g_iload 1 e_Mo_holds_218 rfl ?_
            refine g_iload 2 e_Mo_holds_220 rfl ?_
            refine g_bipush (v := 100) e_Mo_holds_222 (by decide) ?_
            refine g_irem e_Mo_holds_224 (by decide) ?_
            refine g_icmp_le 232 e_Mo_holds_225 (by decide) ⟨fun z9 => ?_, fun z9 => ?_⟩
            · have h := h.1 z9
              refine g_iconst (v := 0) e_Mo_holds_232 (by decide) ?_
              obtain ⟨o10, h⟩ := h
              refine w_bastore ((l3).toNatClampNeg) e_Mo_holds_233 hw6 lay_132 (by decide) o10 rfl (Or.inl rfl) ?_
              refine g_iinc (v := (l3 + 1)) (lv := [(3, .int (l3 + 1)), (7, .int (((qi w 129 ((l4).toNatClampNeg)) / 100) - ((qi w 129 ((l4).toNatClampNeg)) / 100) / 10 * 10)), (6, .int x6), (5, .int (qi w 129 ((l4).toNatClampNeg))), (0, .ref (qb E + 115)), (1, .int l1), (2, .int l2), (4, .int l4)]) 6 e_Mo_holds_234 rfl rfl (by decide) rfl ?_
              refine g_iinc (v := (l4 + 1)) (lv := [(4, .int (l4 + 1)), (3, .int (l3 + 1)), (7, .int (((qi w 129 ((l4).toNatClampNeg)) / 100) - ((qi w 129 ((l4).toNatClampNeg)) / 100) / 10 * 10)), (6, .int x6), (5, .int (qi w 129 ((l4).toNatClampNeg))), (0, .ref (qb E + 115)), (1, .int l1), (2, .int l2)]) 7 e_Mo_holds_237 rfl rfl (by decide) rfl ?_
              refine g_goto 10 e_Mo_holds_240 (by decide) ?_
              refine g_loc [5, 6, 7, 1, 0] rfl ?_
              exact h
            · have h := h.2 z9
              refine g_iconst (v := 1) e_Mo_holds_228 (by decide) ?_
              refine g_goto 233 e_Mo_holds_229 (by decide) ?_
              obtain ⟨o11, h⟩ := h
              refine w_bastore ((l3).toNatClampNeg) e_Mo_holds_233 hw6 lay_132 (by decide) o11 rfl (Or.inr rfl) ?_
              refine g_iinc (v := (l3 + 1)) (lv := [(3, .int (l3 + 1)), (7, .int (((qi w 129 ((l4).toNatClampNeg)) / 100) - ((qi w 129 ((l4).toNatClampNeg)) / 100) / 10 * 10)), (6, .int x6), (5, .int (qi w 129 ((l4).toNatClampNeg))), (0, .ref (qb E + 115)), (1, .int l1), (2, .int l2), (4, .int l4)]) 6 e_Mo_holds_234 rfl rfl (by decide) rfl ?_
              refine g_iinc (v := (l4 + 1)) (lv := [(4, .int (l4 + 1)), (3, .int (l3 + 1)), (7, .int (((qi w 129 ((l4).toNatClampNeg)) / 100) - ((qi w 129 ((l4).toNatClampNeg)) / 100) / 10 * 10)), (6, .int x6), (5, .int (qi w 129 ((l4).toNatClampNeg))), (0, .ref (qb E + 115)), (1, .int l1), (2, .int l2)]) 7 e_Mo_holds_237 rfl rfl (by decide) rfl ?_
              refine g_goto 10 e_Mo_holds_240 (by decide) ?_
              refine g_loc [5, 6, 7, 1, 0] rfl ?_
              exact h
          · have h := h.2 z8
            refine g_iload 1 e_Mo_holds_200 rfl ?_
            refine g_iload 2 e_Mo_holds_202 rfl ?_
            refine g_bipush (v := 100) e_Mo_holds_204 (by decide) ?_
            refine g_irem e_Mo_holds_206 (by decide) ?_
            refine g_icmp_ne 214 e_Mo_holds_207 (by decide) ⟨fun z12 => ?_, fun z12 => ?_⟩
            · have h := h.1 z12
              refine g_iconst (v := 0) e_Mo_holds_214 (by decide) ?_
              refine g_goto 233 e_Mo_holds_215 (by decide) ?_
              obtain ⟨o13, h⟩ := h
              refine w_bastore ((l3).toNatClampNeg) e_Mo_holds_233 hw6 lay_132 (by decide) o13 rfl (Or.inl rfl) ?_
              refine g_iinc (v := (l3 + 1)) (lv := [(3, .int (l3 + 1)), (7, .int (((qi w 129 ((l4).toNatClampNeg)) / 100) - ((qi w 129 ((l4).toNatClampNeg)) / 100) / 10 * 10)), (6, .int x6), (5, .int (qi w 129 ((l4).toNatClampNeg))), (0, .ref (qb E + 115)), (1, .int l1), (2, .int l2), (4, .int l4)]) 6 e_Mo_holds_234 rfl rfl (by decide) rfl ?_
              refine g_iinc (v := (l4 + 1)) (lv := [(4, .int (l4 + 1)), (3, .int (l3 + 1)), (7, .int (((qi w 129 ((l4).toNatClampNeg)) / 100) - ((qi w 129 ((l4).toNatClampNeg)) / 100) / 10 * 10)), (6, .int x6), (5, .int (qi w 129 ((l4).toNatClampNeg))), (0, .ref (qb E + 115)), (1, .int l1), (2, .int l2)]) 7 e_Mo_holds_237 rfl rfl (by decide) rfl ?_
              refine g_goto 10 e_Mo_holds_240 (by decide) ?_
              refine g_loc [5, 6, 7, 1, 0] rfl ?_
              exact h
            · have h := h.2 z12
              refine g_iconst (v := 1) e_Mo_holds_210 (by decide) ?_
              refine g_goto 233 e_Mo_holds_211 (by decide) ?_
              obtain ⟨o14, h⟩ := h
              refine w_bastore ((l3).toNatClampNeg) e_Mo_holds_233 hw6 lay_132 (by decide) o14 rfl (Or.inr rfl) ?_
              refine g_iinc (v := (l3 + 1)) (lv := [(3, .int (l3 + 1)), (7, .int (((qi w 129 ((l4).toNatClampNeg)) / 100) - ((qi w 129 ((l4).toNatClampNeg)) / 100) / 10 * 10)), (6, .int x6), (5, .int (qi w 129 ((l4).toNatClampNeg))), (0, .ref (qb E + 115)), (1, .int l1), (2, .int l2), (4, .int l4)]) 6 e_Mo_holds_234 rfl rfl (by decide) rfl ?_
              refine g_iinc (v := (l4 + 1)) (lv := [(4, .int (l4 + 1)), (3, .int (l3 + 1)), (7, .int (((qi w 129 ((l4).toNatClampNeg)) / 100) - ((qi w 129 ((l4).toNatClampNeg)) / 100) / 10 * 10)), (6, .int x6), (5, .int (qi w 129 ((l4).toNatClampNeg))), (0, .ref (qb E + 115)), (1, .int l1), (2, .int l2)]) 7 e_Mo_holds_237 rfl rfl (by decide) rfl ?_
              refine g_goto 10 e_Mo_holds_240 (by decide) ?_
              refine g_loc [5, 6, 7, 1, 0] rfl ?_
              exact h
        · have h := h.2 z7
          refine g_iload 1 e_Mo_holds_176 rfl ?_
          refine g_iload 2 e_Mo_holds_178 rfl ?_
          refine g_bipush (v := 100) e_Mo_holds_180 (by decide) ?_
          refine g_irem e_Mo_holds_182 (by decide) ?_
          refine g_icmp_ge 190 e_Mo_holds_183 (by decide) ⟨fun z15 => ?_, fun z15 => ?_⟩
          · have h := h.1 z15
            refine g_iconst (v := 0) e_Mo_holds_190 (by decide) ?_
            refine g_goto 233 e_Mo_holds_191 (by decide) ?_
            obtain ⟨o16, h⟩ := h
            refine w_bastore ((l3).toNatClampNeg) e_Mo_holds_233 hw6 lay_132 (by decide) o16 rfl (Or.inl rfl) ?_
            refine g_iinc (v := (l3 + 1)) (lv := [(3, .int (l3 + 1)), (7, .int (((qi w 129 ((l4).toNatClampNeg)) / 100) - ((qi w 129 ((l4).toNatClampNeg)) / 100) / 10 * 10)), (6, .int x6), (5, .int (qi w 129 ((l4).toNatClampNeg))), (0, .ref (qb E + 115)), (1, .int l1), (2, .int l2), (4, .int l4)]) 6 e_Mo_holds_234 rfl rfl (by decide) rfl ?_
            refine g_iinc (v := (l4 + 1)) (lv := [(4, .int (l4 + 1)), (3, .int (l3 + 1)), (7, .int (((qi w 129 ((l4).toNatClampNeg)) / 100) - ((qi w 129 ((l4).toNatClampNeg)) / 100) / 10 * 10)), (6, .int x6), (5, .int (qi w 129 ((l4).toNatClampNeg))), (0, .ref (qb E + 115)), (1, .int l1), (2, .int l2)]) 7 e_Mo_holds_237 rfl rfl (by decide) rfl ?_
            refine g_goto 10 e_Mo_holds_240 (by decide) ?_
            refine g_loc [5, 6, 7, 1, 0] rfl ?_
            exact h
          · have h := h.2 z15
            refine g_iconst (v := 1) e_Mo_holds_186 (by decide) ?_
            refine g_goto 233 e_Mo_holds_187 (by decide) ?_
            obtain ⟨o17, h⟩ := h
            refine w_bastore ((l3).toNatClampNeg) e_Mo_holds_233 hw6 lay_132 (by decide) o17 rfl (Or.inr rfl) ?_
            refine g_iinc (v := (l3 + 1)) (lv := [(3, .int (l3 + 1)), (7, .int (((qi w 129 ((l4).toNatClampNeg)) / 100) - ((qi w 129 ((l4).toNatClampNeg)) / 100) / 10 * 10)), (6, .int x6), (5, .int (qi w 129 ((l4).toNatClampNeg))), (0, .ref (qb E + 115)), (1, .int l1), (2, .int l2), (4, .int l4)]) 6 e_Mo_holds_234 rfl rfl (by decide) rfl ?_
            refine g_iinc (v := (l4 + 1)) (lv := [(4, .int (l4 + 1)), (3, .int (l3 + 1)), (7, .int (((qi w 129 ((l4).toNatClampNeg)) / 100) - ((qi w 129 ((l4).toNatClampNeg)) / 100) / 10 * 10)), (6, .int x6), (5, .int (qi w 129 ((l4).toNatClampNeg))), (0, .ref (qb E + 115)), (1, .int l1), (2, .int l2)]) 7 e_Mo_holds_237 rfl rfl (by decide) rfl ?_
            refine g_goto 10 e_Mo_holds_240 (by decide) ?_
            refine g_loc [5, 6, 7, 1, 0] rfl ?_
            exact h
      · have h := h.2 z5
        refine g_iinc (v := (l3 + (-1))) (lv := [(3, .int (l3 + (-1))), (5, .int (qi w 129 ((l4).toNatClampNeg))), (0, .ref (qb E + 115)), (1, .int l1), (2, .int l2), (4, .int l4)]) 4 e_Mo_holds_69 rfl rfl (by decide) rfl ?_
        refine g_aload_n 2 e_Mo_holds_72 rfl rfl ?_
        refine gf_Mo_99 rfl e_Mo_holds_73 hw lay_115 (by decide) (sh_Mo_pile hw) ?_
        refine g_iload_n 0 e_Mo_holds_76 rfl rfl ?_
        refine g_iconst (v := 1) e_Mo_holds_77 (by decide) ?_
        refine g_isub e_Mo_holds_78 ?_
        refine g_iload 1 e_Mo_holds_79 rfl ?_
        refine g_bipush (v := (-38)) e_Mo_holds_81 (by decide) ?_
        refine g_icmp_ne 114 e_Mo_holds_83 (by decide) ⟨fun z18 => ?_, fun z18 => ?_⟩
        · have h := h.1 z18
          refine g_aload_n 2 e_Mo_holds_114 rfl rfl ?_
          refine gf_Mo_99 rfl e_Mo_holds_115 hw lay_115 (by decide) (sh_Mo_pile hw) ?_
          refine g_iload_n 0 e_Mo_holds_118 rfl rfl ?_
          refine g_iconst (v := 1) e_Mo_holds_119 (by decide) ?_
          refine g_isub e_Mo_holds_120 ?_
          obtain ⟨o19, h⟩ := h
          refine w_baload (((l3 + (-1)) - 1).toNatClampNeg) e_Mo_holds_121 hw lay_132 (by decide) o19 rfl ?_
          refine g_if_ne 134 e_Mo_holds_122 (by decide) ⟨fun z20 => ?_, fun z20 => ?_⟩
          · have h := h.1 z20
            refine g_iconst (v := 1) e_Mo_holds_134 (by decide) ?_
            refine g_goto 139 e_Mo_holds_135 (by decide) ?_
            obtain ⟨o21, h⟩ := h
            refine w_bastore (((l3 + (-1)) - 1).toNatClampNeg) e_Mo_holds_139 hw lay_132 (by decide) o21 rfl (Or.inr rfl) ?_
            refine g_goto 237 e_Mo_holds_140 (by decide) ?_
            refine g_iinc (v := (l4 + 1)) (lv := [(4, .int (l4 + 1)), (3, .int (l3 + (-1))), (5, .int (qi w 129 ((l4).toNatClampNeg))), (0, .ref (qb E + 115)), (1, .int l1), (2, .int l2)]) 5 e_Mo_holds_237 rfl rfl (by decide) rfl ?_
            refine g_goto 10 e_Mo_holds_240 (by decide) ?_
            refine g_loc [3, 4, 5, 1, 0] rfl ?_
            exact h
          · have h := h.2 z20
            refine g_aload_n 2 e_Mo_holds_125 rfl rfl ?_
            refine gf_Mo_99 rfl e_Mo_holds_126 hw lay_115 (by decide) (sh_Mo_pile hw) ?_
            refine g_iload_n 0 e_Mo_holds_129 rfl rfl ?_
            obtain ⟨o22, h⟩ := h
            refine w_baload ((l3 + (-1)).toNatClampNeg) e_Mo_holds_130 hw lay_132 (by decide) o22 rfl ?_
            refine g_if_eq 138 e_Mo_holds_131 (by decide) ⟨fun z23 => ?_, fun z23 => ?_⟩
            · have h := h.1 z23
              refine g_iconst (v := 0) e_Mo_holds_138 (by decide) ?_
              obtain ⟨o24, h⟩ := h
              refine w_bastore (((l3 + (-1)) - 1).toNatClampNeg) e_Mo_holds_139 hw lay_132 (by decide) o24 rfl (Or.inl rfl) ?_
              refine g_goto 237 e_Mo_holds_140 (by decide) ?_
              refine g_iinc (v := (l4 + 1)) (lv := [(4, .int (l4 + 1)), (3, .int (l3 + (-1))), (5, .int (qi w 129 ((l4).toNatClampNeg))), (0, .ref (qb E + 115)), (1, .int l1), (2, .int l2)]) 5 e_Mo_holds_237 rfl rfl (by decide) rfl ?_
              refine g_goto 10 e_Mo_holds_240 (by decide) ?_
              refine g_loc [3, 4, 5, 1, 0] rfl ?_
              exact h
            · have h := h.2 z23
              refine g_iconst (v := 1) e_Mo_holds_134 (by decide) ?_
              refine g_goto 139 e_Mo_holds_135 (by decide) ?_
              obtain ⟨o25, h⟩ := h
              refine w_bastore (((l3 + (-1)) - 1).toNatClampNeg) e_Mo_holds_139 hw lay_132 (by decide) o25 rfl (Or.inr rfl) ?_
              refine g_goto 237 e_Mo_holds_140 (by decide) ?_
              refine g_iinc (v := (l4 + 1)) (lv := [(4, .int (l4 + 1)), (3, .int (l3 + (-1))), (5, .int (qi w 129 ((l4).toNatClampNeg))), (0, .ref (qb E + 115)), (1, .int l1), (2, .int l2)]) 5 e_Mo_holds_237 rfl rfl (by decide) rfl ?_
              refine g_goto 10 e_Mo_holds_240 (by decide) ?_
              refine g_loc [3, 4, 5, 1, 0] rfl ?_
              exact h
        · have h := h.2 z18
          refine g_aload_n 2 e_Mo_holds_86 rfl rfl ?_
          refine gf_Mo_99 rfl e_Mo_holds_87 hw lay_115 (by decide) (sh_Mo_pile hw) ?_
          refine g_iload_n 0 e_Mo_holds_90 rfl rfl ?_
          refine g_iconst (v := 1) e_Mo_holds_91 (by decide) ?_
          refine g_isub e_Mo_holds_92 ?_
          obtain ⟨o26, h⟩ := h
          refine w_baload (((l3 + (-1)) - 1).toNatClampNeg) e_Mo_holds_93 hw lay_132 (by decide) o26 rfl ?_
          refine g_if_eq 110 e_Mo_holds_94 (by decide) ⟨fun z27 => ?_, fun z27 => ?_⟩
          · have h := h.1 z27
            refine g_iconst (v := 0) e_Mo_holds_110 (by decide) ?_
            refine g_goto 139 e_Mo_holds_111 (by decide) ?_
            obtain ⟨o28, h⟩ := h
            refine w_bastore (((l3 + (-1)) - 1).toNatClampNeg) e_Mo_holds_139 hw lay_132 (by decide) o28 rfl (Or.inl rfl) ?_
            refine g_goto 237 e_Mo_holds_140 (by decide) ?_
            refine g_iinc (v := (l4 + 1)) (lv := [(4, .int (l4 + 1)), (3, .int (l3 + (-1))), (5, .int (qi w 129 ((l4).toNatClampNeg))), (0, .ref (qb E + 115)), (1, .int l1), (2, .int l2)]) 5 e_Mo_holds_237 rfl rfl (by decide) rfl ?_
            refine g_goto 10 e_Mo_holds_240 (by decide) ?_
            refine g_loc [3, 4, 5, 1, 0] rfl ?_
            exact h
          · have h := h.2 z27
            refine g_aload_n 2 e_Mo_holds_97 rfl rfl ?_
            refine gf_Mo_99 rfl e_Mo_holds_98 hw lay_115 (by decide) (sh_Mo_pile hw) ?_
            refine g_iload_n 0 e_Mo_holds_101 rfl rfl ?_
            obtain ⟨o29, h⟩ := h
            refine w_baload ((l3 + (-1)).toNatClampNeg) e_Mo_holds_102 hw lay_132 (by decide) o29 rfl ?_
            refine g_if_eq 110 e_Mo_holds_103 (by decide) ⟨fun z30 => ?_, fun z30 => ?_⟩
            · have h := h.1 z30
              refine g_iconst (v := 0) e_Mo_holds_110 (by decide) ?_
              refine g_goto 139 e_Mo_holds_111 (by decide) ?_
              obtain ⟨o31, h⟩ := h
              refine w_bastore (((l3 + (-1)) - 1).toNatClampNeg) e_Mo_holds_139 hw lay_132 (by decide) o31 rfl (Or.inl rfl) ?_
              refine g_goto 237 e_Mo_holds_140 (by decide) ?_
              refine g_iinc (v := (l4 + 1)) (lv := [(4, .int (l4 + 1)), (3, .int (l3 + (-1))), (5, .int (qi w 129 ((l4).toNatClampNeg))), (0, .ref (qb E + 115)), (1, .int l1), (2, .int l2)]) 5 e_Mo_holds_237 rfl rfl (by decide) rfl ?_
              refine g_goto 10 e_Mo_holds_240 (by decide) ?_
              refine g_loc [3, 4, 5, 1, 0] rfl ?_
              exact h
            · have h := h.2 z30
              refine g_iconst (v := 1) e_Mo_holds_106 (by decide) ?_
              refine g_goto 139 e_Mo_holds_107 (by decide) ?_
              obtain ⟨o32, h⟩ := h
              refine w_bastore (((l3 + (-1)) - 1).toNatClampNeg) e_Mo_holds_139 hw lay_132 (by decide) o32 rfl (Or.inr rfl) ?_
              refine g_goto 237 e_Mo_holds_140 (by decide) ?_
              refine g_iinc (v := (l4 + 1)) (lv := [(4, .int (l4 + 1)), (3, .int (l3 + (-1))), (5, .int (qi w 129 ((l4).toNatClampNeg))), (0, .ref (qb E + 115)), (1, .int l1), (2, .int l2)]) 5 e_Mo_holds_237 rfl rfl (by decide) rfl ?_
              refine g_goto 10 e_Mo_holds_240 (by decide) ?_
              refine g_loc [3, 4, 5, 1, 0] rfl ?_
              exact h
    · have h := h.2 z4
      refine g_aload_n 1 e_Mo_holds_37 rfl rfl ?_
      refine gf_Mo_99 rfl e_Mo_holds_38 hw lay_115 (by decide) (sh_Mo_pile hw) ?_
      refine g_iload_n 4 e_Mo_holds_41 rfl rfl ?_
      refine g_iconst (v := 1) e_Mo_holds_42 (by decide) ?_
      refine g_isub e_Mo_holds_43 ?_
      refine g_aload_n 1 e_Mo_holds_44 rfl rfl ?_
      refine gf_Mo_99 rfl e_Mo_holds_45 hw lay_115 (by decide) (sh_Mo_pile hw) ?_
      refine g_iload_n 4 e_Mo_holds_48 rfl rfl ?_
      refine g_iconst (v := 1) e_Mo_holds_49 (by decide) ?_
      refine g_isub e_Mo_holds_50 ?_
      obtain ⟨o33, h⟩ := h
      refine w_baload ((l3 - 1).toNatClampNeg) e_Mo_holds_51 hw lay_132 (by decide) o33 rfl ?_
      refine g_if_ne 59 e_Mo_holds_52 (by decide) ⟨fun z34 => ?_, fun z34 => ?_⟩
      · have h := h.1 z34
        refine g_iconst (v := 0) e_Mo_holds_59 (by decide) ?_
        obtain ⟨o35, h⟩ := h
        refine w_bastore ((l3 - 1).toNatClampNeg) e_Mo_holds_60 hw lay_132 (by decide) o35 rfl (Or.inl rfl) ?_
        refine g_goto 237 e_Mo_holds_61 (by decide) ?_
        refine g_iinc (v := (l4 + 1)) (lv := [(4, .int (l4 + 1)), (5, .int (qi w 129 ((l4).toNatClampNeg))), (0, .ref (qb E + 115)), (1, .int l1), (2, .int l2), (3, .int l3)]) 5 e_Mo_holds_237 rfl rfl (by decide) rfl ?_
        refine g_goto 10 e_Mo_holds_240 (by decide) ?_
        refine g_loc [2, 3, 4, 5, 0] rfl ?_
        exact h
      · have h := h.2 z34
        refine g_iconst (v := 1) e_Mo_holds_55 (by decide) ?_
        refine g_goto 60 e_Mo_holds_56 (by decide) ?_
        obtain ⟨o36, h⟩ := h
        refine w_bastore ((l3 - 1).toNatClampNeg) e_Mo_holds_60 hw lay_132 (by decide) o36 rfl (Or.inr rfl) ?_
        refine g_goto 237 e_Mo_holds_61 (by decide) ?_
        refine g_iinc (v := (l4 + 1)) (lv := [(4, .int (l4 + 1)), (5, .int (qi w 129 ((l4).toNatClampNeg))), (0, .ref (qb E + 115)), (1, .int l1), (2, .int l2), (3, .int l3)]) 5 e_Mo_holds_237 rfl rfl (by decide) rfl ?_
        refine g_goto 10 e_Mo_holds_240 (by decide) ?_
        refine g_loc [2, 3, 4, 5, 0] rfl ?_
        exact h
theorem en_Mo_holds {d : Nat} {E : qE} {Q : qW → Int32 → Prop} {a1 : Int32} {a2 : Int32} {w : qW} (hw : Sh w) (h : c_Mo_holds_0 d E Q a1 a2 w) : CaI (d + 1) M_Mo_holds [.ref (qb E + 115), .int a1, .int a2] E w Q := Ca.into hw rfl (Nat.le_of_ble_eq_true rfl) h
def c_Mo_sum_0 (d : Nat) (E : qE) (Q : qW → Int32 → Prop) (a1 : Int32) (w : qW) : Prop := Go (d + 2) M_Mo_sum E 161 161 (qFI Q) 0 [(0, .ref (qb E + 115)), (1, .int a1)] [] w
def c_Mo_sum_12 (d : Nat) (E : qE) (Q : qW → Int32 → Prop) (l1 : Int32) (l2 : Int32) (l3 : Int32) (w : qW) : Prop := Go (d + 2) M_Mo_sum E 161 161 (qFI Q) 12 [(0, .ref (qb E + 115)), (1, .int l1), (2, .int l2), (3, .int l3)] [] w
set_option maxHeartbeats 4000000 in
set_option maxRecDepth 8000 in
theorem s_Mo_sum_0 {d : Nat} {E : qE} {Q : qW → Int32 → Prop} {a1 : Int32} {w : qW} (hw : Sh w) (h : vp_in a1 6 ∧ (CaI (d + 1) M_Mo_begin [.ref (qb E + 115)] E w (fun w2 x2 => c_Mo_sum_12 d E Q a1 (qi w 118 ((a1).toNatClampNeg)) x2 w2))) : c_Mo_sum_0 d E Q a1 w := by
  unfold c_Mo_sum_0
  refine g_aload_n 0 e_Mo_sum_0 rfl rfl ?_
  refine gf_Mo_33 rfl e_Mo_sum_1 hw lay_115 (by decide) (sh_Mo_weight hw) ?_
  refine g_iload_n 1 e_Mo_sum_4 rfl rfl ?_
  obtain ⟨o1, h⟩ := h
  refine w_iaload ((a1).toNatClampNeg) e_Mo_sum_5 hw lay_118 (by decide) o1 rfl ?_
  refine g_istore_n (lv := [(2, .int (qi w 118 ((a1).toNatClampNeg))), (0, .ref (qb E + 115)), (1, .int a1)]) e_Mo_sum_6 rfl (by decide) rfl ?_
  refine g_aload_n 1 e_Mo_sum_7 rfl rfl ?_
  refine w_callVI (w := w) (As := []) (rest := []) e_Mo_sum_8 ok_Mo_begin rfl km_Mo_318 kx_Mo_begin kv_Mo_begin rfl (by decide) hw lay_115 (by decide) rfl (Nat.le_of_ble_eq_true rfl) h (fun w2 x2 hw2 h => ?_)
  refine g_istore_n (lv := [(3, .int x2), (2, .int (qi w 118 ((a1).toNatClampNeg))), (0, .ref (qb E + 115)), (1, .int a1)]) e_Mo_sum_11 rfl (by decide) rfl ?_
  refine g_loc [2, 3, 1, 0] rfl ?_
  exact h
set_option maxHeartbeats 4000000 in
set_option maxRecDepth 8000 in
theorem s_Mo_sum_12 {d : Nat} {E : qE} {Q : qW → Int32 → Prop} {l1 : Int32} {l2 : Int32} {l3 : Int32} {w : qW} (hw : Sh w) (h : CaI (d + 1) M_Mo_behind [.ref (qb E + 115)] E w (fun w1 x1 => ((x1 ≤ l3) → (Q w1 l2)) ∧ ((¬ x1 ≤ l3) → (vp_in l3 60 ∧ (((1 < (qi w1 125 ((l3).toNatClampNeg))) → (c_Mo_sum_12 d E Q l1 l2 (l3 + 1) w1)) ∧ ((¬ 1 < (qi w1 125 ((l3).toNatClampNeg))) → (CaI (d + 1) M_Mo_holds [.ref (qb E + 115), .int l3, .int l1] E w1 (fun w5 x5 => ((¬ x5 = 0) → (vp_in l3 60 ∧ (((¬ (qi w5 125 ((l3).toNatClampNeg)) = 0) → (vp_in l3 60 ∧ (c_Mo_sum_12 d E Q l1 (l2 + (-(qi w5 126 ((l3).toNatClampNeg)))) (l3 + 1) w5))) ∧ (((qi w5 125 ((l3).toNatClampNeg)) = 0) → (vp_in l3 60 ∧ (c_Mo_sum_12 d E Q l1 (l2 + (qi w5 126 ((l3).toNatClampNeg))) (l3 + 1) w5)))))) ∧ ((x5 = 0) → (c_Mo_sum_12 d E Q l1 l2 (l3 + 1) w5)))))))))) : c_Mo_sum_12 d E Q l1 l2 l3 w := by
  unfold c_Mo_sum_12
  refine g_iload_n 3 e_Mo_sum_12 rfl rfl ?_
  refine g_aload_n 0 e_Mo_sum_13 rfl rfl ?_
  refine w_callVI (w := w) (As := []) (rest := [.int l3]) e_Mo_sum_14 ok_Mo_behind rfl km_Mo_321 kx_Mo_behind kv_Mo_behind rfl (by decide) hw lay_115 (by decide) rfl (Nat.le_of_ble_eq_true rfl) h (fun w1 x1 hw1 h => ?_)
  refine g_icmp_ge 76 e_Mo_sum_17 (by decide) ⟨fun z2 => ?_, fun z2 => ?_⟩
  · have h := h.1 z2
    refine g_iload_n 2 e_Mo_sum_76 rfl rfl ?_
    exact g_iret e_Mo_sum_77 rfl ⟨Sh.n hw1, _, rfl, hw1, h⟩
  · have h := h.2 z2
    refine g_aload_n 0 e_Mo_sum_20 rfl rfl ?_
    refine gf_Mo_69 rfl e_Mo_sum_21 hw1 lay_115 (by decide) (sh_Mo_word hw1) ?_
    refine g_iload_n 3 e_Mo_sum_24 rfl rfl ?_
    obtain ⟨o3, h⟩ := h
    refine w_iaload ((l3).toNatClampNeg) e_Mo_sum_25 hw1 lay_125 (by decide) o3 rfl ?_
    refine g_iconst (v := 1) e_Mo_sum_26 (by decide) ?_
    refine g_icmp_gt 70 e_Mo_sum_27 (by decide) ⟨fun z4 => ?_, fun z4 => ?_⟩
    · have h := h.1 z4
      refine g_iinc (v := (l3 + 1)) (lv := [(3, .int (l3 + 1)), (0, .ref (qb E + 115)), (1, .int l1), (2, .int l2)]) 3 e_Mo_sum_70 rfl rfl (by decide) rfl ?_
      refine g_goto 12 e_Mo_sum_73 (by decide) ?_
      refine g_loc [1, 2, 3, 0] rfl ?_
      exact h
    · have h := h.2 z4
      refine g_aload_n 0 e_Mo_sum_30 rfl rfl ?_
      refine g_iload_n 3 e_Mo_sum_31 rfl rfl ?_
      refine g_iload_n 1 e_Mo_sum_32 rfl rfl ?_
      refine w_callVI (w := w1) (As := [.int l3, .int l1]) (rest := []) e_Mo_sum_33 ok_Mo_holds rfl km_Mo_328 kx_Mo_holds kv_Mo_holds rfl (by decide) hw1 lay_115 (by decide) rfl (Nat.le_of_ble_eq_true rfl) h (fun w5 x5 hw5 h => ?_)
      refine g_if_ne 42 e_Mo_sum_36 (by decide) ⟨fun z6 => ?_, fun z6 => ?_⟩
      · have h := h.1 z6
        refine g_iload_n 2 e_Mo_sum_42 rfl rfl ?_
        refine g_aload_n 0 e_Mo_sum_43 rfl rfl ?_
        refine gf_Mo_69 rfl e_Mo_sum_44 hw5 lay_115 (by decide) (sh_Mo_word hw5) ?_
        refine g_iload_n 3 e_Mo_sum_47 rfl rfl ?_
        obtain ⟨o7, h⟩ := h
        refine w_iaload ((l3).toNatClampNeg) e_Mo_sum_48 hw5 lay_125 (by decide) o7 rfl ?_
        refine g_if_ne 61 e_Mo_sum_49 (by decide) ⟨fun z8 => ?_, fun z8 => ?_⟩
        · have h := h.1 z8
          refine g_aload_n 0 e_Mo_sum_61 rfl rfl ?_
          refine gf_Mo_72 rfl e_Mo_sum_62 hw5 lay_115 (by decide) (sh_Mo_number hw5) ?_
          refine g_iload_n 3 e_Mo_sum_65 rfl rfl ?_
          obtain ⟨o9, h⟩ := h
          refine w_iaload ((l3).toNatClampNeg) e_Mo_sum_66 hw5 lay_126 (by decide) o9 rfl ?_
          refine g_ineg e_Mo_sum_67 ?_
          refine g_iadd e_Mo_sum_68 ?_
          refine g_istore_n (lv := [(2, .int (l2 + (-(qi w5 126 ((l3).toNatClampNeg))))), (0, .ref (qb E + 115)), (1, .int l1), (3, .int l3)]) e_Mo_sum_69 rfl (by decide) rfl ?_
          refine g_iinc (v := (l3 + 1)) (lv := [(3, .int (l3 + 1)), (2, .int (l2 + (-(qi w5 126 ((l3).toNatClampNeg))))), (0, .ref (qb E + 115)), (1, .int l1)]) 3 e_Mo_sum_70 rfl rfl (by decide) rfl ?_
          refine g_goto 12 e_Mo_sum_73 (by decide) ?_
          refine g_loc [2, 3, 1, 0] rfl ?_
          exact h
        · have h := h.2 z8
          refine g_aload_n 0 e_Mo_sum_52 rfl rfl ?_
          refine gf_Mo_72 rfl e_Mo_sum_53 hw5 lay_115 (by decide) (sh_Mo_number hw5) ?_
          refine g_iload_n 3 e_Mo_sum_56 rfl rfl ?_
          obtain ⟨o10, h⟩ := h
          refine w_iaload ((l3).toNatClampNeg) e_Mo_sum_57 hw5 lay_126 (by decide) o10 rfl ?_
          refine g_goto 68 e_Mo_sum_58 (by decide) ?_
          refine g_iadd e_Mo_sum_68 ?_
          refine g_istore_n (lv := [(2, .int (l2 + (qi w5 126 ((l3).toNatClampNeg)))), (0, .ref (qb E + 115)), (1, .int l1), (3, .int l3)]) e_Mo_sum_69 rfl (by decide) rfl ?_
          refine g_iinc (v := (l3 + 1)) (lv := [(3, .int (l3 + 1)), (2, .int (l2 + (qi w5 126 ((l3).toNatClampNeg)))), (0, .ref (qb E + 115)), (1, .int l1)]) 3 e_Mo_sum_70 rfl rfl (by decide) rfl ?_
          refine g_goto 12 e_Mo_sum_73 (by decide) ?_
          refine g_loc [2, 3, 1, 0] rfl ?_
          exact h
      · have h := h.2 z6
        refine g_goto 70 e_Mo_sum_39 (by decide) ?_
        refine g_iinc (v := (l3 + 1)) (lv := [(3, .int (l3 + 1)), (0, .ref (qb E + 115)), (1, .int l1), (2, .int l2)]) 3 e_Mo_sum_70 rfl rfl (by decide) rfl ?_
        refine g_goto 12 e_Mo_sum_73 (by decide) ?_
        refine g_loc [1, 2, 3, 0] rfl ?_
        exact h
theorem en_Mo_sum {d : Nat} {E : qE} {Q : qW → Int32 → Prop} {a1 : Int32} {w : qW} (hw : Sh w) (h : c_Mo_sum_0 d E Q a1 w) : CaI (d + 2) M_Mo_sum [.ref (qb E + 115), .int a1] E w Q := Ca.into hw rfl (Nat.le_of_ble_eq_true rfl) h
def c_Mo_isSaidBeside_0 (d : Nat) (E : qE) (Q : qW → Int32 → Prop) (a1 : Int32) (w : qW) : Prop := Go d M_Mo_isSaidBeside E 161 161 (qFI Q) 0 [(0, .ref (qb E + 115)), (1, .int a1)] [] w
def c_Mo_isSaidBeside_2 (d : Nat) (E : qE) (Q : qW → Int32 → Prop) (l1 : Int32) (l2 : Int32) (w : qW) : Prop := Go d M_Mo_isSaidBeside E 161 161 (qFI Q) 2 [(0, .ref (qb E + 115)), (1, .int l1), (2, .int l2)] [] w
set_option maxHeartbeats 4000000 in
set_option maxRecDepth 8000 in
theorem s_Mo_isSaidBeside_0 {d : Nat} {E : qE} {Q : qW → Int32 → Prop} {a1 : Int32} {w : qW} (hw : Sh w) (h : c_Mo_isSaidBeside_2 d E Q a1 0 w) : c_Mo_isSaidBeside_0 d E Q a1 w := by
  unfold c_Mo_isSaidBeside_0
  refine g_iconst (v := 0) e_Mo_isSaidBeside_0 (by decide) ?_
  refine g_istore_n (lv := [(2, .int 0), (0, .ref (qb E + 115)), (1, .int a1)]) e_Mo_isSaidBeside_1 rfl (by decide) rfl ?_
  refine g_loc [1, 2, 0] rfl ?_
  exact h
set_option maxHeartbeats 4000000 in
set_option maxRecDepth 8000 in
theorem s_Mo_isSaidBeside_2 {d : Nat} {E : qE} {Q : qW → Int32 → Prop} {l1 : Int32} {l2 : Int32} {w : qW} (hw : Sh w) (h : (((qi w 115 0) ≤ l2) → (Q w 0)) ∧ ((¬ (qi w 115 0) ≤ l2) → (((l2 = l1) → (c_Mo_isSaidBeside_2 d E Q l1 (l2 + 1) w)) ∧ ((¬ l2 = l1) → (vp_in l2 6 ∧ (vp_in l1 6 ∧ (((¬ (qi w 119 ((l2).toNatClampNeg)) = (qi w 119 ((l1).toNatClampNeg))) → (c_Mo_isSaidBeside_2 d E Q l1 (l2 + 1) w)) ∧ (((qi w 119 ((l2).toNatClampNeg)) = (qi w 119 ((l1).toNatClampNeg))) → (vp_in l2 6 ∧ (((¬ (qi w 120 ((l2).toNatClampNeg)) = 2) → (c_Mo_isSaidBeside_2 d E Q l1 (l2 + 1) w)) ∧ (((qi w 120 ((l2).toNatClampNeg)) = 2) → (Q w 1)))))))))))) : c_Mo_isSaidBeside_2 d E Q l1 l2 w := by
  unfold c_Mo_isSaidBeside_2
  refine g_iload_n 2 e_Mo_isSaidBeside_2 rfl rfl ?_
  refine g_aload_n 0 e_Mo_isSaidBeside_3 rfl rfl ?_
  refine gf_Mo_7 rfl e_Mo_isSaidBeside_4 hw lay_115 (by decide) ?_
  refine g_icmp_ge 48 e_Mo_isSaidBeside_7 (by decide) ⟨fun z1 => ?_, fun z1 => ?_⟩
  · have h := h.1 z1
    refine g_iconst (v := 0) e_Mo_isSaidBeside_48 (by decide) ?_
    exact g_zret e_Mo_isSaidBeside_49 rfl (Or.inl rfl) ⟨Sh.n hw, _, rfl, hw, h⟩
  · have h := h.2 z1
    refine g_iload_n 2 e_Mo_isSaidBeside_10 rfl rfl ?_
    refine g_iload_n 1 e_Mo_isSaidBeside_11 rfl rfl ?_
    refine g_icmp_eq 42 e_Mo_isSaidBeside_12 (by decide) ⟨fun z2 => ?_, fun z2 => ?_⟩
    · have h := h.1 z2
      refine g_iinc (v := (l2 + 1)) (lv := [(2, .int (l2 + 1)), (0, .ref (qb E + 115)), (1, .int l1)]) 2 e_Mo_isSaidBeside_42 rfl rfl (by decide) rfl ?_
      refine g_goto 2 e_Mo_isSaidBeside_45 (by decide) ?_
      refine g_loc [1, 2, 0] rfl ?_
      exact h
    · have h := h.2 z2
      refine g_aload_n 0 e_Mo_isSaidBeside_15 rfl rfl ?_
      refine gf_Mo_36 rfl e_Mo_isSaidBeside_16 hw lay_115 (by decide) (sh_Mo_whose hw) ?_
      refine g_iload_n 2 e_Mo_isSaidBeside_19 rfl rfl ?_
      obtain ⟨o3, h⟩ := h
      refine w_iaload ((l2).toNatClampNeg) e_Mo_isSaidBeside_20 hw lay_119 (by decide) o3 rfl ?_
      refine g_aload_n 0 e_Mo_isSaidBeside_21 rfl rfl ?_
      refine gf_Mo_36 rfl e_Mo_isSaidBeside_22 hw lay_115 (by decide) (sh_Mo_whose hw) ?_
      refine g_iload_n 1 e_Mo_isSaidBeside_25 rfl rfl ?_
      obtain ⟨o4, h⟩ := h
      refine w_iaload ((l1).toNatClampNeg) e_Mo_isSaidBeside_26 hw lay_119 (by decide) o4 rfl ?_
      refine g_icmp_ne 42 e_Mo_isSaidBeside_27 (by decide) ⟨fun z5 => ?_, fun z5 => ?_⟩
      · have h := h.1 z5
        refine g_iinc (v := (l2 + 1)) (lv := [(2, .int (l2 + 1)), (0, .ref (qb E + 115)), (1, .int l1)]) 2 e_Mo_isSaidBeside_42 rfl rfl (by decide) rfl ?_
        refine g_goto 2 e_Mo_isSaidBeside_45 (by decide) ?_
        refine g_loc [1, 2, 0] rfl ?_
        exact h
      · have h := h.2 z5
        refine g_aload_n 0 e_Mo_isSaidBeside_30 rfl rfl ?_
        refine gf_Mo_39 rfl e_Mo_isSaidBeside_31 hw lay_115 (by decide) (sh_Mo_lies hw) ?_
        refine g_iload_n 2 e_Mo_isSaidBeside_34 rfl rfl ?_
        obtain ⟨o6, h⟩ := h
        refine w_iaload ((l2).toNatClampNeg) e_Mo_isSaidBeside_35 hw lay_120 (by decide) o6 rfl ?_
        refine g_iconst (v := 2) e_Mo_isSaidBeside_36 (by decide) ?_
        refine g_icmp_ne 42 e_Mo_isSaidBeside_37 (by decide) ⟨fun z7 => ?_, fun z7 => ?_⟩
        · have h := h.1 z7
          refine g_iinc (v := (l2 + 1)) (lv := [(2, .int (l2 + 1)), (0, .ref (qb E + 115)), (1, .int l1)]) 2 e_Mo_isSaidBeside_42 rfl rfl (by decide) rfl ?_
          refine g_goto 2 e_Mo_isSaidBeside_45 (by decide) ?_
          refine g_loc [1, 2, 0] rfl ?_
          exact h
        · have h := h.2 z7
          refine g_iconst (v := 1) e_Mo_isSaidBeside_40 (by decide) ?_
          exact g_zret e_Mo_isSaidBeside_41 rfl (Or.inr rfl) ⟨Sh.n hw, _, rfl, hw, h⟩
theorem en_Mo_isSaidBeside {d : Nat} {E : qE} {Q : qW → Int32 → Prop} {a1 : Int32} {w : qW} (hw : Sh w) (h : c_Mo_isSaidBeside_0 d E Q a1 w) : CaI d M_Mo_isSaidBeside [.ref (qb E + 115), .int a1] E w Q := Ca.into hw rfl (Nat.le_of_ble_eq_true rfl) h
def c_Mo_gives_0 (d : Nat) (E : qE) (Q : qW → Int32 → Prop) (a1 : Int32) (w : qW) : Prop := Go (d + 3) M_Mo_gives E 161 161 (qFI Q) 0 [(0, .ref (qb E + 115)), (1, .int a1)] [] w
set_option maxHeartbeats 4000000 in
set_option maxRecDepth 8000 in
theorem s_Mo_gives_0 {d : Nat} {E : qE} {Q : qW → Int32 → Prop} {a1 : Int32} {w : qW} (hw : Sh w) (h : CaI (d + 2) M_Mo_sum [.ref (qb E + 115), .int a1] E w (fun w1 x1 => vp_in a1 6 ∧ (((qi w1 116 ((a1).toNatClampNeg)) = 1 → (vp_in a1 6 ∧ (Q w1 (x1 + (qi w1 117 ((a1).toNatClampNeg)))))) ∧ ((qi w1 116 ((a1).toNatClampNeg)) = 2 → (Q w1 (x1 / 2))) ∧ ((qi w1 116 ((a1).toNatClampNeg)) = 3 → (CaI (d + 2) M_Mo_isSaidBeside [.ref (qb E + 115), .int a1] E w1 (fun w5 x5 => ((x5 = 0) → (Q w5 x1)) ∧ ((¬ x5 = 0) → (Q w5 0))))) ∧ ((qi w1 116 ((a1).toNatClampNeg)) = 4 → ((((qi w1 115 1) ≤ 5) → (vp_in a1 6 ∧ (Q w1 (x1 + (qi w1 117 ((a1).toNatClampNeg)))))) ∧ ((¬ (qi w1 115 1) ≤ 5) → (vp_in a1 6 ∧ (Q w1 (2 * (x1 + (qi w1 117 ((a1).toNatClampNeg))))))))) ∧ ((qi w1 116 ((a1).toNatClampNeg)) = 5 → (vp_in a1 6 ∧ (CaI (d + 2) M_Mo_least [.ref (qb E + 115), .int (qi w1 121 ((a1).toNatClampNeg)), .int 9] E w1 (fun w11 x11 => Q w11 ((x1 / 2) + x11))))) ∧ ((qi w1 116 ((a1).toNatClampNeg)) = 6 → (CaI (d + 2) M_Mo_isSaidBeside [.ref (qb E + 115), .int a1] E w1 (fun w12 x12 => ((x12 = 0) → (vp_in ((4 * a1) + ((qi w12 115 3) - (qi w12 115 3) / 4 * 4)) 24 ∧ (Q w12 (x1 + (qi w12 122 (((4 * a1) + ((qi w12 115 3) - (qi w12 115 3) / 4 * 4)).toNatClampNeg)))))) ∧ ((¬ x12 = 0) → (vp_in ((4 * a1) + ((qi w12 115 3) - (qi w12 115 3) / 4 * 4)) 24 ∧ (Q w12 (0 + (qi w12 122 (((4 * a1) + ((qi w12 115 3) - (qi w12 115 3) / 4 * 4)).toNatClampNeg))))))))) ∧ (((qi w1 116 ((a1).toNatClampNeg)).toInt < 1 ∨ 6 < (qi w1 116 ((a1).toNatClampNeg)).toInt) → (Q w1 x1))))) : c_Mo_gives_0 d E Q a1 w := by
  unfold c_Mo_gives_0
  refine g_aload_n 0 e_Mo_gives_0 rfl rfl ?_
  refine g_iload_n 1 e_Mo_gives_1 rfl rfl ?_
  refine w_callVI (w := w) (As := [.int a1]) (rest := []) e_Mo_gives_2 ok_Mo_sum rfl km_Mo_331 kx_Mo_sum kv_Mo_sum rfl (by decide) hw lay_115 (by decide) rfl (Nat.le_of_ble_eq_true rfl) h (fun w1 x1 hw1 h => ?_)
  refine g_istore_n (lv := [(2, .int x1), (0, .ref (qb E + 115)), (1, .int a1)]) e_Mo_gives_5 rfl (by decide) rfl ?_
  refine g_aload_n 1 e_Mo_gives_6 rfl rfl ?_
  refine gf_Mo_26 rfl e_Mo_gives_7 hw1 lay_115 (by decide) (sh_Mo_kind hw1) ?_
  refine g_iload_n 2 e_Mo_gives_10 rfl rfl ?_
  obtain ⟨o2, h⟩ := h
  refine w_iaload ((a1).toNatClampNeg) e_Mo_gives_11 hw1 lay_116 (by decide) o2 rfl ?_
  refine g_table e_Mo_gives_12 6 (by decide) [52, 61, 65, 79, 109, 126] 156 (by decide) (by decide +kernel) ⟨fun j3 hj3 hx3 => ?_, fun hx3 => ?_⟩
  · rcases (show j3 = 0 ∨ j3 = 1 ∨ j3 = 2 ∨ j3 = 3 ∨ j3 = 4 ∨ j3 = 5 by omega) with rfl | rfl | rfl | rfl | rfl | rfl
    · have h := h.1 (q_key hx3 (by decide))
      change Go _ _ _ _ _ _ 52 _ _ _
      refine g_iload_n 0 e_Mo_gives_52 rfl rfl ?_
      refine g_aload_n 1 e_Mo_gives_53 rfl rfl ?_
      refine gf_Mo_30 rfl e_Mo_gives_54 hw1 lay_115 (by decide) (sh_Mo_v hw1) ?_
      refine g_iload_n 2 e_Mo_gives_57 rfl rfl ?_
      obtain ⟨o4, h⟩ := h
      refine w_iaload ((a1).toNatClampNeg) e_Mo_gives_58 hw1 lay_117 (by decide) o4 rfl ?_
      refine g_iadd e_Mo_gives_59 ?_
      exact g_iret e_Mo_gives_60 rfl ⟨Sh.n hw1, _, rfl, hw1, h⟩
    · have h := h.2.1 (q_key hx3 (by decide))
      change Go _ _ _ _ _ _ 61 _ _ _
      refine g_iload_n 0 e_Mo_gives_61 rfl rfl ?_
      refine g_iconst (v := 2) e_Mo_gives_62 (by decide) ?_
      refine g_idiv e_Mo_gives_63 (by decide) ?_
      exact g_iret e_Mo_gives_64 rfl ⟨Sh.n hw1, _, rfl, hw1, h⟩
    · have h := h.2.2.1 (q_key hx3 (by decide))
      change Go _ _ _ _ _ _ 65 _ _ _
      refine g_aload_n 1 e_Mo_gives_65 rfl rfl ?_
      refine g_iload_n 2 e_Mo_gives_66 rfl rfl ?_
      refine w_callVI (w := w1) (As := [.int a1]) (rest := []) e_Mo_gives_67 ok_Mo_isSaidBeside rfl km_Mo_334 kx_Mo_isSaidBeside kv_Mo_isSaidBeside rfl (by decide) hw1 lay_115 (by decide) rfl (Nat.le_of_ble_eq_true rfl) h (fun w5 x5 hw5 h => ?_)
      refine g_if_eq 77 e_Mo_gives_70 (by decide) ⟨fun z6 => ?_, fun z6 => ?_⟩
      · have h := h.1 z6
        refine g_iload_n 0 e_Mo_gives_77 rfl rfl ?_
        exact g_iret e_Mo_gives_78 rfl ⟨Sh.n hw5, _, rfl, hw5, h⟩
      · have h := h.2 z6
        refine g_iconst (v := 0) e_Mo_gives_73 (by decide) ?_
        refine g_goto 78 e_Mo_gives_74 (by decide) ?_
        exact g_iret e_Mo_gives_78 rfl ⟨Sh.n hw5, _, rfl, hw5, h⟩
    · have h := h.2.2.2.1 (q_key hx3 (by decide))
      change Go _ _ _ _ _ _ 79 _ _ _
      refine g_aload_n 1 e_Mo_gives_79 rfl rfl ?_
      refine gf_Mo_13 rfl e_Mo_gives_80 hw1 lay_115 (by decide) ?_
      refine g_iconst (v := 5) e_Mo_gives_83 (by decide) ?_
      refine g_icmp_le 100 e_Mo_gives_84 (by decide) ⟨fun z7 => ?_, fun z7 => ?_⟩
      · have h := h.1 z7
        refine g_iload_n 0 e_Mo_gives_100 rfl rfl ?_
        refine g_aload_n 1 e_Mo_gives_101 rfl rfl ?_
        refine gf_Mo_30 rfl e_Mo_gives_102 hw1 lay_115 (by decide) (sh_Mo_v hw1) ?_
        refine g_iload_n 2 e_Mo_gives_105 rfl rfl ?_
        obtain ⟨o8, h⟩ := h
        refine w_iaload ((a1).toNatClampNeg) e_Mo_gives_106 hw1 lay_117 (by decide) o8 rfl ?_
        refine g_iadd e_Mo_gives_107 ?_
        exact g_iret e_Mo_gives_108 rfl ⟨Sh.n hw1, _, rfl, hw1, h⟩
      · have h := h.2 z7
        refine g_iconst (v := 2) e_Mo_gives_87 (by decide) ?_
        refine g_iload_n 0 e_Mo_gives_88 rfl rfl ?_
        refine g_aload_n 1 e_Mo_gives_89 rfl rfl ?_
        refine gf_Mo_30 rfl e_Mo_gives_90 hw1 lay_115 (by decide) (sh_Mo_v hw1) ?_
        refine g_iload_n 2 e_Mo_gives_93 rfl rfl ?_
        obtain ⟨o9, h⟩ := h
        refine w_iaload ((a1).toNatClampNeg) e_Mo_gives_94 hw1 lay_117 (by decide) o9 rfl ?_
        refine g_iadd e_Mo_gives_95 ?_
        refine g_imul e_Mo_gives_96 ?_
        refine g_goto 108 e_Mo_gives_97 (by decide) ?_
        exact g_iret e_Mo_gives_108 rfl ⟨Sh.n hw1, _, rfl, hw1, h⟩
    · have h := h.2.2.2.2.1 (q_key hx3 (by decide))
      change Go _ _ _ _ _ _ 109 _ _ _
      refine g_iload_n 0 e_Mo_gives_109 rfl rfl ?_
      refine g_iconst (v := 2) e_Mo_gives_110 (by decide) ?_
      refine g_idiv e_Mo_gives_111 (by decide) ?_
      refine g_aload_n 1 e_Mo_gives_112 rfl rfl ?_
      refine g_aload_n 1 e_Mo_gives_113 rfl rfl ?_
      refine gf_Mo_42 rfl e_Mo_gives_114 hw1 lay_115 (by decide) (sh_Mo_time hw1) ?_
      refine g_iload_n 2 e_Mo_gives_117 rfl rfl ?_
      obtain ⟨o10, h⟩ := h
      refine w_iaload ((a1).toNatClampNeg) e_Mo_gives_118 hw1 lay_121 (by decide) o10 rfl ?_
      refine g_bipush (v := 9) e_Mo_gives_119 (by decide) ?_
      refine w_callVI (w := w1) (As := [.int (qi w1 121 ((a1).toNatClampNeg)), .int 9]) (rest := [.int (x1 / 2)]) e_Mo_gives_121 ok_Mo_least rfl km_Mo_337 kx_Mo_least kv_Mo_least rfl (by decide) hw1 lay_115 (by decide) rfl (Nat.le_of_ble_eq_true rfl) h (fun w11 x11 hw11 h => ?_)
      refine g_iadd e_Mo_gives_124 ?_
      exact g_iret e_Mo_gives_125 rfl ⟨Sh.n hw11, _, rfl, hw11, h⟩
    · have h := h.2.2.2.2.2.1 (q_key hx3 (by decide))
      change Go _ _ _ _ _ _ 126 _ _ _
      refine g_aload_n 1 e_Mo_gives_126 rfl rfl ?_
      refine g_iload_n 2 e_Mo_gives_127 rfl rfl ?_
      refine w_callVI (w := w1) (As := [.int a1]) (rest := []) e_Mo_gives_128 ok_Mo_isSaidBeside rfl km_Mo_334 kx_Mo_isSaidBeside kv_Mo_isSaidBeside rfl (by decide) hw1 lay_115 (by decide) rfl (Nat.le_of_ble_eq_true rfl) h (fun w12 x12 hw12 h => ?_)
      refine g_if_eq 138 e_Mo_gives_131 (by decide) ⟨fun z13 => ?_, fun z13 => ?_⟩
      · have h := h.1 z13
        refine g_iload_n 0 e_Mo_gives_138 rfl rfl ?_
        refine g_aload_n 1 e_Mo_gives_139 rfl rfl ?_
        refine gf_Mo_45 rfl e_Mo_gives_140 hw12 lay_115 (by decide) (sh_Mo_rows hw12) ?_
        refine g_iconst (v := 4) e_Mo_gives_143 (by decide) ?_
        refine g_iload_n 2 e_Mo_gives_144 rfl rfl ?_
        refine g_imul e_Mo_gives_145 ?_
        refine g_aload_n 1 e_Mo_gives_146 rfl rfl ?_
        refine gf_Mo_19 rfl e_Mo_gives_147 hw12 lay_115 (by decide) ?_
        refine g_iconst (v := 4) e_Mo_gives_150 (by decide) ?_
        refine g_irem e_Mo_gives_151 (by decide) ?_
        refine g_iadd e_Mo_gives_152 ?_
        obtain ⟨o14, h⟩ := h
        refine w_iaload (((4 * a1) + ((qi w12 115 3) - (qi w12 115 3) / 4 * 4)).toNatClampNeg) e_Mo_gives_153 hw12 lay_122 (by decide) o14 rfl ?_
        refine g_iadd e_Mo_gives_154 ?_
        exact g_iret e_Mo_gives_155 rfl ⟨Sh.n hw12, _, rfl, hw12, h⟩
      · have h := h.2 z13
        refine g_iconst (v := 0) e_Mo_gives_134 (by decide) ?_
        refine g_goto 139 e_Mo_gives_135 (by decide) ?_
        refine g_aload_n 1 e_Mo_gives_139 rfl rfl ?_
        refine gf_Mo_45 rfl e_Mo_gives_140 hw12 lay_115 (by decide) (sh_Mo_rows hw12) ?_
        refine g_iconst (v := 4) e_Mo_gives_143 (by decide) ?_
        refine g_iload_n 2 e_Mo_gives_144 rfl rfl ?_
        refine g_imul e_Mo_gives_145 ?_
        refine g_aload_n 1 e_Mo_gives_146 rfl rfl ?_
        refine gf_Mo_19 rfl e_Mo_gives_147 hw12 lay_115 (by decide) ?_
        refine g_iconst (v := 4) e_Mo_gives_150 (by decide) ?_
        refine g_irem e_Mo_gives_151 (by decide) ?_
        refine g_iadd e_Mo_gives_152 ?_
        obtain ⟨o15, h⟩ := h
        refine w_iaload (((4 * a1) + ((qi w12 115 3) - (qi w12 115 3) / 4 * 4)).toNatClampNeg) e_Mo_gives_153 hw12 lay_122 (by decide) o15 rfl ?_
        refine g_iadd e_Mo_gives_154 ?_
        exact g_iret e_Mo_gives_155 rfl ⟨Sh.n hw12, _, rfl, hw12, h⟩
  · have h := h.2.2.2.2.2.2 hx3
    refine g_iload_n 0 e_Mo_gives_156 rfl rfl ?_
    exact g_iret e_Mo_gives_157 rfl ⟨Sh.n hw1, _, rfl, hw1, h⟩
theorem en_Mo_gives {d : Nat} {E : qE} {Q : qW → Int32 → Prop} {a1 : Int32} {w : qW} (hw : Sh w) (h : c_Mo_gives_0 d E Q a1 w) : CaI (d + 3) M_Mo_gives [.ref (qb E + 115), .int a1] E w Q := Ca.into hw rfl (Nat.le_of_ble_eq_true rfl) h
def c_Mo_allGive_0 (d : Nat) (E : qE) (Q : qW → Int32 → Prop) (w : qW) : Prop := Go (d + 4) M_Mo_allGive E 161 161 (qFI Q) 0 [(0, .ref (qb E + 115))] [] w
def c_Mo_allGive_4 (d : Nat) (E : qE) (Q : qW → Int32 → Prop) (l1 : Int32) (l2 : Int32) (w : qW) : Prop := Go (d + 4) M_Mo_allGive E 161 161 (qFI Q) 4 [(0, .ref (qb E + 115)), (1, .int l1), (2, .int l2)] [] w
set_option maxHeartbeats 4000000 in
set_option maxRecDepth 8000 in
theorem s_Mo_allGive_0 {d : Nat} {E : qE} {Q : qW → Int32 → Prop} {w : qW} (hw : Sh w) (h : c_Mo_allGive_4 d E Q 0 0 w) : c_Mo_allGive_0 d E Q  w := by
  unfold c_Mo_allGive_0
  refine g_iconst (v := 0) e_Mo_allGive_0 (by decide) ?_
  refine g_istore_n (lv := [(1, .int 0), (0, .ref (qb E + 115))]) e_Mo_allGive_1 rfl (by decide) rfl ?_
  refine g_iconst (v := 0) e_Mo_allGive_2 (by decide) ?_
  refine g_istore_n (lv := [(2, .int 0), (1, .int 0), (0, .ref (qb E + 115))]) e_Mo_allGive_3 rfl (by decide) rfl ?_
  refine g_loc [2, 1, 0] rfl ?_
  exact h
set_option maxHeartbeats 4000000 in
set_option maxRecDepth 8000 in
theorem s_Mo_allGive_4 {d : Nat} {E : qE} {Q : qW → Int32 → Prop} {l1 : Int32} {l2 : Int32} {w : qW} (hw : Sh w) (h : (((qi w 115 0) ≤ l2) → (Q w l1)) ∧ ((¬ (qi w 115 0) ≤ l2) → (vp_in l2 6 ∧ (((¬ (qi w 120 ((l2).toNatClampNeg)) = 1) → (c_Mo_allGive_4 d E Q (l1 + 0) (l2 + 1) w)) ∧ (((qi w 120 ((l2).toNatClampNeg)) = 1) → (CaI (d + 3) M_Mo_gives [.ref (qb E + 115), .int l2] E w (fun w4 x4 => c_Mo_allGive_4 d E Q (l1 + x4) (l2 + 1) w4))))))) : c_Mo_allGive_4 d E Q l1 l2 w := by
  unfold c_Mo_allGive_4
  refine g_iload_n 2 e_Mo_allGive_4 rfl rfl ?_
  refine g_aload_n 0 e_Mo_allGive_5 rfl rfl ?_
  refine gf_Mo_7 rfl e_Mo_allGive_6 hw lay_115 (by decide) ?_
  refine g_icmp_ge 40 e_Mo_allGive_9 (by decide) ⟨fun z1 => ?_, fun z1 => ?_⟩
  · have h := h.1 z1
    refine g_iload_n 1 e_Mo_allGive_40 rfl rfl ?_
    exact g_iret e_Mo_allGive_41 rfl ⟨Sh.n hw, _, rfl, hw, h⟩
  · have h := h.2 z1
    refine g_iload_n 1 e_Mo_allGive_12 rfl rfl ?_
    refine g_aload_n 0 e_Mo_allGive_13 rfl rfl ?_
    refine gf_Mo_39 rfl e_Mo_allGive_14 hw lay_115 (by decide) (sh_Mo_lies hw) ?_
    refine g_iload_n 2 e_Mo_allGive_17 rfl rfl ?_
    obtain ⟨o2, h⟩ := h
    refine w_iaload ((l2).toNatClampNeg) e_Mo_allGive_18 hw lay_120 (by decide) o2 rfl ?_
    refine g_iconst (v := 1) e_Mo_allGive_19 (by decide) ?_
    refine g_icmp_ne 31 e_Mo_allGive_20 (by decide) ⟨fun z3 => ?_, fun z3 => ?_⟩
    · have h := h.1 z3
      refine g_iconst (v := 0) e_Mo_allGive_31 (by decide) ?_
      refine g_iadd e_Mo_allGive_32 ?_
      refine g_istore_n (lv := [(1, .int (l1 + 0)), (0, .ref (qb E + 115)), (2, .int l2)]) e_Mo_allGive_33 rfl (by decide) rfl ?_
      refine g_iinc (v := (l2 + 1)) (lv := [(2, .int (l2 + 1)), (1, .int (l1 + 0)), (0, .ref (qb E + 115))]) 2 e_Mo_allGive_34 rfl rfl (by decide) rfl ?_
      refine g_goto 4 e_Mo_allGive_37 (by decide) ?_
      refine g_loc [2, 1, 0] rfl ?_
      exact h
    · have h := h.2 z3
      refine g_aload_n 0 e_Mo_allGive_23 rfl rfl ?_
      refine g_iload_n 2 e_Mo_allGive_24 rfl rfl ?_
      refine w_callVI (w := w) (As := [.int l2]) (rest := [.int l1]) e_Mo_allGive_25 ok_Mo_gives rfl km_Mo_340 kx_Mo_gives kv_Mo_gives rfl (by decide) hw lay_115 (by decide) rfl (Nat.le_of_ble_eq_true rfl) h (fun w4 x4 hw4 h => ?_)
      refine g_goto 32 e_Mo_allGive_28 (by decide) ?_
      refine g_iadd e_Mo_allGive_32 ?_
      refine g_istore_n (lv := [(1, .int (l1 + x4)), (0, .ref (qb E + 115)), (2, .int l2)]) e_Mo_allGive_33 rfl (by decide) rfl ?_
      refine g_iinc (v := (l2 + 1)) (lv := [(2, .int (l2 + 1)), (1, .int (l1 + x4)), (0, .ref (qb E + 115))]) 2 e_Mo_allGive_34 rfl rfl (by decide) rfl ?_
      refine g_goto 4 e_Mo_allGive_37 (by decide) ?_
      refine g_loc [2, 1, 0] rfl ?_
      exact h
theorem en_Mo_allGive {d : Nat} {E : qE} {Q : qW → Int32 → Prop} {w : qW} (hw : Sh w) (h : c_Mo_allGive_0 d E Q  w) : CaI (d + 4) M_Mo_allGive [.ref (qb E + 115)] E w Q := Ca.into hw rfl (Nat.le_of_ble_eq_true rfl) h
def c_Mo_goMinute_0 (d : Nat) (E : qE) (Q : qW → Prop) (w : qW) : Prop := Go (d + 5) M_Mo_goMinute E 161 161 (qFV Q) 0 [(0, .ref (qb E + 115))] [] w
def c_Mo_goMinute_64 (d : Nat) (E : qE) (Q : qW → Prop) (l1 : Int32) (w : qW) : Prop := Go (d + 5) M_Mo_goMinute E 161 161 (qFV Q) 64 [(0, .ref (qb E + 115)), (1, .int l1)] [] w
set_option maxHeartbeats 4000000 in
set_option maxRecDepth 8000 in
theorem s_Mo_goMinute_0 {d : Nat} {E : qE} {Q : qW → Prop} {w : qW} (hw : Sh w) (h : ((¬ (qz (qi w 115 4)) = 0) → (c_Mo_goMinute_64 d E Q 0 w)) ∧ (((qz (qi w 115 4)) = 0) → (CaI (d + 4) M_Mo_allGive [.ref (qb E + 115)] E w (fun w2 x2 => ((0 ≤ ((qi w 115 2) + ((qi w 115 1) * x2))) → (CaI (d + 4) M_Mo_least [.ref (qb E + 115), .int ((qi w 115 2) + ((qi w 115 1) * x2)), .int 99999] E w2 (fun w4 x4 => CaI (d + 4) M_Mo_need [.ref (qb E + 115)] E (qpi w4 115 2 x4) (fun w5 x5 => (((qi (qpi w4 115 2 x4) 115 2) < x5) → (c_Mo_goMinute_64 d E Q 0 (qpi w5 115 4 0))) ∧ ((¬ (qi (qpi w4 115 2 x4) 115 2) < x5) → (c_Mo_goMinute_64 d E Q 0 (qpi w5 115 4 1))))))) ∧ ((¬ 0 ≤ ((qi w 115 2) + ((qi w 115 1) * x2))) → (CaI (d + 4) M_Mo_need [.ref (qb E + 115)] E (qpi w2 115 2 0) (fun w7 x7 => (((qi (qpi w2 115 2 0) 115 2) < x7) → (c_Mo_goMinute_64 d E Q 0 (qpi w7 115 4 0))) ∧ ((¬ (qi (qpi w2 115 2 0) 115 2) < x7) → (c_Mo_goMinute_64 d E Q 0 (qpi w7 115 4 1)))))))))) : c_Mo_goMinute_0 d E Q  w := by
  unfold c_Mo_goMinute_0
  refine g_aload_n 0 e_Mo_goMinute_0 rfl rfl ?_
  refine gf_Mo_22 rfl e_Mo_goMinute_1 hw lay_115 (by decide) ?_
  refine g_if_ne 62 e_Mo_goMinute_4 (by decide) ⟨fun z1 => ?_, fun z1 => ?_⟩
  · have h := h.1 z1
    refine g_iconst (v := 0) e_Mo_goMinute_62 (by decide) ?_
    refine g_istore_n (lv := [(1, .int 0), (0, .ref (qb E + 115))]) e_Mo_goMinute_63 rfl (by decide) rfl ?_
    refine g_loc [1, 0] rfl ?_
    exact h
  · have h := h.2 z1
    refine g_aload_n 0 e_Mo_goMinute_7 rfl rfl ?_
    refine gf_Mo_16 rfl e_Mo_goMinute_8 hw lay_115 (by decide) ?_
    refine g_aload_n 0 e_Mo_goMinute_11 rfl rfl ?_
    refine gf_Mo_13 rfl e_Mo_goMinute_12 hw lay_115 (by decide) ?_
    refine g_aload_n 0 e_Mo_goMinute_15 rfl rfl ?_
    refine w_callVI (w := w) (As := []) (rest := [.int (qi w 115 1), .int (qi w 115 2)]) e_Mo_goMinute_16 ok_Mo_allGive rfl km_Mo_343 kx_Mo_allGive kv_Mo_allGive rfl (by decide) hw lay_115 (by decide) rfl (Nat.le_of_ble_eq_true rfl) h (fun w2 x2 hw2 h => ?_)
    refine g_imul e_Mo_goMinute_19 ?_
    refine g_iadd e_Mo_goMinute_20 ?_
    refine g_istore_n (lv := [(1, .int ((qi w 115 2) + ((qi w 115 1) * x2))), (0, .ref (qb E + 115))]) e_Mo_goMinute_21 rfl (by decide) rfl ?_
    refine g_aload_n 1 e_Mo_goMinute_22 rfl rfl ?_
    refine g_iload_n 0 e_Mo_goMinute_23 rfl rfl ?_
    refine g_if_ge 31 e_Mo_goMinute_24 (by decide) ⟨fun z3 => ?_, fun z3 => ?_⟩
    · have h := h.1 z3
      refine g_aload_n 1 e_Mo_goMinute_31 rfl rfl ?_
      refine g_iload_n 0 e_Mo_goMinute_32 rfl rfl ?_
      refine g_ldcw (v := 99999) e_Mo_goMinute_33 kk_Mo_346 ?_
      refine w_callVI (w := w2) (As := [.int ((qi w 115 2) + ((qi w 115 1) * x2)), .int 99999]) (rest := [.ref (qb E + 115)]) e_Mo_goMinute_36 ok_Mo_least rfl km_Mo_337 kx_Mo_least kv_Mo_least rfl (by decide) hw2 lay_115 (by decide) rfl (Nat.le_of_ble_eq_true rfl) h (fun w4 x4 hw4 h => ?_)
      refine pf_Mo_16 rfl e_Mo_goMinute_39 hw4 lay_115 (by decide) ?_
      refine g_aload_n 1 e_Mo_goMinute_42 rfl rfl ?_
      refine g_aload_n 1 e_Mo_goMinute_43 rfl rfl ?_
      refine gf_Mo_16 rfl e_Mo_goMinute_44 hw4 lay_115 (by decide) ?_
      refine g_aload_n 1 e_Mo_goMinute_47 rfl rfl ?_
      refine w_callVI (w := (qpi w4 115 2 x4)) (As := []) (rest := [.int (qi (qpi w4 115 2 x4) 115 2), .ref (qb E + 115)]) e_Mo_goMinute_48 ok_Mo_need rfl km_Mo_347 kx_Mo_need kv_Mo_need rfl (by decide) hw4 lay_115 (by decide) rfl (Nat.le_of_ble_eq_true rfl) h (fun w5 x5 hw5 h => ?_)
      refine g_icmp_lt 58 e_Mo_goMinute_51 (by decide) ⟨fun z6 => ?_, fun z6 => ?_⟩
      · have h := h.1 z6
        refine g_iconst (v := 0) e_Mo_goMinute_58 (by decide) ?_
        refine pf_Mo_22 rfl e_Mo_goMinute_59 hw5 lay_115 (by decide) (Or.inl rfl) ?_
        refine g_iconst (v := 0) e_Mo_goMinute_62 (by decide) ?_
        refine g_istore_n (lv := [(1, .int 0), (0, .ref (qb E + 115))]) e_Mo_goMinute_63 rfl (by decide) rfl ?_
        refine g_loc [1, 0] rfl ?_
        exact h
      · have h := h.2 z6
        refine g_iconst (v := 1) e_Mo_goMinute_54 (by decide) ?_
        refine g_goto 59 e_Mo_goMinute_55 (by decide) ?_
        refine pf_Mo_22 rfl e_Mo_goMinute_59 hw5 lay_115 (by decide) (Or.inr rfl) ?_
        refine g_iconst (v := 0) e_Mo_goMinute_62 (by decide) ?_
        refine g_istore_n (lv := [(1, .int 0), (0, .ref (qb E + 115))]) e_Mo_goMinute_63 rfl (by decide) rfl ?_
        refine g_loc [1, 0] rfl ?_
        exact h
    · have h := h.2 z3
      refine g_iconst (v := 0) e_Mo_goMinute_27 (by decide) ?_
      refine g_goto 39 e_Mo_goMinute_28 (by decide) ?_
      refine pf_Mo_16 rfl e_Mo_goMinute_39 hw2 lay_115 (by decide) ?_
      refine g_aload_n 1 e_Mo_goMinute_42 rfl rfl ?_
      refine g_aload_n 1 e_Mo_goMinute_43 rfl rfl ?_
      refine gf_Mo_16 rfl e_Mo_goMinute_44 hw2 lay_115 (by decide) ?_
      refine g_aload_n 1 e_Mo_goMinute_47 rfl rfl ?_
      refine w_callVI (w := (qpi w2 115 2 0)) (As := []) (rest := [.int (qi (qpi w2 115 2 0) 115 2), .ref (qb E + 115)]) e_Mo_goMinute_48 ok_Mo_need rfl km_Mo_347 kx_Mo_need kv_Mo_need rfl (by decide) hw2 lay_115 (by decide) rfl (Nat.le_of_ble_eq_true rfl) h (fun w7 x7 hw7 h => ?_)
      refine g_icmp_lt 58 e_Mo_goMinute_51 (by decide) ⟨fun z8 => ?_, fun z8 => ?_⟩
      · have h := h.1 z8
        refine g_iconst (v := 0) e_Mo_goMinute_58 (by decide) ?_
        refine pf_Mo_22 rfl e_Mo_goMinute_59 hw7 lay_115 (by decide) (Or.inl rfl) ?_
        refine g_iconst (v := 0) e_Mo_goMinute_62 (by decide) ?_
        refine g_istore_n (lv := [(1, .int 0), (0, .ref (qb E + 115))]) e_Mo_goMinute_63 rfl (by decide) rfl ?_
        refine g_loc [1, 0] rfl ?_
        exact h
      · have h := h.2 z8
        refine g_iconst (v := 1) e_Mo_goMinute_54 (by decide) ?_
        refine g_goto 59 e_Mo_goMinute_55 (by decide) ?_
        refine pf_Mo_22 rfl e_Mo_goMinute_59 hw7 lay_115 (by decide) (Or.inr rfl) ?_
        refine g_iconst (v := 0) e_Mo_goMinute_62 (by decide) ?_
        refine g_istore_n (lv := [(1, .int 0), (0, .ref (qb E + 115))]) e_Mo_goMinute_63 rfl (by decide) rfl ?_
        refine g_loc [1, 0] rfl ?_
        exact h
set_option maxHeartbeats 4000000 in
set_option maxRecDepth 8000 in
theorem s_Mo_goMinute_64 {d : Nat} {E : qE} {Q : qW → Prop} {l1 : Int32} {w : qW} (hw : Sh w) (h : (((qi w 115 0) ≤ l1) → (Q (qpi w 115 3 ((qi w 115 3) + 1)))) ∧ ((¬ (qi w 115 0) ≤ l1) → (vp_in l1 6 ∧ (((¬ (qi w 120 ((l1).toNatClampNeg)) = 1) → (c_Mo_goMinute_64 d E Q (l1 + 1) w)) ∧ (((qi w 120 ((l1).toNatClampNeg)) = 1) → (vp_in l1 6 ∧ (CaI (d + 4) M_Mo_least [.ref (qb E + 115), .int ((qi w 121 ((l1).toNatClampNeg)) + 1), .int (qi w 115 30)] E w (fun w5 x5 => vp_in l1 6 ∧ (c_Mo_goMinute_64 d E Q (l1 + 1) (qpi w5 121 ((l1).toNatClampNeg) x5)))))))))) : c_Mo_goMinute_64 d E Q l1 w := by
  unfold c_Mo_goMinute_64
  refine g_iload_n 1 e_Mo_goMinute_64 rfl rfl ?_
  refine g_aload_n 0 e_Mo_goMinute_65 rfl rfl ?_
  refine gf_Mo_7 rfl e_Mo_goMinute_66 hw lay_115 (by decide) ?_
  refine g_icmp_ge 110 e_Mo_goMinute_69 (by decide) ⟨fun z1 => ?_, fun z1 => ?_⟩
  · have h := h.1 z1
    refine g_aload_n 0 e_Mo_goMinute_110 rfl rfl ?_
    refine g_dup e_Mo_goMinute_111 rfl ?_
    refine gf_Mo_19 rfl e_Mo_goMinute_112 hw lay_115 (by decide) ?_
    refine g_iconst (v := 1) e_Mo_goMinute_115 (by decide) ?_
    refine g_iadd e_Mo_goMinute_116 ?_
    refine pf_Mo_19 rfl e_Mo_goMinute_117 hw lay_115 (by decide) ?_
    exact g_vret e_Mo_goMinute_120 rfl ⟨Sh.n hw, rfl, hw, h⟩
  · have h := h.2 z1
    refine g_aload_n 0 e_Mo_goMinute_72 rfl rfl ?_
    refine gf_Mo_39 rfl e_Mo_goMinute_73 hw lay_115 (by decide) (sh_Mo_lies hw) ?_
    refine g_iload_n 1 e_Mo_goMinute_76 rfl rfl ?_
    obtain ⟨o2, h⟩ := h
    refine w_iaload ((l1).toNatClampNeg) e_Mo_goMinute_77 hw lay_120 (by decide) o2 rfl ?_
    refine g_iconst (v := 1) e_Mo_goMinute_78 (by decide) ?_
    refine g_icmp_ne 104 e_Mo_goMinute_79 (by decide) ⟨fun z3 => ?_, fun z3 => ?_⟩
    · have h := h.1 z3
      refine g_iinc (v := (l1 + 1)) (lv := [(1, .int (l1 + 1)), (0, .ref (qb E + 115))]) 1 e_Mo_goMinute_104 rfl rfl (by decide) rfl ?_
      refine g_goto 64 e_Mo_goMinute_107 (by decide) ?_
      refine g_loc [1, 0] rfl ?_
      exact h
    · have h := h.2 z3
      refine g_aload_n 0 e_Mo_goMinute_82 rfl rfl ?_
      refine gf_Mo_42 rfl e_Mo_goMinute_83 hw lay_115 (by decide) (sh_Mo_time hw) ?_
      refine g_iload_n 1 e_Mo_goMinute_86 rfl rfl ?_
      refine g_aload_n 0 e_Mo_goMinute_87 rfl rfl ?_
      refine g_aload_n 0 e_Mo_goMinute_88 rfl rfl ?_
      refine gf_Mo_42 rfl e_Mo_goMinute_89 hw lay_115 (by decide) (sh_Mo_time hw) ?_
      refine g_iload_n 1 e_Mo_goMinute_92 rfl rfl ?_
      obtain ⟨o4, h⟩ := h
      refine w_iaload ((l1).toNatClampNeg) e_Mo_goMinute_93 hw lay_121 (by decide) o4 rfl ?_
      refine g_iconst (v := 1) e_Mo_goMinute_94 (by decide) ?_
      refine g_iadd e_Mo_goMinute_95 ?_
      refine g_aload_n 0 e_Mo_goMinute_96 rfl rfl ?_
      refine gf_Mo_103 rfl e_Mo_goMinute_97 hw lay_115 (by decide) ?_
      refine w_callVI (w := w) (As := [.int ((qi w 121 ((l1).toNatClampNeg)) + 1), .int (qi w 115 30)]) (rest := [.int l1, .ref (qb E + 121)]) e_Mo_goMinute_100 ok_Mo_least rfl km_Mo_337 kx_Mo_least kv_Mo_least rfl (by decide) hw lay_115 (by decide) rfl (Nat.le_of_ble_eq_true rfl) h (fun w5 x5 hw5 h => ?_)
      obtain ⟨o6, h⟩ := h
      refine w_iastore ((l1).toNatClampNeg) e_Mo_goMinute_103 hw5 lay_121 (by decide) o6 rfl ?_
      refine g_iinc (v := (l1 + 1)) (lv := [(1, .int (l1 + 1)), (0, .ref (qb E + 115))]) 1 e_Mo_goMinute_104 rfl rfl (by decide) rfl ?_
      refine g_goto 64 e_Mo_goMinute_107 (by decide) ?_
      refine g_loc [1, 0] rfl ?_
      exact h
theorem en_Mo_goMinute {d : Nat} {E : qE} {Q : qW → Prop} {w : qW} (hw : Sh w) (h : c_Mo_goMinute_0 d E Q  w) : CaV (d + 5) M_Mo_goMinute [.ref (qb E + 115)] E w Q := Ca.into hw rfl (Nat.le_of_ble_eq_true rfl) h
def c_Mo_goMinutes_0 (d : Nat) (E : qE) (Q : qW → Prop) (a1 : Int32) (w : qW) : Prop := Go (d + 6) M_Mo_goMinutes E 161 161 (qFV Q) 0 [(0, .ref (qb E + 115)), (1, .int a1)] [] w
def c_Mo_goMinutes_2 (d : Nat) (E : qE) (Q : qW → Prop) (l1 : Int32) (l2 : Int32) (w : qW) : Prop := Go (d + 6) M_Mo_goMinutes E 161 161 (qFV Q) 2 [(0, .ref (qb E + 115)), (1, .int l1), (2, .int l2)] [] w
set_option maxHeartbeats 4000000 in
set_option maxRecDepth 8000 in
theorem s_Mo_goMinutes_0 {d : Nat} {E : qE} {Q : qW → Prop} {a1 : Int32} {w : qW} (hw : Sh w) (h : c_Mo_goMinutes_2 d E Q a1 0 w) : c_Mo_goMinutes_0 d E Q a1 w := by
  unfold c_Mo_goMinutes_0
  refine g_iconst (v := 0) e_Mo_goMinutes_0 (by decide) ?_
  refine g_istore_n (lv := [(2, .int 0), (0, .ref (qb E + 115)), (1, .int a1)]) e_Mo_goMinutes_1 rfl (by decide) rfl ?_
  refine g_loc [1, 2, 0] rfl ?_
  exact h
set_option maxHeartbeats 4000000 in
set_option maxRecDepth 8000 in
theorem s_Mo_goMinutes_2 {d : Nat} {E : qE} {Q : qW → Prop} {l1 : Int32} {l2 : Int32} {w : qW} (hw : Sh w) (h : ((l1 ≤ l2) → (Q w)) ∧ ((¬ l1 ≤ l2) → (CaV (d + 5) M_Mo_goMinute [.ref (qb E + 115)] E w (fun w2 => c_Mo_goMinutes_2 d E Q l1 (l2 + 1) w2)))) : c_Mo_goMinutes_2 d E Q l1 l2 w := by
  unfold c_Mo_goMinutes_2
  refine g_iload_n 2 e_Mo_goMinutes_2 rfl rfl ?_
  refine g_iload_n 1 e_Mo_goMinutes_3 rfl rfl ?_
  refine g_icmp_ge 17 e_Mo_goMinutes_4 (by decide) ⟨fun z1 => ?_, fun z1 => ?_⟩
  · have h := h.1 z1
    exact g_vret e_Mo_goMinutes_17 rfl ⟨Sh.n hw, rfl, hw, h⟩
  · have h := h.2 z1
    refine g_aload_n 0 e_Mo_goMinutes_7 rfl rfl ?_
    refine w_callVV (w := w) (As := []) (rest := []) e_Mo_goMinutes_8 ok_Mo_goMinute rfl km_Mo_350 kx_Mo_goMinute kv_Mo_goMinute rfl (by decide) hw lay_115 (by decide) rfl (Nat.le_of_ble_eq_true rfl) h (fun w2 hw2 h => ?_)
    refine g_iinc (v := (l2 + 1)) (lv := [(2, .int (l2 + 1)), (0, .ref (qb E + 115)), (1, .int l1)]) 2 e_Mo_goMinutes_11 rfl rfl (by decide) rfl ?_
    refine g_goto 2 e_Mo_goMinutes_14 (by decide) ?_
    refine g_loc [1, 2, 0] rfl ?_
    exact h
theorem en_Mo_goMinutes {d : Nat} {E : qE} {Q : qW → Prop} {a1 : Int32} {w : qW} (hw : Sh w) (h : c_Mo_goMinutes_0 d E Q a1 w) : CaV (d + 6) M_Mo_goMinutes [.ref (qb E + 115), .int a1] E w Q := Ca.into hw rfl (Nat.le_of_ble_eq_true rfl) h
def c_Mo_pass_0 (d : Nat) (E : qE) (Q : qW → Int32 → Prop) (a1 : Int32) (w : qW) : Prop := Go (d + 7) M_Mo_pass E 161 161 (qFI Q) 0 [(0, .ref (qb E + 115)), (1, .int a1)] [] w
set_option maxHeartbeats 4000000 in
set_option maxRecDepth 8000 in
theorem s_Mo_pass_0 {d : Nat} {E : qE} {Q : qW → Int32 → Prop} {a1 : Int32} {w : qW} (hw : Sh w) (h : CaI (d + 6) M_Mo_isMinutes [.ref (qb E + 115), .int a1] E w (fun w1 x1 => ((¬ x1 = 0) → (((((qi w1 115 3) + a1) ≤ 9999) → (CaV (d + 6) M_Mo_goMinutes [.ref (qb E + 115), .int a1] E w1 (fun w4 => Q w4 (qi w4 115 3)))) ∧ ((¬ ((qi w1 115 3) + a1) ≤ 9999) → (Q w1 (-3))))) ∧ ((x1 = 0) → (Q w1 (-2))))) : c_Mo_pass_0 d E Q a1 w := by
  unfold c_Mo_pass_0
  refine g_aload_n 0 e_Mo_pass_0 rfl rfl ?_
  refine g_iload_n 1 e_Mo_pass_1 rfl rfl ?_
  refine w_callVI (w := w) (As := [.int a1]) (rest := []) e_Mo_pass_2 ok_Mo_isMinutes rfl km_Mo_353 kx_Mo_isMinutes kv_Mo_isMinutes rfl (by decide) hw lay_115 (by decide) rfl (Nat.le_of_ble_eq_true rfl) h (fun w1 x1 hw1 h => ?_)
  refine g_if_ne 11 e_Mo_pass_5 (by decide) ⟨fun z2 => ?_, fun z2 => ?_⟩
  · have h := h.1 z2
    refine g_aload_n 0 e_Mo_pass_11 rfl rfl ?_
    refine gf_Mo_19 rfl e_Mo_pass_12 hw1 lay_115 (by decide) ?_
    refine g_iload_n 1 e_Mo_pass_15 rfl rfl ?_
    refine g_iadd e_Mo_pass_16 ?_
    refine g_sipush (v := 9999) e_Mo_pass_17 (by decide) ?_
    refine g_icmp_le 26 e_Mo_pass_20 (by decide) ⟨fun z3 => ?_, fun z3 => ?_⟩
    · have h := h.1 z3
      refine g_aload_n 0 e_Mo_pass_26 rfl rfl ?_
      refine g_iload_n 1 e_Mo_pass_27 rfl rfl ?_
      refine w_callVV (w := w1) (As := [.int a1]) (rest := []) e_Mo_pass_28 ok_Mo_goMinutes rfl km_Mo_356 kx_Mo_goMinutes kv_Mo_goMinutes rfl (by decide) hw1 lay_115 (by decide) rfl (Nat.le_of_ble_eq_true rfl) h (fun w4 hw4 h => ?_)
      refine g_aload_n 0 e_Mo_pass_31 rfl rfl ?_
      refine gf_Mo_19 rfl e_Mo_pass_32 hw4 lay_115 (by decide) ?_
      exact g_iret e_Mo_pass_35 rfl ⟨Sh.n hw4, _, rfl, hw4, h⟩
    · have h := h.2 z3
      refine g_bipush (v := (-3)) e_Mo_pass_23 (by decide) ?_
      exact g_iret e_Mo_pass_25 rfl ⟨Sh.n hw1, _, rfl, hw1, h⟩
  · have h := h.2 z2
    refine g_bipush (v := (-2)) e_Mo_pass_8 (by decide) ?_
    exact g_iret e_Mo_pass_10 rfl ⟨Sh.n hw1, _, rfl, hw1, h⟩
theorem en_Mo_pass {d : Nat} {E : qE} {Q : qW → Int32 → Prop} {a1 : Int32} {w : qW} (hw : Sh w) (h : c_Mo_pass_0 d E Q a1 w) : CaI (d + 7) M_Mo_pass [.ref (qb E + 115), .int a1] E w Q := Ca.into hw rfl (Nat.le_of_ble_eq_true rfl) h
def c_Mo_save_0 (d : Nat) (E : qE) (Q : qW → Prop) (w : qW) : Prop := Go d M_Mo_save E 161 161 (qFV Q) 0 [(0, .ref (qb E + 115))] [] w
def c_Mo_save_41 (d : Nat) (E : qE) (Q : qW → Prop) (l1 : Int32) (w : qW) : Prop := Go d M_Mo_save E 161 161 (qFV Q) 41 [(0, .ref (qb E + 115)), (1, .int l1)] [] w
set_option maxHeartbeats 4000000 in
set_option maxRecDepth 8000 in
theorem s_Mo_save_0 {d : Nat} {E : qE} {Q : qW → Prop} {w : qW} (hw : Sh w) (h : c_Mo_save_41 d E Q 0 (qpi (qpi (qpi (qpi (qpi w 115 30 2000000000) 115 31 (qi (qpi w 115 30 2000000000) 115 1)) 115 32 (qi (qpi (qpi w 115 30 2000000000) 115 31 (qi (qpi w 115 30 2000000000) 115 1)) 115 2)) 115 33 (qi (qpi (qpi (qpi w 115 30 2000000000) 115 31 (qi (qpi w 115 30 2000000000) 115 1)) 115 32 (qi (qpi (qpi w 115 30 2000000000) 115 31 (qi (qpi w 115 30 2000000000) 115 1)) 115 2)) 115 3)) 115 34 (qz (qi (qpi (qpi (qpi (qpi w 115 30 2000000000) 115 31 (qi (qpi w 115 30 2000000000) 115 1)) 115 32 (qi (qpi (qpi w 115 30 2000000000) 115 31 (qi (qpi w 115 30 2000000000) 115 1)) 115 2)) 115 33 (qi (qpi (qpi (qpi w 115 30 2000000000) 115 31 (qi (qpi w 115 30 2000000000) 115 1)) 115 32 (qi (qpi (qpi w 115 30 2000000000) 115 31 (qi (qpi w 115 30 2000000000) 115 1)) 115 2)) 115 3)) 115 4)))) : c_Mo_save_0 d E Q  w := by
  unfold c_Mo_save_0
  refine g_aload_n 0 e_Mo_save_0 rfl rfl ?_
  refine g_ldcw (v := 2000000000) e_Mo_save_1 kk_Mo_359 ?_
  refine pf_Mo_103 rfl e_Mo_save_4 hw lay_115 (by decide) ?_
  refine g_aload_n 0 e_Mo_save_7 rfl rfl ?_
  refine g_aload_n 0 e_Mo_save_8 rfl rfl ?_
  refine gf_Mo_13 rfl e_Mo_save_9 hw lay_115 (by decide) ?_
  refine pf_Mo_106 rfl e_Mo_save_12 hw lay_115 (by decide) ?_
  refine g_aload_n 0 e_Mo_save_15 rfl rfl ?_
  refine g_aload_n 0 e_Mo_save_16 rfl rfl ?_
  refine gf_Mo_16 rfl e_Mo_save_17 hw lay_115 (by decide) ?_
  refine pf_Mo_109 rfl e_Mo_save_20 hw lay_115 (by decide) ?_
  refine g_aload_n 0 e_Mo_save_23 rfl rfl ?_
  refine g_aload_n 0 e_Mo_save_24 rfl rfl ?_
  refine gf_Mo_19 rfl e_Mo_save_25 hw lay_115 (by decide) ?_
  refine pf_Mo_112 rfl e_Mo_save_28 hw lay_115 (by decide) ?_
  refine g_aload_n 0 e_Mo_save_31 rfl rfl ?_
  refine g_aload_n 0 e_Mo_save_32 rfl rfl ?_
  refine gf_Mo_22 rfl e_Mo_save_33 hw lay_115 (by decide) ?_
  refine pf_Mo_115 rfl e_Mo_save_36 hw lay_115 (by decide) (qz_01 _) ?_
  refine g_iconst (v := 0) e_Mo_save_39 (by decide) ?_
  refine g_istore_n (lv := [(1, .int 0), (0, .ref (qb E + 115))]) e_Mo_save_40 rfl (by decide) rfl ?_
  refine g_loc [1, 0] rfl ?_
  exact h
set_option maxHeartbeats 4000000 in
set_option maxRecDepth 8000 in
theorem s_Mo_save_41 {d : Nat} {E : qE} {Q : qW → Prop} {l1 : Int32} {w : qW} (hw : Sh w) (h : ((6 ≤ l1) → (Q w)) ∧ ((¬ 6 ≤ l1) → (vp_in l1 6 ∧ (vp_in l1 6 ∧ (vp_in l1 6 ∧ (vp_in l1 6 ∧ (c_Mo_save_41 d E Q (l1 + 1) (qpi (qpi w 133 ((l1).toNatClampNeg) (qi w 120 ((l1).toNatClampNeg))) 134 ((l1).toNatClampNeg) (qi (qpi w 133 ((l1).toNatClampNeg) (qi w 120 ((l1).toNatClampNeg))) 121 ((l1).toNatClampNeg)))))))))) : c_Mo_save_41 d E Q l1 w := by
  unfold c_Mo_save_41
  refine g_iload_n 1 e_Mo_save_41 rfl rfl ?_
  refine g_bipush (v := 6) e_Mo_save_42 (by decide) ?_
  refine g_icmp_ge 77 e_Mo_save_44 (by decide) ⟨fun z1 => ?_, fun z1 => ?_⟩
  · have h := h.1 z1
    exact g_vret e_Mo_save_77 rfl ⟨Sh.n hw, rfl, hw, h⟩
  · have h := h.2 z1
    refine g_aload_n 0 e_Mo_save_47 rfl rfl ?_
    refine gf_Mo_118 rfl e_Mo_save_48 hw lay_115 (by decide) (sh_Mo_keptLies hw) ?_
    refine g_iload_n 1 e_Mo_save_51 rfl rfl ?_
    refine g_aload_n 0 e_Mo_save_52 rfl rfl ?_
    refine gf_Mo_39 rfl e_Mo_save_53 hw lay_115 (by decide) (sh_Mo_lies hw) ?_
    refine g_iload_n 1 e_Mo_save_56 rfl rfl ?_
    obtain ⟨o2, h⟩ := h
    refine w_iaload ((l1).toNatClampNeg) e_Mo_save_57 hw lay_120 (by decide) o2 rfl ?_
    obtain ⟨o3, h⟩ := h
    refine w_iastore ((l1).toNatClampNeg) e_Mo_save_58 hw lay_133 (by decide) o3 rfl ?_
    refine g_aload_n 0 e_Mo_save_59 rfl rfl ?_
    refine gf_Mo_121 rfl e_Mo_save_60 hw lay_115 (by decide) (sh_Mo_keptTime hw) ?_
    refine g_iload_n 1 e_Mo_save_63 rfl rfl ?_
    refine g_aload_n 0 e_Mo_save_64 rfl rfl ?_
    refine gf_Mo_42 rfl e_Mo_save_65 hw lay_115 (by decide) (sh_Mo_time hw) ?_
    refine g_iload_n 1 e_Mo_save_68 rfl rfl ?_
    obtain ⟨o4, h⟩ := h
    refine w_iaload ((l1).toNatClampNeg) e_Mo_save_69 hw lay_121 (by decide) o4 rfl ?_
    obtain ⟨o5, h⟩ := h
    refine w_iastore ((l1).toNatClampNeg) e_Mo_save_70 hw lay_134 (by decide) o5 rfl ?_
    refine g_iinc (v := (l1 + 1)) (lv := [(1, .int (l1 + 1)), (0, .ref (qb E + 115))]) 1 e_Mo_save_71 rfl rfl (by decide) rfl ?_
    refine g_goto 41 e_Mo_save_74 (by decide) ?_
    refine g_loc [1, 0] rfl ?_
    exact h
theorem en_Mo_save {d : Nat} {E : qE} {Q : qW → Prop} {w : qW} (hw : Sh w) (h : c_Mo_save_0 d E Q  w) : CaV d M_Mo_save [.ref (qb E + 115)] E w Q := Ca.into hw rfl (Nat.le_of_ble_eq_true rfl) h
def c_Mo_putBack_0 (d : Nat) (E : qE) (Q : qW → Prop) (w : qW) : Prop := Go d M_Mo_putBack E 161 161 (qFV Q) 0 [(0, .ref (qb E + 115))] [] w
def c_Mo_putBack_41 (d : Nat) (E : qE) (Q : qW → Prop) (l1 : Int32) (w : qW) : Prop := Go d M_Mo_putBack E 161 161 (qFV Q) 41 [(0, .ref (qb E + 115)), (1, .int l1)] [] w
set_option maxHeartbeats 4000000 in
set_option maxRecDepth 8000 in
theorem s_Mo_putBack_0 {d : Nat} {E : qE} {Q : qW → Prop} {w : qW} (hw : Sh w) (h : c_Mo_putBack_41 d E Q 0 (qpi (qpi (qpi (qpi (qpi w 115 30 9999) 115 1 (qi (qpi w 115 30 9999) 115 31)) 115 2 (qi (qpi (qpi w 115 30 9999) 115 1 (qi (qpi w 115 30 9999) 115 31)) 115 32)) 115 3 (qi (qpi (qpi (qpi w 115 30 9999) 115 1 (qi (qpi w 115 30 9999) 115 31)) 115 2 (qi (qpi (qpi w 115 30 9999) 115 1 (qi (qpi w 115 30 9999) 115 31)) 115 32)) 115 33)) 115 4 (qz (qi (qpi (qpi (qpi (qpi w 115 30 9999) 115 1 (qi (qpi w 115 30 9999) 115 31)) 115 2 (qi (qpi (qpi w 115 30 9999) 115 1 (qi (qpi w 115 30 9999) 115 31)) 115 32)) 115 3 (qi (qpi (qpi (qpi w 115 30 9999) 115 1 (qi (qpi w 115 30 9999) 115 31)) 115 2 (qi (qpi (qpi w 115 30 9999) 115 1 (qi (qpi w 115 30 9999) 115 31)) 115 32)) 115 33)) 115 34)))) : c_Mo_putBack_0 d E Q  w := by
  unfold c_Mo_putBack_0
  refine g_aload_n 0 e_Mo_putBack_0 rfl rfl ?_
  refine g_sipush (v := 9999) e_Mo_putBack_1 (by decide) ?_
  refine pf_Mo_103 rfl e_Mo_putBack_4 hw lay_115 (by decide) ?_
  refine g_aload_n 0 e_Mo_putBack_7 rfl rfl ?_
  refine g_aload_n 0 e_Mo_putBack_8 rfl rfl ?_
  refine gf_Mo_106 rfl e_Mo_putBack_9 hw lay_115 (by decide) ?_
  refine pf_Mo_13 rfl e_Mo_putBack_12 hw lay_115 (by decide) ?_
  refine g_aload_n 0 e_Mo_putBack_15 rfl rfl ?_
  refine g_aload_n 0 e_Mo_putBack_16 rfl rfl ?_
  refine gf_Mo_109 rfl e_Mo_putBack_17 hw lay_115 (by decide) ?_
  refine pf_Mo_16 rfl e_Mo_putBack_20 hw lay_115 (by decide) ?_
  refine g_aload_n 0 e_Mo_putBack_23 rfl rfl ?_
  refine g_aload_n 0 e_Mo_putBack_24 rfl rfl ?_
  refine gf_Mo_112 rfl e_Mo_putBack_25 hw lay_115 (by decide) ?_
  refine pf_Mo_19 rfl e_Mo_putBack_28 hw lay_115 (by decide) ?_
  refine g_aload_n 0 e_Mo_putBack_31 rfl rfl ?_
  refine g_aload_n 0 e_Mo_putBack_32 rfl rfl ?_
  refine gf_Mo_115 rfl e_Mo_putBack_33 hw lay_115 (by decide) ?_
  refine pf_Mo_22 rfl e_Mo_putBack_36 hw lay_115 (by decide) (qz_01 _) ?_
  refine g_iconst (v := 0) e_Mo_putBack_39 (by decide) ?_
  refine g_istore_n (lv := [(1, .int 0), (0, .ref (qb E + 115))]) e_Mo_putBack_40 rfl (by decide) rfl ?_
  refine g_loc [1, 0] rfl ?_
  exact h
set_option maxHeartbeats 4000000 in
set_option maxRecDepth 8000 in
theorem s_Mo_putBack_41 {d : Nat} {E : qE} {Q : qW → Prop} {l1 : Int32} {w : qW} (hw : Sh w) (h : ((6 ≤ l1) → (Q w)) ∧ ((¬ 6 ≤ l1) → (vp_in l1 6 ∧ (vp_in l1 6 ∧ (vp_in l1 6 ∧ (vp_in l1 6 ∧ (c_Mo_putBack_41 d E Q (l1 + 1) (qpi (qpi w 120 ((l1).toNatClampNeg) (qi w 133 ((l1).toNatClampNeg))) 121 ((l1).toNatClampNeg) (qi (qpi w 120 ((l1).toNatClampNeg) (qi w 133 ((l1).toNatClampNeg))) 134 ((l1).toNatClampNeg)))))))))) : c_Mo_putBack_41 d E Q l1 w := by
  unfold c_Mo_putBack_41
  refine g_iload_n 1 e_Mo_putBack_41 rfl rfl ?_
  refine g_bipush (v := 6) e_Mo_putBack_42 (by decide) ?_
  refine g_icmp_ge 77 e_Mo_putBack_44 (by decide) ⟨fun z1 => ?_, fun z1 => ?_⟩
  · have h := h.1 z1
    exact g_vret e_Mo_putBack_77 rfl ⟨Sh.n hw, rfl, hw, h⟩
  · have h := h.2 z1
    refine g_aload_n 0 e_Mo_putBack_47 rfl rfl ?_
    refine gf_Mo_39 rfl e_Mo_putBack_48 hw lay_115 (by decide) (sh_Mo_lies hw) ?_
    refine g_iload_n 1 e_Mo_putBack_51 rfl rfl ?_
    refine g_aload_n 0 e_Mo_putBack_52 rfl rfl ?_
    refine gf_Mo_118 rfl e_Mo_putBack_53 hw lay_115 (by decide) (sh_Mo_keptLies hw) ?_
    refine g_iload_n 1 e_Mo_putBack_56 rfl rfl ?_
    obtain ⟨o2, h⟩ := h
    refine w_iaload ((l1).toNatClampNeg) e_Mo_putBack_57 hw lay_133 (by decide) o2 rfl ?_
    obtain ⟨o3, h⟩ := h
    refine w_iastore ((l1).toNatClampNeg) e_Mo_putBack_58 hw lay_120 (by decide) o3 rfl ?_
    refine g_aload_n 0 e_Mo_putBack_59 rfl rfl ?_
    refine gf_Mo_42 rfl e_Mo_putBack_60 hw lay_115 (by decide) (sh_Mo_time hw) ?_
    refine g_iload_n 1 e_Mo_putBack_63 rfl rfl ?_
    refine g_aload_n 0 e_Mo_putBack_64 rfl rfl ?_
    refine gf_Mo_121 rfl e_Mo_putBack_65 hw lay_115 (by decide) (sh_Mo_keptTime hw) ?_
    refine g_iload_n 1 e_Mo_putBack_68 rfl rfl ?_
    obtain ⟨o4, h⟩ := h
    refine w_iaload ((l1).toNatClampNeg) e_Mo_putBack_69 hw lay_134 (by decide) o4 rfl ?_
    obtain ⟨o5, h⟩ := h
    refine w_iastore ((l1).toNatClampNeg) e_Mo_putBack_70 hw lay_121 (by decide) o5 rfl ?_
    refine g_iinc (v := (l1 + 1)) (lv := [(1, .int (l1 + 1)), (0, .ref (qb E + 115))]) 1 e_Mo_putBack_71 rfl rfl (by decide) rfl ?_
    refine g_goto 41 e_Mo_putBack_74 (by decide) ?_
    refine g_loc [1, 0] rfl ?_
    exact h
theorem en_Mo_putBack {d : Nat} {E : qE} {Q : qW → Prop} {w : qW} (hw : Sh w) (h : c_Mo_putBack_0 d E Q  w) : CaV d M_Mo_putBack [.ref (qb E + 115)] E w Q := Ca.into hw rfl (Nat.le_of_ble_eq_true rfl) h
def c_Mo_setsIf_0 (d : Nat) (E : qE) (Q : qW → Int32 → Prop) (a1 : Int32) (w : qW) : Prop := Go (d + 6) M_Mo_setsIf E 161 161 (qFI Q) 0 [(0, .ref (qb E + 115)), (1, .int a1)] [] w
def c_Mo_setsIf_15 (d : Nat) (E : qE) (Q : qW → Int32 → Prop) (l2 : Int32) (w : qW) : Prop := Go (d + 6) M_Mo_setsIf E 161 161 (qFI Q) 15 [(0, .ref (qb E + 115)), (2, .int l2)] [] w
set_option maxHeartbeats 4000000 in
set_option maxRecDepth 8000 in
theorem s_Mo_setsIf_0 {d : Nat} {E : qE} {Q : qW → Int32 → Prop} {a1 : Int32} {w : qW} (hw : Sh w) (h : CaV (d + 5) M_Mo_save [.ref (qb E + 115)] E w (fun w1 => ((a1 < 0) → (c_Mo_setsIf_15 d E Q 0 w1)) ∧ ((¬ a1 < 0) → (CaV (d + 5) M_Mo_says [.ref (qb E + 115), .int a1] E w1 (fun w3 => c_Mo_setsIf_15 d E Q 0 w3))))) : c_Mo_setsIf_0 d E Q a1 w := by
  unfold c_Mo_setsIf_0
  refine g_aload_n 0 e_Mo_setsIf_0 rfl rfl ?_
  refine w_callVV (w := w) (As := []) (rest := []) e_Mo_setsIf_1 ok_Mo_save rfl km_Mo_360 kx_Mo_save kv_Mo_save rfl (by decide) hw lay_115 (by decide) rfl (Nat.le_of_ble_eq_true rfl) h (fun w1 hw1 h => ?_)
  refine g_iload_n 1 e_Mo_setsIf_4 rfl rfl ?_
  refine g_if_lt 13 e_Mo_setsIf_5 (by decide) ⟨fun z2 => ?_, fun z2 => ?_⟩
  · have h := h.1 z2
    refine g_iconst (v := 0) e_Mo_setsIf_13 (by decide) ?_
    refine g_istore_n (lv := [(2, .int 0), (0, .ref (qb E + 115)), (1, .int a1)]) e_Mo_setsIf_14 rfl (by decide) rfl ?_
    refine g_loc [1, 0] rfl ?_
    exact h
  · have h := h.2 z2
    refine g_aload_n 0 e_Mo_setsIf_8 rfl rfl ?_
    refine g_iload_n 1 e_Mo_setsIf_9 rfl rfl ?_
    refine w_callVV (w := w1) (As := [.int a1]) (rest := []) e_Mo_setsIf_10 ok_Mo_says rfl km_Mo_271 kx_Mo_says kv_Mo_says rfl (by decide) hw1 lay_115 (by decide) rfl (Nat.le_of_ble_eq_true rfl) h (fun w3 hw3 h => ?_)
    refine g_iconst (v := 0) e_Mo_setsIf_13 (by decide) ?_
    refine g_istore_n (lv := [(2, .int 0), (0, .ref (qb E + 115)), (1, .int a1)]) e_Mo_setsIf_14 rfl (by decide) rfl ?_
    refine g_loc [1, 0] rfl ?_
    exact h
set_option maxHeartbeats 4000000 in
set_option maxRecDepth 8000 in
theorem s_Mo_setsIf_15 {d : Nat} {E : qE} {Q : qW → Int32 → Prop} {l2 : Int32} {w : qW} (hw : Sh w) (h : ((61 ≤ l2) → (CaV (d + 5) M_Mo_putBack [.ref (qb E + 115)] E w (fun w2 => Q w2 l2))) ∧ ((¬ 61 ≤ l2) → (((¬ (qz (qi w 115 4)) = 0) → (CaV (d + 5) M_Mo_putBack [.ref (qb E + 115)] E w (fun w4 => Q w4 l2))) ∧ (((qz (qi w 115 4)) = 0) → (CaV (d + 5) M_Mo_goMinute [.ref (qb E + 115)] E w (fun w5 => c_Mo_setsIf_15 d E Q (l2 + 1) w5)))))) : c_Mo_setsIf_15 d E Q l2 w := by
  unfold c_Mo_setsIf_15
  refine g_iload_n 1 e_Mo_setsIf_15 rfl rfl ?_
  refine g_bipush (v := 61) e_Mo_setsIf_16 (by decide) ?_
  refine g_icmp_ge 38 e_Mo_setsIf_18 (by decide) ⟨fun z1 => ?_, fun z1 => ?_⟩
  · have h := h.1 z1
    refine g_aload_n 0 e_Mo_setsIf_38 rfl rfl ?_
    refine w_callVV (w := w) (As := []) (rest := []) e_Mo_setsIf_39 ok_Mo_putBack rfl km_Mo_363 kx_Mo_putBack kv_Mo_putBack rfl (by decide) hw lay_115 (by decide) rfl (Nat.le_of_ble_eq_true rfl) h (fun w2 hw2 h => ?_)
    refine g_iload_n 1 e_Mo_setsIf_42 rfl rfl ?_
    exact g_iret e_Mo_setsIf_43 rfl ⟨Sh.n hw2, _, rfl, hw2, h⟩
  · have h := h.2 z1
    refine g_aload_n 0 e_Mo_setsIf_21 rfl rfl ?_
    refine gf_Mo_22 rfl e_Mo_setsIf_22 hw lay_115 (by decide) ?_
    refine g_if_ne 38 e_Mo_setsIf_25 (by decide) ⟨fun z3 => ?_, fun z3 => ?_⟩
    · have h := h.1 z3
      refine g_aload_n 0 e_Mo_setsIf_38 rfl rfl ?_
      refine w_callVV (w := w) (As := []) (rest := []) e_Mo_setsIf_39 ok_Mo_putBack rfl km_Mo_363 kx_Mo_putBack kv_Mo_putBack rfl (by decide) hw lay_115 (by decide) rfl (Nat.le_of_ble_eq_true rfl) h (fun w4 hw4 h => ?_)
      refine g_iload_n 1 e_Mo_setsIf_42 rfl rfl ?_
      exact g_iret e_Mo_setsIf_43 rfl ⟨Sh.n hw4, _, rfl, hw4, h⟩
    · have h := h.2 z3
      refine g_aload_n 0 e_Mo_setsIf_28 rfl rfl ?_
      refine w_callVV (w := w) (As := []) (rest := []) e_Mo_setsIf_29 ok_Mo_goMinute rfl km_Mo_350 kx_Mo_goMinute kv_Mo_goMinute rfl (by decide) hw lay_115 (by decide) rfl (Nat.le_of_ble_eq_true rfl) h (fun w5 hw5 h => ?_)
      refine g_iinc (v := (l2 + 1)) (lv := [(2, .int (l2 + 1)), (0, .ref (qb E + 115))]) 1 e_Mo_setsIf_32 rfl rfl (by decide) rfl ?_
      refine g_goto 15 e_Mo_setsIf_35 (by decide) ?_
      refine g_loc [1, 0] rfl ?_
      exact h
theorem en_Mo_setsIf {d : Nat} {E : qE} {Q : qW → Int32 → Prop} {a1 : Int32} {w : qW} (hw : Sh w) (h : c_Mo_setsIf_0 d E Q a1 w) : CaI (d + 6) M_Mo_setsIf [.ref (qb E + 115), .int a1] E w Q := Ca.into hw rfl (Nat.le_of_ble_eq_true rfl) h
def c_Mo_sets_0 (d : Nat) (E : qE) (Q : qW → Int32 → Prop) (w : qW) : Prop := Go (d + 7) M_Mo_sets E 161 161 (qFI Q) 0 [(0, .ref (qb E + 115))] [] w
set_option maxHeartbeats 4000000 in
set_option maxRecDepth 8000 in
theorem s_Mo_sets_0 {d : Nat} {E : qE} {Q : qW → Int32 → Prop} {w : qW} (hw : Sh w) (h : CaI (d + 6) M_Mo_setsIf [.ref (qb E + 115), .int (-1)] E w (fun w1 x1 => ((¬ x1 = 61) → (CaI (d + 6) M_Mo_setsIf [.ref (qb E + 115), .int (-1)] E w1 (fun w3 x3 => Q w3 x3))) ∧ ((x1 = 61) → (Q w1 (-5))))) : c_Mo_sets_0 d E Q  w := by
  unfold c_Mo_sets_0
  refine g_aload_n 0 e_Mo_sets_0 rfl rfl ?_
  refine g_iconst (v := (-1)) e_Mo_sets_1 (by decide) ?_
  refine w_callVI (w := w) (As := [.int (-1)]) (rest := []) e_Mo_sets_2 ok_Mo_setsIf rfl km_Mo_366 kx_Mo_setsIf kv_Mo_setsIf rfl (by decide) hw lay_115 (by decide) rfl (Nat.le_of_ble_eq_true rfl) h (fun w1 x1 hw1 h => ?_)
  refine g_bipush (v := 61) e_Mo_sets_5 (by decide) ?_
  refine g_icmp_ne 15 e_Mo_sets_7 (by decide) ⟨fun z2 => ?_, fun z2 => ?_⟩
  · have h := h.1 z2
    refine g_aload_n 0 e_Mo_sets_15 rfl rfl ?_
    refine g_iconst (v := (-1)) e_Mo_sets_16 (by decide) ?_
    refine w_callVI (w := w1) (As := [.int (-1)]) (rest := []) e_Mo_sets_17 ok_Mo_setsIf rfl km_Mo_366 kx_Mo_setsIf kv_Mo_setsIf rfl (by decide) hw1 lay_115 (by decide) rfl (Nat.le_of_ble_eq_true rfl) h (fun w3 x3 hw3 h => ?_)
    exact g_iret e_Mo_sets_20 rfl ⟨Sh.n hw3, _, rfl, hw3, h⟩
  · have h := h.2 z2
    refine g_bipush (v := (-5)) e_Mo_sets_10 (by decide) ?_
    refine g_goto 20 e_Mo_sets_12 (by decide) ?_
    exact g_iret e_Mo_sets_20 rfl ⟨Sh.n hw1, _, rfl, hw1, h⟩
theorem en_Mo_sets {d : Nat} {E : qE} {Q : qW → Int32 → Prop} {w : qW} (hw : Sh w) (h : c_Mo_sets_0 d E Q  w) : CaI (d + 7) M_Mo_sets [.ref (qb E + 115)] E w Q := Ca.into hw rfl (Nat.le_of_ble_eq_true rfl) h
def c_Mo_wordOf_0 (d : Nat) (E : qE) (Q : qW → Int32 → Prop) (w : qW) : Prop := Go (d + 7) M_Mo_wordOf E 161 161 (qFI Q) 0 [(0, .ref (qb E + 115))] [] w
def c_Mo_wordOf_11 (d : Nat) (E : qE) (Q : qW → Int32 → Prop) (l1 : Int32) (l2 : Int32) (l3 : Int32) (w : qW) : Prop := Go (d + 7) M_Mo_wordOf E 161 161 (qFI Q) 11 [(0, .ref (qb E + 115)), (1, .int l1), (2, .int l2), (3, .int l3)] [] w
set_option maxHeartbeats 4000000 in
set_option maxRecDepth 8000 in
theorem s_Mo_wordOf_0 {d : Nat} {E : qE} {Q : qW → Int32 → Prop} {w : qW} (hw : Sh w) (h : CaI (d + 6) M_Mo_setsIf [.ref (qb E + 115), .int (-1)] E w (fun w1 x1 => c_Mo_wordOf_11 d E Q (-5) x1 0 w1)) : c_Mo_wordOf_0 d E Q  w := by
  unfold c_Mo_wordOf_0
  refine g_bipush (v := (-5)) e_Mo_wordOf_0 (by decide) ?_
  refine g_istore_n (lv := [(1, .int (-5)), (0, .ref (qb E + 115))]) e_Mo_wordOf_2 rfl (by decide) rfl ?_
  refine g_aload_n 1 e_Mo_wordOf_3 rfl rfl ?_
  refine g_iconst (v := (-1)) e_Mo_wordOf_4 (by decide) ?_
  refine w_callVI (w := w) (As := [.int (-1)]) (rest := []) e_Mo_wordOf_5 ok_Mo_setsIf rfl km_Mo_366 kx_Mo_setsIf kv_Mo_setsIf rfl (by decide) hw lay_115 (by decide) rfl (Nat.le_of_ble_eq_true rfl) h (fun w1 x1 hw1 h => ?_)
  refine g_istore_n (lv := [(2, .int x1), (1, .int (-5)), (0, .ref (qb E + 115))]) e_Mo_wordOf_8 rfl (by decide) rfl ?_
  refine g_iconst (v := 0) e_Mo_wordOf_9 (by decide) ?_
  refine g_istore_n (lv := [(3, .int 0), (2, .int x1), (1, .int (-5)), (0, .ref (qb E + 115))]) e_Mo_wordOf_10 rfl (by decide) rfl ?_
  refine g_loc [3, 2, 1, 0] rfl ?_
  exact h
set_option maxHeartbeats 4000000 in
set_option maxRecDepth 8000 in
theorem s_Mo_wordOf_11 {d : Nat} {E : qE} {Q : qW → Int32 → Prop} {l1 : Int32} {l2 : Int32} {l3 : Int32} {w : qW} (hw : Sh w) (h : (((qi w 115 0) ≤ l3) → (Q w l1)) ∧ ((¬ (qi w 115 0) ≤ l3) → (vp_in l3 6 ∧ (((¬ (qi w 120 ((l3).toNatClampNeg)) = 2) → (CaI (d + 6) M_Mo_setsIf [.ref (qb E + 115), .int l3] E w (fun w4 x4 => ((l2 < x4) → (c_Mo_wordOf_11 d E Q l3 x4 (l3 + 1) w4)) ∧ ((¬ l2 < x4) → (c_Mo_wordOf_11 d E Q l1 l2 (l3 + 1) w4))))) ∧ (((qi w 120 ((l3).toNatClampNeg)) = 2) → (c_Mo_wordOf_11 d E Q l1 l2 (l3 + 1) w)))))) : c_Mo_wordOf_11 d E Q l1 l2 l3 w := by
  unfold c_Mo_wordOf_11
  refine g_iload_n 3 e_Mo_wordOf_11 rfl rfl ?_
  refine g_aload_n 0 e_Mo_wordOf_12 rfl rfl ?_
  refine gf_Mo_7 rfl e_Mo_wordOf_13 hw lay_115 (by decide) ?_
  refine g_icmp_ge 59 e_Mo_wordOf_16 (by decide) ⟨fun z1 => ?_, fun z1 => ?_⟩
  · have h := h.1 z1
    refine g_iload_n 1 e_Mo_wordOf_59 rfl rfl ?_
    exact g_iret e_Mo_wordOf_60 rfl ⟨Sh.n hw, _, rfl, hw, h⟩
  · have h := h.2 z1
    refine g_aload_n 0 e_Mo_wordOf_19 rfl rfl ?_
    refine gf_Mo_39 rfl e_Mo_wordOf_20 hw lay_115 (by decide) (sh_Mo_lies hw) ?_
    refine g_iload_n 3 e_Mo_wordOf_23 rfl rfl ?_
    obtain ⟨o2, h⟩ := h
    refine w_iaload ((l3).toNatClampNeg) e_Mo_wordOf_24 hw lay_120 (by decide) o2 rfl ?_
    refine g_iconst (v := 2) e_Mo_wordOf_25 (by decide) ?_
    refine g_icmp_ne 32 e_Mo_wordOf_26 (by decide) ⟨fun z3 => ?_, fun z3 => ?_⟩
    · have h := h.1 z3
      refine g_aload_n 0 e_Mo_wordOf_32 rfl rfl ?_
      refine g_iload_n 3 e_Mo_wordOf_33 rfl rfl ?_
      refine w_callVI (w := w) (As := [.int l3]) (rest := []) e_Mo_wordOf_34 ok_Mo_setsIf rfl km_Mo_366 kx_Mo_setsIf kv_Mo_setsIf rfl (by decide) hw lay_115 (by decide) rfl (Nat.le_of_ble_eq_true rfl) h (fun w4 x4 hw4 h => ?_)
      refine g_istore (lv := [(4, .int x4), (0, .ref (qb E + 115)), (1, .int l1), (2, .int l2), (3, .int l3)]) e_Mo_wordOf_37 (by decide) rfl ?_
      refine g_iload 0 e_Mo_wordOf_39 rfl ?_
      refine g_iload_n 3 e_Mo_wordOf_41 rfl rfl ?_
      refine g_icmp_gt 48 e_Mo_wordOf_42 (by decide) ⟨fun z5 => ?_, fun z5 => ?_⟩
      · have h := h.1 z5
        refine g_iload_n 4 e_Mo_wordOf_48 rfl rfl ?_
        refine g_istore_n (lv := [(1, .int l3), (4, .int x4), (0, .ref (qb E + 115)), (2, .int l2), (3, .int l3)]) e_Mo_wordOf_49 rfl (by decide) rfl ?_
        refine g_iload 1 e_Mo_wordOf_50 rfl ?_
        refine g_istore_n (lv := [(2, .int x4), (1, .int l3), (4, .int x4), (0, .ref (qb E + 115)), (3, .int l3)]) e_Mo_wordOf_52 rfl (by decide) rfl ?_
        refine g_iinc (v := (l3 + 1)) (lv := [(3, .int (l3 + 1)), (2, .int x4), (1, .int l3), (4, .int x4), (0, .ref (qb E + 115))]) 4 e_Mo_wordOf_53 rfl rfl (by decide) rfl ?_
        refine g_goto 11 e_Mo_wordOf_56 (by decide) ?_
        refine g_loc [4, 2, 1, 0] rfl ?_
        exact h
      · have h := h.2 z5
        refine g_goto 53 e_Mo_wordOf_45 (by decide) ?_
        refine g_iinc (v := (l3 + 1)) (lv := [(3, .int (l3 + 1)), (4, .int x4), (0, .ref (qb E + 115)), (1, .int l1), (2, .int l2)]) 4 e_Mo_wordOf_53 rfl rfl (by decide) rfl ?_
        refine g_goto 11 e_Mo_wordOf_56 (by decide) ?_
        refine g_loc [2, 3, 4, 0] rfl ?_
        exact h
    · have h := h.2 z3
      refine g_goto 53 e_Mo_wordOf_29 (by decide) ?_
      refine g_iinc (v := (l3 + 1)) (lv := [(3, .int (l3 + 1)), (0, .ref (qb E + 115)), (1, .int l1), (2, .int l2)]) 3 e_Mo_wordOf_53 rfl rfl (by decide) rfl ?_
      refine g_goto 11 e_Mo_wordOf_56 (by decide) ?_
      refine g_loc [1, 2, 3, 0] rfl ?_
      exact h
theorem en_Mo_wordOf {d : Nat} {E : qE} {Q : qW → Int32 → Prop} {w : qW} (hw : Sh w) (h : c_Mo_wordOf_0 d E Q  w) : CaI (d + 7) M_Mo_wordOf [.ref (qb E + 115)] E w Q := Ca.into hw rfl (Nat.le_of_ble_eq_true rfl) h
def c_Mo_told_0 (d : Nat) (E : qE) (Q : qW → Int32 → Prop) (a1 : Int32) (w : qW) : Prop := Go (d + 8) M_Mo_told E 161 161 (qFI Q) 0 [(0, .ref (qb E + 115)), (1, .int a1)] [] w
set_option maxHeartbeats 4000000 in
set_option maxRecDepth 8000 in
theorem s_Mo_told_0 {d : Nat} {E : qE} {Q : qW → Int32 → Prop} {a1 : Int32} {w : qW} (hw : Sh w) (h : (a1 = 0 → (Q w (qi w 115 3))) ∧ (a1 = 1 → (CaI (d + 7) M_Mo_need [.ref (qb E + 115)] E w (fun w2 x2 => Q w2 x2))) ∧ (a1 = 2 → (Q w (qi w 115 1))) ∧ (a1 = 3 → (Q w (qi w 115 2))) ∧ (a1 = 4 → ((((qz (qi w 115 4)) = 0) → (Q w 0)) ∧ ((¬ (qz (qi w 115 4)) = 0) → (Q w 1)))) ∧ (a1 = 5 → (CaI (d + 7) M_Mo_setOf [.ref (qb E + 115), .int 1] E w (fun w4 x4 => Q w4 x4))) ∧ (a1 = 6 → (CaI (d + 7) M_Mo_setOf [.ref (qb E + 115), .int 2] E w (fun w5 x5 => Q w5 x5))) ∧ (a1 = 7 → (CaI (d + 7) M_Mo_sets [.ref (qb E + 115)] E w (fun w6 x6 => Q w6 x6))) ∧ (a1 = 8 → (CaI (d + 7) M_Mo_wordOf [.ref (qb E + 115)] E w (fun w7 x7 => Q w7 x7))) ∧ (a1 = 9 → (CaI (d + 7) M_Mo_allGive [.ref (qb E + 115)] E w (fun w8 x8 => Q w8 x8))) ∧ ((a1.toInt < 0 ∨ 9 < a1.toInt) → (Q w (-10001)))) : c_Mo_told_0 d E Q a1 w := by
  unfold c_Mo_told_0
  refine g_iload_n 1 e_Mo_told_0 rfl rfl ?_
  refine g_table e_Mo_told_1 10 (by decide) [56, 61, 66, 71, 76, 89, 95, 101, 106, 111] 116 (by decide) (by decide +kernel) ⟨fun j1 hj1 hx1 => ?_, fun hx1 => ?_⟩
  · rcases (show j1 = 0 ∨ j1 = 1 ∨ j1 = 2 ∨ j1 = 3 ∨ j1 = 4 ∨ j1 = 5 ∨ j1 = 6 ∨ j1 = 7 ∨ j1 = 8 ∨ j1 = 9 by omega) with rfl | rfl | rfl | rfl | rfl | rfl | rfl | rfl | rfl | rfl
    · have h := h.1 (q_key hx1 (by decide))
      change Go _ _ _ _ _ _ 56 _ _ _
      refine g_aload_n 0 e_Mo_told_56 rfl rfl ?_
      refine gf_Mo_19 rfl e_Mo_told_57 hw lay_115 (by decide) ?_
      exact g_iret e_Mo_told_60 rfl ⟨Sh.n hw, _, rfl, hw, h⟩
    · have h := h.2.1 (q_key hx1 (by decide))
      change Go _ _ _ _ _ _ 61 _ _ _
      refine g_aload_n 0 e_Mo_told_61 rfl rfl ?_
      refine w_callVI (w := w) (As := []) (rest := []) e_Mo_told_62 ok_Mo_need rfl km_Mo_347 kx_Mo_need kv_Mo_need rfl (by decide) hw lay_115 (by decide) rfl (Nat.le_of_ble_eq_true rfl) h (fun w2 x2 hw2 h => ?_)
      exact g_iret e_Mo_told_65 rfl ⟨Sh.n hw2, _, rfl, hw2, h⟩
    · have h := h.2.2.1 (q_key hx1 (by decide))
      change Go _ _ _ _ _ _ 66 _ _ _
      refine g_aload_n 0 e_Mo_told_66 rfl rfl ?_
      refine gf_Mo_13 rfl e_Mo_told_67 hw lay_115 (by decide) ?_
      exact g_iret e_Mo_told_70 rfl ⟨Sh.n hw, _, rfl, hw, h⟩
    · have h := h.2.2.2.1 (q_key hx1 (by decide))
      change Go _ _ _ _ _ _ 71 _ _ _
      refine g_aload_n 0 e_Mo_told_71 rfl rfl ?_
      refine gf_Mo_16 rfl e_Mo_told_72 hw lay_115 (by decide) ?_
      exact g_iret e_Mo_told_75 rfl ⟨Sh.n hw, _, rfl, hw, h⟩
    · have h := h.2.2.2.2.1 (q_key hx1 (by decide))
      change Go _ _ _ _ _ _ 76 _ _ _
      refine g_aload_n 0 e_Mo_told_76 rfl rfl ?_
      refine gf_Mo_22 rfl e_Mo_told_77 hw lay_115 (by decide) ?_
      refine g_if_eq 87 e_Mo_told_80 (by decide) ⟨fun z3 => ?_, fun z3 => ?_⟩
      · have h := h.1 z3
        refine g_iconst (v := 0) e_Mo_told_87 (by decide) ?_
        exact g_iret e_Mo_told_88 rfl ⟨Sh.n hw, _, rfl, hw, h⟩
      · have h := h.2 z3
        refine g_iconst (v := 1) e_Mo_told_83 (by decide) ?_
        refine g_goto 88 e_Mo_told_84 (by decide) ?_
        exact g_iret e_Mo_told_88 rfl ⟨Sh.n hw, _, rfl, hw, h⟩
    · have h := h.2.2.2.2.2.1 (q_key hx1 (by decide))
      change Go _ _ _ _ _ _ 89 _ _ _
      refine g_aload_n 0 e_Mo_told_89 rfl rfl ?_
      refine g_iconst (v := 1) e_Mo_told_90 (by decide) ?_
      refine w_callVI (w := w) (As := [.int 1]) (rest := []) e_Mo_told_91 ok_Mo_setOf rfl km_Mo_264 kx_Mo_setOf kv_Mo_setOf rfl (by decide) hw lay_115 (by decide) rfl (Nat.le_of_ble_eq_true rfl) h (fun w4 x4 hw4 h => ?_)
      exact g_iret e_Mo_told_94 rfl ⟨Sh.n hw4, _, rfl, hw4, h⟩
    · have h := h.2.2.2.2.2.2.1 (q_key hx1 (by decide))
      change Go _ _ _ _ _ _ 95 _ _ _
      refine g_aload_n 0 e_Mo_told_95 rfl rfl ?_
      refine g_iconst (v := 2) e_Mo_told_96 (by decide) ?_
      refine w_callVI (w := w) (As := [.int 2]) (rest := []) e_Mo_told_97 ok_Mo_setOf rfl km_Mo_264 kx_Mo_setOf kv_Mo_setOf rfl (by decide) hw lay_115 (by decide) rfl (Nat.le_of_ble_eq_true rfl) h (fun w5 x5 hw5 h => ?_)
      exact g_iret e_Mo_told_100 rfl ⟨Sh.n hw5, _, rfl, hw5, h⟩
    · have h := h.2.2.2.2.2.2.2.1 (q_key hx1 (by decide))
      change Go _ _ _ _ _ _ 101 _ _ _
      refine g_aload_n 0 e_Mo_told_101 rfl rfl ?_
      refine w_callVI (w := w) (As := []) (rest := []) e_Mo_told_102 ok_Mo_sets rfl km_Mo_369 kx_Mo_sets kv_Mo_sets rfl (by decide) hw lay_115 (by decide) rfl (Nat.le_of_ble_eq_true rfl) h (fun w6 x6 hw6 h => ?_)
      exact g_iret e_Mo_told_105 rfl ⟨Sh.n hw6, _, rfl, hw6, h⟩
    · have h := h.2.2.2.2.2.2.2.2.1 (q_key hx1 (by decide))
      change Go _ _ _ _ _ _ 106 _ _ _
      refine g_aload_n 0 e_Mo_told_106 rfl rfl ?_
      refine w_callVI (w := w) (As := []) (rest := []) e_Mo_told_107 ok_Mo_wordOf rfl km_Mo_372 kx_Mo_wordOf kv_Mo_wordOf rfl (by decide) hw lay_115 (by decide) rfl (Nat.le_of_ble_eq_true rfl) h (fun w7 x7 hw7 h => ?_)
      exact g_iret e_Mo_told_110 rfl ⟨Sh.n hw7, _, rfl, hw7, h⟩
    · have h := h.2.2.2.2.2.2.2.2.2.1 (q_key hx1 (by decide))
      change Go _ _ _ _ _ _ 111 _ _ _
      refine g_aload_n 0 e_Mo_told_111 rfl rfl ?_
      refine w_callVI (w := w) (As := []) (rest := []) e_Mo_told_112 ok_Mo_allGive rfl km_Mo_343 kx_Mo_allGive kv_Mo_allGive rfl (by decide) hw lay_115 (by decide) rfl (Nat.le_of_ble_eq_true rfl) h (fun w8 x8 hw8 h => ?_)
      exact g_iret e_Mo_told_115 rfl ⟨Sh.n hw8, _, rfl, hw8, h⟩
  · have h := h.2.2.2.2.2.2.2.2.2.2 hx1
    refine g_sipush (v := (-10001)) e_Mo_told_116 (by decide) ?_
    exact g_iret e_Mo_told_119 rfl ⟨Sh.n hw, _, rfl, hw, h⟩
theorem en_Mo_told {d : Nat} {E : qE} {Q : qW → Int32 → Prop} {a1 : Int32} {w : qW} (hw : Sh w) (h : c_Mo_told_0 d E Q a1 w) : CaI (d + 8) M_Mo_told [.ref (qb E + 115), .int a1] E w Q := Ca.into hw rfl (Nat.le_of_ble_eq_true rfl) h
def c_Mo_on_0 (d : Nat) (E : qE) (Q : qW → Int32 → Prop) (a1 : Int32) (a2 : Int32) (w : qW) : Prop := Go (d + 7) M_Mo_on E 161 161 (qFI Q) 0 [(0, .ref (qb E + 115)), (1, .int a1), (2, .int a2)] [] w
set_option maxHeartbeats 4000000 in
set_option maxRecDepth 8000 in
theorem s_Mo_on_0 {d : Nat} {E : qE} {Q : qW → Int32 → Prop} {a1 : Int32} {a2 : Int32} {w : qW} (hw : Sh w) (h : CaI (d + 6) M_Mo_in [.ref (qb E + 115), .int a2, .int 0, .int 1] E w (fun w1 x1 => ((¬ x1 = 0) → (CaI (d + 6) M_Mo_isMinutes [.ref (qb E + 115), .int a1] E w1 (fun w3 x3 => ((¬ x3 = 0) → (CaV (d + 6) M_Mo_save [.ref (qb E + 115)] E w3 (fun w5 => CaV (d + 6) M_Mo_goMinutes [.ref (qb E + 115), .int a1] E w5 (fun w6 => ((¬ a2 = 0) → ((((qz (qi w6 115 4)) = 0) → (CaV (d + 6) M_Mo_putBack [.ref (qb E + 115)] E w6 (fun w9 => Q w9 0))) ∧ ((¬ (qz (qi w6 115 4)) = 0) → (CaV (d + 6) M_Mo_putBack [.ref (qb E + 115)] E w6 (fun w10 => Q w10 1))))) ∧ ((a2 = 0) → (CaV (d + 6) M_Mo_putBack [.ref (qb E + 115)] E w6 (fun w11 => Q w11 (qi w6 115 2)))))))) ∧ ((x3 = 0) → (Q w3 (-2)))))) ∧ ((x1 = 0) → (Q w1 (-1))))) : c_Mo_on_0 d E Q a1 a2 w := by
  unfold c_Mo_on_0
  refine g_aload_n 0 e_Mo_on_0 rfl rfl ?_
  refine g_iload_n 2 e_Mo_on_1 rfl rfl ?_
  refine g_iconst (v := 0) e_Mo_on_2 (by decide) ?_
  refine g_iconst (v := 1) e_Mo_on_3 (by decide) ?_
  refine w_callVI (w := w) (As := [.int a2, .int 0, .int 1]) (rest := []) e_Mo_on_4 ok_Mo_in rfl km_Mo_249 kx_Mo_in kv_Mo_in rfl (by decide) hw lay_115 (by decide) rfl (Nat.le_of_ble_eq_true rfl) h (fun w1 x1 hw1 h => ?_)
  refine g_if_ne 12 e_Mo_on_7 (by decide) ⟨fun z2 => ?_, fun z2 => ?_⟩
  · have h := h.1 z2
    refine g_aload_n 0 e_Mo_on_12 rfl rfl ?_
    refine g_iload_n 1 e_Mo_on_13 rfl rfl ?_
    refine w_callVI (w := w1) (As := [.int a1]) (rest := []) e_Mo_on_14 ok_Mo_isMinutes rfl km_Mo_353 kx_Mo_isMinutes kv_Mo_isMinutes rfl (by decide) hw1 lay_115 (by decide) rfl (Nat.le_of_ble_eq_true rfl) h (fun w3 x3 hw3 h => ?_)
    refine g_if_ne 23 e_Mo_on_17 (by decide) ⟨fun z4 => ?_, fun z4 => ?_⟩
    · have h := h.1 z4
      refine g_aload_n 0 e_Mo_on_23 rfl rfl ?_
      refine w_callVV (w := w3) (As := []) (rest := []) e_Mo_on_24 ok_Mo_save rfl km_Mo_360 kx_Mo_save kv_Mo_save rfl (by decide) hw3 lay_115 (by decide) rfl (Nat.le_of_ble_eq_true rfl) h (fun w5 hw5 h => ?_)
      refine g_aload_n 0 e_Mo_on_27 rfl rfl ?_
      refine g_iload_n 1 e_Mo_on_28 rfl rfl ?_
      refine w_callVV (w := w5) (As := [.int a1]) (rest := []) e_Mo_on_29 ok_Mo_goMinutes rfl km_Mo_356 kx_Mo_goMinutes kv_Mo_goMinutes rfl (by decide) hw5 lay_115 (by decide) rfl (Nat.le_of_ble_eq_true rfl) h (fun w6 hw6 h => ?_)
      refine g_iload_n 2 e_Mo_on_32 rfl rfl ?_
      refine g_if_ne 43 e_Mo_on_33 (by decide) ⟨fun z7 => ?_, fun z7 => ?_⟩
      · have h := h.1 z7
        refine g_aload_n 0 e_Mo_on_43 rfl rfl ?_
        refine gf_Mo_22 rfl e_Mo_on_44 hw6 lay_115 (by decide) ?_
        refine g_if_eq 54 e_Mo_on_47 (by decide) ⟨fun z8 => ?_, fun z8 => ?_⟩
        · have h := h.1 z8
          refine g_iconst (v := 0) e_Mo_on_54 (by decide) ?_
          refine g_istore_n (lv := [(3, .int 0), (0, .ref (qb E + 115)), (1, .int a1), (2, .int a2)]) e_Mo_on_55 rfl (by decide) rfl ?_
          refine g_aload_n 1 e_Mo_on_56 rfl rfl ?_
          refine w_callVV (w := w6) (As := []) (rest := []) e_Mo_on_57 ok_Mo_putBack rfl km_Mo_363 kx_Mo_putBack kv_Mo_putBack rfl (by decide) hw6 lay_115 (by decide) rfl (Nat.le_of_ble_eq_true rfl) h (fun w9 hw9 h => ?_)
          refine g_iload_n 0 e_Mo_on_60 rfl rfl ?_
          exact g_iret e_Mo_on_61 rfl ⟨Sh.n hw9, _, rfl, hw9, h⟩
        · have h := h.2 z8
          refine g_iconst (v := 1) e_Mo_on_50 (by decide) ?_
          refine g_goto 55 e_Mo_on_51 (by decide) ?_
          refine g_istore_n (lv := [(3, .int 1), (0, .ref (qb E + 115)), (1, .int a1), (2, .int a2)]) e_Mo_on_55 rfl (by decide) rfl ?_
          refine g_aload_n 1 e_Mo_on_56 rfl rfl ?_
          refine w_callVV (w := w6) (As := []) (rest := []) e_Mo_on_57 ok_Mo_putBack rfl km_Mo_363 kx_Mo_putBack kv_Mo_putBack rfl (by decide) hw6 lay_115 (by decide) rfl (Nat.le_of_ble_eq_true rfl) h (fun w10 hw10 h => ?_)
          refine g_iload_n 0 e_Mo_on_60 rfl rfl ?_
          exact g_iret e_Mo_on_61 rfl ⟨Sh.n hw10, _, rfl, hw10, h⟩
      · have h := h.2 z7
        refine g_aload_n 0 e_Mo_on_36 rfl rfl ?_
        refine gf_Mo_16 rfl e_Mo_on_37 hw6 lay_115 (by decide) ?_
        refine g_goto 55 e_Mo_on_40 (by decide) ?_
        refine g_istore_n (lv := [(3, .int (qi w6 115 2)), (0, .ref (qb E + 115)), (1, .int a1), (2, .int a2)]) e_Mo_on_55 rfl (by decide) rfl ?_
        refine g_aload_n 1 e_Mo_on_56 rfl rfl ?_
        refine w_callVV (w := w6) (As := []) (rest := []) e_Mo_on_57 ok_Mo_putBack rfl km_Mo_363 kx_Mo_putBack kv_Mo_putBack rfl (by decide) hw6 lay_115 (by decide) rfl (Nat.le_of_ble_eq_true rfl) h (fun w11 hw11 h => ?_)
        refine g_iload_n 0 e_Mo_on_60 rfl rfl ?_
        exact g_iret e_Mo_on_61 rfl ⟨Sh.n hw11, _, rfl, hw11, h⟩
    · have h := h.2 z4
      refine g_bipush (v := (-2)) e_Mo_on_20 (by decide) ?_
      exact g_iret e_Mo_on_22 rfl ⟨Sh.n hw3, _, rfl, hw3, h⟩
  · have h := h.2 z2
    refine g_iconst (v := (-1)) e_Mo_on_10 (by decide) ?_
    exact g_iret e_Mo_on_11 rfl ⟨Sh.n hw1, _, rfl, hw1, h⟩
theorem en_Mo_on {d : Nat} {E : qE} {Q : qW → Int32 → Prop} {a1 : Int32} {a2 : Int32} {w : qW} (hw : Sh w) (h : c_Mo_on_0 d E Q a1 a2 w) : CaI (d + 7) M_Mo_on [.ref (qb E + 115), .int a1, .int a2] E w Q := Ca.into hw rfl (Nat.le_of_ble_eq_true rfl) h
def c_Mo_layLine_0 (d : Nat) (E : qE) (Q : qW → Int32 → Prop) (a1 : Int32) (a2 : Int32) (w : qW) : Prop := Go (d + 1) M_Mo_layLine E 161 161 (qFI Q) 0 [(0, .ref (qb E + 115)), (1, .int a1), (2, .int a2)] [] w
def c_Mo_layLine_10 (d : Nat) (E : qE) (Q : qW → Int32 → Prop) (l3 : Int32) (l4 : Int32) (l5 : Int32) (w : qW) : Prop := Go (d + 1) M_Mo_layLine E 161 161 (qFI Q) 10 [(0, .ref (qb E + 115)), (3, .int l3), (4, .int l4), (5, .int l5)] [] w
set_option maxHeartbeats 4000000 in
set_option maxRecDepth 8000 in
theorem s_Mo_layLine_0 {d : Nat} {E : qE} {Q : qW → Int32 → Prop} {a1 : Int32} {a2 : Int32} {w : qW} (hw : Sh w) (h : c_Mo_layLine_10 d E Q a1 0 (a2 - 1) w) : c_Mo_layLine_0 d E Q a1 a2 w := by
  unfold c_Mo_layLine_0
  refine g_iload_n 1 e_Mo_layLine_0 rfl rfl ?_
  refine g_istore_n (lv := [(3, .int a1), (0, .ref (qb E + 115)), (1, .int a1), (2, .int a2)]) e_Mo_layLine_1 rfl (by decide) rfl ?_
  refine g_iconst (v := 0) e_Mo_layLine_2 (by decide) ?_
  refine g_istore (lv := [(4, .int 0), (3, .int a1), (0, .ref (qb E + 115)), (1, .int a1), (2, .int a2)]) e_Mo_layLine_3 (by decide) rfl ?_
  refine g_iload_n 4 e_Mo_layLine_5 rfl rfl ?_
  refine g_iconst (v := 1) e_Mo_layLine_6 (by decide) ?_
  refine g_isub e_Mo_layLine_7 ?_
  refine g_istore (lv := [(5, .int (a2 - 1)), (4, .int 0), (3, .int a1), (0, .ref (qb E + 115)), (1, .int a1), (2, .int a2)]) e_Mo_layLine_8 (by decide) rfl ?_
  refine g_loc [3, 2, 1, 0] rfl ?_
  exact h
set_option maxHeartbeats 4000000 in
set_option maxRecDepth 8000 in
theorem s_Mo_layLine_10 {d : Nat} {E : qE} {Q : qW → Int32 → Prop} {l3 : Int32} {l4 : Int32} {l5 : Int32} {w : qW} (hw : Sh w) (h : ((l5 < 0) → (Q w 1)) ∧ ((¬ l5 < 0) → (vp_in l5 3 ∧ (vp_in l5 3 ∧ ((((qi (qpi w 135 ((l5).toNatClampNeg) (l3 - l3 / 6 * 6)) 115 0) ≤ (qi (qpi w 135 ((l5).toNatClampNeg) (l3 - l3 / 6 * 6)) 135 ((l5).toNatClampNeg))) → (Q (qpi w 135 ((l5).toNatClampNeg) (l3 - l3 / 6 * 6)) 0)) ∧ ((¬ (qi (qpi w 135 ((l5).toNatClampNeg) (l3 - l3 / 6 * 6)) 115 0) ≤ (qi (qpi w 135 ((l5).toNatClampNeg) (l3 - l3 / 6 * 6)) 135 ((l5).toNatClampNeg))) → (vp_in l5 3 ∧ (CaI d M_Mo_has [.ref (qb E + 115), .int l4, .int (qi (qpi w 135 ((l5).toNatClampNeg) (l3 - l3 / 6 * 6)) 135 ((l5).toNatClampNeg))] E (qpi w 135 ((l5).toNatClampNeg) (l3 - l3 / 6 * 6)) (fun w6 x6 => ((¬ x6 = 0) → (Q w6 0)) ∧ ((x6 = 0) → (vp_in l5 3 ∧ (vp_in (qi w6 135 ((l5).toNatClampNeg)) 6 ∧ ((((qi w6 120 ((qi w6 135 ((l5).toNatClampNeg)).toNatClampNeg)) = 0) → (vp_in l5 3 ∧ (c_Mo_layLine_10 d E Q (l3 / 6) (l4 ||| (1 <<< ((qi w6 135 ((l5).toNatClampNeg)) &&& 31))) (l5 + (-1)) w6))) ∧ ((¬ (qi w6 120 ((qi w6 135 ((l5).toNatClampNeg)).toNatClampNeg)) = 0) → (Q w6 0))))))))))))))) : c_Mo_layLine_10 d E Q l3 l4 l5 w := by
  unfold c_Mo_layLine_10
  refine g_iload 3 e_Mo_layLine_10 rfl ?_
  refine g_if_lt 98 e_Mo_layLine_12 (by decide) ⟨fun z1 => ?_, fun z1 => ?_⟩
  · have h := h.1 z1
    refine g_iconst (v := 1) e_Mo_layLine_98 (by decide) ?_
    exact g_zret e_Mo_layLine_99 rfl (Or.inr rfl) ⟨Sh.n hw, _, rfl, hw, h⟩
  · have h := h.2 z1
    refine g_aload_n 0 e_Mo_layLine_15 rfl rfl ?_
    refine gf_Mo_124 rfl e_Mo_layLine_16 hw lay_115 (by decide) (sh_Mo_line hw) ?_
    refine g_iload 3 e_Mo_layLine_19 rfl ?_
    refine g_iload_n 1 e_Mo_layLine_21 rfl rfl ?_
    refine g_bipush (v := 6) e_Mo_layLine_22 (by decide) ?_
    refine g_irem e_Mo_layLine_24 (by decide) ?_
    obtain ⟨o2, h⟩ := h
    refine w_iastore ((l5).toNatClampNeg) e_Mo_layLine_25 hw lay_135 (by decide) o2 rfl ?_
    refine g_iload_n 1 e_Mo_layLine_26 rfl rfl ?_
    refine g_bipush (v := 6) e_Mo_layLine_27 (by decide) ?_
    refine g_idiv e_Mo_layLine_29 (by decide) ?_
    refine g_istore_n (lv := [(3, .int (l3 / 6)), (0, .ref (qb E + 115)), (4, .int l4), (5, .int l5)]) e_Mo_layLine_30 rfl (by decide) rfl ?_
    refine g_aload_n 1 e_Mo_layLine_31 rfl rfl ?_
    refine gf_Mo_124 rfl e_Mo_layLine_32 hw lay_115 (by decide) (sh_Mo_line hw) ?_
    refine g_iload 3 e_Mo_layLine_35 rfl ?_
    obtain ⟨o3, h⟩ := h
    refine w_iaload ((l5).toNatClampNeg) e_Mo_layLine_37 hw lay_135 (by decide) o3 rfl ?_
    refine g_aload_n 1 e_Mo_layLine_38 rfl rfl ?_
    refine gf_Mo_7 rfl e_Mo_layLine_39 hw lay_115 (by decide) ?_
    refine g_icmp_ge 76 e_Mo_layLine_42 (by decide) ⟨fun z4 => ?_, fun z4 => ?_⟩
    · have h := h.1 z4
      refine g_iconst (v := 0) e_Mo_layLine_76 (by decide) ?_
      exact g_zret e_Mo_layLine_77 rfl (Or.inl rfl) ⟨Sh.n hw, _, rfl, hw, h⟩
    · have h := h.2 z4
      refine g_aload_n 1 e_Mo_layLine_45 rfl rfl ?_
      refine g_iload 2 e_Mo_layLine_46 rfl ?_
      refine g_aload_n 1 e_Mo_layLine_48 rfl rfl ?_
      refine gf_Mo_124 rfl e_Mo_layLine_49 hw lay_115 (by decide) (sh_Mo_line hw) ?_
      refine g_iload 3 e_Mo_layLine_52 rfl ?_
      obtain ⟨o5, h⟩ := h
      refine w_iaload ((l5).toNatClampNeg) e_Mo_layLine_54 hw lay_135 (by decide) o5 rfl ?_
      refine w_callVI (w := (qpi w 135 ((l5).toNatClampNeg) (l3 - l3 / 6 * 6))) (As := [.int l4, .int (qi (qpi w 135 ((l5).toNatClampNeg) (l3 - l3 / 6 * 6)) 135 ((l5).toNatClampNeg))]) (rest := []) e_Mo_layLine_55 ok_Mo_has rfl km_Mo_245 kx_Mo_has kv_Mo_has rfl (by decide) hw lay_115 (by decide) rfl (Nat.le_of_ble_eq_true rfl) h (fun w6 x6 hw6 h => ?_)
      refine g_if_ne 76 e_Mo_layLine_58 (by decide) ⟨fun z7 => ?_, fun z7 => ?_⟩
      · have h := h.1 z7
        refine g_iconst (v := 0) e_Mo_layLine_76 (by decide) ?_
        exact g_zret e_Mo_layLine_77 rfl (Or.inl rfl) ⟨Sh.n hw6, _, rfl, hw6, h⟩
      · have h := h.2 z7
        refine g_aload_n 1 e_Mo_layLine_61 rfl rfl ?_
        refine gf_Mo_39 rfl e_Mo_layLine_62 hw6 lay_115 (by decide) (sh_Mo_lies hw6) ?_
        refine g_aload_n 1 e_Mo_layLine_65 rfl rfl ?_
        refine gf_Mo_124 rfl e_Mo_layLine_66 hw6 lay_115 (by decide) (sh_Mo_line hw6) ?_
        refine g_iload 3 e_Mo_layLine_69 rfl ?_
        obtain ⟨o8, h⟩ := h
        refine w_iaload ((l5).toNatClampNeg) e_Mo_layLine_71 hw6 lay_135 (by decide) o8 rfl ?_
        obtain ⟨o9, h⟩ := h
        refine w_iaload ((qi w6 135 ((l5).toNatClampNeg)).toNatClampNeg) e_Mo_layLine_72 hw6 lay_120 (by decide) o9 rfl ?_
        refine g_if_eq 78 e_Mo_layLine_73 (by decide) ⟨fun z10 => ?_, fun z10 => ?_⟩
        · have h := h.1 z10
          refine g_iload 2 e_Mo_layLine_78 rfl ?_
          refine g_iconst (v := 1) e_Mo_layLine_80 (by decide) ?_
          refine g_aload_n 1 e_Mo_layLine_81 rfl rfl ?_
          refine gf_Mo_124 rfl e_Mo_layLine_82 hw6 lay_115 (by decide) (sh_Mo_line hw6) ?_
          refine g_iload 3 e_Mo_layLine_85 rfl ?_
          obtain ⟨o11, h⟩ := h
          refine w_iaload ((l5).toNatClampNeg) e_Mo_layLine_87 hw6 lay_135 (by decide) o11 rfl ?_
          refine g_ishl e_Mo_layLine_88 ?_
          refine g_ior e_Mo_layLine_89 ?_
          refine g_istore (lv := [(4, .int (l4 ||| (1 <<< ((qi w6 135 ((l5).toNatClampNeg)) &&& 31)))), (3, .int (l3 / 6)), (0, .ref (qb E + 115)), (5, .int l5)]) e_Mo_layLine_90 (by decide) rfl ?_
          refine g_iinc (v := (l5 + (-1))) (lv := [(5, .int (l5 + (-1))), (4, .int (l4 ||| (1 <<< ((qi w6 135 ((l5).toNatClampNeg)) &&& 31)))), (3, .int (l3 / 6)), (0, .ref (qb E + 115))]) 3 e_Mo_layLine_92 rfl rfl (by decide) rfl ?_
          refine g_goto 10 e_Mo_layLine_95 (by decide) ?_
          refine g_loc [3, 2, 1, 0] rfl ?_
          exact h
        · have h := h.2 z10
          refine g_iconst (v := 0) e_Mo_layLine_76 (by decide) ?_
          exact g_zret e_Mo_layLine_77 rfl (Or.inl rfl) ⟨Sh.n hw6, _, rfl, hw6, h⟩
theorem en_Mo_layLine {d : Nat} {E : qE} {Q : qW → Int32 → Prop} {a1 : Int32} {a2 : Int32} {w : qW} (hw : Sh w) (h : c_Mo_layLine_0 d E Q a1 a2 w) : CaI (d + 1) M_Mo_layLine [.ref (qb E + 115), .int a1, .int a2] E w Q := Ca.into hw rfl (Nat.le_of_ble_eq_true rfl) h
def c_Mo_colourBy_0 (d : Nat) (E : qE) (Q : qW → Int32 → Prop) (a1 : Int32) (w : qW) : Prop := Go (d + 6) M_Mo_colourBy E 161 161 (qFI Q) 0 [(0, .ref (qb E + 115)), (1, .int a1)] [] w
def c_Mo_colourBy_6 (d : Nat) (E : qE) (Q : qW → Int32 → Prop) (l1 : Int32) (l2 : Int32) (w : qW) : Prop := Go (d + 6) M_Mo_colourBy E 161 161 (qFI Q) 6 [(0, .ref (qb E + 115)), (1, .int l1), (2, .int l2)] [] w
set_option maxHeartbeats 4000000 in
set_option maxRecDepth 8000 in
theorem s_Mo_colourBy_0 {d : Nat} {E : qE} {Q : qW → Int32 → Prop} {a1 : Int32} {w : qW} (hw : Sh w) (h : CaV (d + 5) M_Mo_save [.ref (qb E + 115)] E w (fun w1 => c_Mo_colourBy_6 d E Q a1 0 w1)) : c_Mo_colourBy_0 d E Q a1 w := by
  unfold c_Mo_colourBy_0
  refine g_aload_n 0 e_Mo_colourBy_0 rfl rfl ?_
  refine w_callVV (w := w) (As := []) (rest := []) e_Mo_colourBy_1 ok_Mo_save rfl km_Mo_360 kx_Mo_save kv_Mo_save rfl (by decide) hw lay_115 (by decide) rfl (Nat.le_of_ble_eq_true rfl) h (fun w1 hw1 h => ?_)
  refine g_iconst (v := 0) e_Mo_colourBy_4 (by decide) ?_
  refine g_istore_n (lv := [(2, .int 0), (0, .ref (qb E + 115)), (1, .int a1)]) e_Mo_colourBy_5 rfl (by decide) rfl ?_
  refine g_loc [1, 2, 0] rfl ?_
  exact h
set_option maxHeartbeats 4000000 in
set_option maxRecDepth 8000 in
theorem s_Mo_colourBy_6 {d : Nat} {E : qE} {Q : qW → Int32 → Prop} {l1 : Int32} {l2 : Int32} {w : qW} (hw : Sh w) (h : ((l1 ≤ l2) → (CaV (d + 5) M_Mo_putBack [.ref (qb E + 115)] E w (fun w2 => Q w2 (qi w 115 2)))) ∧ ((¬ l1 ≤ l2) → (vp_in l2 3 ∧ (CaV (d + 5) M_Mo_puts [.ref (qb E + 115), .int (qi w 135 ((l2).toNatClampNeg))] E w (fun w4 => CaV (d + 5) M_Mo_goMinute [.ref (qb E + 115)] E w4 (fun w5 => c_Mo_colourBy_6 d E Q l1 (l2 + 1) w5)))))) : c_Mo_colourBy_6 d E Q l1 l2 w := by
  unfold c_Mo_colourBy_6
  refine g_iload_n 2 e_Mo_colourBy_6 rfl rfl ?_
  refine g_iload_n 1 e_Mo_colourBy_7 rfl rfl ?_
  refine g_icmp_ge 31 e_Mo_colourBy_8 (by decide) ⟨fun z1 => ?_, fun z1 => ?_⟩
  · have h := h.1 z1
    refine g_aload_n 0 e_Mo_colourBy_31 rfl rfl ?_
    refine gf_Mo_16 rfl e_Mo_colourBy_32 hw lay_115 (by decide) ?_
    refine g_istore_n (lv := [(2, .int (qi w 115 2)), (0, .ref (qb E + 115)), (1, .int l1)]) e_Mo_colourBy_35 rfl (by decide) rfl ?_
    refine g_aload_n 1 e_Mo_colourBy_36 rfl rfl ?_
    refine w_callVV (w := w) (As := []) (rest := []) e_Mo_colourBy_37 ok_Mo_putBack rfl km_Mo_363 kx_Mo_putBack kv_Mo_putBack rfl (by decide) hw lay_115 (by decide) rfl (Nat.le_of_ble_eq_true rfl) h (fun w2 hw2 h => ?_)
    refine g_iload_n 0 e_Mo_colourBy_40 rfl rfl ?_
    exact g_iret e_Mo_colourBy_41 rfl ⟨Sh.n hw2, _, rfl, hw2, h⟩
  · have h := h.2 z1
    refine g_aload_n 0 e_Mo_colourBy_11 rfl rfl ?_
    refine g_aload_n 0 e_Mo_colourBy_12 rfl rfl ?_
    refine gf_Mo_124 rfl e_Mo_colourBy_13 hw lay_115 (by decide) (sh_Mo_line hw) ?_
    refine g_iload_n 2 e_Mo_colourBy_16 rfl rfl ?_
    obtain ⟨o3, h⟩ := h
    refine w_iaload ((l2).toNatClampNeg) e_Mo_colourBy_17 hw lay_135 (by decide) o3 rfl ?_
    refine w_callVV (w := w) (As := [.int (qi w 135 ((l2).toNatClampNeg))]) (rest := []) e_Mo_colourBy_18 ok_Mo_puts rfl km_Mo_260 kx_Mo_puts kv_Mo_puts rfl (by decide) hw lay_115 (by decide) rfl (Nat.le_of_ble_eq_true rfl) h (fun w4 hw4 h => ?_)
    refine g_aload_n 0 e_Mo_colourBy_21 rfl rfl ?_
    refine w_callVV (w := w4) (As := []) (rest := []) e_Mo_colourBy_22 ok_Mo_goMinute rfl km_Mo_350 kx_Mo_goMinute kv_Mo_goMinute rfl (by decide) hw4 lay_115 (by decide) rfl (Nat.le_of_ble_eq_true rfl) h (fun w5 hw5 h => ?_)
    refine g_iinc (v := (l2 + 1)) (lv := [(2, .int (l2 + 1)), (0, .ref (qb E + 115)), (1, .int l1)]) 2 e_Mo_colourBy_25 rfl rfl (by decide) rfl ?_
    refine g_goto 6 e_Mo_colourBy_28 (by decide) ?_
    refine g_loc [1, 2, 0] rfl ?_
    exact h
theorem en_Mo_colourBy {d : Nat} {E : qE} {Q : qW → Int32 → Prop} {a1 : Int32} {w : qW} (hw : Sh w) (h : c_Mo_colourBy_0 d E Q a1 w) : CaI (d + 6) M_Mo_colourBy [.ref (qb E + 115), .int a1] E w Q := Ca.into hw rfl (Nat.le_of_ble_eq_true rfl) h
def c_Mo_best_0 (d : Nat) (E : qE) (Q : qW → Int32 → Prop) (a1 : Int32) (a2 : Int32) (w : qW) : Prop := Go (d + 7) M_Mo_best E 161 161 (qFI Q) 0 [(0, .ref (qb E + 115)), (1, .int a1), (2, .int a2)] [] w
def c_Mo_best_30 (d : Nat) (E : qE) (Q : qW → Int32 → Prop) (l1 : Int32) (l2 : Int32) (l3 : Int32) (l4 : Int32) (w : qW) : Prop := Go (d + 7) M_Mo_best E 161 161 (qFI Q) 30 [(0, .ref (qb E + 115)), (1, .int l1), (2, .int l2), (3, .int l3), (4, .int l4)] [] w
def c_Mo_best_54 (d : Nat) (E : qE) (Q : qW → Int32 → Prop) (l1 : Int32) (l2 : Int32) (l3 : Int32) (l4 : Int32) (l5 : Int32) (w : qW) : Prop := Go (d + 7) M_Mo_best E 161 161 (qFI Q) 54 [(0, .ref (qb E + 115)), (1, .int l1), (2, .int l2), (3, .int l3), (4, .int l4), (5, .int l5)] [] w
def c_Mo_best_97 (d : Nat) (E : qE) (Q : qW → Int32 → Prop) (l1 : Int32) (l2 : Int32) (l3 : Int32) (l4 : Int32) (l5 : Int32) (l7 : Int32) (w : qW) : Prop := Go (d + 7) M_Mo_best E 161 161 (qFI Q) 97 [(0, .ref (qb E + 115)), (1, .int l1), (2, .int l2), (3, .int l3), (4, .int l4), (5, .int l5), (7, .int l7)] [] w
set_option maxHeartbeats 4000000 in
set_option maxRecDepth 8000 in
theorem s_Mo_best_0 {d : Nat} {E : qE} {Q : qW → Int32 → Prop} {a1 : Int32} {a2 : Int32} {w : qW} (hw : Sh w) (h : CaI (d + 6) M_Mo_in [.ref (qb E + 115), .int a2, .int (-1), .int 2] E w (fun w1 x1 => ((¬ x1 = 0) → (CaI (d + 6) M_Mo_in [.ref (qb E + 115), .int a1, .int 1, .int 3] E w1 (fun w3 x3 => ((¬ x3 = 0) → (c_Mo_best_30 d E Q a1 a2 1 0 w3)) ∧ ((x3 = 0) → (Q w3 (-2)))))) ∧ ((x1 = 0) → (Q w1 (-1))))) : c_Mo_best_0 d E Q a1 a2 w := by
  unfold c_Mo_best_0
  refine g_aload_n 0 e_Mo_best_0 rfl rfl ?_
  refine g_iload_n 2 e_Mo_best_1 rfl rfl ?_
  refine g_iconst (v := (-1)) e_Mo_best_2 (by decide) ?_
  refine g_iconst (v := 2) e_Mo_best_3 (by decide) ?_
  refine w_callVI (w := w) (As := [.int a2, .int (-1), .int 2]) (rest := []) e_Mo_best_4 ok_Mo_in rfl km_Mo_249 kx_Mo_in kv_Mo_in rfl (by decide) hw lay_115 (by decide) rfl (Nat.le_of_ble_eq_true rfl) h (fun w1 x1 hw1 h => ?_)
  refine g_if_ne 12 e_Mo_best_7 (by decide) ⟨fun z2 => ?_, fun z2 => ?_⟩
  · have h := h.1 z2
    refine g_aload_n 0 e_Mo_best_12 rfl rfl ?_
    refine g_iload_n 1 e_Mo_best_13 rfl rfl ?_
    refine g_iconst (v := 1) e_Mo_best_14 (by decide) ?_
    refine g_iconst (v := 3) e_Mo_best_15 (by decide) ?_
    refine w_callVI (w := w1) (As := [.int a1, .int 1, .int 3]) (rest := []) e_Mo_best_16 ok_Mo_in rfl km_Mo_249 kx_Mo_in kv_Mo_in rfl (by decide) hw1 lay_115 (by decide) rfl (Nat.le_of_ble_eq_true rfl) h (fun w3 x3 hw3 h => ?_)
    refine g_if_ne 25 e_Mo_best_19 (by decide) ⟨fun z4 => ?_, fun z4 => ?_⟩
    · have h := h.1 z4
      refine g_iconst (v := 1) e_Mo_best_25 (by decide) ?_
      refine g_istore_n (lv := [(3, .int 1), (0, .ref (qb E + 115)), (1, .int a1), (2, .int a2)]) e_Mo_best_26 rfl (by decide) rfl ?_
      refine g_iconst (v := 0) e_Mo_best_27 (by decide) ?_
      refine g_istore (lv := [(4, .int 0), (3, .int 1), (0, .ref (qb E + 115)), (1, .int a1), (2, .int a2)]) e_Mo_best_28 (by decide) rfl ?_
      refine g_loc [2, 3, 4, 1, 0] rfl ?_
      exact h
    · have h := h.2 z4
      refine g_bipush (v := (-2)) e_Mo_best_22 (by decide) ?_
      exact g_iret e_Mo_best_24 rfl ⟨Sh.n hw3, _, rfl, hw3, h⟩
  · have h := h.2 z2
    refine g_iconst (v := (-1)) e_Mo_best_10 (by decide) ?_
    exact g_iret e_Mo_best_11 rfl ⟨Sh.n hw1, _, rfl, hw1, h⟩
set_option maxHeartbeats 4000000 in
set_option maxRecDepth 8000 in
theorem s_Mo_best_30 {d : Nat} {E : qE} {Q : qW → Int32 → Prop} {l1 : Int32} {l2 : Int32} {l3 : Int32} {l4 : Int32} {w : qW} (hw : Sh w) (h : ((l1 ≤ l4) → (c_Mo_best_54 d E Q l1 l2 l3 (-5) 0 w)) ∧ ((¬ l1 ≤ l4) → (c_Mo_best_30 d E Q l1 l2 (l3 * 6) (l4 + 1) w))) : c_Mo_best_30 d E Q l1 l2 l3 l4 w := by
  unfold c_Mo_best_30
  refine g_iload 4 e_Mo_best_30 rfl ?_
  refine g_iload_n 1 e_Mo_best_32 rfl rfl ?_
  refine g_icmp_ge 47 e_Mo_best_33 (by decide) ⟨fun z1 => ?_, fun z1 => ?_⟩
  · have h := h.1 z1
    refine g_bipush (v := (-5)) e_Mo_best_47 (by decide) ?_
    refine g_istore (lv := [(4, .int (-5)), (0, .ref (qb E + 115)), (1, .int l1), (2, .int l2), (3, .int l3)]) e_Mo_best_49 (by decide) rfl ?_
    refine g_iconst (v := 0) e_Mo_best_51 (by decide) ?_
    refine g_istore (lv := [(5, .int 0), (4, .int (-5)), (0, .ref (qb E + 115)), (1, .int l1), (2, .int l2), (3, .int l3)]) e_Mo_best_52 (by decide) rfl ?_
    refine g_loc [2, 3, 4, 5, 1, 0] rfl ?_
    exact h
  · have h := h.2 z1
    refine g_iload_n 3 e_Mo_best_36 rfl rfl ?_
    refine g_bipush (v := 6) e_Mo_best_37 (by decide) ?_
    refine g_imul e_Mo_best_39 ?_
    refine g_istore_n (lv := [(3, .int (l3 * 6)), (0, .ref (qb E + 115)), (1, .int l1), (2, .int l2), (4, .int l4)]) e_Mo_best_40 rfl (by decide) rfl ?_
    refine g_iinc (v := (l4 + 1)) (lv := [(4, .int (l4 + 1)), (3, .int (l3 * 6)), (0, .ref (qb E + 115)), (1, .int l1), (2, .int l2)]) 4 e_Mo_best_41 rfl rfl (by decide) rfl ?_
    refine g_goto 30 e_Mo_best_44 (by decide) ?_
    refine g_loc [2, 3, 4, 1, 0] rfl ?_
    exact h
set_option maxHeartbeats 4000000 in
set_option maxRecDepth 8000 in
theorem s_Mo_best_54 {d : Nat} {E : qE} {Q : qW → Int32 → Prop} {l1 : Int32} {l2 : Int32} {l3 : Int32} {l4 : Int32} {l5 : Int32} {w : qW} (hw : Sh w) (h : ((l3 ≤ l5) → (((l2 < 0) → (Q w l4)) ∧ ((¬ l2 < 0) → (((0 ≤ l4) → (((l1 ≤ l2) → (Q w (-5))) ∧ ((¬ l1 ≤ l2) → (vp_in l2 3 ∧ (Q w (qi w 136 ((l2).toNatClampNeg))))))) ∧ ((¬ 0 ≤ l4) → (Q w l4)))))) ∧ ((¬ l3 ≤ l5) → (CaI (d + 6) M_Mo_layLine [.ref (qb E + 115), .int l5, .int l1] E w (fun w6 x6 => ((¬ x6 = 0) → (CaI (d + 6) M_Mo_colourBy [.ref (qb E + 115), .int l1] E w6 (fun w8 x8 => ((l4 < x8) → (c_Mo_best_97 d E Q l1 l2 l3 x8 l5 0 w8)) ∧ ((¬ l4 < x8) → (c_Mo_best_54 d E Q l1 l2 l3 l4 (l5 + 1) w8))))) ∧ ((x6 = 0) → (c_Mo_best_54 d E Q l1 l2 l3 l4 (l5 + 1) w6)))))) : c_Mo_best_54 d E Q l1 l2 l3 l4 l5 w := by
  unfold c_Mo_best_54
  refine g_iload 5 e_Mo_best_54 rfl ?_
  refine g_iload_n 3 e_Mo_best_56 rfl rfl ?_
  refine g_icmp_ge 129 e_Mo_best_57 (by decide) ⟨fun z1 => ?_, fun z1 => ?_⟩
  · have h := h.1 z1
    refine g_iload_n 2 e_Mo_best_129 rfl rfl ?_
    refine g_if_lt 138 e_Mo_best_130 (by decide) ⟨fun z2 => ?_, fun z2 => ?_⟩
    · have h := h.1 z2
      refine g_iload 4 e_Mo_best_138 rfl ?_
      exact g_iret e_Mo_best_140 rfl ⟨Sh.n hw, _, rfl, hw, h⟩
    · have h := h.2 z2
      refine g_iload 4 e_Mo_best_133 rfl ?_
      refine g_if_ge 141 e_Mo_best_135 (by decide) ⟨fun z3 => ?_, fun z3 => ?_⟩
      · have h := h.1 z3
        refine g_iload_n 2 e_Mo_best_141 rfl rfl ?_
        refine g_iload_n 1 e_Mo_best_142 rfl rfl ?_
        refine g_icmp_ge 155 e_Mo_best_143 (by decide) ⟨fun z4 => ?_, fun z4 => ?_⟩
        · have h := h.1 z4
          refine g_bipush (v := (-5)) e_Mo_best_155 (by decide) ?_
          exact g_iret e_Mo_best_157 rfl ⟨Sh.n hw, _, rfl, hw, h⟩
        · have h := h.2 z4
          refine g_aload_n 0 e_Mo_best_146 rfl rfl ?_
          refine gf_Mo_127 rfl e_Mo_best_147 hw lay_115 (by decide) (sh_Mo_bestLine hw) ?_
          refine g_iload_n 2 e_Mo_best_150 rfl rfl ?_
          obtain ⟨o5, h⟩ := h
          refine w_iaload ((l2).toNatClampNeg) e_Mo_best_151 hw lay_136 (by decide) o5 rfl ?_
          refine g_goto 157 e_Mo_best_152 (by decide) ?_
          exact g_iret e_Mo_best_157 rfl ⟨Sh.n hw, _, rfl, hw, h⟩
      · have h := h.2 z3
        refine g_iload 4 e_Mo_best_138 rfl ?_
        exact g_iret e_Mo_best_140 rfl ⟨Sh.n hw, _, rfl, hw, h⟩
  · have h := h.2 z1
    refine g_aload_n 0 e_Mo_best_60 rfl rfl ?_
    refine g_iload 5 e_Mo_best_61 rfl ?_
    refine g_iload_n 1 e_Mo_best_63 rfl rfl ?_
    refine w_callVI (w := w) (As := [.int l5, .int l1]) (rest := []) e_Mo_best_64 ok_Mo_layLine rfl km_Mo_375 kx_Mo_layLine kv_Mo_layLine rfl (by decide) hw lay_115 (by decide) rfl (Nat.le_of_ble_eq_true rfl) h (fun w6 x6 hw6 h => ?_)
    refine g_if_ne 73 e_Mo_best_67 (by decide) ⟨fun z7 => ?_, fun z7 => ?_⟩
    · have h := h.1 z7
      refine g_aload_n 0 e_Mo_best_73 rfl rfl ?_
      refine g_iload_n 1 e_Mo_best_74 rfl rfl ?_
      refine w_callVI (w := w6) (As := [.int l1]) (rest := []) e_Mo_best_75 ok_Mo_colourBy rfl km_Mo_378 kx_Mo_colourBy kv_Mo_colourBy rfl (by decide) hw6 lay_115 (by decide) rfl (Nat.le_of_ble_eq_true rfl) h (fun w8 x8 hw8 h => ?_)
      refine g_istore (lv := [(6, .int x8), (0, .ref (qb E + 115)), (1, .int l1), (2, .int l2), (3, .int l3), (4, .int l4), (5, .int l5)]) e_Mo_best_78 (by decide) rfl ?_
      refine g_iload 0 e_Mo_best_80 rfl ?_
      refine g_iload 5 e_Mo_best_82 rfl ?_
      refine g_icmp_gt 90 e_Mo_best_84 (by decide) ⟨fun z9 => ?_, fun z9 => ?_⟩
      · have h := h.1 z9
        refine g_iload 0 e_Mo_best_90 rfl ?_
        refine g_istore (lv := [(4, .int x8), (6, .int x8), (0, .ref (qb E + 115)), (1, .int l1), (2, .int l2), (3, .int l3), (5, .int l5)]) e_Mo_best_92 (by decide) rfl ?_
        refine g_iconst (v := 0) e_Mo_best_94 (by decide) ?_
        refine g_istore (lv := [(7, .int 0), (4, .int x8), (6, .int x8), (0, .ref (qb E + 115)), (1, .int l1), (2, .int l2), (3, .int l3), (5, .int l5)]) e_Mo_best_95 (by decide) rfl ?_
        refine g_loc [3, 4, 5, 6, 1, 7, 0] rfl ?_
        exact h
      · have h := h.2 z9
        refine g_goto 123 e_Mo_best_87 (by decide) ?_
        refine g_iinc (v := (l5 + 1)) (lv := [(5, .int (l5 + 1)), (6, .int x8), (0, .ref (qb E + 115)), (1, .int l1), (2, .int l2), (3, .int l3), (4, .int l4)]) 6 e_Mo_best_123 rfl rfl (by decide) rfl ?_
        refine g_goto 54 e_Mo_best_126 (by decide) ?_
        refine g_loc [2, 3, 4, 5, 6, 0] rfl ?_
        exact h
    · have h := h.2 z7
      refine g_goto 123 e_Mo_best_70 (by decide) ?_
      refine g_iinc (v := (l5 + 1)) (lv := [(5, .int (l5 + 1)), (0, .ref (qb E + 115)), (1, .int l1), (2, .int l2), (3, .int l3), (4, .int l4)]) 5 e_Mo_best_123 rfl rfl (by decide) rfl ?_
      refine g_goto 54 e_Mo_best_126 (by decide) ?_
      refine g_loc [1, 2, 3, 4, 5, 0] rfl ?_
      exact h
set_option maxHeartbeats 4000000 in
set_option maxRecDepth 8000 in
theorem s_Mo_best_97 {d : Nat} {E : qE} {Q : qW → Int32 → Prop} {l1 : Int32} {l2 : Int32} {l3 : Int32} {l4 : Int32} {l5 : Int32} {l7 : Int32} {w : qW} (hw : Sh w) (h : ((3 ≤ l7) → (c_Mo_best_54 d E Q l1 l2 l3 l4 (l5 + 1) w)) ∧ ((¬ 3 ≤ l7) → (vp_in l7 3 ∧ (vp_in l7 3 ∧ (c_Mo_best_97 d E Q l1 l2 l3 l4 l5 (l7 + 1) (qpi w 136 ((l7).toNatClampNeg) (qi w 135 ((l7).toNatClampNeg)))))))) : c_Mo_best_97 d E Q l1 l2 l3 l4 l5 l7 w := by
  unfold c_Mo_best_97
  refine g_iload 6 e_Mo_best_97 rfl ?_
  refine g_iconst (v := 3) e_Mo_best_99 (by decide) ?_
  refine g_icmp_ge 123 e_Mo_best_100 (by decide) ⟨fun z1 => ?_, fun z1 => ?_⟩
  · have h := h.1 z1
    refine g_iinc (v := (l5 + 1)) (lv := [(5, .int (l5 + 1)), (0, .ref (qb E + 115)), (1, .int l1), (2, .int l2), (3, .int l3), (4, .int l4), (7, .int l7)]) 5 e_Mo_best_123 rfl rfl (by decide) rfl ?_
    refine g_goto 54 e_Mo_best_126 (by decide) ?_
    refine g_loc [1, 2, 3, 4, 5, 0] rfl ?_
    exact h
  · have h := h.2 z1
    refine g_aload_n 0 e_Mo_best_103 rfl rfl ?_
    refine gf_Mo_127 rfl e_Mo_best_104 hw lay_115 (by decide) (sh_Mo_bestLine hw) ?_
    refine g_iload 6 e_Mo_best_107 rfl ?_
    refine g_aload_n 0 e_Mo_best_109 rfl rfl ?_
    refine gf_Mo_124 rfl e_Mo_best_110 hw lay_115 (by decide) (sh_Mo_line hw) ?_
    refine g_iload 6 e_Mo_best_113 rfl ?_
    obtain ⟨o2, h⟩ := h
    refine w_iaload ((l7).toNatClampNeg) e_Mo_best_115 hw lay_135 (by decide) o2 rfl ?_
    obtain ⟨o3, h⟩ := h
    refine w_iastore ((l7).toNatClampNeg) e_Mo_best_116 hw lay_136 (by decide) o3 rfl ?_
    refine g_iinc (v := (l7 + 1)) (lv := [(7, .int (l7 + 1)), (0, .ref (qb E + 115)), (1, .int l1), (2, .int l2), (3, .int l3), (4, .int l4), (5, .int l5)]) 6 e_Mo_best_117 rfl rfl (by decide) rfl ?_
    refine g_goto 97 e_Mo_best_120 (by decide) ?_
    refine g_loc [1, 2, 3, 4, 5, 6, 0] rfl ?_
    exact h
theorem en_Mo_best {d : Nat} {E : qE} {Q : qW → Int32 → Prop} {a1 : Int32} {a2 : Int32} {w : qW} (hw : Sh w) (h : c_Mo_best_0 d E Q a1 a2 w) : CaI (d + 7) M_Mo_best [.ref (qb E + 115), .int a1, .int a2] E w Q := Ca.into hw rfl (Nat.le_of_ble_eq_true rfl) h
def c_Mo_isSetBy_0 (d : Nat) (E : qE) (Q : qW → Int32 → Prop) (a1 : Int32) (a2 : Int32) (w : qW) : Prop := Go (d + 7) M_Mo_isSetBy E 161 161 (qFI Q) 0 [(0, .ref (qb E + 115)), (1, .int a1), (2, .int a2)] [] w
def c_Mo_isSetBy_6 (d : Nat) (E : qE) (Q : qW → Int32 → Prop) (l1 : Int32) (l2 : Int32) (l3 : Int32) (w : qW) : Prop := Go (d + 7) M_Mo_isSetBy E 161 161 (qFI Q) 6 [(0, .ref (qb E + 115)), (1, .int l1), (2, .int l2), (3, .int l3)] [] w
set_option maxHeartbeats 4000000 in
set_option maxRecDepth 8000 in
theorem s_Mo_isSetBy_0 {d : Nat} {E : qE} {Q : qW → Int32 → Prop} {a1 : Int32} {a2 : Int32} {w : qW} (hw : Sh w) (h : CaV (d + 6) M_Mo_save [.ref (qb E + 115)] E w (fun w1 => c_Mo_isSetBy_6 d E Q a1 a2 0 w1)) : c_Mo_isSetBy_0 d E Q a1 a2 w := by
  unfold c_Mo_isSetBy_0
  refine g_aload_n 0 e_Mo_isSetBy_0 rfl rfl ?_
  refine w_callVV (w := w) (As := []) (rest := []) e_Mo_isSetBy_1 ok_Mo_save rfl km_Mo_360 kx_Mo_save kv_Mo_save rfl (by decide) hw lay_115 (by decide) rfl (Nat.le_of_ble_eq_true rfl) h (fun w1 hw1 h => ?_)
  refine g_iconst (v := 0) e_Mo_isSetBy_4 (by decide) ?_
  refine g_istore_n (lv := [(3, .int 0), (0, .ref (qb E + 115)), (1, .int a1), (2, .int a2)]) e_Mo_isSetBy_5 rfl (by decide) rfl ?_
  refine g_loc [1, 2, 3, 0] rfl ?_
  exact h
set_option maxHeartbeats 4000000 in
set_option maxRecDepth 8000 in
theorem s_Mo_isSetBy_6 {d : Nat} {E : qE} {Q : qW → Int32 → Prop} {l1 : Int32} {l2 : Int32} {l3 : Int32} {w : qW} (hw : Sh w) (h : (((qi w 115 0) ≤ l3) → (CaV (d + 6) M_Mo_goMinutes [.ref (qb E + 115), .int l2] E w (fun w2 => CaV (d + 6) M_Mo_putBack [.ref (qb E + 115)] E w2 (fun w3 => Q w3 (qz (qi w2 115 4)))))) ∧ ((¬ (qi w 115 0) ≤ l3) → (CaI (d + 6) M_Mo_has [.ref (qb E + 115), .int l1, .int l3] E w (fun w4 x4 => ((x4 = 0) → (c_Mo_isSetBy_6 d E Q l1 l2 (l3 + 1) w4)) ∧ ((¬ x4 = 0) → (CaV (d + 6) M_Mo_puts [.ref (qb E + 115), .int l3] E w4 (fun w6 => c_Mo_isSetBy_6 d E Q l1 l2 (l3 + 1) w6))))))) : c_Mo_isSetBy_6 d E Q l1 l2 l3 w := by
  unfold c_Mo_isSetBy_6
  refine g_iload_n 3 e_Mo_isSetBy_6 rfl rfl ?_
  refine g_aload_n 0 e_Mo_isSetBy_7 rfl rfl ?_
  refine gf_Mo_7 rfl e_Mo_isSetBy_8 hw lay_115 (by decide) ?_
  refine g_icmp_ge 34 e_Mo_isSetBy_11 (by decide) ⟨fun z1 => ?_, fun z1 => ?_⟩
  · have h := h.1 z1
    refine g_aload_n 0 e_Mo_isSetBy_34 rfl rfl ?_
    refine g_iload_n 2 e_Mo_isSetBy_35 rfl rfl ?_
    refine w_callVV (w := w) (As := [.int l2]) (rest := []) e_Mo_isSetBy_36 ok_Mo_goMinutes rfl km_Mo_356 kx_Mo_goMinutes kv_Mo_goMinutes rfl (by decide) hw lay_115 (by decide) rfl (Nat.le_of_ble_eq_true rfl) h (fun w2 hw2 h => ?_)
    refine g_aload_n 0 e_Mo_isSetBy_39 rfl rfl ?_
    refine gf_Mo_22 rfl e_Mo_isSetBy_40 hw2 lay_115 (by decide) ?_
    refine g_istore_n (lv := [(3, .int (qz (qi w2 115 4))), (0, .ref (qb E + 115)), (1, .int l1), (2, .int l2)]) e_Mo_isSetBy_43 rfl (by decide) rfl ?_
    refine g_aload_n 1 e_Mo_isSetBy_44 rfl rfl ?_
    refine w_callVV (w := w2) (As := []) (rest := []) e_Mo_isSetBy_45 ok_Mo_putBack rfl km_Mo_363 kx_Mo_putBack kv_Mo_putBack rfl (by decide) hw2 lay_115 (by decide) rfl (Nat.le_of_ble_eq_true rfl) h (fun w3 hw3 h => ?_)
    refine g_iload_n 0 e_Mo_isSetBy_48 rfl rfl ?_
    exact g_zret e_Mo_isSetBy_49 rfl (qz_01 _) ⟨Sh.n hw3, _, rfl, hw3, h⟩
  · have h := h.2 z1
    refine g_aload_n 0 e_Mo_isSetBy_14 rfl rfl ?_
    refine g_iload_n 1 e_Mo_isSetBy_15 rfl rfl ?_
    refine g_iload_n 3 e_Mo_isSetBy_16 rfl rfl ?_
    refine w_callVI (w := w) (As := [.int l1, .int l3]) (rest := []) e_Mo_isSetBy_17 ok_Mo_has rfl km_Mo_245 kx_Mo_has kv_Mo_has rfl (by decide) hw lay_115 (by decide) rfl (Nat.le_of_ble_eq_true rfl) h (fun w4 x4 hw4 h => ?_)
    refine g_if_eq 28 e_Mo_isSetBy_20 (by decide) ⟨fun z5 => ?_, fun z5 => ?_⟩
    · have h := h.1 z5
      refine g_iinc (v := (l3 + 1)) (lv := [(3, .int (l3 + 1)), (0, .ref (qb E + 115)), (1, .int l1), (2, .int l2)]) 3 e_Mo_isSetBy_28 rfl rfl (by decide) rfl ?_
      refine g_goto 6 e_Mo_isSetBy_31 (by decide) ?_
      refine g_loc [1, 2, 3, 0] rfl ?_
      exact h
    · have h := h.2 z5
      refine g_aload_n 0 e_Mo_isSetBy_23 rfl rfl ?_
      refine g_iload_n 3 e_Mo_isSetBy_24 rfl rfl ?_
      refine w_callVV (w := w4) (As := [.int l3]) (rest := []) e_Mo_isSetBy_25 ok_Mo_puts rfl km_Mo_260 kx_Mo_puts kv_Mo_puts rfl (by decide) hw4 lay_115 (by decide) rfl (Nat.le_of_ble_eq_true rfl) h (fun w6 hw6 h => ?_)
      refine g_iinc (v := (l3 + 1)) (lv := [(3, .int (l3 + 1)), (0, .ref (qb E + 115)), (1, .int l1), (2, .int l2)]) 3 e_Mo_isSetBy_28 rfl rfl (by decide) rfl ?_
      refine g_goto 6 e_Mo_isSetBy_31 (by decide) ?_
      refine g_loc [1, 2, 3, 0] rfl ?_
      exact h
theorem en_Mo_isSetBy {d : Nat} {E : qE} {Q : qW → Int32 → Prop} {a1 : Int32} {a2 : Int32} {w : qW} (hw : Sh w) (h : c_Mo_isSetBy_0 d E Q a1 a2 w) : CaI (d + 7) M_Mo_isSetBy [.ref (qb E + 115), .int a1, .int a2] E w Q := Ca.into hw rfl (Nat.le_of_ble_eq_true rfl) h
def c_Mo_enough_0 (d : Nat) (E : qE) (Q : qW → Int32 → Prop) (a1 : Int32) (w : qW) : Prop := Go (d + 8) M_Mo_enough E 161 161 (qFI Q) 0 [(0, .ref (qb E + 115)), (1, .int a1)] [] w
def c_Mo_enough_26 (d : Nat) (E : qE) (Q : qW → Int32 → Prop) (l1 : Int32) (l2 : Int32) (l3 : Int32) (l4 : Int32) (w : qW) : Prop := Go (d + 8) M_Mo_enough E 161 161 (qFI Q) 26 [(0, .ref (qb E + 115)), (1, .int l1), (2, .int l2), (3, .int l3), (4, .int l4)] [] w
set_option maxHeartbeats 4000000 in
set_option maxRecDepth 8000 in
theorem s_Mo_enough_0 {d : Nat} {E : qE} {Q : qW → Int32 → Prop} {a1 : Int32} {w : qW} (hw : Sh w) (h : CaI (d + 7) M_Mo_in [.ref (qb E + 115), .int a1, .int 1, .int 12] E w (fun w1 x1 => ((¬ x1 = 0) → (CaI (d + 7) M_Mo_setOf [.ref (qb E + 115), .int 0] E w1 (fun w3 x3 => c_Mo_enough_26 d E Q a1 (-5) x3 0 w3))) ∧ ((x1 = 0) → (Q w1 (-2))))) : c_Mo_enough_0 d E Q a1 w := by
  unfold c_Mo_enough_0
  refine g_aload_n 0 e_Mo_enough_0 rfl rfl ?_
  refine g_iload_n 1 e_Mo_enough_1 rfl rfl ?_
  refine g_iconst (v := 1) e_Mo_enough_2 (by decide) ?_
  refine g_bipush (v := 12) e_Mo_enough_3 (by decide) ?_
  refine w_callVI (w := w) (As := [.int a1, .int 1, .int 12]) (rest := []) e_Mo_enough_5 ok_Mo_in rfl km_Mo_249 kx_Mo_in kv_Mo_in rfl (by decide) hw lay_115 (by decide) rfl (Nat.le_of_ble_eq_true rfl) h (fun w1 x1 hw1 h => ?_)
  refine g_if_ne 14 e_Mo_enough_8 (by decide) ⟨fun z2 => ?_, fun z2 => ?_⟩
  · have h := h.1 z2
    refine g_bipush (v := (-5)) e_Mo_enough_14 (by decide) ?_
    refine g_istore_n (lv := [(2, .int (-5)), (0, .ref (qb E + 115)), (1, .int a1)]) e_Mo_enough_16 rfl (by decide) rfl ?_
    refine g_aload_n 1 e_Mo_enough_17 rfl rfl ?_
    refine g_iconst (v := 0) e_Mo_enough_18 (by decide) ?_
    refine w_callVI (w := w1) (As := [.int 0]) (rest := []) e_Mo_enough_19 ok_Mo_setOf rfl km_Mo_264 kx_Mo_setOf kv_Mo_setOf rfl (by decide) hw1 lay_115 (by decide) rfl (Nat.le_of_ble_eq_true rfl) h (fun w3 x3 hw3 h => ?_)
    refine g_istore_n (lv := [(3, .int x3), (2, .int (-5)), (0, .ref (qb E + 115)), (1, .int a1)]) e_Mo_enough_22 rfl (by decide) rfl ?_
    refine g_iconst (v := 0) e_Mo_enough_23 (by decide) ?_
    refine g_istore (lv := [(4, .int 0), (3, .int x3), (2, .int (-5)), (0, .ref (qb E + 115)), (1, .int a1)]) e_Mo_enough_24 (by decide) rfl ?_
    refine g_loc [3, 4, 2, 1, 0] rfl ?_
    exact h
  · have h := h.2 z2
    refine g_bipush (v := (-2)) e_Mo_enough_11 (by decide) ?_
    exact g_iret e_Mo_enough_13 rfl ⟨Sh.n hw1, _, rfl, hw1, h⟩
set_option maxHeartbeats 4000000 in
set_option maxRecDepth 8000 in
theorem s_Mo_enough_26 {d : Nat} {E : qE} {Q : qW → Int32 → Prop} {l1 : Int32} {l2 : Int32} {l3 : Int32} {l4 : Int32} {w : qW} (hw : Sh w) (h : ((l3 < l4) → (Q w l2)) ∧ ((¬ l3 < l4) → (((¬ (l4 &&& (l3 ^^^ (-1))) = 0) → (c_Mo_enough_26 d E Q l1 l2 l3 (l4 + 1) w)) ∧ (((l4 &&& (l3 ^^^ (-1))) = 0) → (((l2 < 0) → (CaI (d + 7) M_Mo_isSetBy [.ref (qb E + 115), .int l4, .int l1] E w (fun w4 x4 => ((x4 = 0) → (c_Mo_enough_26 d E Q l1 l2 l3 (l4 + 1) w4)) ∧ ((¬ x4 = 0) → (c_Mo_enough_26 d E Q l1 l4 l3 (l4 + 1) w4))))) ∧ ((¬ l2 < 0) → (CaI (d + 7) M_Mo_bits [.ref (qb E + 115), .int l4] E w (fun w6 x6 => CaI (d + 7) M_Mo_bits [.ref (qb E + 115), .int l2] E w6 (fun w7 x7 => ((x6 < x7) → (CaI (d + 7) M_Mo_isSetBy [.ref (qb E + 115), .int l4, .int l1] E w7 (fun w9 x9 => ((x9 = 0) → (c_Mo_enough_26 d E Q l1 l2 l3 (l4 + 1) w9)) ∧ ((¬ x9 = 0) → (c_Mo_enough_26 d E Q l1 l4 l3 (l4 + 1) w9))))) ∧ ((¬ x6 < x7) → (c_Mo_enough_26 d E Q l1 l2 l3 (l4 + 1) w7))))))))))) : c_Mo_enough_26 d E Q l1 l2 l3 l4 w := by
  unfold c_Mo_enough_26
  refine g_iload 4 e_Mo_enough_26 rfl ?_
  refine g_iload_n 3 e_Mo_enough_28 rfl rfl ?_
  refine g_icmp_gt 85 e_Mo_enough_29 (by decide) ⟨fun z1 => ?_, fun z1 => ?_⟩
  · have h := h.1 z1
    refine g_iload_n 2 e_Mo_enough_85 rfl rfl ?_
    exact g_iret e_Mo_enough_86 rfl ⟨Sh.n hw, _, rfl, hw, h⟩
  · have h := h.2 z1
    refine g_iload 4 e_Mo_enough_32 rfl ?_
    refine g_iload_n 3 e_Mo_enough_34 rfl rfl ?_
    refine g_iconst (v := (-1)) e_Mo_enough_35 (by decide) ?_
    refine g_ixor e_Mo_enough_36 ?_
    refine g_iand e_Mo_enough_37 ?_
    refine g_if_ne 79 e_Mo_enough_38 (by decide) ⟨fun z2 => ?_, fun z2 => ?_⟩
    · have h := h.1 z2
      refine g_iinc (v := (l4 + 1)) (lv := [(4, .int (l4 + 1)), (0, .ref (qb E + 115)), (1, .int l1), (2, .int l2), (3, .int l3)]) 4 e_Mo_enough_79 rfl rfl (by decide) rfl ?_
      refine g_goto 26 e_Mo_enough_82 (by decide) ?_
      refine g_loc [1, 2, 3, 4, 0] rfl ?_
      exact h
    · have h := h.2 z2
      refine g_iload_n 2 e_Mo_enough_41 rfl rfl ?_
      refine g_if_lt 62 e_Mo_enough_42 (by decide) ⟨fun z3 => ?_, fun z3 => ?_⟩
      · have h := h.1 z3
        refine g_aload_n 0 e_Mo_enough_62 rfl rfl ?_
        refine g_iload 4 e_Mo_enough_63 rfl ?_
        refine g_iload_n 1 e_Mo_enough_65 rfl rfl ?_
        refine w_callVI (w := w) (As := [.int l4, .int l1]) (rest := []) e_Mo_enough_66 ok_Mo_isSetBy rfl km_Mo_381 kx_Mo_isSetBy kv_Mo_isSetBy rfl (by decide) hw lay_115 (by decide) rfl (Nat.le_of_ble_eq_true rfl) h (fun w4 x4 hw4 h => ?_)
        refine g_if_eq 77 e_Mo_enough_69 (by decide) ⟨fun z5 => ?_, fun z5 => ?_⟩
        · have h := h.1 z5
          refine g_iload_n 2 e_Mo_enough_77 rfl rfl ?_
          refine g_istore_n (lv := [(2, .int l2), (0, .ref (qb E + 115)), (1, .int l1), (3, .int l3), (4, .int l4)]) e_Mo_enough_78 rfl (by decide) rfl ?_
          refine g_iinc (v := (l4 + 1)) (lv := [(4, .int (l4 + 1)), (2, .int l2), (0, .ref (qb E + 115)), (1, .int l1), (3, .int l3)]) 4 e_Mo_enough_79 rfl rfl (by decide) rfl ?_
          refine g_goto 26 e_Mo_enough_82 (by decide) ?_
          refine g_loc [2, 3, 1, 4, 0] rfl ?_
          exact h
        · have h := h.2 z5
          refine g_iload 4 e_Mo_enough_72 rfl ?_
          refine g_goto 78 e_Mo_enough_74 (by decide) ?_
          refine g_istore_n (lv := [(2, .int l4), (0, .ref (qb E + 115)), (1, .int l1), (3, .int l3), (4, .int l4)]) e_Mo_enough_78 rfl (by decide) rfl ?_
          refine g_iinc (v := (l4 + 1)) (lv := [(4, .int (l4 + 1)), (2, .int l4), (0, .ref (qb E + 115)), (1, .int l1), (3, .int l3)]) 4 e_Mo_enough_79 rfl rfl (by decide) rfl ?_
          refine g_goto 26 e_Mo_enough_82 (by decide) ?_
          refine g_loc [2, 3, 1, 4, 0] rfl ?_
          exact h
      · have h := h.2 z3
        refine g_aload_n 0 e_Mo_enough_45 rfl rfl ?_
        refine g_iload 4 e_Mo_enough_46 rfl ?_
        refine w_callVI (w := w) (As := [.int l4]) (rest := []) e_Mo_enough_48 ok_Mo_bits rfl km_Mo_268 kx_Mo_bits kv_Mo_bits rfl (by decide) hw lay_115 (by decide) rfl (Nat.le_of_ble_eq_true rfl) h (fun w6 x6 hw6 h => ?_)
        refine g_aload_n 0 e_Mo_enough_51 rfl rfl ?_
        refine g_iload_n 2 e_Mo_enough_52 rfl rfl ?_
        refine w_callVI (w := w6) (As := [.int l2]) (rest := [.int x6]) e_Mo_enough_53 ok_Mo_bits rfl km_Mo_268 kx_Mo_bits kv_Mo_bits rfl (by decide) hw6 lay_115 (by decide) rfl (Nat.le_of_ble_eq_true rfl) h (fun w7 x7 hw7 h => ?_)
        refine g_icmp_lt 62 e_Mo_enough_56 (by decide) ⟨fun z8 => ?_, fun z8 => ?_⟩
        · have h := h.1 z8
          refine g_aload_n 0 e_Mo_enough_62 rfl rfl ?_
          refine g_iload 4 e_Mo_enough_63 rfl ?_
          refine g_iload_n 1 e_Mo_enough_65 rfl rfl ?_
          refine w_callVI (w := w7) (As := [.int l4, .int l1]) (rest := []) e_Mo_enough_66 ok_Mo_isSetBy rfl km_Mo_381 kx_Mo_isSetBy kv_Mo_isSetBy rfl (by decide) hw7 lay_115 (by decide) rfl (Nat.le_of_ble_eq_true rfl) h (fun w9 x9 hw9 h => ?_)
          refine g_if_eq 77 e_Mo_enough_69 (by decide) ⟨fun z10 => ?_, fun z10 => ?_⟩
          · have h := h.1 z10
            refine g_iload_n 2 e_Mo_enough_77 rfl rfl ?_
            refine g_istore_n (lv := [(2, .int l2), (0, .ref (qb E + 115)), (1, .int l1), (3, .int l3), (4, .int l4)]) e_Mo_enough_78 rfl (by decide) rfl ?_
            refine g_iinc (v := (l4 + 1)) (lv := [(4, .int (l4 + 1)), (2, .int l2), (0, .ref (qb E + 115)), (1, .int l1), (3, .int l3)]) 4 e_Mo_enough_79 rfl rfl (by decide) rfl ?_
            refine g_goto 26 e_Mo_enough_82 (by decide) ?_
            refine g_loc [2, 3, 1, 4, 0] rfl ?_
            exact h
          · have h := h.2 z10
            refine g_iload 4 e_Mo_enough_72 rfl ?_
            refine g_goto 78 e_Mo_enough_74 (by decide) ?_
            refine g_istore_n (lv := [(2, .int l4), (0, .ref (qb E + 115)), (1, .int l1), (3, .int l3), (4, .int l4)]) e_Mo_enough_78 rfl (by decide) rfl ?_
            refine g_iinc (v := (l4 + 1)) (lv := [(4, .int (l4 + 1)), (2, .int l4), (0, .ref (qb E + 115)), (1, .int l1), (3, .int l3)]) 4 e_Mo_enough_79 rfl rfl (by decide) rfl ?_
            refine g_goto 26 e_Mo_enough_82 (by decide) ?_
            refine g_loc [2, 3, 1, 4, 0] rfl ?_
            exact h
        · have h := h.2 z8
          refine g_goto 79 e_Mo_enough_59 (by decide) ?_
          refine g_iinc (v := (l4 + 1)) (lv := [(4, .int (l4 + 1)), (0, .ref (qb E + 115)), (1, .int l1), (2, .int l2), (3, .int l3)]) 4 e_Mo_enough_79 rfl rfl (by decide) rfl ?_
          refine g_goto 26 e_Mo_enough_82 (by decide) ?_
          refine g_loc [1, 2, 3, 4, 0] rfl ?_
          exact h
theorem en_Mo_enough {d : Nat} {E : qE} {Q : qW → Int32 → Prop} {a1 : Int32} {w : qW} (hw : Sh w) (h : c_Mo_enough_0 d E Q a1 w) : CaI (d + 8) M_Mo_enough [.ref (qb E + 115), .int a1] E w Q := Ca.into hw rfl (Nat.le_of_ble_eq_true rfl) h
def c_Mo_flame_0 (d : Nat) (E : qE) (Q : qW → Int32 → Prop) (a1 : Int32) (a2 : Int32) (w : qW) : Prop := Go (d + 7) M_Mo_flame E 161 161 (qFI Q) 0 [(0, .ref (qb E + 115)), (1, .int a1), (2, .int a2)] [] w
def c_Mo_flame_36 (d : Nat) (E : qE) (Q : qW → Int32 → Prop) (l1 : Int32) (l2 : Int32) (l3 : Int32) (l4 : Int32) (l5 : Int32) (w : qW) : Prop := Go (d + 7) M_Mo_flame E 161 161 (qFI Q) 36 [(0, .ref (qb E + 115)), (1, .int l1), (2, .int l2), (3, .int l3), (4, .int l4), (5, .int l5)] [] w
set_option maxHeartbeats 4000000 in
set_option maxRecDepth 8000 in
theorem s_Mo_flame_0 {d : Nat} {E : qE} {Q : qW → Int32 → Prop} {a1 : Int32} {a2 : Int32} {w : qW} (hw : Sh w) (h : CaI (d + 6) M_Mo_in [.ref (qb E + 115), .int a1, .int 1, .int 20] E w (fun w1 x1 => ((x1 = 0) → (Q w1 (-2))) ∧ ((¬ x1 = 0) → (CaI (d + 6) M_Mo_in [.ref (qb E + 115), .int a2, .int 0, .int 9999] E w1 (fun w3 x3 => ((¬ x3 = 0) → (c_Mo_flame_36 d E Q a1 a2 0 2000000000 0 w3)) ∧ ((x3 = 0) → (Q w3 (-2)))))))) : c_Mo_flame_0 d E Q a1 a2 w := by
  unfold c_Mo_flame_0
  refine g_aload_n 0 e_Mo_flame_0 rfl rfl ?_
  refine g_iload_n 1 e_Mo_flame_1 rfl rfl ?_
  refine g_iconst (v := 1) e_Mo_flame_2 (by decide) ?_
  refine g_bipush (v := 20) e_Mo_flame_3 (by decide) ?_
  refine w_callVI (w := w) (As := [.int a1, .int 1, .int 20]) (rest := []) e_Mo_flame_5 ok_Mo_in rfl km_Mo_249 kx_Mo_in kv_Mo_in rfl (by decide) hw lay_115 (by decide) rfl (Nat.le_of_ble_eq_true rfl) h (fun w1 x1 hw1 h => ?_)
  refine g_if_eq 23 e_Mo_flame_8 (by decide) ⟨fun z2 => ?_, fun z2 => ?_⟩
  · have h := h.1 z2
    refine g_bipush (v := (-2)) e_Mo_flame_23 (by decide) ?_
    exact g_iret e_Mo_flame_25 rfl ⟨Sh.n hw1, _, rfl, hw1, h⟩
  · have h := h.2 z2
    refine g_aload_n 0 e_Mo_flame_11 rfl rfl ?_
    refine g_iload_n 2 e_Mo_flame_12 rfl rfl ?_
    refine g_iconst (v := 0) e_Mo_flame_13 (by decide) ?_
    refine g_sipush (v := 9999) e_Mo_flame_14 (by decide) ?_
    refine w_callVI (w := w1) (As := [.int a2, .int 0, .int 9999]) (rest := []) e_Mo_flame_17 ok_Mo_in rfl km_Mo_249 kx_Mo_in kv_Mo_in rfl (by decide) hw1 lay_115 (by decide) rfl (Nat.le_of_ble_eq_true rfl) h (fun w3 x3 hw3 h => ?_)
    refine g_if_ne 26 e_Mo_flame_20 (by decide) ⟨fun z4 => ?_, fun z4 => ?_⟩
    · have h := h.1 z4
      refine g_iconst (v := 0) e_Mo_flame_26 (by decide) ?_
      refine g_istore_n (lv := [(3, .int 0), (0, .ref (qb E + 115)), (1, .int a1), (2, .int a2)]) e_Mo_flame_27 rfl (by decide) rfl ?_
      refine g_ldcw (v := 2000000000) e_Mo_flame_28 kk_Mo_359 ?_
      refine g_istore (lv := [(4, .int 2000000000), (3, .int 0), (0, .ref (qb E + 115)), (1, .int a1), (2, .int a2)]) e_Mo_flame_31 (by decide) rfl ?_
      refine g_iconst (v := 0) e_Mo_flame_33 (by decide) ?_
      refine g_istore (lv := [(5, .int 0), (4, .int 2000000000), (3, .int 0), (0, .ref (qb E + 115)), (1, .int a1), (2, .int a2)]) e_Mo_flame_34 (by decide) rfl ?_
      refine g_loc [3, 4, 5, 2, 1, 0] rfl ?_
      exact h
    · have h := h.2 z4
      refine g_bipush (v := (-2)) e_Mo_flame_23 (by decide) ?_
      exact g_iret e_Mo_flame_25 rfl ⟨Sh.n hw3, _, rfl, hw3, h⟩
set_option maxHeartbeats 4000000 in
set_option maxRecDepth 8000 in
theorem s_Mo_flame_36 {d : Nat} {E : qE} {Q : qW → Int32 → Prop} {l1 : Int32} {l2 : Int32} {l3 : Int32} {l4 : Int32} {l5 : Int32} {w : qW} (hw : Sh w) (h : ((10 ≤ l5) → (Q w l3)) ∧ ((¬ 10 ≤ l5) → (CaV (d + 6) M_Mo_save [.ref (qb E + 115)] E w (fun w2 => CaV (d + 6) M_Mo_goMinutes [.ref (qb E + 115), .int l1] E (qpi w2 115 1 l5) (fun w3 => CaI (d + 6) M_Mo_apart [.ref (qb E + 115), .int (qi w3 115 2), .int l2] E w3 (fun w4 x4 => CaV (d + 6) M_Mo_putBack [.ref (qb E + 115)] E w4 (fun w5 => ((x4 < l4) → (c_Mo_flame_36 d E Q l1 l2 l5 x4 (l5 + 1) w5)) ∧ ((¬ x4 < l4) → (c_Mo_flame_36 d E Q l1 l2 l3 l4 (l5 + 1) w5))))))))) : c_Mo_flame_36 d E Q l1 l2 l3 l4 l5 w := by
  unfold c_Mo_flame_36
  refine g_iload 5 e_Mo_flame_36 rfl ?_
  refine g_bipush (v := 10) e_Mo_flame_38 (by decide) ?_
  refine g_icmp_ge 96 e_Mo_flame_40 (by decide) ⟨fun z1 => ?_, fun z1 => ?_⟩
  · have h := h.1 z1
    refine g_iload_n 3 e_Mo_flame_96 rfl rfl ?_
    exact g_iret e_Mo_flame_97 rfl ⟨Sh.n hw, _, rfl, hw, h⟩
  · have h := h.2 z1
    refine g_aload_n 0 e_Mo_flame_43 rfl rfl ?_
    refine w_callVV (w := w) (As := []) (rest := []) e_Mo_flame_44 ok_Mo_save rfl km_Mo_360 kx_Mo_save kv_Mo_save rfl (by decide) hw lay_115 (by decide) rfl (Nat.le_of_ble_eq_true rfl) h (fun w2 hw2 h => ?_)
    refine g_aload_n 0 e_Mo_flame_47 rfl rfl ?_
    refine g_iload 5 e_Mo_flame_48 rfl ?_
    refine pf_Mo_13 rfl e_Mo_flame_50 hw2 lay_115 (by decide) ?_
    refine g_aload_n 0 e_Mo_flame_53 rfl rfl ?_
    refine g_iload_n 1 e_Mo_flame_54 rfl rfl ?_
    refine w_callVV (w := (qpi w2 115 1 l5)) (As := [.int l1]) (rest := []) e_Mo_flame_55 ok_Mo_goMinutes rfl km_Mo_356 kx_Mo_goMinutes kv_Mo_goMinutes rfl (by decide) hw2 lay_115 (by decide) rfl (Nat.le_of_ble_eq_true rfl) h (fun w3 hw3 h => ?_)
    refine g_aload_n 0 e_Mo_flame_58 rfl rfl ?_
    refine g_aload_n 0 e_Mo_flame_59 rfl rfl ?_
    refine gf_Mo_16 rfl e_Mo_flame_60 hw3 lay_115 (by decide) ?_
    refine g_iload_n 2 e_Mo_flame_63 rfl rfl ?_
    refine w_callVI (w := w3) (As := [.int (qi w3 115 2), .int l2]) (rest := []) e_Mo_flame_64 ok_Mo_apart rfl km_Mo_384 kx_Mo_apart kv_Mo_apart rfl (by decide) hw3 lay_115 (by decide) rfl (Nat.le_of_ble_eq_true rfl) h (fun w4 x4 hw4 h => ?_)
    refine g_istore (lv := [(6, .int x4), (0, .ref (qb E + 115)), (1, .int l1), (2, .int l2), (3, .int l3), (4, .int l4), (5, .int l5)]) e_Mo_flame_67 (by decide) rfl ?_
    refine g_aload_n 1 e_Mo_flame_69 rfl rfl ?_
    refine w_callVV (w := w4) (As := []) (rest := []) e_Mo_flame_70 ok_Mo_putBack rfl km_Mo_363 kx_Mo_putBack kv_Mo_putBack rfl (by decide) hw4 lay_115 (by decide) rfl (Nat.le_of_ble_eq_true rfl) h (fun w5 hw5 h => ?_)
    refine g_iload 0 e_Mo_flame_73 rfl ?_
    refine g_iload 5 e_Mo_flame_75 rfl ?_
    refine g_icmp_lt 83 e_Mo_flame_77 (by decide) ⟨fun z6 => ?_, fun z6 => ?_⟩
    · have h := h.1 z6
      refine g_iload 6 e_Mo_flame_83 rfl ?_
      refine g_istore_n (lv := [(3, .int l5), (6, .int x4), (0, .ref (qb E + 115)), (1, .int l1), (2, .int l2), (4, .int l4), (5, .int l5)]) e_Mo_flame_85 rfl (by decide) rfl ?_
      refine g_iload 1 e_Mo_flame_86 rfl ?_
      refine g_istore (lv := [(4, .int x4), (3, .int l5), (6, .int x4), (0, .ref (qb E + 115)), (1, .int l1), (2, .int l2), (5, .int l5)]) e_Mo_flame_88 (by decide) rfl ?_
      refine g_iinc (v := (l5 + 1)) (lv := [(5, .int (l5 + 1)), (4, .int x4), (3, .int l5), (6, .int x4), (0, .ref (qb E + 115)), (1, .int l1), (2, .int l2)]) 6 e_Mo_flame_90 rfl rfl (by decide) rfl ?_
      refine g_goto 36 e_Mo_flame_93 (by decide) ?_
      refine g_loc [4, 5, 6, 2, 1, 0] rfl ?_
      exact h
    · have h := h.2 z6
      refine g_goto 90 e_Mo_flame_80 (by decide) ?_
      refine g_iinc (v := (l5 + 1)) (lv := [(5, .int (l5 + 1)), (6, .int x4), (0, .ref (qb E + 115)), (1, .int l1), (2, .int l2), (3, .int l3), (4, .int l4)]) 6 e_Mo_flame_90 rfl rfl (by decide) rfl ?_
      refine g_goto 36 e_Mo_flame_93 (by decide) ?_
      refine g_loc [2, 3, 4, 5, 6, 0] rfl ?_
      exact h
theorem en_Mo_flame {d : Nat} {E : qE} {Q : qW → Int32 → Prop} {a1 : Int32} {a2 : Int32} {w : qW} (hw : Sh w) (h : c_Mo_flame_0 d E Q a1 a2 w) : CaI (d + 7) M_Mo_flame [.ref (qb E + 115), .int a1, .int a2] E w Q := Ca.into hw rfl (Nat.le_of_ble_eq_true rfl) h
def c_Mo_see_0 (d : Nat) (E : qE) (Q : qW → Int32 → Prop) (a1 : Int32) (a2 : Int32) (w : qW) : Prop := Go (d + 1) M_Mo_see E 161 161 (qFI Q) 0 [(0, .ref (qb E + 115)), (1, .int a1), (2, .int a2)] [] w
set_option maxHeartbeats 4000000 in
set_option maxRecDepth 8000 in
theorem s_Mo_see_0 {d : Nat} {E : qE} {Q : qW → Int32 → Prop} {a1 : Int32} {a2 : Int32} {w : qW} (hw : Sh w) (h : ((¬ a1 = (-1)) → (CaI d M_Mo_in [.ref (qb E + 115), .int a1, .int 0, .int 12] E w (fun w2 x2 => ((x2 = 0) → (Q w2 (-2))) ∧ ((¬ x2 = 0) → (CaI d M_Mo_in [.ref (qb E + 115), .int a2, .int 0, .int 9999] E w2 (fun w4 x4 => ((¬ x4 = 0) → (((¬ (qi w4 115 39) = 5) → (vp_in (qi w4 115 39) 5 ∧ (vp_in (qi (qpi w4 137 ((qi w4 115 39).toNatClampNeg) a1) 115 39) 5 ∧ (Q (qpi (qpi (qpi w4 137 ((qi w4 115 39).toNatClampNeg) a1) 138 ((qi (qpi w4 137 ((qi w4 115 39).toNatClampNeg) a1) 115 39).toNatClampNeg) a2) 115 39 ((qi (qpi (qpi w4 137 ((qi w4 115 39).toNatClampNeg) a1) 138 ((qi (qpi w4 137 ((qi w4 115 39).toNatClampNeg) a1) 115 39).toNatClampNeg) a2) 115 39) + 1)) (qi (qpi (qpi (qpi w4 137 ((qi w4 115 39).toNatClampNeg) a1) 138 ((qi (qpi w4 137 ((qi w4 115 39).toNatClampNeg) a1) 115 39).toNatClampNeg) a2) 115 39 ((qi (qpi (qpi w4 137 ((qi w4 115 39).toNatClampNeg) a1) 138 ((qi (qpi w4 137 ((qi w4 115 39).toNatClampNeg) a1) 115 39).toNatClampNeg) a2) 115 39) + 1)) 115 39))))) ∧ (((qi w4 115 39) = 5) → (Q w4 (-4))))) ∧ ((x4 = 0) → (Q w4 (-2))))))))) ∧ ((a1 = (-1)) → (Q (qpi w 115 39 0) 0))) : c_Mo_see_0 d E Q a1 a2 w := by
  unfold c_Mo_see_0
  refine g_iload_n 1 e_Mo_see_0 rfl rfl ?_
  refine g_iconst (v := (-1)) e_Mo_see_1 (by decide) ?_
  refine g_icmp_ne 12 e_Mo_see_2 (by decide) ⟨fun z1 => ?_, fun z1 => ?_⟩
  · have h := h.1 z1
    refine g_aload_n 0 e_Mo_see_12 rfl rfl ?_
    refine g_iload_n 1 e_Mo_see_13 rfl rfl ?_
    refine g_iconst (v := 0) e_Mo_see_14 (by decide) ?_
    refine g_bipush (v := 12) e_Mo_see_15 (by decide) ?_
    refine w_callVI (w := w) (As := [.int a1, .int 0, .int 12]) (rest := []) e_Mo_see_17 ok_Mo_in rfl km_Mo_249 kx_Mo_in kv_Mo_in rfl (by decide) hw lay_115 (by decide) rfl (Nat.le_of_ble_eq_true rfl) h (fun w2 x2 hw2 h => ?_)
    refine g_if_eq 35 e_Mo_see_20 (by decide) ⟨fun z3 => ?_, fun z3 => ?_⟩
    · have h := h.1 z3
      refine g_bipush (v := (-2)) e_Mo_see_35 (by decide) ?_
      exact g_iret e_Mo_see_37 rfl ⟨Sh.n hw2, _, rfl, hw2, h⟩
    · have h := h.2 z3
      refine g_aload_n 0 e_Mo_see_23 rfl rfl ?_
      refine g_iload_n 2 e_Mo_see_24 rfl rfl ?_
      refine g_iconst (v := 0) e_Mo_see_25 (by decide) ?_
      refine g_sipush (v := 9999) e_Mo_see_26 (by decide) ?_
      refine w_callVI (w := w2) (As := [.int a2, .int 0, .int 9999]) (rest := []) e_Mo_see_29 ok_Mo_in rfl km_Mo_249 kx_Mo_in kv_Mo_in rfl (by decide) hw2 lay_115 (by decide) rfl (Nat.le_of_ble_eq_true rfl) h (fun w4 x4 hw4 h => ?_)
      refine g_if_ne 38 e_Mo_see_32 (by decide) ⟨fun z5 => ?_, fun z5 => ?_⟩
      · have h := h.1 z5
        refine g_aload_n 0 e_Mo_see_38 rfl rfl ?_
        refine gf_Mo_130 rfl e_Mo_see_39 hw4 lay_115 (by decide) ?_
        refine g_iconst (v := 5) e_Mo_see_42 (by decide) ?_
        refine g_icmp_ne 49 e_Mo_see_43 (by decide) ⟨fun z6 => ?_, fun z6 => ?_⟩
        · have h := h.1 z6
          refine g_aload_n 0 e_Mo_see_49 rfl rfl ?_
          refine gf_Mo_133 rfl e_Mo_see_50 hw4 lay_115 (by decide) (sh_Mo_seenWhen hw4) ?_
          refine g_aload_n 0 e_Mo_see_53 rfl rfl ?_
          refine gf_Mo_130 rfl e_Mo_see_54 hw4 lay_115 (by decide) ?_
          refine g_iload_n 1 e_Mo_see_57 rfl rfl ?_
          obtain ⟨o7, h⟩ := h
          refine w_iastore ((qi w4 115 39).toNatClampNeg) e_Mo_see_58 hw4 lay_137 (by decide) o7 rfl ?_
          refine g_aload_n 0 e_Mo_see_59 rfl rfl ?_
          refine gf_Mo_136 rfl e_Mo_see_60 hw4 lay_115 (by decide) (sh_Mo_seenColour hw4) ?_
          refine g_aload_n 0 e_Mo_see_63 rfl rfl ?_
          refine gf_Mo_130 rfl e_Mo_see_64 hw4 lay_115 (by decide) ?_
          refine g_iload_n 2 e_Mo_see_67 rfl rfl ?_
          obtain ⟨o8, h⟩ := h
          refine w_iastore ((qi (qpi w4 137 ((qi w4 115 39).toNatClampNeg) a1) 115 39).toNatClampNeg) e_Mo_see_68 hw4 lay_138 (by decide) o8 rfl ?_
          refine g_aload_n 0 e_Mo_see_69 rfl rfl ?_
          refine g_dup e_Mo_see_70 rfl ?_
          refine gf_Mo_130 rfl e_Mo_see_71 hw4 lay_115 (by decide) ?_
          refine g_iconst (v := 1) e_Mo_see_74 (by decide) ?_
          refine g_iadd e_Mo_see_75 ?_
          refine pf_Mo_130 rfl e_Mo_see_76 hw4 lay_115 (by decide) ?_
          refine g_aload_n 0 e_Mo_see_79 rfl rfl ?_
          refine gf_Mo_130 rfl e_Mo_see_80 hw4 lay_115 (by decide) ?_
          exact g_iret e_Mo_see_83 rfl ⟨Sh.n hw4, _, rfl, hw4, h⟩
        · have h := h.2 z6
          refine g_bipush (v := (-4)) e_Mo_see_46 (by decide) ?_
          exact g_iret e_Mo_see_48 rfl ⟨Sh.n hw4, _, rfl, hw4, h⟩
      · have h := h.2 z5
        refine g_bipush (v := (-2)) e_Mo_see_35 (by decide) ?_
        exact g_iret e_Mo_see_37 rfl ⟨Sh.n hw4, _, rfl, hw4, h⟩
  · have h := h.2 z1
    refine g_aload_n 0 e_Mo_see_5 rfl rfl ?_
    refine g_iconst (v := 0) e_Mo_see_6 (by decide) ?_
    refine pf_Mo_130 rfl e_Mo_see_7 hw lay_115 (by decide) ?_
    refine g_iconst (v := 0) e_Mo_see_10 (by decide) ?_
    exact g_iret e_Mo_see_11 rfl ⟨Sh.n hw, _, rfl, hw, h⟩
theorem en_Mo_see {d : Nat} {E : qE} {Q : qW → Int32 → Prop} {a1 : Int32} {a2 : Int32} {w : qW} (hw : Sh w) (h : c_Mo_see_0 d E Q a1 a2 w) : CaI (d + 1) M_Mo_see [.ref (qb E + 115), .int a1, .int a2] E w Q := Ca.into hw rfl (Nat.le_of_ble_eq_true rfl) h
def c_Mo_isSeen_0 (d : Nat) (E : qE) (Q : qW → Int32 → Prop) (w : qW) : Prop := Go (d + 7) M_Mo_isSeen E 161 161 (qFI Q) 0 [(0, .ref (qb E + 115))] [] w
def c_Mo_isSeen_4 (d : Nat) (E : qE) (Q : qW → Int32 → Prop) (l1 : Int32) (l2 : Int32) (w : qW) : Prop := Go (d + 7) M_Mo_isSeen E 161 161 (qFI Q) 4 [(0, .ref (qb E + 115)), (1, .int l1), (2, .int l2)] [] w
set_option maxHeartbeats 4000000 in
set_option maxRecDepth 8000 in
theorem s_Mo_isSeen_0 {d : Nat} {E : qE} {Q : qW → Int32 → Prop} {w : qW} (hw : Sh w) (h : c_Mo_isSeen_4 d E Q 1 0 w) : c_Mo_isSeen_0 d E Q  w := by
  unfold c_Mo_isSeen_0
  refine g_iconst (v := 1) e_Mo_isSeen_0 (by decide) ?_
  refine g_istore_n (lv := [(1, .int 1), (0, .ref (qb E + 115))]) e_Mo_isSeen_1 rfl (by decide) rfl ?_
  refine g_iconst (v := 0) e_Mo_isSeen_2 (by decide) ?_
  refine g_istore_n (lv := [(2, .int 0), (1, .int 1), (0, .ref (qb E + 115))]) e_Mo_isSeen_3 rfl (by decide) rfl ?_
  refine g_loc [2, 1, 0] rfl ?_
  exact h
set_option maxHeartbeats 4000000 in
set_option maxRecDepth 8000 in
theorem s_Mo_isSeen_4 {d : Nat} {E : qE} {Q : qW → Int32 → Prop} {l1 : Int32} {l2 : Int32} {w : qW} (hw : Sh w) (h : (((qi w 115 39) ≤ l2) → ((l1 = 0 ∨ l1 = 1) ∧ (Q w l1))) ∧ ((¬ (qi w 115 39) ≤ l2) → (((l1 = 0) → ((l1 = 0 ∨ l1 = 1) ∧ (Q w l1))) ∧ ((¬ l1 = 0) → (CaV (d + 6) M_Mo_save [.ref (qb E + 115)] E w (fun w5 => vp_in l2 5 ∧ (CaV (d + 6) M_Mo_goMinutes [.ref (qb E + 115), .int (qi w5 137 ((l2).toNatClampNeg))] E w5 (fun w7 => vp_in l2 5 ∧ (((¬ (qi w7 115 2) = (qi w7 138 ((l2).toNatClampNeg))) → (CaV (d + 6) M_Mo_putBack [.ref (qb E + 115)] E w7 (fun w10 => c_Mo_isSeen_4 d E Q 0 (l2 + 1) w10))) ∧ (((qi w7 115 2) = (qi w7 138 ((l2).toNatClampNeg))) → (CaV (d + 6) M_Mo_putBack [.ref (qb E + 115)] E w7 (fun w11 => c_Mo_isSeen_4 d E Q 1 (l2 + 1) w11)))))))))))) : c_Mo_isSeen_4 d E Q l1 l2 w := by
  unfold c_Mo_isSeen_4
  refine g_iload_n 2 e_Mo_isSeen_4 rfl rfl ?_
  refine g_aload_n 0 e_Mo_isSeen_5 rfl rfl ?_
  refine gf_Mo_130 rfl e_Mo_isSeen_6 hw lay_115 (by decide) ?_
  refine g_icmp_ge 59 e_Mo_isSeen_9 (by decide) ⟨fun z1 => ?_, fun z1 => ?_⟩
  · have h := h.1 z1
    refine g_iload_n 1 e_Mo_isSeen_59 rfl rfl ?_
    obtain ⟨o2, h⟩ := h
    exact g_zret e_Mo_isSeen_60 rfl o2 ⟨Sh.n hw, _, rfl, hw, h⟩
  · have h := h.2 z1
    refine g_iload_n 1 e_Mo_isSeen_12 rfl rfl ?_
    refine g_if_eq 59 e_Mo_isSeen_13 (by decide) ⟨fun z3 => ?_, fun z3 => ?_⟩
    · have h := h.1 z3
      refine g_iload_n 1 e_Mo_isSeen_59 rfl rfl ?_
      obtain ⟨o4, h⟩ := h
      exact g_zret e_Mo_isSeen_60 rfl o4 ⟨Sh.n hw, _, rfl, hw, h⟩
    · have h := h.2 z3
      refine g_aload_n 0 e_Mo_isSeen_16 rfl rfl ?_
      refine w_callVV (w := w) (As := []) (rest := []) e_Mo_isSeen_17 ok_Mo_save rfl km_Mo_360 kx_Mo_save kv_Mo_save rfl (by decide) hw lay_115 (by decide) rfl (Nat.le_of_ble_eq_true rfl) h (fun w5 hw5 h => ?_)
      refine g_aload_n 0 e_Mo_isSeen_20 rfl rfl ?_
      refine g_aload_n 0 e_Mo_isSeen_21 rfl rfl ?_
      refine gf_Mo_133 rfl e_Mo_isSeen_22 hw5 lay_115 (by decide) (sh_Mo_seenWhen hw5) ?_
      refine g_iload_n 2 e_Mo_isSeen_25 rfl rfl ?_
      obtain ⟨o6, h⟩ := h
      refine w_iaload ((l2).toNatClampNeg) e_Mo_isSeen_26 hw5 lay_137 (by decide) o6 rfl ?_
      refine w_callVV (w := w5) (As := [.int (qi w5 137 ((l2).toNatClampNeg))]) (rest := []) e_Mo_isSeen_27 ok_Mo_goMinutes rfl km_Mo_356 kx_Mo_goMinutes kv_Mo_goMinutes rfl (by decide) hw5 lay_115 (by decide) rfl (Nat.le_of_ble_eq_true rfl) h (fun w7 hw7 h => ?_)
      refine g_aload_n 0 e_Mo_isSeen_30 rfl rfl ?_
      refine gf_Mo_16 rfl e_Mo_isSeen_31 hw7 lay_115 (by decide) ?_
      refine g_aload_n 0 e_Mo_isSeen_34 rfl rfl ?_
      refine gf_Mo_136 rfl e_Mo_isSeen_35 hw7 lay_115 (by decide) (sh_Mo_seenColour hw7) ?_
      refine g_iload_n 2 e_Mo_isSeen_38 rfl rfl ?_
      obtain ⟨o8, h⟩ := h
      refine w_iaload ((l2).toNatClampNeg) e_Mo_isSeen_39 hw7 lay_138 (by decide) o8 rfl ?_
      refine g_icmp_ne 47 e_Mo_isSeen_40 (by decide) ⟨fun z9 => ?_, fun z9 => ?_⟩
      · have h := h.1 z9
        refine g_iconst (v := 0) e_Mo_isSeen_47 (by decide) ?_
        refine g_istore_n (lv := [(1, .int 0), (0, .ref (qb E + 115)), (2, .int l2)]) e_Mo_isSeen_48 rfl (by decide) rfl ?_
        refine g_aload_n 1 e_Mo_isSeen_49 rfl rfl ?_
        refine w_callVV (w := w7) (As := []) (rest := []) e_Mo_isSeen_50 ok_Mo_putBack rfl km_Mo_363 kx_Mo_putBack kv_Mo_putBack rfl (by decide) hw7 lay_115 (by decide) rfl (Nat.le_of_ble_eq_true rfl) h (fun w10 hw10 h => ?_)
        refine g_iinc (v := (l2 + 1)) (lv := [(2, .int (l2 + 1)), (1, .int 0), (0, .ref (qb E + 115))]) 2 e_Mo_isSeen_53 rfl rfl (by decide) rfl ?_
        refine g_goto 4 e_Mo_isSeen_56 (by decide) ?_
        refine g_loc [2, 1, 0] rfl ?_
        exact h
      · have h := h.2 z9
        refine g_iconst (v := 1) e_Mo_isSeen_43 (by decide) ?_
        refine g_goto 48 e_Mo_isSeen_44 (by decide) ?_
        refine g_istore_n (lv := [(1, .int 1), (0, .ref (qb E + 115)), (2, .int l2)]) e_Mo_isSeen_48 rfl (by decide) rfl ?_
        refine g_aload_n 1 e_Mo_isSeen_49 rfl rfl ?_
        refine w_callVV (w := w7) (As := []) (rest := []) e_Mo_isSeen_50 ok_Mo_putBack rfl km_Mo_363 kx_Mo_putBack kv_Mo_putBack rfl (by decide) hw7 lay_115 (by decide) rfl (Nat.le_of_ble_eq_true rfl) h (fun w11 hw11 h => ?_)
        refine g_iinc (v := (l2 + 1)) (lv := [(2, .int (l2 + 1)), (1, .int 1), (0, .ref (qb E + 115))]) 2 e_Mo_isSeen_53 rfl rfl (by decide) rfl ?_
        refine g_goto 4 e_Mo_isSeen_56 (by decide) ?_
        refine g_loc [2, 1, 0] rfl ?_
        exact h
theorem en_Mo_isSeen {d : Nat} {E : qE} {Q : qW → Int32 → Prop} {w : qW} (hw : Sh w) (h : c_Mo_isSeen_0 d E Q  w) : CaI (d + 7) M_Mo_isSeen [.ref (qb E + 115)] E w Q := Ca.into hw rfl (Nat.le_of_ble_eq_true rfl) h
def c_Mo_weights_0 (d : Nat) (E : qE) (Q : qW → Int32 → Prop) (a1 : Int32) (w : qW) : Prop := Go (d + 8) M_Mo_weights E 161 161 (qFI Q) 0 [(0, .ref (qb E + 115)), (1, .int a1)] [] w
def c_Mo_weights_12 (d : Nat) (E : qE) (Q : qW → Int32 → Prop) (l1 : Int32) (l2 : Int32) (l3 : Int32) (l4 : Int32) (w : qW) : Prop := Go (d + 8) M_Mo_weights E 161 161 (qFI Q) 12 [(0, .ref (qb E + 115)), (1, .int l1), (2, .int l2), (3, .int l3), (4, .int l4)] [] w
set_option maxHeartbeats 4000000 in
set_option maxRecDepth 8000 in
theorem s_Mo_weights_0 {d : Nat} {E : qE} {Q : qW → Int32 → Prop} {a1 : Int32} {w : qW} (hw : Sh w) (h : vp_in a1 6 ∧ (c_Mo_weights_12 d E Q a1 (qi w 118 ((a1).toNatClampNeg)) 0 0 w)) : c_Mo_weights_0 d E Q a1 w := by
  unfold c_Mo_weights_0
  refine g_aload_n 0 e_Mo_weights_0 rfl rfl ?_
  refine gf_Mo_33 rfl e_Mo_weights_1 hw lay_115 (by decide) (sh_Mo_weight hw) ?_
  refine g_iload_n 1 e_Mo_weights_4 rfl rfl ?_
  obtain ⟨o1, h⟩ := h
  refine w_iaload ((a1).toNatClampNeg) e_Mo_weights_5 hw lay_118 (by decide) o1 rfl ?_
  refine g_istore_n (lv := [(2, .int (qi w 118 ((a1).toNatClampNeg))), (0, .ref (qb E + 115)), (1, .int a1)]) e_Mo_weights_6 rfl (by decide) rfl ?_
  refine g_iconst (v := 0) e_Mo_weights_7 (by decide) ?_
  refine g_istore_n (lv := [(3, .int 0), (2, .int (qi w 118 ((a1).toNatClampNeg))), (0, .ref (qb E + 115)), (1, .int a1)]) e_Mo_weights_8 rfl (by decide) rfl ?_
  refine g_iconst (v := 0) e_Mo_weights_9 (by decide) ?_
  refine g_istore (lv := [(4, .int 0), (3, .int 0), (2, .int (qi w 118 ((a1).toNatClampNeg))), (0, .ref (qb E + 115)), (1, .int a1)]) e_Mo_weights_10 (by decide) rfl ?_
  refine g_loc [3, 4, 2, 1, 0] rfl ?_
  exact h
set_option maxHeartbeats 4000000 in
set_option maxRecDepth 8000 in
theorem s_Mo_weights_12 {d : Nat} {E : qE} {Q : qW → Int32 → Prop} {l1 : Int32} {l2 : Int32} {l3 : Int32} {l4 : Int32} {w : qW} (hw : Sh w) (h : ((21 ≤ l4) → (vp_in l1 6 ∧ (Q (qpi w 118 ((l1).toNatClampNeg) l2) l3))) ∧ ((¬ 21 ≤ l4) → (vp_in l1 6 ∧ (CaI (d + 7) M_Mo_isSeen [.ref (qb E + 115)] E (qpi w 118 ((l1).toNatClampNeg) l4) (fun w4 x4 => ((x4 = 0) → (c_Mo_weights_12 d E Q l1 l2 (l3 ||| 0) (l4 + 1) w4)) ∧ ((¬ x4 = 0) → (c_Mo_weights_12 d E Q l1 l2 (l3 ||| (1 <<< (l4 &&& 31))) (l4 + 1) w4))))))) : c_Mo_weights_12 d E Q l1 l2 l3 l4 w := by
  unfold c_Mo_weights_12
  refine g_iload 4 e_Mo_weights_12 rfl ?_
  refine g_bipush (v := 21) e_Mo_weights_14 (by decide) ?_
  refine g_icmp_ge 51 e_Mo_weights_16 (by decide) ⟨fun z1 => ?_, fun z1 => ?_⟩
  · have h := h.1 z1
    refine g_aload_n 0 e_Mo_weights_51 rfl rfl ?_
    refine gf_Mo_33 rfl e_Mo_weights_52 hw lay_115 (by decide) (sh_Mo_weight hw) ?_
    refine g_iload_n 1 e_Mo_weights_55 rfl rfl ?_
    refine g_iload_n 2 e_Mo_weights_56 rfl rfl ?_
    obtain ⟨o2, h⟩ := h
    refine w_iastore ((l1).toNatClampNeg) e_Mo_weights_57 hw lay_118 (by decide) o2 rfl ?_
    refine g_iload_n 3 e_Mo_weights_58 rfl rfl ?_
    exact g_iret e_Mo_weights_59 rfl ⟨Sh.n hw, _, rfl, hw, h⟩
  · have h := h.2 z1
    refine g_aload_n 0 e_Mo_weights_19 rfl rfl ?_
    refine gf_Mo_33 rfl e_Mo_weights_20 hw lay_115 (by decide) (sh_Mo_weight hw) ?_
    refine g_iload_n 1 e_Mo_weights_23 rfl rfl ?_
    refine g_iload 4 e_Mo_weights_24 rfl ?_
    obtain ⟨o3, h⟩ := h
    refine w_iastore ((l1).toNatClampNeg) e_Mo_weights_26 hw lay_118 (by decide) o3 rfl ?_
    refine g_iload_n 3 e_Mo_weights_27 rfl rfl ?_
    refine g_aload_n 0 e_Mo_weights_28 rfl rfl ?_
    refine w_callVI (w := (qpi w 118 ((l1).toNatClampNeg) l4)) (As := []) (rest := [.int l3]) e_Mo_weights_29 ok_Mo_isSeen rfl km_Mo_387 kx_Mo_isSeen kv_Mo_isSeen rfl (by decide) hw lay_115 (by decide) rfl (Nat.le_of_ble_eq_true rfl) h (fun w4 x4 hw4 h => ?_)
    refine g_if_eq 42 e_Mo_weights_32 (by decide) ⟨fun z5 => ?_, fun z5 => ?_⟩
    · have h := h.1 z5
      refine g_iconst (v := 0) e_Mo_weights_42 (by decide) ?_
      refine g_ior e_Mo_weights_43 ?_
      refine g_istore_n (lv := [(3, .int (l3 ||| 0)), (0, .ref (qb E + 115)), (1, .int l1), (2, .int l2), (4, .int l4)]) e_Mo_weights_44 rfl (by decide) rfl ?_
      refine g_iinc (v := (l4 + 1)) (lv := [(4, .int (l4 + 1)), (3, .int (l3 ||| 0)), (0, .ref (qb E + 115)), (1, .int l1), (2, .int l2)]) 4 e_Mo_weights_45 rfl rfl (by decide) rfl ?_
      refine g_goto 12 e_Mo_weights_48 (by decide) ?_
      refine g_loc [2, 3, 4, 1, 0] rfl ?_
      exact h
    · have h := h.2 z5
      refine g_iconst (v := 1) e_Mo_weights_35 (by decide) ?_
      refine g_iload 4 e_Mo_weights_36 rfl ?_
      refine g_ishl e_Mo_weights_38 ?_
      refine g_goto 43 e_Mo_weights_39 (by decide) ?_
      refine g_ior e_Mo_weights_43 ?_
      refine g_istore_n (lv := [(3, .int (l3 ||| (1 <<< (l4 &&& 31)))), (0, .ref (qb E + 115)), (1, .int l1), (2, .int l2), (4, .int l4)]) e_Mo_weights_44 rfl (by decide) rfl ?_
      refine g_iinc (v := (l4 + 1)) (lv := [(4, .int (l4 + 1)), (3, .int (l3 ||| (1 <<< (l4 &&& 31)))), (0, .ref (qb E + 115)), (1, .int l1), (2, .int l2)]) 4 e_Mo_weights_45 rfl rfl (by decide) rfl ?_
      refine g_goto 12 e_Mo_weights_48 (by decide) ?_
      refine g_loc [2, 3, 4, 1, 0] rfl ?_
      exact h
theorem en_Mo_weights {d : Nat} {E : qE} {Q : qW → Int32 → Prop} {a1 : Int32} {w : qW} (hw : Sh w) (h : c_Mo_weights_0 d E Q a1 w) : CaI (d + 8) M_Mo_weights [.ref (qb E + 115), .int a1] E w Q := Ca.into hw rfl (Nat.le_of_ble_eq_true rfl) h
def c_Mo_of_0 (d : Nat) (E : qE) (Q : qW → Int32 → Prop) (a1 : Int32) (a2 : Int32) (w : qW) : Prop := Go (d + 9) M_Mo_of E 161 161 (qFI Q) 0 [(0, .ref (qb E + 115)), (1, .int a1), (2, .int a2)] [] w
set_option maxHeartbeats 4000000 in
set_option maxRecDepth 8000 in
theorem s_Mo_of_0 {d : Nat} {E : qE} {Q : qW → Int32 → Prop} {a1 : Int32} {a2 : Int32} {w : qW} (hw : Sh w) (h : CaI (d + 8) M_Mo_isThing [.ref (qb E + 115), .int a1] E w (fun w1 x1 => ((¬ x1 = 0) → ((a2 = 0 → (vp_in a1 6 ∧ (Q w1 (qi w1 116 ((a1).toNatClampNeg))))) ∧ (a2 = 1 → (vp_in a1 6 ∧ (Q w1 (qi w1 117 ((a1).toNatClampNeg))))) ∧ (a2 = 2 → (vp_in a1 6 ∧ (Q w1 (qi w1 118 ((a1).toNatClampNeg))))) ∧ (a2 = 3 → (vp_in a1 6 ∧ (Q w1 (qi w1 119 ((a1).toNatClampNeg))))) ∧ (a2 = 4 → (vp_in a1 6 ∧ (Q w1 (qi w1 120 ((a1).toNatClampNeg))))) ∧ (a2 = 5 → (vp_in a1 6 ∧ (Q w1 (qi w1 121 ((a1).toNatClampNeg))))) ∧ (a2 = 6 → (CaI (d + 8) M_Mo_gives [.ref (qb E + 115), .int a1] E w1 (fun w10 x10 => Q w10 x10))) ∧ (a2 = 7 → (CaI (d + 8) M_Mo_weights [.ref (qb E + 115), .int a1] E w1 (fun w11 x11 => Q w11 x11))) ∧ ((a2.toInt < 0 ∨ 7 < a2.toInt) → (Q w1 (-10001))))) ∧ ((x1 = 0) → (Q w1 (-10001))))) : c_Mo_of_0 d E Q a1 a2 w := by
  unfold c_Mo_of_0
  refine g_aload_n 0 e_Mo_of_0 rfl rfl ?_
  refine g_iload_n 1 e_Mo_of_1 rfl rfl ?_
  refine w_callVI (w := w) (As := [.int a1]) (rest := []) e_Mo_of_2 ok_Mo_isThing rfl km_Mo_257 kx_Mo_isThing kv_Mo_isThing rfl (by decide) hw lay_115 (by decide) rfl (Nat.le_of_ble_eq_true rfl) h (fun w1 x1 hw1 h => ?_)
  refine g_if_ne 12 e_Mo_of_5 (by decide) ⟨fun z2 => ?_, fun z2 => ?_⟩
  · have h := h.1 z2
    refine g_iload_n 2 e_Mo_of_12 rfl rfl ?_
    refine g_table e_Mo_of_13 8 (by decide) [60, 67, 74, 81, 88, 95, 102, 108] 114 (by decide) (by decide +kernel) ⟨fun j3 hj3 hx3 => ?_, fun hx3 => ?_⟩
    · rcases (show j3 = 0 ∨ j3 = 1 ∨ j3 = 2 ∨ j3 = 3 ∨ j3 = 4 ∨ j3 = 5 ∨ j3 = 6 ∨ j3 = 7 by omega) with rfl | rfl | rfl | rfl | rfl | rfl | rfl | rfl
      · have h := h.1 (q_key hx3 (by decide))
        change Go _ _ _ _ _ _ 60 _ _ _
        refine g_aload_n 0 e_Mo_of_60 rfl rfl ?_
        refine gf_Mo_26 rfl e_Mo_of_61 hw1 lay_115 (by decide) (sh_Mo_kind hw1) ?_
        refine g_iload_n 1 e_Mo_of_64 rfl rfl ?_
        obtain ⟨o4, h⟩ := h
        refine w_iaload ((a1).toNatClampNeg) e_Mo_of_65 hw1 lay_116 (by decide) o4 rfl ?_
        exact g_iret e_Mo_of_66 rfl ⟨Sh.n hw1, _, rfl, hw1, h⟩
      · have h := h.2.1 (q_key hx3 (by decide))
        change Go _ _ _ _ _ _ 67 _ _ _
        refine g_aload_n 0 e_Mo_of_67 rfl rfl ?_
        refine gf_Mo_30 rfl e_Mo_of_68 hw1 lay_115 (by decide) (sh_Mo_v hw1) ?_
        refine g_iload_n 1 e_Mo_of_71 rfl rfl ?_
        obtain ⟨o5, h⟩ := h
        refine w_iaload ((a1).toNatClampNeg) e_Mo_of_72 hw1 lay_117 (by decide) o5 rfl ?_
        exact g_iret e_Mo_of_73 rfl ⟨Sh.n hw1, _, rfl, hw1, h⟩
      · have h := h.2.2.1 (q_key hx3 (by decide))
        change Go _ _ _ _ _ _ 74 _ _ _
        refine g_aload_n 0 e_Mo_of_74 rfl rfl ?_
        refine gf_Mo_33 rfl e_Mo_of_75 hw1 lay_115 (by decide) (sh_Mo_weight hw1) ?_
        refine g_iload_n 1 e_Mo_of_78 rfl rfl ?_
        obtain ⟨o6, h⟩ := h
        refine w_iaload ((a1).toNatClampNeg) e_Mo_of_79 hw1 lay_118 (by decide) o6 rfl ?_
        exact g_iret e_Mo_of_80 rfl ⟨Sh.n hw1, _, rfl, hw1, h⟩
      · have h := h.2.2.2.1 (q_key hx3 (by decide))
        change Go _ _ _ _ _ _ 81 _ _ _
        refine g_aload_n 0 e_Mo_of_81 rfl rfl ?_
        refine gf_Mo_36 rfl e_Mo_of_82 hw1 lay_115 (by decide) (sh_Mo_whose hw1) ?_
        refine g_iload_n 1 e_Mo_of_85 rfl rfl ?_
        obtain ⟨o7, h⟩ := h
        refine w_iaload ((a1).toNatClampNeg) e_Mo_of_86 hw1 lay_119 (by decide) o7 rfl ?_
        exact g_iret e_Mo_of_87 rfl ⟨Sh.n hw1, _, rfl, hw1, h⟩
      · have h := h.2.2.2.2.1 (q_key hx3 (by decide))
        change Go _ _ _ _ _ _ 88 _ _ _
        refine g_aload_n 0 e_Mo_of_88 rfl rfl ?_
        refine gf_Mo_39 rfl e_Mo_of_89 hw1 lay_115 (by decide) (sh_Mo_lies hw1) ?_
        refine g_iload_n 1 e_Mo_of_92 rfl rfl ?_
        obtain ⟨o8, h⟩ := h
        refine w_iaload ((a1).toNatClampNeg) e_Mo_of_93 hw1 lay_120 (by decide) o8 rfl ?_
        exact g_iret e_Mo_of_94 rfl ⟨Sh.n hw1, _, rfl, hw1, h⟩
      · have h := h.2.2.2.2.2.1 (q_key hx3 (by decide))
        change Go _ _ _ _ _ _ 95 _ _ _
        refine g_aload_n 0 e_Mo_of_95 rfl rfl ?_
        refine gf_Mo_42 rfl e_Mo_of_96 hw1 lay_115 (by decide) (sh_Mo_time hw1) ?_
        refine g_iload_n 1 e_Mo_of_99 rfl rfl ?_
        obtain ⟨o9, h⟩ := h
        refine w_iaload ((a1).toNatClampNeg) e_Mo_of_100 hw1 lay_121 (by decide) o9 rfl ?_
        exact g_iret e_Mo_of_101 rfl ⟨Sh.n hw1, _, rfl, hw1, h⟩
      · have h := h.2.2.2.2.2.2.1 (q_key hx3 (by decide))
        change Go _ _ _ _ _ _ 102 _ _ _
        refine g_aload_n 0 e_Mo_of_102 rfl rfl ?_
        refine g_iload_n 1 e_Mo_of_103 rfl rfl ?_
        refine w_callVI (w := w1) (As := [.int a1]) (rest := []) e_Mo_of_104 ok_Mo_gives rfl km_Mo_340 kx_Mo_gives kv_Mo_gives rfl (by decide) hw1 lay_115 (by decide) rfl (Nat.le_of_ble_eq_true rfl) h (fun w10 x10 hw10 h => ?_)
        exact g_iret e_Mo_of_107 rfl ⟨Sh.n hw10, _, rfl, hw10, h⟩
      · have h := h.2.2.2.2.2.2.2.1 (q_key hx3 (by decide))
        change Go _ _ _ _ _ _ 108 _ _ _
        refine g_aload_n 0 e_Mo_of_108 rfl rfl ?_
        refine g_iload_n 1 e_Mo_of_109 rfl rfl ?_
        refine w_callVI (w := w1) (As := [.int a1]) (rest := []) e_Mo_of_110 ok_Mo_weights rfl km_Mo_390 kx_Mo_weights kv_Mo_weights rfl (by decide) hw1 lay_115 (by decide) rfl (Nat.le_of_ble_eq_true rfl) h (fun w11 x11 hw11 h => ?_)
        exact g_iret e_Mo_of_113 rfl ⟨Sh.n hw11, _, rfl, hw11, h⟩
    · have h := h.2.2.2.2.2.2.2.2 hx3
      refine g_sipush (v := (-10001)) e_Mo_of_114 (by decide) ?_
      exact g_iret e_Mo_of_117 rfl ⟨Sh.n hw1, _, rfl, hw1, h⟩
  · have h := h.2 z2
    refine g_sipush (v := (-10001)) e_Mo_of_8 (by decide) ?_
    exact g_iret e_Mo_of_11 rfl ⟨Sh.n hw1, _, rfl, hw1, h⟩
theorem en_Mo_of {d : Nat} {E : qE} {Q : qW → Int32 → Prop} {a1 : Int32} {a2 : Int32} {w : qW} (hw : Sh w) (h : c_Mo_of_0 d E Q a1 a2 w) : CaI (d + 9) M_Mo_of [.ref (qb E + 115), .int a1, .int a2] E w Q := Ca.into hw rfl (Nat.le_of_ble_eq_true rfl) h
def c_Mo_can_0 (d : Nat) (E : qE) (Q : qW → Int32 → Prop) (a1 : Int32) (a2 : Int32) (w : qW) : Prop := Go (d + 8) M_Mo_can E 161 161 (qFI Q) 0 [(0, .ref (qb E + 115)), (1, .int a1), (2, .int a2)] [] w
def c_Mo_can_38 (d : Nat) (E : qE) (Q : qW → Int32 → Prop) (l1 : Int32) (l2 : Int32) (l3 : Int32) (l4 : Int32) (l5 : Int32) (l6 : Int32) (w : qW) : Prop := Go (d + 8) M_Mo_can E 161 161 (qFI Q) 38 [(0, .ref (qb E + 115)), (1, .int l1), (2, .int l2), (3, .int l3), (4, .int l4), (5, .int l5), (6, .int l6)] [] w
set_option maxHeartbeats 4000000 in
set_option maxRecDepth 8000 in
theorem s_Mo_can_0 {d : Nat} {E : qE} {Q : qW → Int32 → Prop} {a1 : Int32} {a2 : Int32} {w : qW} (hw : Sh w) (h : CaI (d + 7) M_Mo_isThing [.ref (qb E + 115), .int a1] E w (fun w1 x1 => ((x1 = 0) → (Q w1 (-1))) ∧ ((¬ x1 = 0) → (CaI (d + 7) M_Mo_in [.ref (qb E + 115), .int a2, .int 0, .int 1] E w1 (fun w3 x3 => ((¬ x3 = 0) → (vp_in a1 6 ∧ (c_Mo_can_38 d E Q a1 a2 (qi w3 117 ((a1).toNatClampNeg)) 0 (-5) 9 w3))) ∧ ((x3 = 0) → (Q w3 (-1)))))))) : c_Mo_can_0 d E Q a1 a2 w := by
  unfold c_Mo_can_0
  refine g_aload_n 0 e_Mo_can_0 rfl rfl ?_
  refine g_iload_n 1 e_Mo_can_1 rfl rfl ?_
  refine w_callVI (w := w) (As := [.int a1]) (rest := []) e_Mo_can_2 ok_Mo_isThing rfl km_Mo_257 kx_Mo_isThing kv_Mo_isThing rfl (by decide) hw lay_115 (by decide) rfl (Nat.le_of_ble_eq_true rfl) h (fun w1 x1 hw1 h => ?_)
  refine g_if_eq 18 e_Mo_can_5 (by decide) ⟨fun z2 => ?_, fun z2 => ?_⟩
  · have h := h.1 z2
    refine g_iconst (v := (-1)) e_Mo_can_18 (by decide) ?_
    exact g_iret e_Mo_can_19 rfl ⟨Sh.n hw1, _, rfl, hw1, h⟩
  · have h := h.2 z2
    refine g_aload_n 0 e_Mo_can_8 rfl rfl ?_
    refine g_iload_n 2 e_Mo_can_9 rfl rfl ?_
    refine g_iconst (v := 0) e_Mo_can_10 (by decide) ?_
    refine g_iconst (v := 1) e_Mo_can_11 (by decide) ?_
    refine w_callVI (w := w1) (As := [.int a2, .int 0, .int 1]) (rest := []) e_Mo_can_12 ok_Mo_in rfl km_Mo_249 kx_Mo_in kv_Mo_in rfl (by decide) hw1 lay_115 (by decide) rfl (Nat.le_of_ble_eq_true rfl) h (fun w3 x3 hw3 h => ?_)
    refine g_if_ne 20 e_Mo_can_15 (by decide) ⟨fun z4 => ?_, fun z4 => ?_⟩
    · have h := h.1 z4
      refine g_aload_n 0 e_Mo_can_20 rfl rfl ?_
      refine gf_Mo_30 rfl e_Mo_can_21 hw3 lay_115 (by decide) (sh_Mo_v hw3) ?_
      refine g_iload_n 1 e_Mo_can_24 rfl rfl ?_
      obtain ⟨o5, h⟩ := h
      refine w_iaload ((a1).toNatClampNeg) e_Mo_can_25 hw3 lay_117 (by decide) o5 rfl ?_
      refine g_istore_n (lv := [(3, .int (qi w3 117 ((a1).toNatClampNeg))), (0, .ref (qb E + 115)), (1, .int a1), (2, .int a2)]) e_Mo_can_26 rfl (by decide) rfl ?_
      refine g_iconst (v := 0) e_Mo_can_27 (by decide) ?_
      refine g_istore (lv := [(4, .int 0), (3, .int (qi w3 117 ((a1).toNatClampNeg))), (0, .ref (qb E + 115)), (1, .int a1), (2, .int a2)]) e_Mo_can_28 (by decide) rfl ?_
      refine g_bipush (v := (-5)) e_Mo_can_30 (by decide) ?_
      refine g_istore (lv := [(5, .int (-5)), (4, .int 0), (3, .int (qi w3 117 ((a1).toNatClampNeg))), (0, .ref (qb E + 115)), (1, .int a1), (2, .int a2)]) e_Mo_can_32 (by decide) rfl ?_
      refine g_bipush (v := 9) e_Mo_can_34 (by decide) ?_
      refine g_istore (lv := [(6, .int 9), (5, .int (-5)), (4, .int 0), (3, .int (qi w3 117 ((a1).toNatClampNeg))), (0, .ref (qb E + 115)), (1, .int a1), (2, .int a2)]) e_Mo_can_36 (by decide) rfl ?_
      refine g_loc [4, 5, 6, 3, 2, 1, 0] rfl ?_
      exact h
    · have h := h.2 z4
      refine g_iconst (v := (-1)) e_Mo_can_18 (by decide) ?_
      exact g_iret e_Mo_can_19 rfl ⟨Sh.n hw3, _, rfl, hw3, h⟩
set_option maxHeartbeats 4000000 in
set_option maxRecDepth 8000 in
theorem s_Mo_can_38 {d : Nat} {E : qE} {Q : qW → Int32 → Prop} {l1 : Int32} {l2 : Int32} {l3 : Int32} {l4 : Int32} {l5 : Int32} {l6 : Int32} {w : qW} (hw : Sh w) (h : ((l6 < 0) → (vp_in l1 6 ∧ (((¬ l2 = 0) → (Q (qpi w 117 ((l1).toNatClampNeg) l3) l5)) ∧ ((l2 = 0) → (Q (qpi w 117 ((l1).toNatClampNeg) l3) l4))))) ∧ ((¬ l6 < 0) → (vp_in l1 6 ∧ (CaI (d + 7) M_Mo_isSeen [.ref (qb E + 115)] E (qpi w 117 ((l1).toNatClampNeg) l6) (fun w5 x5 => ((¬ x5 = 0) → (c_Mo_can_38 d E Q l1 l2 l3 (l4 + 1) l6 (l6 + (-1)) w5)) ∧ ((x5 = 0) → (c_Mo_can_38 d E Q l1 l2 l3 l4 l5 (l6 + (-1)) w5))))))) : c_Mo_can_38 d E Q l1 l2 l3 l4 l5 l6 w := by
  unfold c_Mo_can_38
  refine g_iload 6 e_Mo_can_38 rfl ?_
  refine g_if_lt 74 e_Mo_can_40 (by decide) ⟨fun z1 => ?_, fun z1 => ?_⟩
  · have h := h.1 z1
    refine g_aload_n 0 e_Mo_can_74 rfl rfl ?_
    refine gf_Mo_30 rfl e_Mo_can_75 hw lay_115 (by decide) (sh_Mo_v hw) ?_
    refine g_iload_n 1 e_Mo_can_78 rfl rfl ?_
    refine g_iload_n 3 e_Mo_can_79 rfl rfl ?_
    obtain ⟨o2, h⟩ := h
    refine w_iastore ((l1).toNatClampNeg) e_Mo_can_80 hw lay_117 (by decide) o2 rfl ?_
    refine g_iload_n 2 e_Mo_can_81 rfl rfl ?_
    refine g_if_ne 90 e_Mo_can_82 (by decide) ⟨fun z3 => ?_, fun z3 => ?_⟩
    · have h := h.1 z3
      refine g_iload 5 e_Mo_can_90 rfl ?_
      exact g_iret e_Mo_can_92 rfl ⟨Sh.n hw, _, rfl, hw, h⟩
    · have h := h.2 z3
      refine g_iload 4 e_Mo_can_85 rfl ?_
      refine g_goto 92 e_Mo_can_87 (by decide) ?_
      exact g_iret e_Mo_can_92 rfl ⟨Sh.n hw, _, rfl, hw, h⟩
  · have h := h.2 z1
    refine g_aload_n 0 e_Mo_can_43 rfl rfl ?_
    refine gf_Mo_30 rfl e_Mo_can_44 hw lay_115 (by decide) (sh_Mo_v hw) ?_
    refine g_iload_n 1 e_Mo_can_47 rfl rfl ?_
    refine g_iload 6 e_Mo_can_48 rfl ?_
    obtain ⟨o4, h⟩ := h
    refine w_iastore ((l1).toNatClampNeg) e_Mo_can_50 hw lay_117 (by decide) o4 rfl ?_
    refine g_aload_n 0 e_Mo_can_51 rfl rfl ?_
    refine w_callVI (w := (qpi w 117 ((l1).toNatClampNeg) l6)) (As := []) (rest := []) e_Mo_can_52 ok_Mo_isSeen rfl km_Mo_387 kx_Mo_isSeen kv_Mo_isSeen rfl (by decide) hw lay_115 (by decide) rfl (Nat.le_of_ble_eq_true rfl) h (fun w5 x5 hw5 h => ?_)
    refine g_if_ne 61 e_Mo_can_55 (by decide) ⟨fun z6 => ?_, fun z6 => ?_⟩
    · have h := h.1 z6
      refine g_iinc (v := (l4 + 1)) (lv := [(4, .int (l4 + 1)), (0, .ref (qb E + 115)), (1, .int l1), (2, .int l2), (3, .int l3), (5, .int l5), (6, .int l6)]) 4 e_Mo_can_61 rfl rfl (by decide) rfl ?_
      refine g_iload 6 e_Mo_can_64 rfl ?_
      refine g_istore (lv := [(5, .int l6), (4, .int (l4 + 1)), (0, .ref (qb E + 115)), (1, .int l1), (2, .int l2), (3, .int l3), (6, .int l6)]) e_Mo_can_66 (by decide) rfl ?_
      refine g_iinc (v := (l6 + (-1))) (lv := [(6, .int (l6 + (-1))), (5, .int l6), (4, .int (l4 + 1)), (0, .ref (qb E + 115)), (1, .int l1), (2, .int l2), (3, .int l3)]) 6 e_Mo_can_68 rfl rfl (by decide) rfl ?_
      refine g_goto 38 e_Mo_can_71 (by decide) ?_
      refine g_loc [3, 4, 5, 6, 2, 1, 0] rfl ?_
      exact h
    · have h := h.2 z6
      refine g_goto 68 e_Mo_can_58 (by decide) ?_
      refine g_iinc (v := (l6 + (-1))) (lv := [(6, .int (l6 + (-1))), (0, .ref (qb E + 115)), (1, .int l1), (2, .int l2), (3, .int l3), (4, .int l4), (5, .int l5)]) 6 e_Mo_can_68 rfl rfl (by decide) rfl ?_
      refine g_goto 38 e_Mo_can_71 (by decide) ?_
      refine g_loc [1, 2, 3, 4, 5, 6, 0] rfl ?_
      exact h
theorem en_Mo_can {d : Nat} {E : qE} {Q : qW → Int32 → Prop} {a1 : Int32} {a2 : Int32} {w : qW} (hw : Sh w) (h : c_Mo_can_0 d E Q a1 a2 w) : CaI (d + 8) M_Mo_can [.ref (qb E + 115), .int a1, .int a2] E w Q := Ca.into hw rfl (Nat.le_of_ble_eq_true rfl) h
def c_Mo_divisor_0 (d : Nat) (E : qE) (Q : qW → Int32 → Prop) (a1 : Int32) (a2 : Int32) (w : qW) : Prop := Go d M_Mo_divisor E 161 161 (qFI Q) 0 [(0, .ref (qb E + 115)), (1, .int a1), (2, .int a2)] [] w
def c_Mo_divisor_14 (d : Nat) (E : qE) (Q : qW → Int32 → Prop) (l3 : Int32) (l4 : Int32) (w : qW) : Prop := Go d M_Mo_divisor E 161 161 (qFI Q) 14 [(3, .int l3), (4, .int l4)] [] w
set_option maxHeartbeats 4000000 in
set_option maxRecDepth 8000 in
theorem s_Mo_divisor_0 {d : Nat} {E : qE} {Q : qW → Int32 → Prop} {a1 : Int32} {a2 : Int32} {w : qW} (hw : Sh w) (h : ((0 ≤ a1) → (c_Mo_divisor_14 d E Q a1 a2 w)) ∧ ((¬ 0 ≤ a1) → (c_Mo_divisor_14 d E Q (-a1) a2 w))) : c_Mo_divisor_0 d E Q a1 a2 w := by
  unfold c_Mo_divisor_0
  refine g_iload_n 1 e_Mo_divisor_0 rfl rfl ?_
  refine g_if_ge 9 e_Mo_divisor_1 (by decide) ⟨fun z1 => ?_, fun z1 => ?_⟩
  · have h := h.1 z1
    refine g_iload_n 1 e_Mo_divisor_9 rfl rfl ?_
    refine g_istore_n (lv := [(3, .int a1), (0, .ref (qb E + 115)), (1, .int a1), (2, .int a2)]) e_Mo_divisor_10 rfl (by decide) rfl ?_
    refine g_iload_n 3 e_Mo_divisor_11 rfl rfl ?_
    refine g_istore (lv := [(4, .int a2), (3, .int a1), (0, .ref (qb E + 115)), (1, .int a1), (2, .int a2)]) e_Mo_divisor_12 (by decide) rfl ?_
    refine g_loc [1, 0] rfl ?_
    exact h
  · have h := h.2 z1
    refine g_iload_n 1 e_Mo_divisor_4 rfl rfl ?_
    refine g_ineg e_Mo_divisor_5 ?_
    refine g_goto 10 e_Mo_divisor_6 (by decide) ?_
    refine g_istore_n (lv := [(3, .int (-a1)), (0, .ref (qb E + 115)), (1, .int a1), (2, .int a2)]) e_Mo_divisor_10 rfl (by decide) rfl ?_
    refine g_iload_n 3 e_Mo_divisor_11 rfl rfl ?_
    refine g_istore (lv := [(4, .int a2), (3, .int (-a1)), (0, .ref (qb E + 115)), (1, .int a1), (2, .int a2)]) e_Mo_divisor_12 (by decide) rfl ?_
    refine g_loc [1, 0] rfl ?_
    exact h
set_option maxHeartbeats 4000000 in
set_option maxRecDepth 8000 in
theorem s_Mo_divisor_14 {d : Nat} {E : qE} {Q : qW → Int32 → Prop} {l3 : Int32} {l4 : Int32} {w : qW} (hw : Sh w) (h : ((l4 = 0) → (Q w l3)) ∧ ((¬ l4 = 0) → ((¬ l4 = 0) ∧ (c_Mo_divisor_14 d E Q l4 (l3 - l3 / l4 * l4) w)))) : c_Mo_divisor_14 d E Q l3 l4 w := by
  unfold c_Mo_divisor_14
  refine g_iload 1 e_Mo_divisor_14 rfl ?_
  refine g_if_eq 35 e_Mo_divisor_16 (by decide) ⟨fun z1 => ?_, fun z1 => ?_⟩
  · have h := h.1 z1
    refine g_iload_n 0 e_Mo_divisor_35 rfl rfl ?_
    exact g_iret e_Mo_divisor_36 rfl ⟨Sh.n hw, _, rfl, hw, h⟩
  · have h := h.2 z1
    refine g_iload_n 0 e_Mo_divisor_19 rfl rfl ?_
    refine g_iload 1 e_Mo_divisor_20 rfl ?_
    obtain ⟨o2, h⟩ := h
    refine g_irem e_Mo_divisor_22 o2 ?_
    refine g_istore (lv := [(5, .int (l3 - l3 / l4 * l4)), (3, .int l3), (4, .int l4)]) e_Mo_divisor_23 (by decide) rfl ?_
    refine g_iload 2 e_Mo_divisor_25 rfl ?_
    refine g_istore_n (lv := [(3, .int l4), (5, .int (l3 - l3 / l4 * l4)), (4, .int l4)]) e_Mo_divisor_27 rfl (by decide) rfl ?_
    refine g_iload 1 e_Mo_divisor_28 rfl ?_
    refine g_istore (lv := [(4, .int (l3 - l3 / l4 * l4)), (3, .int l4), (5, .int (l3 - l3 / l4 * l4))]) e_Mo_divisor_30 (by decide) rfl ?_
    refine g_goto 14 e_Mo_divisor_32 (by decide) ?_
    refine g_loc [1, 0] rfl ?_
    exact h
theorem en_Mo_divisor {d : Nat} {E : qE} {Q : qW → Int32 → Prop} {a1 : Int32} {a2 : Int32} {w : qW} (hw : Sh w) (h : c_Mo_divisor_0 d E Q a1 a2 w) : CaI d M_Mo_divisor [.ref (qb E + 115), .int a1, .int a2] E w Q := Ca.into hw rfl (Nat.le_of_ble_eq_true rfl) h
def c_Mo_lowest_0 (d : Nat) (E : qE) (Q : qW → Int64 → Prop) (a1 : Int32) (a2 : Int32) (a3 : Int32) (w : qW) : Prop := Go (d + 1) M_Mo_lowest E 161 161 (qFL Q) 0 [(0, .ref (qb E + 115)), (1, .int a1), (2, .int a2), (3, .int a3)] [] w
set_option maxHeartbeats 4000000 in
set_option maxRecDepth 8000 in
theorem s_Mo_lowest_0 {d : Nat} {E : qE} {Q : qW → Int64 → Prop} {a1 : Int32} {a2 : Int32} {a3 : Int32} {w : qW} (hw : Sh w) (h : CaI d M_Mo_divisor [.ref (qb E + 115), .int a1, .int a2] E w (fun w1 x1 => ((¬ a3 = 0) → ((¬ x1 = 0) ∧ (Q w1 (((a2 / x1) : Int32).toInt64)))) ∧ ((a3 = 0) → ((¬ x1 = 0) ∧ (Q w1 (((a1 / x1) : Int32).toInt64)))))) : c_Mo_lowest_0 d E Q a1 a2 a3 w := by
  unfold c_Mo_lowest_0
  refine g_aload_n 0 e_Mo_lowest_0 rfl rfl ?_
  refine g_iload_n 1 e_Mo_lowest_1 rfl rfl ?_
  refine g_iload_n 2 e_Mo_lowest_2 rfl rfl ?_
  refine w_callVI (w := w) (As := [.int a1, .int a2]) (rest := []) e_Mo_lowest_3 ok_Mo_divisor rfl km_Mo_393 kx_Mo_divisor kv_Mo_divisor rfl (by decide) hw lay_115 (by decide) rfl (Nat.le_of_ble_eq_true rfl) h (fun w1 x1 hw1 h => ?_)
  refine g_istore (lv := [(4, .int x1), (0, .ref (qb E + 115)), (1, .int a1), (2, .int a2), (3, .int a3)]) e_Mo_lowest_6 (by decide) rfl ?_
  refine g_iload_n 4 e_Mo_lowest_8 rfl rfl ?_
  refine g_if_ne 20 e_Mo_lowest_9 (by decide) ⟨fun z2 => ?_, fun z2 => ?_⟩
  · have h := h.1 z2
    refine g_iload_n 3 e_Mo_lowest_20 rfl rfl ?_
    refine g_iload 0 e_Mo_lowest_21 rfl ?_
    obtain ⟨o3, h⟩ := h
    refine g_idiv e_Mo_lowest_23 o3 ?_
    refine g_i2l e_Mo_lowest_24 ?_
    exact g_lret e_Mo_lowest_25 rfl ⟨Sh.n hw1, _, rfl, hw1, h⟩
  · have h := h.2 z2
    refine g_iload_n 2 e_Mo_lowest_12 rfl rfl ?_
    refine g_iload 0 e_Mo_lowest_13 rfl ?_
    obtain ⟨o4, h⟩ := h
    refine g_idiv e_Mo_lowest_15 o4 ?_
    refine g_i2l e_Mo_lowest_16 ?_
    refine g_goto 25 e_Mo_lowest_17 (by decide) ?_
    exact g_lret e_Mo_lowest_25 rfl ⟨Sh.n hw1, _, rfl, hw1, h⟩
theorem en_Mo_lowest {d : Nat} {E : qE} {Q : qW → Int64 → Prop} {a1 : Int32} {a2 : Int32} {a3 : Int32} {w : qW} (hw : Sh w) (h : c_Mo_lowest_0 d E Q a1 a2 a3 w) : CaL (d + 1) M_Mo_lowest [.ref (qb E + 115), .int a1, .int a2, .int a3] E w Q := Ca.into hw rfl (Nat.le_of_ble_eq_true rfl) h
def c_Mo_odds_0 (d : Nat) (E : qE) (Q : qW → Int64 → Prop) (a1 : Int32) (a2 : Int32) (w : qW) : Prop := Go (d + 8) M_Mo_odds E 161 161 (qFL Q) 0 [(0, .ref (qb E + 115)), (1, .int a1), (2, .int a2)] [] w
def c_Mo_odds_33 (d : Nat) (E : qE) (Q : qW → Int64 → Prop) (l1 : Int32) (l2 : Int32) (l3 : Int32) (l4 : Int32) (l5 : Int32) (w : qW) : Prop := Go (d + 8) M_Mo_odds E 161 161 (qFL Q) 33 [(0, .ref (qb E + 115)), (1, .int l1), (2, .int l2), (3, .int l3), (4, .int l4), (5, .int l5)] [] w
set_option maxHeartbeats 4000000 in
set_option maxRecDepth 8000 in
theorem s_Mo_odds_0 {d : Nat} {E : qE} {Q : qW → Int64 → Prop} {a1 : Int32} {a2 : Int32} {w : qW} (hw : Sh w) (h : CaI (d + 7) M_Mo_in [.ref (qb E + 115), .int a1, .int 0, .int 20] E w (fun w1 x1 => ((x1 = 0) → (Q w1 (-9223372036854775808))) ∧ ((¬ x1 = 0) → (CaI (d + 7) M_Mo_in [.ref (qb E + 115), .int a2, .int 0, .int 1] E w1 (fun w3 x3 => ((¬ x3 = 0) → (c_Mo_odds_33 d E Q a1 a2 0 0 0 w3)) ∧ ((x3 = 0) → (Q w3 (-9223372036854775808)))))))) : c_Mo_odds_0 d E Q a1 a2 w := by
  unfold c_Mo_odds_0
  refine g_aload_n 0 e_Mo_odds_0 rfl rfl ?_
  refine g_iload_n 1 e_Mo_odds_1 rfl rfl ?_
  refine g_iconst (v := 0) e_Mo_odds_2 (by decide) ?_
  refine g_bipush (v := 20) e_Mo_odds_3 (by decide) ?_
  refine w_callVI (w := w) (As := [.int a1, .int 0, .int 20]) (rest := []) e_Mo_odds_5 ok_Mo_in rfl km_Mo_249 kx_Mo_in kv_Mo_in rfl (by decide) hw lay_115 (by decide) rfl (Nat.le_of_ble_eq_true rfl) h (fun w1 x1 hw1 h => ?_)
  refine g_if_eq 21 e_Mo_odds_8 (by decide) ⟨fun z2 => ?_, fun z2 => ?_⟩
  · have h := h.1 z2
    refine g_ldc2 (v := (-9223372036854775808)) e_Mo_odds_21 kk_Mo_396 ?_
    exact g_lret e_Mo_odds_24 rfl ⟨Sh.n hw1, _, rfl, hw1, h⟩
  · have h := h.2 z2
    refine g_aload_n 0 e_Mo_odds_11 rfl rfl ?_
    refine g_iload_n 2 e_Mo_odds_12 rfl rfl ?_
    refine g_iconst (v := 0) e_Mo_odds_13 (by decide) ?_
    refine g_iconst (v := 1) e_Mo_odds_14 (by decide) ?_
    refine w_callVI (w := w1) (As := [.int a2, .int 0, .int 1]) (rest := []) e_Mo_odds_15 ok_Mo_in rfl km_Mo_249 kx_Mo_in kv_Mo_in rfl (by decide) hw1 lay_115 (by decide) rfl (Nat.le_of_ble_eq_true rfl) h (fun w3 x3 hw3 h => ?_)
    refine g_if_ne 25 e_Mo_odds_18 (by decide) ⟨fun z4 => ?_, fun z4 => ?_⟩
    · have h := h.1 z4
      refine g_iconst (v := 0) e_Mo_odds_25 (by decide) ?_
      refine g_istore_n (lv := [(3, .int 0), (0, .ref (qb E + 115)), (1, .int a1), (2, .int a2)]) e_Mo_odds_26 rfl (by decide) rfl ?_
      refine g_iconst (v := 0) e_Mo_odds_27 (by decide) ?_
      refine g_istore (lv := [(4, .int 0), (3, .int 0), (0, .ref (qb E + 115)), (1, .int a1), (2, .int a2)]) e_Mo_odds_28 (by decide) rfl ?_
      refine g_iconst (v := 0) e_Mo_odds_30 (by decide) ?_
      refine g_istore (lv := [(5, .int 0), (4, .int 0), (3, .int 0), (0, .ref (qb E + 115)), (1, .int a1), (2, .int a2)]) e_Mo_odds_31 (by decide) rfl ?_
      refine g_loc [3, 4, 5, 2, 1, 0] rfl ?_
      exact h
    · have h := h.2 z4
      refine g_ldc2 (v := (-9223372036854775808)) e_Mo_odds_21 kk_Mo_396 ?_
      exact g_lret e_Mo_odds_24 rfl ⟨Sh.n hw3, _, rfl, hw3, h⟩
set_option maxHeartbeats 4000000 in
set_option maxRecDepth 8000 in
theorem s_Mo_odds_33 {d : Nat} {E : qE} {Q : qW → Int64 → Prop} {l1 : Int32} {l2 : Int32} {l3 : Int32} {l4 : Int32} {l5 : Int32} {w : qW} (hw : Sh w) (h : (((qi w 115 0) ≤ l5) → (((¬ l4 = 0) → (CaL (d + 7) M_Mo_lowest [.ref (qb E + 115), .int l3, .int l4, .int l2] E w (fun w3 x3 => Q w3 x3))) ∧ ((l4 = 0) → (Q w (-9223372036854775808))))) ∧ ((¬ (qi w 115 0) ≤ l5) → (vp_in l5 6 ∧ ((((qi w 120 ((l5).toNatClampNeg)) = 0) → (CaI (d + 7) M_Mo_isSetBy [.ref (qb E + 115), .int (1 <<< (l5 &&& 31)), .int l1] E w (fun w6 x6 => ((x6 = 0) → (c_Mo_odds_33 d E Q l1 l2 (l3 + 0) (l4 + 1) (l5 + 1) w6)) ∧ ((¬ x6 = 0) → (c_Mo_odds_33 d E Q l1 l2 (l3 + 1) (l4 + 1) (l5 + 1) w6))))) ∧ ((¬ (qi w 120 ((l5).toNatClampNeg)) = 0) → (c_Mo_odds_33 d E Q l1 l2 l3 l4 (l5 + 1) w)))))) : c_Mo_odds_33 d E Q l1 l2 l3 l4 l5 w := by
  unfold c_Mo_odds_33
  refine g_iload 5 e_Mo_odds_33 rfl ?_
  refine g_aload_n 0 e_Mo_odds_35 rfl rfl ?_
  refine gf_Mo_7 rfl e_Mo_odds_36 hw lay_115 (by decide) ?_
  refine g_icmp_ge 84 e_Mo_odds_39 (by decide) ⟨fun z1 => ?_, fun z1 => ?_⟩
  · have h := h.1 z1
    refine g_iload 4 e_Mo_odds_84 rfl ?_
    refine g_if_ne 95 e_Mo_odds_86 (by decide) ⟨fun z2 => ?_, fun z2 => ?_⟩
    · have h := h.1 z2
      refine g_aload_n 0 e_Mo_odds_95 rfl rfl ?_
      refine g_iload_n 3 e_Mo_odds_96 rfl rfl ?_
      refine g_iload 4 e_Mo_odds_97 rfl ?_
      refine g_iload_n 2 e_Mo_odds_99 rfl rfl ?_
      refine w_callVL (w := w) (As := [.int l3, .int l4, .int l2]) (rest := []) e_Mo_odds_100 ok_Mo_lowest rfl km_Mo_398 kx_Mo_lowest kv_Mo_lowest rfl (by decide) hw lay_115 (by decide) rfl (Nat.le_of_ble_eq_true rfl) h (fun w3 x3 hw3 h => ?_)
      exact g_lret e_Mo_odds_103 rfl ⟨Sh.n hw3, _, rfl, hw3, h⟩
    · have h := h.2 z2
      refine g_ldc2 (v := (-9223372036854775808)) e_Mo_odds_89 kk_Mo_396 ?_
      refine g_goto 103 e_Mo_odds_92 (by decide) ?_
      exact g_lret e_Mo_odds_103 rfl ⟨Sh.n hw, _, rfl, hw, h⟩
  · have h := h.2 z1
    refine g_aload_n 0 e_Mo_odds_42 rfl rfl ?_
    refine gf_Mo_39 rfl e_Mo_odds_43 hw lay_115 (by decide) (sh_Mo_lies hw) ?_
    refine g_iload 5 e_Mo_odds_46 rfl ?_
    obtain ⟨o4, h⟩ := h
    refine w_iaload ((l5).toNatClampNeg) e_Mo_odds_48 hw lay_120 (by decide) o4 rfl ?_
    refine g_if_eq 55 e_Mo_odds_49 (by decide) ⟨fun z5 => ?_, fun z5 => ?_⟩
    · have h := h.1 z5
      refine g_iinc (v := (l4 + 1)) (lv := [(4, .int (l4 + 1)), (0, .ref (qb E + 115)), (1, .int l1), (2, .int l2), (3, .int l3), (5, .int l5)]) 4 e_Mo_odds_55 rfl rfl (by decide) rfl ?_
      refine g_iload_n 4 e_Mo_odds_58 rfl rfl ?_
      refine g_aload_n 1 e_Mo_odds_59 rfl rfl ?_
      refine g_iconst (v := 1) e_Mo_odds_60 (by decide) ?_
      refine g_iload 5 e_Mo_odds_61 rfl ?_
      refine g_ishl e_Mo_odds_63 ?_
      refine g_iload_n 2 e_Mo_odds_64 rfl rfl ?_
      refine w_callVI (w := w) (As := [.int (1 <<< (l5 &&& 31)), .int l1]) (rest := [.int l3]) e_Mo_odds_65 ok_Mo_isSetBy rfl km_Mo_381 kx_Mo_isSetBy kv_Mo_isSetBy rfl (by decide) hw lay_115 (by decide) rfl (Nat.le_of_ble_eq_true rfl) h (fun w6 x6 hw6 h => ?_)
      refine g_if_eq 75 e_Mo_odds_68 (by decide) ⟨fun z7 => ?_, fun z7 => ?_⟩
      · have h := h.1 z7
        refine g_iconst (v := 0) e_Mo_odds_75 (by decide) ?_
        refine g_iadd e_Mo_odds_76 ?_
        refine g_istore_n (lv := [(3, .int (l3 + 0)), (4, .int (l4 + 1)), (0, .ref (qb E + 115)), (1, .int l1), (2, .int l2), (5, .int l5)]) e_Mo_odds_77 rfl (by decide) rfl ?_
        refine g_iinc (v := (l5 + 1)) (lv := [(5, .int (l5 + 1)), (3, .int (l3 + 0)), (4, .int (l4 + 1)), (0, .ref (qb E + 115)), (1, .int l1), (2, .int l2)]) 5 e_Mo_odds_78 rfl rfl (by decide) rfl ?_
        refine g_goto 33 e_Mo_odds_81 (by decide) ?_
        refine g_loc [3, 4, 5, 1, 2, 0] rfl ?_
        exact h
      · have h := h.2 z7
        refine g_iconst (v := 1) e_Mo_odds_71 (by decide) ?_
        refine g_goto 76 e_Mo_odds_72 (by decide) ?_
        refine g_iadd e_Mo_odds_76 ?_
        refine g_istore_n (lv := [(3, .int (l3 + 1)), (4, .int (l4 + 1)), (0, .ref (qb E + 115)), (1, .int l1), (2, .int l2), (5, .int l5)]) e_Mo_odds_77 rfl (by decide) rfl ?_
        refine g_iinc (v := (l5 + 1)) (lv := [(5, .int (l5 + 1)), (3, .int (l3 + 1)), (4, .int (l4 + 1)), (0, .ref (qb E + 115)), (1, .int l1), (2, .int l2)]) 5 e_Mo_odds_78 rfl rfl (by decide) rfl ?_
        refine g_goto 33 e_Mo_odds_81 (by decide) ?_
        refine g_loc [3, 4, 5, 1, 2, 0] rfl ?_
        exact h
    · have h := h.2 z5
      refine g_goto 78 e_Mo_odds_52 (by decide) ?_
      refine g_iinc (v := (l5 + 1)) (lv := [(5, .int (l5 + 1)), (0, .ref (qb E + 115)), (1, .int l1), (2, .int l2), (3, .int l3), (4, .int l4)]) 5 e_Mo_odds_78 rfl rfl (by decide) rfl ?_
      refine g_goto 33 e_Mo_odds_81 (by decide) ?_
      refine g_loc [1, 2, 3, 4, 5, 0] rfl ?_
      exact h
theorem en_Mo_odds {d : Nat} {E : qE} {Q : qW → Int64 → Prop} {a1 : Int32} {a2 : Int32} {w : qW} (hw : Sh w) (h : c_Mo_odds_0 d E Q a1 a2 w) : CaL (d + 8) M_Mo_odds [.ref (qb E + 115), .int a1, .int a2] E w Q := Ca.into hw rfl (Nat.le_of_ble_eq_true rfl) h
def c_Mo_mean_0 (d : Nat) (E : qE) (Q : qW → Int64 → Prop) (a1 : Int32) (w : qW) : Prop := Go (d + 5) M_Mo_mean E 161 161 (qFL Q) 0 [(0, .ref (qb E + 115)), (1, .int a1)] [] w
set_option maxHeartbeats 4000000 in
set_option maxRecDepth 8000 in
theorem s_Mo_mean_0 {d : Nat} {E : qE} {Q : qW → Int64 → Prop} {a1 : Int32} {w : qW} (hw : Sh w) (h : CaI (d + 4) M_Mo_setOf [.ref (qb E + 115), .int 1] E w (fun w1 x1 => CaI (d + 4) M_Mo_bits [.ref (qb E + 115), .int x1] E w1 (fun w2 x2 => CaI (d + 4) M_Mo_in [.ref (qb E + 115), .int a1, .int 0, .int 1] E w2 (fun w3 x3 => ((x3 = 0) → (Q w3 (-9223372036854775808))) ∧ ((¬ x3 = 0) → (((x2 ≤ 0) → (Q w3 (-9223372036854775808))) ∧ ((¬ x2 ≤ 0) → (CaI (d + 4) M_Mo_allGive [.ref (qb E + 115)] E w3 (fun w6 x6 => CaL (d + 4) M_Mo_lowest [.ref (qb E + 115), .int x6, .int x2, .int a1] E w6 (fun w7 x7 => Q w7 x7)))))))))) : c_Mo_mean_0 d E Q a1 w := by
  unfold c_Mo_mean_0
  refine g_aload_n 0 e_Mo_mean_0 rfl rfl ?_
  refine g_aload_n 0 e_Mo_mean_1 rfl rfl ?_
  refine g_iconst (v := 1) e_Mo_mean_2 (by decide) ?_
  refine w_callVI (w := w) (As := [.int 1]) (rest := [.ref (qb E + 115)]) e_Mo_mean_3 ok_Mo_setOf rfl km_Mo_264 kx_Mo_setOf kv_Mo_setOf rfl (by decide) hw lay_115 (by decide) rfl (Nat.le_of_ble_eq_true rfl) h (fun w1 x1 hw1 h => ?_)
  refine w_callVI (w := w1) (As := [.int x1]) (rest := []) e_Mo_mean_6 ok_Mo_bits rfl km_Mo_268 kx_Mo_bits kv_Mo_bits rfl (by decide) hw1 lay_115 (by decide) rfl (Nat.le_of_ble_eq_true rfl) h (fun w2 x2 hw2 h => ?_)
  refine g_istore_n (lv := [(2, .int x2), (0, .ref (qb E + 115)), (1, .int a1)]) e_Mo_mean_9 rfl (by decide) rfl ?_
  refine g_aload_n 1 e_Mo_mean_10 rfl rfl ?_
  refine g_iload_n 2 e_Mo_mean_11 rfl rfl ?_
  refine g_iconst (v := 0) e_Mo_mean_12 (by decide) ?_
  refine g_iconst (v := 1) e_Mo_mean_13 (by decide) ?_
  refine w_callVI (w := w2) (As := [.int a1, .int 0, .int 1]) (rest := []) e_Mo_mean_14 ok_Mo_in rfl km_Mo_249 kx_Mo_in kv_Mo_in rfl (by decide) hw2 lay_115 (by decide) rfl (Nat.le_of_ble_eq_true rfl) h (fun w3 x3 hw3 h => ?_)
  refine g_if_eq 37 e_Mo_mean_17 (by decide) ⟨fun z4 => ?_, fun z4 => ?_⟩
  · have h := h.1 z4
    refine g_ldc2 (v := (-9223372036854775808)) e_Mo_mean_37 kk_Mo_396 ?_
    exact g_lret e_Mo_mean_40 rfl ⟨Sh.n hw3, _, rfl, hw3, h⟩
  · have h := h.2 z4
    refine g_iload_n 0 e_Mo_mean_20 rfl rfl ?_
    refine g_if_le 37 e_Mo_mean_21 (by decide) ⟨fun z5 => ?_, fun z5 => ?_⟩
    · have h := h.1 z5
      refine g_ldc2 (v := (-9223372036854775808)) e_Mo_mean_37 kk_Mo_396 ?_
      exact g_lret e_Mo_mean_40 rfl ⟨Sh.n hw3, _, rfl, hw3, h⟩
    · have h := h.2 z5
      refine g_aload_n 1 e_Mo_mean_24 rfl rfl ?_
      refine g_aload_n 1 e_Mo_mean_25 rfl rfl ?_
      refine w_callVI (w := w3) (As := []) (rest := [.ref (qb E + 115)]) e_Mo_mean_26 ok_Mo_allGive rfl km_Mo_343 kx_Mo_allGive kv_Mo_allGive rfl (by decide) hw3 lay_115 (by decide) rfl (Nat.le_of_ble_eq_true rfl) h (fun w6 x6 hw6 h => ?_)
      refine g_iload_n 0 e_Mo_mean_29 rfl rfl ?_
      refine g_iload_n 2 e_Mo_mean_30 rfl rfl ?_
      refine w_callVL (w := w6) (As := [.int x6, .int x2, .int a1]) (rest := []) e_Mo_mean_31 ok_Mo_lowest rfl km_Mo_398 kx_Mo_lowest kv_Mo_lowest rfl (by decide) hw6 lay_115 (by decide) rfl (Nat.le_of_ble_eq_true rfl) h (fun w7 x7 hw7 h => ?_)
      refine g_goto 40 e_Mo_mean_34 (by decide) ?_
      exact g_lret e_Mo_mean_40 rfl ⟨Sh.n hw7, _, rfl, hw7, h⟩
theorem en_Mo_mean {d : Nat} {E : qE} {Q : qW → Int64 → Prop} {a1 : Int32} {w : qW} (hw : Sh w) (h : c_Mo_mean_0 d E Q a1 w) : CaL (d + 5) M_Mo_mean [.ref (qb E + 115), .int a1] E w Q := Ca.into hw rfl (Nat.le_of_ble_eq_true rfl) h
def c_Mo_plan_0 (d : Nat) (E : qE) (Q : qW → Int32 → Prop) (a1 : Int32) (a2 : Int32) (w : qW) : Prop := Go (d + 2) M_Mo_plan E 161 161 (qFI Q) 0 [(0, .ref (qb E + 115)), (1, .int a1), (2, .int a2)] [] w
set_option maxHeartbeats 4000000 in
set_option maxRecDepth 8000 in
theorem s_Mo_plan_0 {d : Nat} {E : qE} {Q : qW → Int32 → Prop} {a1 : Int32} {a2 : Int32} {w : qW} (hw : Sh w) (h : ((¬ a1 = (-1)) → (CaI (d + 1) M_Mo_in [.ref (qb E + 115), .int a1, .int 0, .int 3] E w (fun w2 x2 => ((x2 = 0) → (Q w2 (-1))) ∧ ((¬ x2 = 0) → (CaI (d + 1) M_Mo_in [.ref (qb E + 115), .int a1, .int 1, .int 2] E w2 (fun w4 x4 => ((x4 = 0) → (((¬ a1 = 3) → (((¬ (qi w4 115 42) = 10) → (vp_in (qi w4 115 42) 10 ∧ (((a1 ≤ 0) → (vp_in (qi (qpi w4 139 ((qi w4 115 42).toNatClampNeg) a1) 115 42) 10 ∧ (Q (qpi (qpi (qpi w4 139 ((qi w4 115 42).toNatClampNeg) a1) 140 ((qi (qpi w4 139 ((qi w4 115 42).toNatClampNeg) a1) 115 42).toNatClampNeg) 0) 115 42 ((qi (qpi (qpi w4 139 ((qi w4 115 42).toNatClampNeg) a1) 140 ((qi (qpi w4 139 ((qi w4 115 42).toNatClampNeg) a1) 115 42).toNatClampNeg) 0) 115 42) + 1)) (qi (qpi (qpi (qpi w4 139 ((qi w4 115 42).toNatClampNeg) a1) 140 ((qi (qpi w4 139 ((qi w4 115 42).toNatClampNeg) a1) 115 42).toNatClampNeg) 0) 115 42 ((qi (qpi (qpi w4 139 ((qi w4 115 42).toNatClampNeg) a1) 140 ((qi (qpi w4 139 ((qi w4 115 42).toNatClampNeg) a1) 115 42).toNatClampNeg) 0) 115 42) + 1)) 115 42)))) ∧ ((¬ a1 ≤ 0) → (vp_in (qi (qpi w4 139 ((qi w4 115 42).toNatClampNeg) a1) 115 42) 10 ∧ (Q (qpi (qpi (qpi w4 139 ((qi w4 115 42).toNatClampNeg) a1) 140 ((qi (qpi w4 139 ((qi w4 115 42).toNatClampNeg) a1) 115 42).toNatClampNeg) a2) 115 42 ((qi (qpi (qpi w4 139 ((qi w4 115 42).toNatClampNeg) a1) 140 ((qi (qpi w4 139 ((qi w4 115 42).toNatClampNeg) a1) 115 42).toNatClampNeg) a2) 115 42) + 1)) (qi (qpi (qpi (qpi w4 139 ((qi w4 115 42).toNatClampNeg) a1) 140 ((qi (qpi w4 139 ((qi w4 115 42).toNatClampNeg) a1) 115 42).toNatClampNeg) a2) 115 42 ((qi (qpi (qpi w4 139 ((qi w4 115 42).toNatClampNeg) a1) 140 ((qi (qpi w4 139 ((qi w4 115 42).toNatClampNeg) a1) 115 42).toNatClampNeg) a2) 115 42) + 1)) 115 42))))))) ∧ (((qi w4 115 42) = 10) → (Q w4 (-4))))) ∧ ((a1 = 3) → (CaI (d + 1) M_Mo_in [.ref (qb E + 115), .int a2, .int 0, .int 9] E w4 (fun w12 x12 => ((¬ x12 = 0) → (((¬ (qi w12 115 42) = 10) → (vp_in (qi w12 115 42) 10 ∧ (((a1 ≤ 0) → (vp_in (qi (qpi w12 139 ((qi w12 115 42).toNatClampNeg) a1) 115 42) 10 ∧ (Q (qpi (qpi (qpi w12 139 ((qi w12 115 42).toNatClampNeg) a1) 140 ((qi (qpi w12 139 ((qi w12 115 42).toNatClampNeg) a1) 115 42).toNatClampNeg) 0) 115 42 ((qi (qpi (qpi w12 139 ((qi w12 115 42).toNatClampNeg) a1) 140 ((qi (qpi w12 139 ((qi w12 115 42).toNatClampNeg) a1) 115 42).toNatClampNeg) 0) 115 42) + 1)) (qi (qpi (qpi (qpi w12 139 ((qi w12 115 42).toNatClampNeg) a1) 140 ((qi (qpi w12 139 ((qi w12 115 42).toNatClampNeg) a1) 115 42).toNatClampNeg) 0) 115 42 ((qi (qpi (qpi w12 139 ((qi w12 115 42).toNatClampNeg) a1) 140 ((qi (qpi w12 139 ((qi w12 115 42).toNatClampNeg) a1) 115 42).toNatClampNeg) 0) 115 42) + 1)) 115 42)))) ∧ ((¬ a1 ≤ 0) → (vp_in (qi (qpi w12 139 ((qi w12 115 42).toNatClampNeg) a1) 115 42) 10 ∧ (Q (qpi (qpi (qpi w12 139 ((qi w12 115 42).toNatClampNeg) a1) 140 ((qi (qpi w12 139 ((qi w12 115 42).toNatClampNeg) a1) 115 42).toNatClampNeg) a2) 115 42 ((qi (qpi (qpi w12 139 ((qi w12 115 42).toNatClampNeg) a1) 140 ((qi (qpi w12 139 ((qi w12 115 42).toNatClampNeg) a1) 115 42).toNatClampNeg) a2) 115 42) + 1)) (qi (qpi (qpi (qpi w12 139 ((qi w12 115 42).toNatClampNeg) a1) 140 ((qi (qpi w12 139 ((qi w12 115 42).toNatClampNeg) a1) 115 42).toNatClampNeg) a2) 115 42 ((qi (qpi (qpi w12 139 ((qi w12 115 42).toNatClampNeg) a1) 140 ((qi (qpi w12 139 ((qi w12 115 42).toNatClampNeg) a1) 115 42).toNatClampNeg) a2) 115 42) + 1)) 115 42))))))) ∧ (((qi w12 115 42) = 10) → (Q w12 (-4))))) ∧ ((x12 = 0) → (Q w12 (-2)))))))) ∧ ((¬ x4 = 0) → (CaI (d + 1) M_Mo_isThing [.ref (qb E + 115), .int a2] E w4 (fun w19 x19 => ((¬ x19 = 0) → (((¬ a1 = 3) → (((¬ (qi w19 115 42) = 10) → (vp_in (qi w19 115 42) 10 ∧ (((a1 ≤ 0) → (vp_in (qi (qpi w19 139 ((qi w19 115 42).toNatClampNeg) a1) 115 42) 10 ∧ (Q (qpi (qpi (qpi w19 139 ((qi w19 115 42).toNatClampNeg) a1) 140 ((qi (qpi w19 139 ((qi w19 115 42).toNatClampNeg) a1) 115 42).toNatClampNeg) 0) 115 42 ((qi (qpi (qpi w19 139 ((qi w19 115 42).toNatClampNeg) a1) 140 ((qi (qpi w19 139 ((qi w19 115 42).toNatClampNeg) a1) 115 42).toNatClampNeg) 0) 115 42) + 1)) (qi (qpi (qpi (qpi w19 139 ((qi w19 115 42).toNatClampNeg) a1) 140 ((qi (qpi w19 139 ((qi w19 115 42).toNatClampNeg) a1) 115 42).toNatClampNeg) 0) 115 42 ((qi (qpi (qpi w19 139 ((qi w19 115 42).toNatClampNeg) a1) 140 ((qi (qpi w19 139 ((qi w19 115 42).toNatClampNeg) a1) 115 42).toNatClampNeg) 0) 115 42) + 1)) 115 42)))) ∧ ((¬ a1 ≤ 0) → (vp_in (qi (qpi w19 139 ((qi w19 115 42).toNatClampNeg) a1) 115 42) 10 ∧ (Q (qpi (qpi (qpi w19 139 ((qi w19 115 42).toNatClampNeg) a1) 140 ((qi (qpi w19 139 ((qi w19 115 42).toNatClampNeg) a1) 115 42).toNatClampNeg) a2) 115 42 ((qi (qpi (qpi w19 139 ((qi w19 115 42).toNatClampNeg) a1) 140 ((qi (qpi w19 139 ((qi w19 115 42).toNatClampNeg) a1) 115 42).toNatClampNeg) a2) 115 42) + 1)) (qi (qpi (qpi (qpi w19 139 ((qi w19 115 42).toNatClampNeg) a1) 140 ((qi (qpi w19 139 ((qi w19 115 42).toNatClampNeg) a1) 115 42).toNatClampNeg) a2) 115 42 ((qi (qpi (qpi w19 139 ((qi w19 115 42).toNatClampNeg) a1) 140 ((qi (qpi w19 139 ((qi w19 115 42).toNatClampNeg) a1) 115 42).toNatClampNeg) a2) 115 42) + 1)) 115 42))))))) ∧ (((qi w19 115 42) = 10) → (Q w19 (-4))))) ∧ ((a1 = 3) → (CaI (d + 1) M_Mo_in [.ref (qb E + 115), .int a2, .int 0, .int 9] E w19 (fun w27 x27 => ((¬ x27 = 0) → (((¬ (qi w27 115 42) = 10) → (vp_in (qi w27 115 42) 10 ∧ (((a1 ≤ 0) → (vp_in (qi (qpi w27 139 ((qi w27 115 42).toNatClampNeg) a1) 115 42) 10 ∧ (Q (qpi (qpi (qpi w27 139 ((qi w27 115 42).toNatClampNeg) a1) 140 ((qi (qpi w27 139 ((qi w27 115 42).toNatClampNeg) a1) 115 42).toNatClampNeg) 0) 115 42 ((qi (qpi (qpi w27 139 ((qi w27 115 42).toNatClampNeg) a1) 140 ((qi (qpi w27 139 ((qi w27 115 42).toNatClampNeg) a1) 115 42).toNatClampNeg) 0) 115 42) + 1)) (qi (qpi (qpi (qpi w27 139 ((qi w27 115 42).toNatClampNeg) a1) 140 ((qi (qpi w27 139 ((qi w27 115 42).toNatClampNeg) a1) 115 42).toNatClampNeg) 0) 115 42 ((qi (qpi (qpi w27 139 ((qi w27 115 42).toNatClampNeg) a1) 140 ((qi (qpi w27 139 ((qi w27 115 42).toNatClampNeg) a1) 115 42).toNatClampNeg) 0) 115 42) + 1)) 115 42)))) ∧ ((¬ a1 ≤ 0) → (vp_in (qi (qpi w27 139 ((qi w27 115 42).toNatClampNeg) a1) 115 42) 10 ∧ (Q (qpi (qpi (qpi w27 139 ((qi w27 115 42).toNatClampNeg) a1) 140 ((qi (qpi w27 139 ((qi w27 115 42).toNatClampNeg) a1) 115 42).toNatClampNeg) a2) 115 42 ((qi (qpi (qpi w27 139 ((qi w27 115 42).toNatClampNeg) a1) 140 ((qi (qpi w27 139 ((qi w27 115 42).toNatClampNeg) a1) 115 42).toNatClampNeg) a2) 115 42) + 1)) (qi (qpi (qpi (qpi w27 139 ((qi w27 115 42).toNatClampNeg) a1) 140 ((qi (qpi w27 139 ((qi w27 115 42).toNatClampNeg) a1) 115 42).toNatClampNeg) a2) 115 42 ((qi (qpi (qpi w27 139 ((qi w27 115 42).toNatClampNeg) a1) 140 ((qi (qpi w27 139 ((qi w27 115 42).toNatClampNeg) a1) 115 42).toNatClampNeg) a2) 115 42) + 1)) 115 42))))))) ∧ (((qi w27 115 42) = 10) → (Q w27 (-4))))) ∧ ((x27 = 0) → (Q w27 (-2)))))))) ∧ ((x19 = 0) → (Q w19 (-1)))))))))))) ∧ ((a1 = (-1)) → (Q (qpi w 115 42 0) 0))) : c_Mo_plan_0 d E Q a1 a2 w := by
  unfold c_Mo_plan_0
  refine g_iload_n 1 e_Mo_plan_0 rfl rfl ?_
  refine g_iconst (v := (-1)) e_Mo_plan_1 (by decide) ?_
  refine g_icmp_ne 12 e_Mo_plan_2 (by decide) ⟨fun z1 => ?_, fun z1 => ?_⟩
  · have h := h.1 z1
    refine g_aload_n 0 e_Mo_plan_12 rfl rfl ?_
    refine g_iload_n 1 e_Mo_plan_13 rfl rfl ?_
    refine g_iconst (v := 0) e_Mo_plan_14 (by decide) ?_
    refine g_iconst (v := 3) e_Mo_plan_15 (by decide) ?_
    refine w_callVI (w := w) (As := [.int a1, .int 0, .int 3]) (rest := []) e_Mo_plan_16 ok_Mo_in rfl km_Mo_249 kx_Mo_in kv_Mo_in rfl (by decide) hw lay_115 (by decide) rfl (Nat.le_of_ble_eq_true rfl) h (fun w2 x2 hw2 h => ?_)
    refine g_if_eq 40 e_Mo_plan_19 (by decide) ⟨fun z3 => ?_, fun z3 => ?_⟩
    · have h := h.1 z3
      refine g_iconst (v := (-1)) e_Mo_plan_40 (by decide) ?_
      exact g_iret e_Mo_plan_41 rfl ⟨Sh.n hw2, _, rfl, hw2, h⟩
    · have h := h.2 z3
      refine g_aload_n 0 e_Mo_plan_22 rfl rfl ?_
      refine g_iload_n 1 e_Mo_plan_23 rfl rfl ?_
      refine g_iconst (v := 1) e_Mo_plan_24 (by decide) ?_
      refine g_iconst (v := 2) e_Mo_plan_25 (by decide) ?_
      refine w_callVI (w := w2) (As := [.int a1, .int 1, .int 2]) (rest := []) e_Mo_plan_26 ok_Mo_in rfl km_Mo_249 kx_Mo_in kv_Mo_in rfl (by decide) hw2 lay_115 (by decide) rfl (Nat.le_of_ble_eq_true rfl) h (fun w4 x4 hw4 h => ?_)
      refine g_if_eq 42 e_Mo_plan_29 (by decide) ⟨fun z5 => ?_, fun z5 => ?_⟩
      · have h := h.1 z5
        refine g_iload_n 1 e_Mo_plan_42 rfl rfl ?_
        refine g_iconst (v := 3) e_Mo_plan_43 (by decide) ?_
        refine g_icmp_ne 61 e_Mo_plan_44 (by decide) ⟨fun z6 => ?_, fun z6 => ?_⟩
        · have h := h.1 z6
          refine g_aload_n 0 e_Mo_plan_61 rfl rfl ?_
          refine gf_Mo_139 rfl e_Mo_plan_62 hw4 lay_115 (by decide) ?_
          refine g_bipush (v := 10) e_Mo_plan_65 (by decide) ?_
          refine g_icmp_ne 73 e_Mo_plan_67 (by decide) ⟨fun z7 => ?_, fun z7 => ?_⟩
          · have h := h.1 z7
            refine g_aload_n 0 e_Mo_plan_73 rfl rfl ?_
            refine gf_Mo_145 rfl e_Mo_plan_74 hw4 lay_115 (by decide) (sh_Mo_planWhat hw4) ?_
            refine g_aload_n 0 e_Mo_plan_77 rfl rfl ?_
            refine gf_Mo_139 rfl e_Mo_plan_78 hw4 lay_115 (by decide) ?_
            refine g_iload_n 1 e_Mo_plan_81 rfl rfl ?_
            obtain ⟨o8, h⟩ := h
            refine w_iastore ((qi w4 115 42).toNatClampNeg) e_Mo_plan_82 hw4 lay_139 (by decide) o8 rfl ?_
            refine g_aload_n 0 e_Mo_plan_83 rfl rfl ?_
            refine gf_Mo_148 rfl e_Mo_plan_84 hw4 lay_115 (by decide) (sh_Mo_planNumber hw4) ?_
            refine g_aload_n 0 e_Mo_plan_87 rfl rfl ?_
            refine gf_Mo_139 rfl e_Mo_plan_88 hw4 lay_115 (by decide) ?_
            refine g_iload_n 1 e_Mo_plan_91 rfl rfl ?_
            refine g_if_le 99 e_Mo_plan_92 (by decide) ⟨fun z9 => ?_, fun z9 => ?_⟩
            · have h := h.1 z9
              refine g_iconst (v := 0) e_Mo_plan_99 (by decide) ?_
              obtain ⟨o10, h⟩ := h
              refine w_iastore ((qi (qpi w4 139 ((qi w4 115 42).toNatClampNeg) a1) 115 42).toNatClampNeg) e_Mo_plan_100 hw4 lay_140 (by decide) o10 rfl ?_
              refine g_aload_n 0 e_Mo_plan_101 rfl rfl ?_
              refine g_dup e_Mo_plan_102 rfl ?_
              refine gf_Mo_139 rfl e_Mo_plan_103 hw4 lay_115 (by decide) ?_
              refine g_iconst (v := 1) e_Mo_plan_106 (by decide) ?_
              refine g_iadd e_Mo_plan_107 ?_
              refine pf_Mo_139 rfl e_Mo_plan_108 hw4 lay_115 (by decide) ?_
              refine g_aload_n 0 e_Mo_plan_111 rfl rfl ?_
              refine gf_Mo_139 rfl e_Mo_plan_112 hw4 lay_115 (by decide) ?_
              exact g_iret e_Mo_plan_115 rfl ⟨Sh.n hw4, _, rfl, hw4, h⟩
            · have h := h.2 z9
              refine g_iload_n 2 e_Mo_plan_95 rfl rfl ?_
              refine g_goto 100 e_Mo_plan_96 (by decide) ?_
              obtain ⟨o11, h⟩ := h
              refine w_iastore ((qi (qpi w4 139 ((qi w4 115 42).toNatClampNeg) a1) 115 42).toNatClampNeg) e_Mo_plan_100 hw4 lay_140 (by decide) o11 rfl ?_
              refine g_aload_n 0 e_Mo_plan_101 rfl rfl ?_
              refine g_dup e_Mo_plan_102 rfl ?_
              refine gf_Mo_139 rfl e_Mo_plan_103 hw4 lay_115 (by decide) ?_
              refine g_iconst (v := 1) e_Mo_plan_106 (by decide) ?_
              refine g_iadd e_Mo_plan_107 ?_
              refine pf_Mo_139 rfl e_Mo_plan_108 hw4 lay_115 (by decide) ?_
              refine g_aload_n 0 e_Mo_plan_111 rfl rfl ?_
              refine gf_Mo_139 rfl e_Mo_plan_112 hw4 lay_115 (by decide) ?_
              exact g_iret e_Mo_plan_115 rfl ⟨Sh.n hw4, _, rfl, hw4, h⟩
          · have h := h.2 z7
            refine g_bipush (v := (-4)) e_Mo_plan_70 (by decide) ?_
            exact g_iret e_Mo_plan_72 rfl ⟨Sh.n hw4, _, rfl, hw4, h⟩
        · have h := h.2 z6
          refine g_aload_n 0 e_Mo_plan_47 rfl rfl ?_
          refine g_iload_n 2 e_Mo_plan_48 rfl rfl ?_
          refine g_iconst (v := 0) e_Mo_plan_49 (by decide) ?_
          refine g_bipush (v := 9) e_Mo_plan_50 (by decide) ?_
          refine w_callVI (w := w4) (As := [.int a2, .int 0, .int 9]) (rest := []) e_Mo_plan_52 ok_Mo_in rfl km_Mo_249 kx_Mo_in kv_Mo_in rfl (by decide) hw4 lay_115 (by decide) rfl (Nat.le_of_ble_eq_true rfl) h (fun w12 x12 hw12 h => ?_)
          refine g_if_ne 61 e_Mo_plan_55 (by decide) ⟨fun z13 => ?_, fun z13 => ?_⟩
          · have h := h.1 z13
            refine g_aload_n 0 e_Mo_plan_61 rfl rfl ?_
            refine gf_Mo_139 rfl e_Mo_plan_62 hw12 lay_115 (by decide) ?_
            refine g_bipush (v := 10) e_Mo_plan_65 (by decide) ?_
            refine g_icmp_ne 73 e_Mo_plan_67 (by decide) ⟨fun z14 => ?_, fun z14 => ?_⟩
            · have h := h.1 z14
              refine g_aload_n 0 e_Mo_plan_73 rfl rfl ?_
              refine gf_Mo_145 rfl e_Mo_plan_74 hw12 lay_115 (by decide) (sh_Mo_planWhat hw12) ?_
              refine g_aload_n 0 e_Mo_plan_77 rfl rfl ?_
              refine gf_Mo_139 rfl e_Mo_plan_78 hw12 lay_115 (by decide) ?_
              refine g_iload_n 1 e_Mo_plan_81 rfl rfl ?_
              obtain ⟨o15, h⟩ := h
              refine w_iastore ((qi w12 115 42).toNatClampNeg) e_Mo_plan_82 hw12 lay_139 (by decide) o15 rfl ?_
              refine g_aload_n 0 e_Mo_plan_83 rfl rfl ?_
              refine gf_Mo_148 rfl e_Mo_plan_84 hw12 lay_115 (by decide) (sh_Mo_planNumber hw12) ?_
              refine g_aload_n 0 e_Mo_plan_87 rfl rfl ?_
              refine gf_Mo_139 rfl e_Mo_plan_88 hw12 lay_115 (by decide) ?_
              refine g_iload_n 1 e_Mo_plan_91 rfl rfl ?_
              refine g_if_le 99 e_Mo_plan_92 (by decide) ⟨fun z16 => ?_, fun z16 => ?_⟩
              · have h := h.1 z16
                refine g_iconst (v := 0) e_Mo_plan_99 (by decide) ?_
                obtain ⟨o17, h⟩ := h
                refine w_iastore ((qi (qpi w12 139 ((qi w12 115 42).toNatClampNeg) a1) 115 42).toNatClampNeg) e_Mo_plan_100 hw12 lay_140 (by decide) o17 rfl ?_
                refine g_aload_n 0 e_Mo_plan_101 rfl rfl ?_
                refine g_dup e_Mo_plan_102 rfl ?_
                refine gf_Mo_139 rfl e_Mo_plan_103 hw12 lay_115 (by decide) ?_
                refine g_iconst (v := 1) e_Mo_plan_106 (by decide) ?_
                refine g_iadd e_Mo_plan_107 ?_
                refine pf_Mo_139 rfl e_Mo_plan_108 hw12 lay_115 (by decide) ?_
                refine g_aload_n 0 e_Mo_plan_111 rfl rfl ?_
                refine gf_Mo_139 rfl e_Mo_plan_112 hw12 lay_115 (by decide) ?_
                exact g_iret e_Mo_plan_115 rfl ⟨Sh.n hw12, _, rfl, hw12, h⟩
              · have h := h.2 z16
                refine g_iload_n 2 e_Mo_plan_95 rfl rfl ?_
                refine g_goto 100 e_Mo_plan_96 (by decide) ?_
                obtain ⟨o18, h⟩ := h
                refine w_iastore ((qi (qpi w12 139 ((qi w12 115 42).toNatClampNeg) a1) 115 42).toNatClampNeg) e_Mo_plan_100 hw12 lay_140 (by decide) o18 rfl ?_
                refine g_aload_n 0 e_Mo_plan_101 rfl rfl ?_
                refine g_dup e_Mo_plan_102 rfl ?_
                refine gf_Mo_139 rfl e_Mo_plan_103 hw12 lay_115 (by decide) ?_
                refine g_iconst (v := 1) e_Mo_plan_106 (by decide) ?_
                refine g_iadd e_Mo_plan_107 ?_
                refine pf_Mo_139 rfl e_Mo_plan_108 hw12 lay_115 (by decide) ?_
                refine g_aload_n 0 e_Mo_plan_111 rfl rfl ?_
                refine gf_Mo_139 rfl e_Mo_plan_112 hw12 lay_115 (by decide) ?_
                exact g_iret e_Mo_plan_115 rfl ⟨Sh.n hw12, _, rfl, hw12, h⟩
            · have h := h.2 z14
              refine g_bipush (v := (-4)) e_Mo_plan_70 (by decide) ?_
              exact g_iret e_Mo_plan_72 rfl ⟨Sh.n hw12, _, rfl, hw12, h⟩
          · have h := h.2 z13
            refine g_bipush (v := (-2)) e_Mo_plan_58 (by decide) ?_
            exact g_iret e_Mo_plan_60 rfl ⟨Sh.n hw12, _, rfl, hw12, h⟩
      · have h := h.2 z5
        refine g_aload_n 0 e_Mo_plan_32 rfl rfl ?_
        refine g_iload_n 2 e_Mo_plan_33 rfl rfl ?_
        refine w_callVI (w := w4) (As := [.int a2]) (rest := []) e_Mo_plan_34 ok_Mo_isThing rfl km_Mo_257 kx_Mo_isThing kv_Mo_isThing rfl (by decide) hw4 lay_115 (by decide) rfl (Nat.le_of_ble_eq_true rfl) h (fun w19 x19 hw19 h => ?_)
        refine g_if_ne 42 e_Mo_plan_37 (by decide) ⟨fun z20 => ?_, fun z20 => ?_⟩
        · have h := h.1 z20
          refine g_iload_n 1 e_Mo_plan_42 rfl rfl ?_
          refine g_iconst (v := 3) e_Mo_plan_43 (by decide) ?_
          refine g_icmp_ne 61 e_Mo_plan_44 (by decide) ⟨fun z21 => ?_, fun z21 => ?_⟩
          · have h := h.1 z21
            refine g_aload_n 0 e_Mo_plan_61 rfl rfl ?_
            refine gf_Mo_139 rfl e_Mo_plan_62 hw19 lay_115 (by decide) ?_
            refine g_bipush (v := 10) e_Mo_plan_65 (by decide) ?_
            refine g_icmp_ne 73 e_Mo_plan_67 (by decide) ⟨fun z22 => ?_, fun z22 => ?_⟩
            · have h := h.1 z22
              refine g_aload_n 0 e_Mo_plan_73 rfl rfl ?_
              refine gf_Mo_145 rfl e_Mo_plan_74 hw19 lay_115 (by decide) (sh_Mo_planWhat hw19) ?_
              refine g_aload_n 0 e_Mo_plan_77 rfl rfl ?_
              refine gf_Mo_139 rfl e_Mo_plan_78 hw19 lay_115 (by decide) ?_
              refine g_iload_n 1 e_Mo_plan_81 rfl rfl ?_
              obtain ⟨o23, h⟩ := h
              refine w_iastore ((qi w19 115 42).toNatClampNeg) e_Mo_plan_82 hw19 lay_139 (by decide) o23 rfl ?_
              refine g_aload_n 0 e_Mo_plan_83 rfl rfl ?_
              refine gf_Mo_148 rfl e_Mo_plan_84 hw19 lay_115 (by decide) (sh_Mo_planNumber hw19) ?_
              refine g_aload_n 0 e_Mo_plan_87 rfl rfl ?_
              refine gf_Mo_139 rfl e_Mo_plan_88 hw19 lay_115 (by decide) ?_
              refine g_iload_n 1 e_Mo_plan_91 rfl rfl ?_
              refine g_if_le 99 e_Mo_plan_92 (by decide) ⟨fun z24 => ?_, fun z24 => ?_⟩
              · have h := h.1 z24
                refine g_iconst (v := 0) e_Mo_plan_99 (by decide) ?_
                obtain ⟨o25, h⟩ := h
                refine w_iastore ((qi (qpi w19 139 ((qi w19 115 42).toNatClampNeg) a1) 115 42).toNatClampNeg) e_Mo_plan_100 hw19 lay_140 (by decide) o25 rfl ?_
                refine g_aload_n 0 e_Mo_plan_101 rfl rfl ?_
                refine g_dup e_Mo_plan_102 rfl ?_
                refine gf_Mo_139 rfl e_Mo_plan_103 hw19 lay_115 (by decide) ?_
                refine g_iconst (v := 1) e_Mo_plan_106 (by decide) ?_
                refine g_iadd e_Mo_plan_107 ?_
                refine pf_Mo_139 rfl e_Mo_plan_108 hw19 lay_115 (by decide) ?_
                refine g_aload_n 0 e_Mo_plan_111 rfl rfl ?_
                refine gf_Mo_139 rfl e_Mo_plan_112 hw19 lay_115 (by decide) ?_
                exact g_iret e_Mo_plan_115 rfl ⟨Sh.n hw19, _, rfl, hw19, h⟩
              · have h := h.2 z24
                refine g_iload_n 2 e_Mo_plan_95 rfl rfl ?_
                refine g_goto 100 e_Mo_plan_96 (by decide) ?_
                obtain ⟨o26, h⟩ := h
                refine w_iastore ((qi (qpi w19 139 ((qi w19 115 42).toNatClampNeg) a1) 115 42).toNatClampNeg) e_Mo_plan_100 hw19 lay_140 (by decide) o26 rfl ?_
                refine g_aload_n 0 e_Mo_plan_101 rfl rfl ?_
                refine g_dup e_Mo_plan_102 rfl ?_
                refine gf_Mo_139 rfl e_Mo_plan_103 hw19 lay_115 (by decide) ?_
                refine g_iconst (v := 1) e_Mo_plan_106 (by decide) ?_
                refine g_iadd e_Mo_plan_107 ?_
                refine pf_Mo_139 rfl e_Mo_plan_108 hw19 lay_115 (by decide) ?_
                refine g_aload_n 0 e_Mo_plan_111 rfl rfl ?_
                refine gf_Mo_139 rfl e_Mo_plan_112 hw19 lay_115 (by decide) ?_
                exact g_iret e_Mo_plan_115 rfl ⟨Sh.n hw19, _, rfl, hw19, h⟩
            · have h := h.2 z22
              refine g_bipush (v := (-4)) e_Mo_plan_70 (by decide) ?_
              exact g_iret e_Mo_plan_72 rfl ⟨Sh.n hw19, _, rfl, hw19, h⟩
          · have h := h.2 z21
            refine g_aload_n 0 e_Mo_plan_47 rfl rfl ?_
            refine g_iload_n 2 e_Mo_plan_48 rfl rfl ?_
            refine g_iconst (v := 0) e_Mo_plan_49 (by decide) ?_
            refine g_bipush (v := 9) e_Mo_plan_50 (by decide) ?_
            refine w_callVI (w := w19) (As := [.int a2, .int 0, .int 9]) (rest := []) e_Mo_plan_52 ok_Mo_in rfl km_Mo_249 kx_Mo_in kv_Mo_in rfl (by decide) hw19 lay_115 (by decide) rfl (Nat.le_of_ble_eq_true rfl) h (fun w27 x27 hw27 h => ?_)
            refine g_if_ne 61 e_Mo_plan_55 (by decide) ⟨fun z28 => ?_, fun z28 => ?_⟩
            · have h := h.1 z28
              refine g_aload_n 0 e_Mo_plan_61 rfl rfl ?_
              refine gf_Mo_139 rfl e_Mo_plan_62 hw27 lay_115 (by decide) ?_
              refine g_bipush (v := 10) e_Mo_plan_65 (by decide) ?_
              refine g_icmp_ne 73 e_Mo_plan_67 (by decide) ⟨fun z29 => ?_, fun z29 => ?_⟩
              · have h := h.1 z29
                refine g_aload_n 0 e_Mo_plan_73 rfl rfl ?_
                refine gf_Mo_145 rfl e_Mo_plan_74 hw27 lay_115 (by decide) (sh_Mo_planWhat hw27) ?_
                refine g_aload_n 0 e_Mo_plan_77 rfl rfl ?_
                refine gf_Mo_139 rfl e_Mo_plan_78 hw27 lay_115 (by decide) ?_
                refine g_iload_n 1 e_Mo_plan_81 rfl rfl ?_
                obtain ⟨o30, h⟩ := h
                refine w_iastore ((qi w27 115 42).toNatClampNeg) e_Mo_plan_82 hw27 lay_139 (by decide) o30 rfl ?_
                refine g_aload_n 0 e_Mo_plan_83 rfl rfl ?_
                refine gf_Mo_148 rfl e_Mo_plan_84 hw27 lay_115 (by decide) (sh_Mo_planNumber hw27) ?_
                refine g_aload_n 0 e_Mo_plan_87 rfl rfl ?_
                refine gf_Mo_139 rfl e_Mo_plan_88 hw27 lay_115 (by decide) ?_
                refine g_iload_n 1 e_Mo_plan_91 rfl rfl ?_
                refine g_if_le 99 e_Mo_plan_92 (by decide) ⟨fun z31 => ?_, fun z31 => ?_⟩
                · have h := h.1 z31
                  refine g_iconst (v := 0) e_Mo_plan_99 (by decide) ?_
                  obtain ⟨o32, h⟩ := h
                  refine w_iastore ((qi (qpi w27 139 ((qi w27 115 42).toNatClampNeg) a1) 115 42).toNatClampNeg) e_Mo_plan_100 hw27 lay_140 (by decide) o32 rfl ?_
                  refine g_aload_n 0 e_Mo_plan_101 rfl rfl ?_
                  refine g_dup e_Mo_plan_102 rfl ?_
                  refine gf_Mo_139 rfl e_Mo_plan_103 hw27 lay_115 (by decide) ?_
                  refine g_iconst (v := 1) e_Mo_plan_106 (by decide) ?_
                  refine g_iadd e_Mo_plan_107 ?_
                  refine pf_Mo_139 rfl e_Mo_plan_108 hw27 lay_115 (by decide) ?_
                  refine g_aload_n 0 e_Mo_plan_111 rfl rfl ?_
                  refine gf_Mo_139 rfl e_Mo_plan_112 hw27 lay_115 (by decide) ?_
                  exact g_iret e_Mo_plan_115 rfl ⟨Sh.n hw27, _, rfl, hw27, h⟩
                · have h := h.2 z31
                  refine g_iload_n 2 e_Mo_plan_95 rfl rfl ?_
                  refine g_goto 100 e_Mo_plan_96 (by decide) ?_
                  obtain ⟨o33, h⟩ := h
                  refine w_iastore ((qi (qpi w27 139 ((qi w27 115 42).toNatClampNeg) a1) 115 42).toNatClampNeg) e_Mo_plan_100 hw27 lay_140 (by decide) o33 rfl ?_
                  refine g_aload_n 0 e_Mo_plan_101 rfl rfl ?_
                  refine g_dup e_Mo_plan_102 rfl ?_
                  refine gf_Mo_139 rfl e_Mo_plan_103 hw27 lay_115 (by decide) ?_
                  refine g_iconst (v := 1) e_Mo_plan_106 (by decide) ?_
                  refine g_iadd e_Mo_plan_107 ?_
                  refine pf_Mo_139 rfl e_Mo_plan_108 hw27 lay_115 (by decide) ?_
                  refine g_aload_n 0 e_Mo_plan_111 rfl rfl ?_
                  refine gf_Mo_139 rfl e_Mo_plan_112 hw27 lay_115 (by decide) ?_
                  exact g_iret e_Mo_plan_115 rfl ⟨Sh.n hw27, _, rfl, hw27, h⟩
              · have h := h.2 z29
                refine g_bipush (v := (-4)) e_Mo_plan_70 (by decide) ?_
                exact g_iret e_Mo_plan_72 rfl ⟨Sh.n hw27, _, rfl, hw27, h⟩
            · have h := h.2 z28
              refine g_bipush (v := (-2)) e_Mo_plan_58 (by decide) ?_
              exact g_iret e_Mo_plan_60 rfl ⟨Sh.n hw27, _, rfl, hw27, h⟩
        · have h := h.2 z20
          refine g_iconst (v := (-1)) e_Mo_plan_40 (by decide) ?_
          exact g_iret e_Mo_plan_41 rfl ⟨Sh.n hw19, _, rfl, hw19, h⟩
  · have h := h.2 z1
    refine g_aload_n 0 e_Mo_plan_5 rfl rfl ?_
    refine g_iconst (v := 0) e_Mo_plan_6 (by decide) ?_
    refine pf_Mo_139 rfl e_Mo_plan_7 hw lay_115 (by decide) ?_
    refine g_iconst (v := 0) e_Mo_plan_10 (by decide) ?_
    exact g_iret e_Mo_plan_11 rfl ⟨Sh.n hw, _, rfl, hw, h⟩
theorem en_Mo_plan {d : Nat} {E : qE} {Q : qW → Int32 → Prop} {a1 : Int32} {a2 : Int32} {w : qW} (hw : Sh w) (h : c_Mo_plan_0 d E Q a1 a2 w) : CaI (d + 2) M_Mo_plan [.ref (qb E + 115), .int a1, .int a2] E w Q := Ca.into hw rfl (Nat.le_of_ble_eq_true rfl) h
def c_Mo_goPlan_0 (d : Nat) (E : qE) (Q : qW → Prop) (a1 : Int32) (a2 : Int32) (w : qW) : Prop := Go (d + 6) M_Mo_goPlan E 161 161 (qFV Q) 0 [(0, .ref (qb E + 115)), (1, .int a1), (2, .int a2)] [] w
set_option maxHeartbeats 4000000 in
set_option maxRecDepth 8000 in
theorem s_Mo_goPlan_0 {d : Nat} {E : qE} {Q : qW → Prop} {a1 : Int32} {a2 : Int32} {w : qW} (hw : Sh w) (h : ((¬ a1 = 0) → (((¬ a1 = 1) → (((¬ a1 = 2) → (((¬ a1 = 3) → (Q w)) ∧ ((a1 = 3) → (Q (qpi w 115 1 a2))))) ∧ ((a1 = 2) → (vp_in a2 6 ∧ ((((qi w 120 ((a2).toNatClampNeg)) = 2) → (((¬ a1 = 3) → (Q w)) ∧ ((a1 = 3) → (Q (qpi w 115 1 a2))))) ∧ ((¬ (qi w 120 ((a2).toNatClampNeg)) = 2) → (CaV (d + 5) M_Mo_says [.ref (qb E + 115), .int a2] E w (fun w8 => ((¬ a1 = 3) → (Q w8)) ∧ ((a1 = 3) → (Q (qpi w8 115 1 a2))))))))))) ∧ ((a1 = 1) → (vp_in a2 6 ∧ (((¬ (qi w 120 ((a2).toNatClampNeg)) = 0) → (((¬ a1 = 2) → (((¬ a1 = 3) → (Q w)) ∧ ((a1 = 3) → (Q (qpi w 115 1 a2))))) ∧ ((a1 = 2) → (vp_in a2 6 ∧ ((((qi w 120 ((a2).toNatClampNeg)) = 2) → (((¬ a1 = 3) → (Q w)) ∧ ((a1 = 3) → (Q (qpi w 115 1 a2))))) ∧ ((¬ (qi w 120 ((a2).toNatClampNeg)) = 2) → (CaV (d + 5) M_Mo_says [.ref (qb E + 115), .int a2] E w (fun w17 => ((¬ a1 = 3) → (Q w17)) ∧ ((a1 = 3) → (Q (qpi w17 115 1 a2))))))))))) ∧ (((qi w 120 ((a2).toNatClampNeg)) = 0) → (CaV (d + 5) M_Mo_puts [.ref (qb E + 115), .int a2] E w (fun w19 => ((¬ a1 = 2) → (((¬ a1 = 3) → (Q w19)) ∧ ((a1 = 3) → (Q (qpi w19 115 1 a2))))) ∧ ((a1 = 2) → (vp_in a2 6 ∧ ((((qi w19 120 ((a2).toNatClampNeg)) = 2) → (((¬ a1 = 3) → (Q w19)) ∧ ((a1 = 3) → (Q (qpi w19 115 1 a2))))) ∧ ((¬ (qi w19 120 ((a2).toNatClampNeg)) = 2) → (CaV (d + 5) M_Mo_says [.ref (qb E + 115), .int a2] E w19 (fun w25 => ((¬ a1 = 3) → (Q w25)) ∧ ((a1 = 3) → (Q (qpi w25 115 1 a2))))))))))))))))) ∧ ((a1 = 0) → (CaV (d + 5) M_Mo_goMinute [.ref (qb E + 115)] E w (fun w27 => ((¬ a1 = 1) → (((¬ a1 = 2) → (((¬ a1 = 3) → (Q w27)) ∧ ((a1 = 3) → (Q (qpi w27 115 1 a2))))) ∧ ((a1 = 2) → (vp_in a2 6 ∧ ((((qi w27 120 ((a2).toNatClampNeg)) = 2) → (((¬ a1 = 3) → (Q w27)) ∧ ((a1 = 3) → (Q (qpi w27 115 1 a2))))) ∧ ((¬ (qi w27 120 ((a2).toNatClampNeg)) = 2) → (CaV (d + 5) M_Mo_says [.ref (qb E + 115), .int a2] E w27 (fun w34 => ((¬ a1 = 3) → (Q w34)) ∧ ((a1 = 3) → (Q (qpi w34 115 1 a2))))))))))) ∧ ((a1 = 1) → (vp_in a2 6 ∧ (((¬ (qi w27 120 ((a2).toNatClampNeg)) = 0) → (((¬ a1 = 2) → (((¬ a1 = 3) → (Q w27)) ∧ ((a1 = 3) → (Q (qpi w27 115 1 a2))))) ∧ ((a1 = 2) → (vp_in a2 6 ∧ ((((qi w27 120 ((a2).toNatClampNeg)) = 2) → (((¬ a1 = 3) → (Q w27)) ∧ ((a1 = 3) → (Q (qpi w27 115 1 a2))))) ∧ ((¬ (qi w27 120 ((a2).toNatClampNeg)) = 2) → (CaV (d + 5) M_Mo_says [.ref (qb E + 115), .int a2] E w27 (fun w43 => ((¬ a1 = 3) → (Q w43)) ∧ ((a1 = 3) → (Q (qpi w43 115 1 a2))))))))))) ∧ (((qi w27 120 ((a2).toNatClampNeg)) = 0) → (CaV (d + 5) M_Mo_puts [.ref (qb E + 115), .int a2] E w27 (fun w45 => ((¬ a1 = 2) → (((¬ a1 = 3) → (Q w45)) ∧ ((a1 = 3) → (Q (qpi w45 115 1 a2))))) ∧ ((a1 = 2) → (vp_in a2 6 ∧ ((((qi w45 120 ((a2).toNatClampNeg)) = 2) → (((¬ a1 = 3) → (Q w45)) ∧ ((a1 = 3) → (Q (qpi w45 115 1 a2))))) ∧ ((¬ (qi w45 120 ((a2).toNatClampNeg)) = 2) → (CaV (d + 5) M_Mo_says [.ref (qb E + 115), .int a2] E w45 (fun w51 => ((¬ a1 = 3) → (Q w51)) ∧ ((a1 = 3) → (Q (qpi w51 115 1 a2))))))))))))))))))) : c_Mo_goPlan_0 d E Q a1 a2 w := by
  unfold c_Mo_goPlan_0
  refine g_iload_n 1 e_Mo_goPlan_0 rfl rfl ?_
  refine g_if_ne 8 e_Mo_goPlan_1 (by decide) ⟨fun z1 => ?_, fun z1 => ?_⟩
  · have h := h.1 z1
    refine g_iload_n 1 e_Mo_goPlan_8 rfl rfl ?_
    refine g_iconst (v := 1) e_Mo_goPlan_9 (by decide) ?_
    refine g_icmp_ne 27 e_Mo_goPlan_10 (by decide) ⟨fun z2 => ?_, fun z2 => ?_⟩
    · have h := h.1 z2
      refine g_iload_n 1 e_Mo_goPlan_27 rfl rfl ?_
      refine g_iconst (v := 2) e_Mo_goPlan_28 (by decide) ?_
      refine g_icmp_ne 47 e_Mo_goPlan_29 (by decide) ⟨fun z3 => ?_, fun z3 => ?_⟩
      · have h := h.1 z3
        refine g_iload_n 1 e_Mo_goPlan_47 rfl rfl ?_
        refine g_iconst (v := 3) e_Mo_goPlan_48 (by decide) ?_
        refine g_icmp_ne 57 e_Mo_goPlan_49 (by decide) ⟨fun z4 => ?_, fun z4 => ?_⟩
        · have h := h.1 z4
          exact g_vret e_Mo_goPlan_57 rfl ⟨Sh.n hw, rfl, hw, h⟩
        · have h := h.2 z4
          refine g_aload_n 0 e_Mo_goPlan_52 rfl rfl ?_
          refine g_iload_n 2 e_Mo_goPlan_53 rfl rfl ?_
          refine pf_Mo_13 rfl e_Mo_goPlan_54 hw lay_115 (by decide) ?_
          exact g_vret e_Mo_goPlan_57 rfl ⟨Sh.n hw, rfl, hw, h⟩
      · have h := h.2 z3
        refine g_aload_n 0 e_Mo_goPlan_32 rfl rfl ?_
        refine gf_Mo_39 rfl e_Mo_goPlan_33 hw lay_115 (by decide) (sh_Mo_lies hw) ?_
        refine g_iload_n 2 e_Mo_goPlan_36 rfl rfl ?_
        obtain ⟨o5, h⟩ := h
        refine w_iaload ((a2).toNatClampNeg) e_Mo_goPlan_37 hw lay_120 (by decide) o5 rfl ?_
        refine g_iconst (v := 2) e_Mo_goPlan_38 (by decide) ?_
        refine g_icmp_eq 47 e_Mo_goPlan_39 (by decide) ⟨fun z6 => ?_, fun z6 => ?_⟩
        · have h := h.1 z6
          refine g_iload_n 1 e_Mo_goPlan_47 rfl rfl ?_
          refine g_iconst (v := 3) e_Mo_goPlan_48 (by decide) ?_
          refine g_icmp_ne 57 e_Mo_goPlan_49 (by decide) ⟨fun z7 => ?_, fun z7 => ?_⟩
          · have h := h.1 z7
            exact g_vret e_Mo_goPlan_57 rfl ⟨Sh.n hw, rfl, hw, h⟩
          · have h := h.2 z7
            refine g_aload_n 0 e_Mo_goPlan_52 rfl rfl ?_
            refine g_iload_n 2 e_Mo_goPlan_53 rfl rfl ?_
            refine pf_Mo_13 rfl e_Mo_goPlan_54 hw lay_115 (by decide) ?_
            exact g_vret e_Mo_goPlan_57 rfl ⟨Sh.n hw, rfl, hw, h⟩
        · have h := h.2 z6
          refine g_aload_n 0 e_Mo_goPlan_42 rfl rfl ?_
          refine g_iload_n 2 e_Mo_goPlan_43 rfl rfl ?_
          refine w_callVV (w := w) (As := [.int a2]) (rest := []) e_Mo_goPlan_44 ok_Mo_says rfl km_Mo_271 kx_Mo_says kv_Mo_says rfl (by decide) hw lay_115 (by decide) rfl (Nat.le_of_ble_eq_true rfl) h (fun w8 hw8 h => ?_)
          refine g_iload_n 1 e_Mo_goPlan_47 rfl rfl ?_
          refine g_iconst (v := 3) e_Mo_goPlan_48 (by decide) ?_
          refine g_icmp_ne 57 e_Mo_goPlan_49 (by decide) ⟨fun z9 => ?_, fun z9 => ?_⟩
          · have h := h.1 z9
            exact g_vret e_Mo_goPlan_57 rfl ⟨Sh.n hw8, rfl, hw8, h⟩
          · have h := h.2 z9
            refine g_aload_n 0 e_Mo_goPlan_52 rfl rfl ?_
            refine g_iload_n 2 e_Mo_goPlan_53 rfl rfl ?_
            refine pf_Mo_13 rfl e_Mo_goPlan_54 hw8 lay_115 (by decide) ?_
            exact g_vret e_Mo_goPlan_57 rfl ⟨Sh.n hw8, rfl, hw8, h⟩
    · have h := h.2 z2
      refine g_aload_n 0 e_Mo_goPlan_13 rfl rfl ?_
      refine gf_Mo_39 rfl e_Mo_goPlan_14 hw lay_115 (by decide) (sh_Mo_lies hw) ?_
      refine g_iload_n 2 e_Mo_goPlan_17 rfl rfl ?_
      obtain ⟨o10, h⟩ := h
      refine w_iaload ((a2).toNatClampNeg) e_Mo_goPlan_18 hw lay_120 (by decide) o10 rfl ?_
      refine g_if_ne 27 e_Mo_goPlan_19 (by decide) ⟨fun z11 => ?_, fun z11 => ?_⟩
      · have h := h.1 z11
        refine g_iload_n 1 e_Mo_goPlan_27 rfl rfl ?_
        refine g_iconst (v := 2) e_Mo_goPlan_28 (by decide) ?_
        refine g_icmp_ne 47 e_Mo_goPlan_29 (by decide) ⟨fun z12 => ?_, fun z12 => ?_⟩
        · have h := h.1 z12
          refine g_iload_n 1 e_Mo_goPlan_47 rfl rfl ?_
          refine g_iconst (v := 3) e_Mo_goPlan_48 (by decide) ?_
          refine g_icmp_ne 57 e_Mo_goPlan_49 (by decide) ⟨fun z13 => ?_, fun z13 => ?_⟩
          · have h := h.1 z13
            exact g_vret e_Mo_goPlan_57 rfl ⟨Sh.n hw, rfl, hw, h⟩
          · have h := h.2 z13
            refine g_aload_n 0 e_Mo_goPlan_52 rfl rfl ?_
            refine g_iload_n 2 e_Mo_goPlan_53 rfl rfl ?_
            refine pf_Mo_13 rfl e_Mo_goPlan_54 hw lay_115 (by decide) ?_
            exact g_vret e_Mo_goPlan_57 rfl ⟨Sh.n hw, rfl, hw, h⟩
        · have h := h.2 z12
          refine g_aload_n 0 e_Mo_goPlan_32 rfl rfl ?_
          refine gf_Mo_39 rfl e_Mo_goPlan_33 hw lay_115 (by decide) (sh_Mo_lies hw) ?_
          refine g_iload_n 2 e_Mo_goPlan_36 rfl rfl ?_
          obtain ⟨o14, h⟩ := h
          refine w_iaload ((a2).toNatClampNeg) e_Mo_goPlan_37 hw lay_120 (by decide) o14 rfl ?_
          refine g_iconst (v := 2) e_Mo_goPlan_38 (by decide) ?_
          refine g_icmp_eq 47 e_Mo_goPlan_39 (by decide) ⟨fun z15 => ?_, fun z15 => ?_⟩
          · have h := h.1 z15
            refine g_iload_n 1 e_Mo_goPlan_47 rfl rfl ?_
            refine g_iconst (v := 3) e_Mo_goPlan_48 (by decide) ?_
            refine g_icmp_ne 57 e_Mo_goPlan_49 (by decide) ⟨fun z16 => ?_, fun z16 => ?_⟩
            · have h := h.1 z16
              exact g_vret e_Mo_goPlan_57 rfl ⟨Sh.n hw, rfl, hw, h⟩
            · have h := h.2 z16
              refine g_aload_n 0 e_Mo_goPlan_52 rfl rfl ?_
              refine g_iload_n 2 e_Mo_goPlan_53 rfl rfl ?_
              refine pf_Mo_13 rfl e_Mo_goPlan_54 hw lay_115 (by decide) ?_
              exact g_vret e_Mo_goPlan_57 rfl ⟨Sh.n hw, rfl, hw, h⟩
          · have h := h.2 z15
            refine g_aload_n 0 e_Mo_goPlan_42 rfl rfl ?_
            refine g_iload_n 2 e_Mo_goPlan_43 rfl rfl ?_
            refine w_callVV (w := w) (As := [.int a2]) (rest := []) e_Mo_goPlan_44 ok_Mo_says rfl km_Mo_271 kx_Mo_says kv_Mo_says rfl (by decide) hw lay_115 (by decide) rfl (Nat.le_of_ble_eq_true rfl) h (fun w17 hw17 h => ?_)
            refine g_iload_n 1 e_Mo_goPlan_47 rfl rfl ?_
            refine g_iconst (v := 3) e_Mo_goPlan_48 (by decide) ?_
            refine g_icmp_ne 57 e_Mo_goPlan_49 (by decide) ⟨fun z18 => ?_, fun z18 => ?_⟩
            · have h := h.1 z18
              exact g_vret e_Mo_goPlan_57 rfl ⟨Sh.n hw17, rfl, hw17, h⟩
            · have h := h.2 z18
              refine g_aload_n 0 e_Mo_goPlan_52 rfl rfl ?_
              refine g_iload_n 2 e_Mo_goPlan_53 rfl rfl ?_
              refine pf_Mo_13 rfl e_Mo_goPlan_54 hw17 lay_115 (by decide) ?_
              exact g_vret e_Mo_goPlan_57 rfl ⟨Sh.n hw17, rfl, hw17, h⟩
      · have h := h.2 z11
        refine g_aload_n 0 e_Mo_goPlan_22 rfl rfl ?_
        refine g_iload_n 2 e_Mo_goPlan_23 rfl rfl ?_
        refine w_callVV (w := w) (As := [.int a2]) (rest := []) e_Mo_goPlan_24 ok_Mo_puts rfl km_Mo_260 kx_Mo_puts kv_Mo_puts rfl (by decide) hw lay_115 (by decide) rfl (Nat.le_of_ble_eq_true rfl) h (fun w19 hw19 h => ?_)
        refine g_iload_n 1 e_Mo_goPlan_27 rfl rfl ?_
        refine g_iconst (v := 2) e_Mo_goPlan_28 (by decide) ?_
        refine g_icmp_ne 47 e_Mo_goPlan_29 (by decide) ⟨fun z20 => ?_, fun z20 => ?_⟩
        · have h := h.1 z20
          refine g_iload_n 1 e_Mo_goPlan_47 rfl rfl ?_
          refine g_iconst (v := 3) e_Mo_goPlan_48 (by decide) ?_
          refine g_icmp_ne 57 e_Mo_goPlan_49 (by decide) ⟨fun z21 => ?_, fun z21 => ?_⟩
          · have h := h.1 z21
            exact g_vret e_Mo_goPlan_57 rfl ⟨Sh.n hw19, rfl, hw19, h⟩
          · have h := h.2 z21
            refine g_aload_n 0 e_Mo_goPlan_52 rfl rfl ?_
            refine g_iload_n 2 e_Mo_goPlan_53 rfl rfl ?_
            refine pf_Mo_13 rfl e_Mo_goPlan_54 hw19 lay_115 (by decide) ?_
            exact g_vret e_Mo_goPlan_57 rfl ⟨Sh.n hw19, rfl, hw19, h⟩
        · have h := h.2 z20
          refine g_aload_n 0 e_Mo_goPlan_32 rfl rfl ?_
          refine gf_Mo_39 rfl e_Mo_goPlan_33 hw19 lay_115 (by decide) (sh_Mo_lies hw19) ?_
          refine g_iload_n 2 e_Mo_goPlan_36 rfl rfl ?_
          obtain ⟨o22, h⟩ := h
          refine w_iaload ((a2).toNatClampNeg) e_Mo_goPlan_37 hw19 lay_120 (by decide) o22 rfl ?_
          refine g_iconst (v := 2) e_Mo_goPlan_38 (by decide) ?_
          refine g_icmp_eq 47 e_Mo_goPlan_39 (by decide) ⟨fun z23 => ?_, fun z23 => ?_⟩
          · have h := h.1 z23
            refine g_iload_n 1 e_Mo_goPlan_47 rfl rfl ?_
            refine g_iconst (v := 3) e_Mo_goPlan_48 (by decide) ?_
            refine g_icmp_ne 57 e_Mo_goPlan_49 (by decide) ⟨fun z24 => ?_, fun z24 => ?_⟩
            · have h := h.1 z24
              exact g_vret e_Mo_goPlan_57 rfl ⟨Sh.n hw19, rfl, hw19, h⟩
            · have h := h.2 z24
              refine g_aload_n 0 e_Mo_goPlan_52 rfl rfl ?_
              refine g_iload_n 2 e_Mo_goPlan_53 rfl rfl ?_
              refine pf_Mo_13 rfl e_Mo_goPlan_54 hw19 lay_115 (by decide) ?_
              exact g_vret e_Mo_goPlan_57 rfl ⟨Sh.n hw19, rfl, hw19, h⟩
          · have h := h.2 z23
            refine g_aload_n 0 e_Mo_goPlan_42 rfl rfl ?_
            refine g_iload_n 2 e_Mo_goPlan_43 rfl rfl ?_
            refine w_callVV (w := w19) (As := [.int a2]) (rest := []) e_Mo_goPlan_44 ok_Mo_says rfl km_Mo_271 kx_Mo_says kv_Mo_says rfl (by decide) hw19 lay_115 (by decide) rfl (Nat.le_of_ble_eq_true rfl) h (fun w25 hw25 h => ?_)
            refine g_iload_n 1 e_Mo_goPlan_47 rfl rfl ?_
            refine g_iconst (v := 3) e_Mo_goPlan_48 (by decide) ?_
            refine g_icmp_ne 57 e_Mo_goPlan_49 (by decide) ⟨fun z26 => ?_, fun z26 => ?_⟩
            · have h := h.1 z26
              exact g_vret e_Mo_goPlan_57 rfl ⟨Sh.n hw25, rfl, hw25, h⟩
            · have h := h.2 z26
              refine g_aload_n 0 e_Mo_goPlan_52 rfl rfl ?_
              refine g_iload_n 2 e_Mo_goPlan_53 rfl rfl ?_
              refine pf_Mo_13 rfl e_Mo_goPlan_54 hw25 lay_115 (by decide) ?_
              exact g_vret e_Mo_goPlan_57 rfl ⟨Sh.n hw25, rfl, hw25, h⟩
  · have h := h.2 z1
    refine g_aload_n 0 e_Mo_goPlan_4 rfl rfl ?_
    refine w_callVV (w := w) (As := []) (rest := []) e_Mo_goPlan_5 ok_Mo_goMinute rfl km_Mo_350 kx_Mo_goMinute kv_Mo_goMinute rfl (by decide) hw lay_115 (by decide) rfl (Nat.le_of_ble_eq_true rfl) h (fun w27 hw27 h => ?_)
    refine g_iload_n 1 e_Mo_goPlan_8 rfl rfl ?_
    refine g_iconst (v := 1) e_Mo_goPlan_9 (by decide) ?_
    refine g_icmp_ne 27 e_Mo_goPlan_10 (by decide) ⟨fun z28 => ?_, fun z28 => ?_⟩
    · have h := h.1 z28
      refine g_iload_n 1 e_Mo_goPlan_27 rfl rfl ?_
      refine g_iconst (v := 2) e_Mo_goPlan_28 (by decide) ?_
      refine g_icmp_ne 47 e_Mo_goPlan_29 (by decide) ⟨fun z29 => ?_, fun z29 => ?_⟩
      · have h := h.1 z29
        refine g_iload_n 1 e_Mo_goPlan_47 rfl rfl ?_
        refine g_iconst (v := 3) e_Mo_goPlan_48 (by decide) ?_
        refine g_icmp_ne 57 e_Mo_goPlan_49 (by decide) ⟨fun z30 => ?_, fun z30 => ?_⟩
        · have h := h.1 z30
          exact g_vret e_Mo_goPlan_57 rfl ⟨Sh.n hw27, rfl, hw27, h⟩
        · have h := h.2 z30
          refine g_aload_n 0 e_Mo_goPlan_52 rfl rfl ?_
          refine g_iload_n 2 e_Mo_goPlan_53 rfl rfl ?_
          refine pf_Mo_13 rfl e_Mo_goPlan_54 hw27 lay_115 (by decide) ?_
          exact g_vret e_Mo_goPlan_57 rfl ⟨Sh.n hw27, rfl, hw27, h⟩
      · have h := h.2 z29
        refine g_aload_n 0 e_Mo_goPlan_32 rfl rfl ?_
        refine gf_Mo_39 rfl e_Mo_goPlan_33 hw27 lay_115 (by decide) (sh_Mo_lies hw27) ?_
        refine g_iload_n 2 e_Mo_goPlan_36 rfl rfl ?_
        obtain ⟨o31, h⟩ := h
        refine w_iaload ((a2).toNatClampNeg) e_Mo_goPlan_37 hw27 lay_120 (by decide) o31 rfl ?_
        refine g_iconst (v := 2) e_Mo_goPlan_38 (by decide) ?_
        refine g_icmp_eq 47 e_Mo_goPlan_39 (by decide) ⟨fun z32 => ?_, fun z32 => ?_⟩
        · have h := h.1 z32
          refine g_iload_n 1 e_Mo_goPlan_47 rfl rfl ?_
          refine g_iconst (v := 3) e_Mo_goPlan_48 (by decide) ?_
          refine g_icmp_ne 57 e_Mo_goPlan_49 (by decide) ⟨fun z33 => ?_, fun z33 => ?_⟩
          · have h := h.1 z33
            exact g_vret e_Mo_goPlan_57 rfl ⟨Sh.n hw27, rfl, hw27, h⟩
          · have h := h.2 z33
            refine g_aload_n 0 e_Mo_goPlan_52 rfl rfl ?_
            refine g_iload_n 2 e_Mo_goPlan_53 rfl rfl ?_
            refine pf_Mo_13 rfl e_Mo_goPlan_54 hw27 lay_115 (by decide) ?_
            exact g_vret e_Mo_goPlan_57 rfl ⟨Sh.n hw27, rfl, hw27, h⟩
        · have h := h.2 z32
          refine g_aload_n 0 e_Mo_goPlan_42 rfl rfl ?_
          refine g_iload_n 2 e_Mo_goPlan_43 rfl rfl ?_
          refine w_callVV (w := w27) (As := [.int a2]) (rest := []) e_Mo_goPlan_44 ok_Mo_says rfl km_Mo_271 kx_Mo_says kv_Mo_says rfl (by decide) hw27 lay_115 (by decide) rfl (Nat.le_of_ble_eq_true rfl) h (fun w34 hw34 h => ?_)
          refine g_iload_n 1 e_Mo_goPlan_47 rfl rfl ?_
          refine g_iconst (v := 3) e_Mo_goPlan_48 (by decide) ?_
          refine g_icmp_ne 57 e_Mo_goPlan_49 (by decide) ⟨fun z35 => ?_, fun z35 => ?_⟩
          · have h := h.1 z35
            exact g_vret e_Mo_goPlan_57 rfl ⟨Sh.n hw34, rfl, hw34, h⟩
          · have h := h.2 z35
            refine g_aload_n 0 e_Mo_goPlan_52 rfl rfl ?_
            refine g_iload_n 2 e_Mo_goPlan_53 rfl rfl ?_
            refine pf_Mo_13 rfl e_Mo_goPlan_54 hw34 lay_115 (by decide) ?_
            exact g_vret e_Mo_goPlan_57 rfl ⟨Sh.n hw34, rfl, hw34, h⟩
    · have h := h.2 z28
      refine g_aload_n 0 e_Mo_goPlan_13 rfl rfl ?_
      refine gf_Mo_39 rfl e_Mo_goPlan_14 hw27 lay_115 (by decide) (sh_Mo_lies hw27) ?_
      refine g_iload_n 2 e_Mo_goPlan_17 rfl rfl ?_
      obtain ⟨o36, h⟩ := h
      refine w_iaload ((a2).toNatClampNeg) e_Mo_goPlan_18 hw27 lay_120 (by decide) o36 rfl ?_
      refine g_if_ne 27 e_Mo_goPlan_19 (by decide) ⟨fun z37 => ?_, fun z37 => ?_⟩
      · have h := h.1 z37
        refine g_iload_n 1 e_Mo_goPlan_27 rfl rfl ?_
        refine g_iconst (v := 2) e_Mo_goPlan_28 (by decide) ?_
        refine g_icmp_ne 47 e_Mo_goPlan_29 (by decide) ⟨fun z38 => ?_, fun z38 => ?_⟩
        · have h := h.1 z38
          refine g_iload_n 1 e_Mo_goPlan_47 rfl rfl ?_
          refine g_iconst (v := 3) e_Mo_goPlan_48 (by decide) ?_
          refine g_icmp_ne 57 e_Mo_goPlan_49 (by decide) ⟨fun z39 => ?_, fun z39 => ?_⟩
          · have h := h.1 z39
            exact g_vret e_Mo_goPlan_57 rfl ⟨Sh.n hw27, rfl, hw27, h⟩
          · have h := h.2 z39
            refine g_aload_n 0 e_Mo_goPlan_52 rfl rfl ?_
            refine g_iload_n 2 e_Mo_goPlan_53 rfl rfl ?_
            refine pf_Mo_13 rfl e_Mo_goPlan_54 hw27 lay_115 (by decide) ?_
            exact g_vret e_Mo_goPlan_57 rfl ⟨Sh.n hw27, rfl, hw27, h⟩
        · have h := h.2 z38
          refine g_aload_n 0 e_Mo_goPlan_32 rfl rfl ?_
          refine gf_Mo_39 rfl e_Mo_goPlan_33 hw27 lay_115 (by decide) (sh_Mo_lies hw27) ?_
          refine g_iload_n 2 e_Mo_goPlan_36 rfl rfl ?_
          obtain ⟨o40, h⟩ := h
          refine w_iaload ((a2).toNatClampNeg) e_Mo_goPlan_37 hw27 lay_120 (by decide) o40 rfl ?_
          refine g_iconst (v := 2) e_Mo_goPlan_38 (by decide) ?_
          refine g_icmp_eq 47 e_Mo_goPlan_39 (by decide) ⟨fun z41 => ?_, fun z41 => ?_⟩
          · have h := h.1 z41
            refine g_iload_n 1 e_Mo_goPlan_47 rfl rfl ?_
            refine g_iconst (v := 3) e_Mo_goPlan_48 (by decide) ?_
            refine g_icmp_ne 57 e_Mo_goPlan_49 (by decide) ⟨fun z42 => ?_, fun z42 => ?_⟩
            · have h := h.1 z42
              exact g_vret e_Mo_goPlan_57 rfl ⟨Sh.n hw27, rfl, hw27, h⟩
            · have h := h.2 z42
              refine g_aload_n 0 e_Mo_goPlan_52 rfl rfl ?_
              refine g_iload_n 2 e_Mo_goPlan_53 rfl rfl ?_
              refine pf_Mo_13 rfl e_Mo_goPlan_54 hw27 lay_115 (by decide) ?_
              exact g_vret e_Mo_goPlan_57 rfl ⟨Sh.n hw27, rfl, hw27, h⟩
          · have h := h.2 z41
            refine g_aload_n 0 e_Mo_goPlan_42 rfl rfl ?_
            refine g_iload_n 2 e_Mo_goPlan_43 rfl rfl ?_
            refine w_callVV (w := w27) (As := [.int a2]) (rest := []) e_Mo_goPlan_44 ok_Mo_says rfl km_Mo_271 kx_Mo_says kv_Mo_says rfl (by decide) hw27 lay_115 (by decide) rfl (Nat.le_of_ble_eq_true rfl) h (fun w43 hw43 h => ?_)
            refine g_iload_n 1 e_Mo_goPlan_47 rfl rfl ?_
            refine g_iconst (v := 3) e_Mo_goPlan_48 (by decide) ?_
            refine g_icmp_ne 57 e_Mo_goPlan_49 (by decide) ⟨fun z44 => ?_, fun z44 => ?_⟩
            · have h := h.1 z44
              exact g_vret e_Mo_goPlan_57 rfl ⟨Sh.n hw43, rfl, hw43, h⟩
            · have h := h.2 z44
              refine g_aload_n 0 e_Mo_goPlan_52 rfl rfl ?_
              refine g_iload_n 2 e_Mo_goPlan_53 rfl rfl ?_
              refine pf_Mo_13 rfl e_Mo_goPlan_54 hw43 lay_115 (by decide) ?_
              exact g_vret e_Mo_goPlan_57 rfl ⟨Sh.n hw43, rfl, hw43, h⟩
      · have h := h.2 z37
        refine g_aload_n 0 e_Mo_goPlan_22 rfl rfl ?_
        refine g_iload_n 2 e_Mo_goPlan_23 rfl rfl ?_
        refine w_callVV (w := w27) (As := [.int a2]) (rest := []) e_Mo_goPlan_24 ok_Mo_puts rfl km_Mo_260 kx_Mo_puts kv_Mo_puts rfl (by decide) hw27 lay_115 (by decide) rfl (Nat.le_of_ble_eq_true rfl) h (fun w45 hw45 h => ?_)
        refine g_iload_n 1 e_Mo_goPlan_27 rfl rfl ?_
        refine g_iconst (v := 2) e_Mo_goPlan_28 (by decide) ?_
        refine g_icmp_ne 47 e_Mo_goPlan_29 (by decide) ⟨fun z46 => ?_, fun z46 => ?_⟩
        · have h := h.1 z46
          refine g_iload_n 1 e_Mo_goPlan_47 rfl rfl ?_
          refine g_iconst (v := 3) e_Mo_goPlan_48 (by decide) ?_
          refine g_icmp_ne 57 e_Mo_goPlan_49 (by decide) ⟨fun z47 => ?_, fun z47 => ?_⟩
          · have h := h.1 z47
            exact g_vret e_Mo_goPlan_57 rfl ⟨Sh.n hw45, rfl, hw45, h⟩
          · have h := h.2 z47
            refine g_aload_n 0 e_Mo_goPlan_52 rfl rfl ?_
            refine g_iload_n 2 e_Mo_goPlan_53 rfl rfl ?_
            refine pf_Mo_13 rfl e_Mo_goPlan_54 hw45 lay_115 (by decide) ?_
            exact g_vret e_Mo_goPlan_57 rfl ⟨Sh.n hw45, rfl, hw45, h⟩
        · have h := h.2 z46
          refine g_aload_n 0 e_Mo_goPlan_32 rfl rfl ?_
          refine gf_Mo_39 rfl e_Mo_goPlan_33 hw45 lay_115 (by decide) (sh_Mo_lies hw45) ?_
          refine g_iload_n 2 e_Mo_goPlan_36 rfl rfl ?_
          obtain ⟨o48, h⟩ := h
          refine w_iaload ((a2).toNatClampNeg) e_Mo_goPlan_37 hw45 lay_120 (by decide) o48 rfl ?_
          refine g_iconst (v := 2) e_Mo_goPlan_38 (by decide) ?_
          refine g_icmp_eq 47 e_Mo_goPlan_39 (by decide) ⟨fun z49 => ?_, fun z49 => ?_⟩
          · have h := h.1 z49
            refine g_iload_n 1 e_Mo_goPlan_47 rfl rfl ?_
            refine g_iconst (v := 3) e_Mo_goPlan_48 (by decide) ?_
            refine g_icmp_ne 57 e_Mo_goPlan_49 (by decide) ⟨fun z50 => ?_, fun z50 => ?_⟩
            · have h := h.1 z50
              exact g_vret e_Mo_goPlan_57 rfl ⟨Sh.n hw45, rfl, hw45, h⟩
            · have h := h.2 z50
              refine g_aload_n 0 e_Mo_goPlan_52 rfl rfl ?_
              refine g_iload_n 2 e_Mo_goPlan_53 rfl rfl ?_
              refine pf_Mo_13 rfl e_Mo_goPlan_54 hw45 lay_115 (by decide) ?_
              exact g_vret e_Mo_goPlan_57 rfl ⟨Sh.n hw45, rfl, hw45, h⟩
          · have h := h.2 z49
            refine g_aload_n 0 e_Mo_goPlan_42 rfl rfl ?_
            refine g_iload_n 2 e_Mo_goPlan_43 rfl rfl ?_
            refine w_callVV (w := w45) (As := [.int a2]) (rest := []) e_Mo_goPlan_44 ok_Mo_says rfl km_Mo_271 kx_Mo_says kv_Mo_says rfl (by decide) hw45 lay_115 (by decide) rfl (Nat.le_of_ble_eq_true rfl) h (fun w51 hw51 h => ?_)
            refine g_iload_n 1 e_Mo_goPlan_47 rfl rfl ?_
            refine g_iconst (v := 3) e_Mo_goPlan_48 (by decide) ?_
            refine g_icmp_ne 57 e_Mo_goPlan_49 (by decide) ⟨fun z52 => ?_, fun z52 => ?_⟩
            · have h := h.1 z52
              exact g_vret e_Mo_goPlan_57 rfl ⟨Sh.n hw51, rfl, hw51, h⟩
            · have h := h.2 z52
              refine g_aload_n 0 e_Mo_goPlan_52 rfl rfl ?_
              refine g_iload_n 2 e_Mo_goPlan_53 rfl rfl ?_
              refine pf_Mo_13 rfl e_Mo_goPlan_54 hw51 lay_115 (by decide) ?_
              exact g_vret e_Mo_goPlan_57 rfl ⟨Sh.n hw51, rfl, hw51, h⟩
theorem en_Mo_goPlan {d : Nat} {E : qE} {Q : qW → Prop} {a1 : Int32} {a2 : Int32} {w : qW} (hw : Sh w) (h : c_Mo_goPlan_0 d E Q a1 a2 w) : CaV (d + 6) M_Mo_goPlan [.ref (qb E + 115), .int a1, .int a2] E w Q := Ca.into hw rfl (Nat.le_of_ble_eq_true rfl) h
def c_Mo_ends_0 (d : Nat) (E : qE) (Q : qW → Int32 → Prop) (a1 : Int32) (w : qW) : Prop := Go (d + 7) M_Mo_ends E 161 161 (qFI Q) 0 [(0, .ref (qb E + 115)), (1, .int a1)] [] w
def c_Mo_ends_18 (d : Nat) (E : qE) (Q : qW → Int32 → Prop) (l1 : Int32) (l2 : Int32) (w : qW) : Prop := Go (d + 7) M_Mo_ends E 161 161 (qFI Q) 18 [(0, .ref (qb E + 115)), (1, .int l1), (2, .int l2)] [] w
set_option maxHeartbeats 4000000 in
set_option maxRecDepth 8000 in
theorem s_Mo_ends_0 {d : Nat} {E : qE} {Q : qW → Int32 → Prop} {a1 : Int32} {w : qW} (hw : Sh w) (h : CaI (d + 6) M_Mo_in [.ref (qb E + 115), .int a1, .int 0, .int 1] E w (fun w1 x1 => ((¬ x1 = 0) → (CaV (d + 6) M_Mo_save [.ref (qb E + 115)] E w1 (fun w3 => c_Mo_ends_18 d E Q a1 0 w3))) ∧ ((x1 = 0) → (Q w1 (-1))))) : c_Mo_ends_0 d E Q a1 w := by
  unfold c_Mo_ends_0
  refine g_aload_n 0 e_Mo_ends_0 rfl rfl ?_
  refine g_iload_n 1 e_Mo_ends_1 rfl rfl ?_
  refine g_iconst (v := 0) e_Mo_ends_2 (by decide) ?_
  refine g_iconst (v := 1) e_Mo_ends_3 (by decide) ?_
  refine w_callVI (w := w) (As := [.int a1, .int 0, .int 1]) (rest := []) e_Mo_ends_4 ok_Mo_in rfl km_Mo_249 kx_Mo_in kv_Mo_in rfl (by decide) hw lay_115 (by decide) rfl (Nat.le_of_ble_eq_true rfl) h (fun w1 x1 hw1 h => ?_)
  refine g_if_ne 12 e_Mo_ends_7 (by decide) ⟨fun z2 => ?_, fun z2 => ?_⟩
  · have h := h.1 z2
    refine g_aload_n 0 e_Mo_ends_12 rfl rfl ?_
    refine w_callVV (w := w1) (As := []) (rest := []) e_Mo_ends_13 ok_Mo_save rfl km_Mo_360 kx_Mo_save kv_Mo_save rfl (by decide) hw1 lay_115 (by decide) rfl (Nat.le_of_ble_eq_true rfl) h (fun w3 hw3 h => ?_)
    refine g_iconst (v := 0) e_Mo_ends_16 (by decide) ?_
    refine g_istore_n (lv := [(2, .int 0), (0, .ref (qb E + 115)), (1, .int a1)]) e_Mo_ends_17 rfl (by decide) rfl ?_
    refine g_loc [1, 2, 0] rfl ?_
    exact h
  · have h := h.2 z2
    refine g_iconst (v := (-1)) e_Mo_ends_10 (by decide) ?_
    exact g_iret e_Mo_ends_11 rfl ⟨Sh.n hw1, _, rfl, hw1, h⟩
set_option maxHeartbeats 4000000 in
set_option maxRecDepth 8000 in
theorem s_Mo_ends_18 {d : Nat} {E : qE} {Q : qW → Int32 → Prop} {l1 : Int32} {l2 : Int32} {w : qW} (hw : Sh w) (h : (((qi w 115 42) ≤ l2) → (((¬ l1 = 0) → (CaI (d + 6) M_Mo_setOf [.ref (qb E + 115), .int 1] E w (fun w3 x3 => CaV (d + 6) M_Mo_putBack [.ref (qb E + 115)] E w3 (fun w4 => Q w4 x3)))) ∧ ((l1 = 0) → (CaV (d + 6) M_Mo_putBack [.ref (qb E + 115)] E w (fun w5 => Q w5 (qi w 115 2)))))) ∧ ((¬ (qi w 115 42) ≤ l2) → (vp_in l2 10 ∧ (vp_in l2 10 ∧ (CaV (d + 6) M_Mo_goPlan [.ref (qb E + 115), .int (qi w 139 ((l2).toNatClampNeg)), .int (qi w 140 ((l2).toNatClampNeg))] E w (fun w8 => c_Mo_ends_18 d E Q l1 (l2 + 1) w8)))))) : c_Mo_ends_18 d E Q l1 l2 w := by
  unfold c_Mo_ends_18
  refine g_iload_n 2 e_Mo_ends_18 rfl rfl ?_
  refine g_aload_n 0 e_Mo_ends_19 rfl rfl ?_
  refine gf_Mo_139 rfl e_Mo_ends_20 hw lay_115 (by decide) ?_
  refine g_icmp_ge 48 e_Mo_ends_23 (by decide) ⟨fun z1 => ?_, fun z1 => ?_⟩
  · have h := h.1 z1
    refine g_iload_n 1 e_Mo_ends_48 rfl rfl ?_
    refine g_if_ne 59 e_Mo_ends_49 (by decide) ⟨fun z2 => ?_, fun z2 => ?_⟩
    · have h := h.1 z2
      refine g_aload_n 0 e_Mo_ends_59 rfl rfl ?_
      refine g_iconst (v := 1) e_Mo_ends_60 (by decide) ?_
      refine w_callVI (w := w) (As := [.int 1]) (rest := []) e_Mo_ends_61 ok_Mo_setOf rfl km_Mo_264 kx_Mo_setOf kv_Mo_setOf rfl (by decide) hw lay_115 (by decide) rfl (Nat.le_of_ble_eq_true rfl) h (fun w3 x3 hw3 h => ?_)
      refine g_istore_n (lv := [(2, .int x3), (0, .ref (qb E + 115)), (1, .int l1)]) e_Mo_ends_64 rfl (by decide) rfl ?_
      refine g_aload_n 1 e_Mo_ends_65 rfl rfl ?_
      refine w_callVV (w := w3) (As := []) (rest := []) e_Mo_ends_66 ok_Mo_putBack rfl km_Mo_363 kx_Mo_putBack kv_Mo_putBack rfl (by decide) hw3 lay_115 (by decide) rfl (Nat.le_of_ble_eq_true rfl) h (fun w4 hw4 h => ?_)
      refine g_iload_n 0 e_Mo_ends_69 rfl rfl ?_
      exact g_iret e_Mo_ends_70 rfl ⟨Sh.n hw4, _, rfl, hw4, h⟩
    · have h := h.2 z2
      refine g_aload_n 0 e_Mo_ends_52 rfl rfl ?_
      refine gf_Mo_16 rfl e_Mo_ends_53 hw lay_115 (by decide) ?_
      refine g_goto 64 e_Mo_ends_56 (by decide) ?_
      refine g_istore_n (lv := [(2, .int (qi w 115 2)), (0, .ref (qb E + 115)), (1, .int l1)]) e_Mo_ends_64 rfl (by decide) rfl ?_
      refine g_aload_n 1 e_Mo_ends_65 rfl rfl ?_
      refine w_callVV (w := w) (As := []) (rest := []) e_Mo_ends_66 ok_Mo_putBack rfl km_Mo_363 kx_Mo_putBack kv_Mo_putBack rfl (by decide) hw lay_115 (by decide) rfl (Nat.le_of_ble_eq_true rfl) h (fun w5 hw5 h => ?_)
      refine g_iload_n 0 e_Mo_ends_69 rfl rfl ?_
      exact g_iret e_Mo_ends_70 rfl ⟨Sh.n hw5, _, rfl, hw5, h⟩
  · have h := h.2 z1
    refine g_aload_n 0 e_Mo_ends_26 rfl rfl ?_
    refine g_aload_n 0 e_Mo_ends_27 rfl rfl ?_
    refine gf_Mo_145 rfl e_Mo_ends_28 hw lay_115 (by decide) (sh_Mo_planWhat hw) ?_
    refine g_iload_n 2 e_Mo_ends_31 rfl rfl ?_
    obtain ⟨o6, h⟩ := h
    refine w_iaload ((l2).toNatClampNeg) e_Mo_ends_32 hw lay_139 (by decide) o6 rfl ?_
    refine g_aload_n 0 e_Mo_ends_33 rfl rfl ?_
    refine gf_Mo_148 rfl e_Mo_ends_34 hw lay_115 (by decide) (sh_Mo_planNumber hw) ?_
    refine g_iload_n 2 e_Mo_ends_37 rfl rfl ?_
    obtain ⟨o7, h⟩ := h
    refine w_iaload ((l2).toNatClampNeg) e_Mo_ends_38 hw lay_140 (by decide) o7 rfl ?_
    refine w_callVV (w := w) (As := [.int (qi w 139 ((l2).toNatClampNeg)), .int (qi w 140 ((l2).toNatClampNeg))]) (rest := []) e_Mo_ends_39 ok_Mo_goPlan rfl km_Mo_402 kx_Mo_goPlan kv_Mo_goPlan rfl (by decide) hw lay_115 (by decide) rfl (Nat.le_of_ble_eq_true rfl) h (fun w8 hw8 h => ?_)
    refine g_iinc (v := (l2 + 1)) (lv := [(2, .int (l2 + 1)), (0, .ref (qb E + 115)), (1, .int l1)]) 2 e_Mo_ends_42 rfl rfl (by decide) rfl ?_
    refine g_goto 18 e_Mo_ends_45 (by decide) ?_
    refine g_loc [1, 2, 0] rfl ?_
    exact h
theorem en_Mo_ends {d : Nat} {E : qE} {Q : qW → Int32 → Prop} {a1 : Int32} {w : qW} (hw : Sh w) (h : c_Mo_ends_0 d E Q a1 w) : CaI (d + 7) M_Mo_ends [.ref (qb E + 115), .int a1] E w Q := Ca.into hw rfl (Nat.le_of_ble_eq_true rfl) h
def c_Mo_book_0 (d : Nat) (E : qE) (Q : qW → Int32 → Prop) (a1 : Int32) (a2 : Int32) (w : qW) : Prop := Go (d + 2) M_Mo_book E 161 161 (qFI Q) 0 [(0, .ref (qb E + 115)), (1, .int a1), (2, .int a2)] [] w
set_option maxHeartbeats 4000000 in
set_option maxRecDepth 8000 in
theorem s_Mo_book_0 {d : Nat} {E : qE} {Q : qW → Int32 → Prop} {a1 : Int32} {a2 : Int32} {w : qW} (hw : Sh w) (h : ((¬ a1 = (-1)) → (CaI (d + 1) M_Mo_isThing [.ref (qb E + 115), .int a1] E w (fun w2 x2 => ((¬ x2 = 0) → (CaI (d + 1) M_Mo_isWeight [.ref (qb E + 115), .int a2] E w2 (fun w4 x4 => ((¬ x4 = 0) → (((¬ (qi w4 115 43) = 8) → (vp_in (qi w4 115 43) 8 ∧ (vp_in (qi (qpi w4 141 ((qi w4 115 43).toNatClampNeg) a1) 115 43) 8 ∧ (Q (qpi (qpi (qpi w4 141 ((qi w4 115 43).toNatClampNeg) a1) 142 ((qi (qpi w4 141 ((qi w4 115 43).toNatClampNeg) a1) 115 43).toNatClampNeg) a2) 115 43 ((qi (qpi (qpi w4 141 ((qi w4 115 43).toNatClampNeg) a1) 142 ((qi (qpi w4 141 ((qi w4 115 43).toNatClampNeg) a1) 115 43).toNatClampNeg) a2) 115 43) + 1)) (qi (qpi (qpi (qpi w4 141 ((qi w4 115 43).toNatClampNeg) a1) 142 ((qi (qpi w4 141 ((qi w4 115 43).toNatClampNeg) a1) 115 43).toNatClampNeg) a2) 115 43 ((qi (qpi (qpi w4 141 ((qi w4 115 43).toNatClampNeg) a1) 142 ((qi (qpi w4 141 ((qi w4 115 43).toNatClampNeg) a1) 115 43).toNatClampNeg) a2) 115 43) + 1)) 115 43))))) ∧ (((qi w4 115 43) = 8) → (Q w4 (-4))))) ∧ ((x4 = 0) → (Q w4 (-2)))))) ∧ ((x2 = 0) → (Q w2 (-1)))))) ∧ ((a1 = (-1)) → (Q (qpi w 115 43 0) 0))) : c_Mo_book_0 d E Q a1 a2 w := by
  unfold c_Mo_book_0
  refine g_iload_n 1 e_Mo_book_0 rfl rfl ?_
  refine g_iconst (v := (-1)) e_Mo_book_1 (by decide) ?_
  refine g_icmp_ne 12 e_Mo_book_2 (by decide) ⟨fun z1 => ?_, fun z1 => ?_⟩
  · have h := h.1 z1
    refine g_aload_n 0 e_Mo_book_12 rfl rfl ?_
    refine g_iload_n 1 e_Mo_book_13 rfl rfl ?_
    refine w_callVI (w := w) (As := [.int a1]) (rest := []) e_Mo_book_14 ok_Mo_isThing rfl km_Mo_257 kx_Mo_isThing kv_Mo_isThing rfl (by decide) hw lay_115 (by decide) rfl (Nat.le_of_ble_eq_true rfl) h (fun w2 x2 hw2 h => ?_)
    refine g_if_ne 22 e_Mo_book_17 (by decide) ⟨fun z3 => ?_, fun z3 => ?_⟩
    · have h := h.1 z3
      refine g_aload_n 0 e_Mo_book_22 rfl rfl ?_
      refine g_iload_n 2 e_Mo_book_23 rfl rfl ?_
      refine w_callVI (w := w2) (As := [.int a2]) (rest := []) e_Mo_book_24 ok_Mo_isWeight rfl km_Mo_253 kx_Mo_isWeight kv_Mo_isWeight rfl (by decide) hw2 lay_115 (by decide) rfl (Nat.le_of_ble_eq_true rfl) h (fun w4 x4 hw4 h => ?_)
      refine g_if_ne 33 e_Mo_book_27 (by decide) ⟨fun z5 => ?_, fun z5 => ?_⟩
      · have h := h.1 z5
        refine g_aload_n 0 e_Mo_book_33 rfl rfl ?_
        refine gf_Mo_142 rfl e_Mo_book_34 hw4 lay_115 (by decide) ?_
        refine g_bipush (v := 8) e_Mo_book_37 (by decide) ?_
        refine g_icmp_ne 45 e_Mo_book_39 (by decide) ⟨fun z6 => ?_, fun z6 => ?_⟩
        · have h := h.1 z6
          refine g_aload_n 0 e_Mo_book_45 rfl rfl ?_
          refine gf_Mo_151 rfl e_Mo_book_46 hw4 lay_115 (by decide) (sh_Mo_bookThing hw4) ?_
          refine g_aload_n 0 e_Mo_book_49 rfl rfl ?_
          refine gf_Mo_142 rfl e_Mo_book_50 hw4 lay_115 (by decide) ?_
          refine g_iload_n 1 e_Mo_book_53 rfl rfl ?_
          obtain ⟨o7, h⟩ := h
          refine w_iastore ((qi w4 115 43).toNatClampNeg) e_Mo_book_54 hw4 lay_141 (by decide) o7 rfl ?_
          refine g_aload_n 0 e_Mo_book_55 rfl rfl ?_
          refine gf_Mo_154 rfl e_Mo_book_56 hw4 lay_115 (by decide) (sh_Mo_bookWeight hw4) ?_
          refine g_aload_n 0 e_Mo_book_59 rfl rfl ?_
          refine gf_Mo_142 rfl e_Mo_book_60 hw4 lay_115 (by decide) ?_
          refine g_iload_n 2 e_Mo_book_63 rfl rfl ?_
          obtain ⟨o8, h⟩ := h
          refine w_iastore ((qi (qpi w4 141 ((qi w4 115 43).toNatClampNeg) a1) 115 43).toNatClampNeg) e_Mo_book_64 hw4 lay_142 (by decide) o8 rfl ?_
          refine g_aload_n 0 e_Mo_book_65 rfl rfl ?_
          refine g_dup e_Mo_book_66 rfl ?_
          refine gf_Mo_142 rfl e_Mo_book_67 hw4 lay_115 (by decide) ?_
          refine g_iconst (v := 1) e_Mo_book_70 (by decide) ?_
          refine g_iadd e_Mo_book_71 ?_
          refine pf_Mo_142 rfl e_Mo_book_72 hw4 lay_115 (by decide) ?_
          refine g_aload_n 0 e_Mo_book_75 rfl rfl ?_
          refine gf_Mo_142 rfl e_Mo_book_76 hw4 lay_115 (by decide) ?_
          exact g_iret e_Mo_book_79 rfl ⟨Sh.n hw4, _, rfl, hw4, h⟩
        · have h := h.2 z6
          refine g_bipush (v := (-4)) e_Mo_book_42 (by decide) ?_
          exact g_iret e_Mo_book_44 rfl ⟨Sh.n hw4, _, rfl, hw4, h⟩
      · have h := h.2 z5
        refine g_bipush (v := (-2)) e_Mo_book_30 (by decide) ?_
        exact g_iret e_Mo_book_32 rfl ⟨Sh.n hw4, _, rfl, hw4, h⟩
    · have h := h.2 z3
      refine g_iconst (v := (-1)) e_Mo_book_20 (by decide) ?_
      exact g_iret e_Mo_book_21 rfl ⟨Sh.n hw2, _, rfl, hw2, h⟩
  · have h := h.2 z1
    refine g_aload_n 0 e_Mo_book_5 rfl rfl ?_
    refine g_iconst (v := 0) e_Mo_book_6 (by decide) ?_
    refine pf_Mo_142 rfl e_Mo_book_7 hw lay_115 (by decide) ?_
    refine g_iconst (v := 0) e_Mo_book_10 (by decide) ?_
    exact g_iret e_Mo_book_11 rfl ⟨Sh.n hw, _, rfl, hw, h⟩
theorem en_Mo_book {d : Nat} {E : qE} {Q : qW → Int32 → Prop} {a1 : Int32} {a2 : Int32} {w : qW} (hw : Sh w) (h : c_Mo_book_0 d E Q a1 a2 w) : CaI (d + 2) M_Mo_book [.ref (qb E + 115), .int a1, .int a2] E w Q := Ca.into hw rfl (Nat.le_of_ble_eq_true rfl) h
def c_Mo_looked_0 (d : Nat) (E : qE) (Q : qW → Int32 → Prop) (w : qW) : Prop := Go d M_Mo_looked E 161 161 (qFI Q) 0 [(0, .ref (qb E + 115))] [] w
def c_Mo_looked_2 (d : Nat) (E : qE) (Q : qW → Int32 → Prop) (l1 : Int32) (w : qW) : Prop := Go d M_Mo_looked E 161 161 (qFI Q) 2 [(0, .ref (qb E + 115)), (1, .int l1)] [] w
set_option maxHeartbeats 4000000 in
set_option maxRecDepth 8000 in
theorem s_Mo_looked_0 {d : Nat} {E : qE} {Q : qW → Int32 → Prop} {w : qW} (hw : Sh w) (h : c_Mo_looked_2 d E Q 0 w) : c_Mo_looked_0 d E Q  w := by
  unfold c_Mo_looked_0
  refine g_iconst (v := 0) e_Mo_looked_0 (by decide) ?_
  refine g_istore_n (lv := [(1, .int 0), (0, .ref (qb E + 115))]) e_Mo_looked_1 rfl (by decide) rfl ?_
  refine g_loc [1, 0] rfl ?_
  exact h
set_option maxHeartbeats 4000000 in
set_option maxRecDepth 8000 in
theorem s_Mo_looked_2 {d : Nat} {E : qE} {Q : qW → Int32 → Prop} {l1 : Int32} {w : qW} (hw : Sh w) (h : (((qi w 115 43) ≤ l1) → (Q w (-5))) ∧ ((¬ (qi w 115 43) ≤ l1) → (vp_in l1 8 ∧ (vp_in (qi w 141 ((l1).toNatClampNeg)) 6 ∧ (vp_in l1 8 ∧ ((((qi w 118 ((qi w 141 ((l1).toNatClampNeg)).toNatClampNeg)) = (qi w 142 ((l1).toNatClampNeg))) → (c_Mo_looked_2 d E Q (l1 + 1) w)) ∧ ((¬ (qi w 118 ((qi w 141 ((l1).toNatClampNeg)).toNatClampNeg)) = (qi w 142 ((l1).toNatClampNeg))) → (Q w l1)))))))) : c_Mo_looked_2 d E Q l1 w := by
  unfold c_Mo_looked_2
  refine g_iload_n 1 e_Mo_looked_2 rfl rfl ?_
  refine g_aload_n 0 e_Mo_looked_3 rfl rfl ?_
  refine gf_Mo_142 rfl e_Mo_looked_4 hw lay_115 (by decide) ?_
  refine g_icmp_ge 38 e_Mo_looked_7 (by decide) ⟨fun z1 => ?_, fun z1 => ?_⟩
  · have h := h.1 z1
    refine g_bipush (v := (-5)) e_Mo_looked_38 (by decide) ?_
    exact g_iret e_Mo_looked_40 rfl ⟨Sh.n hw, _, rfl, hw, h⟩
  · have h := h.2 z1
    refine g_aload_n 0 e_Mo_looked_10 rfl rfl ?_
    refine gf_Mo_33 rfl e_Mo_looked_11 hw lay_115 (by decide) (sh_Mo_weight hw) ?_
    refine g_aload_n 0 e_Mo_looked_14 rfl rfl ?_
    refine gf_Mo_151 rfl e_Mo_looked_15 hw lay_115 (by decide) (sh_Mo_bookThing hw) ?_
    refine g_iload_n 1 e_Mo_looked_18 rfl rfl ?_
    obtain ⟨o2, h⟩ := h
    refine w_iaload ((l1).toNatClampNeg) e_Mo_looked_19 hw lay_141 (by decide) o2 rfl ?_
    obtain ⟨o3, h⟩ := h
    refine w_iaload ((qi w 141 ((l1).toNatClampNeg)).toNatClampNeg) e_Mo_looked_20 hw lay_118 (by decide) o3 rfl ?_
    refine g_aload_n 0 e_Mo_looked_21 rfl rfl ?_
    refine gf_Mo_154 rfl e_Mo_looked_22 hw lay_115 (by decide) (sh_Mo_bookWeight hw) ?_
    refine g_iload_n 1 e_Mo_looked_25 rfl rfl ?_
    obtain ⟨o4, h⟩ := h
    refine w_iaload ((l1).toNatClampNeg) e_Mo_looked_26 hw lay_142 (by decide) o4 rfl ?_
    refine g_icmp_eq 32 e_Mo_looked_27 (by decide) ⟨fun z5 => ?_, fun z5 => ?_⟩
    · have h := h.1 z5
      refine g_iinc (v := (l1 + 1)) (lv := [(1, .int (l1 + 1)), (0, .ref (qb E + 115))]) 1 e_Mo_looked_32 rfl rfl (by decide) rfl ?_
      refine g_goto 2 e_Mo_looked_35 (by decide) ?_
      refine g_loc [1, 0] rfl ?_
      exact h
    · have h := h.2 z5
      refine g_iload_n 1 e_Mo_looked_30 rfl rfl ?_
      exact g_iret e_Mo_looked_31 rfl ⟨Sh.n hw, _, rfl, hw, h⟩
theorem en_Mo_looked {d : Nat} {E : qE} {Q : qW → Int32 → Prop} {w : qW} (hw : Sh w) (h : c_Mo_looked_0 d E Q  w) : CaI d M_Mo_looked [.ref (qb E + 115)] E w Q := Ca.into hw rfl (Nat.le_of_ble_eq_true rfl) h
def c_Mo_judge_0 (d : Nat) (E : qE) (Q : qW → Int32 → Prop) (a1 : Int32) (a2 : Int32) (w : qW) : Prop := Go (d + 2) M_Mo_judge E 161 161 (qFI Q) 0 [(0, .ref (qb E + 115)), (1, .int a1), (2, .int a2)] [] w
def c_Mo_judge_34 (d : Nat) (E : qE) (Q : qW → Int32 → Prop) (l1 : Int32) (l2 : Int32) (l3 : Int32) (w : qW) : Prop := Go (d + 2) M_Mo_judge E 161 161 (qFI Q) 34 [(0, .ref (qb E + 115)), (1, .int l1), (2, .int l2), (3, .int l3)] [] w
set_option maxHeartbeats 4000000 in
set_option maxRecDepth 8000 in
theorem s_Mo_judge_0 {d : Nat} {E : qE} {Q : qW → Int32 → Prop} {a1 : Int32} {a2 : Int32} {w : qW} (hw : Sh w) (h : CaI (d + 1) M_Mo_isTape [.ref (qb E + 115), .int a1] E w (fun w1 x1 => ((¬ x1 = 0) → (vp_in a1 6 ∧ ((((qi w1 157 ((a1).toNatClampNeg)) < 0) → (c_Mo_judge_34 d E Q a1 a2 0 w1)) ∧ ((¬ (qi w1 157 ((a1).toNatClampNeg)) < 0) → (vp_in a1 6 ∧ ((((qi w1 157 ((a1).toNatClampNeg)) = 3) → (c_Mo_judge_34 d E Q a1 a2 0 w1)) ∧ ((¬ (qi w1 157 ((a1).toNatClampNeg)) = 3) → (Q w1 (-12))))))))) ∧ ((x1 = 0) → (Q w1 (-1))))) : c_Mo_judge_0 d E Q a1 a2 w := by
  unfold c_Mo_judge_0
  refine g_aload_n 0 e_Mo_judge_0 rfl rfl ?_
  refine g_iload_n 1 e_Mo_judge_1 rfl rfl ?_
  refine w_callVI (w := w) (As := [.int a1]) (rest := []) e_Mo_judge_2 ok_Mo_isTape rfl km_Mo_406 kx_Mo_isTape kv_Mo_isTape rfl (by decide) hw lay_115 (by decide) rfl (Nat.le_of_ble_eq_true rfl) h (fun w1 x1 hw1 h => ?_)
  refine g_if_ne 10 e_Mo_judge_5 (by decide) ⟨fun z2 => ?_, fun z2 => ?_⟩
  · have h := h.1 z2
    refine g_aload_n 0 e_Mo_judge_10 rfl rfl ?_
    refine gf_Mo_232 rfl e_Mo_judge_11 hw1 lay_115 (by decide) (sh_Mo_sort hw1) ?_
    refine g_iload_n 1 e_Mo_judge_14 rfl rfl ?_
    obtain ⟨o3, h⟩ := h
    refine w_iaload ((a1).toNatClampNeg) e_Mo_judge_15 hw1 lay_157 (by decide) o3 rfl ?_
    refine g_if_lt 32 e_Mo_judge_16 (by decide) ⟨fun z4 => ?_, fun z4 => ?_⟩
    · have h := h.1 z4
      refine g_iconst (v := 0) e_Mo_judge_32 (by decide) ?_
      refine g_istore_n (lv := [(3, .int 0), (0, .ref (qb E + 115)), (1, .int a1), (2, .int a2)]) e_Mo_judge_33 rfl (by decide) rfl ?_
      refine g_loc [1, 2, 3, 0] rfl ?_
      exact h
    · have h := h.2 z4
      refine g_aload_n 0 e_Mo_judge_19 rfl rfl ?_
      refine gf_Mo_232 rfl e_Mo_judge_20 hw1 lay_115 (by decide) (sh_Mo_sort hw1) ?_
      refine g_iload_n 1 e_Mo_judge_23 rfl rfl ?_
      obtain ⟨o5, h⟩ := h
      refine w_iaload ((a1).toNatClampNeg) e_Mo_judge_24 hw1 lay_157 (by decide) o5 rfl ?_
      refine g_iconst (v := 3) e_Mo_judge_25 (by decide) ?_
      refine g_icmp_eq 32 e_Mo_judge_26 (by decide) ⟨fun z6 => ?_, fun z6 => ?_⟩
      · have h := h.1 z6
        refine g_iconst (v := 0) e_Mo_judge_32 (by decide) ?_
        refine g_istore_n (lv := [(3, .int 0), (0, .ref (qb E + 115)), (1, .int a1), (2, .int a2)]) e_Mo_judge_33 rfl (by decide) rfl ?_
        refine g_loc [1, 2, 3, 0] rfl ?_
        exact h
      · have h := h.2 z6
        refine g_bipush (v := (-12)) e_Mo_judge_29 (by decide) ?_
        exact g_iret e_Mo_judge_31 rfl ⟨Sh.n hw1, _, rfl, hw1, h⟩
  · have h := h.2 z2
    refine g_iconst (v := (-1)) e_Mo_judge_8 (by decide) ?_
    exact g_iret e_Mo_judge_9 rfl ⟨Sh.n hw1, _, rfl, hw1, h⟩
set_option maxHeartbeats 4000000 in
set_option maxRecDepth 8000 in
theorem s_Mo_judge_34 {d : Nat} {E : qE} {Q : qW → Int32 → Prop} {l1 : Int32} {l2 : Int32} {l3 : Int32} {w : qW} (hw : Sh w) (h : (((qi w 115 0) ≤ l3) → (Q w (-5))) ∧ ((¬ (qi w 115 0) ≤ l3) → (vp_in l1 6 ∧ ((((qi w 157 ((l1).toNatClampNeg)) < 0) → (Q w (100 + l3))) ∧ ((¬ (qi w 157 ((l1).toNatClampNeg)) < 0) → (((l2 < 0) → (Q w (100 + l3))) ∧ ((¬ l2 < 0) → (vp_in l1 6 ∧ (((l2 ≤ (((qi w 158 ((l1).toNatClampNeg)) - l3) - 1)) → (vp_in (((60 * l1) + l2) + l3) 360 ∧ (vp_in l3 6 ∧ ((((lg_cmp (ql w 159 ((((60 * l1) + l2) + l3).toNatClampNeg)) (((qi w 121 ((l3).toNatClampNeg)) : Int32).toInt64)) = 0) → (c_Mo_judge_34 d E Q l1 l2 (l3 + 1) w)) ∧ ((¬ (lg_cmp (ql w 159 ((((60 * l1) + l2) + l3).toNatClampNeg)) (((qi w 121 ((l3).toNatClampNeg)) : Int32).toInt64)) = 0) → (Q w l3)))))) ∧ ((¬ l2 ≤ (((qi w 158 ((l1).toNatClampNeg)) - l3) - 1)) → (Q w (100 + l3)))))))))))) : c_Mo_judge_34 d E Q l1 l2 l3 w := by
  unfold c_Mo_judge_34
  refine g_iload_n 3 e_Mo_judge_34 rfl rfl ?_
  refine g_aload_n 0 e_Mo_judge_35 rfl rfl ?_
  refine gf_Mo_7 rfl e_Mo_judge_36 hw lay_115 (by decide) ?_
  refine g_icmp_ge 106 e_Mo_judge_39 (by decide) ⟨fun z1 => ?_, fun z1 => ?_⟩
  · have h := h.1 z1
    refine g_bipush (v := (-5)) e_Mo_judge_106 (by decide) ?_
    exact g_iret e_Mo_judge_108 rfl ⟨Sh.n hw, _, rfl, hw, h⟩
  · have h := h.2 z1
    refine g_aload_n 0 e_Mo_judge_42 rfl rfl ?_
    refine gf_Mo_232 rfl e_Mo_judge_43 hw lay_115 (by decide) (sh_Mo_sort hw) ?_
    refine g_iload_n 1 e_Mo_judge_46 rfl rfl ?_
    obtain ⟨o2, h⟩ := h
    refine w_iaload ((l1).toNatClampNeg) e_Mo_judge_47 hw lay_157 (by decide) o2 rfl ?_
    refine g_if_lt 69 e_Mo_judge_48 (by decide) ⟨fun z3 => ?_, fun z3 => ?_⟩
    · have h := h.1 z3
      refine g_bipush (v := 100) e_Mo_judge_69 (by decide) ?_
      refine g_iload_n 3 e_Mo_judge_71 rfl rfl ?_
      refine g_iadd e_Mo_judge_72 ?_
      exact g_iret e_Mo_judge_73 rfl ⟨Sh.n hw, _, rfl, hw, h⟩
    · have h := h.2 z3
      refine g_iload_n 2 e_Mo_judge_51 rfl rfl ?_
      refine g_if_lt 69 e_Mo_judge_52 (by decide) ⟨fun z4 => ?_, fun z4 => ?_⟩
      · have h := h.1 z4
        refine g_bipush (v := 100) e_Mo_judge_69 (by decide) ?_
        refine g_iload_n 3 e_Mo_judge_71 rfl rfl ?_
        refine g_iadd e_Mo_judge_72 ?_
        exact g_iret e_Mo_judge_73 rfl ⟨Sh.n hw, _, rfl, hw, h⟩
      · have h := h.2 z4
        refine g_iload_n 2 e_Mo_judge_55 rfl rfl ?_
        refine g_aload_n 0 e_Mo_judge_56 rfl rfl ?_
        refine gf_Mo_235 rfl e_Mo_judge_57 hw lay_115 (by decide) (sh_Mo_length hw) ?_
        refine g_iload_n 1 e_Mo_judge_60 rfl rfl ?_
        obtain ⟨o5, h⟩ := h
        refine w_iaload ((l1).toNatClampNeg) e_Mo_judge_61 hw lay_158 (by decide) o5 rfl ?_
        refine g_iload_n 3 e_Mo_judge_62 rfl rfl ?_
        refine g_isub e_Mo_judge_63 ?_
        refine g_iconst (v := 1) e_Mo_judge_64 (by decide) ?_
        refine g_isub e_Mo_judge_65 ?_
        refine g_icmp_le 74 e_Mo_judge_66 (by decide) ⟨fun z6 => ?_, fun z6 => ?_⟩
        · have h := h.1 z6
          refine g_aload_n 0 e_Mo_judge_74 rfl rfl ?_
          refine gf_Mo_238 rfl e_Mo_judge_75 hw lay_115 (by decide) (sh_Mo_item hw) ?_
          refine g_bipush (v := 60) e_Mo_judge_78 (by decide) ?_
          refine g_iload_n 1 e_Mo_judge_80 rfl rfl ?_
          refine g_imul e_Mo_judge_81 ?_
          refine g_iload_n 2 e_Mo_judge_82 rfl rfl ?_
          refine g_iadd e_Mo_judge_83 ?_
          refine g_iload_n 3 e_Mo_judge_84 rfl rfl ?_
          refine g_iadd e_Mo_judge_85 ?_
          obtain ⟨o7, h⟩ := h
          refine w_laload ((((60 * l1) + l2) + l3).toNatClampNeg) e_Mo_judge_86 hw lay_159 (by decide) o7 rfl ?_
          refine g_aload_n 0 e_Mo_judge_87 rfl rfl ?_
          refine gf_Mo_42 rfl e_Mo_judge_88 hw lay_115 (by decide) (sh_Mo_time hw) ?_
          refine g_iload_n 3 e_Mo_judge_91 rfl rfl ?_
          obtain ⟨o8, h⟩ := h
          refine w_iaload ((l3).toNatClampNeg) e_Mo_judge_92 hw lay_121 (by decide) o8 rfl ?_
          refine g_i2l e_Mo_judge_93 ?_
          refine g_lcmp e_Mo_judge_94 ?_
          refine g_if_eq 100 e_Mo_judge_95 (by decide) ⟨fun z9 => ?_, fun z9 => ?_⟩
          · have h := h.1 z9
            refine g_iinc (v := (l3 + 1)) (lv := [(3, .int (l3 + 1)), (0, .ref (qb E + 115)), (1, .int l1), (2, .int l2)]) 3 e_Mo_judge_100 rfl rfl (by decide) rfl ?_
            refine g_goto 34 e_Mo_judge_103 (by decide) ?_
            refine g_loc [1, 2, 3, 0] rfl ?_
            exact h
          · have h := h.2 z9
            refine g_iload_n 3 e_Mo_judge_98 rfl rfl ?_
            exact g_iret e_Mo_judge_99 rfl ⟨Sh.n hw, _, rfl, hw, h⟩
        · have h := h.2 z6
          refine g_bipush (v := 100) e_Mo_judge_69 (by decide) ?_
          refine g_iload_n 3 e_Mo_judge_71 rfl rfl ?_
          refine g_iadd e_Mo_judge_72 ?_
          exact g_iret e_Mo_judge_73 rfl ⟨Sh.n hw, _, rfl, hw, h⟩
theorem en_Mo_judge {d : Nat} {E : qE} {Q : qW → Int32 → Prop} {a1 : Int32} {a2 : Int32} {w : qW} (hw : Sh w) (h : c_Mo_judge_0 d E Q a1 a2 w) : CaI (d + 2) M_Mo_judge [.ref (qb E + 115), .int a1, .int a2] E w Q := Ca.into hw rfl (Nat.le_of_ble_eq_true rfl) h
def c_Mo_image_0 (d : Nat) (E : qE) (Q : qW → Int32 → Prop) (w : qW) : Prop := Go d M_Mo_image E 161 161 (qFI Q) 0 [(0, .ref (qb E + 115))] [] w
def c_Mo_image_79 (d : Nat) (E : qE) (Q : qW → Int32 → Prop) (l1 : Int32) (w : qW) : Prop := Go d M_Mo_image E 161 161 (qFI Q) 79 [(0, .ref (qb E + 115)), (1, .int l1)] [] w
def c_Mo_image_165 (d : Nat) (E : qE) (Q : qW → Int32 → Prop) (l1 : Int32) (w : qW) : Prop := Go d M_Mo_image E 161 161 (qFI Q) 165 [(0, .ref (qb E + 115)), (1, .int l1)] [] w
def c_Mo_image_191 (d : Nat) (E : qE) (Q : qW → Int32 → Prop) (l1 : Int32) (w : qW) : Prop := Go d M_Mo_image E 161 161 (qFI Q) 191 [(0, .ref (qb E + 115)), (1, .int l1)] [] w
def c_Mo_image_228 (d : Nat) (E : qE) (Q : qW → Int32 → Prop) (l1 : Int32) (w : qW) : Prop := Go d M_Mo_image E 161 161 (qFI Q) 228 [(0, .ref (qb E + 115)), (1, .int l1)] [] w
def c_Mo_image_266 (d : Nat) (E : qE) (Q : qW → Int32 → Prop) (l1 : Int32) (w : qW) : Prop := Go d M_Mo_image E 161 161 (qFI Q) 266 [(0, .ref (qb E + 115)), (1, .int l1)] [] w
set_option maxHeartbeats 4000000 in
set_option maxRecDepth 8000 in
theorem s_Mo_image_0 {d : Nat} {E : qE} {Q : qW → Int32 → Prop} {w : qW} (hw : Sh w) (h : c_Mo_image_79 d E Q 0 (qpi (qpi (qpi (qpi (qpi (qpi (qpi (qpi (qpi (qpi w 115 48 1) 115 50 (qi (qpi w 115 48 1) 115 13)) 115 51 (qi (qpi (qpi w 115 48 1) 115 50 (qi (qpi w 115 48 1) 115 13)) 115 0)) 115 52 (qi (qpi (qpi (qpi w 115 48 1) 115 50 (qi (qpi w 115 48 1) 115 13)) 115 51 (qi (qpi (qpi w 115 48 1) 115 50 (qi (qpi w 115 48 1) 115 13)) 115 0)) 115 1)) 115 53 (qi (qpi (qpi (qpi (qpi w 115 48 1) 115 50 (qi (qpi w 115 48 1) 115 13)) 115 51 (qi (qpi (qpi w 115 48 1) 115 50 (qi (qpi w 115 48 1) 115 13)) 115 0)) 115 52 (qi (qpi (qpi (qpi w 115 48 1) 115 50 (qi (qpi w 115 48 1) 115 13)) 115 51 (qi (qpi (qpi w 115 48 1) 115 50 (qi (qpi w 115 48 1) 115 13)) 115 0)) 115 1)) 115 2)) 115 49 (qz (qi (qpi (qpi (qpi (qpi (qpi w 115 48 1) 115 50 (qi (qpi w 115 48 1) 115 13)) 115 51 (qi (qpi (qpi w 115 48 1) 115 50 (qi (qpi w 115 48 1) 115 13)) 115 0)) 115 52 (qi (qpi (qpi (qpi w 115 48 1) 115 50 (qi (qpi w 115 48 1) 115 13)) 115 51 (qi (qpi (qpi w 115 48 1) 115 50 (qi (qpi w 115 48 1) 115 13)) 115 0)) 115 1)) 115 53 (qi (qpi (qpi (qpi (qpi w 115 48 1) 115 50 (qi (qpi w 115 48 1) 115 13)) 115 51 (qi (qpi (qpi w 115 48 1) 115 50 (qi (qpi w 115 48 1) 115 13)) 115 0)) 115 52 (qi (qpi (qpi (qpi w 115 48 1) 115 50 (qi (qpi w 115 48 1) 115 13)) 115 51 (qi (qpi (qpi w 115 48 1) 115 50 (qi (qpi w 115 48 1) 115 13)) 115 0)) 115 1)) 115 2)) 115 4))) 115 54 (qi (qpi (qpi (qpi (qpi (qpi (qpi w 115 48 1) 115 50 (qi (qpi w 115 48 1) 115 13)) 115 51 (qi (qpi (qpi w 115 48 1) 115 50 (qi (qpi w 115 48 1) 115 13)) 115 0)) 115 52 (qi (qpi (qpi (qpi w 115 48 1) 115 50 (qi (qpi w 115 48 1) 115 13)) 115 51 (qi (qpi (qpi w 115 48 1) 115 50 (qi (qpi w 115 48 1) 115 13)) 115 0)) 115 1)) 115 53 (qi (qpi (qpi (qpi (qpi w 115 48 1) 115 50 (qi (qpi w 115 48 1) 115 13)) 115 51 (qi (qpi (qpi w 115 48 1) 115 50 (qi (qpi w 115 48 1) 115 13)) 115 0)) 115 52 (qi (qpi (qpi (qpi w 115 48 1) 115 50 (qi (qpi w 115 48 1) 115 13)) 115 51 (qi (qpi (qpi w 115 48 1) 115 50 (qi (qpi w 115 48 1) 115 13)) 115 0)) 115 1)) 115 2)) 115 49 (qz (qi (qpi (qpi (qpi (qpi (qpi w 115 48 1) 115 50 (qi (qpi w 115 48 1) 115 13)) 115 51 (qi (qpi (qpi w 115 48 1) 115 50 (qi (qpi w 115 48 1) 115 13)) 115 0)) 115 52 (qi (qpi (qpi (qpi w 115 48 1) 115 50 (qi (qpi w 115 48 1) 115 13)) 115 51 (qi (qpi (qpi w 115 48 1) 115 50 (qi (qpi w 115 48 1) 115 13)) 115 0)) 115 1)) 115 53 (qi (qpi (qpi (qpi (qpi w 115 48 1) 115 50 (qi (qpi w 115 48 1) 115 13)) 115 51 (qi (qpi (qpi w 115 48 1) 115 50 (qi (qpi w 115 48 1) 115 13)) 115 0)) 115 52 (qi (qpi (qpi (qpi w 115 48 1) 115 50 (qi (qpi w 115 48 1) 115 13)) 115 51 (qi (qpi (qpi w 115 48 1) 115 50 (qi (qpi w 115 48 1) 115 13)) 115 0)) 115 1)) 115 2)) 115 4))) 115 3)) 115 55 (qi (qpi (qpi (qpi (qpi (qpi (qpi (qpi w 115 48 1) 115 50 (qi (qpi w 115 48 1) 115 13)) 115 51 (qi (qpi (qpi w 115 48 1) 115 50 (qi (qpi w 115 48 1) 115 13)) 115 0)) 115 52 (qi (qpi (qpi (qpi w 115 48 1) 115 50 (qi (qpi w 115 48 1) 115 13)) 115 51 (qi (qpi (qpi w 115 48 1) 115 50 (qi (qpi w 115 48 1) 115 13)) 115 0)) 115 1)) 115 53 (qi (qpi (qpi (qpi (qpi w 115 48 1) 115 50 (qi (qpi w 115 48 1) 115 13)) 115 51 (qi (qpi (qpi w 115 48 1) 115 50 (qi (qpi w 115 48 1) 115 13)) 115 0)) 115 52 (qi (qpi (qpi (qpi w 115 48 1) 115 50 (qi (qpi w 115 48 1) 115 13)) 115 51 (qi (qpi (qpi w 115 48 1) 115 50 (qi (qpi w 115 48 1) 115 13)) 115 0)) 115 1)) 115 2)) 115 49 (qz (qi (qpi (qpi (qpi (qpi (qpi w 115 48 1) 115 50 (qi (qpi w 115 48 1) 115 13)) 115 51 (qi (qpi (qpi w 115 48 1) 115 50 (qi (qpi w 115 48 1) 115 13)) 115 0)) 115 52 (qi (qpi (qpi (qpi w 115 48 1) 115 50 (qi (qpi w 115 48 1) 115 13)) 115 51 (qi (qpi (qpi w 115 48 1) 115 50 (qi (qpi w 115 48 1) 115 13)) 115 0)) 115 1)) 115 53 (qi (qpi (qpi (qpi (qpi w 115 48 1) 115 50 (qi (qpi w 115 48 1) 115 13)) 115 51 (qi (qpi (qpi w 115 48 1) 115 50 (qi (qpi w 115 48 1) 115 13)) 115 0)) 115 52 (qi (qpi (qpi (qpi w 115 48 1) 115 50 (qi (qpi w 115 48 1) 115 13)) 115 51 (qi (qpi (qpi w 115 48 1) 115 50 (qi (qpi w 115 48 1) 115 13)) 115 0)) 115 1)) 115 2)) 115 4))) 115 54 (qi (qpi (qpi (qpi (qpi (qpi (qpi w 115 48 1) 115 50 (qi (qpi w 115 48 1) 115 13)) 115 51 (qi (qpi (qpi w 115 48 1) 115 50 (qi (qpi w 115 48 1) 115 13)) 115 0)) 115 52 (qi (qpi (qpi (qpi w 115 48 1) 115 50 (qi (qpi w 115 48 1) 115 13)) 115 51 (qi (qpi (qpi w 115 48 1) 115 50 (qi (qpi w 115 48 1) 115 13)) 115 0)) 115 1)) 115 53 (qi (qpi (qpi (qpi (qpi w 115 48 1) 115 50 (qi (qpi w 115 48 1) 115 13)) 115 51 (qi (qpi (qpi w 115 48 1) 115 50 (qi (qpi w 115 48 1) 115 13)) 115 0)) 115 52 (qi (qpi (qpi (qpi w 115 48 1) 115 50 (qi (qpi w 115 48 1) 115 13)) 115 51 (qi (qpi (qpi w 115 48 1) 115 50 (qi (qpi w 115 48 1) 115 13)) 115 0)) 115 1)) 115 2)) 115 49 (qz (qi (qpi (qpi (qpi (qpi (qpi w 115 48 1) 115 50 (qi (qpi w 115 48 1) 115 13)) 115 51 (qi (qpi (qpi w 115 48 1) 115 50 (qi (qpi w 115 48 1) 115 13)) 115 0)) 115 52 (qi (qpi (qpi (qpi w 115 48 1) 115 50 (qi (qpi w 115 48 1) 115 13)) 115 51 (qi (qpi (qpi w 115 48 1) 115 50 (qi (qpi w 115 48 1) 115 13)) 115 0)) 115 1)) 115 53 (qi (qpi (qpi (qpi (qpi w 115 48 1) 115 50 (qi (qpi w 115 48 1) 115 13)) 115 51 (qi (qpi (qpi w 115 48 1) 115 50 (qi (qpi w 115 48 1) 115 13)) 115 0)) 115 52 (qi (qpi (qpi (qpi w 115 48 1) 115 50 (qi (qpi w 115 48 1) 115 13)) 115 51 (qi (qpi (qpi w 115 48 1) 115 50 (qi (qpi w 115 48 1) 115 13)) 115 0)) 115 1)) 115 2)) 115 4))) 115 3)) 115 39)) 115 56 (qi (qpi (qpi (qpi (qpi (qpi (qpi (qpi (qpi w 115 48 1) 115 50 (qi (qpi w 115 48 1) 115 13)) 115 51 (qi (qpi (qpi w 115 48 1) 115 50 (qi (qpi w 115 48 1) 115 13)) 115 0)) 115 52 (qi (qpi (qpi (qpi w 115 48 1) 115 50 (qi (qpi w 115 48 1) 115 13)) 115 51 (qi (qpi (qpi w 115 48 1) 115 50 (qi (qpi w 115 48 1) 115 13)) 115 0)) 115 1)) 115 53 (qi (qpi (qpi (qpi (qpi w 115 48 1) 115 50 (qi (qpi w 115 48 1) 115 13)) 115 51 (qi (qpi (qpi w 115 48 1) 115 50 (qi (qpi w 115 48 1) 115 13)) 115 0)) 115 52 (qi (qpi (qpi (qpi w 115 48 1) 115 50 (qi (qpi w 115 48 1) 115 13)) 115 51 (qi (qpi (qpi w 115 48 1) 115 50 (qi (qpi w 115 48 1) 115 13)) 115 0)) 115 1)) 115 2)) 115 49 (qz (qi (qpi (qpi (qpi (qpi (qpi w 115 48 1) 115 50 (qi (qpi w 115 48 1) 115 13)) 115 51 (qi (qpi (qpi w 115 48 1) 115 50 (qi (qpi w 115 48 1) 115 13)) 115 0)) 115 52 (qi (qpi (qpi (qpi w 115 48 1) 115 50 (qi (qpi w 115 48 1) 115 13)) 115 51 (qi (qpi (qpi w 115 48 1) 115 50 (qi (qpi w 115 48 1) 115 13)) 115 0)) 115 1)) 115 53 (qi (qpi (qpi (qpi (qpi w 115 48 1) 115 50 (qi (qpi w 115 48 1) 115 13)) 115 51 (qi (qpi (qpi w 115 48 1) 115 50 (qi (qpi w 115 48 1) 115 13)) 115 0)) 115 52 (qi (qpi (qpi (qpi w 115 48 1) 115 50 (qi (qpi w 115 48 1) 115 13)) 115 51 (qi (qpi (qpi w 115 48 1) 115 50 (qi (qpi w 115 48 1) 115 13)) 115 0)) 115 1)) 115 2)) 115 4))) 115 54 (qi (qpi (qpi (qpi (qpi (qpi (qpi w 115 48 1) 115 50 (qi (qpi w 115 48 1) 115 13)) 115 51 (qi (qpi (qpi w 115 48 1) 115 50 (qi (qpi w 115 48 1) 115 13)) 115 0)) 115 52 (qi (qpi (qpi (qpi w 115 48 1) 115 50 (qi (qpi w 115 48 1) 115 13)) 115 51 (qi (qpi (qpi w 115 48 1) 115 50 (qi (qpi w 115 48 1) 115 13)) 115 0)) 115 1)) 115 53 (qi (qpi (qpi (qpi (qpi w 115 48 1) 115 50 (qi (qpi w 115 48 1) 115 13)) 115 51 (qi (qpi (qpi w 115 48 1) 115 50 (qi (qpi w 115 48 1) 115 13)) 115 0)) 115 52 (qi (qpi (qpi (qpi w 115 48 1) 115 50 (qi (qpi w 115 48 1) 115 13)) 115 51 (qi (qpi (qpi w 115 48 1) 115 50 (qi (qpi w 115 48 1) 115 13)) 115 0)) 115 1)) 115 2)) 115 49 (qz (qi (qpi (qpi (qpi (qpi (qpi w 115 48 1) 115 50 (qi (qpi w 115 48 1) 115 13)) 115 51 (qi (qpi (qpi w 115 48 1) 115 50 (qi (qpi w 115 48 1) 115 13)) 115 0)) 115 52 (qi (qpi (qpi (qpi w 115 48 1) 115 50 (qi (qpi w 115 48 1) 115 13)) 115 51 (qi (qpi (qpi w 115 48 1) 115 50 (qi (qpi w 115 48 1) 115 13)) 115 0)) 115 1)) 115 53 (qi (qpi (qpi (qpi (qpi w 115 48 1) 115 50 (qi (qpi w 115 48 1) 115 13)) 115 51 (qi (qpi (qpi w 115 48 1) 115 50 (qi (qpi w 115 48 1) 115 13)) 115 0)) 115 52 (qi (qpi (qpi (qpi w 115 48 1) 115 50 (qi (qpi w 115 48 1) 115 13)) 115 51 (qi (qpi (qpi w 115 48 1) 115 50 (qi (qpi w 115 48 1) 115 13)) 115 0)) 115 1)) 115 2)) 115 4))) 115 3)) 115 55 (qi (qpi (qpi (qpi (qpi (qpi (qpi (qpi w 115 48 1) 115 50 (qi (qpi w 115 48 1) 115 13)) 115 51 (qi (qpi (qpi w 115 48 1) 115 50 (qi (qpi w 115 48 1) 115 13)) 115 0)) 115 52 (qi (qpi (qpi (qpi w 115 48 1) 115 50 (qi (qpi w 115 48 1) 115 13)) 115 51 (qi (qpi (qpi w 115 48 1) 115 50 (qi (qpi w 115 48 1) 115 13)) 115 0)) 115 1)) 115 53 (qi (qpi (qpi (qpi (qpi w 115 48 1) 115 50 (qi (qpi w 115 48 1) 115 13)) 115 51 (qi (qpi (qpi w 115 48 1) 115 50 (qi (qpi w 115 48 1) 115 13)) 115 0)) 115 52 (qi (qpi (qpi (qpi w 115 48 1) 115 50 (qi (qpi w 115 48 1) 115 13)) 115 51 (qi (qpi (qpi w 115 48 1) 115 50 (qi (qpi w 115 48 1) 115 13)) 115 0)) 115 1)) 115 2)) 115 49 (qz (qi (qpi (qpi (qpi (qpi (qpi w 115 48 1) 115 50 (qi (qpi w 115 48 1) 115 13)) 115 51 (qi (qpi (qpi w 115 48 1) 115 50 (qi (qpi w 115 48 1) 115 13)) 115 0)) 115 52 (qi (qpi (qpi (qpi w 115 48 1) 115 50 (qi (qpi w 115 48 1) 115 13)) 115 51 (qi (qpi (qpi w 115 48 1) 115 50 (qi (qpi w 115 48 1) 115 13)) 115 0)) 115 1)) 115 53 (qi (qpi (qpi (qpi (qpi w 115 48 1) 115 50 (qi (qpi w 115 48 1) 115 13)) 115 51 (qi (qpi (qpi w 115 48 1) 115 50 (qi (qpi w 115 48 1) 115 13)) 115 0)) 115 52 (qi (qpi (qpi (qpi w 115 48 1) 115 50 (qi (qpi w 115 48 1) 115 13)) 115 51 (qi (qpi (qpi w 115 48 1) 115 50 (qi (qpi w 115 48 1) 115 13)) 115 0)) 115 1)) 115 2)) 115 4))) 115 54 (qi (qpi (qpi (qpi (qpi (qpi (qpi w 115 48 1) 115 50 (qi (qpi w 115 48 1) 115 13)) 115 51 (qi (qpi (qpi w 115 48 1) 115 50 (qi (qpi w 115 48 1) 115 13)) 115 0)) 115 52 (qi (qpi (qpi (qpi w 115 48 1) 115 50 (qi (qpi w 115 48 1) 115 13)) 115 51 (qi (qpi (qpi w 115 48 1) 115 50 (qi (qpi w 115 48 1) 115 13)) 115 0)) 115 1)) 115 53 (qi (qpi (qpi (qpi (qpi w 115 48 1) 115 50 (qi (qpi w 115 48 1) 115 13)) 115 51 (qi (qpi (qpi w 115 48 1) 115 50 (qi (qpi w 115 48 1) 115 13)) 115 0)) 115 52 (qi (qpi (qpi (qpi w 115 48 1) 115 50 (qi (qpi w 115 48 1) 115 13)) 115 51 (qi (qpi (qpi w 115 48 1) 115 50 (qi (qpi w 115 48 1) 115 13)) 115 0)) 115 1)) 115 2)) 115 49 (qz (qi (qpi (qpi (qpi (qpi (qpi w 115 48 1) 115 50 (qi (qpi w 115 48 1) 115 13)) 115 51 (qi (qpi (qpi w 115 48 1) 115 50 (qi (qpi w 115 48 1) 115 13)) 115 0)) 115 52 (qi (qpi (qpi (qpi w 115 48 1) 115 50 (qi (qpi w 115 48 1) 115 13)) 115 51 (qi (qpi (qpi w 115 48 1) 115 50 (qi (qpi w 115 48 1) 115 13)) 115 0)) 115 1)) 115 53 (qi (qpi (qpi (qpi (qpi w 115 48 1) 115 50 (qi (qpi w 115 48 1) 115 13)) 115 51 (qi (qpi (qpi w 115 48 1) 115 50 (qi (qpi w 115 48 1) 115 13)) 115 0)) 115 52 (qi (qpi (qpi (qpi w 115 48 1) 115 50 (qi (qpi w 115 48 1) 115 13)) 115 51 (qi (qpi (qpi w 115 48 1) 115 50 (qi (qpi w 115 48 1) 115 13)) 115 0)) 115 1)) 115 2)) 115 4))) 115 3)) 115 39)) 115 42)) 115 57 (qi (qpi (qpi (qpi (qpi (qpi (qpi (qpi (qpi (qpi w 115 48 1) 115 50 (qi (qpi w 115 48 1) 115 13)) 115 51 (qi (qpi (qpi w 115 48 1) 115 50 (qi (qpi w 115 48 1) 115 13)) 115 0)) 115 52 (qi (qpi (qpi (qpi w 115 48 1) 115 50 (qi (qpi w 115 48 1) 115 13)) 115 51 (qi (qpi (qpi w 115 48 1) 115 50 (qi (qpi w 115 48 1) 115 13)) 115 0)) 115 1)) 115 53 (qi (qpi (qpi (qpi (qpi w 115 48 1) 115 50 (qi (qpi w 115 48 1) 115 13)) 115 51 (qi (qpi (qpi w 115 48 1) 115 50 (qi (qpi w 115 48 1) 115 13)) 115 0)) 115 52 (qi (qpi (qpi (qpi w 115 48 1) 115 50 (qi (qpi w 115 48 1) 115 13)) 115 51 (qi (qpi (qpi w 115 48 1) 115 50 (qi (qpi w 115 48 1) 115 13)) 115 0)) 115 1)) 115 2)) 115 49 (qz (qi (qpi (qpi (qpi (qpi (qpi w 115 48 1) 115 50 (qi (qpi w 115 48 1) 115 13)) 115 51 (qi (qpi (qpi w 115 48 1) 115 50 (qi (qpi w 115 48 1) 115 13)) 115 0)) 115 52 (qi (qpi (qpi (qpi w 115 48 1) 115 50 (qi (qpi w 115 48 1) 115 13)) 115 51 (qi (qpi (qpi w 115 48 1) 115 50 (qi (qpi w 115 48 1) 115 13)) 115 0)) 115 1)) 115 53 (qi (qpi (qpi (qpi (qpi w 115 48 1) 115 50 (qi (qpi w 115 48 1) 115 13)) 115 51 (qi (qpi (qpi w 115 48 1) 115 50 (qi (qpi w 115 48 1) 115 13)) 115 0)) 115 52 (qi (qpi (qpi (qpi w 115 48 1) 115 50 (qi (qpi w 115 48 1) 115 13)) 115 51 (qi (qpi (qpi w 115 48 1) 115 50 (qi (qpi w 115 48 1) 115 13)) 115 0)) 115 1)) 115 2)) 115 4))) 115 54 (qi (qpi (qpi (qpi (qpi (qpi (qpi w 115 48 1) 115 50 (qi (qpi w 115 48 1) 115 13)) 115 51 (qi (qpi (qpi w 115 48 1) 115 50 (qi (qpi w 115 48 1) 115 13)) 115 0)) 115 52 (qi (qpi (qpi (qpi w 115 48 1) 115 50 (qi (qpi w 115 48 1) 115 13)) 115 51 (qi (qpi (qpi w 115 48 1) 115 50 (qi (qpi w 115 48 1) 115 13)) 115 0)) 115 1)) 115 53 (qi (qpi (qpi (qpi (qpi w 115 48 1) 115 50 (qi (qpi w 115 48 1) 115 13)) 115 51 (qi (qpi (qpi w 115 48 1) 115 50 (qi (qpi w 115 48 1) 115 13)) 115 0)) 115 52 (qi (qpi (qpi (qpi w 115 48 1) 115 50 (qi (qpi w 115 48 1) 115 13)) 115 51 (qi (qpi (qpi w 115 48 1) 115 50 (qi (qpi w 115 48 1) 115 13)) 115 0)) 115 1)) 115 2)) 115 49 (qz (qi (qpi (qpi (qpi (qpi (qpi w 115 48 1) 115 50 (qi (qpi w 115 48 1) 115 13)) 115 51 (qi (qpi (qpi w 115 48 1) 115 50 (qi (qpi w 115 48 1) 115 13)) 115 0)) 115 52 (qi (qpi (qpi (qpi w 115 48 1) 115 50 (qi (qpi w 115 48 1) 115 13)) 115 51 (qi (qpi (qpi w 115 48 1) 115 50 (qi (qpi w 115 48 1) 115 13)) 115 0)) 115 1)) 115 53 (qi (qpi (qpi (qpi (qpi w 115 48 1) 115 50 (qi (qpi w 115 48 1) 115 13)) 115 51 (qi (qpi (qpi w 115 48 1) 115 50 (qi (qpi w 115 48 1) 115 13)) 115 0)) 115 52 (qi (qpi (qpi (qpi w 115 48 1) 115 50 (qi (qpi w 115 48 1) 115 13)) 115 51 (qi (qpi (qpi w 115 48 1) 115 50 (qi (qpi w 115 48 1) 115 13)) 115 0)) 115 1)) 115 2)) 115 4))) 115 3)) 115 55 (qi (qpi (qpi (qpi (qpi (qpi (qpi (qpi w 115 48 1) 115 50 (qi (qpi w 115 48 1) 115 13)) 115 51 (qi (qpi (qpi w 115 48 1) 115 50 (qi (qpi w 115 48 1) 115 13)) 115 0)) 115 52 (qi (qpi (qpi (qpi w 115 48 1) 115 50 (qi (qpi w 115 48 1) 115 13)) 115 51 (qi (qpi (qpi w 115 48 1) 115 50 (qi (qpi w 115 48 1) 115 13)) 115 0)) 115 1)) 115 53 (qi (qpi (qpi (qpi (qpi w 115 48 1) 115 50 (qi (qpi w 115 48 1) 115 13)) 115 51 (qi (qpi (qpi w 115 48 1) 115 50 (qi (qpi w 115 48 1) 115 13)) 115 0)) 115 52 (qi (qpi (qpi (qpi w 115 48 1) 115 50 (qi (qpi w 115 48 1) 115 13)) 115 51 (qi (qpi (qpi w 115 48 1) 115 50 (qi (qpi w 115 48 1) 115 13)) 115 0)) 115 1)) 115 2)) 115 49 (qz (qi (qpi (qpi (qpi (qpi (qpi w 115 48 1) 115 50 (qi (qpi w 115 48 1) 115 13)) 115 51 (qi (qpi (qpi w 115 48 1) 115 50 (qi (qpi w 115 48 1) 115 13)) 115 0)) 115 52 (qi (qpi (qpi (qpi w 115 48 1) 115 50 (qi (qpi w 115 48 1) 115 13)) 115 51 (qi (qpi (qpi w 115 48 1) 115 50 (qi (qpi w 115 48 1) 115 13)) 115 0)) 115 1)) 115 53 (qi (qpi (qpi (qpi (qpi w 115 48 1) 115 50 (qi (qpi w 115 48 1) 115 13)) 115 51 (qi (qpi (qpi w 115 48 1) 115 50 (qi (qpi w 115 48 1) 115 13)) 115 0)) 115 52 (qi (qpi (qpi (qpi w 115 48 1) 115 50 (qi (qpi w 115 48 1) 115 13)) 115 51 (qi (qpi (qpi w 115 48 1) 115 50 (qi (qpi w 115 48 1) 115 13)) 115 0)) 115 1)) 115 2)) 115 4))) 115 54 (qi (qpi (qpi (qpi (qpi (qpi (qpi w 115 48 1) 115 50 (qi (qpi w 115 48 1) 115 13)) 115 51 (qi (qpi (qpi w 115 48 1) 115 50 (qi (qpi w 115 48 1) 115 13)) 115 0)) 115 52 (qi (qpi (qpi (qpi w 115 48 1) 115 50 (qi (qpi w 115 48 1) 115 13)) 115 51 (qi (qpi (qpi w 115 48 1) 115 50 (qi (qpi w 115 48 1) 115 13)) 115 0)) 115 1)) 115 53 (qi (qpi (qpi (qpi (qpi w 115 48 1) 115 50 (qi (qpi w 115 48 1) 115 13)) 115 51 (qi (qpi (qpi w 115 48 1) 115 50 (qi (qpi w 115 48 1) 115 13)) 115 0)) 115 52 (qi (qpi (qpi (qpi w 115 48 1) 115 50 (qi (qpi w 115 48 1) 115 13)) 115 51 (qi (qpi (qpi w 115 48 1) 115 50 (qi (qpi w 115 48 1) 115 13)) 115 0)) 115 1)) 115 2)) 115 49 (qz (qi (qpi (qpi (qpi (qpi (qpi w 115 48 1) 115 50 (qi (qpi w 115 48 1) 115 13)) 115 51 (qi (qpi (qpi w 115 48 1) 115 50 (qi (qpi w 115 48 1) 115 13)) 115 0)) 115 52 (qi (qpi (qpi (qpi w 115 48 1) 115 50 (qi (qpi w 115 48 1) 115 13)) 115 51 (qi (qpi (qpi w 115 48 1) 115 50 (qi (qpi w 115 48 1) 115 13)) 115 0)) 115 1)) 115 53 (qi (qpi (qpi (qpi (qpi w 115 48 1) 115 50 (qi (qpi w 115 48 1) 115 13)) 115 51 (qi (qpi (qpi w 115 48 1) 115 50 (qi (qpi w 115 48 1) 115 13)) 115 0)) 115 52 (qi (qpi (qpi (qpi w 115 48 1) 115 50 (qi (qpi w 115 48 1) 115 13)) 115 51 (qi (qpi (qpi w 115 48 1) 115 50 (qi (qpi w 115 48 1) 115 13)) 115 0)) 115 1)) 115 2)) 115 4))) 115 3)) 115 39)) 115 56 (qi (qpi (qpi (qpi (qpi (qpi (qpi (qpi (qpi w 115 48 1) 115 50 (qi (qpi w 115 48 1) 115 13)) 115 51 (qi (qpi (qpi w 115 48 1) 115 50 (qi (qpi w 115 48 1) 115 13)) 115 0)) 115 52 (qi (qpi (qpi (qpi w 115 48 1) 115 50 (qi (qpi w 115 48 1) 115 13)) 115 51 (qi (qpi (qpi w 115 48 1) 115 50 (qi (qpi w 115 48 1) 115 13)) 115 0)) 115 1)) 115 53 (qi (qpi (qpi (qpi (qpi w 115 48 1) 115 50 (qi (qpi w 115 48 1) 115 13)) 115 51 (qi (qpi (qpi w 115 48 1) 115 50 (qi (qpi w 115 48 1) 115 13)) 115 0)) 115 52 (qi (qpi (qpi (qpi w 115 48 1) 115 50 (qi (qpi w 115 48 1) 115 13)) 115 51 (qi (qpi (qpi w 115 48 1) 115 50 (qi (qpi w 115 48 1) 115 13)) 115 0)) 115 1)) 115 2)) 115 49 (qz (qi (qpi (qpi (qpi (qpi (qpi w 115 48 1) 115 50 (qi (qpi w 115 48 1) 115 13)) 115 51 (qi (qpi (qpi w 115 48 1) 115 50 (qi (qpi w 115 48 1) 115 13)) 115 0)) 115 52 (qi (qpi (qpi (qpi w 115 48 1) 115 50 (qi (qpi w 115 48 1) 115 13)) 115 51 (qi (qpi (qpi w 115 48 1) 115 50 (qi (qpi w 115 48 1) 115 13)) 115 0)) 115 1)) 115 53 (qi (qpi (qpi (qpi (qpi w 115 48 1) 115 50 (qi (qpi w 115 48 1) 115 13)) 115 51 (qi (qpi (qpi w 115 48 1) 115 50 (qi (qpi w 115 48 1) 115 13)) 115 0)) 115 52 (qi (qpi (qpi (qpi w 115 48 1) 115 50 (qi (qpi w 115 48 1) 115 13)) 115 51 (qi (qpi (qpi w 115 48 1) 115 50 (qi (qpi w 115 48 1) 115 13)) 115 0)) 115 1)) 115 2)) 115 4))) 115 54 (qi (qpi (qpi (qpi (qpi (qpi (qpi w 115 48 1) 115 50 (qi (qpi w 115 48 1) 115 13)) 115 51 (qi (qpi (qpi w 115 48 1) 115 50 (qi (qpi w 115 48 1) 115 13)) 115 0)) 115 52 (qi (qpi (qpi (qpi w 115 48 1) 115 50 (qi (qpi w 115 48 1) 115 13)) 115 51 (qi (qpi (qpi w 115 48 1) 115 50 (qi (qpi w 115 48 1) 115 13)) 115 0)) 115 1)) 115 53 (qi (qpi (qpi (qpi (qpi w 115 48 1) 115 50 (qi (qpi w 115 48 1) 115 13)) 115 51 (qi (qpi (qpi w 115 48 1) 115 50 (qi (qpi w 115 48 1) 115 13)) 115 0)) 115 52 (qi (qpi (qpi (qpi w 115 48 1) 115 50 (qi (qpi w 115 48 1) 115 13)) 115 51 (qi (qpi (qpi w 115 48 1) 115 50 (qi (qpi w 115 48 1) 115 13)) 115 0)) 115 1)) 115 2)) 115 49 (qz (qi (qpi (qpi (qpi (qpi (qpi w 115 48 1) 115 50 (qi (qpi w 115 48 1) 115 13)) 115 51 (qi (qpi (qpi w 115 48 1) 115 50 (qi (qpi w 115 48 1) 115 13)) 115 0)) 115 52 (qi (qpi (qpi (qpi w 115 48 1) 115 50 (qi (qpi w 115 48 1) 115 13)) 115 51 (qi (qpi (qpi w 115 48 1) 115 50 (qi (qpi w 115 48 1) 115 13)) 115 0)) 115 1)) 115 53 (qi (qpi (qpi (qpi (qpi w 115 48 1) 115 50 (qi (qpi w 115 48 1) 115 13)) 115 51 (qi (qpi (qpi w 115 48 1) 115 50 (qi (qpi w 115 48 1) 115 13)) 115 0)) 115 52 (qi (qpi (qpi (qpi w 115 48 1) 115 50 (qi (qpi w 115 48 1) 115 13)) 115 51 (qi (qpi (qpi w 115 48 1) 115 50 (qi (qpi w 115 48 1) 115 13)) 115 0)) 115 1)) 115 2)) 115 4))) 115 3)) 115 55 (qi (qpi (qpi (qpi (qpi (qpi (qpi (qpi w 115 48 1) 115 50 (qi (qpi w 115 48 1) 115 13)) 115 51 (qi (qpi (qpi w 115 48 1) 115 50 (qi (qpi w 115 48 1) 115 13)) 115 0)) 115 52 (qi (qpi (qpi (qpi w 115 48 1) 115 50 (qi (qpi w 115 48 1) 115 13)) 115 51 (qi (qpi (qpi w 115 48 1) 115 50 (qi (qpi w 115 48 1) 115 13)) 115 0)) 115 1)) 115 53 (qi (qpi (qpi (qpi (qpi w 115 48 1) 115 50 (qi (qpi w 115 48 1) 115 13)) 115 51 (qi (qpi (qpi w 115 48 1) 115 50 (qi (qpi w 115 48 1) 115 13)) 115 0)) 115 52 (qi (qpi (qpi (qpi w 115 48 1) 115 50 (qi (qpi w 115 48 1) 115 13)) 115 51 (qi (qpi (qpi w 115 48 1) 115 50 (qi (qpi w 115 48 1) 115 13)) 115 0)) 115 1)) 115 2)) 115 49 (qz (qi (qpi (qpi (qpi (qpi (qpi w 115 48 1) 115 50 (qi (qpi w 115 48 1) 115 13)) 115 51 (qi (qpi (qpi w 115 48 1) 115 50 (qi (qpi w 115 48 1) 115 13)) 115 0)) 115 52 (qi (qpi (qpi (qpi w 115 48 1) 115 50 (qi (qpi w 115 48 1) 115 13)) 115 51 (qi (qpi (qpi w 115 48 1) 115 50 (qi (qpi w 115 48 1) 115 13)) 115 0)) 115 1)) 115 53 (qi (qpi (qpi (qpi (qpi w 115 48 1) 115 50 (qi (qpi w 115 48 1) 115 13)) 115 51 (qi (qpi (qpi w 115 48 1) 115 50 (qi (qpi w 115 48 1) 115 13)) 115 0)) 115 52 (qi (qpi (qpi (qpi w 115 48 1) 115 50 (qi (qpi w 115 48 1) 115 13)) 115 51 (qi (qpi (qpi w 115 48 1) 115 50 (qi (qpi w 115 48 1) 115 13)) 115 0)) 115 1)) 115 2)) 115 4))) 115 54 (qi (qpi (qpi (qpi (qpi (qpi (qpi w 115 48 1) 115 50 (qi (qpi w 115 48 1) 115 13)) 115 51 (qi (qpi (qpi w 115 48 1) 115 50 (qi (qpi w 115 48 1) 115 13)) 115 0)) 115 52 (qi (qpi (qpi (qpi w 115 48 1) 115 50 (qi (qpi w 115 48 1) 115 13)) 115 51 (qi (qpi (qpi w 115 48 1) 115 50 (qi (qpi w 115 48 1) 115 13)) 115 0)) 115 1)) 115 53 (qi (qpi (qpi (qpi (qpi w 115 48 1) 115 50 (qi (qpi w 115 48 1) 115 13)) 115 51 (qi (qpi (qpi w 115 48 1) 115 50 (qi (qpi w 115 48 1) 115 13)) 115 0)) 115 52 (qi (qpi (qpi (qpi w 115 48 1) 115 50 (qi (qpi w 115 48 1) 115 13)) 115 51 (qi (qpi (qpi w 115 48 1) 115 50 (qi (qpi w 115 48 1) 115 13)) 115 0)) 115 1)) 115 2)) 115 49 (qz (qi (qpi (qpi (qpi (qpi (qpi w 115 48 1) 115 50 (qi (qpi w 115 48 1) 115 13)) 115 51 (qi (qpi (qpi w 115 48 1) 115 50 (qi (qpi w 115 48 1) 115 13)) 115 0)) 115 52 (qi (qpi (qpi (qpi w 115 48 1) 115 50 (qi (qpi w 115 48 1) 115 13)) 115 51 (qi (qpi (qpi w 115 48 1) 115 50 (qi (qpi w 115 48 1) 115 13)) 115 0)) 115 1)) 115 53 (qi (qpi (qpi (qpi (qpi w 115 48 1) 115 50 (qi (qpi w 115 48 1) 115 13)) 115 51 (qi (qpi (qpi w 115 48 1) 115 50 (qi (qpi w 115 48 1) 115 13)) 115 0)) 115 52 (qi (qpi (qpi (qpi w 115 48 1) 115 50 (qi (qpi w 115 48 1) 115 13)) 115 51 (qi (qpi (qpi w 115 48 1) 115 50 (qi (qpi w 115 48 1) 115 13)) 115 0)) 115 1)) 115 2)) 115 4))) 115 3)) 115 39)) 115 42)) 115 43))) : c_Mo_image_0 d E Q  w := by
  unfold c_Mo_image_0
  refine g_aload_n 0 e_Mo_image_0 rfl rfl ?_
  refine g_iconst (v := 1) e_Mo_image_1 (by decide) ?_
  refine pf_Mo_157 rfl e_Mo_image_2 hw lay_115 (by decide) (Or.inr rfl) ?_
  refine g_aload_n 0 e_Mo_image_5 rfl rfl ?_
  refine g_aload_n 0 e_Mo_image_6 rfl rfl ?_
  refine gf_Mo_51 rfl e_Mo_image_7 hw lay_115 (by decide) ?_
  refine pf_Mo_163 rfl e_Mo_image_10 hw lay_115 (by decide) ?_
  refine g_aload_n 0 e_Mo_image_13 rfl rfl ?_
  refine g_aload_n 0 e_Mo_image_14 rfl rfl ?_
  refine gf_Mo_7 rfl e_Mo_image_15 hw lay_115 (by decide) ?_
  refine pf_Mo_166 rfl e_Mo_image_18 hw lay_115 (by decide) ?_
  refine g_aload_n 0 e_Mo_image_21 rfl rfl ?_
  refine g_aload_n 0 e_Mo_image_22 rfl rfl ?_
  refine gf_Mo_13 rfl e_Mo_image_23 hw lay_115 (by decide) ?_
  refine pf_Mo_169 rfl e_Mo_image_26 hw lay_115 (by decide) ?_
  refine g_aload_n 0 e_Mo_image_29 rfl rfl ?_
  refine g_aload_n 0 e_Mo_image_30 rfl rfl ?_
  refine gf_Mo_16 rfl e_Mo_image_31 hw lay_115 (by decide) ?_
  refine pf_Mo_172 rfl e_Mo_image_34 hw lay_115 (by decide) ?_
  refine g_aload_n 0 e_Mo_image_37 rfl rfl ?_
  refine g_aload_n 0 e_Mo_image_38 rfl rfl ?_
  refine gf_Mo_22 rfl e_Mo_image_39 hw lay_115 (by decide) ?_
  refine pf_Mo_160 rfl e_Mo_image_42 hw lay_115 (by decide) (qz_01 _) ?_
  refine g_aload_n 0 e_Mo_image_45 rfl rfl ?_
  refine g_aload_n 0 e_Mo_image_46 rfl rfl ?_
  refine gf_Mo_19 rfl e_Mo_image_47 hw lay_115 (by decide) ?_
  refine pf_Mo_175 rfl e_Mo_image_50 hw lay_115 (by decide) ?_
  refine g_aload_n 0 e_Mo_image_53 rfl rfl ?_
  refine g_aload_n 0 e_Mo_image_54 rfl rfl ?_
  refine gf_Mo_130 rfl e_Mo_image_55 hw lay_115 (by decide) ?_
  refine pf_Mo_178 rfl e_Mo_image_58 hw lay_115 (by decide) ?_
  refine g_aload_n 0 e_Mo_image_61 rfl rfl ?_
  refine g_aload_n 0 e_Mo_image_62 rfl rfl ?_
  refine gf_Mo_139 rfl e_Mo_image_63 hw lay_115 (by decide) ?_
  refine pf_Mo_181 rfl e_Mo_image_66 hw lay_115 (by decide) ?_
  refine g_aload_n 0 e_Mo_image_69 rfl rfl ?_
  refine g_aload_n 0 e_Mo_image_70 rfl rfl ?_
  refine gf_Mo_142 rfl e_Mo_image_71 hw lay_115 (by decide) ?_
  refine pf_Mo_184 rfl e_Mo_image_74 hw lay_115 (by decide) ?_
  refine g_iconst (v := 0) e_Mo_image_77 (by decide) ?_
  refine g_istore_n (lv := [(1, .int 0), (0, .ref (qb E + 115))]) e_Mo_image_78 rfl (by decide) rfl ?_
  refine g_loc [1, 0] rfl ?_
  exact h
set_option maxHeartbeats 4000000 in
set_option maxRecDepth 8000 in
theorem s_Mo_image_79 {d : Nat} {E : qE} {Q : qW → Int32 → Prop} {l1 : Int32} {w : qW} (hw : Sh w) (h : ((6 ≤ l1) → (c_Mo_image_165 d E Q 0 w)) ∧ ((¬ 6 ≤ l1) → (vp_in l1 6 ∧ (vp_in l1 6 ∧ (vp_in l1 6 ∧ (vp_in l1 6 ∧ (vp_in l1 6 ∧ (vp_in l1 6 ∧ (vp_in l1 6 ∧ (vp_in l1 6 ∧ (vp_in l1 6 ∧ (vp_in l1 6 ∧ (vp_in l1 6 ∧ (vp_in l1 6 ∧ (c_Mo_image_79 d E Q (l1 + 1) (qpi (qpi (qpi (qpi (qpi (qpi w 143 ((l1).toNatClampNeg) (qi w 116 ((l1).toNatClampNeg))) 144 ((l1).toNatClampNeg) (qi (qpi w 143 ((l1).toNatClampNeg) (qi w 116 ((l1).toNatClampNeg))) 117 ((l1).toNatClampNeg))) 145 ((l1).toNatClampNeg) (qi (qpi (qpi w 143 ((l1).toNatClampNeg) (qi w 116 ((l1).toNatClampNeg))) 144 ((l1).toNatClampNeg) (qi (qpi w 143 ((l1).toNatClampNeg) (qi w 116 ((l1).toNatClampNeg))) 117 ((l1).toNatClampNeg))) 118 ((l1).toNatClampNeg))) 146 ((l1).toNatClampNeg) (qi (qpi (qpi (qpi w 143 ((l1).toNatClampNeg) (qi w 116 ((l1).toNatClampNeg))) 144 ((l1).toNatClampNeg) (qi (qpi w 143 ((l1).toNatClampNeg) (qi w 116 ((l1).toNatClampNeg))) 117 ((l1).toNatClampNeg))) 145 ((l1).toNatClampNeg) (qi (qpi (qpi w 143 ((l1).toNatClampNeg) (qi w 116 ((l1).toNatClampNeg))) 144 ((l1).toNatClampNeg) (qi (qpi w 143 ((l1).toNatClampNeg) (qi w 116 ((l1).toNatClampNeg))) 117 ((l1).toNatClampNeg))) 118 ((l1).toNatClampNeg))) 119 ((l1).toNatClampNeg))) 147 ((l1).toNatClampNeg) (qi (qpi (qpi (qpi (qpi w 143 ((l1).toNatClampNeg) (qi w 116 ((l1).toNatClampNeg))) 144 ((l1).toNatClampNeg) (qi (qpi w 143 ((l1).toNatClampNeg) (qi w 116 ((l1).toNatClampNeg))) 117 ((l1).toNatClampNeg))) 145 ((l1).toNatClampNeg) (qi (qpi (qpi w 143 ((l1).toNatClampNeg) (qi w 116 ((l1).toNatClampNeg))) 144 ((l1).toNatClampNeg) (qi (qpi w 143 ((l1).toNatClampNeg) (qi w 116 ((l1).toNatClampNeg))) 117 ((l1).toNatClampNeg))) 118 ((l1).toNatClampNeg))) 146 ((l1).toNatClampNeg) (qi (qpi (qpi (qpi w 143 ((l1).toNatClampNeg) (qi w 116 ((l1).toNatClampNeg))) 144 ((l1).toNatClampNeg) (qi (qpi w 143 ((l1).toNatClampNeg) (qi w 116 ((l1).toNatClampNeg))) 117 ((l1).toNatClampNeg))) 145 ((l1).toNatClampNeg) (qi (qpi (qpi w 143 ((l1).toNatClampNeg) (qi w 116 ((l1).toNatClampNeg))) 144 ((l1).toNatClampNeg) (qi (qpi w 143 ((l1).toNatClampNeg) (qi w 116 ((l1).toNatClampNeg))) 117 ((l1).toNatClampNeg))) 118 ((l1).toNatClampNeg))) 119 ((l1).toNatClampNeg))) 120 ((l1).toNatClampNeg))) 148 ((l1).toNatClampNeg) (qi (qpi (qpi (qpi (qpi (qpi w 143 ((l1).toNatClampNeg) (qi w 116 ((l1).toNatClampNeg))) 144 ((l1).toNatClampNeg) (qi (qpi w 143 ((l1).toNatClampNeg) (qi w 116 ((l1).toNatClampNeg))) 117 ((l1).toNatClampNeg))) 145 ((l1).toNatClampNeg) (qi (qpi (qpi w 143 ((l1).toNatClampNeg) (qi w 116 ((l1).toNatClampNeg))) 144 ((l1).toNatClampNeg) (qi (qpi w 143 ((l1).toNatClampNeg) (qi w 116 ((l1).toNatClampNeg))) 117 ((l1).toNatClampNeg))) 118 ((l1).toNatClampNeg))) 146 ((l1).toNatClampNeg) (qi (qpi (qpi (qpi w 143 ((l1).toNatClampNeg) (qi w 116 ((l1).toNatClampNeg))) 144 ((l1).toNatClampNeg) (qi (qpi w 143 ((l1).toNatClampNeg) (qi w 116 ((l1).toNatClampNeg))) 117 ((l1).toNatClampNeg))) 145 ((l1).toNatClampNeg) (qi (qpi (qpi w 143 ((l1).toNatClampNeg) (qi w 116 ((l1).toNatClampNeg))) 144 ((l1).toNatClampNeg) (qi (qpi w 143 ((l1).toNatClampNeg) (qi w 116 ((l1).toNatClampNeg))) 117 ((l1).toNatClampNeg))) 118 ((l1).toNatClampNeg))) 119 ((l1).toNatClampNeg))) 147 ((l1).toNatClampNeg) (qi (qpi (qpi (qpi (qpi w 143 ((l1).toNatClampNeg) (qi w 116 ((l1).toNatClampNeg))) 144 ((l1).toNatClampNeg) (qi (qpi w 143 ((l1).toNatClampNeg) (qi w 116 ((l1).toNatClampNeg))) 117 ((l1).toNatClampNeg))) 145 ((l1).toNatClampNeg) (qi (qpi (qpi w 143 ((l1).toNatClampNeg) (qi w 116 ((l1).toNatClampNeg))) 144 ((l1).toNatClampNeg) (qi (qpi w 143 ((l1).toNatClampNeg) (qi w 116 ((l1).toNatClampNeg))) 117 ((l1).toNatClampNeg))) 118 ((l1).toNatClampNeg))) 146 ((l1).toNatClampNeg) (qi (qpi (qpi (qpi w 143 ((l1).toNatClampNeg) (qi w 116 ((l1).toNatClampNeg))) 144 ((l1).toNatClampNeg) (qi (qpi w 143 ((l1).toNatClampNeg) (qi w 116 ((l1).toNatClampNeg))) 117 ((l1).toNatClampNeg))) 145 ((l1).toNatClampNeg) (qi (qpi (qpi w 143 ((l1).toNatClampNeg) (qi w 116 ((l1).toNatClampNeg))) 144 ((l1).toNatClampNeg) (qi (qpi w 143 ((l1).toNatClampNeg) (qi w 116 ((l1).toNatClampNeg))) 117 ((l1).toNatClampNeg))) 118 ((l1).toNatClampNeg))) 119 ((l1).toNatClampNeg))) 120 ((l1).toNatClampNeg))) 121 ((l1).toNatClampNeg)))))))))))))))))) : c_Mo_image_79 d E Q l1 w := by
  unfold c_Mo_image_79
  refine g_iload_n 1 e_Mo_image_79 rfl rfl ?_
  refine g_bipush (v := 6) e_Mo_image_80 (by decide) ?_
  refine g_icmp_ge 163 e_Mo_image_82 (by decide) ⟨fun z1 => ?_, fun z1 => ?_⟩
  · have h := h.1 z1
    refine g_iconst (v := 0) e_Mo_image_163 (by decide) ?_
    refine g_istore_n (lv := [(1, .int 0), (0, .ref (qb E + 115))]) e_Mo_image_164 rfl (by decide) rfl ?_
    refine g_loc [1, 0] rfl ?_
    exact h
  · have h := h.2 z1
    refine g_aload_n 0 e_Mo_image_85 rfl rfl ?_
    refine gf_Mo_187 rfl e_Mo_image_86 hw lay_115 (by decide) (sh_Mo_imageKind hw) ?_
    refine g_iload_n 1 e_Mo_image_89 rfl rfl ?_
    refine g_aload_n 0 e_Mo_image_90 rfl rfl ?_
    refine gf_Mo_26 rfl e_Mo_image_91 hw lay_115 (by decide) (sh_Mo_kind hw) ?_
    refine g_iload_n 1 e_Mo_image_94 rfl rfl ?_
    obtain ⟨o2, h⟩ := h
    refine w_iaload ((l1).toNatClampNeg) e_Mo_image_95 hw lay_116 (by decide) o2 rfl ?_
    obtain ⟨o3, h⟩ := h
    refine w_iastore ((l1).toNatClampNeg) e_Mo_image_96 hw lay_143 (by decide) o3 rfl ?_
    refine g_aload_n 0 e_Mo_image_97 rfl rfl ?_
    refine gf_Mo_190 rfl e_Mo_image_98 hw lay_115 (by decide) (sh_Mo_imageV hw) ?_
    refine g_iload_n 1 e_Mo_image_101 rfl rfl ?_
    refine g_aload_n 0 e_Mo_image_102 rfl rfl ?_
    refine gf_Mo_30 rfl e_Mo_image_103 hw lay_115 (by decide) (sh_Mo_v hw) ?_
    refine g_iload_n 1 e_Mo_image_106 rfl rfl ?_
    obtain ⟨o4, h⟩ := h
    refine w_iaload ((l1).toNatClampNeg) e_Mo_image_107 hw lay_117 (by decide) o4 rfl ?_
    obtain ⟨o5, h⟩ := h
    refine w_iastore ((l1).toNatClampNeg) e_Mo_image_108 hw lay_144 (by decide) o5 rfl ?_
    refine g_aload_n 0 e_Mo_image_109 rfl rfl ?_
    refine gf_Mo_193 rfl e_Mo_image_110 hw lay_115 (by decide) (sh_Mo_imageWeight hw) ?_
    refine g_iload_n 1 e_Mo_image_113 rfl rfl ?_
    refine g_aload_n 0 e_Mo_image_114 rfl rfl ?_
    refine gf_Mo_33 rfl e_Mo_image_115 hw lay_115 (by decide) (sh_Mo_weight hw) ?_
    refine g_iload_n 1 e_Mo_image_118 rfl rfl ?_
    obtain ⟨o6, h⟩ := h
    refine w_iaload ((l1).toNatClampNeg) e_Mo_image_119 hw lay_118 (by decide) o6 rfl ?_
    obtain ⟨o7, h⟩ := h
    refine w_iastore ((l1).toNatClampNeg) e_Mo_image_120 hw lay_145 (by decide) o7 rfl ?_
    refine g_aload_n 0 e_Mo_image_121 rfl rfl ?_
    refine gf_Mo_196 rfl e_Mo_image_122 hw lay_115 (by decide) (sh_Mo_imageWhose hw) ?_
    refine g_iload_n 1 e_Mo_image_125 rfl rfl ?_
    refine g_aload_n 0 e_Mo_image_126 rfl rfl ?_
    refine gf_Mo_36 rfl e_Mo_image_127 hw lay_115 (by decide) (sh_Mo_whose hw) ?_
    refine g_iload_n 1 e_Mo_image_130 rfl rfl ?_
    obtain ⟨o8, h⟩ := h
    refine w_iaload ((l1).toNatClampNeg) e_Mo_image_131 hw lay_119 (by decide) o8 rfl ?_
    obtain ⟨o9, h⟩ := h
    refine w_iastore ((l1).toNatClampNeg) e_Mo_image_132 hw lay_146 (by decide) o9 rfl ?_
    refine g_aload_n 0 e_Mo_image_133 rfl rfl ?_
    refine gf_Mo_199 rfl e_Mo_image_134 hw lay_115 (by decide) (sh_Mo_imageLies hw) ?_
    refine g_iload_n 1 e_Mo_image_137 rfl rfl ?_
    refine g_aload_n 0 e_Mo_image_138 rfl rfl ?_
    refine gf_Mo_39 rfl e_Mo_image_139 hw lay_115 (by decide) (sh_Mo_lies hw) ?_
    refine g_iload_n 1 e_Mo_image_142 rfl rfl ?_
    obtain ⟨o10, h⟩ := h
    refine w_iaload ((l1).toNatClampNeg) e_Mo_image_143 hw lay_120 (by decide) o10 rfl ?_
    obtain ⟨o11, h⟩ := h
    refine w_iastore ((l1).toNatClampNeg) e_Mo_image_144 hw lay_147 (by decide) o11 rfl ?_
    refine g_aload_n 0 e_Mo_image_145 rfl rfl ?_
    refine gf_Mo_202 rfl e_Mo_image_146 hw lay_115 (by decide) (sh_Mo_imageTime hw) ?_
    refine g_iload_n 1 e_Mo_image_149 rfl rfl ?_
    refine g_aload_n 0 e_Mo_image_150 rfl rfl ?_
    refine gf_Mo_42 rfl e_Mo_image_151 hw lay_115 (by decide) (sh_Mo_time hw) ?_
    refine g_iload_n 1 e_Mo_image_154 rfl rfl ?_
    obtain ⟨o12, h⟩ := h
    refine w_iaload ((l1).toNatClampNeg) e_Mo_image_155 hw lay_121 (by decide) o12 rfl ?_
    obtain ⟨o13, h⟩ := h
    refine w_iastore ((l1).toNatClampNeg) e_Mo_image_156 hw lay_148 (by decide) o13 rfl ?_
    refine g_iinc (v := (l1 + 1)) (lv := [(1, .int (l1 + 1)), (0, .ref (qb E + 115))]) 1 e_Mo_image_157 rfl rfl (by decide) rfl ?_
    refine g_goto 79 e_Mo_image_160 (by decide) ?_
    refine g_loc [1, 0] rfl ?_
    exact h
set_option maxHeartbeats 4000000 in
set_option maxRecDepth 8000 in
theorem s_Mo_image_165 {d : Nat} {E : qE} {Q : qW → Int32 → Prop} {l1 : Int32} {w : qW} (hw : Sh w) (h : ((24 ≤ l1) → (c_Mo_image_191 d E Q 0 w)) ∧ ((¬ 24 ≤ l1) → (vp_in l1 24 ∧ (vp_in l1 24 ∧ (c_Mo_image_165 d E Q (l1 + 1) (qpi w 149 ((l1).toNatClampNeg) (qi w 122 ((l1).toNatClampNeg)))))))) : c_Mo_image_165 d E Q l1 w := by
  unfold c_Mo_image_165
  refine g_iload_n 1 e_Mo_image_165 rfl rfl ?_
  refine g_bipush (v := 24) e_Mo_image_166 (by decide) ?_
  refine g_icmp_ge 189 e_Mo_image_168 (by decide) ⟨fun z1 => ?_, fun z1 => ?_⟩
  · have h := h.1 z1
    refine g_iconst (v := 0) e_Mo_image_189 (by decide) ?_
    refine g_istore_n (lv := [(1, .int 0), (0, .ref (qb E + 115))]) e_Mo_image_190 rfl (by decide) rfl ?_
    refine g_loc [1, 0] rfl ?_
    exact h
  · have h := h.2 z1
    refine g_aload_n 0 e_Mo_image_171 rfl rfl ?_
    refine gf_Mo_205 rfl e_Mo_image_172 hw lay_115 (by decide) (sh_Mo_imageRows hw) ?_
    refine g_iload_n 1 e_Mo_image_175 rfl rfl ?_
    refine g_aload_n 0 e_Mo_image_176 rfl rfl ?_
    refine gf_Mo_45 rfl e_Mo_image_177 hw lay_115 (by decide) (sh_Mo_rows hw) ?_
    refine g_iload_n 1 e_Mo_image_180 rfl rfl ?_
    obtain ⟨o2, h⟩ := h
    refine w_iaload ((l1).toNatClampNeg) e_Mo_image_181 hw lay_122 (by decide) o2 rfl ?_
    obtain ⟨o3, h⟩ := h
    refine w_iastore ((l1).toNatClampNeg) e_Mo_image_182 hw lay_149 (by decide) o3 rfl ?_
    refine g_iinc (v := (l1 + 1)) (lv := [(1, .int (l1 + 1)), (0, .ref (qb E + 115))]) 1 e_Mo_image_183 rfl rfl (by decide) rfl ?_
    refine g_goto 165 e_Mo_image_186 (by decide) ?_
    refine g_loc [1, 0] rfl ?_
    exact h
set_option maxHeartbeats 4000000 in
set_option maxRecDepth 8000 in
theorem s_Mo_image_191 {d : Nat} {E : qE} {Q : qW → Int32 → Prop} {l1 : Int32} {w : qW} (hw : Sh w) (h : ((5 ≤ l1) → (c_Mo_image_228 d E Q 0 w)) ∧ ((¬ 5 ≤ l1) → (vp_in l1 5 ∧ (vp_in l1 5 ∧ (vp_in l1 5 ∧ (vp_in l1 5 ∧ (c_Mo_image_191 d E Q (l1 + 1) (qpi (qpi w 150 ((l1).toNatClampNeg) (qi w 137 ((l1).toNatClampNeg))) 151 ((l1).toNatClampNeg) (qi (qpi w 150 ((l1).toNatClampNeg) (qi w 137 ((l1).toNatClampNeg))) 138 ((l1).toNatClampNeg)))))))))) : c_Mo_image_191 d E Q l1 w := by
  unfold c_Mo_image_191
  refine g_iload_n 1 e_Mo_image_191 rfl rfl ?_
  refine g_iconst (v := 5) e_Mo_image_192 (by decide) ?_
  refine g_icmp_ge 226 e_Mo_image_193 (by decide) ⟨fun z1 => ?_, fun z1 => ?_⟩
  · have h := h.1 z1
    refine g_iconst (v := 0) e_Mo_image_226 (by decide) ?_
    refine g_istore_n (lv := [(1, .int 0), (0, .ref (qb E + 115))]) e_Mo_image_227 rfl (by decide) rfl ?_
    refine g_loc [1, 0] rfl ?_
    exact h
  · have h := h.2 z1
    refine g_aload_n 0 e_Mo_image_196 rfl rfl ?_
    refine gf_Mo_208 rfl e_Mo_image_197 hw lay_115 (by decide) (sh_Mo_imageWhen hw) ?_
    refine g_iload_n 1 e_Mo_image_200 rfl rfl ?_
    refine g_aload_n 0 e_Mo_image_201 rfl rfl ?_
    refine gf_Mo_133 rfl e_Mo_image_202 hw lay_115 (by decide) (sh_Mo_seenWhen hw) ?_
    refine g_iload_n 1 e_Mo_image_205 rfl rfl ?_
    obtain ⟨o2, h⟩ := h
    refine w_iaload ((l1).toNatClampNeg) e_Mo_image_206 hw lay_137 (by decide) o2 rfl ?_
    obtain ⟨o3, h⟩ := h
    refine w_iastore ((l1).toNatClampNeg) e_Mo_image_207 hw lay_150 (by decide) o3 rfl ?_
    refine g_aload_n 0 e_Mo_image_208 rfl rfl ?_
    refine gf_Mo_211 rfl e_Mo_image_209 hw lay_115 (by decide) (sh_Mo_imageSeenColour hw) ?_
    refine g_iload_n 1 e_Mo_image_212 rfl rfl ?_
    refine g_aload_n 0 e_Mo_image_213 rfl rfl ?_
    refine gf_Mo_136 rfl e_Mo_image_214 hw lay_115 (by decide) (sh_Mo_seenColour hw) ?_
    refine g_iload_n 1 e_Mo_image_217 rfl rfl ?_
    obtain ⟨o4, h⟩ := h
    refine w_iaload ((l1).toNatClampNeg) e_Mo_image_218 hw lay_138 (by decide) o4 rfl ?_
    obtain ⟨o5, h⟩ := h
    refine w_iastore ((l1).toNatClampNeg) e_Mo_image_219 hw lay_151 (by decide) o5 rfl ?_
    refine g_iinc (v := (l1 + 1)) (lv := [(1, .int (l1 + 1)), (0, .ref (qb E + 115))]) 1 e_Mo_image_220 rfl rfl (by decide) rfl ?_
    refine g_goto 191 e_Mo_image_223 (by decide) ?_
    refine g_loc [1, 0] rfl ?_
    exact h
set_option maxHeartbeats 4000000 in
set_option maxRecDepth 8000 in
theorem s_Mo_image_228 {d : Nat} {E : qE} {Q : qW → Int32 → Prop} {l1 : Int32} {w : qW} (hw : Sh w) (h : ((10 ≤ l1) → (c_Mo_image_266 d E Q 0 w)) ∧ ((¬ 10 ≤ l1) → (vp_in l1 10 ∧ (vp_in l1 10 ∧ (vp_in l1 10 ∧ (vp_in l1 10 ∧ (c_Mo_image_228 d E Q (l1 + 1) (qpi (qpi w 152 ((l1).toNatClampNeg) (qi w 139 ((l1).toNatClampNeg))) 153 ((l1).toNatClampNeg) (qi (qpi w 152 ((l1).toNatClampNeg) (qi w 139 ((l1).toNatClampNeg))) 140 ((l1).toNatClampNeg)))))))))) : c_Mo_image_228 d E Q l1 w := by
  unfold c_Mo_image_228
  refine g_iload_n 1 e_Mo_image_228 rfl rfl ?_
  refine g_bipush (v := 10) e_Mo_image_229 (by decide) ?_
  refine g_icmp_ge 264 e_Mo_image_231 (by decide) ⟨fun z1 => ?_, fun z1 => ?_⟩
  · have h := h.1 z1
    refine g_iconst (v := 0) e_Mo_image_264 (by decide) ?_
    refine g_istore_n (lv := [(1, .int 0), (0, .ref (qb E + 115))]) e_Mo_image_265 rfl (by decide) rfl ?_
    refine g_loc [1, 0] rfl ?_
    exact h
  · have h := h.2 z1
    refine g_aload_n 0 e_Mo_image_234 rfl rfl ?_
    refine gf_Mo_214 rfl e_Mo_image_235 hw lay_115 (by decide) (sh_Mo_imageWhat hw) ?_
    refine g_iload_n 1 e_Mo_image_238 rfl rfl ?_
    refine g_aload_n 0 e_Mo_image_239 rfl rfl ?_
    refine gf_Mo_145 rfl e_Mo_image_240 hw lay_115 (by decide) (sh_Mo_planWhat hw) ?_
    refine g_iload_n 1 e_Mo_image_243 rfl rfl ?_
    obtain ⟨o2, h⟩ := h
    refine w_iaload ((l1).toNatClampNeg) e_Mo_image_244 hw lay_139 (by decide) o2 rfl ?_
    obtain ⟨o3, h⟩ := h
    refine w_iastore ((l1).toNatClampNeg) e_Mo_image_245 hw lay_152 (by decide) o3 rfl ?_
    refine g_aload_n 0 e_Mo_image_246 rfl rfl ?_
    refine gf_Mo_217 rfl e_Mo_image_247 hw lay_115 (by decide) (sh_Mo_imageNumber hw) ?_
    refine g_iload_n 1 e_Mo_image_250 rfl rfl ?_
    refine g_aload_n 0 e_Mo_image_251 rfl rfl ?_
    refine gf_Mo_148 rfl e_Mo_image_252 hw lay_115 (by decide) (sh_Mo_planNumber hw) ?_
    refine g_iload_n 1 e_Mo_image_255 rfl rfl ?_
    obtain ⟨o4, h⟩ := h
    refine w_iaload ((l1).toNatClampNeg) e_Mo_image_256 hw lay_140 (by decide) o4 rfl ?_
    obtain ⟨o5, h⟩ := h
    refine w_iastore ((l1).toNatClampNeg) e_Mo_image_257 hw lay_153 (by decide) o5 rfl ?_
    refine g_iinc (v := (l1 + 1)) (lv := [(1, .int (l1 + 1)), (0, .ref (qb E + 115))]) 1 e_Mo_image_258 rfl rfl (by decide) rfl ?_
    refine g_goto 228 e_Mo_image_261 (by decide) ?_
    refine g_loc [1, 0] rfl ?_
    exact h
set_option maxHeartbeats 4000000 in
set_option maxRecDepth 8000 in
theorem s_Mo_image_266 {d : Nat} {E : qE} {Q : qW → Int32 → Prop} {l1 : Int32} {w : qW} (hw : Sh w) (h : ((8 ≤ l1) → (Q w (qi w 115 0))) ∧ ((¬ 8 ≤ l1) → (vp_in l1 8 ∧ (vp_in l1 8 ∧ (vp_in l1 8 ∧ (vp_in l1 8 ∧ (c_Mo_image_266 d E Q (l1 + 1) (qpi (qpi w 154 ((l1).toNatClampNeg) (qi w 141 ((l1).toNatClampNeg))) 155 ((l1).toNatClampNeg) (qi (qpi w 154 ((l1).toNatClampNeg) (qi w 141 ((l1).toNatClampNeg))) 142 ((l1).toNatClampNeg)))))))))) : c_Mo_image_266 d E Q l1 w := by
  unfold c_Mo_image_266
  refine g_iload_n 1 e_Mo_image_266 rfl rfl ?_
  refine g_bipush (v := 8) e_Mo_image_267 (by decide) ?_
  refine g_icmp_ge 302 e_Mo_image_269 (by decide) ⟨fun z1 => ?_, fun z1 => ?_⟩
  · have h := h.1 z1
    refine g_aload_n 0 e_Mo_image_302 rfl rfl ?_
    refine gf_Mo_7 rfl e_Mo_image_303 hw lay_115 (by decide) ?_
    exact g_iret e_Mo_image_306 rfl ⟨Sh.n hw, _, rfl, hw, h⟩
  · have h := h.2 z1
    refine g_aload_n 0 e_Mo_image_272 rfl rfl ?_
    refine gf_Mo_220 rfl e_Mo_image_273 hw lay_115 (by decide) (sh_Mo_imageBookThing hw) ?_
    refine g_iload_n 1 e_Mo_image_276 rfl rfl ?_
    refine g_aload_n 0 e_Mo_image_277 rfl rfl ?_
    refine gf_Mo_151 rfl e_Mo_image_278 hw lay_115 (by decide) (sh_Mo_bookThing hw) ?_
    refine g_iload_n 1 e_Mo_image_281 rfl rfl ?_
    obtain ⟨o2, h⟩ := h
    refine w_iaload ((l1).toNatClampNeg) e_Mo_image_282 hw lay_141 (by decide) o2 rfl ?_
    obtain ⟨o3, h⟩ := h
    refine w_iastore ((l1).toNatClampNeg) e_Mo_image_283 hw lay_154 (by decide) o3 rfl ?_
    refine g_aload_n 0 e_Mo_image_284 rfl rfl ?_
    refine gf_Mo_223 rfl e_Mo_image_285 hw lay_115 (by decide) (sh_Mo_imageBookWeight hw) ?_
    refine g_iload_n 1 e_Mo_image_288 rfl rfl ?_
    refine g_aload_n 0 e_Mo_image_289 rfl rfl ?_
    refine gf_Mo_154 rfl e_Mo_image_290 hw lay_115 (by decide) (sh_Mo_bookWeight hw) ?_
    refine g_iload_n 1 e_Mo_image_293 rfl rfl ?_
    obtain ⟨o4, h⟩ := h
    refine w_iaload ((l1).toNatClampNeg) e_Mo_image_294 hw lay_142 (by decide) o4 rfl ?_
    obtain ⟨o5, h⟩ := h
    refine w_iastore ((l1).toNatClampNeg) e_Mo_image_295 hw lay_155 (by decide) o5 rfl ?_
    refine g_iinc (v := (l1 + 1)) (lv := [(1, .int (l1 + 1)), (0, .ref (qb E + 115))]) 1 e_Mo_image_296 rfl rfl (by decide) rfl ?_
    refine g_goto 266 e_Mo_image_299 (by decide) ?_
    refine g_loc [1, 0] rfl ?_
    exact h
theorem en_Mo_image {d : Nat} {E : qE} {Q : qW → Int32 → Prop} {w : qW} (hw : Sh w) (h : c_Mo_image_0 d E Q  w) : CaI d M_Mo_image [.ref (qb E + 115)] E w Q := Ca.into hw rfl (Nat.le_of_ble_eq_true rfl) h
def c_Mo_undo_0 (d : Nat) (E : qE) (Q : qW → Int32 → Prop) (w : qW) : Prop := Go d M_Mo_undo E 161 161 (qFI Q) 0 [(0, .ref (qb E + 115))] [] w
def c_Mo_undo_84 (d : Nat) (E : qE) (Q : qW → Int32 → Prop) (l1 : Int32) (w : qW) : Prop := Go d M_Mo_undo E 161 161 (qFI Q) 84 [(0, .ref (qb E + 115)), (1, .int l1)] [] w
def c_Mo_undo_170 (d : Nat) (E : qE) (Q : qW → Int32 → Prop) (l1 : Int32) (w : qW) : Prop := Go d M_Mo_undo E 161 161 (qFI Q) 170 [(0, .ref (qb E + 115)), (1, .int l1)] [] w
def c_Mo_undo_196 (d : Nat) (E : qE) (Q : qW → Int32 → Prop) (l1 : Int32) (w : qW) : Prop := Go d M_Mo_undo E 161 161 (qFI Q) 196 [(0, .ref (qb E + 115)), (1, .int l1)] [] w
def c_Mo_undo_233 (d : Nat) (E : qE) (Q : qW → Int32 → Prop) (l1 : Int32) (w : qW) : Prop := Go d M_Mo_undo E 161 161 (qFI Q) 233 [(0, .ref (qb E + 115)), (1, .int l1)] [] w
def c_Mo_undo_271 (d : Nat) (E : qE) (Q : qW → Int32 → Prop) (l1 : Int32) (w : qW) : Prop := Go d M_Mo_undo E 161 161 (qFI Q) 271 [(0, .ref (qb E + 115)), (1, .int l1)] [] w
set_option maxHeartbeats 4000000 in
set_option maxRecDepth 8000 in
theorem s_Mo_undo_0 {d : Nat} {E : qE} {Q : qW → Int32 → Prop} {w : qW} (hw : Sh w) (h : ((¬ (qz (qi w 115 48)) = 0) → (c_Mo_undo_84 d E Q 0 (qpi (qpi (qpi (qpi (qpi (qpi (qpi (qpi (qpi w 115 13 (qi w 115 50)) 115 0 (qi (qpi w 115 13 (qi w 115 50)) 115 51)) 115 1 (qi (qpi (qpi w 115 13 (qi w 115 50)) 115 0 (qi (qpi w 115 13 (qi w 115 50)) 115 51)) 115 52)) 115 2 (qi (qpi (qpi (qpi w 115 13 (qi w 115 50)) 115 0 (qi (qpi w 115 13 (qi w 115 50)) 115 51)) 115 1 (qi (qpi (qpi w 115 13 (qi w 115 50)) 115 0 (qi (qpi w 115 13 (qi w 115 50)) 115 51)) 115 52)) 115 53)) 115 4 (qz (qi (qpi (qpi (qpi (qpi w 115 13 (qi w 115 50)) 115 0 (qi (qpi w 115 13 (qi w 115 50)) 115 51)) 115 1 (qi (qpi (qpi w 115 13 (qi w 115 50)) 115 0 (qi (qpi w 115 13 (qi w 115 50)) 115 51)) 115 52)) 115 2 (qi (qpi (qpi (qpi w 115 13 (qi w 115 50)) 115 0 (qi (qpi w 115 13 (qi w 115 50)) 115 51)) 115 1 (qi (qpi (qpi w 115 13 (qi w 115 50)) 115 0 (qi (qpi w 115 13 (qi w 115 50)) 115 51)) 115 52)) 115 53)) 115 49))) 115 3 (qi (qpi (qpi (qpi (qpi (qpi w 115 13 (qi w 115 50)) 115 0 (qi (qpi w 115 13 (qi w 115 50)) 115 51)) 115 1 (qi (qpi (qpi w 115 13 (qi w 115 50)) 115 0 (qi (qpi w 115 13 (qi w 115 50)) 115 51)) 115 52)) 115 2 (qi (qpi (qpi (qpi w 115 13 (qi w 115 50)) 115 0 (qi (qpi w 115 13 (qi w 115 50)) 115 51)) 115 1 (qi (qpi (qpi w 115 13 (qi w 115 50)) 115 0 (qi (qpi w 115 13 (qi w 115 50)) 115 51)) 115 52)) 115 53)) 115 4 (qz (qi (qpi (qpi (qpi (qpi w 115 13 (qi w 115 50)) 115 0 (qi (qpi w 115 13 (qi w 115 50)) 115 51)) 115 1 (qi (qpi (qpi w 115 13 (qi w 115 50)) 115 0 (qi (qpi w 115 13 (qi w 115 50)) 115 51)) 115 52)) 115 2 (qi (qpi (qpi (qpi w 115 13 (qi w 115 50)) 115 0 (qi (qpi w 115 13 (qi w 115 50)) 115 51)) 115 1 (qi (qpi (qpi w 115 13 (qi w 115 50)) 115 0 (qi (qpi w 115 13 (qi w 115 50)) 115 51)) 115 52)) 115 53)) 115 49))) 115 54)) 115 39 (qi (qpi (qpi (qpi (qpi (qpi (qpi w 115 13 (qi w 115 50)) 115 0 (qi (qpi w 115 13 (qi w 115 50)) 115 51)) 115 1 (qi (qpi (qpi w 115 13 (qi w 115 50)) 115 0 (qi (qpi w 115 13 (qi w 115 50)) 115 51)) 115 52)) 115 2 (qi (qpi (qpi (qpi w 115 13 (qi w 115 50)) 115 0 (qi (qpi w 115 13 (qi w 115 50)) 115 51)) 115 1 (qi (qpi (qpi w 115 13 (qi w 115 50)) 115 0 (qi (qpi w 115 13 (qi w 115 50)) 115 51)) 115 52)) 115 53)) 115 4 (qz (qi (qpi (qpi (qpi (qpi w 115 13 (qi w 115 50)) 115 0 (qi (qpi w 115 13 (qi w 115 50)) 115 51)) 115 1 (qi (qpi (qpi w 115 13 (qi w 115 50)) 115 0 (qi (qpi w 115 13 (qi w 115 50)) 115 51)) 115 52)) 115 2 (qi (qpi (qpi (qpi w 115 13 (qi w 115 50)) 115 0 (qi (qpi w 115 13 (qi w 115 50)) 115 51)) 115 1 (qi (qpi (qpi w 115 13 (qi w 115 50)) 115 0 (qi (qpi w 115 13 (qi w 115 50)) 115 51)) 115 52)) 115 53)) 115 49))) 115 3 (qi (qpi (qpi (qpi (qpi (qpi w 115 13 (qi w 115 50)) 115 0 (qi (qpi w 115 13 (qi w 115 50)) 115 51)) 115 1 (qi (qpi (qpi w 115 13 (qi w 115 50)) 115 0 (qi (qpi w 115 13 (qi w 115 50)) 115 51)) 115 52)) 115 2 (qi (qpi (qpi (qpi w 115 13 (qi w 115 50)) 115 0 (qi (qpi w 115 13 (qi w 115 50)) 115 51)) 115 1 (qi (qpi (qpi w 115 13 (qi w 115 50)) 115 0 (qi (qpi w 115 13 (qi w 115 50)) 115 51)) 115 52)) 115 53)) 115 4 (qz (qi (qpi (qpi (qpi (qpi w 115 13 (qi w 115 50)) 115 0 (qi (qpi w 115 13 (qi w 115 50)) 115 51)) 115 1 (qi (qpi (qpi w 115 13 (qi w 115 50)) 115 0 (qi (qpi w 115 13 (qi w 115 50)) 115 51)) 115 52)) 115 2 (qi (qpi (qpi (qpi w 115 13 (qi w 115 50)) 115 0 (qi (qpi w 115 13 (qi w 115 50)) 115 51)) 115 1 (qi (qpi (qpi w 115 13 (qi w 115 50)) 115 0 (qi (qpi w 115 13 (qi w 115 50)) 115 51)) 115 52)) 115 53)) 115 49))) 115 54)) 115 55)) 115 42 (qi (qpi (qpi (qpi (qpi (qpi (qpi (qpi w 115 13 (qi w 115 50)) 115 0 (qi (qpi w 115 13 (qi w 115 50)) 115 51)) 115 1 (qi (qpi (qpi w 115 13 (qi w 115 50)) 115 0 (qi (qpi w 115 13 (qi w 115 50)) 115 51)) 115 52)) 115 2 (qi (qpi (qpi (qpi w 115 13 (qi w 115 50)) 115 0 (qi (qpi w 115 13 (qi w 115 50)) 115 51)) 115 1 (qi (qpi (qpi w 115 13 (qi w 115 50)) 115 0 (qi (qpi w 115 13 (qi w 115 50)) 115 51)) 115 52)) 115 53)) 115 4 (qz (qi (qpi (qpi (qpi (qpi w 115 13 (qi w 115 50)) 115 0 (qi (qpi w 115 13 (qi w 115 50)) 115 51)) 115 1 (qi (qpi (qpi w 115 13 (qi w 115 50)) 115 0 (qi (qpi w 115 13 (qi w 115 50)) 115 51)) 115 52)) 115 2 (qi (qpi (qpi (qpi w 115 13 (qi w 115 50)) 115 0 (qi (qpi w 115 13 (qi w 115 50)) 115 51)) 115 1 (qi (qpi (qpi w 115 13 (qi w 115 50)) 115 0 (qi (qpi w 115 13 (qi w 115 50)) 115 51)) 115 52)) 115 53)) 115 49))) 115 3 (qi (qpi (qpi (qpi (qpi (qpi w 115 13 (qi w 115 50)) 115 0 (qi (qpi w 115 13 (qi w 115 50)) 115 51)) 115 1 (qi (qpi (qpi w 115 13 (qi w 115 50)) 115 0 (qi (qpi w 115 13 (qi w 115 50)) 115 51)) 115 52)) 115 2 (qi (qpi (qpi (qpi w 115 13 (qi w 115 50)) 115 0 (qi (qpi w 115 13 (qi w 115 50)) 115 51)) 115 1 (qi (qpi (qpi w 115 13 (qi w 115 50)) 115 0 (qi (qpi w 115 13 (qi w 115 50)) 115 51)) 115 52)) 115 53)) 115 4 (qz (qi (qpi (qpi (qpi (qpi w 115 13 (qi w 115 50)) 115 0 (qi (qpi w 115 13 (qi w 115 50)) 115 51)) 115 1 (qi (qpi (qpi w 115 13 (qi w 115 50)) 115 0 (qi (qpi w 115 13 (qi w 115 50)) 115 51)) 115 52)) 115 2 (qi (qpi (qpi (qpi w 115 13 (qi w 115 50)) 115 0 (qi (qpi w 115 13 (qi w 115 50)) 115 51)) 115 1 (qi (qpi (qpi w 115 13 (qi w 115 50)) 115 0 (qi (qpi w 115 13 (qi w 115 50)) 115 51)) 115 52)) 115 53)) 115 49))) 115 54)) 115 39 (qi (qpi (qpi (qpi (qpi (qpi (qpi w 115 13 (qi w 115 50)) 115 0 (qi (qpi w 115 13 (qi w 115 50)) 115 51)) 115 1 (qi (qpi (qpi w 115 13 (qi w 115 50)) 115 0 (qi (qpi w 115 13 (qi w 115 50)) 115 51)) 115 52)) 115 2 (qi (qpi (qpi (qpi w 115 13 (qi w 115 50)) 115 0 (qi (qpi w 115 13 (qi w 115 50)) 115 51)) 115 1 (qi (qpi (qpi w 115 13 (qi w 115 50)) 115 0 (qi (qpi w 115 13 (qi w 115 50)) 115 51)) 115 52)) 115 53)) 115 4 (qz (qi (qpi (qpi (qpi (qpi w 115 13 (qi w 115 50)) 115 0 (qi (qpi w 115 13 (qi w 115 50)) 115 51)) 115 1 (qi (qpi (qpi w 115 13 (qi w 115 50)) 115 0 (qi (qpi w 115 13 (qi w 115 50)) 115 51)) 115 52)) 115 2 (qi (qpi (qpi (qpi w 115 13 (qi w 115 50)) 115 0 (qi (qpi w 115 13 (qi w 115 50)) 115 51)) 115 1 (qi (qpi (qpi w 115 13 (qi w 115 50)) 115 0 (qi (qpi w 115 13 (qi w 115 50)) 115 51)) 115 52)) 115 53)) 115 49))) 115 3 (qi (qpi (qpi (qpi (qpi (qpi w 115 13 (qi w 115 50)) 115 0 (qi (qpi w 115 13 (qi w 115 50)) 115 51)) 115 1 (qi (qpi (qpi w 115 13 (qi w 115 50)) 115 0 (qi (qpi w 115 13 (qi w 115 50)) 115 51)) 115 52)) 115 2 (qi (qpi (qpi (qpi w 115 13 (qi w 115 50)) 115 0 (qi (qpi w 115 13 (qi w 115 50)) 115 51)) 115 1 (qi (qpi (qpi w 115 13 (qi w 115 50)) 115 0 (qi (qpi w 115 13 (qi w 115 50)) 115 51)) 115 52)) 115 53)) 115 4 (qz (qi (qpi (qpi (qpi (qpi w 115 13 (qi w 115 50)) 115 0 (qi (qpi w 115 13 (qi w 115 50)) 115 51)) 115 1 (qi (qpi (qpi w 115 13 (qi w 115 50)) 115 0 (qi (qpi w 115 13 (qi w 115 50)) 115 51)) 115 52)) 115 2 (qi (qpi (qpi (qpi w 115 13 (qi w 115 50)) 115 0 (qi (qpi w 115 13 (qi w 115 50)) 115 51)) 115 1 (qi (qpi (qpi w 115 13 (qi w 115 50)) 115 0 (qi (qpi w 115 13 (qi w 115 50)) 115 51)) 115 52)) 115 53)) 115 49))) 115 54)) 115 55)) 115 56)) 115 43 (qi (qpi (qpi (qpi (qpi (qpi (qpi (qpi (qpi w 115 13 (qi w 115 50)) 115 0 (qi (qpi w 115 13 (qi w 115 50)) 115 51)) 115 1 (qi (qpi (qpi w 115 13 (qi w 115 50)) 115 0 (qi (qpi w 115 13 (qi w 115 50)) 115 51)) 115 52)) 115 2 (qi (qpi (qpi (qpi w 115 13 (qi w 115 50)) 115 0 (qi (qpi w 115 13 (qi w 115 50)) 115 51)) 115 1 (qi (qpi (qpi w 115 13 (qi w 115 50)) 115 0 (qi (qpi w 115 13 (qi w 115 50)) 115 51)) 115 52)) 115 53)) 115 4 (qz (qi (qpi (qpi (qpi (qpi w 115 13 (qi w 115 50)) 115 0 (qi (qpi w 115 13 (qi w 115 50)) 115 51)) 115 1 (qi (qpi (qpi w 115 13 (qi w 115 50)) 115 0 (qi (qpi w 115 13 (qi w 115 50)) 115 51)) 115 52)) 115 2 (qi (qpi (qpi (qpi w 115 13 (qi w 115 50)) 115 0 (qi (qpi w 115 13 (qi w 115 50)) 115 51)) 115 1 (qi (qpi (qpi w 115 13 (qi w 115 50)) 115 0 (qi (qpi w 115 13 (qi w 115 50)) 115 51)) 115 52)) 115 53)) 115 49))) 115 3 (qi (qpi (qpi (qpi (qpi (qpi w 115 13 (qi w 115 50)) 115 0 (qi (qpi w 115 13 (qi w 115 50)) 115 51)) 115 1 (qi (qpi (qpi w 115 13 (qi w 115 50)) 115 0 (qi (qpi w 115 13 (qi w 115 50)) 115 51)) 115 52)) 115 2 (qi (qpi (qpi (qpi w 115 13 (qi w 115 50)) 115 0 (qi (qpi w 115 13 (qi w 115 50)) 115 51)) 115 1 (qi (qpi (qpi w 115 13 (qi w 115 50)) 115 0 (qi (qpi w 115 13 (qi w 115 50)) 115 51)) 115 52)) 115 53)) 115 4 (qz (qi (qpi (qpi (qpi (qpi w 115 13 (qi w 115 50)) 115 0 (qi (qpi w 115 13 (qi w 115 50)) 115 51)) 115 1 (qi (qpi (qpi w 115 13 (qi w 115 50)) 115 0 (qi (qpi w 115 13 (qi w 115 50)) 115 51)) 115 52)) 115 2 (qi (qpi (qpi (qpi w 115 13 (qi w 115 50)) 115 0 (qi (qpi w 115 13 (qi w 115 50)) 115 51)) 115 1 (qi (qpi (qpi w 115 13 (qi w 115 50)) 115 0 (qi (qpi w 115 13 (qi w 115 50)) 115 51)) 115 52)) 115 53)) 115 49))) 115 54)) 115 39 (qi (qpi (qpi (qpi (qpi (qpi (qpi w 115 13 (qi w 115 50)) 115 0 (qi (qpi w 115 13 (qi w 115 50)) 115 51)) 115 1 (qi (qpi (qpi w 115 13 (qi w 115 50)) 115 0 (qi (qpi w 115 13 (qi w 115 50)) 115 51)) 115 52)) 115 2 (qi (qpi (qpi (qpi w 115 13 (qi w 115 50)) 115 0 (qi (qpi w 115 13 (qi w 115 50)) 115 51)) 115 1 (qi (qpi (qpi w 115 13 (qi w 115 50)) 115 0 (qi (qpi w 115 13 (qi w 115 50)) 115 51)) 115 52)) 115 53)) 115 4 (qz (qi (qpi (qpi (qpi (qpi w 115 13 (qi w 115 50)) 115 0 (qi (qpi w 115 13 (qi w 115 50)) 115 51)) 115 1 (qi (qpi (qpi w 115 13 (qi w 115 50)) 115 0 (qi (qpi w 115 13 (qi w 115 50)) 115 51)) 115 52)) 115 2 (qi (qpi (qpi (qpi w 115 13 (qi w 115 50)) 115 0 (qi (qpi w 115 13 (qi w 115 50)) 115 51)) 115 1 (qi (qpi (qpi w 115 13 (qi w 115 50)) 115 0 (qi (qpi w 115 13 (qi w 115 50)) 115 51)) 115 52)) 115 53)) 115 49))) 115 3 (qi (qpi (qpi (qpi (qpi (qpi w 115 13 (qi w 115 50)) 115 0 (qi (qpi w 115 13 (qi w 115 50)) 115 51)) 115 1 (qi (qpi (qpi w 115 13 (qi w 115 50)) 115 0 (qi (qpi w 115 13 (qi w 115 50)) 115 51)) 115 52)) 115 2 (qi (qpi (qpi (qpi w 115 13 (qi w 115 50)) 115 0 (qi (qpi w 115 13 (qi w 115 50)) 115 51)) 115 1 (qi (qpi (qpi w 115 13 (qi w 115 50)) 115 0 (qi (qpi w 115 13 (qi w 115 50)) 115 51)) 115 52)) 115 53)) 115 4 (qz (qi (qpi (qpi (qpi (qpi w 115 13 (qi w 115 50)) 115 0 (qi (qpi w 115 13 (qi w 115 50)) 115 51)) 115 1 (qi (qpi (qpi w 115 13 (qi w 115 50)) 115 0 (qi (qpi w 115 13 (qi w 115 50)) 115 51)) 115 52)) 115 2 (qi (qpi (qpi (qpi w 115 13 (qi w 115 50)) 115 0 (qi (qpi w 115 13 (qi w 115 50)) 115 51)) 115 1 (qi (qpi (qpi w 115 13 (qi w 115 50)) 115 0 (qi (qpi w 115 13 (qi w 115 50)) 115 51)) 115 52)) 115 53)) 115 49))) 115 54)) 115 55)) 115 42 (qi (qpi (qpi (qpi (qpi (qpi (qpi (qpi w 115 13 (qi w 115 50)) 115 0 (qi (qpi w 115 13 (qi w 115 50)) 115 51)) 115 1 (qi (qpi (qpi w 115 13 (qi w 115 50)) 115 0 (qi (qpi w 115 13 (qi w 115 50)) 115 51)) 115 52)) 115 2 (qi (qpi (qpi (qpi w 115 13 (qi w 115 50)) 115 0 (qi (qpi w 115 13 (qi w 115 50)) 115 51)) 115 1 (qi (qpi (qpi w 115 13 (qi w 115 50)) 115 0 (qi (qpi w 115 13 (qi w 115 50)) 115 51)) 115 52)) 115 53)) 115 4 (qz (qi (qpi (qpi (qpi (qpi w 115 13 (qi w 115 50)) 115 0 (qi (qpi w 115 13 (qi w 115 50)) 115 51)) 115 1 (qi (qpi (qpi w 115 13 (qi w 115 50)) 115 0 (qi (qpi w 115 13 (qi w 115 50)) 115 51)) 115 52)) 115 2 (qi (qpi (qpi (qpi w 115 13 (qi w 115 50)) 115 0 (qi (qpi w 115 13 (qi w 115 50)) 115 51)) 115 1 (qi (qpi (qpi w 115 13 (qi w 115 50)) 115 0 (qi (qpi w 115 13 (qi w 115 50)) 115 51)) 115 52)) 115 53)) 115 49))) 115 3 (qi (qpi (qpi (qpi (qpi (qpi w 115 13 (qi w 115 50)) 115 0 (qi (qpi w 115 13 (qi w 115 50)) 115 51)) 115 1 (qi (qpi (qpi w 115 13 (qi w 115 50)) 115 0 (qi (qpi w 115 13 (qi w 115 50)) 115 51)) 115 52)) 115 2 (qi (qpi (qpi (qpi w 115 13 (qi w 115 50)) 115 0 (qi (qpi w 115 13 (qi w 115 50)) 115 51)) 115 1 (qi (qpi (qpi w 115 13 (qi w 115 50)) 115 0 (qi (qpi w 115 13 (qi w 115 50)) 115 51)) 115 52)) 115 53)) 115 4 (qz (qi (qpi (qpi (qpi (qpi w 115 13 (qi w 115 50)) 115 0 (qi (qpi w 115 13 (qi w 115 50)) 115 51)) 115 1 (qi (qpi (qpi w 115 13 (qi w 115 50)) 115 0 (qi (qpi w 115 13 (qi w 115 50)) 115 51)) 115 52)) 115 2 (qi (qpi (qpi (qpi w 115 13 (qi w 115 50)) 115 0 (qi (qpi w 115 13 (qi w 115 50)) 115 51)) 115 1 (qi (qpi (qpi w 115 13 (qi w 115 50)) 115 0 (qi (qpi w 115 13 (qi w 115 50)) 115 51)) 115 52)) 115 53)) 115 49))) 115 54)) 115 39 (qi (qpi (qpi (qpi (qpi (qpi (qpi w 115 13 (qi w 115 50)) 115 0 (qi (qpi w 115 13 (qi w 115 50)) 115 51)) 115 1 (qi (qpi (qpi w 115 13 (qi w 115 50)) 115 0 (qi (qpi w 115 13 (qi w 115 50)) 115 51)) 115 52)) 115 2 (qi (qpi (qpi (qpi w 115 13 (qi w 115 50)) 115 0 (qi (qpi w 115 13 (qi w 115 50)) 115 51)) 115 1 (qi (qpi (qpi w 115 13 (qi w 115 50)) 115 0 (qi (qpi w 115 13 (qi w 115 50)) 115 51)) 115 52)) 115 53)) 115 4 (qz (qi (qpi (qpi (qpi (qpi w 115 13 (qi w 115 50)) 115 0 (qi (qpi w 115 13 (qi w 115 50)) 115 51)) 115 1 (qi (qpi (qpi w 115 13 (qi w 115 50)) 115 0 (qi (qpi w 115 13 (qi w 115 50)) 115 51)) 115 52)) 115 2 (qi (qpi (qpi (qpi w 115 13 (qi w 115 50)) 115 0 (qi (qpi w 115 13 (qi w 115 50)) 115 51)) 115 1 (qi (qpi (qpi w 115 13 (qi w 115 50)) 115 0 (qi (qpi w 115 13 (qi w 115 50)) 115 51)) 115 52)) 115 53)) 115 49))) 115 3 (qi (qpi (qpi (qpi (qpi (qpi w 115 13 (qi w 115 50)) 115 0 (qi (qpi w 115 13 (qi w 115 50)) 115 51)) 115 1 (qi (qpi (qpi w 115 13 (qi w 115 50)) 115 0 (qi (qpi w 115 13 (qi w 115 50)) 115 51)) 115 52)) 115 2 (qi (qpi (qpi (qpi w 115 13 (qi w 115 50)) 115 0 (qi (qpi w 115 13 (qi w 115 50)) 115 51)) 115 1 (qi (qpi (qpi w 115 13 (qi w 115 50)) 115 0 (qi (qpi w 115 13 (qi w 115 50)) 115 51)) 115 52)) 115 53)) 115 4 (qz (qi (qpi (qpi (qpi (qpi w 115 13 (qi w 115 50)) 115 0 (qi (qpi w 115 13 (qi w 115 50)) 115 51)) 115 1 (qi (qpi (qpi w 115 13 (qi w 115 50)) 115 0 (qi (qpi w 115 13 (qi w 115 50)) 115 51)) 115 52)) 115 2 (qi (qpi (qpi (qpi w 115 13 (qi w 115 50)) 115 0 (qi (qpi w 115 13 (qi w 115 50)) 115 51)) 115 1 (qi (qpi (qpi w 115 13 (qi w 115 50)) 115 0 (qi (qpi w 115 13 (qi w 115 50)) 115 51)) 115 52)) 115 53)) 115 49))) 115 54)) 115 55)) 115 56)) 115 57)))) ∧ (((qz (qi w 115 48)) = 0) → (Q w (-3)))) : c_Mo_undo_0 d E Q  w := by
  unfold c_Mo_undo_0
  refine g_aload_n 0 e_Mo_undo_0 rfl rfl ?_
  refine gf_Mo_157 rfl e_Mo_undo_1 hw lay_115 (by decide) ?_
  refine g_if_ne 10 e_Mo_undo_4 (by decide) ⟨fun z1 => ?_, fun z1 => ?_⟩
  · have h := h.1 z1
    refine g_aload_n 0 e_Mo_undo_10 rfl rfl ?_
    refine g_aload_n 0 e_Mo_undo_11 rfl rfl ?_
    refine gf_Mo_163 rfl e_Mo_undo_12 hw lay_115 (by decide) ?_
    refine pf_Mo_51 rfl e_Mo_undo_15 hw lay_115 (by decide) ?_
    refine g_aload_n 0 e_Mo_undo_18 rfl rfl ?_
    refine g_aload_n 0 e_Mo_undo_19 rfl rfl ?_
    refine gf_Mo_166 rfl e_Mo_undo_20 hw lay_115 (by decide) ?_
    refine pf_Mo_7 rfl e_Mo_undo_23 hw lay_115 (by decide) ?_
    refine g_aload_n 0 e_Mo_undo_26 rfl rfl ?_
    refine g_aload_n 0 e_Mo_undo_27 rfl rfl ?_
    refine gf_Mo_169 rfl e_Mo_undo_28 hw lay_115 (by decide) ?_
    refine pf_Mo_13 rfl e_Mo_undo_31 hw lay_115 (by decide) ?_
    refine g_aload_n 0 e_Mo_undo_34 rfl rfl ?_
    refine g_aload_n 0 e_Mo_undo_35 rfl rfl ?_
    refine gf_Mo_172 rfl e_Mo_undo_36 hw lay_115 (by decide) ?_
    refine pf_Mo_16 rfl e_Mo_undo_39 hw lay_115 (by decide) ?_
    refine g_aload_n 0 e_Mo_undo_42 rfl rfl ?_
    refine g_aload_n 0 e_Mo_undo_43 rfl rfl ?_
    refine gf_Mo_160 rfl e_Mo_undo_44 hw lay_115 (by decide) ?_
    refine pf_Mo_22 rfl e_Mo_undo_47 hw lay_115 (by decide) (qz_01 _) ?_
    refine g_aload_n 0 e_Mo_undo_50 rfl rfl ?_
    refine g_aload_n 0 e_Mo_undo_51 rfl rfl ?_
    refine gf_Mo_175 rfl e_Mo_undo_52 hw lay_115 (by decide) ?_
    refine pf_Mo_19 rfl e_Mo_undo_55 hw lay_115 (by decide) ?_
    refine g_aload_n 0 e_Mo_undo_58 rfl rfl ?_
    refine g_aload_n 0 e_Mo_undo_59 rfl rfl ?_
    refine gf_Mo_178 rfl e_Mo_undo_60 hw lay_115 (by decide) ?_
    refine pf_Mo_130 rfl e_Mo_undo_63 hw lay_115 (by decide) ?_
    refine g_aload_n 0 e_Mo_undo_66 rfl rfl ?_
    refine g_aload_n 0 e_Mo_undo_67 rfl rfl ?_
    refine gf_Mo_181 rfl e_Mo_undo_68 hw lay_115 (by decide) ?_
    refine pf_Mo_139 rfl e_Mo_undo_71 hw lay_115 (by decide) ?_
    refine g_aload_n 0 e_Mo_undo_74 rfl rfl ?_
    refine g_aload_n 0 e_Mo_undo_75 rfl rfl ?_
    refine gf_Mo_184 rfl e_Mo_undo_76 hw lay_115 (by decide) ?_
    refine pf_Mo_142 rfl e_Mo_undo_79 hw lay_115 (by decide) ?_
    refine g_iconst (v := 0) e_Mo_undo_82 (by decide) ?_
    refine g_istore_n (lv := [(1, .int 0), (0, .ref (qb E + 115))]) e_Mo_undo_83 rfl (by decide) rfl ?_
    refine g_loc [1, 0] rfl ?_
    exact h
  · have h := h.2 z1
    refine g_bipush (v := (-3)) e_Mo_undo_7 (by decide) ?_
    exact g_iret e_Mo_undo_9 rfl ⟨Sh.n hw, _, rfl, hw, h⟩
set_option maxHeartbeats 4000000 in
set_option maxRecDepth 8000 in
theorem s_Mo_undo_84 {d : Nat} {E : qE} {Q : qW → Int32 → Prop} {l1 : Int32} {w : qW} (hw : Sh w) (h : ((6 ≤ l1) → (c_Mo_undo_170 d E Q 0 w)) ∧ ((¬ 6 ≤ l1) → (vp_in l1 6 ∧ (vp_in l1 6 ∧ (vp_in l1 6 ∧ (vp_in l1 6 ∧ (vp_in l1 6 ∧ (vp_in l1 6 ∧ (vp_in l1 6 ∧ (vp_in l1 6 ∧ (vp_in l1 6 ∧ (vp_in l1 6 ∧ (vp_in l1 6 ∧ (vp_in l1 6 ∧ (c_Mo_undo_84 d E Q (l1 + 1) (qpi (qpi (qpi (qpi (qpi (qpi w 116 ((l1).toNatClampNeg) (qi w 143 ((l1).toNatClampNeg))) 117 ((l1).toNatClampNeg) (qi (qpi w 116 ((l1).toNatClampNeg) (qi w 143 ((l1).toNatClampNeg))) 144 ((l1).toNatClampNeg))) 118 ((l1).toNatClampNeg) (qi (qpi (qpi w 116 ((l1).toNatClampNeg) (qi w 143 ((l1).toNatClampNeg))) 117 ((l1).toNatClampNeg) (qi (qpi w 116 ((l1).toNatClampNeg) (qi w 143 ((l1).toNatClampNeg))) 144 ((l1).toNatClampNeg))) 145 ((l1).toNatClampNeg))) 119 ((l1).toNatClampNeg) (qi (qpi (qpi (qpi w 116 ((l1).toNatClampNeg) (qi w 143 ((l1).toNatClampNeg))) 117 ((l1).toNatClampNeg) (qi (qpi w 116 ((l1).toNatClampNeg) (qi w 143 ((l1).toNatClampNeg))) 144 ((l1).toNatClampNeg))) 118 ((l1).toNatClampNeg) (qi (qpi (qpi w 116 ((l1).toNatClampNeg) (qi w 143 ((l1).toNatClampNeg))) 117 ((l1).toNatClampNeg) (qi (qpi w 116 ((l1).toNatClampNeg) (qi w 143 ((l1).toNatClampNeg))) 144 ((l1).toNatClampNeg))) 145 ((l1).toNatClampNeg))) 146 ((l1).toNatClampNeg))) 120 ((l1).toNatClampNeg) (qi (qpi (qpi (qpi (qpi w 116 ((l1).toNatClampNeg) (qi w 143 ((l1).toNatClampNeg))) 117 ((l1).toNatClampNeg) (qi (qpi w 116 ((l1).toNatClampNeg) (qi w 143 ((l1).toNatClampNeg))) 144 ((l1).toNatClampNeg))) 118 ((l1).toNatClampNeg) (qi (qpi (qpi w 116 ((l1).toNatClampNeg) (qi w 143 ((l1).toNatClampNeg))) 117 ((l1).toNatClampNeg) (qi (qpi w 116 ((l1).toNatClampNeg) (qi w 143 ((l1).toNatClampNeg))) 144 ((l1).toNatClampNeg))) 145 ((l1).toNatClampNeg))) 119 ((l1).toNatClampNeg) (qi (qpi (qpi (qpi w 116 ((l1).toNatClampNeg) (qi w 143 ((l1).toNatClampNeg))) 117 ((l1).toNatClampNeg) (qi (qpi w 116 ((l1).toNatClampNeg) (qi w 143 ((l1).toNatClampNeg))) 144 ((l1).toNatClampNeg))) 118 ((l1).toNatClampNeg) (qi (qpi (qpi w 116 ((l1).toNatClampNeg) (qi w 143 ((l1).toNatClampNeg))) 117 ((l1).toNatClampNeg) (qi (qpi w 116 ((l1).toNatClampNeg) (qi w 143 ((l1).toNatClampNeg))) 144 ((l1).toNatClampNeg))) 145 ((l1).toNatClampNeg))) 146 ((l1).toNatClampNeg))) 147 ((l1).toNatClampNeg))) 121 ((l1).toNatClampNeg) (qi (qpi (qpi (qpi (qpi (qpi w 116 ((l1).toNatClampNeg) (qi w 143 ((l1).toNatClampNeg))) 117 ((l1).toNatClampNeg) (qi (qpi w 116 ((l1).toNatClampNeg) (qi w 143 ((l1).toNatClampNeg))) 144 ((l1).toNatClampNeg))) 118 ((l1).toNatClampNeg) (qi (qpi (qpi w 116 ((l1).toNatClampNeg) (qi w 143 ((l1).toNatClampNeg))) 117 ((l1).toNatClampNeg) (qi (qpi w 116 ((l1).toNatClampNeg) (qi w 143 ((l1).toNatClampNeg))) 144 ((l1).toNatClampNeg))) 145 ((l1).toNatClampNeg))) 119 ((l1).toNatClampNeg) (qi (qpi (qpi (qpi w 116 ((l1).toNatClampNeg) (qi w 143 ((l1).toNatClampNeg))) 117 ((l1).toNatClampNeg) (qi (qpi w 116 ((l1).toNatClampNeg) (qi w 143 ((l1).toNatClampNeg))) 144 ((l1).toNatClampNeg))) 118 ((l1).toNatClampNeg) (qi (qpi (qpi w 116 ((l1).toNatClampNeg) (qi w 143 ((l1).toNatClampNeg))) 117 ((l1).toNatClampNeg) (qi (qpi w 116 ((l1).toNatClampNeg) (qi w 143 ((l1).toNatClampNeg))) 144 ((l1).toNatClampNeg))) 145 ((l1).toNatClampNeg))) 146 ((l1).toNatClampNeg))) 120 ((l1).toNatClampNeg) (qi (qpi (qpi (qpi (qpi w 116 ((l1).toNatClampNeg) (qi w 143 ((l1).toNatClampNeg))) 117 ((l1).toNatClampNeg) (qi (qpi w 116 ((l1).toNatClampNeg) (qi w 143 ((l1).toNatClampNeg))) 144 ((l1).toNatClampNeg))) 118 ((l1).toNatClampNeg) (qi (qpi (qpi w 116 ((l1).toNatClampNeg) (qi w 143 ((l1).toNatClampNeg))) 117 ((l1).toNatClampNeg) (qi (qpi w 116 ((l1).toNatClampNeg) (qi w 143 ((l1).toNatClampNeg))) 144 ((l1).toNatClampNeg))) 145 ((l1).toNatClampNeg))) 119 ((l1).toNatClampNeg) (qi (qpi (qpi (qpi w 116 ((l1).toNatClampNeg) (qi w 143 ((l1).toNatClampNeg))) 117 ((l1).toNatClampNeg) (qi (qpi w 116 ((l1).toNatClampNeg) (qi w 143 ((l1).toNatClampNeg))) 144 ((l1).toNatClampNeg))) 118 ((l1).toNatClampNeg) (qi (qpi (qpi w 116 ((l1).toNatClampNeg) (qi w 143 ((l1).toNatClampNeg))) 117 ((l1).toNatClampNeg) (qi (qpi w 116 ((l1).toNatClampNeg) (qi w 143 ((l1).toNatClampNeg))) 144 ((l1).toNatClampNeg))) 145 ((l1).toNatClampNeg))) 146 ((l1).toNatClampNeg))) 147 ((l1).toNatClampNeg))) 148 ((l1).toNatClampNeg)))))))))))))))))) : c_Mo_undo_84 d E Q l1 w := by
  unfold c_Mo_undo_84
  refine g_iload_n 1 e_Mo_undo_84 rfl rfl ?_
  refine g_bipush (v := 6) e_Mo_undo_85 (by decide) ?_
  refine g_icmp_ge 168 e_Mo_undo_87 (by decide) ⟨fun z1 => ?_, fun z1 => ?_⟩
  · have h := h.1 z1
    refine g_iconst (v := 0) e_Mo_undo_168 (by decide) ?_
    refine g_istore_n (lv := [(1, .int 0), (0, .ref (qb E + 115))]) e_Mo_undo_169 rfl (by decide) rfl ?_
    refine g_loc [1, 0] rfl ?_
    exact h
  · have h := h.2 z1
    refine g_aload_n 0 e_Mo_undo_90 rfl rfl ?_
    refine gf_Mo_26 rfl e_Mo_undo_91 hw lay_115 (by decide) (sh_Mo_kind hw) ?_
    refine g_iload_n 1 e_Mo_undo_94 rfl rfl ?_
    refine g_aload_n 0 e_Mo_undo_95 rfl rfl ?_
    refine gf_Mo_187 rfl e_Mo_undo_96 hw lay_115 (by decide) (sh_Mo_imageKind hw) ?_
    refine g_iload_n 1 e_Mo_undo_99 rfl rfl ?_
    obtain ⟨o2, h⟩ := h
    refine w_iaload ((l1).toNatClampNeg) e_Mo_undo_100 hw lay_143 (by decide) o2 rfl ?_
    obtain ⟨o3, h⟩ := h
    refine w_iastore ((l1).toNatClampNeg) e_Mo_undo_101 hw lay_116 (by decide) o3 rfl ?_
    refine g_aload_n 0 e_Mo_undo_102 rfl rfl ?_
    refine gf_Mo_30 rfl e_Mo_undo_103 hw lay_115 (by decide) (sh_Mo_v hw) ?_
    refine g_iload_n 1 e_Mo_undo_106 rfl rfl ?_
    refine g_aload_n 0 e_Mo_undo_107 rfl rfl ?_
    refine gf_Mo_190 rfl e_Mo_undo_108 hw lay_115 (by decide) (sh_Mo_imageV hw) ?_
    refine g_iload_n 1 e_Mo_undo_111 rfl rfl ?_
    obtain ⟨o4, h⟩ := h
    refine w_iaload ((l1).toNatClampNeg) e_Mo_undo_112 hw lay_144 (by decide) o4 rfl ?_
    obtain ⟨o5, h⟩ := h
    refine w_iastore ((l1).toNatClampNeg) e_Mo_undo_113 hw lay_117 (by decide) o5 rfl ?_
    refine g_aload_n 0 e_Mo_undo_114 rfl rfl ?_
    refine gf_Mo_33 rfl e_Mo_undo_115 hw lay_115 (by decide) (sh_Mo_weight hw) ?_
    refine g_iload_n 1 e_Mo_undo_118 rfl rfl ?_
    refine g_aload_n 0 e_Mo_undo_119 rfl rfl ?_
    refine gf_Mo_193 rfl e_Mo_undo_120 hw lay_115 (by decide) (sh_Mo_imageWeight hw) ?_
    refine g_iload_n 1 e_Mo_undo_123 rfl rfl ?_
    obtain ⟨o6, h⟩ := h
    refine w_iaload ((l1).toNatClampNeg) e_Mo_undo_124 hw lay_145 (by decide) o6 rfl ?_
    obtain ⟨o7, h⟩ := h
    refine w_iastore ((l1).toNatClampNeg) e_Mo_undo_125 hw lay_118 (by decide) o7 rfl ?_
    refine g_aload_n 0 e_Mo_undo_126 rfl rfl ?_
    refine gf_Mo_36 rfl e_Mo_undo_127 hw lay_115 (by decide) (sh_Mo_whose hw) ?_
    refine g_iload_n 1 e_Mo_undo_130 rfl rfl ?_
    refine g_aload_n 0 e_Mo_undo_131 rfl rfl ?_
    refine gf_Mo_196 rfl e_Mo_undo_132 hw lay_115 (by decide) (sh_Mo_imageWhose hw) ?_
    refine g_iload_n 1 e_Mo_undo_135 rfl rfl ?_
    obtain ⟨o8, h⟩ := h
    refine w_iaload ((l1).toNatClampNeg) e_Mo_undo_136 hw lay_146 (by decide) o8 rfl ?_
    obtain ⟨o9, h⟩ := h
    refine w_iastore ((l1).toNatClampNeg) e_Mo_undo_137 hw lay_119 (by decide) o9 rfl ?_
    refine g_aload_n 0 e_Mo_undo_138 rfl rfl ?_
    refine gf_Mo_39 rfl e_Mo_undo_139 hw lay_115 (by decide) (sh_Mo_lies hw) ?_
    refine g_iload_n 1 e_Mo_undo_142 rfl rfl ?_
    refine g_aload_n 0 e_Mo_undo_143 rfl rfl ?_
    refine gf_Mo_199 rfl e_Mo_undo_144 hw lay_115 (by decide) (sh_Mo_imageLies hw) ?_
    refine g_iload_n 1 e_Mo_undo_147 rfl rfl ?_
    obtain ⟨o10, h⟩ := h
    refine w_iaload ((l1).toNatClampNeg) e_Mo_undo_148 hw lay_147 (by decide) o10 rfl ?_
    obtain ⟨o11, h⟩ := h
    refine w_iastore ((l1).toNatClampNeg) e_Mo_undo_149 hw lay_120 (by decide) o11 rfl ?_
    refine g_aload_n 0 e_Mo_undo_150 rfl rfl ?_
    refine gf_Mo_42 rfl e_Mo_undo_151 hw lay_115 (by decide) (sh_Mo_time hw) ?_
    refine g_iload_n 1 e_Mo_undo_154 rfl rfl ?_
    refine g_aload_n 0 e_Mo_undo_155 rfl rfl ?_
    refine gf_Mo_202 rfl e_Mo_undo_156 hw lay_115 (by decide) (sh_Mo_imageTime hw) ?_
    refine g_iload_n 1 e_Mo_undo_159 rfl rfl ?_
    obtain ⟨o12, h⟩ := h
    refine w_iaload ((l1).toNatClampNeg) e_Mo_undo_160 hw lay_148 (by decide) o12 rfl ?_
    obtain ⟨o13, h⟩ := h
    refine w_iastore ((l1).toNatClampNeg) e_Mo_undo_161 hw lay_121 (by decide) o13 rfl ?_
    refine g_iinc (v := (l1 + 1)) (lv := [(1, .int (l1 + 1)), (0, .ref (qb E + 115))]) 1 e_Mo_undo_162 rfl rfl (by decide) rfl ?_
    refine g_goto 84 e_Mo_undo_165 (by decide) ?_
    refine g_loc [1, 0] rfl ?_
    exact h
set_option maxHeartbeats 4000000 in
set_option maxRecDepth 8000 in
theorem s_Mo_undo_170 {d : Nat} {E : qE} {Q : qW → Int32 → Prop} {l1 : Int32} {w : qW} (hw : Sh w) (h : ((24 ≤ l1) → (c_Mo_undo_196 d E Q 0 w)) ∧ ((¬ 24 ≤ l1) → (vp_in l1 24 ∧ (vp_in l1 24 ∧ (c_Mo_undo_170 d E Q (l1 + 1) (qpi w 122 ((l1).toNatClampNeg) (qi w 149 ((l1).toNatClampNeg)))))))) : c_Mo_undo_170 d E Q l1 w := by
  unfold c_Mo_undo_170
  refine g_iload_n 1 e_Mo_undo_170 rfl rfl ?_
  refine g_bipush (v := 24) e_Mo_undo_171 (by decide) ?_
  refine g_icmp_ge 194 e_Mo_undo_173 (by decide) ⟨fun z1 => ?_, fun z1 => ?_⟩
  · have h := h.1 z1
    refine g_iconst (v := 0) e_Mo_undo_194 (by decide) ?_
    refine g_istore_n (lv := [(1, .int 0), (0, .ref (qb E + 115))]) e_Mo_undo_195 rfl (by decide) rfl ?_
    refine g_loc [1, 0] rfl ?_
    exact h
  · have h := h.2 z1
    refine g_aload_n 0 e_Mo_undo_176 rfl rfl ?_
    refine gf_Mo_45 rfl e_Mo_undo_177 hw lay_115 (by decide) (sh_Mo_rows hw) ?_
    refine g_iload_n 1 e_Mo_undo_180 rfl rfl ?_
    refine g_aload_n 0 e_Mo_undo_181 rfl rfl ?_
    refine gf_Mo_205 rfl e_Mo_undo_182 hw lay_115 (by decide) (sh_Mo_imageRows hw) ?_
    refine g_iload_n 1 e_Mo_undo_185 rfl rfl ?_
    obtain ⟨o2, h⟩ := h
    refine w_iaload ((l1).toNatClampNeg) e_Mo_undo_186 hw lay_149 (by decide) o2 rfl ?_
    obtain ⟨o3, h⟩ := h
    refine w_iastore ((l1).toNatClampNeg) e_Mo_undo_187 hw lay_122 (by decide) o3 rfl ?_
    refine g_iinc (v := (l1 + 1)) (lv := [(1, .int (l1 + 1)), (0, .ref (qb E + 115))]) 1 e_Mo_undo_188 rfl rfl (by decide) rfl ?_
    refine g_goto 170 e_Mo_undo_191 (by decide) ?_
    refine g_loc [1, 0] rfl ?_
    exact h
set_option maxHeartbeats 4000000 in
set_option maxRecDepth 8000 in
theorem s_Mo_undo_196 {d : Nat} {E : qE} {Q : qW → Int32 → Prop} {l1 : Int32} {w : qW} (hw : Sh w) (h : ((5 ≤ l1) → (c_Mo_undo_233 d E Q 0 w)) ∧ ((¬ 5 ≤ l1) → (vp_in l1 5 ∧ (vp_in l1 5 ∧ (vp_in l1 5 ∧ (vp_in l1 5 ∧ (c_Mo_undo_196 d E Q (l1 + 1) (qpi (qpi w 137 ((l1).toNatClampNeg) (qi w 150 ((l1).toNatClampNeg))) 138 ((l1).toNatClampNeg) (qi (qpi w 137 ((l1).toNatClampNeg) (qi w 150 ((l1).toNatClampNeg))) 151 ((l1).toNatClampNeg)))))))))) : c_Mo_undo_196 d E Q l1 w := by
  unfold c_Mo_undo_196
  refine g_iload_n 1 e_Mo_undo_196 rfl rfl ?_
  refine g_iconst (v := 5) e_Mo_undo_197 (by decide) ?_
  refine g_icmp_ge 231 e_Mo_undo_198 (by decide) ⟨fun z1 => ?_, fun z1 => ?_⟩
  · have h := h.1 z1
    refine g_iconst (v := 0) e_Mo_undo_231 (by decide) ?_
    refine g_istore_n (lv := [(1, .int 0), (0, .ref (qb E + 115))]) e_Mo_undo_232 rfl (by decide) rfl ?_
    refine g_loc [1, 0] rfl ?_
    exact h
  · have h := h.2 z1
    refine g_aload_n 0 e_Mo_undo_201 rfl rfl ?_
    refine gf_Mo_133 rfl e_Mo_undo_202 hw lay_115 (by decide) (sh_Mo_seenWhen hw) ?_
    refine g_iload_n 1 e_Mo_undo_205 rfl rfl ?_
    refine g_aload_n 0 e_Mo_undo_206 rfl rfl ?_
    refine gf_Mo_208 rfl e_Mo_undo_207 hw lay_115 (by decide) (sh_Mo_imageWhen hw) ?_
    refine g_iload_n 1 e_Mo_undo_210 rfl rfl ?_
    obtain ⟨o2, h⟩ := h
    refine w_iaload ((l1).toNatClampNeg) e_Mo_undo_211 hw lay_150 (by decide) o2 rfl ?_
    obtain ⟨o3, h⟩ := h
    refine w_iastore ((l1).toNatClampNeg) e_Mo_undo_212 hw lay_137 (by decide) o3 rfl ?_
    refine g_aload_n 0 e_Mo_undo_213 rfl rfl ?_
    refine gf_Mo_136 rfl e_Mo_undo_214 hw lay_115 (by decide) (sh_Mo_seenColour hw) ?_
    refine g_iload_n 1 e_Mo_undo_217 rfl rfl ?_
    refine g_aload_n 0 e_Mo_undo_218 rfl rfl ?_
    refine gf_Mo_211 rfl e_Mo_undo_219 hw lay_115 (by decide) (sh_Mo_imageSeenColour hw) ?_
    refine g_iload_n 1 e_Mo_undo_222 rfl rfl ?_
    obtain ⟨o4, h⟩ := h
    refine w_iaload ((l1).toNatClampNeg) e_Mo_undo_223 hw lay_151 (by decide) o4 rfl ?_
    obtain ⟨o5, h⟩ := h
    refine w_iastore ((l1).toNatClampNeg) e_Mo_undo_224 hw lay_138 (by decide) o5 rfl ?_
    refine g_iinc (v := (l1 + 1)) (lv := [(1, .int (l1 + 1)), (0, .ref (qb E + 115))]) 1 e_Mo_undo_225 rfl rfl (by decide) rfl ?_
    refine g_goto 196 e_Mo_undo_228 (by decide) ?_
    refine g_loc [1, 0] rfl ?_
    exact h
set_option maxHeartbeats 4000000 in
set_option maxRecDepth 8000 in
theorem s_Mo_undo_233 {d : Nat} {E : qE} {Q : qW → Int32 → Prop} {l1 : Int32} {w : qW} (hw : Sh w) (h : ((10 ≤ l1) → (c_Mo_undo_271 d E Q 0 w)) ∧ ((¬ 10 ≤ l1) → (vp_in l1 10 ∧ (vp_in l1 10 ∧ (vp_in l1 10 ∧ (vp_in l1 10 ∧ (c_Mo_undo_233 d E Q (l1 + 1) (qpi (qpi w 139 ((l1).toNatClampNeg) (qi w 152 ((l1).toNatClampNeg))) 140 ((l1).toNatClampNeg) (qi (qpi w 139 ((l1).toNatClampNeg) (qi w 152 ((l1).toNatClampNeg))) 153 ((l1).toNatClampNeg)))))))))) : c_Mo_undo_233 d E Q l1 w := by
  unfold c_Mo_undo_233
  refine g_iload_n 1 e_Mo_undo_233 rfl rfl ?_
  refine g_bipush (v := 10) e_Mo_undo_234 (by decide) ?_
  refine g_icmp_ge 269 e_Mo_undo_236 (by decide) ⟨fun z1 => ?_, fun z1 => ?_⟩
  · have h := h.1 z1
    refine g_iconst (v := 0) e_Mo_undo_269 (by decide) ?_
    refine g_istore_n (lv := [(1, .int 0), (0, .ref (qb E + 115))]) e_Mo_undo_270 rfl (by decide) rfl ?_
    refine g_loc [1, 0] rfl ?_
    exact h
  · have h := h.2 z1
    refine g_aload_n 0 e_Mo_undo_239 rfl rfl ?_
    refine gf_Mo_145 rfl e_Mo_undo_240 hw lay_115 (by decide) (sh_Mo_planWhat hw) ?_
    refine g_iload_n 1 e_Mo_undo_243 rfl rfl ?_
    refine g_aload_n 0 e_Mo_undo_244 rfl rfl ?_
    refine gf_Mo_214 rfl e_Mo_undo_245 hw lay_115 (by decide) (sh_Mo_imageWhat hw) ?_
    refine g_iload_n 1 e_Mo_undo_248 rfl rfl ?_
    obtain ⟨o2, h⟩ := h
    refine w_iaload ((l1).toNatClampNeg) e_Mo_undo_249 hw lay_152 (by decide) o2 rfl ?_
    obtain ⟨o3, h⟩ := h
    refine w_iastore ((l1).toNatClampNeg) e_Mo_undo_250 hw lay_139 (by decide) o3 rfl ?_
    refine g_aload_n 0 e_Mo_undo_251 rfl rfl ?_
    refine gf_Mo_148 rfl e_Mo_undo_252 hw lay_115 (by decide) (sh_Mo_planNumber hw) ?_
    refine g_iload_n 1 e_Mo_undo_255 rfl rfl ?_
    refine g_aload_n 0 e_Mo_undo_256 rfl rfl ?_
    refine gf_Mo_217 rfl e_Mo_undo_257 hw lay_115 (by decide) (sh_Mo_imageNumber hw) ?_
    refine g_iload_n 1 e_Mo_undo_260 rfl rfl ?_
    obtain ⟨o4, h⟩ := h
    refine w_iaload ((l1).toNatClampNeg) e_Mo_undo_261 hw lay_153 (by decide) o4 rfl ?_
    obtain ⟨o5, h⟩ := h
    refine w_iastore ((l1).toNatClampNeg) e_Mo_undo_262 hw lay_140 (by decide) o5 rfl ?_
    refine g_iinc (v := (l1 + 1)) (lv := [(1, .int (l1 + 1)), (0, .ref (qb E + 115))]) 1 e_Mo_undo_263 rfl rfl (by decide) rfl ?_
    refine g_goto 233 e_Mo_undo_266 (by decide) ?_
    refine g_loc [1, 0] rfl ?_
    exact h
set_option maxHeartbeats 4000000 in
set_option maxRecDepth 8000 in
theorem s_Mo_undo_271 {d : Nat} {E : qE} {Q : qW → Int32 → Prop} {l1 : Int32} {w : qW} (hw : Sh w) (h : ((8 ≤ l1) → (Q w (qi w 115 0))) ∧ ((¬ 8 ≤ l1) → (vp_in l1 8 ∧ (vp_in l1 8 ∧ (vp_in l1 8 ∧ (vp_in l1 8 ∧ (c_Mo_undo_271 d E Q (l1 + 1) (qpi (qpi w 141 ((l1).toNatClampNeg) (qi w 154 ((l1).toNatClampNeg))) 142 ((l1).toNatClampNeg) (qi (qpi w 141 ((l1).toNatClampNeg) (qi w 154 ((l1).toNatClampNeg))) 155 ((l1).toNatClampNeg)))))))))) : c_Mo_undo_271 d E Q l1 w := by
  unfold c_Mo_undo_271
  refine g_iload_n 1 e_Mo_undo_271 rfl rfl ?_
  refine g_bipush (v := 8) e_Mo_undo_272 (by decide) ?_
  refine g_icmp_ge 307 e_Mo_undo_274 (by decide) ⟨fun z1 => ?_, fun z1 => ?_⟩
  · have h := h.1 z1
    refine g_aload_n 0 e_Mo_undo_307 rfl rfl ?_
    refine gf_Mo_7 rfl e_Mo_undo_308 hw lay_115 (by decide) ?_
    exact g_iret e_Mo_undo_311 rfl ⟨Sh.n hw, _, rfl, hw, h⟩
  · have h := h.2 z1
    refine g_aload_n 0 e_Mo_undo_277 rfl rfl ?_
    refine gf_Mo_151 rfl e_Mo_undo_278 hw lay_115 (by decide) (sh_Mo_bookThing hw) ?_
    refine g_iload_n 1 e_Mo_undo_281 rfl rfl ?_
    refine g_aload_n 0 e_Mo_undo_282 rfl rfl ?_
    refine gf_Mo_220 rfl e_Mo_undo_283 hw lay_115 (by decide) (sh_Mo_imageBookThing hw) ?_
    refine g_iload_n 1 e_Mo_undo_286 rfl rfl ?_
    obtain ⟨o2, h⟩ := h
    refine w_iaload ((l1).toNatClampNeg) e_Mo_undo_287 hw lay_154 (by decide) o2 rfl ?_
    obtain ⟨o3, h⟩ := h
    refine w_iastore ((l1).toNatClampNeg) e_Mo_undo_288 hw lay_141 (by decide) o3 rfl ?_
    refine g_aload_n 0 e_Mo_undo_289 rfl rfl ?_
    refine gf_Mo_154 rfl e_Mo_undo_290 hw lay_115 (by decide) (sh_Mo_bookWeight hw) ?_
    refine g_iload_n 1 e_Mo_undo_293 rfl rfl ?_
    refine g_aload_n 0 e_Mo_undo_294 rfl rfl ?_
    refine gf_Mo_223 rfl e_Mo_undo_295 hw lay_115 (by decide) (sh_Mo_imageBookWeight hw) ?_
    refine g_iload_n 1 e_Mo_undo_298 rfl rfl ?_
    obtain ⟨o4, h⟩ := h
    refine w_iaload ((l1).toNatClampNeg) e_Mo_undo_299 hw lay_155 (by decide) o4 rfl ?_
    obtain ⟨o5, h⟩ := h
    refine w_iastore ((l1).toNatClampNeg) e_Mo_undo_300 hw lay_142 (by decide) o5 rfl ?_
    refine g_iinc (v := (l1 + 1)) (lv := [(1, .int (l1 + 1)), (0, .ref (qb E + 115))]) 1 e_Mo_undo_301 rfl rfl (by decide) rfl ?_
    refine g_goto 271 e_Mo_undo_304 (by decide) ?_
    refine g_loc [1, 0] rfl ?_
    exact h
theorem en_Mo_undo {d : Nat} {E : qE} {Q : qW → Int32 → Prop} {w : qW} (hw : Sh w) (h : c_Mo_undo_0 d E Q  w) : CaI d M_Mo_undo [.ref (qb E + 115)] E w Q := Ca.into hw rfl (Nat.le_of_ble_eq_true rfl) h
def c_Mo_body_0 (d : Nat) (E : qE) (Q : qW → Prop) (a1 : Int32) (w : qW) : Prop := Go d M_Mo_body E 161 161 (qFV Q) 0 [(0, .ref (qb E + 115)), (1, .int a1)] [] w
set_option maxHeartbeats 4000000 in
set_option maxRecDepth 8000 in
theorem s_Mo_body_0 {d : Nat} {E : qE} {Q : qW → Prop} {a1 : Int32} {w : qW} (hw : Sh w) (h : ((20 ≤ (qi w 115 71)) → (Q (qpi w 115 71 ((qi w 115 71) + 1)))) ∧ ((¬ 20 ≤ (qi w 115 71)) → (vp_in (qi w 115 71) 20 ∧ (Q (qpi (qpi w 156 ((qi w 115 71).toNatClampNeg) a1) 115 71 ((qi (qpi w 156 ((qi w 115 71).toNatClampNeg) a1) 115 71) + 1)))))) : c_Mo_body_0 d E Q a1 w := by
  unfold c_Mo_body_0
  refine g_aload_n 0 e_Mo_body_0 rfl rfl ?_
  refine gf_Mo_226 rfl e_Mo_body_1 hw lay_115 (by decide) ?_
  refine g_bipush (v := 20) e_Mo_body_4 (by decide) ?_
  refine g_icmp_ge 19 e_Mo_body_6 (by decide) ⟨fun z1 => ?_, fun z1 => ?_⟩
  · have h := h.1 z1
    refine g_aload_n 0 e_Mo_body_19 rfl rfl ?_
    refine g_dup e_Mo_body_20 rfl ?_
    refine gf_Mo_226 rfl e_Mo_body_21 hw lay_115 (by decide) ?_
    refine g_iconst (v := 1) e_Mo_body_24 (by decide) ?_
    refine g_iadd e_Mo_body_25 ?_
    refine pf_Mo_226 rfl e_Mo_body_26 hw lay_115 (by decide) ?_
    exact g_vret e_Mo_body_29 rfl ⟨Sh.n hw, rfl, hw, h⟩
  · have h := h.2 z1
    refine g_aload_n 0 e_Mo_body_9 rfl rfl ?_
    refine gf_Mo_229 rfl e_Mo_body_10 hw lay_115 (by decide) (sh_Mo_bodies hw) ?_
    refine g_aload_n 0 e_Mo_body_13 rfl rfl ?_
    refine gf_Mo_226 rfl e_Mo_body_14 hw lay_115 (by decide) ?_
    refine g_iload_n 1 e_Mo_body_17 rfl rfl ?_
    obtain ⟨o2, h⟩ := h
    refine w_iastore ((qi w 115 71).toNatClampNeg) e_Mo_body_18 hw lay_156 (by decide) o2 rfl ?_
    refine g_aload_n 0 e_Mo_body_19 rfl rfl ?_
    refine g_dup e_Mo_body_20 rfl ?_
    refine gf_Mo_226 rfl e_Mo_body_21 hw lay_115 (by decide) ?_
    refine g_iconst (v := 1) e_Mo_body_24 (by decide) ?_
    refine g_iadd e_Mo_body_25 ?_
    refine pf_Mo_226 rfl e_Mo_body_26 hw lay_115 (by decide) ?_
    exact g_vret e_Mo_body_29 rfl ⟨Sh.n hw, rfl, hw, h⟩
theorem en_Mo_body {d : Nat} {E : qE} {Q : qW → Prop} {a1 : Int32} {w : qW} (hw : Sh w) (h : c_Mo_body_0 d E Q a1 w) : CaV d M_Mo_body [.ref (qb E + 115), .int a1] E w Q := Ca.into hw rfl (Nat.le_of_ble_eq_true rfl) h
def c_Mo_thingDrips_0 (d : Nat) (E : qE) (Q : qW → Int32 → Prop) (a1 : Int32) (a2 : Int32) (w : qW) : Prop := Go (d + 1) M_Mo_thingDrips E 161 161 (qFI Q) 0 [(0, .ref (qb E + 115)), (1, .int a1), (2, .int a2)] [] w
set_option maxHeartbeats 4000000 in
set_option maxRecDepth 8000 in
theorem s_Mo_thingDrips_0 {d : Nat} {E : qE} {Q : qW → Int32 → Prop} {a1 : Int32} {a2 : Int32} {w : qW} (hw : Sh w) (h : CaV d M_Mo_body [.ref (qb E + 115), .int 10] E w (fun w1 => Q w1 (a2 + a1))) : c_Mo_thingDrips_0 d E Q a1 a2 w := by
  unfold c_Mo_thingDrips_0
  refine g_aload_n 0 e_Mo_thingDrips_0 rfl rfl ?_
  refine g_bipush (v := 10) e_Mo_thingDrips_1 (by decide) ?_
  refine w_callVV (w := w) (As := [.int 10]) (rest := []) e_Mo_thingDrips_3 ok_Mo_body rfl km_Mo_409 kx_Mo_body kv_Mo_body rfl (by decide) hw lay_115 (by decide) rfl (Nat.le_of_ble_eq_true rfl) h (fun w1 hw1 h => ?_)
  refine g_iload_n 2 e_Mo_thingDrips_6 rfl rfl ?_
  refine g_iload_n 1 e_Mo_thingDrips_7 rfl rfl ?_
  refine g_iadd e_Mo_thingDrips_8 ?_
  exact g_iret e_Mo_thingDrips_9 rfl ⟨Sh.n hw1, _, rfl, hw1, h⟩
theorem en_Mo_thingDrips {d : Nat} {E : qE} {Q : qW → Int32 → Prop} {a1 : Int32} {a2 : Int32} {w : qW} (hw : Sh w) (h : c_Mo_thingDrips_0 d E Q a1 a2 w) : CaI (d + 1) M_Mo_thingDrips [.ref (qb E + 115), .int a1, .int a2] E w Q := Ca.into hw rfl (Nat.le_of_ble_eq_true rfl) h
def c_Mo_dripsAct_0 (d : Nat) (E : qE) (Q : qW → Int32 → Prop) (a1 : Int32) (a2 : Int32) (w : qW) : Prop := Go (d + 2) M_Mo_dripsAct E 161 161 (qFI Q) 0 [(0, .ref (qb E + 115)), (1, .int a1), (2, .int a2)] [] w
set_option maxHeartbeats 4000000 in
set_option maxRecDepth 8000 in
theorem s_Mo_dripsAct_0 {d : Nat} {E : qE} {Q : qW → Int32 → Prop} {a1 : Int32} {a2 : Int32} {w : qW} (hw : Sh w) (h : vp_in a1 6 ∧ (((qi w 116 ((a1).toNatClampNeg)) = 2 → (CaV (d + 1) M_Mo_body [.ref (qb E + 115), .int 30] E w (fun w3 => CaI (d + 1) M_Mo_thingDrips [.ref (qb E + 115), .int a1, .int (a2 * 3)] E w3 (fun w4 x4 => Q w4 x4)))) ∧ ((qi w 116 ((a1).toNatClampNeg)) = 3 → (CaI (d + 1) M_Mo_thingDrips [.ref (qb E + 115), .int a1, .int a2] E w (fun w5 x5 => Q w5 x5))) ∧ ((qi w 116 ((a1).toNatClampNeg)) = 4 → (CaV (d + 1) M_Mo_body [.ref (qb E + 115), .int 50] E w (fun w6 => CaI (d + 1) M_Mo_thingDrips [.ref (qb E + 115), .int a1, .int a2] E w6 (fun w7 x7 => Q w7 (-x7))))) ∧ ((qi w 116 ((a1).toNatClampNeg)) = 5 → (CaV (d + 1) M_Mo_body [.ref (qb E + 115), .int 30] E w (fun w8 => CaI (d + 1) M_Mo_thingDrips [.ref (qb E + 115), .int a1, .int (a2 * 3)] E w8 (fun w9 x9 => Q w9 x9)))) ∧ ((qi w 116 ((a1).toNatClampNeg)) = 6 → (CaV (d + 1) M_Mo_body [.ref (qb E + 115), .int 71] E w (fun w10 => CaI (d + 1) M_Mo_thingDrips [.ref (qb E + 115), .int a1, .int a2] E w10 (fun w11 x11 => vp_in a1 6 ∧ (Q w11 (x11 ^^^ (qi w11 117 ((a1).toNatClampNeg)))))))) ∧ (((qi w 116 ((a1).toNatClampNeg)).toInt < 2 ∨ 6 < (qi w 116 ((a1).toNatClampNeg)).toInt) → (CaI (d + 1) M_Mo_thingDrips [.ref (qb E + 115), .int a1, .int a2] E w (fun w13 x13 => Q w13 x13))))) : c_Mo_dripsAct_0 d E Q a1 a2 w := by
  unfold c_Mo_dripsAct_0
  refine g_aload_n 0 e_Mo_dripsAct_0 rfl rfl ?_
  refine gf_Mo_26 rfl e_Mo_dripsAct_1 hw lay_115 (by decide) (sh_Mo_kind hw) ?_
  refine g_iload_n 1 e_Mo_dripsAct_4 rfl rfl ?_
  obtain ⟨o1, h⟩ := h
  refine w_iaload ((a1).toNatClampNeg) e_Mo_dripsAct_5 hw lay_116 (by decide) o1 rfl ?_
  refine g_table e_Mo_dripsAct_6 5 (by decide) [40, 89, 55, 40, 69] 89 (by decide) (by decide +kernel) ⟨fun j2 hj2 hx2 => ?_, fun hx2 => ?_⟩
  · rcases (show j2 = 0 ∨ j2 = 1 ∨ j2 = 2 ∨ j2 = 3 ∨ j2 = 4 by omega) with rfl | rfl | rfl | rfl | rfl
    · have h := h.1 (q_key hx2 (by decide))
      change Go _ _ _ _ _ _ 40 _ _ _
      refine g_aload_n 0 e_Mo_dripsAct_40 rfl rfl ?_
      refine g_bipush (v := 30) e_Mo_dripsAct_41 (by decide) ?_
      refine w_callVV (w := w) (As := [.int 30]) (rest := []) e_Mo_dripsAct_43 ok_Mo_body rfl km_Mo_409 kx_Mo_body kv_Mo_body rfl (by decide) hw lay_115 (by decide) rfl (Nat.le_of_ble_eq_true rfl) h (fun w3 hw3 h => ?_)
      refine g_aload_n 0 e_Mo_dripsAct_46 rfl rfl ?_
      refine g_iload_n 1 e_Mo_dripsAct_47 rfl rfl ?_
      refine g_iload_n 2 e_Mo_dripsAct_48 rfl rfl ?_
      refine g_iconst (v := 3) e_Mo_dripsAct_49 (by decide) ?_
      refine g_imul e_Mo_dripsAct_50 ?_
      refine w_callVI (w := w3) (As := [.int a1, .int (a2 * 3)]) (rest := []) e_Mo_dripsAct_51 ok_Mo_thingDrips rfl km_Mo_412 kx_Mo_thingDrips kv_Mo_thingDrips rfl (by decide) hw3 lay_115 (by decide) rfl (Nat.le_of_ble_eq_true rfl) h (fun w4 x4 hw4 h => ?_)
      exact g_iret e_Mo_dripsAct_54 rfl ⟨Sh.n hw4, _, rfl, hw4, h⟩
    · have h := h.2.1 (q_key hx2 (by decide))
      change Go _ _ _ _ _ _ 89 _ _ _
      refine g_aload_n 0 e_Mo_dripsAct_89 rfl rfl ?_
      refine g_iload_n 1 e_Mo_dripsAct_90 rfl rfl ?_
      refine g_iload_n 2 e_Mo_dripsAct_91 rfl rfl ?_
      refine w_callVI (w := w) (As := [.int a1, .int a2]) (rest := []) e_Mo_dripsAct_92 ok_Mo_thingDrips rfl km_Mo_412 kx_Mo_thingDrips kv_Mo_thingDrips rfl (by decide) hw lay_115 (by decide) rfl (Nat.le_of_ble_eq_true rfl) h (fun w5 x5 hw5 h => ?_)
      exact g_iret e_Mo_dripsAct_95 rfl ⟨Sh.n hw5, _, rfl, hw5, h⟩
    · have h := h.2.2.1 (q_key hx2 (by decide))
      change Go _ _ _ _ _ _ 55 _ _ _
      refine g_aload_n 0 e_Mo_dripsAct_55 rfl rfl ?_
      refine g_bipush (v := 50) e_Mo_dripsAct_56 (by decide) ?_
      refine w_callVV (w := w) (As := [.int 50]) (rest := []) e_Mo_dripsAct_58 ok_Mo_body rfl km_Mo_409 kx_Mo_body kv_Mo_body rfl (by decide) hw lay_115 (by decide) rfl (Nat.le_of_ble_eq_true rfl) h (fun w6 hw6 h => ?_)
      refine g_aload_n 0 e_Mo_dripsAct_61 rfl rfl ?_
      refine g_iload_n 1 e_Mo_dripsAct_62 rfl rfl ?_
      refine g_iload_n 2 e_Mo_dripsAct_63 rfl rfl ?_
      refine w_callVI (w := w6) (As := [.int a1, .int a2]) (rest := []) e_Mo_dripsAct_64 ok_Mo_thingDrips rfl km_Mo_412 kx_Mo_thingDrips kv_Mo_thingDrips rfl (by decide) hw6 lay_115 (by decide) rfl (Nat.le_of_ble_eq_true rfl) h (fun w7 x7 hw7 h => ?_)
      refine g_ineg e_Mo_dripsAct_67 ?_
      exact g_iret e_Mo_dripsAct_68 rfl ⟨Sh.n hw7, _, rfl, hw7, h⟩
    · have h := h.2.2.2.1 (q_key hx2 (by decide))
      change Go _ _ _ _ _ _ 40 _ _ _
      refine g_aload_n 0 e_Mo_dripsAct_40 rfl rfl ?_
      refine g_bipush (v := 30) e_Mo_dripsAct_41 (by decide) ?_
      refine w_callVV (w := w) (As := [.int 30]) (rest := []) e_Mo_dripsAct_43 ok_Mo_body rfl km_Mo_409 kx_Mo_body kv_Mo_body rfl (by decide) hw lay_115 (by decide) rfl (Nat.le_of_ble_eq_true rfl) h (fun w8 hw8 h => ?_)
      refine g_aload_n 0 e_Mo_dripsAct_46 rfl rfl ?_
      refine g_iload_n 1 e_Mo_dripsAct_47 rfl rfl ?_
      refine g_iload_n 2 e_Mo_dripsAct_48 rfl rfl ?_
      refine g_iconst (v := 3) e_Mo_dripsAct_49 (by decide) ?_
      refine g_imul e_Mo_dripsAct_50 ?_
      refine w_callVI (w := w8) (As := [.int a1, .int (a2 * 3)]) (rest := []) e_Mo_dripsAct_51 ok_Mo_thingDrips rfl km_Mo_412 kx_Mo_thingDrips kv_Mo_thingDrips rfl (by decide) hw8 lay_115 (by decide) rfl (Nat.le_of_ble_eq_true rfl) h (fun w9 x9 hw9 h => ?_)
      exact g_iret e_Mo_dripsAct_54 rfl ⟨Sh.n hw9, _, rfl, hw9, h⟩
    · have h := h.2.2.2.2.1 (q_key hx2 (by decide))
      change Go _ _ _ _ _ _ 69 _ _ _
      refine g_aload_n 0 e_Mo_dripsAct_69 rfl rfl ?_
      refine g_bipush (v := 71) e_Mo_dripsAct_70 (by decide) ?_
      refine w_callVV (w := w) (As := [.int 71]) (rest := []) e_Mo_dripsAct_72 ok_Mo_body rfl km_Mo_409 kx_Mo_body kv_Mo_body rfl (by decide) hw lay_115 (by decide) rfl (Nat.le_of_ble_eq_true rfl) h (fun w10 hw10 h => ?_)
      refine g_aload_n 0 e_Mo_dripsAct_75 rfl rfl ?_
      refine g_iload_n 1 e_Mo_dripsAct_76 rfl rfl ?_
      refine g_iload_n 2 e_Mo_dripsAct_77 rfl rfl ?_
      refine w_callVI (w := w10) (As := [.int a1, .int a2]) (rest := []) e_Mo_dripsAct_78 ok_Mo_thingDrips rfl km_Mo_412 kx_Mo_thingDrips kv_Mo_thingDrips rfl (by decide) hw10 lay_115 (by decide) rfl (Nat.le_of_ble_eq_true rfl) h (fun w11 x11 hw11 h => ?_)
      refine g_aload_n 0 e_Mo_dripsAct_81 rfl rfl ?_
      refine gf_Mo_30 rfl e_Mo_dripsAct_82 hw11 lay_115 (by decide) (sh_Mo_v hw11) ?_
      refine g_iload_n 1 e_Mo_dripsAct_85 rfl rfl ?_
      obtain ⟨o12, h⟩ := h
      refine w_iaload ((a1).toNatClampNeg) e_Mo_dripsAct_86 hw11 lay_117 (by decide) o12 rfl ?_
      refine g_ixor e_Mo_dripsAct_87 ?_
      exact g_iret e_Mo_dripsAct_88 rfl ⟨Sh.n hw11, _, rfl, hw11, h⟩
  · have h := h.2.2.2.2.2 hx2
    refine g_aload_n 0 e_Mo_dripsAct_89 rfl rfl ?_
    refine g_iload_n 1 e_Mo_dripsAct_90 rfl rfl ?_
    refine g_iload_n 2 e_Mo_dripsAct_91 rfl rfl ?_
    refine w_callVI (w := w) (As := [.int a1, .int a2]) (rest := []) e_Mo_dripsAct_92 ok_Mo_thingDrips rfl km_Mo_412 kx_Mo_thingDrips kv_Mo_thingDrips rfl (by decide) hw lay_115 (by decide) rfl (Nat.le_of_ble_eq_true rfl) h (fun w13 x13 hw13 h => ?_)
    exact g_iret e_Mo_dripsAct_95 rfl ⟨Sh.n hw13, _, rfl, hw13, h⟩
theorem en_Mo_dripsAct {d : Nat} {E : qE} {Q : qW → Int32 → Prop} {a1 : Int32} {a2 : Int32} {w : qW} (hw : Sh w) (h : c_Mo_dripsAct_0 d E Q a1 a2 w) : CaI (d + 2) M_Mo_dripsAct [.ref (qb E + 115), .int a1, .int a2] E w Q := Ca.into hw rfl (Nat.le_of_ble_eq_true rfl) h
def c_Mo_thingReddens_0 (d : Nat) (E : qE) (Q : qW → Int32 → Prop) (a1 : Int32) (a2 : Int32) (w : qW) : Prop := Go (d + 3) M_Mo_thingReddens E 161 161 (qFI Q) 0 [(0, .ref (qb E + 115)), (1, .int a1), (2, .int a2)] [] w
set_option maxHeartbeats 4000000 in
set_option maxRecDepth 8000 in
theorem s_Mo_thingReddens_0 {d : Nat} {E : qE} {Q : qW → Int32 → Prop} {a1 : Int32} {a2 : Int32} {w : qW} (hw : Sh w) (h : CaV (d + 2) M_Mo_body [.ref (qb E + 115), .int 11] E w (fun w1 => CaI (d + 2) M_Mo_dripsAct [.ref (qb E + 115), .int a1, .int a2] E w1 (fun w2 x2 => vp_in a1 6 ∧ (Q w2 (x2 - (qi w2 117 ((a1).toNatClampNeg))))))) : c_Mo_thingReddens_0 d E Q a1 a2 w := by
  unfold c_Mo_thingReddens_0
  refine g_aload_n 0 e_Mo_thingReddens_0 rfl rfl ?_
  refine g_bipush (v := 11) e_Mo_thingReddens_1 (by decide) ?_
  refine w_callVV (w := w) (As := [.int 11]) (rest := []) e_Mo_thingReddens_3 ok_Mo_body rfl km_Mo_409 kx_Mo_body kv_Mo_body rfl (by decide) hw lay_115 (by decide) rfl (Nat.le_of_ble_eq_true rfl) h (fun w1 hw1 h => ?_)
  refine g_aload_n 0 e_Mo_thingReddens_6 rfl rfl ?_
  refine g_iload_n 1 e_Mo_thingReddens_7 rfl rfl ?_
  refine g_iload_n 2 e_Mo_thingReddens_8 rfl rfl ?_
  refine w_callVI (w := w1) (As := [.int a1, .int a2]) (rest := []) e_Mo_thingReddens_9 ok_Mo_dripsAct rfl km_Mo_415 kx_Mo_dripsAct kv_Mo_dripsAct rfl (by decide) hw1 lay_115 (by decide) rfl (Nat.le_of_ble_eq_true rfl) h (fun w2 x2 hw2 h => ?_)
  refine g_aload_n 0 e_Mo_thingReddens_12 rfl rfl ?_
  refine gf_Mo_30 rfl e_Mo_thingReddens_13 hw2 lay_115 (by decide) (sh_Mo_v hw2) ?_
  refine g_iload_n 1 e_Mo_thingReddens_16 rfl rfl ?_
  obtain ⟨o3, h⟩ := h
  refine w_iaload ((a1).toNatClampNeg) e_Mo_thingReddens_17 hw2 lay_117 (by decide) o3 rfl ?_
  refine g_isub e_Mo_thingReddens_18 ?_
  exact g_iret e_Mo_thingReddens_19 rfl ⟨Sh.n hw2, _, rfl, hw2, h⟩
theorem en_Mo_thingReddens {d : Nat} {E : qE} {Q : qW → Int32 → Prop} {a1 : Int32} {a2 : Int32} {w : qW} (hw : Sh w) (h : c_Mo_thingReddens_0 d E Q a1 a2 w) : CaI (d + 3) M_Mo_thingReddens [.ref (qb E + 115), .int a1, .int a2] E w Q := Ca.into hw rfl (Nat.le_of_ble_eq_true rfl) h
def c_Mo_grudgeReddens_0 (d : Nat) (E : qE) (Q : qW → Int32 → Prop) (a1 : Int32) (a2 : Int32) (w : qW) : Prop := Go (d + 4) M_Mo_grudgeReddens E 161 161 (qFI Q) 0 [(0, .ref (qb E + 115)), (1, .int a1), (2, .int a2)] [] w
set_option maxHeartbeats 4000000 in
set_option maxRecDepth 8000 in
theorem s_Mo_grudgeReddens_0 {d : Nat} {E : qE} {Q : qW → Int32 → Prop} {a1 : Int32} {a2 : Int32} {w : qW} (hw : Sh w) (h : CaV (d + 3) M_Mo_body [.ref (qb E + 115), .int 20] E w (fun w1 => CaI (d + 3) M_Mo_thingReddens [.ref (qb E + 115), .int a1, .int a2] E w1 (fun w2 x2 => Q w2 (x2 ^^^ 6)))) : c_Mo_grudgeReddens_0 d E Q a1 a2 w := by
  unfold c_Mo_grudgeReddens_0
  refine g_aload_n 0 e_Mo_grudgeReddens_0 rfl rfl ?_
  refine g_bipush (v := 20) e_Mo_grudgeReddens_1 (by decide) ?_
  refine w_callVV (w := w) (As := [.int 20]) (rest := []) e_Mo_grudgeReddens_3 ok_Mo_body rfl km_Mo_409 kx_Mo_body kv_Mo_body rfl (by decide) hw lay_115 (by decide) rfl (Nat.le_of_ble_eq_true rfl) h (fun w1 hw1 h => ?_)
  refine g_aload_n 0 e_Mo_grudgeReddens_6 rfl rfl ?_
  refine g_iload_n 1 e_Mo_grudgeReddens_7 rfl rfl ?_
  refine g_iload_n 2 e_Mo_grudgeReddens_8 rfl rfl ?_
  refine w_callVI (w := w1) (As := [.int a1, .int a2]) (rest := []) e_Mo_grudgeReddens_9 ok_Mo_thingReddens rfl km_Mo_418 kx_Mo_thingReddens kv_Mo_thingReddens rfl (by decide) hw1 lay_115 (by decide) rfl (Nat.le_of_ble_eq_true rfl) h (fun w2 x2 hw2 h => ?_)
  refine g_bipush (v := 6) e_Mo_grudgeReddens_12 (by decide) ?_
  refine g_ixor e_Mo_grudgeReddens_14 ?_
  exact g_iret e_Mo_grudgeReddens_15 rfl ⟨Sh.n hw2, _, rfl, hw2, h⟩
theorem en_Mo_grudgeReddens {d : Nat} {E : qE} {Q : qW → Int32 → Prop} {a1 : Int32} {a2 : Int32} {w : qW} (hw : Sh w) (h : c_Mo_grudgeReddens_0 d E Q a1 a2 w) : CaI (d + 4) M_Mo_grudgeReddens [.ref (qb E + 115), .int a1, .int a2] E w Q := Ca.into hw rfl (Nat.le_of_ble_eq_true rfl) h
def c_Mo_reddensAct_0 (d : Nat) (E : qE) (Q : qW → Int32 → Prop) (a1 : Int32) (a2 : Int32) (w : qW) : Prop := Go (d + 5) M_Mo_reddensAct E 161 161 (qFI Q) 0 [(0, .ref (qb E + 115)), (1, .int a1), (2, .int a2)] [] w
set_option maxHeartbeats 4000000 in
set_option maxRecDepth 8000 in
theorem s_Mo_reddensAct_0 {d : Nat} {E : qE} {Q : qW → Int32 → Prop} {a1 : Int32} {a2 : Int32} {w : qW} (hw : Sh w) (h : vp_in a1 6 ∧ (((qi w 116 ((a1).toNatClampNeg)) = 1 → (CaI (d + 4) M_Mo_grudgeReddens [.ref (qb E + 115), .int a1, .int a2] E w (fun w3 x3 => Q w3 x3))) ∧ ((qi w 116 ((a1).toNatClampNeg)) = 4 → (CaV (d + 4) M_Mo_body [.ref (qb E + 115), .int 51] E w (fun w4 => CaI (d + 4) M_Mo_grudgeReddens [.ref (qb E + 115), .int a1, .int (a2 + 1)] E w4 (fun w5 x5 => Q w5 x5)))) ∧ ((qi w 116 ((a1).toNatClampNeg)) = 6 → (CaV (d + 4) M_Mo_body [.ref (qb E + 115), .int 70] E w (fun w6 => CaI (d + 4) M_Mo_thingReddens [.ref (qb E + 115), .int a1, .int a2] E w6 (fun w7 x7 => CaI (d + 4) M_Mo_thingDrips [.ref (qb E + 115), .int a1, .int 2] E w7 (fun w8 x8 => Q w8 (x7 + x8)))))) ∧ (¬ (qi w 116 ((a1).toNatClampNeg)) = 1 → ¬ (qi w 116 ((a1).toNatClampNeg)) = 4 → ¬ (qi w 116 ((a1).toNatClampNeg)) = 6 → (CaI (d + 4) M_Mo_thingReddens [.ref (qb E + 115), .int a1, .int a2] E w (fun w9 x9 => Q w9 x9))))) : c_Mo_reddensAct_0 d E Q a1 a2 w := by
  unfold c_Mo_reddensAct_0
  refine g_aload_n 0 e_Mo_reddensAct_0 rfl rfl ?_
  refine gf_Mo_26 rfl e_Mo_reddensAct_1 hw lay_115 (by decide) (sh_Mo_kind hw) ?_
  refine g_iload_n 1 e_Mo_reddensAct_4 rfl rfl ?_
  obtain ⟨o1, h⟩ := h
  refine w_iaload ((a1).toNatClampNeg) e_Mo_reddensAct_5 hw lay_116 (by decide) o1 rfl ?_
  by_cases y2_0 : (qi w 116 ((a1).toNatClampNeg)) = 1
  · refine g_lookup (off := 34) 40 e_Mo_reddensAct_6 (by decide) (by  show Op.lookupswitch.offset _ _ _ = _; rw [y2_0]; rfl) (by decide) ?_
    have h := h.1 y2_0
    refine g_aload_n 0 e_Mo_reddensAct_40 rfl rfl ?_
    refine g_iload_n 1 e_Mo_reddensAct_41 rfl rfl ?_
    refine g_iload_n 2 e_Mo_reddensAct_42 rfl rfl ?_
    refine w_callVI (w := w) (As := [.int a1, .int a2]) (rest := []) e_Mo_reddensAct_43 ok_Mo_grudgeReddens rfl km_Mo_421 kx_Mo_grudgeReddens kv_Mo_grudgeReddens rfl (by decide) hw lay_115 (by decide) rfl (Nat.le_of_ble_eq_true rfl) h (fun w3 x3 hw3 h => ?_)
    exact g_iret e_Mo_reddensAct_46 rfl ⟨Sh.n hw3, _, rfl, hw3, h⟩
  by_cases y2_1 : (qi w 116 ((a1).toNatClampNeg)) = 4
  · refine g_lookup (off := 41) 47 e_Mo_reddensAct_6 (by decide) (by rw [lv_osw y2_0 (a := 1) (by decide)]; show Op.lookupswitch.offset _ _ _ = _; rw [y2_1]; rfl) (by decide) ?_
    have h := h.2.1 y2_1
    refine g_aload_n 0 e_Mo_reddensAct_47 rfl rfl ?_
    refine g_bipush (v := 51) e_Mo_reddensAct_48 (by decide) ?_
    refine w_callVV (w := w) (As := [.int 51]) (rest := []) e_Mo_reddensAct_50 ok_Mo_body rfl km_Mo_409 kx_Mo_body kv_Mo_body rfl (by decide) hw lay_115 (by decide) rfl (Nat.le_of_ble_eq_true rfl) h (fun w4 hw4 h => ?_)
    refine g_aload_n 0 e_Mo_reddensAct_53 rfl rfl ?_
    refine g_iload_n 1 e_Mo_reddensAct_54 rfl rfl ?_
    refine g_iload_n 2 e_Mo_reddensAct_55 rfl rfl ?_
    refine g_iconst (v := 1) e_Mo_reddensAct_56 (by decide) ?_
    refine g_iadd e_Mo_reddensAct_57 ?_
    refine w_callVI (w := w4) (As := [.int a1, .int (a2 + 1)]) (rest := []) e_Mo_reddensAct_58 ok_Mo_grudgeReddens rfl km_Mo_421 kx_Mo_grudgeReddens kv_Mo_grudgeReddens rfl (by decide) hw4 lay_115 (by decide) rfl (Nat.le_of_ble_eq_true rfl) h (fun w5 x5 hw5 h => ?_)
    exact g_iret e_Mo_reddensAct_61 rfl ⟨Sh.n hw5, _, rfl, hw5, h⟩
  by_cases y2_2 : (qi w 116 ((a1).toNatClampNeg)) = 6
  · refine g_lookup (off := 56) 62 e_Mo_reddensAct_6 (by decide) (by rw [lv_osw y2_0 (a := 1) (by decide)]; rw [lv_osw y2_1 (a := 4) (by decide)]; show Op.lookupswitch.offset _ _ _ = _; rw [y2_2]; rfl) (by decide) ?_
    have h := h.2.2.1 y2_2
    refine g_aload_n 0 e_Mo_reddensAct_62 rfl rfl ?_
    refine g_bipush (v := 70) e_Mo_reddensAct_63 (by decide) ?_
    refine w_callVV (w := w) (As := [.int 70]) (rest := []) e_Mo_reddensAct_65 ok_Mo_body rfl km_Mo_409 kx_Mo_body kv_Mo_body rfl (by decide) hw lay_115 (by decide) rfl (Nat.le_of_ble_eq_true rfl) h (fun w6 hw6 h => ?_)
    refine g_aload_n 0 e_Mo_reddensAct_68 rfl rfl ?_
    refine g_iload_n 1 e_Mo_reddensAct_69 rfl rfl ?_
    refine g_iload_n 2 e_Mo_reddensAct_70 rfl rfl ?_
    refine w_callVI (w := w6) (As := [.int a1, .int a2]) (rest := []) e_Mo_reddensAct_71 ok_Mo_thingReddens rfl km_Mo_418 kx_Mo_thingReddens kv_Mo_thingReddens rfl (by decide) hw6 lay_115 (by decide) rfl (Nat.le_of_ble_eq_true rfl) h (fun w7 x7 hw7 h => ?_)
    refine g_istore_n (lv := [(3, .int x7), (0, .ref (qb E + 115)), (1, .int a1), (2, .int a2)]) e_Mo_reddensAct_74 rfl (by decide) rfl ?_
    refine g_iload_n 0 e_Mo_reddensAct_75 rfl rfl ?_
    refine g_aload_n 1 e_Mo_reddensAct_76 rfl rfl ?_
    refine g_iload_n 2 e_Mo_reddensAct_77 rfl rfl ?_
    refine g_iconst (v := 2) e_Mo_reddensAct_78 (by decide) ?_
    refine w_callVI (w := w7) (As := [.int a1, .int 2]) (rest := [.int x7]) e_Mo_reddensAct_79 ok_Mo_thingDrips rfl km_Mo_412 kx_Mo_thingDrips kv_Mo_thingDrips rfl (by decide) hw7 lay_115 (by decide) rfl (Nat.le_of_ble_eq_true rfl) h (fun w8 x8 hw8 h => ?_)
    refine g_iadd e_Mo_reddensAct_82 ?_
    exact g_iret e_Mo_reddensAct_83 rfl ⟨Sh.n hw8, _, rfl, hw8, h⟩
  refine g_lookup (off := 78) 84 e_Mo_reddensAct_6 (by decide) (by rw [lv_osw y2_0 (a := 1) (by decide)]; rw [lv_osw y2_1 (a := 4) (by decide)]; rw [lv_osw y2_2 (a := 6) (by decide)]; rfl) (by decide) ?_
  have h := h.2.2.2 y2_0 y2_1 y2_2
  refine g_aload_n 0 e_Mo_reddensAct_84 rfl rfl ?_
  refine g_iload_n 1 e_Mo_reddensAct_85 rfl rfl ?_
  refine g_iload_n 2 e_Mo_reddensAct_86 rfl rfl ?_
  refine w_callVI (w := w) (As := [.int a1, .int a2]) (rest := []) e_Mo_reddensAct_87 ok_Mo_thingReddens rfl km_Mo_418 kx_Mo_thingReddens kv_Mo_thingReddens rfl (by decide) hw lay_115 (by decide) rfl (Nat.le_of_ble_eq_true rfl) h (fun w9 x9 hw9 h => ?_)
  exact g_iret e_Mo_reddensAct_90 rfl ⟨Sh.n hw9, _, rfl, hw9, h⟩
theorem en_Mo_reddensAct {d : Nat} {E : qE} {Q : qW → Int32 → Prop} {a1 : Int32} {a2 : Int32} {w : qW} (hw : Sh w) (h : c_Mo_reddensAct_0 d E Q a1 a2 w) : CaI (d + 5) M_Mo_reddensAct [.ref (qb E + 115), .int a1, .int a2] E w Q := Ca.into hw rfl (Nat.le_of_ble_eq_true rfl) h
def c_Mo_thingTells_0 (d : Nat) (E : qE) (Q : qW → Int32 → Prop) (a1 : Int32) (a2 : Int32) (w : qW) : Prop := Go (d + 6) M_Mo_thingTells E 161 161 (qFI Q) 0 [(0, .ref (qb E + 115)), (1, .int a1), (2, .int a2)] [] w
set_option maxHeartbeats 4000000 in
set_option maxRecDepth 8000 in
theorem s_Mo_thingTells_0 {d : Nat} {E : qE} {Q : qW → Int32 → Prop} {a1 : Int32} {a2 : Int32} {w : qW} (hw : Sh w) (h : CaV (d + 5) M_Mo_body [.ref (qb E + 115), .int 12] E w (fun w1 => CaI (d + 5) M_Mo_reddensAct [.ref (qb E + 115), .int a1, .int a2] E w1 (fun w2 x2 => Q w2 (x2 * 2)))) : c_Mo_thingTells_0 d E Q a1 a2 w := by
  unfold c_Mo_thingTells_0
  refine g_aload_n 0 e_Mo_thingTells_0 rfl rfl ?_
  refine g_bipush (v := 12) e_Mo_thingTells_1 (by decide) ?_
  refine w_callVV (w := w) (As := [.int 12]) (rest := []) e_Mo_thingTells_3 ok_Mo_body rfl km_Mo_409 kx_Mo_body kv_Mo_body rfl (by decide) hw lay_115 (by decide) rfl (Nat.le_of_ble_eq_true rfl) h (fun w1 hw1 h => ?_)
  refine g_aload_n 0 e_Mo_thingTells_6 rfl rfl ?_
  refine g_iload_n 1 e_Mo_thingTells_7 rfl rfl ?_
  refine g_iload_n 2 e_Mo_thingTells_8 rfl rfl ?_
  refine w_callVI (w := w1) (As := [.int a1, .int a2]) (rest := []) e_Mo_thingTells_9 ok_Mo_reddensAct rfl km_Mo_424 kx_Mo_reddensAct kv_Mo_reddensAct rfl (by decide) hw1 lay_115 (by decide) rfl (Nat.le_of_ble_eq_true rfl) h (fun w2 x2 hw2 h => ?_)
  refine g_iconst (v := 2) e_Mo_thingTells_12 (by decide) ?_
  refine g_imul e_Mo_thingTells_13 ?_
  exact g_iret e_Mo_thingTells_14 rfl ⟨Sh.n hw2, _, rfl, hw2, h⟩
theorem en_Mo_thingTells {d : Nat} {E : qE} {Q : qW → Int32 → Prop} {a1 : Int32} {a2 : Int32} {w : qW} (hw : Sh w) (h : c_Mo_thingTells_0 d E Q a1 a2 w) : CaI (d + 6) M_Mo_thingTells [.ref (qb E + 115), .int a1, .int a2] E w Q := Ca.into hw rfl (Nat.le_of_ble_eq_true rfl) h
def c_Mo_tellsAct_0 (d : Nat) (E : qE) (Q : qW → Int32 → Prop) (a1 : Int32) (a2 : Int32) (w : qW) : Prop := Go (d + 7) M_Mo_tellsAct E 161 161 (qFI Q) 0 [(0, .ref (qb E + 115)), (1, .int a1), (2, .int a2)] [] w
set_option maxHeartbeats 4000000 in
set_option maxRecDepth 8000 in
theorem s_Mo_tellsAct_0 {d : Nat} {E : qE} {Q : qW → Int32 → Prop} {a1 : Int32} {a2 : Int32} {w : qW} (hw : Sh w) (h : vp_in a1 6 ∧ (((qi w 116 ((a1).toNatClampNeg)) = 3 → (CaV (d + 6) M_Mo_body [.ref (qb E + 115), .int 40] E w (fun w3 => CaI (d + 6) M_Mo_thingTells [.ref (qb E + 115), .int a1, .int a2] E w3 (fun w4 x4 => CaI (d + 6) M_Mo_reddensAct [.ref (qb E + 115), .int a1, .int 1] E w4 (fun w5 x5 => Q w5 (x4 + x5)))))) ∧ ((qi w 116 ((a1).toNatClampNeg)) = 4 → (CaI (d + 6) M_Mo_thingTells [.ref (qb E + 115), .int a1, .int a2] E w (fun w6 x6 => Q w6 x6))) ∧ ((qi w 116 ((a1).toNatClampNeg)) = 5 → (CaV (d + 6) M_Mo_body [.ref (qb E + 115), .int 60] E w (fun w7 => CaI (d + 6) M_Mo_thingTells [.ref (qb E + 115), .int a1, .int (a2 - a1)] E w7 (fun w8 x8 => Q w8 x8)))) ∧ ((qi w 116 ((a1).toNatClampNeg)) = 6 → (CaV (d + 6) M_Mo_body [.ref (qb E + 115), .int 40] E w (fun w9 => CaI (d + 6) M_Mo_thingTells [.ref (qb E + 115), .int a1, .int a2] E w9 (fun w10 x10 => CaI (d + 6) M_Mo_reddensAct [.ref (qb E + 115), .int a1, .int 1] E w10 (fun w11 x11 => Q w11 (x10 + x11)))))) ∧ (((qi w 116 ((a1).toNatClampNeg)).toInt < 3 ∨ 6 < (qi w 116 ((a1).toNatClampNeg)).toInt) → (CaI (d + 6) M_Mo_thingTells [.ref (qb E + 115), .int a1, .int a2] E w (fun w12 x12 => Q w12 x12))))) : c_Mo_tellsAct_0 d E Q a1 a2 w := by
  unfold c_Mo_tellsAct_0
  refine g_aload_n 0 e_Mo_tellsAct_0 rfl rfl ?_
  refine gf_Mo_26 rfl e_Mo_tellsAct_1 hw lay_115 (by decide) (sh_Mo_kind hw) ?_
  refine g_iload_n 1 e_Mo_tellsAct_4 rfl rfl ?_
  obtain ⟨o1, h⟩ := h
  refine w_iaload ((a1).toNatClampNeg) e_Mo_tellsAct_5 hw lay_116 (by decide) o1 rfl ?_
  refine g_table e_Mo_tellsAct_6 4 (by decide) [36, 73, 58, 36] 73 (by decide) (by decide +kernel) ⟨fun j2 hj2 hx2 => ?_, fun hx2 => ?_⟩
  · rcases (show j2 = 0 ∨ j2 = 1 ∨ j2 = 2 ∨ j2 = 3 by omega) with rfl | rfl | rfl | rfl
    · have h := h.1 (q_key hx2 (by decide))
      change Go _ _ _ _ _ _ 36 _ _ _
      refine g_aload_n 0 e_Mo_tellsAct_36 rfl rfl ?_
      refine g_bipush (v := 40) e_Mo_tellsAct_37 (by decide) ?_
      refine w_callVV (w := w) (As := [.int 40]) (rest := []) e_Mo_tellsAct_39 ok_Mo_body rfl km_Mo_409 kx_Mo_body kv_Mo_body rfl (by decide) hw lay_115 (by decide) rfl (Nat.le_of_ble_eq_true rfl) h (fun w3 hw3 h => ?_)
      refine g_aload_n 0 e_Mo_tellsAct_42 rfl rfl ?_
      refine g_iload_n 1 e_Mo_tellsAct_43 rfl rfl ?_
      refine g_iload_n 2 e_Mo_tellsAct_44 rfl rfl ?_
      refine w_callVI (w := w3) (As := [.int a1, .int a2]) (rest := []) e_Mo_tellsAct_45 ok_Mo_thingTells rfl km_Mo_427 kx_Mo_thingTells kv_Mo_thingTells rfl (by decide) hw3 lay_115 (by decide) rfl (Nat.le_of_ble_eq_true rfl) h (fun w4 x4 hw4 h => ?_)
      refine g_istore_n (lv := [(3, .int x4), (0, .ref (qb E + 115)), (1, .int a1), (2, .int a2)]) e_Mo_tellsAct_48 rfl (by decide) rfl ?_
      refine g_iload_n 0 e_Mo_tellsAct_49 rfl rfl ?_
      refine g_aload_n 1 e_Mo_tellsAct_50 rfl rfl ?_
      refine g_iload_n 2 e_Mo_tellsAct_51 rfl rfl ?_
      refine g_iconst (v := 1) e_Mo_tellsAct_52 (by decide) ?_
      refine w_callVI (w := w4) (As := [.int a1, .int 1]) (rest := [.int x4]) e_Mo_tellsAct_53 ok_Mo_reddensAct rfl km_Mo_424 kx_Mo_reddensAct kv_Mo_reddensAct rfl (by decide) hw4 lay_115 (by decide) rfl (Nat.le_of_ble_eq_true rfl) h (fun w5 x5 hw5 h => ?_)
      refine g_iadd e_Mo_tellsAct_56 ?_
      exact g_iret e_Mo_tellsAct_57 rfl ⟨Sh.n hw5, _, rfl, hw5, h⟩
    · have h := h.2.1 (q_key hx2 (by decide))
      change Go _ _ _ _ _ _ 73 _ _ _
      refine g_aload_n 0 e_Mo_tellsAct_73 rfl rfl ?_
      refine g_iload_n 1 e_Mo_tellsAct_74 rfl rfl ?_
      refine g_iload_n 2 e_Mo_tellsAct_75 rfl rfl ?_
      refine w_callVI (w := w) (As := [.int a1, .int a2]) (rest := []) e_Mo_tellsAct_76 ok_Mo_thingTells rfl km_Mo_427 kx_Mo_thingTells kv_Mo_thingTells rfl (by decide) hw lay_115 (by decide) rfl (Nat.le_of_ble_eq_true rfl) h (fun w6 x6 hw6 h => ?_)
      exact g_iret e_Mo_tellsAct_79 rfl ⟨Sh.n hw6, _, rfl, hw6, h⟩
    · have h := h.2.2.1 (q_key hx2 (by decide))
      change Go _ _ _ _ _ _ 58 _ _ _
      refine g_aload_n 0 e_Mo_tellsAct_58 rfl rfl ?_
      refine g_bipush (v := 60) e_Mo_tellsAct_59 (by decide) ?_
      refine w_callVV (w := w) (As := [.int 60]) (rest := []) e_Mo_tellsAct_61 ok_Mo_body rfl km_Mo_409 kx_Mo_body kv_Mo_body rfl (by decide) hw lay_115 (by decide) rfl (Nat.le_of_ble_eq_true rfl) h (fun w7 hw7 h => ?_)
      refine g_aload_n 0 e_Mo_tellsAct_64 rfl rfl ?_
      refine g_iload_n 1 e_Mo_tellsAct_65 rfl rfl ?_
      refine g_iload_n 2 e_Mo_tellsAct_66 rfl rfl ?_
      refine g_iload_n 1 e_Mo_tellsAct_67 rfl rfl ?_
      refine g_isub e_Mo_tellsAct_68 ?_
      refine w_callVI (w := w7) (As := [.int a1, .int (a2 - a1)]) (rest := []) e_Mo_tellsAct_69 ok_Mo_thingTells rfl km_Mo_427 kx_Mo_thingTells kv_Mo_thingTells rfl (by decide) hw7 lay_115 (by decide) rfl (Nat.le_of_ble_eq_true rfl) h (fun w8 x8 hw8 h => ?_)
      exact g_iret e_Mo_tellsAct_72 rfl ⟨Sh.n hw8, _, rfl, hw8, h⟩
    · have h := h.2.2.2.1 (q_key hx2 (by decide))
      change Go _ _ _ _ _ _ 36 _ _ _
      refine g_aload_n 0 e_Mo_tellsAct_36 rfl rfl ?_
      refine g_bipush (v := 40) e_Mo_tellsAct_37 (by decide) ?_
      refine w_callVV (w := w) (As := [.int 40]) (rest := []) e_Mo_tellsAct_39 ok_Mo_body rfl km_Mo_409 kx_Mo_body kv_Mo_body rfl (by decide) hw lay_115 (by decide) rfl (Nat.le_of_ble_eq_true rfl) h (fun w9 hw9 h => ?_)
      refine g_aload_n 0 e_Mo_tellsAct_42 rfl rfl ?_
      refine g_iload_n 1 e_Mo_tellsAct_43 rfl rfl ?_
      refine g_iload_n 2 e_Mo_tellsAct_44 rfl rfl ?_
      refine w_callVI (w := w9) (As := [.int a1, .int a2]) (rest := []) e_Mo_tellsAct_45 ok_Mo_thingTells rfl km_Mo_427 kx_Mo_thingTells kv_Mo_thingTells rfl (by decide) hw9 lay_115 (by decide) rfl (Nat.le_of_ble_eq_true rfl) h (fun w10 x10 hw10 h => ?_)
      refine g_istore_n (lv := [(3, .int x10), (0, .ref (qb E + 115)), (1, .int a1), (2, .int a2)]) e_Mo_tellsAct_48 rfl (by decide) rfl ?_
      refine g_iload_n 0 e_Mo_tellsAct_49 rfl rfl ?_
      refine g_aload_n 1 e_Mo_tellsAct_50 rfl rfl ?_
      refine g_iload_n 2 e_Mo_tellsAct_51 rfl rfl ?_
      refine g_iconst (v := 1) e_Mo_tellsAct_52 (by decide) ?_
      refine w_callVI (w := w10) (As := [.int a1, .int 1]) (rest := [.int x10]) e_Mo_tellsAct_53 ok_Mo_reddensAct rfl km_Mo_424 kx_Mo_reddensAct kv_Mo_reddensAct rfl (by decide) hw10 lay_115 (by decide) rfl (Nat.le_of_ble_eq_true rfl) h (fun w11 x11 hw11 h => ?_)
      refine g_iadd e_Mo_tellsAct_56 ?_
      exact g_iret e_Mo_tellsAct_57 rfl ⟨Sh.n hw11, _, rfl, hw11, h⟩
  · have h := h.2.2.2.2 hx2
    refine g_aload_n 0 e_Mo_tellsAct_73 rfl rfl ?_
    refine g_iload_n 1 e_Mo_tellsAct_74 rfl rfl ?_
    refine g_iload_n 2 e_Mo_tellsAct_75 rfl rfl ?_
    refine w_callVI (w := w) (As := [.int a1, .int a2]) (rest := []) e_Mo_tellsAct_76 ok_Mo_thingTells rfl km_Mo_427 kx_Mo_thingTells kv_Mo_thingTells rfl (by decide) hw lay_115 (by decide) rfl (Nat.le_of_ble_eq_true rfl) h (fun w12 x12 hw12 h => ?_)
    exact g_iret e_Mo_tellsAct_79 rfl ⟨Sh.n hw12, _, rfl, hw12, h⟩
theorem en_Mo_tellsAct {d : Nat} {E : qE} {Q : qW → Int32 → Prop} {a1 : Int32} {a2 : Int32} {w : qW} (hw : Sh w) (h : c_Mo_tellsAct_0 d E Q a1 a2 w) : CaI (d + 7) M_Mo_tellsAct [.ref (qb E + 115), .int a1, .int a2] E w Q := Ca.into hw rfl (Nat.le_of_ble_eq_true rfl) h
def c_Mo_act_0 (d : Nat) (E : qE) (Q : qW → Int32 → Prop) (a1 : Int32) (a2 : Int32) (a3 : Int32) (w : qW) : Prop := Go (d + 8) M_Mo_act E 161 161 (qFI Q) 0 [(0, .ref (qb E + 115)), (1, .int a1), (2, .int a2), (3, .int a3)] [] w
set_option maxHeartbeats 4000000 in
set_option maxRecDepth 8000 in
theorem s_Mo_act_0 {d : Nat} {E : qE} {Q : qW → Int32 → Prop} {a1 : Int32} {a2 : Int32} {a3 : Int32} {w : qW} (hw : Sh w) (h : CaI (d + 7) M_Mo_isThing [.ref (qb E + 115), .int a1] E (qpi w 115 71 0) (fun w1 x1 => ((x1 = 0) → (Q w1 0)) ∧ ((¬ x1 = 0) → (CaI (d + 7) M_Mo_in [.ref (qb E + 115), .int a2, .int 0, .int 2] E w1 (fun w3 x3 => ((¬ x3 = 0) → (((¬ a2 = 0) → (((¬ a2 = 1) → (CaI (d + 7) M_Mo_tellsAct [.ref (qb E + 115), .int a1, .int a3] E w3 (fun w7 x7 => Q w7 x7))) ∧ ((a2 = 1) → (CaI (d + 7) M_Mo_reddensAct [.ref (qb E + 115), .int a1, .int a3] E w3 (fun w8 x8 => Q w8 x8))))) ∧ ((a2 = 0) → (CaI (d + 7) M_Mo_dripsAct [.ref (qb E + 115), .int a1, .int a3] E w3 (fun w9 x9 => Q w9 x9))))) ∧ ((x3 = 0) → (Q w3 0))))))) : c_Mo_act_0 d E Q a1 a2 a3 w := by
  unfold c_Mo_act_0
  refine g_aload_n 0 e_Mo_act_0 rfl rfl ?_
  refine g_iconst (v := 0) e_Mo_act_1 (by decide) ?_
  refine pf_Mo_226 rfl e_Mo_act_2 hw lay_115 (by decide) ?_
  refine g_aload_n 0 e_Mo_act_5 rfl rfl ?_
  refine g_iload_n 1 e_Mo_act_6 rfl rfl ?_
  refine w_callVI (w := (qpi w 115 71 0)) (As := [.int a1]) (rest := []) e_Mo_act_7 ok_Mo_isThing rfl km_Mo_257 kx_Mo_isThing kv_Mo_isThing rfl (by decide) hw lay_115 (by decide) rfl (Nat.le_of_ble_eq_true rfl) h (fun w1 x1 hw1 h => ?_)
  refine g_if_eq 23 e_Mo_act_10 (by decide) ⟨fun z2 => ?_, fun z2 => ?_⟩
  · have h := h.1 z2
    refine g_iconst (v := 0) e_Mo_act_23 (by decide) ?_
    exact g_iret e_Mo_act_24 rfl ⟨Sh.n hw1, _, rfl, hw1, h⟩
  · have h := h.2 z2
    refine g_aload_n 0 e_Mo_act_13 rfl rfl ?_
    refine g_iload_n 2 e_Mo_act_14 rfl rfl ?_
    refine g_iconst (v := 0) e_Mo_act_15 (by decide) ?_
    refine g_iconst (v := 2) e_Mo_act_16 (by decide) ?_
    refine w_callVI (w := w1) (As := [.int a2, .int 0, .int 2]) (rest := []) e_Mo_act_17 ok_Mo_in rfl km_Mo_249 kx_Mo_in kv_Mo_in rfl (by decide) hw1 lay_115 (by decide) rfl (Nat.le_of_ble_eq_true rfl) h (fun w3 x3 hw3 h => ?_)
    refine g_if_ne 25 e_Mo_act_20 (by decide) ⟨fun z4 => ?_, fun z4 => ?_⟩
    · have h := h.1 z4
      refine g_iload_n 2 e_Mo_act_25 rfl rfl ?_
      refine g_if_ne 38 e_Mo_act_26 (by decide) ⟨fun z5 => ?_, fun z5 => ?_⟩
      · have h := h.1 z5
        refine g_iload_n 2 e_Mo_act_38 rfl rfl ?_
        refine g_iconst (v := 1) e_Mo_act_39 (by decide) ?_
        refine g_icmp_ne 52 e_Mo_act_40 (by decide) ⟨fun z6 => ?_, fun z6 => ?_⟩
        · have h := h.1 z6
          refine g_aload_n 0 e_Mo_act_52 rfl rfl ?_
          refine g_iload_n 1 e_Mo_act_53 rfl rfl ?_
          refine g_iload_n 3 e_Mo_act_54 rfl rfl ?_
          refine w_callVI (w := w3) (As := [.int a1, .int a3]) (rest := []) e_Mo_act_55 ok_Mo_tellsAct rfl km_Mo_430 kx_Mo_tellsAct kv_Mo_tellsAct rfl (by decide) hw3 lay_115 (by decide) rfl (Nat.le_of_ble_eq_true rfl) h (fun w7 x7 hw7 h => ?_)
          exact g_iret e_Mo_act_58 rfl ⟨Sh.n hw7, _, rfl, hw7, h⟩
        · have h := h.2 z6
          refine g_aload_n 0 e_Mo_act_43 rfl rfl ?_
          refine g_iload_n 1 e_Mo_act_44 rfl rfl ?_
          refine g_iload_n 3 e_Mo_act_45 rfl rfl ?_
          refine w_callVI (w := w3) (As := [.int a1, .int a3]) (rest := []) e_Mo_act_46 ok_Mo_reddensAct rfl km_Mo_424 kx_Mo_reddensAct kv_Mo_reddensAct rfl (by decide) hw3 lay_115 (by decide) rfl (Nat.le_of_ble_eq_true rfl) h (fun w8 x8 hw8 h => ?_)
          refine g_goto 58 e_Mo_act_49 (by decide) ?_
          exact g_iret e_Mo_act_58 rfl ⟨Sh.n hw8, _, rfl, hw8, h⟩
      · have h := h.2 z5
        refine g_aload_n 0 e_Mo_act_29 rfl rfl ?_
        refine g_iload_n 1 e_Mo_act_30 rfl rfl ?_
        refine g_iload_n 3 e_Mo_act_31 rfl rfl ?_
        refine w_callVI (w := w3) (As := [.int a1, .int a3]) (rest := []) e_Mo_act_32 ok_Mo_dripsAct rfl km_Mo_415 kx_Mo_dripsAct kv_Mo_dripsAct rfl (by decide) hw3 lay_115 (by decide) rfl (Nat.le_of_ble_eq_true rfl) h (fun w9 x9 hw9 h => ?_)
        refine g_goto 58 e_Mo_act_35 (by decide) ?_
        exact g_iret e_Mo_act_58 rfl ⟨Sh.n hw9, _, rfl, hw9, h⟩
    · have h := h.2 z4
      refine g_iconst (v := 0) e_Mo_act_23 (by decide) ?_
      exact g_iret e_Mo_act_24 rfl ⟨Sh.n hw3, _, rfl, hw3, h⟩
theorem en_Mo_act {d : Nat} {E : qE} {Q : qW → Int32 → Prop} {a1 : Int32} {a2 : Int32} {a3 : Int32} {w : qW} (hw : Sh w) (h : c_Mo_act_0 d E Q a1 a2 a3 w) : CaI (d + 8) M_Mo_act [.ref (qb E + 115), .int a1, .int a2, .int a3] E w Q := Ca.into hw rfl (Nat.le_of_ble_eq_true rfl) h
def c_Mo_trace_0 (d : Nat) (E : qE) (Q : qW → Int32 → Prop) (a1 : Int32) (w : qW) : Prop := Go (d + 1) M_Mo_trace E 161 161 (qFI Q) 0 [(0, .ref (qb E + 115)), (1, .int a1)] [] w
set_option maxHeartbeats 4000000 in
set_option maxRecDepth 8000 in
theorem s_Mo_trace_0 {d : Nat} {E : qE} {Q : qW → Int32 → Prop} {a1 : Int32} {w : qW} (hw : Sh w) (h : CaI d M_Mo_in [.ref (qb E + 115), .int a1, .int 0, .int 19] E w (fun w1 x1 => ((x1 = 0) → (Q w1 (-1))) ∧ ((¬ x1 = 0) → ((((qi w1 115 71) ≤ a1) → (Q w1 (-1))) ∧ ((¬ (qi w1 115 71) ≤ a1) → (vp_in a1 20 ∧ (Q w1 (qi w1 156 ((a1).toNatClampNeg))))))))) : c_Mo_trace_0 d E Q a1 w := by
  unfold c_Mo_trace_0
  refine g_aload_n 0 e_Mo_trace_0 rfl rfl ?_
  refine g_iload_n 1 e_Mo_trace_1 rfl rfl ?_
  refine g_iconst (v := 0) e_Mo_trace_2 (by decide) ?_
  refine g_bipush (v := 19) e_Mo_trace_3 (by decide) ?_
  refine w_callVI (w := w) (As := [.int a1, .int 0, .int 19]) (rest := []) e_Mo_trace_5 ok_Mo_in rfl km_Mo_249 kx_Mo_in kv_Mo_in rfl (by decide) hw lay_115 (by decide) rfl (Nat.le_of_ble_eq_true rfl) h (fun w1 x1 hw1 h => ?_)
  refine g_if_eq 28 e_Mo_trace_8 (by decide) ⟨fun z2 => ?_, fun z2 => ?_⟩
  · have h := h.1 z2
    refine g_iconst (v := (-1)) e_Mo_trace_28 (by decide) ?_
    exact g_iret e_Mo_trace_29 rfl ⟨Sh.n hw1, _, rfl, hw1, h⟩
  · have h := h.2 z2
    refine g_iload_n 1 e_Mo_trace_11 rfl rfl ?_
    refine g_aload_n 0 e_Mo_trace_12 rfl rfl ?_
    refine gf_Mo_226 rfl e_Mo_trace_13 hw1 lay_115 (by decide) ?_
    refine g_icmp_ge 28 e_Mo_trace_16 (by decide) ⟨fun z3 => ?_, fun z3 => ?_⟩
    · have h := h.1 z3
      refine g_iconst (v := (-1)) e_Mo_trace_28 (by decide) ?_
      exact g_iret e_Mo_trace_29 rfl ⟨Sh.n hw1, _, rfl, hw1, h⟩
    · have h := h.2 z3
      refine g_aload_n 0 e_Mo_trace_19 rfl rfl ?_
      refine gf_Mo_229 rfl e_Mo_trace_20 hw1 lay_115 (by decide) (sh_Mo_bodies hw1) ?_
      refine g_iload_n 1 e_Mo_trace_23 rfl rfl ?_
      obtain ⟨o4, h⟩ := h
      refine w_iaload ((a1).toNatClampNeg) e_Mo_trace_24 hw1 lay_156 (by decide) o4 rfl ?_
      refine g_goto 29 e_Mo_trace_25 (by decide) ?_
      exact g_iret e_Mo_trace_29 rfl ⟨Sh.n hw1, _, rfl, hw1, h⟩
theorem en_Mo_trace {d : Nat} {E : qE} {Q : qW → Int32 → Prop} {a1 : Int32} {w : qW} (hw : Sh w) (h : c_Mo_trace_0 d E Q a1 w) : CaI (d + 1) M_Mo_trace [.ref (qb E + 115), .int a1] E w Q := Ca.into hw rfl (Nat.le_of_ble_eq_true rfl) h
def c_Mo_taken_0 (d : Nat) (E : qE) (Q : qW → Int32 → Prop) (a1 : Int32) (a2 : Int32) (w : qW) : Prop := Go (d + 2) M_Mo_taken E 161 161 (qFI Q) 0 [(0, .ref (qb E + 115)), (1, .int a1), (2, .int a2)] [] w
set_option maxHeartbeats 4000000 in
set_option maxRecDepth 8000 in
theorem s_Mo_taken_0 {d : Nat} {E : qE} {Q : qW → Int32 → Prop} {a1 : Int32} {a2 : Int32} {w : qW} (hw : Sh w) (h : CaI (d + 1) M_Mo_in [.ref (qb E + 115), .int a2, .int 0, .int 6] E w (fun w1 x1 => ((¬ x1 = 0) → (CaI (d + 1) M_Mo_isThing [.ref (qb E + 115), .int a1] E w1 (fun w3 x3 => ((¬ x3 = 0) → (vp_in a1 6 ∧ (((a2 = 0) → (Q w3 (qi w3 116 ((a1).toNatClampNeg)))) ∧ ((¬ a2 = 0) → ((((qi w3 116 ((a1).toNatClampNeg)) = a2) → (Q w3 (qi w3 116 ((a1).toNatClampNeg)))) ∧ ((¬ (qi w3 116 ((a1).toNatClampNeg)) = a2) → (((¬ a2 = 1) → (((¬ a2 = 2) → (((¬ a2 = 3) → (Q w3 (-12))) ∧ ((a2 = 3) → (((¬ (qi w3 116 ((a1).toNatClampNeg)) = 6) → (Q w3 (-12))) ∧ (((qi w3 116 ((a1).toNatClampNeg)) = 6) → (Q w3 (qi w3 116 ((a1).toNatClampNeg)))))))) ∧ ((a2 = 2) → ((((qi w3 116 ((a1).toNatClampNeg)) = 5) → (Q w3 (qi w3 116 ((a1).toNatClampNeg)))) ∧ ((¬ (qi w3 116 ((a1).toNatClampNeg)) = 5) → (((¬ a2 = 3) → (Q w3 (-12))) ∧ ((a2 = 3) → (((¬ (qi w3 116 ((a1).toNatClampNeg)) = 6) → (Q w3 (-12))) ∧ (((qi w3 116 ((a1).toNatClampNeg)) = 6) → (Q w3 (qi w3 116 ((a1).toNatClampNeg)))))))))))) ∧ ((a2 = 1) → ((((qi w3 116 ((a1).toNatClampNeg)) = 4) → (Q w3 (qi w3 116 ((a1).toNatClampNeg)))) ∧ ((¬ (qi w3 116 ((a1).toNatClampNeg)) = 4) → (((¬ a2 = 2) → (((¬ a2 = 3) → (Q w3 (-12))) ∧ ((a2 = 3) → (((¬ (qi w3 116 ((a1).toNatClampNeg)) = 6) → (Q w3 (-12))) ∧ (((qi w3 116 ((a1).toNatClampNeg)) = 6) → (Q w3 (qi w3 116 ((a1).toNatClampNeg)))))))) ∧ ((a2 = 2) → ((((qi w3 116 ((a1).toNatClampNeg)) = 5) → (Q w3 (qi w3 116 ((a1).toNatClampNeg)))) ∧ ((¬ (qi w3 116 ((a1).toNatClampNeg)) = 5) → (((¬ a2 = 3) → (Q w3 (-12))) ∧ ((a2 = 3) → (((¬ (qi w3 116 ((a1).toNatClampNeg)) = 6) → (Q w3 (-12))) ∧ (((qi w3 116 ((a1).toNatClampNeg)) = 6) → (Q w3 (qi w3 116 ((a1).toNatClampNeg))))))))))))))))))))) ∧ ((x3 = 0) → (Q w3 (-11)))))) ∧ ((x1 = 0) → (Q w1 (-2))))) : c_Mo_taken_0 d E Q a1 a2 w := by
  unfold c_Mo_taken_0
  refine g_aload_n 0 e_Mo_taken_0 rfl rfl ?_
  refine g_iload_n 2 e_Mo_taken_1 rfl rfl ?_
  refine g_iconst (v := 0) e_Mo_taken_2 (by decide) ?_
  refine g_bipush (v := 6) e_Mo_taken_3 (by decide) ?_
  refine w_callVI (w := w) (As := [.int a2, .int 0, .int 6]) (rest := []) e_Mo_taken_5 ok_Mo_in rfl km_Mo_249 kx_Mo_in kv_Mo_in rfl (by decide) hw lay_115 (by decide) rfl (Nat.le_of_ble_eq_true rfl) h (fun w1 x1 hw1 h => ?_)
  refine g_if_ne 14 e_Mo_taken_8 (by decide) ⟨fun z2 => ?_, fun z2 => ?_⟩
  · have h := h.1 z2
    refine g_aload_n 0 e_Mo_taken_14 rfl rfl ?_
    refine g_iload_n 1 e_Mo_taken_15 rfl rfl ?_
    refine w_callVI (w := w1) (As := [.int a1]) (rest := []) e_Mo_taken_16 ok_Mo_isThing rfl km_Mo_257 kx_Mo_isThing kv_Mo_isThing rfl (by decide) hw1 lay_115 (by decide) rfl (Nat.le_of_ble_eq_true rfl) h (fun w3 x3 hw3 h => ?_)
    refine g_if_ne 25 e_Mo_taken_19 (by decide) ⟨fun z4 => ?_, fun z4 => ?_⟩
    · have h := h.1 z4
      refine g_aload_n 0 e_Mo_taken_25 rfl rfl ?_
      refine gf_Mo_26 rfl e_Mo_taken_26 hw3 lay_115 (by decide) (sh_Mo_kind hw3) ?_
      refine g_iload_n 1 e_Mo_taken_29 rfl rfl ?_
      obtain ⟨o5, h⟩ := h
      refine w_iaload ((a1).toNatClampNeg) e_Mo_taken_30 hw3 lay_116 (by decide) o5 rfl ?_
      refine g_istore_n (lv := [(3, .int (qi w3 116 ((a1).toNatClampNeg))), (0, .ref (qb E + 115)), (1, .int a1), (2, .int a2)]) e_Mo_taken_31 rfl (by decide) rfl ?_
      refine g_iload_n 3 e_Mo_taken_32 rfl rfl ?_
      refine g_if_eq 72 e_Mo_taken_33 (by decide) ⟨fun z6 => ?_, fun z6 => ?_⟩
      · have h := h.1 z6
        refine g_iload_n 0 e_Mo_taken_72 rfl rfl ?_
        refine g_goto 78 e_Mo_taken_73 (by decide) ?_
        exact g_iret e_Mo_taken_78 rfl ⟨Sh.n hw3, _, rfl, hw3, h⟩
      · have h := h.2 z6
        refine g_iload_n 0 e_Mo_taken_36 rfl rfl ?_
        refine g_iload_n 3 e_Mo_taken_37 rfl rfl ?_
        refine g_icmp_eq 72 e_Mo_taken_38 (by decide) ⟨fun z7 => ?_, fun z7 => ?_⟩
        · have h := h.1 z7
          refine g_iload_n 0 e_Mo_taken_72 rfl rfl ?_
          refine g_goto 78 e_Mo_taken_73 (by decide) ?_
          exact g_iret e_Mo_taken_78 rfl ⟨Sh.n hw3, _, rfl, hw3, h⟩
        · have h := h.2 z7
          refine g_iload_n 3 e_Mo_taken_41 rfl rfl ?_
          refine g_iconst (v := 1) e_Mo_taken_42 (by decide) ?_
          refine g_icmp_ne 51 e_Mo_taken_43 (by decide) ⟨fun z8 => ?_, fun z8 => ?_⟩
          · have h := h.1 z8
            refine g_iload_n 3 e_Mo_taken_51 rfl rfl ?_
            refine g_iconst (v := 2) e_Mo_taken_52 (by decide) ?_
            refine g_icmp_ne 61 e_Mo_taken_53 (by decide) ⟨fun z9 => ?_, fun z9 => ?_⟩
            · have h := h.1 z9
              refine g_iload_n 3 e_Mo_taken_61 rfl rfl ?_
              refine g_iconst (v := 3) e_Mo_taken_62 (by decide) ?_
              refine g_icmp_ne 76 e_Mo_taken_63 (by decide) ⟨fun z10 => ?_, fun z10 => ?_⟩
              · have h := h.1 z10
                refine g_bipush (v := (-12)) e_Mo_taken_76 (by decide) ?_
                exact g_iret e_Mo_taken_78 rfl ⟨Sh.n hw3, _, rfl, hw3, h⟩
              · have h := h.2 z10
                refine g_iload_n 0 e_Mo_taken_66 rfl rfl ?_
                refine g_bipush (v := 6) e_Mo_taken_67 (by decide) ?_
                refine g_icmp_ne 76 e_Mo_taken_69 (by decide) ⟨fun z11 => ?_, fun z11 => ?_⟩
                · have h := h.1 z11
                  refine g_bipush (v := (-12)) e_Mo_taken_76 (by decide) ?_
                  exact g_iret e_Mo_taken_78 rfl ⟨Sh.n hw3, _, rfl, hw3, h⟩
                · have h := h.2 z11
                  refine g_iload_n 0 e_Mo_taken_72 rfl rfl ?_
                  refine g_goto 78 e_Mo_taken_73 (by decide) ?_
                  exact g_iret e_Mo_taken_78 rfl ⟨Sh.n hw3, _, rfl, hw3, h⟩
            · have h := h.2 z9
              refine g_iload_n 0 e_Mo_taken_56 rfl rfl ?_
              refine g_iconst (v := 5) e_Mo_taken_57 (by decide) ?_
              refine g_icmp_eq 72 e_Mo_taken_58 (by decide) ⟨fun z12 => ?_, fun z12 => ?_⟩
              · have h := h.1 z12
                refine g_iload_n 0 e_Mo_taken_72 rfl rfl ?_
                refine g_goto 78 e_Mo_taken_73 (by decide) ?_
                exact g_iret e_Mo_taken_78 rfl ⟨Sh.n hw3, _, rfl, hw3, h⟩
              · have h := h.2 z12
                refine g_iload_n 3 e_Mo_taken_61 rfl rfl ?_
                refine g_iconst (v := 3) e_Mo_taken_62 (by decide) ?_
                refine g_icmp_ne 76 e_Mo_taken_63 (by decide) ⟨fun z13 => ?_, fun z13 => ?_⟩
                · have h := h.1 z13
                  refine g_bipush (v := (-12)) e_Mo_taken_76 (by decide) ?_
                  exact g_iret e_Mo_taken_78 rfl ⟨Sh.n hw3, _, rfl, hw3, h⟩
                · have h := h.2 z13
                  refine g_iload_n 0 e_Mo_taken_66 rfl rfl ?_
                  refine g_bipush (v := 6) e_Mo_taken_67 (by decide) ?_
                  refine g_icmp_ne 76 e_Mo_taken_69 (by decide) ⟨fun z14 => ?_, fun z14 => ?_⟩
                  · have h := h.1 z14
                    refine g_bipush (v := (-12)) e_Mo_taken_76 (by decide) ?_
                    exact g_iret e_Mo_taken_78 rfl ⟨Sh.n hw3, _, rfl, hw3, h⟩
                  · have h := h.2 z14
                    refine g_iload_n 0 e_Mo_taken_72 rfl rfl ?_
                    refine g_goto 78 e_Mo_taken_73 (by decide) ?_
                    exact g_iret e_Mo_taken_78 rfl ⟨Sh.n hw3, _, rfl, hw3, h⟩
          · have h := h.2 z8
            refine g_iload_n 0 e_Mo_taken_46 rfl rfl ?_
            refine g_iconst (v := 4) e_Mo_taken_47 (by decide) ?_
            refine g_icmp_eq 72 e_Mo_taken_48 (by decide) ⟨fun z15 => ?_, fun z15 => ?_⟩
            · have h := h.1 z15
              refine g_iload_n 0 e_Mo_taken_72 rfl rfl ?_
              refine g_goto 78 e_Mo_taken_73 (by decide) ?_
              exact g_iret e_Mo_taken_78 rfl ⟨Sh.n hw3, _, rfl, hw3, h⟩
            · have h := h.2 z15
              refine g_iload_n 3 e_Mo_taken_51 rfl rfl ?_
              refine g_iconst (v := 2) e_Mo_taken_52 (by decide) ?_
              refine g_icmp_ne 61 e_Mo_taken_53 (by decide) ⟨fun z16 => ?_, fun z16 => ?_⟩
              · have h := h.1 z16
                refine g_iload_n 3 e_Mo_taken_61 rfl rfl ?_
                refine g_iconst (v := 3) e_Mo_taken_62 (by decide) ?_
                refine g_icmp_ne 76 e_Mo_taken_63 (by decide) ⟨fun z17 => ?_, fun z17 => ?_⟩
                · have h := h.1 z17
                  refine g_bipush (v := (-12)) e_Mo_taken_76 (by decide) ?_
                  exact g_iret e_Mo_taken_78 rfl ⟨Sh.n hw3, _, rfl, hw3, h⟩
                · have h := h.2 z17
                  refine g_iload_n 0 e_Mo_taken_66 rfl rfl ?_
                  refine g_bipush (v := 6) e_Mo_taken_67 (by decide) ?_
                  refine g_icmp_ne 76 e_Mo_taken_69 (by decide) ⟨fun z18 => ?_, fun z18 => ?_⟩
                  · have h := h.1 z18
                    refine g_bipush (v := (-12)) e_Mo_taken_76 (by decide) ?_
                    exact g_iret e_Mo_taken_78 rfl ⟨Sh.n hw3, _, rfl, hw3, h⟩
                  · have h := h.2 z18
                    refine g_iload_n 0 e_Mo_taken_72 rfl rfl ?_
                    refine g_goto 78 e_Mo_taken_73 (by decide) ?_
                    exact g_iret e_Mo_taken_78 rfl ⟨Sh.n hw3, _, rfl, hw3, h⟩
              · have h := h.2 z16
                refine g_iload_n 0 e_Mo_taken_56 rfl rfl ?_
                refine g_iconst (v := 5) e_Mo_taken_57 (by decide) ?_
                refine g_icmp_eq 72 e_Mo_taken_58 (by decide) ⟨fun z19 => ?_, fun z19 => ?_⟩
                · have h := h.1 z19
                  refine g_iload_n 0 e_Mo_taken_72 rfl rfl ?_
                  refine g_goto 78 e_Mo_taken_73 (by decide) ?_
                  exact g_iret e_Mo_taken_78 rfl ⟨Sh.n hw3, _, rfl, hw3, h⟩
                · have h := h.2 z19
                  refine g_iload_n 3 e_Mo_taken_61 rfl rfl ?_
                  refine g_iconst (v := 3) e_Mo_taken_62 (by decide) ?_
                  refine g_icmp_ne 76 e_Mo_taken_63 (by decide) ⟨fun z20 => ?_, fun z20 => ?_⟩
                  · have h := h.1 z20
                    refine g_bipush (v := (-12)) e_Mo_taken_76 (by decide) ?_
                    exact g_iret e_Mo_taken_78 rfl ⟨Sh.n hw3, _, rfl, hw3, h⟩
                  · have h := h.2 z20
                    refine g_iload_n 0 e_Mo_taken_66 rfl rfl ?_
                    refine g_bipush (v := 6) e_Mo_taken_67 (by decide) ?_
                    refine g_icmp_ne 76 e_Mo_taken_69 (by decide) ⟨fun z21 => ?_, fun z21 => ?_⟩
                    · have h := h.1 z21
                      refine g_bipush (v := (-12)) e_Mo_taken_76 (by decide) ?_
                      exact g_iret e_Mo_taken_78 rfl ⟨Sh.n hw3, _, rfl, hw3, h⟩
                    · have h := h.2 z21
                      refine g_iload_n 0 e_Mo_taken_72 rfl rfl ?_
                      refine g_goto 78 e_Mo_taken_73 (by decide) ?_
                      exact g_iret e_Mo_taken_78 rfl ⟨Sh.n hw3, _, rfl, hw3, h⟩
    · have h := h.2 z4
      refine g_bipush (v := (-11)) e_Mo_taken_22 (by decide) ?_
      exact g_iret e_Mo_taken_24 rfl ⟨Sh.n hw3, _, rfl, hw3, h⟩
  · have h := h.2 z2
    refine g_bipush (v := (-2)) e_Mo_taken_11 (by decide) ?_
    exact g_iret e_Mo_taken_13 rfl ⟨Sh.n hw1, _, rfl, hw1, h⟩
theorem en_Mo_taken {d : Nat} {E : qE} {Q : qW → Int32 → Prop} {a1 : Int32} {a2 : Int32} {w : qW} (hw : Sh w) (h : c_Mo_taken_0 d E Q a1 a2 w) : CaI (d + 2) M_Mo_taken [.ref (qb E + 115), .int a1, .int a2] E w Q := Ca.into hw rfl (Nat.le_of_ble_eq_true rfl) h
def c_Mo_count_0 (d : Nat) (E : qE) (Q : qW → Int32 → Prop) (a1 : Int32) (w : qW) : Prop := Go d M_Mo_count E 161 161 (qFI Q) 0 [(0, .ref (qb E + 115)), (1, .int a1)] [] w
set_option maxHeartbeats 4000000 in
set_option maxRecDepth 8000 in
theorem s_Mo_count_0 {d : Nat} {E : qE} {Q : qW → Int32 → Prop} {a1 : Int32} {w : qW} (hw : Sh w) (h : (a1 = 0 → (Q w (qi w 115 0))) ∧ (a1 = 1 → (Q w (qi w 115 12))) ∧ (a1 = 2 → (Q w (qi w 115 39))) ∧ (a1 = 3 → (Q w (qi w 115 42))) ∧ (a1 = 4 → (Q w (qi w 115 43))) ∧ (a1 = 5 → (Q w (qi w 115 14))) ∧ (a1 = 6 → (Q w (qi w 115 71))) ∧ ((a1.toInt < 0 ∨ 6 < a1.toInt) → (Q w (-2)))) : c_Mo_count_0 d E Q a1 w := by
  unfold c_Mo_count_0
  refine g_iload_n 1 e_Mo_count_0 rfl rfl ?_
  refine g_table e_Mo_count_1 7 (by decide) [44, 49, 54, 59, 64, 69, 74] 79 (by decide) (by decide +kernel) ⟨fun j1 hj1 hx1 => ?_, fun hx1 => ?_⟩
  · rcases (show j1 = 0 ∨ j1 = 1 ∨ j1 = 2 ∨ j1 = 3 ∨ j1 = 4 ∨ j1 = 5 ∨ j1 = 6 by omega) with rfl | rfl | rfl | rfl | rfl | rfl | rfl
    · have h := h.1 (q_key hx1 (by decide))
      change Go _ _ _ _ _ _ 44 _ _ _
      refine g_aload_n 0 e_Mo_count_44 rfl rfl ?_
      refine gf_Mo_7 rfl e_Mo_count_45 hw lay_115 (by decide) ?_
      exact g_iret e_Mo_count_48 rfl ⟨Sh.n hw, _, rfl, hw, h⟩
    · have h := h.2.1 (q_key hx1 (by decide))
      change Go _ _ _ _ _ _ 49 _ _ _
      refine g_aload_n 0 e_Mo_count_49 rfl rfl ?_
      refine gf_Mo_48 rfl e_Mo_count_50 hw lay_115 (by decide) ?_
      exact g_iret e_Mo_count_53 rfl ⟨Sh.n hw, _, rfl, hw, h⟩
    · have h := h.2.2.1 (q_key hx1 (by decide))
      change Go _ _ _ _ _ _ 54 _ _ _
      refine g_aload_n 0 e_Mo_count_54 rfl rfl ?_
      refine gf_Mo_130 rfl e_Mo_count_55 hw lay_115 (by decide) ?_
      exact g_iret e_Mo_count_58 rfl ⟨Sh.n hw, _, rfl, hw, h⟩
    · have h := h.2.2.2.1 (q_key hx1 (by decide))
      change Go _ _ _ _ _ _ 59 _ _ _
      refine g_aload_n 0 e_Mo_count_59 rfl rfl ?_
      refine gf_Mo_139 rfl e_Mo_count_60 hw lay_115 (by decide) ?_
      exact g_iret e_Mo_count_63 rfl ⟨Sh.n hw, _, rfl, hw, h⟩
    · have h := h.2.2.2.2.1 (q_key hx1 (by decide))
      change Go _ _ _ _ _ _ 64 _ _ _
      refine g_aload_n 0 e_Mo_count_64 rfl rfl ?_
      refine gf_Mo_142 rfl e_Mo_count_65 hw lay_115 (by decide) ?_
      exact g_iret e_Mo_count_68 rfl ⟨Sh.n hw, _, rfl, hw, h⟩
    · have h := h.2.2.2.2.2.1 (q_key hx1 (by decide))
      change Go _ _ _ _ _ _ 69 _ _ _
      refine g_aload_n 0 e_Mo_count_69 rfl rfl ?_
      refine gf_Mo_54 rfl e_Mo_count_70 hw lay_115 (by decide) ?_
      exact g_iret e_Mo_count_73 rfl ⟨Sh.n hw, _, rfl, hw, h⟩
    · have h := h.2.2.2.2.2.2.1 (q_key hx1 (by decide))
      change Go _ _ _ _ _ _ 74 _ _ _
      refine g_aload_n 0 e_Mo_count_74 rfl rfl ?_
      refine gf_Mo_226 rfl e_Mo_count_75 hw lay_115 (by decide) ?_
      exact g_iret e_Mo_count_78 rfl ⟨Sh.n hw, _, rfl, hw, h⟩
  · have h := h.2.2.2.2.2.2.2 hx1
    refine g_bipush (v := (-2)) e_Mo_count_79 (by decide) ?_
    exact g_iret e_Mo_count_81 rfl ⟨Sh.n hw, _, rfl, hw, h⟩
theorem en_Mo_count {d : Nat} {E : qE} {Q : qW → Int32 → Prop} {a1 : Int32} {w : qW} (hw : Sh w) (h : c_Mo_count_0 d E Q a1 w) : CaI d M_Mo_count [.ref (qb E + 115), .int a1] E w Q := Ca.into hw rfl (Nat.le_of_ble_eq_true rfl) h
def c_Mo_isTape_0 (d : Nat) (E : qE) (Q : qW → Int32 → Prop) (a1 : Int32) (w : qW) : Prop := Go (d + 1) M_Mo_isTape E 161 161 (qFI Q) 0 [(0, .ref (qb E + 115)), (1, .int a1)] [] w
set_option maxHeartbeats 4000000 in
set_option maxRecDepth 8000 in
theorem s_Mo_isTape_0 {d : Nat} {E : qE} {Q : qW → Int32 → Prop} {a1 : Int32} {w : qW} (hw : Sh w) (h : CaI d M_Mo_in [.ref (qb E + 115), .int a1, .int 0, .int 5] E w (fun w1 x1 => (x1 = 0 ∨ x1 = 1) ∧ (Q w1 x1))) : c_Mo_isTape_0 d E Q a1 w := by
  unfold c_Mo_isTape_0
  refine g_aload_n 0 e_Mo_isTape_0 rfl rfl ?_
  refine g_iload_n 1 e_Mo_isTape_1 rfl rfl ?_
  refine g_iconst (v := 0) e_Mo_isTape_2 (by decide) ?_
  refine g_iconst (v := 5) e_Mo_isTape_3 (by decide) ?_
  refine w_callVI (w := w) (As := [.int a1, .int 0, .int 5]) (rest := []) e_Mo_isTape_4 ok_Mo_in rfl km_Mo_249 kx_Mo_in kv_Mo_in rfl (by decide) hw lay_115 (by decide) rfl (Nat.le_of_ble_eq_true rfl) h (fun w1 x1 hw1 h => ?_)
  obtain ⟨o2, h⟩ := h
  exact g_zret e_Mo_isTape_7 rfl o2 ⟨Sh.n hw1, _, rfl, hw1, h⟩
theorem en_Mo_isTape {d : Nat} {E : qE} {Q : qW → Int32 → Prop} {a1 : Int32} {w : qW} (hw : Sh w) (h : c_Mo_isTape_0 d E Q a1 w) : CaI (d + 1) M_Mo_isTape [.ref (qb E + 115), .int a1] E w Q := Ca.into hw rfl (Nat.le_of_ble_eq_true rfl) h
def c_Mo_tape_0 (d : Nat) (E : qE) (Q : qW → Int32 → Prop) (a1 : Int32) (a2 : Int32) (a3 : Int32) (w : qW) : Prop := Go (d + 2) M_Mo_tape E 161 161 (qFI Q) 0 [(0, .ref (qb E + 115)), (1, .int a1), (2, .int a2), (3, .int a3)] [] w
def c_Mo_tape_69 (d : Nat) (E : qE) (Q : qW → Int32 → Prop) (l1 : Int32) (l4 : Int32) (w : qW) : Prop := Go (d + 2) M_Mo_tape E 161 161 (qFI Q) 69 [(0, .ref (qb E + 115)), (1, .int l1), (4, .int l4)] [] w
set_option maxHeartbeats 4000000 in
set_option maxRecDepth 8000 in
theorem s_Mo_tape_0 {d : Nat} {E : qE} {Q : qW → Int32 → Prop} {a1 : Int32} {a2 : Int32} {a3 : Int32} {w : qW} (hw : Sh w) (h : CaI (d + 1) M_Mo_isTape [.ref (qb E + 115), .int a1] E w (fun w1 x1 => ((¬ x1 = 0) → (CaI (d + 1) M_Mo_in [.ref (qb E + 115), .int a2, .int (-1), .int 4] E w1 (fun w3 x3 => ((x3 = 0) → (Q w3 (-2))) ∧ ((¬ x3 = 0) → (((a2 < 0) → (((a2 < 0) → (vp_in a1 6 ∧ (((0 ≤ a2) → (vp_in a1 6 ∧ (c_Mo_tape_69 d E Q a1 0 (qpi (qpi w3 157 ((a1).toNatClampNeg) a2) 158 ((a1).toNatClampNeg) a3)))) ∧ ((¬ 0 ≤ a2) → (vp_in a1 6 ∧ (c_Mo_tape_69 d E Q a1 0 (qpi (qpi w3 157 ((a1).toNatClampNeg) a2) 158 ((a1).toNatClampNeg) 0))))))) ∧ ((¬ a2 < 0) → (((0 ≤ a3) → (vp_in a1 6 ∧ (((0 ≤ a2) → (vp_in a1 6 ∧ (c_Mo_tape_69 d E Q a1 0 (qpi (qpi w3 157 ((a1).toNatClampNeg) a2) 158 ((a1).toNatClampNeg) a3)))) ∧ ((¬ 0 ≤ a2) → (vp_in a1 6 ∧ (c_Mo_tape_69 d E Q a1 0 (qpi (qpi w3 157 ((a1).toNatClampNeg) a2) 158 ((a1).toNatClampNeg) 0))))))) ∧ ((¬ 0 ≤ a3) → (Q w3 (-14))))))) ∧ ((¬ a2 < 0) → (((a3 ≤ 60) → (((a2 < 0) → (vp_in a1 6 ∧ (((0 ≤ a2) → (vp_in a1 6 ∧ (c_Mo_tape_69 d E Q a1 0 (qpi (qpi w3 157 ((a1).toNatClampNeg) a2) 158 ((a1).toNatClampNeg) a3)))) ∧ ((¬ 0 ≤ a2) → (vp_in a1 6 ∧ (c_Mo_tape_69 d E Q a1 0 (qpi (qpi w3 157 ((a1).toNatClampNeg) a2) 158 ((a1).toNatClampNeg) 0))))))) ∧ ((¬ a2 < 0) → (((0 ≤ a3) → (vp_in a1 6 ∧ (((0 ≤ a2) → (vp_in a1 6 ∧ (c_Mo_tape_69 d E Q a1 0 (qpi (qpi w3 157 ((a1).toNatClampNeg) a2) 158 ((a1).toNatClampNeg) a3)))) ∧ ((¬ 0 ≤ a2) → (vp_in a1 6 ∧ (c_Mo_tape_69 d E Q a1 0 (qpi (qpi w3 157 ((a1).toNatClampNeg) a2) 158 ((a1).toNatClampNeg) 0))))))) ∧ ((¬ 0 ≤ a3) → (Q w3 (-14))))))) ∧ ((¬ a3 ≤ 60) → (Q w3 (-2)))))))))) ∧ ((x1 = 0) → (Q w1 (-1))))) : c_Mo_tape_0 d E Q a1 a2 a3 w := by
  unfold c_Mo_tape_0
  refine g_aload_n 0 e_Mo_tape_0 rfl rfl ?_
  refine g_iload_n 1 e_Mo_tape_1 rfl rfl ?_
  refine w_callVI (w := w) (As := [.int a1]) (rest := []) e_Mo_tape_2 ok_Mo_isTape rfl km_Mo_406 kx_Mo_isTape kv_Mo_isTape rfl (by decide) hw lay_115 (by decide) rfl (Nat.le_of_ble_eq_true rfl) h (fun w1 x1 hw1 h => ?_)
  refine g_if_ne 10 e_Mo_tape_5 (by decide) ⟨fun z2 => ?_, fun z2 => ?_⟩
  · have h := h.1 z2
    refine g_aload_n 0 e_Mo_tape_10 rfl rfl ?_
    refine g_iload_n 2 e_Mo_tape_11 rfl rfl ?_
    refine g_iconst (v := (-1)) e_Mo_tape_12 (by decide) ?_
    refine g_iconst (v := 4) e_Mo_tape_13 (by decide) ?_
    refine w_callVI (w := w1) (As := [.int a2, .int (-1), .int 4]) (rest := []) e_Mo_tape_14 ok_Mo_in rfl km_Mo_249 kx_Mo_in kv_Mo_in rfl (by decide) hw1 lay_115 (by decide) rfl (Nat.le_of_ble_eq_true rfl) h (fun w3 x3 hw3 h => ?_)
    refine g_if_eq 30 e_Mo_tape_17 (by decide) ⟨fun z4 => ?_, fun z4 => ?_⟩
    · have h := h.1 z4
      refine g_bipush (v := (-2)) e_Mo_tape_30 (by decide) ?_
      exact g_iret e_Mo_tape_32 rfl ⟨Sh.n hw3, _, rfl, hw3, h⟩
    · have h := h.2 z4
      refine g_iload_n 2 e_Mo_tape_20 rfl rfl ?_
      refine g_if_lt 33 e_Mo_tape_21 (by decide) ⟨fun z5 => ?_, fun z5 => ?_⟩
      · have h := h.1 z5
        refine g_iload_n 2 e_Mo_tape_33 rfl rfl ?_
        refine g_if_lt 44 e_Mo_tape_34 (by decide) ⟨fun z6 => ?_, fun z6 => ?_⟩
        · have h := h.1 z6
          refine g_aload_n 0 e_Mo_tape_44 rfl rfl ?_
          refine gf_Mo_232 rfl e_Mo_tape_45 hw3 lay_115 (by decide) (sh_Mo_sort hw3) ?_
          refine g_iload_n 1 e_Mo_tape_48 rfl rfl ?_
          refine g_iload_n 2 e_Mo_tape_49 rfl rfl ?_
          obtain ⟨o7, h⟩ := h
          refine w_iastore ((a1).toNatClampNeg) e_Mo_tape_50 hw3 lay_157 (by decide) o7 rfl ?_
          refine g_aload_n 0 e_Mo_tape_51 rfl rfl ?_
          refine gf_Mo_235 rfl e_Mo_tape_52 hw3 lay_115 (by decide) (sh_Mo_length hw3) ?_
          refine g_iload_n 1 e_Mo_tape_55 rfl rfl ?_
          refine g_iload_n 2 e_Mo_tape_56 rfl rfl ?_
          refine g_if_ge 64 e_Mo_tape_57 (by decide) ⟨fun z8 => ?_, fun z8 => ?_⟩
          · have h := h.1 z8
            refine g_iload_n 3 e_Mo_tape_64 rfl rfl ?_
            obtain ⟨o9, h⟩ := h
            refine w_iastore ((a1).toNatClampNeg) e_Mo_tape_65 hw3 lay_158 (by decide) o9 rfl ?_
            refine g_iconst (v := 0) e_Mo_tape_66 (by decide) ?_
            refine g_istore (lv := [(4, .int 0), (0, .ref (qb E + 115)), (1, .int a1), (2, .int a2), (3, .int a3)]) e_Mo_tape_67 (by decide) rfl ?_
            refine g_loc [1, 2, 0] rfl ?_
            exact h
          · have h := h.2 z8
            refine g_iconst (v := 0) e_Mo_tape_60 (by decide) ?_
            refine g_goto 65 e_Mo_tape_61 (by decide) ?_
            obtain ⟨o10, h⟩ := h
            refine w_iastore ((a1).toNatClampNeg) e_Mo_tape_65 hw3 lay_158 (by decide) o10 rfl ?_
            refine g_iconst (v := 0) e_Mo_tape_66 (by decide) ?_
            refine g_istore (lv := [(4, .int 0), (0, .ref (qb E + 115)), (1, .int a1), (2, .int a2), (3, .int a3)]) e_Mo_tape_67 (by decide) rfl ?_
            refine g_loc [1, 2, 0] rfl ?_
            exact h
        · have h := h.2 z6
          refine g_iload_n 3 e_Mo_tape_37 rfl rfl ?_
          refine g_if_ge 44 e_Mo_tape_38 (by decide) ⟨fun z11 => ?_, fun z11 => ?_⟩
          · have h := h.1 z11
            refine g_aload_n 0 e_Mo_tape_44 rfl rfl ?_
            refine gf_Mo_232 rfl e_Mo_tape_45 hw3 lay_115 (by decide) (sh_Mo_sort hw3) ?_
            refine g_iload_n 1 e_Mo_tape_48 rfl rfl ?_
            refine g_iload_n 2 e_Mo_tape_49 rfl rfl ?_
            obtain ⟨o12, h⟩ := h
            refine w_iastore ((a1).toNatClampNeg) e_Mo_tape_50 hw3 lay_157 (by decide) o12 rfl ?_
            refine g_aload_n 0 e_Mo_tape_51 rfl rfl ?_
            refine gf_Mo_235 rfl e_Mo_tape_52 hw3 lay_115 (by decide) (sh_Mo_length hw3) ?_
            refine g_iload_n 1 e_Mo_tape_55 rfl rfl ?_
            refine g_iload_n 2 e_Mo_tape_56 rfl rfl ?_
            refine g_if_ge 64 e_Mo_tape_57 (by decide) ⟨fun z13 => ?_, fun z13 => ?_⟩
            · have h := h.1 z13
              refine g_iload_n 3 e_Mo_tape_64 rfl rfl ?_
              obtain ⟨o14, h⟩ := h
              refine w_iastore ((a1).toNatClampNeg) e_Mo_tape_65 hw3 lay_158 (by decide) o14 rfl ?_
              refine g_iconst (v := 0) e_Mo_tape_66 (by decide) ?_
              refine g_istore (lv := [(4, .int 0), (0, .ref (qb E + 115)), (1, .int a1), (2, .int a2), (3, .int a3)]) e_Mo_tape_67 (by decide) rfl ?_
              refine g_loc [1, 2, 0] rfl ?_
              exact h
            · have h := h.2 z13
              refine g_iconst (v := 0) e_Mo_tape_60 (by decide) ?_
              refine g_goto 65 e_Mo_tape_61 (by decide) ?_
              obtain ⟨o15, h⟩ := h
              refine w_iastore ((a1).toNatClampNeg) e_Mo_tape_65 hw3 lay_158 (by decide) o15 rfl ?_
              refine g_iconst (v := 0) e_Mo_tape_66 (by decide) ?_
              refine g_istore (lv := [(4, .int 0), (0, .ref (qb E + 115)), (1, .int a1), (2, .int a2), (3, .int a3)]) e_Mo_tape_67 (by decide) rfl ?_
              refine g_loc [1, 2, 0] rfl ?_
              exact h
          · have h := h.2 z11
            refine g_bipush (v := (-14)) e_Mo_tape_41 (by decide) ?_
            exact g_iret e_Mo_tape_43 rfl ⟨Sh.n hw3, _, rfl, hw3, h⟩
      · have h := h.2 z5
        refine g_iload_n 3 e_Mo_tape_24 rfl rfl ?_
        refine g_bipush (v := 60) e_Mo_tape_25 (by decide) ?_
        refine g_icmp_le 33 e_Mo_tape_27 (by decide) ⟨fun z16 => ?_, fun z16 => ?_⟩
        · have h := h.1 z16
          refine g_iload_n 2 e_Mo_tape_33 rfl rfl ?_
          refine g_if_lt 44 e_Mo_tape_34 (by decide) ⟨fun z17 => ?_, fun z17 => ?_⟩
          · have h := h.1 z17
            refine g_aload_n 0 e_Mo_tape_44 rfl rfl ?_
            refine gf_Mo_232 rfl e_Mo_tape_45 hw3 lay_115 (by decide) (sh_Mo_sort hw3) ?_
            refine g_iload_n 1 e_Mo_tape_48 rfl rfl ?_
            refine g_iload_n 2 e_Mo_tape_49 rfl rfl ?_
            obtain ⟨o18, h⟩ := h
            refine w_iastore ((a1).toNatClampNeg) e_Mo_tape_50 hw3 lay_157 (by decide) o18 rfl ?_
            refine g_aload_n 0 e_Mo_tape_51 rfl rfl ?_
            refine gf_Mo_235 rfl e_Mo_tape_52 hw3 lay_115 (by decide) (sh_Mo_length hw3) ?_
            refine g_iload_n 1 e_Mo_tape_55 rfl rfl ?_
            refine g_iload_n 2 e_Mo_tape_56 rfl rfl ?_
            refine g_if_ge 64 e_Mo_tape_57 (by decide) ⟨fun z19 => ?_, fun z19 => ?_⟩
            · have h := h.1 z19
              refine g_iload_n 3 e_Mo_tape_64 rfl rfl ?_
              obtain ⟨o20, h⟩ := h
              refine w_iastore ((a1).toNatClampNeg) e_Mo_tape_65 hw3 lay_158 (by decide) o20 rfl ?_
              refine g_iconst (v := 0) e_Mo_tape_66 (by decide) ?_
              refine g_istore (lv := [(4, .int 0), (0, .ref (qb E + 115)), (1, .int a1), (2, .int a2), (3, .int a3)]) e_Mo_tape_67 (by decide) rfl ?_
              refine g_loc [1, 2, 0] rfl ?_
              exact h
            · have h := h.2 z19
              refine g_iconst (v := 0) e_Mo_tape_60 (by decide) ?_
              refine g_goto 65 e_Mo_tape_61 (by decide) ?_
              obtain ⟨o21, h⟩ := h
              refine w_iastore ((a1).toNatClampNeg) e_Mo_tape_65 hw3 lay_158 (by decide) o21 rfl ?_
              refine g_iconst (v := 0) e_Mo_tape_66 (by decide) ?_
              refine g_istore (lv := [(4, .int 0), (0, .ref (qb E + 115)), (1, .int a1), (2, .int a2), (3, .int a3)]) e_Mo_tape_67 (by decide) rfl ?_
              refine g_loc [1, 2, 0] rfl ?_
              exact h
          · have h := h.2 z17
            refine g_iload_n 3 e_Mo_tape_37 rfl rfl ?_
            refine g_if_ge 44 e_Mo_tape_38 (by decide) ⟨fun z22 => ?_, fun z22 => ?_⟩
            · have h := h.1 z22
              refine g_aload_n 0 e_Mo_tape_44 rfl rfl ?_
              refine gf_Mo_232 rfl e_Mo_tape_45 hw3 lay_115 (by decide) (sh_Mo_sort hw3) ?_
              refine g_iload_n 1 e_Mo_tape_48 rfl rfl ?_
              refine g_iload_n 2 e_Mo_tape_49 rfl rfl ?_
              obtain ⟨o23, h⟩ := h
              refine w_iastore ((a1).toNatClampNeg) e_Mo_tape_50 hw3 lay_157 (by decide) o23 rfl ?_
              refine g_aload_n 0 e_Mo_tape_51 rfl rfl ?_
              refine gf_Mo_235 rfl e_Mo_tape_52 hw3 lay_115 (by decide) (sh_Mo_length hw3) ?_
              refine g_iload_n 1 e_Mo_tape_55 rfl rfl ?_
              refine g_iload_n 2 e_Mo_tape_56 rfl rfl ?_
              refine g_if_ge 64 e_Mo_tape_57 (by decide) ⟨fun z24 => ?_, fun z24 => ?_⟩
              · have h := h.1 z24
                refine g_iload_n 3 e_Mo_tape_64 rfl rfl ?_
                obtain ⟨o25, h⟩ := h
                refine w_iastore ((a1).toNatClampNeg) e_Mo_tape_65 hw3 lay_158 (by decide) o25 rfl ?_
                refine g_iconst (v := 0) e_Mo_tape_66 (by decide) ?_
                refine g_istore (lv := [(4, .int 0), (0, .ref (qb E + 115)), (1, .int a1), (2, .int a2), (3, .int a3)]) e_Mo_tape_67 (by decide) rfl ?_
                refine g_loc [1, 2, 0] rfl ?_
                exact h
              · have h := h.2 z24
                refine g_iconst (v := 0) e_Mo_tape_60 (by decide) ?_
                refine g_goto 65 e_Mo_tape_61 (by decide) ?_
                obtain ⟨o26, h⟩ := h
                refine w_iastore ((a1).toNatClampNeg) e_Mo_tape_65 hw3 lay_158 (by decide) o26 rfl ?_
                refine g_iconst (v := 0) e_Mo_tape_66 (by decide) ?_
                refine g_istore (lv := [(4, .int 0), (0, .ref (qb E + 115)), (1, .int a1), (2, .int a2), (3, .int a3)]) e_Mo_tape_67 (by decide) rfl ?_
                refine g_loc [1, 2, 0] rfl ?_
                exact h
            · have h := h.2 z22
              refine g_bipush (v := (-14)) e_Mo_tape_41 (by decide) ?_
              exact g_iret e_Mo_tape_43 rfl ⟨Sh.n hw3, _, rfl, hw3, h⟩
        · have h := h.2 z16
          refine g_bipush (v := (-2)) e_Mo_tape_30 (by decide) ?_
          exact g_iret e_Mo_tape_32 rfl ⟨Sh.n hw3, _, rfl, hw3, h⟩
  · have h := h.2 z2
    refine g_iconst (v := (-1)) e_Mo_tape_8 (by decide) ?_
    exact g_iret e_Mo_tape_9 rfl ⟨Sh.n hw1, _, rfl, hw1, h⟩
set_option maxHeartbeats 4000000 in
set_option maxRecDepth 8000 in
theorem s_Mo_tape_69 {d : Nat} {E : qE} {Q : qW → Int32 → Prop} {l1 : Int32} {l4 : Int32} {w : qW} (hw : Sh w) (h : ((60 ≤ l4) → (Q w 1)) ∧ ((¬ 60 ≤ l4) → (vp_in ((60 * l1) + l4) 360 ∧ (c_Mo_tape_69 d E Q l1 (l4 + 1) (qpl w 159 (((60 * l1) + l4).toNatClampNeg) 0))))) : c_Mo_tape_69 d E Q l1 l4 w := by
  unfold c_Mo_tape_69
  refine g_iload 2 e_Mo_tape_69 rfl ?_
  refine g_bipush (v := 60) e_Mo_tape_71 (by decide) ?_
  refine g_icmp_ge 95 e_Mo_tape_73 (by decide) ⟨fun z1 => ?_, fun z1 => ?_⟩
  · have h := h.1 z1
    refine g_iconst (v := 1) e_Mo_tape_95 (by decide) ?_
    exact g_iret e_Mo_tape_96 rfl ⟨Sh.n hw, _, rfl, hw, h⟩
  · have h := h.2 z1
    refine g_aload_n 0 e_Mo_tape_76 rfl rfl ?_
    refine gf_Mo_238 rfl e_Mo_tape_77 hw lay_115 (by decide) (sh_Mo_item hw) ?_
    refine g_bipush (v := 60) e_Mo_tape_80 (by decide) ?_
    refine g_iload_n 1 e_Mo_tape_82 rfl rfl ?_
    refine g_imul e_Mo_tape_83 ?_
    refine g_iload 2 e_Mo_tape_84 rfl ?_
    refine g_iadd e_Mo_tape_86 ?_
    refine g_lconst (v := 0) e_Mo_tape_87 rfl ?_
    obtain ⟨o2, h⟩ := h
    refine w_lastore (((60 * l1) + l4).toNatClampNeg) e_Mo_tape_88 hw lay_159 (by decide) o2 rfl ?_
    refine g_iinc (v := (l4 + 1)) (lv := [(4, .int (l4 + 1)), (0, .ref (qb E + 115)), (1, .int l1)]) 2 e_Mo_tape_89 rfl rfl (by decide) rfl ?_
    refine g_goto 69 e_Mo_tape_92 (by decide) ?_
    refine g_loc [1, 2, 0] rfl ?_
    exact h
theorem en_Mo_tape {d : Nat} {E : qE} {Q : qW → Int32 → Prop} {a1 : Int32} {a2 : Int32} {a3 : Int32} {w : qW} (hw : Sh w) (h : c_Mo_tape_0 d E Q a1 a2 a3 w) : CaI (d + 2) M_Mo_tape [.ref (qb E + 115), .int a1, .int a2, .int a3] E w Q := Ca.into hw rfl (Nat.le_of_ble_eq_true rfl) h
def c_Mo_narrow_0 (d : Nat) (E : qE) (Q : qW → Int64 → Prop) (a1 : Int32) (a2 : Int64) (w : qW) : Prop := Go d M_Mo_narrow E 161 161 (qFL Q) 0 [(0, .ref (qb E + 115)), (1, .int a1), (2, .long a2)] [] w
set_option maxHeartbeats 4000000 in
set_option maxRecDepth 8000 in
theorem s_Mo_narrow_0 {d : Nat} {E : qE} {Q : qW → Int64 → Prop} {a1 : Int32} {a2 : Int64} {w : qW} (hw : Sh w) (h : ((¬ a1 = 0) → (((¬ a1 = 1) → (((¬ a1 = 2) → (((¬ a1 = 4) → (Q w a2)) ∧ ((a1 = 4) → ((((lg_cmp a2 0) = 0) → (Q w 0)) ∧ ((¬ (lg_cmp a2 0) = 0) → (Q w 1)))))) ∧ ((a1 = 2) → (Q w (((a2 : Int64).toInt32 : Int32).toInt64))))) ∧ ((a1 = 1) → (Q w ((((a2 : Int64).toInt32 : Int32).toInt16.toInt32 : Int32).toInt64))))) ∧ ((a1 = 0) → (Q w ((((a2 : Int64).toInt32 : Int32).toInt8.toInt32 : Int32).toInt64)))) : c_Mo_narrow_0 d E Q a1 a2 w := by
  unfold c_Mo_narrow_0
  refine g_iload_n 1 e_Mo_narrow_0 rfl rfl ?_
  refine g_if_ne 11 e_Mo_narrow_1 (by decide) ⟨fun z1 => ?_, fun z1 => ?_⟩
  · have h := h.1 z1
    refine g_iload_n 1 e_Mo_narrow_11 rfl rfl ?_
    refine g_iconst (v := 1) e_Mo_narrow_12 (by decide) ?_
    refine g_icmp_ne 23 e_Mo_narrow_13 (by decide) ⟨fun z2 => ?_, fun z2 => ?_⟩
    · have h := h.1 z2
      refine g_iload_n 1 e_Mo_narrow_23 rfl rfl ?_
      refine g_iconst (v := 2) e_Mo_narrow_24 (by decide) ?_
      refine g_icmp_ne 34 e_Mo_narrow_25 (by decide) ⟨fun z3 => ?_, fun z3 => ?_⟩
      · have h := h.1 z3
        refine g_iload_n 1 e_Mo_narrow_34 rfl rfl ?_
        refine g_iconst (v := 4) e_Mo_narrow_35 (by decide) ?_
        refine g_icmp_ne 53 e_Mo_narrow_36 (by decide) ⟨fun z4 => ?_, fun z4 => ?_⟩
        · have h := h.1 z4
          refine g_lload_n 2 e_Mo_narrow_53 rfl rfl ?_
          exact g_lret e_Mo_narrow_54 rfl ⟨Sh.n hw, _, rfl, hw, h⟩
        · have h := h.2 z4
          refine g_lload_n 2 e_Mo_narrow_39 rfl rfl ?_
          refine g_lconst (v := 0) e_Mo_narrow_40 rfl ?_
          refine g_lcmp e_Mo_narrow_41 ?_
          refine g_if_eq 49 e_Mo_narrow_42 (by decide) ⟨fun z5 => ?_, fun z5 => ?_⟩
          · have h := h.1 z5
            refine g_lconst (v := 0) e_Mo_narrow_49 rfl ?_
            refine g_goto 54 e_Mo_narrow_50 (by decide) ?_
            exact g_lret e_Mo_narrow_54 rfl ⟨Sh.n hw, _, rfl, hw, h⟩
          · have h := h.2 z5
            refine g_lconst (v := 1) e_Mo_narrow_45 rfl ?_
            refine g_goto 54 e_Mo_narrow_46 (by decide) ?_
            exact g_lret e_Mo_narrow_54 rfl ⟨Sh.n hw, _, rfl, hw, h⟩
      · have h := h.2 z3
        refine g_lload_n 2 e_Mo_narrow_28 rfl rfl ?_
        refine g_l2i e_Mo_narrow_29 ?_
        refine g_i2l e_Mo_narrow_30 ?_
        refine g_goto 54 e_Mo_narrow_31 (by decide) ?_
        exact g_lret e_Mo_narrow_54 rfl ⟨Sh.n hw, _, rfl, hw, h⟩
    · have h := h.2 z2
      refine g_lload_n 2 e_Mo_narrow_16 rfl rfl ?_
      refine g_l2i e_Mo_narrow_17 ?_
      refine g_i2s e_Mo_narrow_18 ?_
      refine g_i2l e_Mo_narrow_19 ?_
      refine g_goto 54 e_Mo_narrow_20 (by decide) ?_
      exact g_lret e_Mo_narrow_54 rfl ⟨Sh.n hw, _, rfl, hw, h⟩
  · have h := h.2 z1
    refine g_lload_n 2 e_Mo_narrow_4 rfl rfl ?_
    refine g_l2i e_Mo_narrow_5 ?_
    refine g_i2b e_Mo_narrow_6 ?_
    refine g_i2l e_Mo_narrow_7 ?_
    refine g_goto 54 e_Mo_narrow_8 (by decide) ?_
    exact g_lret e_Mo_narrow_54 rfl ⟨Sh.n hw, _, rfl, hw, h⟩
theorem en_Mo_narrow {d : Nat} {E : qE} {Q : qW → Int64 → Prop} {a1 : Int32} {a2 : Int64} {w : qW} (hw : Sh w) (h : c_Mo_narrow_0 d E Q a1 a2 w) : CaL d M_Mo_narrow [.ref (qb E + 115), .int a1, .long a2] E w Q := Ca.into hw rfl (Nat.le_of_ble_eq_true rfl) h
def c_Mo_item_0 (d : Nat) (E : qE) (Q : qW → Int32 → Prop) (a1 : Int32) (a2 : Int32) (a3 : Int64) (w : qW) : Prop := Go (d + 2) M_Mo_item E 161 161 (qFI Q) 0 [(0, .ref (qb E + 115)), (1, .int a1), (2, .int a2), (3, .long a3)] [] w
set_option maxHeartbeats 4000000 in
set_option maxRecDepth 8000 in
theorem s_Mo_item_0 {d : Nat} {E : qE} {Q : qW → Int32 → Prop} {a1 : Int32} {a2 : Int32} {a3 : Int64} {w : qW} (hw : Sh w) (h : CaI (d + 1) M_Mo_isTape [.ref (qb E + 115), .int a1] E w (fun w1 x1 => ((¬ x1 = 0) → (vp_in a1 6 ∧ (((0 ≤ (qi w1 157 ((a1).toNatClampNeg))) → (vp_in a1 6 ∧ (CaI (d + 1) M_Mo_in [.ref (qb E + 115), .int a2, .int 0, .int ((qi w1 158 ((a1).toNatClampNeg)) - 1)] E w1 (fun w6 x6 => ((¬ x6 = 0) → (vp_in a1 6 ∧ (CaL (d + 1) M_Mo_narrow [.ref (qb E + 115), .int (qi w6 157 ((a1).toNatClampNeg)), .long a3] E w6 (fun w9 x9 => vp_in ((60 * a1) + a2) 360 ∧ (Q (qpl w9 159 (((60 * a1) + a2).toNatClampNeg) x9) 1))))) ∧ ((x6 = 0) → (Q w6 (-13))))))) ∧ ((¬ 0 ≤ (qi w1 157 ((a1).toNatClampNeg))) → (Q w1 (-11)))))) ∧ ((x1 = 0) → (Q w1 (-1))))) : c_Mo_item_0 d E Q a1 a2 a3 w := by
  unfold c_Mo_item_0
  refine g_aload_n 0 e_Mo_item_0 rfl rfl ?_
  refine g_iload_n 1 e_Mo_item_1 rfl rfl ?_
  refine w_callVI (w := w) (As := [.int a1]) (rest := []) e_Mo_item_2 ok_Mo_isTape rfl km_Mo_406 kx_Mo_isTape kv_Mo_isTape rfl (by decide) hw lay_115 (by decide) rfl (Nat.le_of_ble_eq_true rfl) h (fun w1 x1 hw1 h => ?_)
  refine g_if_ne 10 e_Mo_item_5 (by decide) ⟨fun z2 => ?_, fun z2 => ?_⟩
  · have h := h.1 z2
    refine g_aload_n 0 e_Mo_item_10 rfl rfl ?_
    refine gf_Mo_232 rfl e_Mo_item_11 hw1 lay_115 (by decide) (sh_Mo_sort hw1) ?_
    refine g_iload_n 1 e_Mo_item_14 rfl rfl ?_
    obtain ⟨o3, h⟩ := h
    refine w_iaload ((a1).toNatClampNeg) e_Mo_item_15 hw1 lay_157 (by decide) o3 rfl ?_
    refine g_if_ge 22 e_Mo_item_16 (by decide) ⟨fun z4 => ?_, fun z4 => ?_⟩
    · have h := h.1 z4
      refine g_aload_n 0 e_Mo_item_22 rfl rfl ?_
      refine g_iload_n 2 e_Mo_item_23 rfl rfl ?_
      refine g_iconst (v := 0) e_Mo_item_24 (by decide) ?_
      refine g_aload_n 0 e_Mo_item_25 rfl rfl ?_
      refine gf_Mo_235 rfl e_Mo_item_26 hw1 lay_115 (by decide) (sh_Mo_length hw1) ?_
      refine g_iload_n 1 e_Mo_item_29 rfl rfl ?_
      obtain ⟨o5, h⟩ := h
      refine w_iaload ((a1).toNatClampNeg) e_Mo_item_30 hw1 lay_158 (by decide) o5 rfl ?_
      refine g_iconst (v := 1) e_Mo_item_31 (by decide) ?_
      refine g_isub e_Mo_item_32 ?_
      refine w_callVI (w := w1) (As := [.int a2, .int 0, .int ((qi w1 158 ((a1).toNatClampNeg)) - 1)]) (rest := []) e_Mo_item_33 ok_Mo_in rfl km_Mo_249 kx_Mo_in kv_Mo_in rfl (by decide) hw1 lay_115 (by decide) rfl (Nat.le_of_ble_eq_true rfl) h (fun w6 x6 hw6 h => ?_)
      refine g_if_ne 42 e_Mo_item_36 (by decide) ⟨fun z7 => ?_, fun z7 => ?_⟩
      · have h := h.1 z7
        refine g_aload_n 0 e_Mo_item_42 rfl rfl ?_
        refine gf_Mo_238 rfl e_Mo_item_43 hw6 lay_115 (by decide) (sh_Mo_item hw6) ?_
        refine g_bipush (v := 60) e_Mo_item_46 (by decide) ?_
        refine g_iload_n 1 e_Mo_item_48 rfl rfl ?_
        refine g_imul e_Mo_item_49 ?_
        refine g_iload_n 2 e_Mo_item_50 rfl rfl ?_
        refine g_iadd e_Mo_item_51 ?_
        refine g_aload_n 0 e_Mo_item_52 rfl rfl ?_
        refine g_aload_n 0 e_Mo_item_53 rfl rfl ?_
        refine gf_Mo_232 rfl e_Mo_item_54 hw6 lay_115 (by decide) (sh_Mo_sort hw6) ?_
        refine g_iload_n 1 e_Mo_item_57 rfl rfl ?_
        obtain ⟨o8, h⟩ := h
        refine w_iaload ((a1).toNatClampNeg) e_Mo_item_58 hw6 lay_157 (by decide) o8 rfl ?_
        refine g_lload_n 3 e_Mo_item_59 rfl rfl ?_
        refine w_callVL (w := w6) (As := [.int (qi w6 157 ((a1).toNatClampNeg)), .long a3]) (rest := [.int ((60 * a1) + a2), .ref (qb E + 159)]) e_Mo_item_60 ok_Mo_narrow rfl km_Mo_433 kx_Mo_narrow kv_Mo_narrow rfl (by decide) hw6 lay_115 (by decide) rfl (Nat.le_of_ble_eq_true rfl) h (fun w9 x9 hw9 h => ?_)
        obtain ⟨o10, h⟩ := h
        refine w_lastore (((60 * a1) + a2).toNatClampNeg) e_Mo_item_63 hw9 lay_159 (by decide) o10 rfl ?_
        refine g_iconst (v := 1) e_Mo_item_64 (by decide) ?_
        exact g_iret e_Mo_item_65 rfl ⟨Sh.n hw9, _, rfl, hw9, h⟩
      · have h := h.2 z7
        refine g_bipush (v := (-13)) e_Mo_item_39 (by decide) ?_
        exact g_iret e_Mo_item_41 rfl ⟨Sh.n hw6, _, rfl, hw6, h⟩
    · have h := h.2 z4
      refine g_bipush (v := (-11)) e_Mo_item_19 (by decide) ?_
      exact g_iret e_Mo_item_21 rfl ⟨Sh.n hw1, _, rfl, hw1, h⟩
  · have h := h.2 z2
    refine g_iconst (v := (-1)) e_Mo_item_8 (by decide) ?_
    exact g_iret e_Mo_item_9 rfl ⟨Sh.n hw1, _, rfl, hw1, h⟩
theorem en_Mo_item {d : Nat} {E : qE} {Q : qW → Int32 → Prop} {a1 : Int32} {a2 : Int32} {a3 : Int64} {w : qW} (hw : Sh w) (h : c_Mo_item_0 d E Q a1 a2 a3 w) : CaI (d + 2) M_Mo_item [.ref (qb E + 115), .int a1, .int a2, .long a3] E w Q := Ca.into hw rfl (Nat.le_of_ble_eq_true rfl) h
def c_Mo_read_0 (d : Nat) (E : qE) (Q : qW → Int64 → Prop) (a1 : Int32) (a2 : Int32) (w : qW) : Prop := Go (d + 2) M_Mo_read E 161 161 (qFL Q) 0 [(0, .ref (qb E + 115)), (1, .int a1), (2, .int a2)] [] w
set_option maxHeartbeats 4000000 in
set_option maxRecDepth 8000 in
theorem s_Mo_read_0 {d : Nat} {E : qE} {Q : qW → Int64 → Prop} {a1 : Int32} {a2 : Int32} {w : qW} (hw : Sh w) (h : CaI (d + 1) M_Mo_isTape [.ref (qb E + 115), .int a1] E w (fun w1 x1 => ((x1 = 0) → (Q w1 (-9223372036854775808))) ∧ ((¬ x1 = 0) → (vp_in a1 6 ∧ ((((qi w1 157 ((a1).toNatClampNeg)) < 0) → (Q w1 (-9223372036854775808))) ∧ ((¬ (qi w1 157 ((a1).toNatClampNeg)) < 0) → (vp_in a1 6 ∧ (CaI (d + 1) M_Mo_in [.ref (qb E + 115), .int a2, .int 0, .int ((qi w1 158 ((a1).toNatClampNeg)) - 1)] E w1 (fun w6 x6 => ((¬ x6 = 0) → (vp_in ((60 * a1) + a2) 360 ∧ (Q w6 (ql w6 159 (((60 * a1) + a2).toNatClampNeg))))) ∧ ((x6 = 0) → (Q w6 (-9223372036854775808)))))))))))) : c_Mo_read_0 d E Q a1 a2 w := by
  unfold c_Mo_read_0
  refine g_aload_n 0 e_Mo_read_0 rfl rfl ?_
  refine g_iload_n 1 e_Mo_read_1 rfl rfl ?_
  refine w_callVI (w := w) (As := [.int a1]) (rest := []) e_Mo_read_2 ok_Mo_isTape rfl km_Mo_406 kx_Mo_isTape kv_Mo_isTape rfl (by decide) hw lay_115 (by decide) rfl (Nat.le_of_ble_eq_true rfl) h (fun w1 x1 hw1 h => ?_)
  refine g_if_eq 34 e_Mo_read_5 (by decide) ⟨fun z2 => ?_, fun z2 => ?_⟩
  · have h := h.1 z2
    refine g_ldc2 (v := (-9223372036854775808)) e_Mo_read_34 kk_Mo_396 ?_
    refine g_goto 51 e_Mo_read_37 (by decide) ?_
    exact g_lret e_Mo_read_51 rfl ⟨Sh.n hw1, _, rfl, hw1, h⟩
  · have h := h.2 z2
    refine g_aload_n 0 e_Mo_read_8 rfl rfl ?_
    refine gf_Mo_232 rfl e_Mo_read_9 hw1 lay_115 (by decide) (sh_Mo_sort hw1) ?_
    refine g_iload_n 1 e_Mo_read_12 rfl rfl ?_
    obtain ⟨o3, h⟩ := h
    refine w_iaload ((a1).toNatClampNeg) e_Mo_read_13 hw1 lay_157 (by decide) o3 rfl ?_
    refine g_if_lt 34 e_Mo_read_14 (by decide) ⟨fun z4 => ?_, fun z4 => ?_⟩
    · have h := h.1 z4
      refine g_ldc2 (v := (-9223372036854775808)) e_Mo_read_34 kk_Mo_396 ?_
      refine g_goto 51 e_Mo_read_37 (by decide) ?_
      exact g_lret e_Mo_read_51 rfl ⟨Sh.n hw1, _, rfl, hw1, h⟩
    · have h := h.2 z4
      refine g_aload_n 0 e_Mo_read_17 rfl rfl ?_
      refine g_iload_n 2 e_Mo_read_18 rfl rfl ?_
      refine g_iconst (v := 0) e_Mo_read_19 (by decide) ?_
      refine g_aload_n 0 e_Mo_read_20 rfl rfl ?_
      refine gf_Mo_235 rfl e_Mo_read_21 hw1 lay_115 (by decide) (sh_Mo_length hw1) ?_
      refine g_iload_n 1 e_Mo_read_24 rfl rfl ?_
      obtain ⟨o5, h⟩ := h
      refine w_iaload ((a1).toNatClampNeg) e_Mo_read_25 hw1 lay_158 (by decide) o5 rfl ?_
      refine g_iconst (v := 1) e_Mo_read_26 (by decide) ?_
      refine g_isub e_Mo_read_27 ?_
      refine w_callVI (w := w1) (As := [.int a2, .int 0, .int ((qi w1 158 ((a1).toNatClampNeg)) - 1)]) (rest := []) e_Mo_read_28 ok_Mo_in rfl km_Mo_249 kx_Mo_in kv_Mo_in rfl (by decide) hw1 lay_115 (by decide) rfl (Nat.le_of_ble_eq_true rfl) h (fun w6 x6 hw6 h => ?_)
      refine g_if_ne 40 e_Mo_read_31 (by decide) ⟨fun z7 => ?_, fun z7 => ?_⟩
      · have h := h.1 z7
        refine g_aload_n 0 e_Mo_read_40 rfl rfl ?_
        refine gf_Mo_238 rfl e_Mo_read_41 hw6 lay_115 (by decide) (sh_Mo_item hw6) ?_
        refine g_bipush (v := 60) e_Mo_read_44 (by decide) ?_
        refine g_iload_n 1 e_Mo_read_46 rfl rfl ?_
        refine g_imul e_Mo_read_47 ?_
        refine g_iload_n 2 e_Mo_read_48 rfl rfl ?_
        refine g_iadd e_Mo_read_49 ?_
        obtain ⟨o8, h⟩ := h
        refine w_laload (((60 * a1) + a2).toNatClampNeg) e_Mo_read_50 hw6 lay_159 (by decide) o8 rfl ?_
        exact g_lret e_Mo_read_51 rfl ⟨Sh.n hw6, _, rfl, hw6, h⟩
      · have h := h.2 z7
        refine g_ldc2 (v := (-9223372036854775808)) e_Mo_read_34 kk_Mo_396 ?_
        refine g_goto 51 e_Mo_read_37 (by decide) ?_
        exact g_lret e_Mo_read_51 rfl ⟨Sh.n hw6, _, rfl, hw6, h⟩
theorem en_Mo_read {d : Nat} {E : qE} {Q : qW → Int64 → Prop} {a1 : Int32} {a2 : Int32} {w : qW} (hw : Sh w) (h : c_Mo_read_0 d E Q a1 a2 w) : CaL (d + 2) M_Mo_read [.ref (qb E + 115), .int a1, .int a2] E w Q := Ca.into hw rfl (Nat.le_of_ble_eq_true rfl) h
def c_Mo_shift_0 (d : Nat) (E : qE) (Q : qW → Int32 → Prop) (a1 : Int32) (a2 : Int32) (a3 : Int32) (a4 : Int32) (a5 : Int32) (w : qW) : Prop := Go (d + 2) M_Mo_shift E 161 161 (qFI Q) 0 [(0, .ref (qb E + 115)), (1, .int a1), (2, .int a2), (3, .int a3), (4, .int a4), (5, .int a5)] [] w
def c_Mo_shift_104 (d : Nat) (E : qE) (Q : qW → Int32 → Prop) (l1 : Int32) (l2 : Int32) (l3 : Int32) (l4 : Int32) (l5 : Int32) (l6 : Int32) (w : qW) : Prop := Go (d + 2) M_Mo_shift E 161 161 (qFI Q) 104 [(0, .ref (qb E + 115)), (1, .int l1), (2, .int l2), (3, .int l3), (4, .int l4), (5, .int l5), (6, .int l6)] [] w
def c_Mo_shift_141 (d : Nat) (E : qE) (Q : qW → Int32 → Prop) (l3 : Int32) (l4 : Int32) (l5 : Int32) (l6 : Int32) (w : qW) : Prop := Go (d + 2) M_Mo_shift E 161 161 (qFI Q) 141 [(0, .ref (qb E + 115)), (3, .int l3), (4, .int l4), (5, .int l5), (6, .int l6)] [] w
set_option maxHeartbeats 4000000 in
set_option maxRecDepth 8000 in
theorem s_Mo_shift_0 {d : Nat} {E : qE} {Q : qW → Int32 → Prop} {a1 : Int32} {a2 : Int32} {a3 : Int32} {a4 : Int32} {a5 : Int32} {w : qW} (hw : Sh w) (h : CaI (d + 1) M_Mo_isTape [.ref (qb E + 115), .int a1] E w (fun w1 x1 => ((x1 = 0) → (Q w1 (-1))) ∧ ((¬ x1 = 0) → (CaI (d + 1) M_Mo_isTape [.ref (qb E + 115), .int a3] E w1 (fun w3 x3 => ((¬ x3 = 0) → (vp_in a1 6 ∧ ((((qi w3 157 ((a1).toNatClampNeg)) < 0) → (Q w3 (-11))) ∧ ((¬ (qi w3 157 ((a1).toNatClampNeg)) < 0) → (vp_in a3 6 ∧ (((0 ≤ (qi w3 157 ((a3).toNatClampNeg))) → (vp_in a1 6 ∧ (vp_in a3 6 ∧ ((((qi w3 157 ((a1).toNatClampNeg)) = (qi w3 157 ((a3).toNatClampNeg))) → (((a5 < 0) → (Q w3 (-13))) ∧ ((¬ a5 < 0) → (((a2 < 0) → (Q w3 (-13))) ∧ ((¬ a2 < 0) → (((a4 < 0) → (Q w3 (-13))) ∧ ((¬ a4 < 0) → (vp_in a1 6 ∧ (((((qi w3 158 ((a1).toNatClampNeg)) - a5) < a2) → (Q w3 (-13))) ∧ ((¬ ((qi w3 158 ((a1).toNatClampNeg)) - a5) < a2) → (vp_in a3 6 ∧ (((a4 ≤ ((qi w3 158 ((a3).toNatClampNeg)) - a5)) → (c_Mo_shift_104 d E Q a1 a2 a3 a4 a5 0 w3)) ∧ ((¬ a4 ≤ ((qi w3 158 ((a3).toNatClampNeg)) - a5)) → (Q w3 (-13))))))))))))))) ∧ ((¬ (qi w3 157 ((a1).toNatClampNeg)) = (qi w3 157 ((a3).toNatClampNeg))) → (Q w3 (-12))))))) ∧ ((¬ 0 ≤ (qi w3 157 ((a3).toNatClampNeg))) → (Q w3 (-11))))))))) ∧ ((x3 = 0) → (Q w3 (-1)))))))) : c_Mo_shift_0 d E Q a1 a2 a3 a4 a5 w := by
  unfold c_Mo_shift_0
  refine g_aload_n 0 e_Mo_shift_0 rfl rfl ?_
  refine g_iload_n 1 e_Mo_shift_1 rfl rfl ?_
  refine w_callVI (w := w) (As := [.int a1]) (rest := []) e_Mo_shift_2 ok_Mo_isTape rfl km_Mo_406 kx_Mo_isTape kv_Mo_isTape rfl (by decide) hw lay_115 (by decide) rfl (Nat.le_of_ble_eq_true rfl) h (fun w1 x1 hw1 h => ?_)
  refine g_if_eq 16 e_Mo_shift_5 (by decide) ⟨fun z2 => ?_, fun z2 => ?_⟩
  · have h := h.1 z2
    refine g_iconst (v := (-1)) e_Mo_shift_16 (by decide) ?_
    exact g_iret e_Mo_shift_17 rfl ⟨Sh.n hw1, _, rfl, hw1, h⟩
  · have h := h.2 z2
    refine g_aload_n 0 e_Mo_shift_8 rfl rfl ?_
    refine g_iload_n 3 e_Mo_shift_9 rfl rfl ?_
    refine w_callVI (w := w1) (As := [.int a3]) (rest := []) e_Mo_shift_10 ok_Mo_isTape rfl km_Mo_406 kx_Mo_isTape kv_Mo_isTape rfl (by decide) hw1 lay_115 (by decide) rfl (Nat.le_of_ble_eq_true rfl) h (fun w3 x3 hw3 h => ?_)
    refine g_if_ne 18 e_Mo_shift_13 (by decide) ⟨fun z4 => ?_, fun z4 => ?_⟩
    · have h := h.1 z4
      refine g_aload_n 0 e_Mo_shift_18 rfl rfl ?_
      refine gf_Mo_232 rfl e_Mo_shift_19 hw3 lay_115 (by decide) (sh_Mo_sort hw3) ?_
      refine g_iload_n 1 e_Mo_shift_22 rfl rfl ?_
      obtain ⟨o5, h⟩ := h
      refine w_iaload ((a1).toNatClampNeg) e_Mo_shift_23 hw3 lay_157 (by decide) o5 rfl ?_
      refine g_if_lt 36 e_Mo_shift_24 (by decide) ⟨fun z6 => ?_, fun z6 => ?_⟩
      · have h := h.1 z6
        refine g_bipush (v := (-11)) e_Mo_shift_36 (by decide) ?_
        exact g_iret e_Mo_shift_38 rfl ⟨Sh.n hw3, _, rfl, hw3, h⟩
      · have h := h.2 z6
        refine g_aload_n 0 e_Mo_shift_27 rfl rfl ?_
        refine gf_Mo_232 rfl e_Mo_shift_28 hw3 lay_115 (by decide) (sh_Mo_sort hw3) ?_
        refine g_iload_n 3 e_Mo_shift_31 rfl rfl ?_
        obtain ⟨o7, h⟩ := h
        refine w_iaload ((a3).toNatClampNeg) e_Mo_shift_32 hw3 lay_157 (by decide) o7 rfl ?_
        refine g_if_ge 39 e_Mo_shift_33 (by decide) ⟨fun z8 => ?_, fun z8 => ?_⟩
        · have h := h.1 z8
          refine g_aload_n 0 e_Mo_shift_39 rfl rfl ?_
          refine gf_Mo_232 rfl e_Mo_shift_40 hw3 lay_115 (by decide) (sh_Mo_sort hw3) ?_
          refine g_iload_n 1 e_Mo_shift_43 rfl rfl ?_
          obtain ⟨o9, h⟩ := h
          refine w_iaload ((a1).toNatClampNeg) e_Mo_shift_44 hw3 lay_157 (by decide) o9 rfl ?_
          refine g_aload_n 0 e_Mo_shift_45 rfl rfl ?_
          refine gf_Mo_232 rfl e_Mo_shift_46 hw3 lay_115 (by decide) (sh_Mo_sort hw3) ?_
          refine g_iload_n 3 e_Mo_shift_49 rfl rfl ?_
          obtain ⟨o10, h⟩ := h
          refine w_iaload ((a3).toNatClampNeg) e_Mo_shift_50 hw3 lay_157 (by decide) o10 rfl ?_
          refine g_icmp_eq 57 e_Mo_shift_51 (by decide) ⟨fun z11 => ?_, fun z11 => ?_⟩
          · have h := h.1 z11
            refine g_iload 5 e_Mo_shift_57 rfl ?_
            refine g_if_lt 98 e_Mo_shift_59 (by decide) ⟨fun z12 => ?_, fun z12 => ?_⟩
            · have h := h.1 z12
              refine g_bipush (v := (-13)) e_Mo_shift_98 (by decide) ?_
              exact g_iret e_Mo_shift_100 rfl ⟨Sh.n hw3, _, rfl, hw3, h⟩
            · have h := h.2 z12
              refine g_iload_n 2 e_Mo_shift_62 rfl rfl ?_
              refine g_if_lt 98 e_Mo_shift_63 (by decide) ⟨fun z13 => ?_, fun z13 => ?_⟩
              · have h := h.1 z13
                refine g_bipush (v := (-13)) e_Mo_shift_98 (by decide) ?_
                exact g_iret e_Mo_shift_100 rfl ⟨Sh.n hw3, _, rfl, hw3, h⟩
              · have h := h.2 z13
                refine g_iload 4 e_Mo_shift_66 rfl ?_
                refine g_if_lt 98 e_Mo_shift_68 (by decide) ⟨fun z14 => ?_, fun z14 => ?_⟩
                · have h := h.1 z14
                  refine g_bipush (v := (-13)) e_Mo_shift_98 (by decide) ?_
                  exact g_iret e_Mo_shift_100 rfl ⟨Sh.n hw3, _, rfl, hw3, h⟩
                · have h := h.2 z14
                  refine g_iload_n 2 e_Mo_shift_71 rfl rfl ?_
                  refine g_aload_n 0 e_Mo_shift_72 rfl rfl ?_
                  refine gf_Mo_235 rfl e_Mo_shift_73 hw3 lay_115 (by decide) (sh_Mo_length hw3) ?_
                  refine g_iload_n 1 e_Mo_shift_76 rfl rfl ?_
                  obtain ⟨o15, h⟩ := h
                  refine w_iaload ((a1).toNatClampNeg) e_Mo_shift_77 hw3 lay_158 (by decide) o15 rfl ?_
                  refine g_iload 5 e_Mo_shift_78 rfl ?_
                  refine g_isub e_Mo_shift_80 ?_
                  refine g_icmp_gt 98 e_Mo_shift_81 (by decide) ⟨fun z16 => ?_, fun z16 => ?_⟩
                  · have h := h.1 z16
                    refine g_bipush (v := (-13)) e_Mo_shift_98 (by decide) ?_
                    exact g_iret e_Mo_shift_100 rfl ⟨Sh.n hw3, _, rfl, hw3, h⟩
                  · have h := h.2 z16
                    refine g_iload 4 e_Mo_shift_84 rfl ?_
                    refine g_aload_n 0 e_Mo_shift_86 rfl rfl ?_
                    refine gf_Mo_235 rfl e_Mo_shift_87 hw3 lay_115 (by decide) (sh_Mo_length hw3) ?_
                    refine g_iload_n 3 e_Mo_shift_90 rfl rfl ?_
                    obtain ⟨o17, h⟩ := h
                    refine w_iaload ((a3).toNatClampNeg) e_Mo_shift_91 hw3 lay_158 (by decide) o17 rfl ?_
                    refine g_iload 5 e_Mo_shift_92 rfl ?_
                    refine g_isub e_Mo_shift_94 ?_
                    refine g_icmp_le 101 e_Mo_shift_95 (by decide) ⟨fun z18 => ?_, fun z18 => ?_⟩
                    · have h := h.1 z18
                      refine g_iconst (v := 0) e_Mo_shift_101 (by decide) ?_
                      refine g_istore (lv := [(6, .int 0), (0, .ref (qb E + 115)), (1, .int a1), (2, .int a2), (3, .int a3), (4, .int a4), (5, .int a5)]) e_Mo_shift_102 (by decide) rfl ?_
                      refine g_loc [1, 2, 3, 4, 5, 6, 0] rfl ?_
                      exact h
                    · have h := h.2 z18
                      refine g_bipush (v := (-13)) e_Mo_shift_98 (by decide) ?_
                      exact g_iret e_Mo_shift_100 rfl ⟨Sh.n hw3, _, rfl, hw3, h⟩
          · have h := h.2 z11
            refine g_bipush (v := (-12)) e_Mo_shift_54 (by decide) ?_
            exact g_iret e_Mo_shift_56 rfl ⟨Sh.n hw3, _, rfl, hw3, h⟩
        · have h := h.2 z8
          refine g_bipush (v := (-11)) e_Mo_shift_36 (by decide) ?_
          exact g_iret e_Mo_shift_38 rfl ⟨Sh.n hw3, _, rfl, hw3, h⟩
    · have h := h.2 z4
      refine g_iconst (v := (-1)) e_Mo_shift_16 (by decide) ?_
      exact g_iret e_Mo_shift_17 rfl ⟨Sh.n hw3, _, rfl, hw3, h⟩
set_option maxHeartbeats 4000000 in
set_option maxRecDepth 8000 in
theorem s_Mo_shift_104 {d : Nat} {E : qE} {Q : qW → Int32 → Prop} {l1 : Int32} {l2 : Int32} {l3 : Int32} {l4 : Int32} {l5 : Int32} {l6 : Int32} {w : qW} (hw : Sh w) (h : ((l5 ≤ l6) → (c_Mo_shift_141 d E Q l3 l4 l5 0 w)) ∧ ((¬ l5 ≤ l6) → (vp_in (((60 * l1) + l2) + l6) 360 ∧ (vp_in l6 60 ∧ (c_Mo_shift_104 d E Q l1 l2 l3 l4 l5 (l6 + 1) (qpl w 160 ((l6).toNatClampNeg) (ql w 159 ((((60 * l1) + l2) + l6).toNatClampNeg)))))))) : c_Mo_shift_104 d E Q l1 l2 l3 l4 l5 l6 w := by
  unfold c_Mo_shift_104
  refine g_iload 6 e_Mo_shift_104 rfl ?_
  refine g_iload 5 e_Mo_shift_106 rfl ?_
  refine g_icmp_ge 138 e_Mo_shift_108 (by decide) ⟨fun z1 => ?_, fun z1 => ?_⟩
  · have h := h.1 z1
    refine g_iconst (v := 0) e_Mo_shift_138 (by decide) ?_
    refine g_istore (lv := [(6, .int 0), (0, .ref (qb E + 115)), (1, .int l1), (2, .int l2), (3, .int l3), (4, .int l4), (5, .int l5)]) e_Mo_shift_139 (by decide) rfl ?_
    refine g_loc [1, 4, 5, 6, 0] rfl ?_
    exact h
  · have h := h.2 z1
    refine g_aload_n 0 e_Mo_shift_111 rfl rfl ?_
    refine gf_Mo_242 rfl e_Mo_shift_112 hw lay_115 (by decide) (sh_Mo_aside hw) ?_
    refine g_iload 6 e_Mo_shift_115 rfl ?_
    refine g_aload_n 0 e_Mo_shift_117 rfl rfl ?_
    refine gf_Mo_238 rfl e_Mo_shift_118 hw lay_115 (by decide) (sh_Mo_item hw) ?_
    refine g_bipush (v := 60) e_Mo_shift_121 (by decide) ?_
    refine g_iload_n 1 e_Mo_shift_123 rfl rfl ?_
    refine g_imul e_Mo_shift_124 ?_
    refine g_iload_n 2 e_Mo_shift_125 rfl rfl ?_
    refine g_iadd e_Mo_shift_126 ?_
    refine g_iload 6 e_Mo_shift_127 rfl ?_
    refine g_iadd e_Mo_shift_129 ?_
    obtain ⟨o2, h⟩ := h
    refine w_laload ((((60 * l1) + l2) + l6).toNatClampNeg) e_Mo_shift_130 hw lay_159 (by decide) o2 rfl ?_
    obtain ⟨o3, h⟩ := h
    refine w_lastore ((l6).toNatClampNeg) e_Mo_shift_131 hw lay_160 (by decide) o3 rfl ?_
    refine g_iinc (v := (l6 + 1)) (lv := [(6, .int (l6 + 1)), (0, .ref (qb E + 115)), (1, .int l1), (2, .int l2), (3, .int l3), (4, .int l4), (5, .int l5)]) 6 e_Mo_shift_132 rfl rfl (by decide) rfl ?_
    refine g_goto 104 e_Mo_shift_135 (by decide) ?_
    refine g_loc [1, 2, 3, 4, 5, 6, 0] rfl ?_
    exact h
set_option maxHeartbeats 4000000 in
set_option maxRecDepth 8000 in
theorem s_Mo_shift_141 {d : Nat} {E : qE} {Q : qW → Int32 → Prop} {l3 : Int32} {l4 : Int32} {l5 : Int32} {l6 : Int32} {w : qW} (hw : Sh w) (h : ((l5 ≤ l6) → (Q w l5)) ∧ ((¬ l5 ≤ l6) → (vp_in l6 60 ∧ (vp_in (((60 * l3) + l4) + l6) 360 ∧ (c_Mo_shift_141 d E Q l3 l4 l5 (l6 + 1) (qpl w 159 ((((60 * l3) + l4) + l6).toNatClampNeg) (ql w 160 ((l6).toNatClampNeg)))))))) : c_Mo_shift_141 d E Q l3 l4 l5 l6 w := by
  unfold c_Mo_shift_141
  refine g_iload 4 e_Mo_shift_141 rfl ?_
  refine g_iload 3 e_Mo_shift_143 rfl ?_
  refine g_icmp_ge 176 e_Mo_shift_145 (by decide) ⟨fun z1 => ?_, fun z1 => ?_⟩
  · have h := h.1 z1
    refine g_iload 3 e_Mo_shift_176 rfl ?_
    exact g_iret e_Mo_shift_178 rfl ⟨Sh.n hw, _, rfl, hw, h⟩
  · have h := h.2 z1
    refine g_aload_n 0 e_Mo_shift_148 rfl rfl ?_
    refine gf_Mo_238 rfl e_Mo_shift_149 hw lay_115 (by decide) (sh_Mo_item hw) ?_
    refine g_bipush (v := 60) e_Mo_shift_152 (by decide) ?_
    refine g_iload_n 1 e_Mo_shift_154 rfl rfl ?_
    refine g_imul e_Mo_shift_155 ?_
    refine g_iload 2 e_Mo_shift_156 rfl ?_
    refine g_iadd e_Mo_shift_158 ?_
    refine g_iload 4 e_Mo_shift_159 rfl ?_
    refine g_iadd e_Mo_shift_161 ?_
    refine g_aload_n 0 e_Mo_shift_162 rfl rfl ?_
    refine gf_Mo_242 rfl e_Mo_shift_163 hw lay_115 (by decide) (sh_Mo_aside hw) ?_
    refine g_iload 4 e_Mo_shift_166 rfl ?_
    obtain ⟨o2, h⟩ := h
    refine w_laload ((l6).toNatClampNeg) e_Mo_shift_168 hw lay_160 (by decide) o2 rfl ?_
    obtain ⟨o3, h⟩ := h
    refine w_lastore ((((60 * l3) + l4) + l6).toNatClampNeg) e_Mo_shift_169 hw lay_159 (by decide) o3 rfl ?_
    refine g_iinc (v := (l6 + 1)) (lv := [(6, .int (l6 + 1)), (0, .ref (qb E + 115)), (3, .int l3), (4, .int l4), (5, .int l5)]) 4 e_Mo_shift_170 rfl rfl (by decide) rfl ?_
    refine g_goto 141 e_Mo_shift_173 (by decide) ?_
    refine g_loc [1, 2, 3, 4, 0] rfl ?_
    exact h
theorem en_Mo_shift {d : Nat} {E : qE} {Q : qW → Int32 → Prop} {a1 : Int32} {a2 : Int32} {a3 : Int32} {a4 : Int32} {a5 : Int32} {w : qW} (hw : Sh w) (h : c_Mo_shift_0 d E Q a1 a2 a3 a4 a5 w) : CaI (d + 2) M_Mo_shift [.ref (qb E + 115), .int a1, .int a2, .int a3, .int a4, .int a5] E w Q := Ca.into hw rfl (Nat.le_of_ble_eq_true rfl) h
