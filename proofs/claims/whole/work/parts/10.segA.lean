theorem lay_0 : qlay 0 = (9, 9) := rfl
theorem lay_55 : qlay 55 = (1, 4) := rfl
theorem lay_56 : qlay 56 = (20, 3) := rfl
theorem lay_57 : qlay 57 = (20, 3) := rfl
theorem lay_73 : qlay 73 = (4, 4) := rfl
theorem lay_74 : qlay 74 = (20, 100) := rfl
theorem lay_75 : qlay 75 = (24, 6) := rfl
theorem lay_100 : qlay 100 = (0, 5) := rfl
theorem lay_101 : qlay 101 = (20, 20) := rfl
theorem lay_102 : qlay 102 = (25, 6) := rfl
theorem lay_115 : qlay 115 = (10, 77) := rfl
theorem lay_116 : qlay 116 = (20, 6) := rfl
theorem lay_117 : qlay 117 = (20, 6) := rfl
theorem lay_118 : qlay 118 = (20, 6) := rfl
theorem lay_119 : qlay 119 = (20, 6) := rfl
theorem lay_120 : qlay 120 = (20, 6) := rfl
theorem lay_121 : qlay 121 = (20, 6) := rfl
theorem lay_122 : qlay 122 = (20, 24) := rfl
theorem lay_123 : qlay 123 = (20, 100) := rfl
theorem lay_124 : qlay 124 = (20, 6) := rfl
theorem lay_125 : qlay 125 = (20, 60) := rfl
theorem lay_126 : qlay 126 = (20, 60) := rfl
theorem lay_127 : qlay 127 = (20, 60) := rfl
theorem lay_128 : qlay 128 = (20, 60) := rfl
theorem lay_129 : qlay 129 = (20, 600) := rfl
theorem lay_130 : qlay 130 = (20, 101) := rfl
theorem lay_131 : qlay 131 = (20, 13) := rfl
theorem lay_132 : qlay 132 = (22, 100) := rfl
theorem lay_133 : qlay 133 = (20, 6) := rfl
theorem lay_134 : qlay 134 = (20, 6) := rfl
theorem lay_135 : qlay 135 = (20, 3) := rfl
theorem lay_136 : qlay 136 = (20, 3) := rfl
theorem lay_137 : qlay 137 = (20, 5) := rfl
theorem lay_138 : qlay 138 = (20, 5) := rfl
theorem lay_139 : qlay 139 = (20, 10) := rfl
theorem lay_140 : qlay 140 = (20, 10) := rfl
theorem lay_141 : qlay 141 = (20, 8) := rfl
theorem lay_142 : qlay 142 = (20, 8) := rfl
theorem lay_143 : qlay 143 = (20, 6) := rfl
theorem lay_144 : qlay 144 = (20, 6) := rfl
theorem lay_145 : qlay 145 = (20, 6) := rfl
theorem lay_146 : qlay 146 = (20, 6) := rfl
theorem lay_147 : qlay 147 = (20, 6) := rfl
theorem lay_148 : qlay 148 = (20, 6) := rfl
theorem lay_149 : qlay 149 = (20, 24) := rfl
theorem lay_150 : qlay 150 = (20, 5) := rfl
theorem lay_151 : qlay 151 = (20, 5) := rfl
theorem lay_152 : qlay 152 = (20, 10) := rfl
theorem lay_153 : qlay 153 = (20, 10) := rfl
theorem lay_154 : qlay 154 = (20, 8) := rfl
theorem lay_155 : qlay 155 = (20, 8) := rfl
theorem lay_156 : qlay 156 = (20, 20) := rfl
theorem lay_157 : qlay 157 = (20, 6) := rfl
theorem lay_158 : qlay 158 = (20, 6) := rfl
theorem lay_159 : qlay 159 = (21, 360) := rfl
theorem lay_160 : qlay 160 = (21, 60) := rfl
theorem Sh.n {w : qW} (h : Sh w) : w.1 = 161 := h.1
theorem lg3 (v : Value) (h : v.category = 1) (a b : Int32) : (lg_sl [.int a, .int b, v]).length ≤ 3 := by cases v <;> first | exact Nat.le_refl _ | simp [Value.category] at h
theorem isWh5 : isWh 5 := Or.inl rfl
theorem isWh30 : isWh 30 := Or.inr rfl
theorem isPan58 : isPan 58 := Or.inr (Or.inr rfl)
def c_Ac_forget_0 (d : Nat) (E : qE) (Q : qW → Prop) (w : qW) : Prop := Go d M_Ac_forget E 161 161 (qFV Q) 0 [(0, .ref (qb E + 100))] [] w
set_option maxHeartbeats 4000000 in
set_option maxRecDepth 8000 in
theorem s_Ac_forget_0 {d : Nat} {E : qE} {Q : qW → Prop} {w : qW} (hw : Sh w) (h : Q (qpi w 100 1 0)) : c_Ac_forget_0 d E Q  w := by
  unfold c_Ac_forget_0
  refine g_aload_n 0 e_Ac_forget_0 rfl rfl ?_
  refine g_iconst (v := 0) e_Ac_forget_1 (by decide) ?_
  refine pf_Ac_15 rfl e_Ac_forget_2 hw lay_100 (by decide) ?_
  exact g_vret e_Ac_forget_5 rfl ⟨Sh.n hw, rfl, hw, h⟩
theorem en_Ac_forget {d : Nat} {E : qE} {Q : qW → Prop} {w : qW} (hw : Sh w) (h : c_Ac_forget_0 d E Q  w) : CaV d M_Ac_forget [.ref (qb E + 100)] E w Q := Ca.into hw rfl (Nat.le_of_ble_eq_true rfl) h
def c_Ac_bodyAt_0 (d : Nat) (E : qE) (Q : qW → Int32 → Prop) (a1 : Int32) (w : qW) : Prop := Go d M_Ac_bodyAt E 161 161 (qFI Q) 0 [(0, .ref (qb E + 100)), (1, .int a1)] [] w
set_option maxHeartbeats 4000000 in
set_option maxRecDepth 8000 in
theorem s_Ac_bodyAt_0 {d : Nat} {E : qE} {Q : qW → Int32 → Prop} {a1 : Int32} {w : qW} (hw : Sh w) (h : ((a1 < 0) → (Q w (-1))) ∧ ((¬ a1 < 0) → ((((qi w 100 1) ≤ a1) → (Q w (-1))) ∧ ((¬ (qi w 100 1) ≤ a1) → (((20 ≤ a1) → (Q w (-1))) ∧ ((¬ 20 ≤ a1) → (vp_in a1 20 ∧ (Q w (qi w 101 ((a1).toNatClampNeg)))))))))) : c_Ac_bodyAt_0 d E Q a1 w := by
  unfold c_Ac_bodyAt_0
  refine g_iload_n 1 e_Ac_bodyAt_0 rfl rfl ?_
  refine g_if_lt 27 e_Ac_bodyAt_1 (by decide) ⟨fun z1 => ?_, fun z1 => ?_⟩
  · have h := h.1 z1
    refine g_iconst (v := (-1)) e_Ac_bodyAt_27 (by decide) ?_
    exact g_iret e_Ac_bodyAt_28 rfl ⟨Sh.n hw, _, rfl, hw, h⟩
  · have h := h.2 z1
    refine g_iload_n 1 e_Ac_bodyAt_4 rfl rfl ?_
    refine g_aload_n 0 e_Ac_bodyAt_5 rfl rfl ?_
    refine gf_Ac_15 rfl e_Ac_bodyAt_6 hw lay_100 (by decide) ?_
    refine g_icmp_ge 27 e_Ac_bodyAt_9 (by decide) ⟨fun z2 => ?_, fun z2 => ?_⟩
    · have h := h.1 z2
      refine g_iconst (v := (-1)) e_Ac_bodyAt_27 (by decide) ?_
      exact g_iret e_Ac_bodyAt_28 rfl ⟨Sh.n hw, _, rfl, hw, h⟩
    · have h := h.2 z2
      refine g_iload_n 1 e_Ac_bodyAt_12 rfl rfl ?_
      refine g_bipush (v := 20) e_Ac_bodyAt_13 (by decide) ?_
      refine g_icmp_ge 27 e_Ac_bodyAt_15 (by decide) ⟨fun z3 => ?_, fun z3 => ?_⟩
      · have h := h.1 z3
        refine g_iconst (v := (-1)) e_Ac_bodyAt_27 (by decide) ?_
        exact g_iret e_Ac_bodyAt_28 rfl ⟨Sh.n hw, _, rfl, hw, h⟩
      · have h := h.2 z3
        refine g_aload_n 0 e_Ac_bodyAt_18 rfl rfl ?_
        refine gf_Ac_9 rfl e_Ac_bodyAt_19 hw lay_100 (by decide) (sh_Ac_bodies hw) ?_
        refine g_iload_n 1 e_Ac_bodyAt_22 rfl rfl ?_
        obtain ⟨o4, h⟩ := h
        refine w_iaload ((a1).toNatClampNeg) e_Ac_bodyAt_23 hw lay_101 (by decide) o4 rfl ?_
        refine g_goto 28 e_Ac_bodyAt_24 (by decide) ?_
        exact g_iret e_Ac_bodyAt_28 rfl ⟨Sh.n hw, _, rfl, hw, h⟩
theorem en_Ac_bodyAt {d : Nat} {E : qE} {Q : qW → Int32 → Prop} {a1 : Int32} {w : qW} (hw : Sh w) (h : c_Ac_bodyAt_0 d E Q a1 w) : CaI d M_Ac_bodyAt [.ref (qb E + 100), .int a1] E w Q := Ca.into hw rfl (Nat.le_of_ble_eq_true rfl) h
def c_Ac_perform_0 (d : Nat) (E : qE) (Q : qW → Int32 → Prop) (p1 : Nat) (a2 : Int32) (a3 : Int32) (w : qW) : Prop := Go (d + 41) M_Ac_perform E 161 161 (qFI Q) 0 [(0, .ref (qb E + 100)), (1, .ref (qb E + p1)), (2, .int a2), (3, .int a3)] [] w
set_option maxHeartbeats 4000000 in
set_option maxRecDepth 8000 in
theorem s_Ac_perform_0 {d : Nat} {E : qE} {Q : qW → Int32 → Prop} {p1 : Nat} {a2 : Int32} {a3 : Int32} {w : qW} (hw : Sh w) (hp1 : isTh p1) (h : CaI (d + 40) M_Ac_from [.ref (qb E + 100), .int (qi (qpi (qpi (qpi w 100 2 (qi w p1 1)) 100 3 (qi (qpi w 100 2 (qi w p1 1)) p1 0)) 100 4 (qi (qpi (qpi w 100 2 (qi w p1 1)) 100 3 (qi (qpi w 100 2 (qi w p1 1)) p1 0)) p1 2)) 100 2), .int a2, .int a3, .int 0] E (qpi (qpi (qpi w 100 2 (qi w p1 1)) 100 3 (qi (qpi w 100 2 (qi w p1 1)) p1 0)) 100 4 (qi (qpi (qpi w 100 2 (qi w p1 1)) 100 3 (qi (qpi w 100 2 (qi w p1 1)) p1 0)) p1 2)) (fun w1 x1 => Q w1 x1)) : c_Ac_perform_0 d E Q p1 a2 a3 w := by
  unfold c_Ac_perform_0
  refine g_aload_n 0 e_Ac_perform_0 rfl rfl ?_
  refine g_aload_n 1 e_Ac_perform_1 rfl rfl ?_
  refine gf_Ac_19 rfl e_Ac_perform_2 hw (lay_Th hp1) (lt_Th hp1) ?_
  refine pf_Ac_24 rfl e_Ac_perform_5 hw lay_100 (by decide) ?_
  refine g_aload_n 0 e_Ac_perform_8 rfl rfl ?_
  refine g_aload_n 1 e_Ac_perform_9 rfl rfl ?_
  refine gf_Ac_25 rfl e_Ac_perform_10 hw (lay_Th hp1) (lt_Th hp1) ?_
  refine pf_Ac_28 rfl e_Ac_perform_13 hw lay_100 (by decide) ?_
  refine g_aload_n 0 e_Ac_perform_16 rfl rfl ?_
  refine g_aload_n 1 e_Ac_perform_17 rfl rfl ?_
  refine gf_Ac_29 rfl e_Ac_perform_18 hw (lay_Th hp1) (lt_Th hp1) ?_
  refine pf_Ac_32 rfl e_Ac_perform_21 hw lay_100 (by decide) ?_
  refine g_aload_n 0 e_Ac_perform_24 rfl rfl ?_
  refine g_aload_n 0 e_Ac_perform_25 rfl rfl ?_
  refine gf_Ac_24 rfl e_Ac_perform_26 hw lay_100 (by decide) ?_
  refine g_iload_n 2 e_Ac_perform_29 rfl rfl ?_
  refine g_iload_n 3 e_Ac_perform_30 rfl rfl ?_
  refine g_iconst (v := 0) e_Ac_perform_31 (by decide) ?_
  refine w_callVI (w := (qpi (qpi (qpi w 100 2 (qi w p1 1)) 100 3 (qi (qpi w 100 2 (qi w p1 1)) p1 0)) 100 4 (qi (qpi (qpi w 100 2 (qi w p1 1)) 100 3 (qi (qpi w 100 2 (qi w p1 1)) p1 0)) p1 2))) (As := [.int (qi (qpi (qpi (qpi w 100 2 (qi w p1 1)) 100 3 (qi (qpi w 100 2 (qi w p1 1)) p1 0)) 100 4 (qi (qpi (qpi w 100 2 (qi w p1 1)) 100 3 (qi (qpi w 100 2 (qi w p1 1)) p1 0)) p1 2)) 100 2), .int a2, .int a3, .int 0]) (rest := []) e_Ac_perform_32 ok_Ac_from rfl km_Ac_33 kx_Ac_from kv_Ac_from rfl (by decide) hw lay_100 (by decide) rfl (Nat.le_of_ble_eq_true rfl) h (fun w1 x1 hw1 h => ?_)
  exact g_iret e_Ac_perform_35 rfl ⟨Sh.n hw1, _, rfl, hw1, h⟩
theorem en_Ac_perform {d : Nat} {E : qE} {Q : qW → Int32 → Prop} {p1 : Nat} {a2 : Int32} {a3 : Int32} {w : qW} (hw : Sh w) (h : c_Ac_perform_0 d E Q p1 a2 a3 w) : CaI (d + 41) M_Ac_perform [.ref (qb E + 100), .ref (qb E + p1), .int a2, .int a3] E w Q := Ca.into hw rfl (Nat.le_of_ble_eq_true rfl) h
def c_Ac_from_0 (d : Nat) (E : qE) (Q : qW → Int32 → Prop) (a1 : Int32) (a2 : Int32) (a3 : Int32) (a4 : Int32) (w : qW) : Prop := Go (d + 1) M_Ac_from E 161 161 (qFI Q) 0 [(0, .ref (qb E + 100)), (1, .int a1), (2, .int a2), (3, .int a3), (4, .int a4)] [] w
def c_Ac_from_24 (d : Nat) (E : qE) (Q : qW → Int32 → Prop) (l2 : Int32) (l3 : Int32) (l4 : Int32) (l5 : Int32) (l6 : Int32) (w : qW) : Prop := Go (d + 1) M_Ac_from E 161 161 (qFI Q) 24 [(0, .ref (qb E + 100)), (2, .int l2), (3, .int l3), (4, .int l4), (5, .int l5), (6, .int l6)] [] w
set_option maxHeartbeats 4000000 in
set_option maxRecDepth 8000 in
theorem s_Ac_from_0 {d : Nat} {E : qE} {Q : qW → Int32 → Prop} {a1 : Int32} {a2 : Int32} {a3 : Int32} {a4 : Int32} {w : qW} (hw : Sh w) (h : ((20 ≤ a4) → (Q w 0)) ∧ ((¬ 20 ≤ a4) → (((a2 < 0) → (Q w 0)) ∧ ((¬ a2 < 0) → (((a2 < 3) → (c_Ac_from_24 d E Q a2 a3 a4 a1 0 w)) ∧ ((¬ a2 < 3) → (Q w 0))))))) : c_Ac_from_0 d E Q a1 a2 a3 a4 w := by
  unfold c_Ac_from_0
  refine g_iload 4 e_Ac_from_0 rfl ?_
  refine g_bipush (v := 20) e_Ac_from_2 (by decide) ?_
  refine g_icmp_ge 16 e_Ac_from_4 (by decide) ⟨fun z1 => ?_, fun z1 => ?_⟩
  · have h := h.1 z1
    refine g_iconst (v := 0) e_Ac_from_16 (by decide) ?_
    exact g_iret e_Ac_from_17 rfl ⟨Sh.n hw, _, rfl, hw, h⟩
  · have h := h.2 z1
    refine g_iload_n 2 e_Ac_from_7 rfl rfl ?_
    refine g_if_lt 16 e_Ac_from_8 (by decide) ⟨fun z2 => ?_, fun z2 => ?_⟩
    · have h := h.1 z2
      refine g_iconst (v := 0) e_Ac_from_16 (by decide) ?_
      exact g_iret e_Ac_from_17 rfl ⟨Sh.n hw, _, rfl, hw, h⟩
    · have h := h.2 z2
      refine g_iload_n 2 e_Ac_from_11 rfl rfl ?_
      refine g_iconst (v := 3) e_Ac_from_12 (by decide) ?_
      refine g_icmp_lt 18 e_Ac_from_13 (by decide) ⟨fun z3 => ?_, fun z3 => ?_⟩
      · have h := h.1 z3
        refine g_iload_n 1 e_Ac_from_18 rfl rfl ?_
        refine g_istore (lv := [(5, .int a1), (0, .ref (qb E + 100)), (1, .int a1), (2, .int a2), (3, .int a3), (4, .int a4)]) e_Ac_from_19 (by decide) rfl ?_
        refine g_iconst (v := 0) e_Ac_from_21 (by decide) ?_
        refine g_istore (lv := [(6, .int 0), (5, .int a1), (0, .ref (qb E + 100)), (1, .int a1), (2, .int a2), (3, .int a3), (4, .int a4)]) e_Ac_from_22 (by decide) rfl ?_
        refine g_loc [2, 4, 5, 6, 1, 0] rfl ?_
        exact h
      · have h := h.2 z3
        refine g_iconst (v := 0) e_Ac_from_16 (by decide) ?_
        exact g_iret e_Ac_from_17 rfl ⟨Sh.n hw, _, rfl, hw, h⟩
set_option maxHeartbeats 4000000 in
set_option maxRecDepth 8000 in
theorem s_Ac_from_24 {d : Nat} {E : qE} {Q : qW → Int32 → Prop} {l2 : Int32} {l3 : Int32} {l4 : Int32} {l5 : Int32} {l6 : Int32} {w : qW} (hw : Sh w) (h : ((7 ≤ l6) → (Q w 0)) ∧ ((¬ 7 ≤ l6) → (((l5 < 0) → (Q w 0)) ∧ ((¬ l5 < 0) → (((7 ≤ l5) → (Q w 0)) ∧ ((¬ 7 ≤ l5) → (((21 ≤ ((l5 * 3) + l2)) → (vp_in l5 7 ∧ (c_Ac_from_24 d E Q l2 l3 l4 (qAbove (l5 : Int32).toNatClampNeg) (l6 + 1) w))) ∧ ((¬ 21 ≤ ((l5 * 3) + l2)) → (vp_in ((l5 * 3) + l2) 21 ∧ ((((qBodies (((l5 * 3) + l2) : Int32).toNatClampNeg) = 0) → (vp_in l5 7 ∧ (c_Ac_from_24 d E Q l2 l3 l4 (qAbove (l5 : Int32).toNatClampNeg) (l6 + 1) w))) ∧ ((¬ (qBodies (((l5 * 3) + l2) : Int32).toNatClampNeg) = 0) → (vp_in ((l5 * 3) + l2) 21 ∧ (vp_in l5 7 ∧ (CaI d M_Ac_body [.ref (qb E + 100), .int (qBodies (((l5 * 3) + l2) : Int32).toNatClampNeg), .int (qAbove (l5 : Int32).toNatClampNeg), .int l3, .int (l4 + 1)] E w (fun w11 x11 => Q w11 x11))))))))))))))) : c_Ac_from_24 d E Q l2 l3 l4 l5 l6 w := by
  unfold c_Ac_from_24
  refine g_iload 5 e_Ac_from_24 rfl ?_
  refine g_aboveA rfl e_Ac_from_26 ?_
  refine g_t0len e_Ac_from_29 ?_
  refine g_icmp_ge 109 e_Ac_from_30 (by decide) ⟨fun z1 => ?_, fun z1 => ?_⟩
  · have h := h.1 z1
    refine g_iconst (v := 0) e_Ac_from_109 (by decide) ?_
    exact g_iret e_Ac_from_110 rfl ⟨Sh.n hw, _, rfl, hw, h⟩
  · have h := h.2 z1
    refine g_iload 4 e_Ac_from_33 rfl ?_
    refine g_if_lt 109 e_Ac_from_35 (by decide) ⟨fun z2 => ?_, fun z2 => ?_⟩
    · have h := h.1 z2
      refine g_iconst (v := 0) e_Ac_from_109 (by decide) ?_
      exact g_iret e_Ac_from_110 rfl ⟨Sh.n hw, _, rfl, hw, h⟩
    · have h := h.2 z2
      refine g_iload 4 e_Ac_from_38 rfl ?_
      refine g_aboveA rfl e_Ac_from_40 ?_
      refine g_t0len e_Ac_from_43 ?_
      refine g_icmp_ge 109 e_Ac_from_44 (by decide) ⟨fun z3 => ?_, fun z3 => ?_⟩
      · have h := h.1 z3
        refine g_iconst (v := 0) e_Ac_from_109 (by decide) ?_
        exact g_iret e_Ac_from_110 rfl ⟨Sh.n hw, _, rfl, hw, h⟩
      · have h := h.2 z3
        refine g_iload 4 e_Ac_from_47 rfl ?_
        refine g_iconst (v := 3) e_Ac_from_49 (by decide) ?_
        refine g_imul e_Ac_from_50 ?_
        refine g_iload_n 1 e_Ac_from_51 rfl rfl ?_
        refine g_iadd e_Ac_from_52 ?_
        refine g_istore (lv := [(7, .int ((l5 * 3) + l2)), (0, .ref (qb E + 100)), (2, .int l2), (3, .int l3), (4, .int l4), (5, .int l5), (6, .int l6)]) e_Ac_from_53 (by decide) rfl ?_
        refine g_iload 0 e_Ac_from_55 rfl ?_
        refine g_bodies rfl e_Ac_from_57 ?_
        refine g_t1len e_Ac_from_60 ?_
        refine g_icmp_ge 95 e_Ac_from_61 (by decide) ⟨fun z4 => ?_, fun z4 => ?_⟩
        · have h := h.1 z4
          refine g_aboveA rfl e_Ac_from_95 ?_
          refine g_iload 5 e_Ac_from_98 rfl ?_
          obtain ⟨o5, h⟩ := h
          refine g_t0ld e_Ac_from_100 o5 ?_
          refine g_istore (lv := [(5, .int (qAbove (l5 : Int32).toNatClampNeg)), (7, .int ((l5 * 3) + l2)), (0, .ref (qb E + 100)), (2, .int l2), (3, .int l3), (4, .int l4), (6, .int l6)]) e_Ac_from_101 (by decide) rfl ?_
          refine g_iinc (v := (l6 + 1)) (lv := [(6, .int (l6 + 1)), (5, .int (qAbove (l5 : Int32).toNatClampNeg)), (7, .int ((l5 * 3) + l2)), (0, .ref (qb E + 100)), (2, .int l2), (3, .int l3), (4, .int l4)]) 6 e_Ac_from_103 rfl rfl (by decide) rfl ?_
          refine g_goto 24 e_Ac_from_106 (by decide) ?_
          refine g_loc [3, 4, 5, 6, 1, 0] rfl ?_
          exact h
        · have h := h.2 z4
          refine g_bodies rfl e_Ac_from_64 ?_
          refine g_iload 0 e_Ac_from_67 rfl ?_
          obtain ⟨o6, h⟩ := h
          refine g_t1ld e_Ac_from_69 o6 ?_
          refine g_if_eq 95 e_Ac_from_70 (by decide) ⟨fun z7 => ?_, fun z7 => ?_⟩
          · have h := h.1 z7
            refine g_aboveA rfl e_Ac_from_95 ?_
            refine g_iload 5 e_Ac_from_98 rfl ?_
            obtain ⟨o8, h⟩ := h
            refine g_t0ld e_Ac_from_100 o8 ?_
            refine g_istore (lv := [(5, .int (qAbove (l5 : Int32).toNatClampNeg)), (7, .int ((l5 * 3) + l2)), (0, .ref (qb E + 100)), (2, .int l2), (3, .int l3), (4, .int l4), (6, .int l6)]) e_Ac_from_101 (by decide) rfl ?_
            refine g_iinc (v := (l6 + 1)) (lv := [(6, .int (l6 + 1)), (5, .int (qAbove (l5 : Int32).toNatClampNeg)), (7, .int ((l5 * 3) + l2)), (0, .ref (qb E + 100)), (2, .int l2), (3, .int l3), (4, .int l4)]) 6 e_Ac_from_103 rfl rfl (by decide) rfl ?_
            refine g_goto 24 e_Ac_from_106 (by decide) ?_
            refine g_loc [3, 4, 5, 6, 1, 0] rfl ?_
            exact h
          · have h := h.2 z7
            refine g_aload_n 1 e_Ac_from_73 rfl rfl ?_
            refine g_bodies rfl e_Ac_from_74 ?_
            refine g_iload 0 e_Ac_from_77 rfl ?_
            obtain ⟨o9, h⟩ := h
            refine g_t1ld e_Ac_from_79 o9 ?_
            refine g_aboveA rfl e_Ac_from_80 ?_
            refine g_iload 5 e_Ac_from_83 rfl ?_
            obtain ⟨o10, h⟩ := h
            refine g_t0ld e_Ac_from_85 o10 ?_
            refine g_iload_n 3 e_Ac_from_86 rfl rfl ?_
            refine g_iload 4 e_Ac_from_87 rfl ?_
            refine g_iconst (v := 1) e_Ac_from_89 (by decide) ?_
            refine g_iadd e_Ac_from_90 ?_
            refine w_callVI (w := w) (As := [.int (qBodies (((l5 * 3) + l2) : Int32).toNatClampNeg), .int (qAbove (l5 : Int32).toNatClampNeg), .int l3, .int (l4 + 1)]) (rest := []) e_Ac_from_91 ok_Ac_body rfl km_Ac_43 kx_Ac_body kv_Ac_body rfl (by decide) hw lay_100 (by decide) rfl (Nat.le_of_ble_eq_true rfl) h (fun w11 x11 hw11 h => ?_)
            exact g_iret e_Ac_from_94 rfl ⟨Sh.n hw11, _, rfl, hw11, h⟩
theorem en_Ac_from {d : Nat} {E : qE} {Q : qW → Int32 → Prop} {a1 : Int32} {a2 : Int32} {a3 : Int32} {a4 : Int32} {w : qW} (hw : Sh w) (h : c_Ac_from_0 d E Q a1 a2 a3 a4 w) : CaI (d + 1) M_Ac_from [.ref (qb E + 100), .int a1, .int a2, .int a3, .int a4] E w Q := Ca.into hw rfl (Nat.le_of_ble_eq_true rfl) h
def c_Ac_body_0 (d : Nat) (E : qE) (Q : qW → Int32 → Prop) (a1 : Int32) (a2 : Int32) (a3 : Int32) (a4 : Int32) (w : qW) : Prop := Go (d + 1) M_Ac_body E 161 161 (qFI Q) 0 [(0, .ref (qb E + 100)), (1, .int a1), (2, .int a2), (3, .int a3), (4, .int a4)] [] w
def c_Ac_body_36 (d : Nat) (E : qE) (Q : qW → Int32 → Prop) (l1 : Int32) (l2 : Int32) (l3 : Int32) (l4 : Int32) (w : qW) : Prop := Go (d + 1) M_Ac_body E 161 161 (qFI Q) 36 [(0, .ref (qb E + 100)), (1, .int l1), (2, .int l2), (3, .int l3), (4, .int l4)] [] w
set_option maxHeartbeats 4000000 in
set_option maxRecDepth 8000 in
theorem s_Ac_body_0 {d : Nat} {E : qE} {Q : qW → Int32 → Prop} {a1 : Int32} {a2 : Int32} {a3 : Int32} {a4 : Int32} {w : qW} (hw : Sh w) (h : (((qi w 100 1) < 0) → (c_Ac_body_36 d E Q a1 a2 a3 a4 (qpi w 100 1 ((qi w 100 1) + 1)))) ∧ ((¬ (qi w 100 1) < 0) → (((20 ≤ (qi w 100 1)) → (c_Ac_body_36 d E Q a1 a2 a3 a4 (qpi w 100 1 ((qi w 100 1) + 1)))) ∧ ((¬ 20 ≤ (qi w 100 1)) → (vp_in (qi w 100 1) 20 ∧ (c_Ac_body_36 d E Q a1 a2 a3 a4 (qpi (qpi w 101 ((qi w 100 1).toNatClampNeg) a1) 100 1 ((qi (qpi w 101 ((qi w 100 1).toNatClampNeg) a1) 100 1) + 1)))))))) : c_Ac_body_0 d E Q a1 a2 a3 a4 w := by
  unfold c_Ac_body_0
  refine g_aload_n 0 e_Ac_body_0 rfl rfl ?_
  refine gf_Ac_15 rfl e_Ac_body_1 hw lay_100 (by decide) ?_
  refine g_if_lt 26 e_Ac_body_4 (by decide) ⟨fun z1 => ?_, fun z1 => ?_⟩
  · have h := h.1 z1
    refine g_aload_n 0 e_Ac_body_26 rfl rfl ?_
    refine g_dup e_Ac_body_27 rfl ?_
    refine gf_Ac_15 rfl e_Ac_body_28 hw lay_100 (by decide) ?_
    refine g_iconst (v := 1) e_Ac_body_31 (by decide) ?_
    refine g_iadd e_Ac_body_32 ?_
    refine pf_Ac_15 rfl e_Ac_body_33 hw lay_100 (by decide) ?_
    refine g_loc [0, 1, 2, 3, 4] rfl ?_
    exact h
  · have h := h.2 z1
    refine g_aload_n 0 e_Ac_body_7 rfl rfl ?_
    refine gf_Ac_15 rfl e_Ac_body_8 hw lay_100 (by decide) ?_
    refine g_bipush (v := 20) e_Ac_body_11 (by decide) ?_
    refine g_icmp_ge 26 e_Ac_body_13 (by decide) ⟨fun z2 => ?_, fun z2 => ?_⟩
    · have h := h.1 z2
      refine g_aload_n 0 e_Ac_body_26 rfl rfl ?_
      refine g_dup e_Ac_body_27 rfl ?_
      refine gf_Ac_15 rfl e_Ac_body_28 hw lay_100 (by decide) ?_
      refine g_iconst (v := 1) e_Ac_body_31 (by decide) ?_
      refine g_iadd e_Ac_body_32 ?_
      refine pf_Ac_15 rfl e_Ac_body_33 hw lay_100 (by decide) ?_
      refine g_loc [0, 1, 2, 3, 4] rfl ?_
      exact h
    · have h := h.2 z2
      refine g_aload_n 0 e_Ac_body_16 rfl rfl ?_
      refine gf_Ac_9 rfl e_Ac_body_17 hw lay_100 (by decide) (sh_Ac_bodies hw) ?_
      refine g_aload_n 0 e_Ac_body_20 rfl rfl ?_
      refine gf_Ac_15 rfl e_Ac_body_21 hw lay_100 (by decide) ?_
      refine g_iload_n 1 e_Ac_body_24 rfl rfl ?_
      obtain ⟨o3, h⟩ := h
      refine w_iastore ((qi w 100 1).toNatClampNeg) e_Ac_body_25 hw lay_101 (by decide) o3 rfl ?_
      refine g_aload_n 0 e_Ac_body_26 rfl rfl ?_
      refine g_dup e_Ac_body_27 rfl ?_
      refine gf_Ac_15 rfl e_Ac_body_28 hw lay_100 (by decide) ?_
      refine g_iconst (v := 1) e_Ac_body_31 (by decide) ?_
      refine g_iadd e_Ac_body_32 ?_
      refine pf_Ac_15 rfl e_Ac_body_33 hw lay_100 (by decide) ?_
      refine g_loc [0, 1, 2, 3, 4] rfl ?_
      exact h
set_option maxHeartbeats 4000000 in
set_option maxRecDepth 8000 in
theorem s_Ac_body_36 {d : Nat} {E : qE} {Q : qW → Int32 → Prop} {l1 : Int32} {l2 : Int32} {l3 : Int32} {l4 : Int32} {w : qW} (hw : Sh w) (h : (l1 = 10 → (Q w (l3 + (qi w 100 3)))) ∧ (l1 = 11 → (CaI d M_Ac_from [.ref (qb E + 100), .int (qi w 100 2), .int 0, .int l3, .int l4] E w (fun w2 x2 => Q w2 (x2 - (qi w2 100 4))))) ∧ (l1 = 12 → (CaI d M_Ac_from [.ref (qb E + 100), .int (qi w 100 2), .int 1, .int l3, .int l4] E w (fun w3 x3 => Q w3 (x3 * 2)))) ∧ (l1 = 20 → (CaI d M_Ac_from [.ref (qb E + 100), .int l2, .int 1, .int l3, .int l4] E w (fun w4 x4 => Q w4 (x4 ^^^ 6)))) ∧ (l1 = 30 → (CaI d M_Ac_from [.ref (qb E + 100), .int l2, .int 0, .int (l3 * 3), .int l4] E w (fun w5 x5 => Q w5 x5))) ∧ (l1 = 40 → (CaI d M_Ac_from [.ref (qb E + 100), .int l2, .int 2, .int l3, .int l4] E w (fun w6 x6 => CaI d M_Ac_from [.ref (qb E + 100), .int (qi w6 100 2), .int 1, .int 1, .int l4] E w6 (fun w7 x7 => Q w7 (x6 + x7))))) ∧ (l1 = 50 → (CaI d M_Ac_from [.ref (qb E + 100), .int l2, .int 0, .int l3, .int l4] E w (fun w8 x8 => Q w8 (-x8)))) ∧ (l1 = 51 → (CaI d M_Ac_from [.ref (qb E + 100), .int l2, .int 1, .int (l3 + 1), .int l4] E w (fun w9 x9 => Q w9 x9))) ∧ (l1 = 60 → (CaI d M_Ac_from [.ref (qb E + 100), .int l2, .int 2, .int (l3 - (qi w 100 3)), .int l4] E w (fun w10 x10 => Q w10 x10))) ∧ (l1 = 70 → (CaI d M_Ac_from [.ref (qb E + 100), .int l2, .int 1, .int l3, .int l4] E w (fun w11 x11 => CaI d M_Ac_from [.ref (qb E + 100), .int l2, .int 0, .int 2, .int l4] E w11 (fun w12 x12 => Q w12 (x11 + x12))))) ∧ (l1 = 71 → (CaI d M_Ac_from [.ref (qb E + 100), .int l2, .int 0, .int l3, .int l4] E w (fun w13 x13 => Q w13 (x13 ^^^ (qi w13 100 4))))) ∧ (¬ l1 = 10 → ¬ l1 = 11 → ¬ l1 = 12 → ¬ l1 = 20 → ¬ l1 = 30 → ¬ l1 = 40 → ¬ l1 = 50 → ¬ l1 = 51 → ¬ l1 = 60 → ¬ l1 = 70 → ¬ l1 = 71 → (Q w 0))) : c_Ac_body_36 d E Q l1 l2 l3 l4 w := by
  unfold c_Ac_body_36
  refine g_iload_n 1 e_Ac_body_36 rfl rfl ?_
  by_cases y1_0 : l1 = 10
  · refine g_lookup (off := 99) 136 e_Ac_body_37 (by decide) (by  show Op.lookupswitch.offset _ _ _ = _; rw [y1_0]; rfl) (by decide) ?_
    have h := h.1 y1_0
    refine g_iload_n 3 e_Ac_body_136 rfl rfl ?_
    refine g_aload_n 0 e_Ac_body_137 rfl rfl ?_
    refine gf_Ac_28 rfl e_Ac_body_138 hw lay_100 (by decide) ?_
    refine g_iadd e_Ac_body_141 ?_
    exact g_iret e_Ac_body_142 rfl ⟨Sh.n hw, _, rfl, hw, h⟩
  by_cases y1_1 : l1 = 11
  · refine g_lookup (off := 106) 143 e_Ac_body_37 (by decide) (by rw [lv_osw y1_0 (a := 10) (by decide)]; show Op.lookupswitch.offset _ _ _ = _; rw [y1_1]; rfl) (by decide) ?_
    have h := h.2.1 y1_1
    refine g_aload_n 0 e_Ac_body_143 rfl rfl ?_
    refine g_aload_n 0 e_Ac_body_144 rfl rfl ?_
    refine gf_Ac_24 rfl e_Ac_body_145 hw lay_100 (by decide) ?_
    refine g_iconst (v := 0) e_Ac_body_148 (by decide) ?_
    refine g_iload_n 3 e_Ac_body_149 rfl rfl ?_
    refine g_iload 4 e_Ac_body_150 rfl ?_
    refine w_callVI (w := w) (As := [.int (qi w 100 2), .int 0, .int l3, .int l4]) (rest := []) e_Ac_body_152 ok_Ac_from rfl km_Ac_33 kx_Ac_from kv_Ac_from rfl (by decide) hw lay_100 (by decide) rfl (Nat.le_of_ble_eq_true rfl) h (fun w2 x2 hw2 h => ?_)
    refine g_aload_n 0 e_Ac_body_155 rfl rfl ?_
    refine gf_Ac_32 rfl e_Ac_body_156 hw2 lay_100 (by decide) ?_
    refine g_isub e_Ac_body_159 ?_
    exact g_iret e_Ac_body_160 rfl ⟨Sh.n hw2, _, rfl, hw2, h⟩
  by_cases y1_2 : l1 = 12
  · refine g_lookup (off := 124) 161 e_Ac_body_37 (by decide) (by rw [lv_osw y1_0 (a := 10) (by decide)]; rw [lv_osw y1_1 (a := 11) (by decide)]; show Op.lookupswitch.offset _ _ _ = _; rw [y1_2]; rfl) (by decide) ?_
    have h := h.2.2.1 y1_2
    refine g_aload_n 0 e_Ac_body_161 rfl rfl ?_
    refine g_aload_n 0 e_Ac_body_162 rfl rfl ?_
    refine gf_Ac_24 rfl e_Ac_body_163 hw lay_100 (by decide) ?_
    refine g_iconst (v := 1) e_Ac_body_166 (by decide) ?_
    refine g_iload_n 3 e_Ac_body_167 rfl rfl ?_
    refine g_iload 4 e_Ac_body_168 rfl ?_
    refine w_callVI (w := w) (As := [.int (qi w 100 2), .int 1, .int l3, .int l4]) (rest := []) e_Ac_body_170 ok_Ac_from rfl km_Ac_33 kx_Ac_from kv_Ac_from rfl (by decide) hw lay_100 (by decide) rfl (Nat.le_of_ble_eq_true rfl) h (fun w3 x3 hw3 h => ?_)
    refine g_iconst (v := 2) e_Ac_body_173 (by decide) ?_
    refine g_imul e_Ac_body_174 ?_
    exact g_iret e_Ac_body_175 rfl ⟨Sh.n hw3, _, rfl, hw3, h⟩
  by_cases y1_3 : l1 = 20
  · refine g_lookup (off := 139) 176 e_Ac_body_37 (by decide) (by rw [lv_osw y1_0 (a := 10) (by decide)]; rw [lv_osw y1_1 (a := 11) (by decide)]; rw [lv_osw y1_2 (a := 12) (by decide)]; show Op.lookupswitch.offset _ _ _ = _; rw [y1_3]; rfl) (by decide) ?_
    have h := h.2.2.2.1 y1_3
    refine g_aload_n 0 e_Ac_body_176 rfl rfl ?_
    refine g_iload_n 2 e_Ac_body_177 rfl rfl ?_
    refine g_iconst (v := 1) e_Ac_body_178 (by decide) ?_
    refine g_iload_n 3 e_Ac_body_179 rfl rfl ?_
    refine g_iload 4 e_Ac_body_180 rfl ?_
    refine w_callVI (w := w) (As := [.int l2, .int 1, .int l3, .int l4]) (rest := []) e_Ac_body_182 ok_Ac_from rfl km_Ac_33 kx_Ac_from kv_Ac_from rfl (by decide) hw lay_100 (by decide) rfl (Nat.le_of_ble_eq_true rfl) h (fun w4 x4 hw4 h => ?_)
    refine g_bipush (v := 6) e_Ac_body_185 (by decide) ?_
    refine g_ixor e_Ac_body_187 ?_
    exact g_iret e_Ac_body_188 rfl ⟨Sh.n hw4, _, rfl, hw4, h⟩
  by_cases y1_4 : l1 = 30
  · refine g_lookup (off := 152) 189 e_Ac_body_37 (by decide) (by rw [lv_osw y1_0 (a := 10) (by decide)]; rw [lv_osw y1_1 (a := 11) (by decide)]; rw [lv_osw y1_2 (a := 12) (by decide)]; rw [lv_osw y1_3 (a := 20) (by decide)]; show Op.lookupswitch.offset _ _ _ = _; rw [y1_4]; rfl) (by decide) ?_
    have h := h.2.2.2.2.1 y1_4
    refine g_aload_n 0 e_Ac_body_189 rfl rfl ?_
    refine g_iload_n 2 e_Ac_body_190 rfl rfl ?_
    refine g_iconst (v := 0) e_Ac_body_191 (by decide) ?_
    refine g_iload_n 3 e_Ac_body_192 rfl rfl ?_
    refine g_iconst (v := 3) e_Ac_body_193 (by decide) ?_
    refine g_imul e_Ac_body_194 ?_
    refine g_iload 4 e_Ac_body_195 rfl ?_
    refine w_callVI (w := w) (As := [.int l2, .int 0, .int (l3 * 3), .int l4]) (rest := []) e_Ac_body_197 ok_Ac_from rfl km_Ac_33 kx_Ac_from kv_Ac_from rfl (by decide) hw lay_100 (by decide) rfl (Nat.le_of_ble_eq_true rfl) h (fun w5 x5 hw5 h => ?_)
    exact g_iret e_Ac_body_200 rfl ⟨Sh.n hw5, _, rfl, hw5, h⟩
  by_cases y1_5 : l1 = 40
  · refine g_lookup (off := 164) 201 e_Ac_body_37 (by decide) (by rw [lv_osw y1_0 (a := 10) (by decide)]; rw [lv_osw y1_1 (a := 11) (by decide)]; rw [lv_osw y1_2 (a := 12) (by decide)]; rw [lv_osw y1_3 (a := 20) (by decide)]; rw [lv_osw y1_4 (a := 30) (by decide)]; show Op.lookupswitch.offset _ _ _ = _; rw [y1_5]; rfl) (by decide) ?_
    have h := h.2.2.2.2.2.1 y1_5
    refine g_aload_n 0 e_Ac_body_201 rfl rfl ?_
    refine g_iload_n 2 e_Ac_body_202 rfl rfl ?_
    refine g_iconst (v := 2) e_Ac_body_203 (by decide) ?_
    refine g_iload_n 3 e_Ac_body_204 rfl rfl ?_
    refine g_iload 4 e_Ac_body_205 rfl ?_
    refine w_callVI (w := w) (As := [.int l2, .int 2, .int l3, .int l4]) (rest := []) e_Ac_body_207 ok_Ac_from rfl km_Ac_33 kx_Ac_from kv_Ac_from rfl (by decide) hw lay_100 (by decide) rfl (Nat.le_of_ble_eq_true rfl) h (fun w6 x6 hw6 h => ?_)
    refine g_aload_n 0 e_Ac_body_210 rfl rfl ?_
    refine g_aload_n 0 e_Ac_body_211 rfl rfl ?_
    refine gf_Ac_24 rfl e_Ac_body_212 hw6 lay_100 (by decide) ?_
    refine g_iconst (v := 1) e_Ac_body_215 (by decide) ?_
    refine g_iconst (v := 1) e_Ac_body_216 (by decide) ?_
    refine g_iload 4 e_Ac_body_217 rfl ?_
    refine w_callVI (w := w6) (As := [.int (qi w6 100 2), .int 1, .int 1, .int l4]) (rest := [.int x6]) e_Ac_body_219 ok_Ac_from rfl km_Ac_33 kx_Ac_from kv_Ac_from rfl (by decide) hw6 lay_100 (by decide) rfl (Nat.le_of_ble_eq_true rfl) h (fun w7 x7 hw7 h => ?_)
    refine g_iadd e_Ac_body_222 ?_
    exact g_iret e_Ac_body_223 rfl ⟨Sh.n hw7, _, rfl, hw7, h⟩
  by_cases y1_6 : l1 = 50
  · refine g_lookup (off := 187) 224 e_Ac_body_37 (by decide) (by rw [lv_osw y1_0 (a := 10) (by decide)]; rw [lv_osw y1_1 (a := 11) (by decide)]; rw [lv_osw y1_2 (a := 12) (by decide)]; rw [lv_osw y1_3 (a := 20) (by decide)]; rw [lv_osw y1_4 (a := 30) (by decide)]; rw [lv_osw y1_5 (a := 40) (by decide)]; show Op.lookupswitch.offset _ _ _ = _; rw [y1_6]; rfl) (by decide) ?_
    have h := h.2.2.2.2.2.2.1 y1_6
    refine g_aload_n 0 e_Ac_body_224 rfl rfl ?_
    refine g_iload_n 2 e_Ac_body_225 rfl rfl ?_
    refine g_iconst (v := 0) e_Ac_body_226 (by decide) ?_
    refine g_iload_n 3 e_Ac_body_227 rfl rfl ?_
    refine g_iload 4 e_Ac_body_228 rfl ?_
    refine w_callVI (w := w) (As := [.int l2, .int 0, .int l3, .int l4]) (rest := []) e_Ac_body_230 ok_Ac_from rfl km_Ac_33 kx_Ac_from kv_Ac_from rfl (by decide) hw lay_100 (by decide) rfl (Nat.le_of_ble_eq_true rfl) h (fun w8 x8 hw8 h => ?_)
    refine g_ineg e_Ac_body_233 ?_
    exact g_iret e_Ac_body_234 rfl ⟨Sh.n hw8, _, rfl, hw8, h⟩
  by_cases y1_7 : l1 = 51
  · refine g_lookup (off := 198) 235 e_Ac_body_37 (by decide) (by rw [lv_osw y1_0 (a := 10) (by decide)]; rw [lv_osw y1_1 (a := 11) (by decide)]; rw [lv_osw y1_2 (a := 12) (by decide)]; rw [lv_osw y1_3 (a := 20) (by decide)]; rw [lv_osw y1_4 (a := 30) (by decide)]; rw [lv_osw y1_5 (a := 40) (by decide)]; rw [lv_osw y1_6 (a := 50) (by decide)]; show Op.lookupswitch.offset _ _ _ = _; rw [y1_7]; rfl) (by decide) ?_
    have h := h.2.2.2.2.2.2.2.1 y1_7
    refine g_aload_n 0 e_Ac_body_235 rfl rfl ?_
    refine g_iload_n 2 e_Ac_body_236 rfl rfl ?_
    refine g_iconst (v := 1) e_Ac_body_237 (by decide) ?_
    refine g_iload_n 3 e_Ac_body_238 rfl rfl ?_
    refine g_iconst (v := 1) e_Ac_body_239 (by decide) ?_
    refine g_iadd e_Ac_body_240 ?_
    refine g_iload 4 e_Ac_body_241 rfl ?_
    refine w_callVI (w := w) (As := [.int l2, .int 1, .int (l3 + 1), .int l4]) (rest := []) e_Ac_body_243 ok_Ac_from rfl km_Ac_33 kx_Ac_from kv_Ac_from rfl (by decide) hw lay_100 (by decide) rfl (Nat.le_of_ble_eq_true rfl) h (fun w9 x9 hw9 h => ?_)
    exact g_iret e_Ac_body_246 rfl ⟨Sh.n hw9, _, rfl, hw9, h⟩
  by_cases y1_8 : l1 = 60
  · refine g_lookup (off := 210) 247 e_Ac_body_37 (by decide) (by rw [lv_osw y1_0 (a := 10) (by decide)]; rw [lv_osw y1_1 (a := 11) (by decide)]; rw [lv_osw y1_2 (a := 12) (by decide)]; rw [lv_osw y1_3 (a := 20) (by decide)]; rw [lv_osw y1_4 (a := 30) (by decide)]; rw [lv_osw y1_5 (a := 40) (by decide)]; rw [lv_osw y1_6 (a := 50) (by decide)]; rw [lv_osw y1_7 (a := 51) (by decide)]; show Op.lookupswitch.offset _ _ _ = _; rw [y1_8]; rfl) (by decide) ?_
    have h := h.2.2.2.2.2.2.2.2.1 y1_8
    refine g_aload_n 0 e_Ac_body_247 rfl rfl ?_
    refine g_iload_n 2 e_Ac_body_248 rfl rfl ?_
    refine g_iconst (v := 2) e_Ac_body_249 (by decide) ?_
    refine g_iload_n 3 e_Ac_body_250 rfl rfl ?_
    refine g_aload_n 0 e_Ac_body_251 rfl rfl ?_
    refine gf_Ac_28 rfl e_Ac_body_252 hw lay_100 (by decide) ?_
    refine g_isub e_Ac_body_255 ?_
    refine g_iload 4 e_Ac_body_256 rfl ?_
    refine w_callVI (w := w) (As := [.int l2, .int 2, .int (l3 - (qi w 100 3)), .int l4]) (rest := []) e_Ac_body_258 ok_Ac_from rfl km_Ac_33 kx_Ac_from kv_Ac_from rfl (by decide) hw lay_100 (by decide) rfl (Nat.le_of_ble_eq_true rfl) h (fun w10 x10 hw10 h => ?_)
    exact g_iret e_Ac_body_261 rfl ⟨Sh.n hw10, _, rfl, hw10, h⟩
  by_cases y1_9 : l1 = 70
  · refine g_lookup (off := 225) 262 e_Ac_body_37 (by decide) (by rw [lv_osw y1_0 (a := 10) (by decide)]; rw [lv_osw y1_1 (a := 11) (by decide)]; rw [lv_osw y1_2 (a := 12) (by decide)]; rw [lv_osw y1_3 (a := 20) (by decide)]; rw [lv_osw y1_4 (a := 30) (by decide)]; rw [lv_osw y1_5 (a := 40) (by decide)]; rw [lv_osw y1_6 (a := 50) (by decide)]; rw [lv_osw y1_7 (a := 51) (by decide)]; rw [lv_osw y1_8 (a := 60) (by decide)]; show Op.lookupswitch.offset _ _ _ = _; rw [y1_9]; rfl) (by decide) ?_
    have h := h.2.2.2.2.2.2.2.2.2.1 y1_9
    refine g_aload_n 0 e_Ac_body_262 rfl rfl ?_
    refine g_iload_n 2 e_Ac_body_263 rfl rfl ?_
    refine g_iconst (v := 1) e_Ac_body_264 (by decide) ?_
    refine g_iload_n 3 e_Ac_body_265 rfl rfl ?_
    refine g_iload 4 e_Ac_body_266 rfl ?_
    refine w_callVI (w := w) (As := [.int l2, .int 1, .int l3, .int l4]) (rest := []) e_Ac_body_268 ok_Ac_from rfl km_Ac_33 kx_Ac_from kv_Ac_from rfl (by decide) hw lay_100 (by decide) rfl (Nat.le_of_ble_eq_true rfl) h (fun w11 x11 hw11 h => ?_)
    refine g_aload_n 0 e_Ac_body_271 rfl rfl ?_
    refine g_iload_n 2 e_Ac_body_272 rfl rfl ?_
    refine g_iconst (v := 0) e_Ac_body_273 (by decide) ?_
    refine g_iconst (v := 2) e_Ac_body_274 (by decide) ?_
    refine g_iload 4 e_Ac_body_275 rfl ?_
    refine w_callVI (w := w11) (As := [.int l2, .int 0, .int 2, .int l4]) (rest := [.int x11]) e_Ac_body_277 ok_Ac_from rfl km_Ac_33 kx_Ac_from kv_Ac_from rfl (by decide) hw11 lay_100 (by decide) rfl (Nat.le_of_ble_eq_true rfl) h (fun w12 x12 hw12 h => ?_)
    refine g_iadd e_Ac_body_280 ?_
    exact g_iret e_Ac_body_281 rfl ⟨Sh.n hw12, _, rfl, hw12, h⟩
  by_cases y1_10 : l1 = 71
  · refine g_lookup (off := 245) 282 e_Ac_body_37 (by decide) (by rw [lv_osw y1_0 (a := 10) (by decide)]; rw [lv_osw y1_1 (a := 11) (by decide)]; rw [lv_osw y1_2 (a := 12) (by decide)]; rw [lv_osw y1_3 (a := 20) (by decide)]; rw [lv_osw y1_4 (a := 30) (by decide)]; rw [lv_osw y1_5 (a := 40) (by decide)]; rw [lv_osw y1_6 (a := 50) (by decide)]; rw [lv_osw y1_7 (a := 51) (by decide)]; rw [lv_osw y1_8 (a := 60) (by decide)]; rw [lv_osw y1_9 (a := 70) (by decide)]; show Op.lookupswitch.offset _ _ _ = _; rw [y1_10]; rfl) (by decide) ?_
    have h := h.2.2.2.2.2.2.2.2.2.2.1 y1_10
    refine g_aload_n 0 e_Ac_body_282 rfl rfl ?_
    refine g_iload_n 2 e_Ac_body_283 rfl rfl ?_
    refine g_iconst (v := 0) e_Ac_body_284 (by decide) ?_
    refine g_iload_n 3 e_Ac_body_285 rfl rfl ?_
    refine g_iload 4 e_Ac_body_286 rfl ?_
    refine w_callVI (w := w) (As := [.int l2, .int 0, .int l3, .int l4]) (rest := []) e_Ac_body_288 ok_Ac_from rfl km_Ac_33 kx_Ac_from kv_Ac_from rfl (by decide) hw lay_100 (by decide) rfl (Nat.le_of_ble_eq_true rfl) h (fun w13 x13 hw13 h => ?_)
    refine g_aload_n 0 e_Ac_body_291 rfl rfl ?_
    refine gf_Ac_32 rfl e_Ac_body_292 hw13 lay_100 (by decide) ?_
    refine g_ixor e_Ac_body_295 ?_
    exact g_iret e_Ac_body_296 rfl ⟨Sh.n hw13, _, rfl, hw13, h⟩
  refine g_lookup (off := 260) 297 e_Ac_body_37 (by decide) (by rw [lv_osw y1_0 (a := 10) (by decide)]; rw [lv_osw y1_1 (a := 11) (by decide)]; rw [lv_osw y1_2 (a := 12) (by decide)]; rw [lv_osw y1_3 (a := 20) (by decide)]; rw [lv_osw y1_4 (a := 30) (by decide)]; rw [lv_osw y1_5 (a := 40) (by decide)]; rw [lv_osw y1_6 (a := 50) (by decide)]; rw [lv_osw y1_7 (a := 51) (by decide)]; rw [lv_osw y1_8 (a := 60) (by decide)]; rw [lv_osw y1_9 (a := 70) (by decide)]; rw [lv_osw y1_10 (a := 71) (by decide)]; rfl) (by decide) ?_
  have h := h.2.2.2.2.2.2.2.2.2.2.2 y1_0 y1_1 y1_2 y1_3 y1_4 y1_5 y1_6 y1_7 y1_8 y1_9 y1_10
  refine g_iconst (v := 0) e_Ac_body_297 (by decide) ?_
  exact g_iret e_Ac_body_298 rfl ⟨Sh.n hw, _, rfl, hw, h⟩
theorem en_Ac_body {d : Nat} {E : qE} {Q : qW → Int32 → Prop} {a1 : Int32} {a2 : Int32} {a3 : Int32} {a4 : Int32} {w : qW} (hw : Sh w) (h : c_Ac_body_0 d E Q a1 a2 a3 a4 w) : CaI (d + 1) M_Ac_body [.ref (qb E + 100), .int a1, .int a2, .int a3, .int a4] E w Q := Ca.into hw rfl (Nat.le_of_ble_eq_true rfl) h
def c_Ki_clean_0 (d : Nat) (E : qE) (Q : qW → Prop) (kk : Nat) (w : qW) : Prop := Go d M_Ki_clean E 161 161 (qFV Q) 0 [(0, .ref (qb E + kk))] [] w
set_option maxHeartbeats 4000000 in
set_option maxRecDepth 8000 in
theorem s_Ki_clean_0 {d : Nat} {E : qE} {Q : qW → Prop} {kk : Nat} {w : qW} (hw : Sh w) (hkk : isKi kk) (h : Q (qpi (qpi w kk 3 0) kk 4 60)) : c_Ki_clean_0 d E Q kk w := by
  unfold c_Ki_clean_0
  refine g_aload_n 0 e_Ki_clean_0 rfl rfl ?_
  refine g_iconst (v := 0) e_Ki_clean_1 (by decide) ?_
  refine pf_Ki_25 rfl e_Ki_clean_2 hw (lay_Ki hkk) (lt_Ki hkk) ?_
  refine g_aload_n 0 e_Ki_clean_5 rfl rfl ?_
  refine g_bipush (v := 60) e_Ki_clean_6 (by decide) ?_
  refine pf_Ki_21 rfl e_Ki_clean_8 hw (lay_Ki hkk) (lt_Ki hkk) ?_
  exact g_vret e_Ki_clean_11 rfl ⟨Sh.n hw, rfl, hw, h⟩
theorem en_Ki_clean {d : Nat} {E : qE} {Q : qW → Prop} {kk : Nat} {w : qW} (hw : Sh w) (h : c_Ki_clean_0 d E Q kk w) : CaV d M_Ki_clean [.ref (qb E + kk)] E w Q := Ca.into hw rfl (Nat.le_of_ble_eq_true rfl) h
def c_Ki_addStep_0 (d : Nat) (E : qE) (Q : qW → Prop) (kk : Nat) (a1 : Int32) (a2 : Int32) (a3 : Int32) (w : qW) : Prop := Go d M_Ki_addStep E 161 161 (qFV Q) 0 [(0, .ref (qb E + kk)), (1, .int a1), (2, .int a2), (3, .int a3)] [] w
set_option maxHeartbeats 4000000 in
set_option maxRecDepth 8000 in
theorem s_Ki_addStep_0 {d : Nat} {E : qE} {Q : qW → Prop} {kk : Nat} {a1 : Int32} {a2 : Int32} {a3 : Int32} {w : qW} (hw : Sh w) (hkk : isKi kk) (h : (((qi w kk 3) < 0) → (Q w)) ∧ ((¬ (qi w kk 3) < 0) → (((100 ≤ (qi w kk 3)) → (Q w)) ∧ ((¬ 100 ≤ (qi w kk 3)) → (vp_in (qi w kk 3) 100 ∧ (vp_in (qi (qpi w (kk + 1) ((qi w kk 3).toNatClampNeg) a1) kk 3) 100 ∧ (vp_in (qi (qpi (qpi w (kk + 1) ((qi w kk 3).toNatClampNeg) a1) (kk + 2) ((qi (qpi w (kk + 1) ((qi w kk 3).toNatClampNeg) a1) kk 3).toNatClampNeg) a2) kk 3) 100 ∧ (Q (qpi (qpi (qpi (qpi w (kk + 1) ((qi w kk 3).toNatClampNeg) a1) (kk + 2) ((qi (qpi w (kk + 1) ((qi w kk 3).toNatClampNeg) a1) kk 3).toNatClampNeg) a2) (kk + 3) ((qi (qpi (qpi w (kk + 1) ((qi w kk 3).toNatClampNeg) a1) (kk + 2) ((qi (qpi w (kk + 1) ((qi w kk 3).toNatClampNeg) a1) kk 3).toNatClampNeg) a2) kk 3).toNatClampNeg) a3) kk 3 ((qi (qpi (qpi (qpi w (kk + 1) ((qi w kk 3).toNatClampNeg) a1) (kk + 2) ((qi (qpi w (kk + 1) ((qi w kk 3).toNatClampNeg) a1) kk 3).toNatClampNeg) a2) (kk + 3) ((qi (qpi (qpi w (kk + 1) ((qi w kk 3).toNatClampNeg) a1) (kk + 2) ((qi (qpi w (kk + 1) ((qi w kk 3).toNatClampNeg) a1) kk 3).toNatClampNeg) a2) kk 3).toNatClampNeg) a3) kk 3) + 1)))))))))) : c_Ki_addStep_0 d E Q kk a1 a2 a3 w := by
  unfold c_Ki_addStep_0
  refine g_aload_n 0 e_Ki_addStep_0 rfl rfl ?_
  refine gf_Ki_25 rfl e_Ki_addStep_1 hw (lay_Ki hkk) (lt_Ki hkk) ?_
  refine g_if_lt 56 e_Ki_addStep_4 (by decide) ⟨fun z1 => ?_, fun z1 => ?_⟩
  · have h := h.1 z1
    exact g_vret e_Ki_addStep_56 rfl ⟨Sh.n hw, rfl, hw, h⟩
  · have h := h.2 z1
    refine g_aload_n 0 e_Ki_addStep_7 rfl rfl ?_
    refine gf_Ki_25 rfl e_Ki_addStep_8 hw (lay_Ki hkk) (lt_Ki hkk) ?_
    refine g_bipush (v := 100) e_Ki_addStep_11 (by decide) ?_
    refine g_icmp_ge 56 e_Ki_addStep_13 (by decide) ⟨fun z2 => ?_, fun z2 => ?_⟩
    · have h := h.1 z2
      exact g_vret e_Ki_addStep_56 rfl ⟨Sh.n hw, rfl, hw, h⟩
    · have h := h.2 z2
      refine g_aload_n 0 e_Ki_addStep_16 rfl rfl ?_
      refine gf_Ki_9 rfl e_Ki_addStep_17 hw (lay_Ki hkk) (lt_Ki hkk) (sh_Ki_steps hw hkk) ?_
      refine g_aload_n 0 e_Ki_addStep_20 rfl rfl ?_
      refine gf_Ki_25 rfl e_Ki_addStep_21 hw (lay_Ki hkk) (lt_Ki hkk) ?_
      refine g_iload_n 1 e_Ki_addStep_24 rfl rfl ?_
      obtain ⟨o3, h⟩ := h
      refine w_iastore ((qi w kk 3).toNatClampNeg) e_Ki_addStep_25 hw (lay_Ki1 hkk) (lt_Ki1 hkk) o3 rfl ?_
      refine g_aload_n 0 e_Ki_addStep_26 rfl rfl ?_
      refine gf_Ki_15 rfl e_Ki_addStep_27 hw (lay_Ki hkk) (lt_Ki hkk) (sh_Ki_relations hw hkk) ?_
      refine g_aload_n 0 e_Ki_addStep_30 rfl rfl ?_
      refine gf_Ki_25 rfl e_Ki_addStep_31 hw (lay_Ki hkk) (lt_Ki hkk) ?_
      refine g_iload_n 2 e_Ki_addStep_34 rfl rfl ?_
      obtain ⟨o4, h⟩ := h
      refine w_iastore ((qi (qpi w (kk + 1) ((qi w kk 3).toNatClampNeg) a1) kk 3).toNatClampNeg) e_Ki_addStep_35 hw (lay_Ki2 hkk) (lt_Ki2 hkk) o4 rfl ?_
      refine g_aload_n 0 e_Ki_addStep_36 rfl rfl ?_
      refine gf_Ki_18 rfl e_Ki_addStep_37 hw (lay_Ki hkk) (lt_Ki hkk) (sh_Ki_numbers hw hkk) ?_
      refine g_aload_n 0 e_Ki_addStep_40 rfl rfl ?_
      refine gf_Ki_25 rfl e_Ki_addStep_41 hw (lay_Ki hkk) (lt_Ki hkk) ?_
      refine g_iload_n 3 e_Ki_addStep_44 rfl rfl ?_
      obtain ⟨o5, h⟩ := h
      refine w_iastore ((qi (qpi (qpi w (kk + 1) ((qi w kk 3).toNatClampNeg) a1) (kk + 2) ((qi (qpi w (kk + 1) ((qi w kk 3).toNatClampNeg) a1) kk 3).toNatClampNeg) a2) kk 3).toNatClampNeg) e_Ki_addStep_45 hw (lay_Ki3 hkk) (lt_Ki3 hkk) o5 rfl ?_
      refine g_aload_n 0 e_Ki_addStep_46 rfl rfl ?_
      refine g_dup e_Ki_addStep_47 rfl ?_
      refine gf_Ki_25 rfl e_Ki_addStep_48 hw (lay_Ki hkk) (lt_Ki hkk) ?_
      refine g_iconst (v := 1) e_Ki_addStep_51 (by decide) ?_
      refine g_iadd e_Ki_addStep_52 ?_
      refine pf_Ki_25 rfl e_Ki_addStep_53 hw (lay_Ki hkk) (lt_Ki hkk) ?_
      exact g_vret e_Ki_addStep_56 rfl ⟨Sh.n hw, rfl, hw, h⟩
theorem en_Ki_addStep {d : Nat} {E : qE} {Q : qW → Prop} {kk : Nat} {a1 : Int32} {a2 : Int32} {a3 : Int32} {w : qW} (hw : Sh w) (h : c_Ki_addStep_0 d E Q kk a1 a2 a3 w) : CaV d M_Ki_addStep [.ref (qb E + kk), .int a1, .int a2, .int a3] E w Q := Ca.into hw rfl (Nat.le_of_ble_eq_true rfl) h
def c_Ki_adds_0 (d : Nat) (E : qE) (Q : qW → Int32 → Prop) (kk : Nat) (p1 : Nat) (w : qW) : Prop := Go d M_Ki_adds E 161 161 (qFI Q) 0 [(0, .ref (qb E + kk)), (1, .ref (qb E + (p1 + 2)))] [] w
def c_Ki_adds_7 (d : Nat) (E : qE) (Q : qW → Int32 → Prop) (kk : Nat) (p1 : Nat) (l2 : Int32) (l3 : Int32) (l4 : Int32) (w : qW) : Prop := Go d M_Ki_adds E 161 161 (qFI Q) 7 [(0, .ref (qb E + kk)), (1, .ref (qb E + (p1 + 2))), (2, .int l2), (3, .int l3), (4, .int l4)] [] w
set_option maxHeartbeats 4000000 in
set_option maxRecDepth 8000 in
theorem s_Ki_adds_0 {d : Nat} {E : qE} {Q : qW → Int32 → Prop} {kk : Nat} {p1 : Nat} {w : qW} (hw : Sh w) (hkk : isKi kk) (hp1 : isPan p1) (h : c_Ki_adds_7 d E Q kk p1 0 0 0 w) : c_Ki_adds_0 d E Q kk p1 w := by
  unfold c_Ki_adds_0
  refine g_iconst (v := 0) e_Ki_adds_0 (by decide) ?_
  refine g_istore_n (lv := [(2, .int 0), (0, .ref (qb E + kk)), (1, .ref (qb E + (p1 + 2)))]) e_Ki_adds_1 rfl (by decide) rfl ?_
  refine g_iconst (v := 0) e_Ki_adds_2 (by decide) ?_
  refine g_istore_n (lv := [(3, .int 0), (2, .int 0), (0, .ref (qb E + kk)), (1, .ref (qb E + (p1 + 2)))]) e_Ki_adds_3 rfl (by decide) rfl ?_
  refine g_iconst (v := 0) e_Ki_adds_4 (by decide) ?_
  refine g_istore (lv := [(4, .int 0), (3, .int 0), (2, .int 0), (0, .ref (qb E + kk)), (1, .ref (qb E + (p1 + 2)))]) e_Ki_adds_5 (by decide) rfl ?_
  refine g_loc [3, 4, 2, 1, 0] rfl ?_
  exact h
set_option maxHeartbeats 4000000 in
set_option maxRecDepth 8000 in
theorem s_Ki_adds_7 {d : Nat} {E : qE} {Q : qW → Int32 → Prop} {kk : Nat} {p1 : Nat} {l2 : Int32} {l3 : Int32} {l4 : Int32} {w : qW} (hw : Sh w) (hkk : isKi kk) (hp1 : isPan p1) (h : (((qi w kk 3) ≤ l4) → (Q w l2)) ∧ ((¬ (qi w kk 3) ≤ l4) → (((100 ≤ l4) → (Q w l2)) ∧ ((¬ 100 ≤ l4) → (vp_in l4 100 ∧ (vp_in l4 100 ∧ (((qi w (kk + 1) ((l4).toNatClampNeg)) = 6 → (c_Ki_adds_7 d E Q kk p1 l2 ((l3 >>> (1 &&& 31)) &&& ((l3 &&& 1) ||| (-2))) (l4 + 1) w)) ∧ ((qi w (kk + 1) ((l4).toNatClampNeg)) = 7 → (c_Ki_adds_7 d E Q kk p1 l2 ((l3 >>> (1 &&& 31)) ||| (l3 &&& 1)) (l4 + 1) w)) ∧ ((qi w (kk + 1) ((l4).toNatClampNeg)) = 8 → (c_Ki_adds_7 d E Q kk p1 l2 (l3 ^^^ 1) (l4 + 1) w)) ∧ ((qi w (kk + 1) ((l4).toNatClampNeg)) = 9 → (c_Ki_adds_7 d E Q kk p1 (l2 + ((l3 &&& 1) * (qi w (kk + 3) ((l4).toNatClampNeg)))) 0 (l4 + 1) w)) ∧ ((qi w (kk + 1) ((l4).toNatClampNeg)) = 10 → (c_Ki_adds_7 d E Q kk p1 (l2 - ((l3 &&& 1) * (qi w (kk + 3) ((l4).toNatClampNeg)))) 0 (l4 + 1) w)) ∧ (((qi w (kk + 1) ((l4).toNatClampNeg)).toInt < 6 ∨ 10 < (qi w (kk + 1) ((l4).toNatClampNeg)).toInt) → ((((qi w (kk + 1) ((l4).toNatClampNeg)) < 0) → ((((qi w (kk + 3) ((l4).toNatClampNeg)) ≤ (0 : Int32)) → ((((0 : Int32) ≤ (qi w (kk + 3) ((l4).toNatClampNeg))) → (vp_in l4 100 ∧ (((¬ (1 : Int32) = (qi w (kk + 2) ((l4).toNatClampNeg))) → (c_Ki_adds_7 d E Q kk p1 l2 ((l3 <<< (1 &&& 31)) ||| 0) (l4 + 1) w)) ∧ (((1 : Int32) = (qi w (kk + 2) ((l4).toNatClampNeg))) → (c_Ki_adds_7 d E Q kk p1 l2 ((l3 <<< (1 &&& 31)) ||| 1) (l4 + 1) w))))) ∧ ((¬ (0 : Int32) ≤ (qi w (kk + 3) ((l4).toNatClampNeg))) → (vp_in l4 100 ∧ (((¬ (2 : Int32) = (qi w (kk + 2) ((l4).toNatClampNeg))) → (c_Ki_adds_7 d E Q kk p1 l2 ((l3 <<< (1 &&& 31)) ||| 0) (l4 + 1) w)) ∧ (((2 : Int32) = (qi w (kk + 2) ((l4).toNatClampNeg))) → (c_Ki_adds_7 d E Q kk p1 l2 ((l3 <<< (1 &&& 31)) ||| 1) (l4 + 1) w))))))) ∧ ((¬ (qi w (kk + 3) ((l4).toNatClampNeg)) ≤ (0 : Int32)) → (vp_in l4 100 ∧ (((¬ (0 : Int32) = (qi w (kk + 2) ((l4).toNatClampNeg))) → (c_Ki_adds_7 d E Q kk p1 l2 ((l3 <<< (1 &&& 31)) ||| 0) (l4 + 1) w)) ∧ (((0 : Int32) = (qi w (kk + 2) ((l4).toNatClampNeg))) → (c_Ki_adds_7 d E Q kk p1 l2 ((l3 <<< (1 &&& 31)) ||| 1) (l4 + 1) w))))))) ∧ ((¬ (qi w (kk + 1) ((l4).toNatClampNeg)) < 0) → (((6 ≤ (qi w (kk + 1) ((l4).toNatClampNeg))) → ((((qi w (kk + 3) ((l4).toNatClampNeg)) ≤ (0 : Int32)) → ((((0 : Int32) ≤ (qi w (kk + 3) ((l4).toNatClampNeg))) → (vp_in l4 100 ∧ (((¬ (1 : Int32) = (qi w (kk + 2) ((l4).toNatClampNeg))) → (c_Ki_adds_7 d E Q kk p1 l2 ((l3 <<< (1 &&& 31)) ||| 0) (l4 + 1) w)) ∧ (((1 : Int32) = (qi w (kk + 2) ((l4).toNatClampNeg))) → (c_Ki_adds_7 d E Q kk p1 l2 ((l3 <<< (1 &&& 31)) ||| 1) (l4 + 1) w))))) ∧ ((¬ (0 : Int32) ≤ (qi w (kk + 3) ((l4).toNatClampNeg))) → (vp_in l4 100 ∧ (((¬ (2 : Int32) = (qi w (kk + 2) ((l4).toNatClampNeg))) → (c_Ki_adds_7 d E Q kk p1 l2 ((l3 <<< (1 &&& 31)) ||| 0) (l4 + 1) w)) ∧ (((2 : Int32) = (qi w (kk + 2) ((l4).toNatClampNeg))) → (c_Ki_adds_7 d E Q kk p1 l2 ((l3 <<< (1 &&& 31)) ||| 1) (l4 + 1) w))))))) ∧ ((¬ (qi w (kk + 3) ((l4).toNatClampNeg)) ≤ (0 : Int32)) → (vp_in l4 100 ∧ (((¬ (0 : Int32) = (qi w (kk + 2) ((l4).toNatClampNeg))) → (c_Ki_adds_7 d E Q kk p1 l2 ((l3 <<< (1 &&& 31)) ||| 0) (l4 + 1) w)) ∧ (((0 : Int32) = (qi w (kk + 2) ((l4).toNatClampNeg))) → (c_Ki_adds_7 d E Q kk p1 l2 ((l3 <<< (1 &&& 31)) ||| 1) (l4 + 1) w))))))) ∧ ((¬ 6 ≤ (qi w (kk + 1) ((l4).toNatClampNeg))) → (vp_in (qi w (kk + 1) ((l4).toNatClampNeg)) 6 ∧ ((((qi w (kk + 3) ((l4).toNatClampNeg)) ≤ (qi w (p1 + 2) ((qi w (kk + 1) ((l4).toNatClampNeg)).toNatClampNeg))) → ((((qi w (p1 + 2) ((qi w (kk + 1) ((l4).toNatClampNeg)).toNatClampNeg)) ≤ (qi w (kk + 3) ((l4).toNatClampNeg))) → (vp_in l4 100 ∧ (((¬ (1 : Int32) = (qi w (kk + 2) ((l4).toNatClampNeg))) → (c_Ki_adds_7 d E Q kk p1 l2 ((l3 <<< (1 &&& 31)) ||| 0) (l4 + 1) w)) ∧ (((1 : Int32) = (qi w (kk + 2) ((l4).toNatClampNeg))) → (c_Ki_adds_7 d E Q kk p1 l2 ((l3 <<< (1 &&& 31)) ||| 1) (l4 + 1) w))))) ∧ ((¬ (qi w (p1 + 2) ((qi w (kk + 1) ((l4).toNatClampNeg)).toNatClampNeg)) ≤ (qi w (kk + 3) ((l4).toNatClampNeg))) → (vp_in l4 100 ∧ (((¬ (2 : Int32) = (qi w (kk + 2) ((l4).toNatClampNeg))) → (c_Ki_adds_7 d E Q kk p1 l2 ((l3 <<< (1 &&& 31)) ||| 0) (l4 + 1) w)) ∧ (((2 : Int32) = (qi w (kk + 2) ((l4).toNatClampNeg))) → (c_Ki_adds_7 d E Q kk p1 l2 ((l3 <<< (1 &&& 31)) ||| 1) (l4 + 1) w))))))) ∧ ((¬ (qi w (kk + 3) ((l4).toNatClampNeg)) ≤ (qi w (p1 + 2) ((qi w (kk + 1) ((l4).toNatClampNeg)).toNatClampNeg))) → (vp_in l4 100 ∧ (((¬ (0 : Int32) = (qi w (kk + 2) ((l4).toNatClampNeg))) → (c_Ki_adds_7 d E Q kk p1 l2 ((l3 <<< (1 &&& 31)) ||| 0) (l4 + 1) w)) ∧ (((0 : Int32) = (qi w (kk + 2) ((l4).toNatClampNeg))) → (c_Ki_adds_7 d E Q kk p1 l2 ((l3 <<< (1 &&& 31)) ||| 1) (l4 + 1) w))))))))))))))))))) : c_Ki_adds_7 d E Q kk p1 l2 l3 l4 w := by
  unfold c_Ki_adds_7
  refine g_iload 4 e_Ki_adds_7 rfl ?_
  refine g_aload_n 0 e_Ki_adds_9 rfl rfl ?_
  refine gf_Ki_25 rfl e_Ki_adds_10 hw (lay_Ki hkk) (lt_Ki hkk) ?_
  refine g_icmp_ge 215 e_Ki_adds_13 (by decide) ⟨fun z1 => ?_, fun z1 => ?_⟩
  · have h := h.1 z1
    refine g_iload_n 2 e_Ki_adds_215 rfl rfl ?_
    exact g_iret e_Ki_adds_216 rfl ⟨Sh.n hw, _, rfl, hw, h⟩
  · have h := h.2 z1
    refine g_iload 4 e_Ki_adds_16 rfl ?_
    refine g_bipush (v := 100) e_Ki_adds_18 (by decide) ?_
    refine g_icmp_ge 215 e_Ki_adds_20 (by decide) ⟨fun z2 => ?_, fun z2 => ?_⟩
    · have h := h.1 z2
      refine g_iload_n 2 e_Ki_adds_215 rfl rfl ?_
      exact g_iret e_Ki_adds_216 rfl ⟨Sh.n hw, _, rfl, hw, h⟩
    · have h := h.2 z2
      refine g_aload_n 0 e_Ki_adds_23 rfl rfl ?_
      refine gf_Ki_9 rfl e_Ki_adds_24 hw (lay_Ki hkk) (lt_Ki hkk) (sh_Ki_steps hw hkk) ?_
      refine g_iload 4 e_Ki_adds_27 rfl ?_
      obtain ⟨o3, h⟩ := h
      refine w_iaload ((l4).toNatClampNeg) e_Ki_adds_29 hw (lay_Ki1 hkk) (lt_Ki1 hkk) o3 rfl ?_
      refine g_istore (lv := [(5, .int (qi w (kk + 1) ((l4).toNatClampNeg))), (0, .ref (qb E + kk)), (1, .ref (qb E + (p1 + 2))), (2, .int l2), (3, .int l3), (4, .int l4)]) e_Ki_adds_30 (by decide) rfl ?_
      refine g_aload_n 1 e_Ki_adds_32 rfl rfl ?_
      refine gf_Ki_18 rfl e_Ki_adds_33 hw (lay_Ki hkk) (lt_Ki hkk) (sh_Ki_numbers hw hkk) ?_
      refine g_iload 5 e_Ki_adds_36 rfl ?_
      obtain ⟨o4, h⟩ := h
      refine w_iaload ((l4).toNatClampNeg) e_Ki_adds_38 hw (lay_Ki3 hkk) (lt_Ki3 hkk) o4 rfl ?_
      refine g_istore (lv := [(6, .int (qi w (kk + 3) ((l4).toNatClampNeg))), (5, .int (qi w (kk + 1) ((l4).toNatClampNeg))), (0, .ref (qb E + kk)), (1, .ref (qb E + (p1 + 2))), (2, .int l2), (3, .int l3), (4, .int l4)]) e_Ki_adds_39 (by decide) rfl ?_
      refine g_iload_n 5 e_Ki_adds_41 rfl rfl ?_
      refine g_iconst (v := 1) e_Ki_adds_42 (by decide) ?_
      refine g_iand e_Ki_adds_43 ?_
      refine g_istore (lv := [(7, .int (l3 &&& 1)), (6, .int (qi w (kk + 3) ((l4).toNatClampNeg))), (5, .int (qi w (kk + 1) ((l4).toNatClampNeg))), (0, .ref (qb E + kk)), (1, .ref (qb E + (p1 + 2))), (2, .int l2), (3, .int l3), (4, .int l4)]) e_Ki_adds_44 (by decide) rfl ?_
      refine g_iload 2 e_Ki_adds_46 rfl ?_
      refine g_table e_Ki_adds_48 5 (by decide) [84, 97, 107, 114, 127] 140 (by decide) (by decide +kernel) ⟨fun j5 hj5 hx5 => ?_, fun hx5 => ?_⟩
      · rcases (show j5 = 0 ∨ j5 = 1 ∨ j5 = 2 ∨ j5 = 3 ∨ j5 = 4 by omega) with rfl | rfl | rfl | rfl | rfl
        · have h := h.1 (q_key hx5 (by decide))
          change Go _ _ _ _ _ _ 84 _ _ _
          refine g_iload_n 6 e_Ki_adds_84 rfl rfl ?_
          refine g_iconst (v := 1) e_Ki_adds_85 (by decide) ?_
          refine g_ishr e_Ki_adds_86 ?_
          refine g_iload 0 e_Ki_adds_87 rfl ?_
          refine g_bipush (v := (-2)) e_Ki_adds_89 (by decide) ?_
          refine g_ior e_Ki_adds_91 ?_
          refine g_iand e_Ki_adds_92 ?_
          refine g_istore_n (lv := [(3, .int ((l3 >>> (1 &&& 31)) &&& ((l3 &&& 1) ||| (-2)))), (7, .int (l3 &&& 1)), (6, .int (qi w (kk + 3) ((l4).toNatClampNeg))), (5, .int (qi w (kk + 1) ((l4).toNatClampNeg))), (0, .ref (qb E + kk)), (1, .ref (qb E + (p1 + 2))), (2, .int l2), (4, .int l4)]) e_Ki_adds_93 rfl (by decide) rfl ?_
          refine g_goto 209 e_Ki_adds_94 (by decide) ?_
          refine g_iinc (v := (l4 + 1)) (lv := [(4, .int (l4 + 1)), (3, .int ((l3 >>> (1 &&& 31)) &&& ((l3 &&& 1) ||| (-2)))), (7, .int (l3 &&& 1)), (6, .int (qi w (kk + 3) ((l4).toNatClampNeg))), (5, .int (qi w (kk + 1) ((l4).toNatClampNeg))), (0, .ref (qb E + kk)), (1, .ref (qb E + (p1 + 2))), (2, .int l2)]) 7 e_Ki_adds_209 rfl rfl (by decide) rfl ?_
          refine g_goto 7 e_Ki_adds_212 (by decide) ?_
          refine g_loc [5, 6, 7, 1, 0] rfl ?_
          exact h
        · have h := h.2.1 (q_key hx5 (by decide))
          change Go _ _ _ _ _ _ 97 _ _ _
          refine g_iload_n 6 e_Ki_adds_97 rfl rfl ?_
          refine g_iconst (v := 1) e_Ki_adds_98 (by decide) ?_
          refine g_ishr e_Ki_adds_99 ?_
          refine g_iload 0 e_Ki_adds_100 rfl ?_
          refine g_ior e_Ki_adds_102 ?_
          refine g_istore_n (lv := [(3, .int ((l3 >>> (1 &&& 31)) ||| (l3 &&& 1))), (7, .int (l3 &&& 1)), (6, .int (qi w (kk + 3) ((l4).toNatClampNeg))), (5, .int (qi w (kk + 1) ((l4).toNatClampNeg))), (0, .ref (qb E + kk)), (1, .ref (qb E + (p1 + 2))), (2, .int l2), (4, .int l4)]) e_Ki_adds_103 rfl (by decide) rfl ?_
          refine g_goto 209 e_Ki_adds_104 (by decide) ?_
          refine g_iinc (v := (l4 + 1)) (lv := [(4, .int (l4 + 1)), (3, .int ((l3 >>> (1 &&& 31)) ||| (l3 &&& 1))), (7, .int (l3 &&& 1)), (6, .int (qi w (kk + 3) ((l4).toNatClampNeg))), (5, .int (qi w (kk + 1) ((l4).toNatClampNeg))), (0, .ref (qb E + kk)), (1, .ref (qb E + (p1 + 2))), (2, .int l2)]) 7 e_Ki_adds_209 rfl rfl (by decide) rfl ?_
          refine g_goto 7 e_Ki_adds_212 (by decide) ?_
          refine g_loc [5, 6, 7, 1, 0] rfl ?_
          exact h
        · have h := h.2.2.1 (q_key hx5 (by decide))
          change Go _ _ _ _ _ _ 107 _ _ _
          refine g_iload_n 6 e_Ki_adds_107 rfl rfl ?_
          refine g_iconst (v := 1) e_Ki_adds_108 (by decide) ?_
          refine g_ixor e_Ki_adds_109 ?_
          refine g_istore_n (lv := [(3, .int (l3 ^^^ 1)), (7, .int (l3 &&& 1)), (6, .int (qi w (kk + 3) ((l4).toNatClampNeg))), (5, .int (qi w (kk + 1) ((l4).toNatClampNeg))), (0, .ref (qb E + kk)), (1, .ref (qb E + (p1 + 2))), (2, .int l2), (4, .int l4)]) e_Ki_adds_110 rfl (by decide) rfl ?_
          refine g_goto 209 e_Ki_adds_111 (by decide) ?_
          refine g_iinc (v := (l4 + 1)) (lv := [(4, .int (l4 + 1)), (3, .int (l3 ^^^ 1)), (7, .int (l3 &&& 1)), (6, .int (qi w (kk + 3) ((l4).toNatClampNeg))), (5, .int (qi w (kk + 1) ((l4).toNatClampNeg))), (0, .ref (qb E + kk)), (1, .ref (qb E + (p1 + 2))), (2, .int l2)]) 7 e_Ki_adds_209 rfl rfl (by decide) rfl ?_
          refine g_goto 7 e_Ki_adds_212 (by decide) ?_
          refine g_loc [5, 6, 7, 1, 0] rfl ?_
          exact h
        · have h := h.2.2.2.1 (q_key hx5 (by decide))
          change Go _ _ _ _ _ _ 114 _ _ _
          refine g_iload_n 5 e_Ki_adds_114 rfl rfl ?_
          refine g_iload 0 e_Ki_adds_115 rfl ?_
          refine g_iload 1 e_Ki_adds_117 rfl ?_
          refine g_imul e_Ki_adds_119 ?_
          refine g_iadd e_Ki_adds_120 ?_
          refine g_istore_n (lv := [(2, .int (l2 + ((l3 &&& 1) * (qi w (kk + 3) ((l4).toNatClampNeg))))), (7, .int (l3 &&& 1)), (6, .int (qi w (kk + 3) ((l4).toNatClampNeg))), (5, .int (qi w (kk + 1) ((l4).toNatClampNeg))), (0, .ref (qb E + kk)), (1, .ref (qb E + (p1 + 2))), (3, .int l3), (4, .int l4)]) e_Ki_adds_121 rfl (by decide) rfl ?_
          refine g_iconst (v := 0) e_Ki_adds_122 (by decide) ?_
          refine g_istore_n (lv := [(3, .int 0), (2, .int (l2 + ((l3 &&& 1) * (qi w (kk + 3) ((l4).toNatClampNeg))))), (7, .int (l3 &&& 1)), (6, .int (qi w (kk + 3) ((l4).toNatClampNeg))), (5, .int (qi w (kk + 1) ((l4).toNatClampNeg))), (0, .ref (qb E + kk)), (1, .ref (qb E + (p1 + 2))), (4, .int l4)]) e_Ki_adds_123 rfl (by decide) rfl ?_
          refine g_goto 209 e_Ki_adds_124 (by decide) ?_
          refine g_iinc (v := (l4 + 1)) (lv := [(4, .int (l4 + 1)), (3, .int 0), (2, .int (l2 + ((l3 &&& 1) * (qi w (kk + 3) ((l4).toNatClampNeg))))), (7, .int (l3 &&& 1)), (6, .int (qi w (kk + 3) ((l4).toNatClampNeg))), (5, .int (qi w (kk + 1) ((l4).toNatClampNeg))), (0, .ref (qb E + kk)), (1, .ref (qb E + (p1 + 2)))]) 7 e_Ki_adds_209 rfl rfl (by decide) rfl ?_
          refine g_goto 7 e_Ki_adds_212 (by decide) ?_
          refine g_loc [6, 7, 2, 1, 0] rfl ?_
          exact h
        · have h := h.2.2.2.2.1 (q_key hx5 (by decide))
          change Go _ _ _ _ _ _ 127 _ _ _
          refine g_iload_n 5 e_Ki_adds_127 rfl rfl ?_
          refine g_iload 0 e_Ki_adds_128 rfl ?_
          refine g_iload 1 e_Ki_adds_130 rfl ?_
          refine g_imul e_Ki_adds_132 ?_
          refine g_isub e_Ki_adds_133 ?_
          refine g_istore_n (lv := [(2, .int (l2 - ((l3 &&& 1) * (qi w (kk + 3) ((l4).toNatClampNeg))))), (7, .int (l3 &&& 1)), (6, .int (qi w (kk + 3) ((l4).toNatClampNeg))), (5, .int (qi w (kk + 1) ((l4).toNatClampNeg))), (0, .ref (qb E + kk)), (1, .ref (qb E + (p1 + 2))), (3, .int l3), (4, .int l4)]) e_Ki_adds_134 rfl (by decide) rfl ?_
          refine g_iconst (v := 0) e_Ki_adds_135 (by decide) ?_
          refine g_istore_n (lv := [(3, .int 0), (2, .int (l2 - ((l3 &&& 1) * (qi w (kk + 3) ((l4).toNatClampNeg))))), (7, .int (l3 &&& 1)), (6, .int (qi w (kk + 3) ((l4).toNatClampNeg))), (5, .int (qi w (kk + 1) ((l4).toNatClampNeg))), (0, .ref (qb E + kk)), (1, .ref (qb E + (p1 + 2))), (4, .int l4)]) e_Ki_adds_136 rfl (by decide) rfl ?_
          refine g_goto 209 e_Ki_adds_137 (by decide) ?_
          refine g_iinc (v := (l4 + 1)) (lv := [(4, .int (l4 + 1)), (3, .int 0), (2, .int (l2 - ((l3 &&& 1) * (qi w (kk + 3) ((l4).toNatClampNeg))))), (7, .int (l3 &&& 1)), (6, .int (qi w (kk + 3) ((l4).toNatClampNeg))), (5, .int (qi w (kk + 1) ((l4).toNatClampNeg))), (0, .ref (qb E + kk)), (1, .ref (qb E + (p1 + 2)))]) 7 e_Ki_adds_209 rfl rfl (by decide) rfl ?_
          refine g_goto 7 e_Ki_adds_212 (by decide) ?_
          refine g_loc [6, 7, 2, 1, 0] rfl ?_
          exact h
      · have h := h.2.2.2.2.2 hx5
        refine g_iload 2 e_Ki_adds_140 rfl ?_
        refine g_if_lt 159 e_Ki_adds_142 (by decide) ⟨fun z6 => ?_, fun z6 => ?_⟩
        · have h := h.1 z6
          refine g_iconst (v := 0) e_Ki_adds_159 (by decide) ?_
          refine g_istore (lv := [(8, .int 0), (7, .int (l3 &&& 1)), (6, .int (qi w (kk + 3) ((l4).toNatClampNeg))), (5, .int (qi w (kk + 1) ((l4).toNatClampNeg))), (0, .ref (qb E + kk)), (1, .ref (qb E + (p1 + 2))), (2, .int l2), (3, .int l3), (4, .int l4)]) e_Ki_adds_160 (by decide) rfl ?_
          refine g_iload 0 e_Ki_adds_162 rfl ?_
          refine g_iload 2 e_Ki_adds_164 rfl ?_
          refine g_icmp_ge 173 e_Ki_adds_166 (by decide) ⟨fun z7 => ?_, fun z7 => ?_⟩
          · have h := h.1 z7
            refine g_iload 0 e_Ki_adds_173 rfl ?_
            refine g_iload 2 e_Ki_adds_175 rfl ?_
            refine g_icmp_le 184 e_Ki_adds_177 (by decide) ⟨fun z8 => ?_, fun z8 => ?_⟩
            · have h := h.1 z8
              refine g_iconst (v := 1) e_Ki_adds_184 (by decide) ?_
              refine g_istore (lv := [(9, .int 1), (8, .int 0), (7, .int (l3 &&& 1)), (6, .int (qi w (kk + 3) ((l4).toNatClampNeg))), (5, .int (qi w (kk + 1) ((l4).toNatClampNeg))), (0, .ref (qb E + kk)), (1, .ref (qb E + (p1 + 2))), (2, .int l2), (3, .int l3), (4, .int l4)]) e_Ki_adds_185 (by decide) rfl ?_
              refine g_iload_n 8 e_Ki_adds_187 rfl rfl ?_
              refine g_iconst (v := 1) e_Ki_adds_188 (by decide) ?_
              refine g_ishl e_Ki_adds_189 ?_
              refine g_iload 0 e_Ki_adds_190 rfl ?_
              refine g_aload_n 5 e_Ki_adds_192 rfl rfl ?_
              refine gf_Ki_15 rfl e_Ki_adds_193 hw (lay_Ki hkk) (lt_Ki hkk) (sh_Ki_relations hw hkk) ?_
              refine g_iload 9 e_Ki_adds_196 rfl ?_
              obtain ⟨o9, h⟩ := h
              refine w_iaload ((l4).toNatClampNeg) e_Ki_adds_198 hw (lay_Ki2 hkk) (lt_Ki2 hkk) o9 rfl ?_
              refine g_icmp_ne 206 e_Ki_adds_199 (by decide) ⟨fun z10 => ?_, fun z10 => ?_⟩
              · have h := h.1 z10
                refine g_iconst (v := 0) e_Ki_adds_206 (by decide) ?_
                refine g_ior e_Ki_adds_207 ?_
                refine g_istore_n (lv := [(3, .int ((l3 <<< (1 &&& 31)) ||| 0)), (9, .int 1), (8, .int 0), (7, .int (l3 &&& 1)), (6, .int (qi w (kk + 3) ((l4).toNatClampNeg))), (5, .int (qi w (kk + 1) ((l4).toNatClampNeg))), (0, .ref (qb E + kk)), (1, .ref (qb E + (p1 + 2))), (2, .int l2), (4, .int l4)]) e_Ki_adds_208 rfl (by decide) rfl ?_
                refine g_iinc (v := (l4 + 1)) (lv := [(4, .int (l4 + 1)), (3, .int ((l3 <<< (1 &&& 31)) ||| 0)), (9, .int 1), (8, .int 0), (7, .int (l3 &&& 1)), (6, .int (qi w (kk + 3) ((l4).toNatClampNeg))), (5, .int (qi w (kk + 1) ((l4).toNatClampNeg))), (0, .ref (qb E + kk)), (1, .ref (qb E + (p1 + 2))), (2, .int l2)]) 9 e_Ki_adds_209 rfl rfl (by decide) rfl ?_
                refine g_goto 7 e_Ki_adds_212 (by decide) ?_
                refine g_loc [7, 8, 9, 1, 0] rfl ?_
                exact h
              · have h := h.2 z10
                refine g_iconst (v := 1) e_Ki_adds_202 (by decide) ?_
                refine g_goto 207 e_Ki_adds_203 (by decide) ?_
                refine g_ior e_Ki_adds_207 ?_
                refine g_istore_n (lv := [(3, .int ((l3 <<< (1 &&& 31)) ||| 1)), (9, .int 1), (8, .int 0), (7, .int (l3 &&& 1)), (6, .int (qi w (kk + 3) ((l4).toNatClampNeg))), (5, .int (qi w (kk + 1) ((l4).toNatClampNeg))), (0, .ref (qb E + kk)), (1, .ref (qb E + (p1 + 2))), (2, .int l2), (4, .int l4)]) e_Ki_adds_208 rfl (by decide) rfl ?_
                refine g_iinc (v := (l4 + 1)) (lv := [(4, .int (l4 + 1)), (3, .int ((l3 <<< (1 &&& 31)) ||| 1)), (9, .int 1), (8, .int 0), (7, .int (l3 &&& 1)), (6, .int (qi w (kk + 3) ((l4).toNatClampNeg))), (5, .int (qi w (kk + 1) ((l4).toNatClampNeg))), (0, .ref (qb E + kk)), (1, .ref (qb E + (p1 + 2))), (2, .int l2)]) 9 e_Ki_adds_209 rfl rfl (by decide) rfl ?_
                refine g_goto 7 e_Ki_adds_212 (by decide) ?_
                refine g_loc [7, 8, 9, 1, 0] rfl ?_
                exact h
            · have h := h.2 z8
              refine g_iconst (v := 2) e_Ki_adds_180 (by decide) ?_
              refine g_goto 185 e_Ki_adds_181 (by decide) ?_
              refine g_istore (lv := [(9, .int 2), (8, .int 0), (7, .int (l3 &&& 1)), (6, .int (qi w (kk + 3) ((l4).toNatClampNeg))), (5, .int (qi w (kk + 1) ((l4).toNatClampNeg))), (0, .ref (qb E + kk)), (1, .ref (qb E + (p1 + 2))), (2, .int l2), (3, .int l3), (4, .int l4)]) e_Ki_adds_185 (by decide) rfl ?_
              refine g_iload_n 8 e_Ki_adds_187 rfl rfl ?_
              refine g_iconst (v := 1) e_Ki_adds_188 (by decide) ?_
              refine g_ishl e_Ki_adds_189 ?_
              refine g_iload 0 e_Ki_adds_190 rfl ?_
              refine g_aload_n 5 e_Ki_adds_192 rfl rfl ?_
              refine gf_Ki_15 rfl e_Ki_adds_193 hw (lay_Ki hkk) (lt_Ki hkk) (sh_Ki_relations hw hkk) ?_
              refine g_iload 9 e_Ki_adds_196 rfl ?_
              obtain ⟨o11, h⟩ := h
              refine w_iaload ((l4).toNatClampNeg) e_Ki_adds_198 hw (lay_Ki2 hkk) (lt_Ki2 hkk) o11 rfl ?_
              refine g_icmp_ne 206 e_Ki_adds_199 (by decide) ⟨fun z12 => ?_, fun z12 => ?_⟩
              · have h := h.1 z12
                refine g_iconst (v := 0) e_Ki_adds_206 (by decide) ?_
                refine g_ior e_Ki_adds_207 ?_
                refine g_istore_n (lv := [(3, .int ((l3 <<< (1 &&& 31)) ||| 0)), (9, .int 2), (8, .int 0), (7, .int (l3 &&& 1)), (6, .int (qi w (kk + 3) ((l4).toNatClampNeg))), (5, .int (qi w (kk + 1) ((l4).toNatClampNeg))), (0, .ref (qb E + kk)), (1, .ref (qb E + (p1 + 2))), (2, .int l2), (4, .int l4)]) e_Ki_adds_208 rfl (by decide) rfl ?_
                refine g_iinc (v := (l4 + 1)) (lv := [(4, .int (l4 + 1)), (3, .int ((l3 <<< (1 &&& 31)) ||| 0)), (9, .int 2), (8, .int 0), (7, .int (l3 &&& 1)), (6, .int (qi w (kk + 3) ((l4).toNatClampNeg))), (5, .int (qi w (kk + 1) ((l4).toNatClampNeg))), (0, .ref (qb E + kk)), (1, .ref (qb E + (p1 + 2))), (2, .int l2)]) 9 e_Ki_adds_209 rfl rfl (by decide) rfl ?_
                refine g_goto 7 e_Ki_adds_212 (by decide) ?_
                refine g_loc [7, 8, 9, 1, 0] rfl ?_
                exact h
              · have h := h.2 z12
                refine g_iconst (v := 1) e_Ki_adds_202 (by decide) ?_
                refine g_goto 207 e_Ki_adds_203 (by decide) ?_
                refine g_ior e_Ki_adds_207 ?_
                refine g_istore_n (lv := [(3, .int ((l3 <<< (1 &&& 31)) ||| 1)), (9, .int 2), (8, .int 0), (7, .int (l3 &&& 1)), (6, .int (qi w (kk + 3) ((l4).toNatClampNeg))), (5, .int (qi w (kk + 1) ((l4).toNatClampNeg))), (0, .ref (qb E + kk)), (1, .ref (qb E + (p1 + 2))), (2, .int l2), (4, .int l4)]) e_Ki_adds_208 rfl (by decide) rfl ?_
                refine g_iinc (v := (l4 + 1)) (lv := [(4, .int (l4 + 1)), (3, .int ((l3 <<< (1 &&& 31)) ||| 1)), (9, .int 2), (8, .int 0), (7, .int (l3 &&& 1)), (6, .int (qi w (kk + 3) ((l4).toNatClampNeg))), (5, .int (qi w (kk + 1) ((l4).toNatClampNeg))), (0, .ref (qb E + kk)), (1, .ref (qb E + (p1 + 2))), (2, .int l2)]) 9 e_Ki_adds_209 rfl rfl (by decide) rfl ?_
                refine g_goto 7 e_Ki_adds_212 (by decide) ?_
                refine g_loc [7, 8, 9, 1, 0] rfl ?_
                exact h
          · have h := h.2 z7
            refine g_iconst (v := 0) e_Ki_adds_169 (by decide) ?_
            refine g_goto 185 e_Ki_adds_170 (by decide) ?_
            refine g_istore (lv := [(9, .int 0), (8, .int 0), (7, .int (l3 &&& 1)), (6, .int (qi w (kk + 3) ((l4).toNatClampNeg))), (5, .int (qi w (kk + 1) ((l4).toNatClampNeg))), (0, .ref (qb E + kk)), (1, .ref (qb E + (p1 + 2))), (2, .int l2), (3, .int l3), (4, .int l4)]) e_Ki_adds_185 (by decide) rfl ?_
            refine g_iload_n 8 e_Ki_adds_187 rfl rfl ?_
            refine g_iconst (v := 1) e_Ki_adds_188 (by decide) ?_
            refine g_ishl e_Ki_adds_189 ?_
            refine g_iload 0 e_Ki_adds_190 rfl ?_
            refine g_aload_n 5 e_Ki_adds_192 rfl rfl ?_
            refine gf_Ki_15 rfl e_Ki_adds_193 hw (lay_Ki hkk) (lt_Ki hkk) (sh_Ki_relations hw hkk) ?_
            refine g_iload 9 e_Ki_adds_196 rfl ?_
            obtain ⟨o13, h⟩ := h
            refine w_iaload ((l4).toNatClampNeg) e_Ki_adds_198 hw (lay_Ki2 hkk) (lt_Ki2 hkk) o13 rfl ?_
            refine g_icmp_ne 206 e_Ki_adds_199 (by decide) ⟨fun z14 => ?_, fun z14 => ?_⟩
            · have h := h.1 z14
              refine g_iconst (v := 0) e_Ki_adds_206 (by decide) ?_
              refine g_ior e_Ki_adds_207 ?_
              refine g_istore_n (lv := [(3, .int ((l3 <<< (1 &&& 31)) ||| 0)), (9, .int 0), (8, .int 0), (7, .int (l3 &&& 1)), (6, .int (qi w (kk + 3) ((l4).toNatClampNeg))), (5, .int (qi w (kk + 1) ((l4).toNatClampNeg))), (0, .ref (qb E + kk)), (1, .ref (qb E + (p1 + 2))), (2, .int l2), (4, .int l4)]) e_Ki_adds_208 rfl (by decide) rfl ?_
              refine g_iinc (v := (l4 + 1)) (lv := [(4, .int (l4 + 1)), (3, .int ((l3 <<< (1 &&& 31)) ||| 0)), (9, .int 0), (8, .int 0), (7, .int (l3 &&& 1)), (6, .int (qi w (kk + 3) ((l4).toNatClampNeg))), (5, .int (qi w (kk + 1) ((l4).toNatClampNeg))), (0, .ref (qb E + kk)), (1, .ref (qb E + (p1 + 2))), (2, .int l2)]) 9 e_Ki_adds_209 rfl rfl (by decide) rfl ?_
              refine g_goto 7 e_Ki_adds_212 (by decide) ?_
              refine g_loc [7, 8, 9, 1, 0] rfl ?_
              exact h
            · have h := h.2 z14
              refine g_iconst (v := 1) e_Ki_adds_202 (by decide) ?_
              refine g_goto 207 e_Ki_adds_203 (by decide) ?_
              refine g_ior e_Ki_adds_207 ?_
              refine g_istore_n (lv := [(3, .int ((l3 <<< (1 &&& 31)) ||| 1)), (9, .int 0), (8, .int 0), (7, .int (l3 &&& 1)), (6, .int (qi w (kk + 3) ((l4).toNatClampNeg))), (5, .int (qi w (kk + 1) ((l4).toNatClampNeg))), (0, .ref (qb E + kk)), (1, .ref (qb E + (p1 + 2))), (2, .int l2), (4, .int l4)]) e_Ki_adds_208 rfl (by decide) rfl ?_
              refine g_iinc (v := (l4 + 1)) (lv := [(4, .int (l4 + 1)), (3, .int ((l3 <<< (1 &&& 31)) ||| 1)), (9, .int 0), (8, .int 0), (7, .int (l3 &&& 1)), (6, .int (qi w (kk + 3) ((l4).toNatClampNeg))), (5, .int (qi w (kk + 1) ((l4).toNatClampNeg))), (0, .ref (qb E + kk)), (1, .ref (qb E + (p1 + 2))), (2, .int l2)]) 9 e_Ki_adds_209 rfl rfl (by decide) rfl ?_
              refine g_goto 7 e_Ki_adds_212 (by decide) ?_
              refine g_loc [7, 8, 9, 1, 0] rfl ?_
              exact h
        · have h := h.2 z6
          refine g_iload 2 e_Ki_adds_145 rfl ?_
          refine g_aload_n 4 e_Ki_adds_147 rfl rfl ?_
          refine w_alen (v := 6) e_Ki_adds_148 hw (lay_Fac hp1) (Or.inl rfl) (lt_Fac hp1) rfl ?_
          refine g_icmp_ge 159 e_Ki_adds_149 (by decide) ⟨fun z15 => ?_, fun z15 => ?_⟩
          · have h := h.1 z15
            refine g_iconst (v := 0) e_Ki_adds_159 (by decide) ?_
            refine g_istore (lv := [(8, .int 0), (7, .int (l3 &&& 1)), (6, .int (qi w (kk + 3) ((l4).toNatClampNeg))), (5, .int (qi w (kk + 1) ((l4).toNatClampNeg))), (0, .ref (qb E + kk)), (1, .ref (qb E + (p1 + 2))), (2, .int l2), (3, .int l3), (4, .int l4)]) e_Ki_adds_160 (by decide) rfl ?_
            refine g_iload 0 e_Ki_adds_162 rfl ?_
            refine g_iload 2 e_Ki_adds_164 rfl ?_
            refine g_icmp_ge 173 e_Ki_adds_166 (by decide) ⟨fun z16 => ?_, fun z16 => ?_⟩
            · have h := h.1 z16
              refine g_iload 0 e_Ki_adds_173 rfl ?_
              refine g_iload 2 e_Ki_adds_175 rfl ?_
              refine g_icmp_le 184 e_Ki_adds_177 (by decide) ⟨fun z17 => ?_, fun z17 => ?_⟩
              · have h := h.1 z17
                refine g_iconst (v := 1) e_Ki_adds_184 (by decide) ?_
                refine g_istore (lv := [(9, .int 1), (8, .int 0), (7, .int (l3 &&& 1)), (6, .int (qi w (kk + 3) ((l4).toNatClampNeg))), (5, .int (qi w (kk + 1) ((l4).toNatClampNeg))), (0, .ref (qb E + kk)), (1, .ref (qb E + (p1 + 2))), (2, .int l2), (3, .int l3), (4, .int l4)]) e_Ki_adds_185 (by decide) rfl ?_
                refine g_iload_n 8 e_Ki_adds_187 rfl rfl ?_
                refine g_iconst (v := 1) e_Ki_adds_188 (by decide) ?_
                refine g_ishl e_Ki_adds_189 ?_
                refine g_iload 0 e_Ki_adds_190 rfl ?_
                refine g_aload_n 5 e_Ki_adds_192 rfl rfl ?_
                refine gf_Ki_15 rfl e_Ki_adds_193 hw (lay_Ki hkk) (lt_Ki hkk) (sh_Ki_relations hw hkk) ?_
                refine g_iload 9 e_Ki_adds_196 rfl ?_
                obtain ⟨o18, h⟩ := h
                refine w_iaload ((l4).toNatClampNeg) e_Ki_adds_198 hw (lay_Ki2 hkk) (lt_Ki2 hkk) o18 rfl ?_
                refine g_icmp_ne 206 e_Ki_adds_199 (by decide) ⟨fun z19 => ?_, fun z19 => ?_⟩
                · have h := h.1 z19
                  refine g_iconst (v := 0) e_Ki_adds_206 (by decide) ?_
                  refine g_ior e_Ki_adds_207 ?_
                  refine g_istore_n (lv := [(3, .int ((l3 <<< (1 &&& 31)) ||| 0)), (9, .int 1), (8, .int 0), (7, .int (l3 &&& 1)), (6, .int (qi w (kk + 3) ((l4).toNatClampNeg))), (5, .int (qi w (kk + 1) ((l4).toNatClampNeg))), (0, .ref (qb E + kk)), (1, .ref (qb E + (p1 + 2))), (2, .int l2), (4, .int l4)]) e_Ki_adds_208 rfl (by decide) rfl ?_
                  refine g_iinc (v := (l4 + 1)) (lv := [(4, .int (l4 + 1)), (3, .int ((l3 <<< (1 &&& 31)) ||| 0)), (9, .int 1), (8, .int 0), (7, .int (l3 &&& 1)), (6, .int (qi w (kk + 3) ((l4).toNatClampNeg))), (5, .int (qi w (kk + 1) ((l4).toNatClampNeg))), (0, .ref (qb E + kk)), (1, .ref (qb E + (p1 + 2))), (2, .int l2)]) 9 e_Ki_adds_209 rfl rfl (by decide) rfl ?_
                  refine g_goto 7 e_Ki_adds_212 (by decide) ?_
                  refine g_loc [7, 8, 9, 1, 0] rfl ?_
                  exact h
                · have h := h.2 z19
                  refine g_iconst (v := 1) e_Ki_adds_202 (by decide) ?_
                  refine g_goto 207 e_Ki_adds_203 (by decide) ?_
                  refine g_ior e_Ki_adds_207 ?_
                  refine g_istore_n (lv := [(3, .int ((l3 <<< (1 &&& 31)) ||| 1)), (9, .int 1), (8, .int 0), (7, .int (l3 &&& 1)), (6, .int (qi w (kk + 3) ((l4).toNatClampNeg))), (5, .int (qi w (kk + 1) ((l4).toNatClampNeg))), (0, .ref (qb E + kk)), (1, .ref (qb E + (p1 + 2))), (2, .int l2), (4, .int l4)]) e_Ki_adds_208 rfl (by decide) rfl ?_
                  refine g_iinc (v := (l4 + 1)) (lv := [(4, .int (l4 + 1)), (3, .int ((l3 <<< (1 &&& 31)) ||| 1)), (9, .int 1), (8, .int 0), (7, .int (l3 &&& 1)), (6, .int (qi w (kk + 3) ((l4).toNatClampNeg))), (5, .int (qi w (kk + 1) ((l4).toNatClampNeg))), (0, .ref (qb E + kk)), (1, .ref (qb E + (p1 + 2))), (2, .int l2)]) 9 e_Ki_adds_209 rfl rfl (by decide) rfl ?_
                  refine g_goto 7 e_Ki_adds_212 (by decide) ?_
                  refine g_loc [7, 8, 9, 1, 0] rfl ?_
                  exact h
              · have h := h.2 z17
                refine g_iconst (v := 2) e_Ki_adds_180 (by decide) ?_
                refine g_goto 185 e_Ki_adds_181 (by decide) ?_
                refine g_istore (lv := [(9, .int 2), (8, .int 0), (7, .int (l3 &&& 1)), (6, .int (qi w (kk + 3) ((l4).toNatClampNeg))), (5, .int (qi w (kk + 1) ((l4).toNatClampNeg))), (0, .ref (qb E + kk)), (1, .ref (qb E + (p1 + 2))), (2, .int l2), (3, .int l3), (4, .int l4)]) e_Ki_adds_185 (by decide) rfl ?_
                refine g_iload_n 8 e_Ki_adds_187 rfl rfl ?_
                refine g_iconst (v := 1) e_Ki_adds_188 (by decide) ?_
                refine g_ishl e_Ki_adds_189 ?_
                refine g_iload 0 e_Ki_adds_190 rfl ?_
                refine g_aload_n 5 e_Ki_adds_192 rfl rfl ?_
                refine gf_Ki_15 rfl e_Ki_adds_193 hw (lay_Ki hkk) (lt_Ki hkk) (sh_Ki_relations hw hkk) ?_
                refine g_iload 9 e_Ki_adds_196 rfl ?_
                obtain ⟨o20, h⟩ := h
                refine w_iaload ((l4).toNatClampNeg) e_Ki_adds_198 hw (lay_Ki2 hkk) (lt_Ki2 hkk) o20 rfl ?_
                refine g_icmp_ne 206 e_Ki_adds_199 (by decide) ⟨fun z21 => ?_, fun z21 => ?_⟩
                · have h := h.1 z21
                  refine g_iconst (v := 0) e_Ki_adds_206 (by decide) ?_
                  refine g_ior e_Ki_adds_207 ?_
                  refine g_istore_n (lv := [(3, .int ((l3 <<< (1 &&& 31)) ||| 0)), (9, .int 2), (8, .int 0), (7, .int (l3 &&& 1)), (6, .int (qi w (kk + 3) ((l4).toNatClampNeg))), (5, .int (qi w (kk + 1) ((l4).toNatClampNeg))), (0, .ref (qb E + kk)), (1, .ref (qb E + (p1 + 2))), (2, .int l2), (4, .int l4)]) e_Ki_adds_208 rfl (by decide) rfl ?_
                  refine g_iinc (v := (l4 + 1)) (lv := [(4, .int (l4 + 1)), (3, .int ((l3 <<< (1 &&& 31)) ||| 0)), (9, .int 2), (8, .int 0), (7, .int (l3 &&& 1)), (6, .int (qi w (kk + 3) ((l4).toNatClampNeg))), (5, .int (qi w (kk + 1) ((l4).toNatClampNeg))), (0, .ref (qb E + kk)), (1, .ref (qb E + (p1 + 2))), (2, .int l2)]) 9 e_Ki_adds_209 rfl rfl (by decide) rfl ?_
                  refine g_goto 7 e_Ki_adds_212 (by decide) ?_
                  refine g_loc [7, 8, 9, 1, 0] rfl ?_
                  exact h
                · have h := h.2 z21
                  refine g_iconst (v := 1) e_Ki_adds_202 (by decide) ?_
                  refine g_goto 207 e_Ki_adds_203 (by decide) ?_
                  refine g_ior e_Ki_adds_207 ?_
                  refine g_istore_n (lv := [(3, .int ((l3 <<< (1 &&& 31)) ||| 1)), (9, .int 2), (8, .int 0), (7, .int (l3 &&& 1)), (6, .int (qi w (kk + 3) ((l4).toNatClampNeg))), (5, .int (qi w (kk + 1) ((l4).toNatClampNeg))), (0, .ref (qb E + kk)), (1, .ref (qb E + (p1 + 2))), (2, .int l2), (4, .int l4)]) e_Ki_adds_208 rfl (by decide) rfl ?_
                  refine g_iinc (v := (l4 + 1)) (lv := [(4, .int (l4 + 1)), (3, .int ((l3 <<< (1 &&& 31)) ||| 1)), (9, .int 2), (8, .int 0), (7, .int (l3 &&& 1)), (6, .int (qi w (kk + 3) ((l4).toNatClampNeg))), (5, .int (qi w (kk + 1) ((l4).toNatClampNeg))), (0, .ref (qb E + kk)), (1, .ref (qb E + (p1 + 2))), (2, .int l2)]) 9 e_Ki_adds_209 rfl rfl (by decide) rfl ?_
                  refine g_goto 7 e_Ki_adds_212 (by decide) ?_
                  refine g_loc [7, 8, 9, 1, 0] rfl ?_
                  exact h
            · have h := h.2 z16
              refine g_iconst (v := 0) e_Ki_adds_169 (by decide) ?_
              refine g_goto 185 e_Ki_adds_170 (by decide) ?_
              refine g_istore (lv := [(9, .int 0), (8, .int 0), (7, .int (l3 &&& 1)), (6, .int (qi w (kk + 3) ((l4).toNatClampNeg))), (5, .int (qi w (kk + 1) ((l4).toNatClampNeg))), (0, .ref (qb E + kk)), (1, .ref (qb E + (p1 + 2))), (2, .int l2), (3, .int l3), (4, .int l4)]) e_Ki_adds_185 (by decide) rfl ?_
              refine g_iload_n 8 e_Ki_adds_187 rfl rfl ?_
              refine g_iconst (v := 1) e_Ki_adds_188 (by decide) ?_
              refine g_ishl e_Ki_adds_189 ?_
              refine g_iload 0 e_Ki_adds_190 rfl ?_
              refine g_aload_n 5 e_Ki_adds_192 rfl rfl ?_
              refine gf_Ki_15 rfl e_Ki_adds_193 hw (lay_Ki hkk) (lt_Ki hkk) (sh_Ki_relations hw hkk) ?_
              refine g_iload 9 e_Ki_adds_196 rfl ?_
              obtain ⟨o22, h⟩ := h
              refine w_iaload ((l4).toNatClampNeg) e_Ki_adds_198 hw (lay_Ki2 hkk) (lt_Ki2 hkk) o22 rfl ?_
              refine g_icmp_ne 206 e_Ki_adds_199 (by decide) ⟨fun z23 => ?_, fun z23 => ?_⟩
              · have h := h.1 z23
                refine g_iconst (v := 0) e_Ki_adds_206 (by decide) ?_
                refine g_ior e_Ki_adds_207 ?_
                refine g_istore_n (lv := [(3, .int ((l3 <<< (1 &&& 31)) ||| 0)), (9, .int 0), (8, .int 0), (7, .int (l3 &&& 1)), (6, .int (qi w (kk + 3) ((l4).toNatClampNeg))), (5, .int (qi w (kk + 1) ((l4).toNatClampNeg))), (0, .ref (qb E + kk)), (1, .ref (qb E + (p1 + 2))), (2, .int l2), (4, .int l4)]) e_Ki_adds_208 rfl (by decide) rfl ?_
                refine g_iinc (v := (l4 + 1)) (lv := [(4, .int (l4 + 1)), (3, .int ((l3 <<< (1 &&& 31)) ||| 0)), (9, .int 0), (8, .int 0), (7, .int (l3 &&& 1)), (6, .int (qi w (kk + 3) ((l4).toNatClampNeg))), (5, .int (qi w (kk + 1) ((l4).toNatClampNeg))), (0, .ref (qb E + kk)), (1, .ref (qb E + (p1 + 2))), (2, .int l2)]) 9 e_Ki_adds_209 rfl rfl (by decide) rfl ?_
                refine g_goto 7 e_Ki_adds_212 (by decide) ?_
                refine g_loc [7, 8, 9, 1, 0] rfl ?_
                exact h
              · have h := h.2 z23
                refine g_iconst (v := 1) e_Ki_adds_202 (by decide) ?_
                refine g_goto 207 e_Ki_adds_203 (by decide) ?_
                refine g_ior e_Ki_adds_207 ?_
                refine g_istore_n (lv := [(3, .int ((l3 <<< (1 &&& 31)) ||| 1)), (9, .int 0), (8, .int 0), (7, .int (l3 &&& 1)), (6, .int (qi w (kk + 3) ((l4).toNatClampNeg))), (5, .int (qi w (kk + 1) ((l4).toNatClampNeg))), (0, .ref (qb E + kk)), (1, .ref (qb E + (p1 + 2))), (2, .int l2), (4, .int l4)]) e_Ki_adds_208 rfl (by decide) rfl ?_
                refine g_iinc (v := (l4 + 1)) (lv := [(4, .int (l4 + 1)), (3, .int ((l3 <<< (1 &&& 31)) ||| 1)), (9, .int 0), (8, .int 0), (7, .int (l3 &&& 1)), (6, .int (qi w (kk + 3) ((l4).toNatClampNeg))), (5, .int (qi w (kk + 1) ((l4).toNatClampNeg))), (0, .ref (qb E + kk)), (1, .ref (qb E + (p1 + 2))), (2, .int l2)]) 9 e_Ki_adds_209 rfl rfl (by decide) rfl ?_
                refine g_goto 7 e_Ki_adds_212 (by decide) ?_
                refine g_loc [7, 8, 9, 1, 0] rfl ?_
                exact h
          · have h := h.2 z15
            refine g_aload_n 4 e_Ki_adds_152 rfl rfl ?_
            refine g_iload 2 e_Ki_adds_153 rfl ?_
            obtain ⟨o24, h⟩ := h
            refine w_iaload ((qi w (kk + 1) ((l4).toNatClampNeg)).toNatClampNeg) e_Ki_adds_155 hw (lay_Fac hp1) (lt_Fac hp1) o24 rfl ?_
            refine g_goto 160 e_Ki_adds_156 (by decide) ?_
            refine g_istore (lv := [(8, .int (qi w (p1 + 2) ((qi w (kk + 1) ((l4).toNatClampNeg)).toNatClampNeg))), (7, .int (l3 &&& 1)), (6, .int (qi w (kk + 3) ((l4).toNatClampNeg))), (5, .int (qi w (kk + 1) ((l4).toNatClampNeg))), (0, .ref (qb E + kk)), (1, .ref (qb E + (p1 + 2))), (2, .int l2), (3, .int l3), (4, .int l4)]) e_Ki_adds_160 (by decide) rfl ?_
            refine g_iload 0 e_Ki_adds_162 rfl ?_
            refine g_iload 2 e_Ki_adds_164 rfl ?_
            refine g_icmp_ge 173 e_Ki_adds_166 (by decide) ⟨fun z25 => ?_, fun z25 => ?_⟩
            · have h := h.1 z25
              refine g_iload 0 e_Ki_adds_173 rfl ?_
              refine g_iload 2 e_Ki_adds_175 rfl ?_
              refine g_icmp_le 184 e_Ki_adds_177 (by decide) ⟨fun z26 => ?_, fun z26 => ?_⟩
              · have h := h.1 z26
                refine g_iconst (v := 1) e_Ki_adds_184 (by decide) ?_
                refine g_istore (lv := [(9, .int 1), (8, .int (qi w (p1 + 2) ((qi w (kk + 1) ((l4).toNatClampNeg)).toNatClampNeg))), (7, .int (l3 &&& 1)), (6, .int (qi w (kk + 3) ((l4).toNatClampNeg))), (5, .int (qi w (kk + 1) ((l4).toNatClampNeg))), (0, .ref (qb E + kk)), (1, .ref (qb E + (p1 + 2))), (2, .int l2), (3, .int l3), (4, .int l4)]) e_Ki_adds_185 (by decide) rfl ?_
                refine g_iload_n 8 e_Ki_adds_187 rfl rfl ?_
                refine g_iconst (v := 1) e_Ki_adds_188 (by decide) ?_
                refine g_ishl e_Ki_adds_189 ?_
                refine g_iload 0 e_Ki_adds_190 rfl ?_
                refine g_aload_n 5 e_Ki_adds_192 rfl rfl ?_
                refine gf_Ki_15 rfl e_Ki_adds_193 hw (lay_Ki hkk) (lt_Ki hkk) (sh_Ki_relations hw hkk) ?_
                refine g_iload 9 e_Ki_adds_196 rfl ?_
                obtain ⟨o27, h⟩ := h
                refine w_iaload ((l4).toNatClampNeg) e_Ki_adds_198 hw (lay_Ki2 hkk) (lt_Ki2 hkk) o27 rfl ?_
                refine g_icmp_ne 206 e_Ki_adds_199 (by decide) ⟨fun z28 => ?_, fun z28 => ?_⟩
                · have h := h.1 z28
                  refine g_iconst (v := 0) e_Ki_adds_206 (by decide) ?_
                  refine g_ior e_Ki_adds_207 ?_
                  refine g_istore_n (lv := [(3, .int ((l3 <<< (1 &&& 31)) ||| 0)), (9, .int 1), (8, .int (qi w (p1 + 2) ((qi w (kk + 1) ((l4).toNatClampNeg)).toNatClampNeg))), (7, .int (l3 &&& 1)), (6, .int (qi w (kk + 3) ((l4).toNatClampNeg))), (5, .int (qi w (kk + 1) ((l4).toNatClampNeg))), (0, .ref (qb E + kk)), (1, .ref (qb E + (p1 + 2))), (2, .int l2), (4, .int l4)]) e_Ki_adds_208 rfl (by decide) rfl ?_
                  refine g_iinc (v := (l4 + 1)) (lv := [(4, .int (l4 + 1)), (3, .int ((l3 <<< (1 &&& 31)) ||| 0)), (9, .int 1), (8, .int (qi w (p1 + 2) ((qi w (kk + 1) ((l4).toNatClampNeg)).toNatClampNeg))), (7, .int (l3 &&& 1)), (6, .int (qi w (kk + 3) ((l4).toNatClampNeg))), (5, .int (qi w (kk + 1) ((l4).toNatClampNeg))), (0, .ref (qb E + kk)), (1, .ref (qb E + (p1 + 2))), (2, .int l2)]) 9 e_Ki_adds_209 rfl rfl (by decide) rfl ?_
                  refine g_goto 7 e_Ki_adds_212 (by decide) ?_
                  refine g_loc [7, 8, 9, 1, 0] rfl ?_
                  exact h
                · have h := h.2 z28
                  refine g_iconst (v := 1) e_Ki_adds_202 (by decide) ?_
                  refine g_goto 207 e_Ki_adds_203 (by decide) ?_
                  refine g_ior e_Ki_adds_207 ?_
                  refine g_istore_n (lv := [(3, .int ((l3 <<< (1 &&& 31)) ||| 1)), (9, .int 1), (8, .int (qi w (p1 + 2) ((qi w (kk + 1) ((l4).toNatClampNeg)).toNatClampNeg))), (7, .int (l3 &&& 1)), (6, .int (qi w (kk + 3) ((l4).toNatClampNeg))), (5, .int (qi w (kk + 1) ((l4).toNatClampNeg))), (0, .ref (qb E + kk)), (1, .ref (qb E + (p1 + 2))), (2, .int l2), (4, .int l4)]) e_Ki_adds_208 rfl (by decide) rfl ?_
                  refine g_iinc (v := (l4 + 1)) (lv := [(4, .int (l4 + 1)), (3, .int ((l3 <<< (1 &&& 31)) ||| 1)), (9, .int 1), (8, .int (qi w (p1 + 2) ((qi w (kk + 1) ((l4).toNatClampNeg)).toNatClampNeg))), (7, .int (l3 &&& 1)), (6, .int (qi w (kk + 3) ((l4).toNatClampNeg))), (5, .int (qi w (kk + 1) ((l4).toNatClampNeg))), (0, .ref (qb E + kk)), (1, .ref (qb E + (p1 + 2))), (2, .int l2)]) 9 e_Ki_adds_209 rfl rfl (by decide) rfl ?_
                  refine g_goto 7 e_Ki_adds_212 (by decide) ?_
                  refine g_loc [7, 8, 9, 1, 0] rfl ?_
                  exact h
              · have h := h.2 z26
                refine g_iconst (v := 2) e_Ki_adds_180 (by decide) ?_
                refine g_goto 185 e_Ki_adds_181 (by decide) ?_
                refine g_istore (lv := [(9, .int 2), (8, .int (qi w (p1 + 2) ((qi w (kk + 1) ((l4).toNatClampNeg)).toNatClampNeg))), (7, .int (l3 &&& 1)), (6, .int (qi w (kk + 3) ((l4).toNatClampNeg))), (5, .int (qi w (kk + 1) ((l4).toNatClampNeg))), (0, .ref (qb E + kk)), (1, .ref (qb E + (p1 + 2))), (2, .int l2), (3, .int l3), (4, .int l4)]) e_Ki_adds_185 (by decide) rfl ?_
                refine g_iload_n 8 e_Ki_adds_187 rfl rfl ?_
                refine g_iconst (v := 1) e_Ki_adds_188 (by decide) ?_
                refine g_ishl e_Ki_adds_189 ?_
                refine g_iload 0 e_Ki_adds_190 rfl ?_
                refine g_aload_n 5 e_Ki_adds_192 rfl rfl ?_
                refine gf_Ki_15 rfl e_Ki_adds_193 hw (lay_Ki hkk) (lt_Ki hkk) (sh_Ki_relations hw hkk) ?_
                refine g_iload 9 e_Ki_adds_196 rfl ?_
                obtain ⟨o29, h⟩ := h
                refine w_iaload ((l4).toNatClampNeg) e_Ki_adds_198 hw (lay_Ki2 hkk) (lt_Ki2 hkk) o29 rfl ?_
                refine g_icmp_ne 206 e_Ki_adds_199 (by decide) ⟨fun z30 => ?_, fun z30 => ?_⟩
                · have h := h.1 z30
                  refine g_iconst (v := 0) e_Ki_adds_206 (by decide) ?_
                  refine g_ior e_Ki_adds_207 ?_
                  refine g_istore_n (lv := [(3, .int ((l3 <<< (1 &&& 31)) ||| 0)), (9, .int 2), (8, .int (qi w (p1 + 2) ((qi w (kk + 1) ((l4).toNatClampNeg)).toNatClampNeg))), (7, .int (l3 &&& 1)), (6, .int (qi w (kk + 3) ((l4).toNatClampNeg))), (5, .int (qi w (kk + 1) ((l4).toNatClampNeg))), (0, .ref (qb E + kk)), (1, .ref (qb E + (p1 + 2))), (2, .int l2), (4, .int l4)]) e_Ki_adds_208 rfl (by decide) rfl ?_
                  refine g_iinc (v := (l4 + 1)) (lv := [(4, .int (l4 + 1)), (3, .int ((l3 <<< (1 &&& 31)) ||| 0)), (9, .int 2), (8, .int (qi w (p1 + 2) ((qi w (kk + 1) ((l4).toNatClampNeg)).toNatClampNeg))), (7, .int (l3 &&& 1)), (6, .int (qi w (kk + 3) ((l4).toNatClampNeg))), (5, .int (qi w (kk + 1) ((l4).toNatClampNeg))), (0, .ref (qb E + kk)), (1, .ref (qb E + (p1 + 2))), (2, .int l2)]) 9 e_Ki_adds_209 rfl rfl (by decide) rfl ?_
                  refine g_goto 7 e_Ki_adds_212 (by decide) ?_
                  refine g_loc [7, 8, 9, 1, 0] rfl ?_
                  exact h
                · have h := h.2 z30
                  refine g_iconst (v := 1) e_Ki_adds_202 (by decide) ?_
                  refine g_goto 207 e_Ki_adds_203 (by decide) ?_
                  refine g_ior e_Ki_adds_207 ?_
                  refine g_istore_n (lv := [(3, .int ((l3 <<< (1 &&& 31)) ||| 1)), (9, .int 2), (8, .int (qi w (p1 + 2) ((qi w (kk + 1) ((l4).toNatClampNeg)).toNatClampNeg))), (7, .int (l3 &&& 1)), (6, .int (qi w (kk + 3) ((l4).toNatClampNeg))), (5, .int (qi w (kk + 1) ((l4).toNatClampNeg))), (0, .ref (qb E + kk)), (1, .ref (qb E + (p1 + 2))), (2, .int l2), (4, .int l4)]) e_Ki_adds_208 rfl (by decide) rfl ?_
                  refine g_iinc (v := (l4 + 1)) (lv := [(4, .int (l4 + 1)), (3, .int ((l3 <<< (1 &&& 31)) ||| 1)), (9, .int 2), (8, .int (qi w (p1 + 2) ((qi w (kk + 1) ((l4).toNatClampNeg)).toNatClampNeg))), (7, .int (l3 &&& 1)), (6, .int (qi w (kk + 3) ((l4).toNatClampNeg))), (5, .int (qi w (kk + 1) ((l4).toNatClampNeg))), (0, .ref (qb E + kk)), (1, .ref (qb E + (p1 + 2))), (2, .int l2)]) 9 e_Ki_adds_209 rfl rfl (by decide) rfl ?_
                  refine g_goto 7 e_Ki_adds_212 (by decide) ?_
                  refine g_loc [7, 8, 9, 1, 0] rfl ?_
                  exact h
            · have h := h.2 z25
              refine g_iconst (v := 0) e_Ki_adds_169 (by decide) ?_
              refine g_goto 185 e_Ki_adds_170 (by decide) ?_
              refine g_istore (lv := [(9, .int 0), (8, .int (qi w (p1 + 2) ((qi w (kk + 1) ((l4).toNatClampNeg)).toNatClampNeg))), (7, .int (l3 &&& 1)), (6, .int (qi w (kk + 3) ((l4).toNatClampNeg))), (5, .int (qi w (kk + 1) ((l4).toNatClampNeg))), (0, .ref (qb E + kk)), (1, .ref (qb E + (p1 + 2))), (2, .int l2), (3, .int l3), (4, .int l4)]) e_Ki_adds_185 (by decide) rfl ?_
              refine g_iload_n 8 e_Ki_adds_187 rfl rfl ?_
              refine g_iconst (v := 1) e_Ki_adds_188 (by decide) ?_
              refine g_ishl e_Ki_adds_189 ?_
              refine g_iload 0 e_Ki_adds_190 rfl ?_
              refine g_aload_n 5 e_Ki_adds_192 rfl rfl ?_
              refine gf_Ki_15 rfl e_Ki_adds_193 hw (lay_Ki hkk) (lt_Ki hkk) (sh_Ki_relations hw hkk) ?_
              refine g_iload 9 e_Ki_adds_196 rfl ?_
              obtain ⟨o31, h⟩ := h
              refine w_iaload ((l4).toNatClampNeg) e_Ki_adds_198 hw (lay_Ki2 hkk) (lt_Ki2 hkk) o31 rfl ?_
              refine g_icmp_ne 206 e_Ki_adds_199 (by decide) ⟨fun z32 => ?_, fun z32 => ?_⟩
              · have h := h.1 z32
                refine g_iconst (v := 0) e_Ki_adds_206 (by decide) ?_
                refine g_ior e_Ki_adds_207 ?_
                refine g_istore_n (lv := [(3, .int ((l3 <<< (1 &&& 31)) ||| 0)), (9, .int 0), (8, .int (qi w (p1 + 2) ((qi w (kk + 1) ((l4).toNatClampNeg)).toNatClampNeg))), (7, .int (l3 &&& 1)), (6, .int (qi w (kk + 3) ((l4).toNatClampNeg))), (5, .int (qi w (kk + 1) ((l4).toNatClampNeg))), (0, .ref (qb E + kk)), (1, .ref (qb E + (p1 + 2))), (2, .int l2), (4, .int l4)]) e_Ki_adds_208 rfl (by decide) rfl ?_
                refine g_iinc (v := (l4 + 1)) (lv := [(4, .int (l4 + 1)), (3, .int ((l3 <<< (1 &&& 31)) ||| 0)), (9, .int 0), (8, .int (qi w (p1 + 2) ((qi w (kk + 1) ((l4).toNatClampNeg)).toNatClampNeg))), (7, .int (l3 &&& 1)), (6, .int (qi w (kk + 3) ((l4).toNatClampNeg))), (5, .int (qi w (kk + 1) ((l4).toNatClampNeg))), (0, .ref (qb E + kk)), (1, .ref (qb E + (p1 + 2))), (2, .int l2)]) 9 e_Ki_adds_209 rfl rfl (by decide) rfl ?_
                refine g_goto 7 e_Ki_adds_212 (by decide) ?_
                refine g_loc [7, 8, 9, 1, 0] rfl ?_
                exact h
              · have h := h.2 z32
                refine g_iconst (v := 1) e_Ki_adds_202 (by decide) ?_
                refine g_goto 207 e_Ki_adds_203 (by decide) ?_
                refine g_ior e_Ki_adds_207 ?_
                refine g_istore_n (lv := [(3, .int ((l3 <<< (1 &&& 31)) ||| 1)), (9, .int 0), (8, .int (qi w (p1 + 2) ((qi w (kk + 1) ((l4).toNatClampNeg)).toNatClampNeg))), (7, .int (l3 &&& 1)), (6, .int (qi w (kk + 3) ((l4).toNatClampNeg))), (5, .int (qi w (kk + 1) ((l4).toNatClampNeg))), (0, .ref (qb E + kk)), (1, .ref (qb E + (p1 + 2))), (2, .int l2), (4, .int l4)]) e_Ki_adds_208 rfl (by decide) rfl ?_
                refine g_iinc (v := (l4 + 1)) (lv := [(4, .int (l4 + 1)), (3, .int ((l3 <<< (1 &&& 31)) ||| 1)), (9, .int 0), (8, .int (qi w (p1 + 2) ((qi w (kk + 1) ((l4).toNatClampNeg)).toNatClampNeg))), (7, .int (l3 &&& 1)), (6, .int (qi w (kk + 3) ((l4).toNatClampNeg))), (5, .int (qi w (kk + 1) ((l4).toNatClampNeg))), (0, .ref (qb E + kk)), (1, .ref (qb E + (p1 + 2))), (2, .int l2)]) 9 e_Ki_adds_209 rfl rfl (by decide) rfl ?_
                refine g_goto 7 e_Ki_adds_212 (by decide) ?_
                refine g_loc [7, 8, 9, 1, 0] rfl ?_
                exact h
theorem en_Ki_adds {d : Nat} {E : qE} {Q : qW → Int32 → Prop} {kk : Nat} {p1 : Nat} {w : qW} (hw : Sh w) (h : c_Ki_adds_0 d E Q kk p1 w) : CaI d M_Ki_adds [.ref (qb E + kk), .ref (qb E + (p1 + 2))] E w Q := Ca.into hw rfl (Nat.le_of_ble_eq_true rfl) h
def c_Re_addSign_0 (d : Nat) (E : qE) (Q : qW → Int32 → Prop) (a1 : Int32) (w : qW) : Prop := Go d M_Re_addSign E 161 161 (qFI Q) 0 [(0, .ref (qb E + 73)), (1, .int a1)] [] w
set_option maxHeartbeats 4000000 in
set_option maxRecDepth 8000 in
theorem s_Re_addSign_0 {d : Nat} {E : qE} {Q : qW → Int32 → Prop} {a1 : Int32} {w : qW} (hw : Sh w) (h : (((qi w 73 1) < 0) → (Q w (-4))) ∧ ((¬ (qi w 73 1) < 0) → ((((qi w 73 1) < 100) → (vp_in (qi w 73 1) 100 ∧ (Q (qpi (qpi w 74 ((qi w 73 1).toNatClampNeg) a1) 73 1 ((qi (qpi w 74 ((qi w 73 1).toNatClampNeg) a1) 73 1) + 1)) (qi (qpi (qpi w 74 ((qi w 73 1).toNatClampNeg) a1) 73 1 ((qi (qpi w 74 ((qi w 73 1).toNatClampNeg) a1) 73 1) + 1)) 73 1)))) ∧ ((¬ (qi w 73 1) < 100) → (Q w (-4)))))) : c_Re_addSign_0 d E Q a1 w := by
  unfold c_Re_addSign_0
  refine g_aload_n 0 e_Re_addSign_0 rfl rfl ?_
  refine gf_Re_19 rfl e_Re_addSign_1 hw lay_73 (by decide) ?_
  refine g_if_lt 16 e_Re_addSign_4 (by decide) ⟨fun z1 => ?_, fun z1 => ?_⟩
  · have h := h.1 z1
    refine g_bipush (v := (-4)) e_Re_addSign_16 (by decide) ?_
    exact g_iret e_Re_addSign_18 rfl ⟨Sh.n hw, _, rfl, hw, h⟩
  · have h := h.2 z1
    refine g_aload_n 0 e_Re_addSign_7 rfl rfl ?_
    refine gf_Re_19 rfl e_Re_addSign_8 hw lay_73 (by decide) ?_
    refine g_bipush (v := 100) e_Re_addSign_11 (by decide) ?_
    refine g_icmp_lt 19 e_Re_addSign_13 (by decide) ⟨fun z2 => ?_, fun z2 => ?_⟩
    · have h := h.1 z2
      refine g_aload_n 0 e_Re_addSign_19 rfl rfl ?_
      refine gf_Re_9 rfl e_Re_addSign_20 hw lay_73 (by decide) (sh_Re_signs hw) ?_
      refine g_aload_n 0 e_Re_addSign_23 rfl rfl ?_
      refine gf_Re_19 rfl e_Re_addSign_24 hw lay_73 (by decide) ?_
      refine g_iload_n 1 e_Re_addSign_27 rfl rfl ?_
      obtain ⟨o3, h⟩ := h
      refine w_iastore ((qi w 73 1).toNatClampNeg) e_Re_addSign_28 hw lay_74 (by decide) o3 rfl ?_
      refine g_aload_n 0 e_Re_addSign_29 rfl rfl ?_
      refine g_dup e_Re_addSign_30 rfl ?_
      refine gf_Re_19 rfl e_Re_addSign_31 hw lay_73 (by decide) ?_
      refine g_iconst (v := 1) e_Re_addSign_34 (by decide) ?_
      refine g_iadd e_Re_addSign_35 ?_
      refine pf_Re_19 rfl e_Re_addSign_36 hw lay_73 (by decide) ?_
      refine g_aload_n 0 e_Re_addSign_39 rfl rfl ?_
      refine gf_Re_19 rfl e_Re_addSign_40 hw lay_73 (by decide) ?_
      exact g_iret e_Re_addSign_43 rfl ⟨Sh.n hw, _, rfl, hw, h⟩
    · have h := h.2 z2
      refine g_bipush (v := (-4)) e_Re_addSign_16 (by decide) ?_
      exact g_iret e_Re_addSign_18 rfl ⟨Sh.n hw, _, rfl, hw, h⟩
theorem en_Re_addSign {d : Nat} {E : qE} {Q : qW → Int32 → Prop} {a1 : Int32} {w : qW} (hw : Sh w) (h : c_Re_addSign_0 d E Q a1 w) : CaI d M_Re_addSign [.ref (qb E + 73), .int a1] E w Q := Ca.into hw rfl (Nat.le_of_ble_eq_true rfl) h
def c_Re_empty_0 (d : Nat) (E : qE) (Q : qW → Prop) (w : qW) : Prop := Go d M_Re_empty E 161 161 (qFV Q) 0 [(0, .ref (qb E + 73))] [] w
set_option maxHeartbeats 4000000 in
set_option maxRecDepth 8000 in
theorem s_Re_empty_0 {d : Nat} {E : qE} {Q : qW → Prop} {w : qW} (hw : Sh w) (h : Q (qpi w 73 1 0)) : c_Re_empty_0 d E Q  w := by
  unfold c_Re_empty_0
  refine g_aload_n 0 e_Re_empty_0 rfl rfl ?_
  refine g_iconst (v := 0) e_Re_empty_1 (by decide) ?_
  refine pf_Re_19 rfl e_Re_empty_2 hw lay_73 (by decide) ?_
  exact g_vret e_Re_empty_5 rfl ⟨Sh.n hw, rfl, hw, h⟩
theorem en_Re_empty {d : Nat} {E : qE} {Q : qW → Prop} {w : qW} (hw : Sh w) (h : c_Re_empty_0 d E Q  w) : CaV d M_Re_empty [.ref (qb E + 73)] E w Q := Ca.into hw rfl (Nat.le_of_ble_eq_true rfl) h
def c_Re_readInto_0 (d : Nat) (E : qE) (Q : qW → Int32 → Prop) (p1 : Nat) (w : qW) : Prop := Go (d + 42) M_Re_readInto E 161 161 (qFI Q) 0 [(0, .ref (qb E + 73)), (1, .ref (qb E + p1))] [] w
def c_Re_readInto_19 (d : Nat) (E : qE) (Q : qW → Int32 → Prop) (l2 : Int32) (w : qW) : Prop := Go (d + 42) M_Re_readInto E 161 161 (qFI Q) 19 [(0, .ref (qb E + 73)), (2, .int l2)] [] w
set_option maxHeartbeats 4000000 in
set_option maxRecDepth 8000 in
theorem s_Re_readInto_0 {d : Nat} {E : qE} {Q : qW → Int32 → Prop} {p1 : Nat} {w : qW} (hw : Sh w) (hp1 : isKi p1) (h : ∃ K1, isKi K1 ∧ qr (qpr w 73 3 (p1 + 1)) 73 3 = K1 + 1 ∧ (CaV (d + 41) M_Ki_clean [.ref (qb E + K1)] E (qpr w 73 3 (p1 + 1)) (fun w2 => c_Re_readInto_19 d E Q 1 (qpi w2 73 2 0)))) : c_Re_readInto_0 d E Q p1 w := by
  unfold c_Re_readInto_0
  refine g_aload_n 0 e_Re_readInto_0 rfl rfl ?_
  refine g_aload_n 1 e_Re_readInto_1 rfl rfl ?_
  refine pf_Re_15 rfl e_Re_readInto_2 hw lay_73 (by decide) ?_
  refine g_aload_n 0 e_Re_readInto_5 rfl rfl ?_
  obtain ⟨K1, hK1, hr1, h⟩ := h
  refine gf_Re_15 rfl e_Re_readInto_6 (Sh.pr rfl hw) lay_73 (by decide) hr1 ?_
  refine w_callVV (w := (qpr w 73 3 (p1 + 1))) (As := []) (rest := []) e_Re_readInto_9 ok_Ki_clean rfl km_Re_23 kx_Ki_clean kv_Ki_clean rfl (by decide) (Sh.pr rfl hw) (lay_Ki hK1) (lt_Ki hK1) rfl (Nat.le_of_ble_eq_true rfl) h (fun w2 hw2 h => ?_)
  refine g_aload_n 0 e_Re_readInto_12 rfl rfl ?_
  refine g_iconst (v := 0) e_Re_readInto_13 (by decide) ?_
  refine pf_Re_28 rfl e_Re_readInto_14 hw2 lay_73 (by decide) ?_
  refine g_iconst (v := 1) e_Re_readInto_17 (by decide) ?_
  refine g_istore_n (lv := [(2, .int 1), (0, .ref (qb E + 73)), (1, .ref (qb E + p1))]) e_Re_readInto_18 rfl (by decide) rfl ?_
  refine g_loc [1, 0] rfl ?_
  exact h
set_option maxHeartbeats 4000000 in
set_option maxRecDepth 8000 in
theorem s_Re_readInto_19 {d : Nat} {E : qE} {Q : qW → Int32 → Prop} {l2 : Int32} {w : qW} (hw : Sh w) (h : ((10 < l2) → (Q w (qi w 73 2))) ∧ ((¬ 10 < l2) → (CaI (d + 41) M_Re_clause [.ref (qb E + 73)] E w (fun w2 x2 => ((¬ x2 = 0) → (((¬ (qi w2 73 2) = (qi w2 73 1)) → (((l2 = 10) → (Q w2 (qi w2 73 2))) ∧ ((¬ l2 = 10) → (CaI (d + 41) M_Re_take [.ref (qb E + 73), .int 59] E w2 (fun w6 x6 => ((¬ x6 = 0) → (c_Re_readInto_19 d E Q (l2 + 1) w6)) ∧ ((x6 = 0) → (Q w6 (qi w6 73 2)))))))) ∧ (((qi w2 73 2) = (qi w2 73 1)) → (Q w2 (-1))))) ∧ ((x2 = 0) → (Q w2 (qi w2 73 2))))))) : c_Re_readInto_19 d E Q l2 w := by
  unfold c_Re_readInto_19
  refine g_iload_n 1 e_Re_readInto_19 rfl rfl ?_
  refine g_bipush (v := 10) e_Re_readInto_20 (by decide) ?_
  refine g_icmp_gt 76 e_Re_readInto_22 (by decide) ⟨fun z1 => ?_, fun z1 => ?_⟩
  · have h := h.1 z1
    refine g_aload_n 0 e_Re_readInto_76 rfl rfl ?_
    refine gf_Re_28 rfl e_Re_readInto_77 hw lay_73 (by decide) ?_
    exact g_iret e_Re_readInto_80 rfl ⟨Sh.n hw, _, rfl, hw, h⟩
  · have h := h.2 z1
    refine g_aload_n 0 e_Re_readInto_25 rfl rfl ?_
    refine w_callVI (w := w) (As := []) (rest := []) e_Re_readInto_26 ok_Re_clause rfl km_Re_31 kx_Re_clause kv_Re_clause rfl (by decide) hw lay_73 (by decide) rfl (Nat.le_of_ble_eq_true rfl) h (fun w2 x2 hw2 h => ?_)
    refine g_if_ne 37 e_Re_readInto_29 (by decide) ⟨fun z3 => ?_, fun z3 => ?_⟩
    · have h := h.1 z3
      refine g_aload_n 0 e_Re_readInto_37 rfl rfl ?_
      refine gf_Re_28 rfl e_Re_readInto_38 hw2 lay_73 (by decide) ?_
      refine g_aload_n 0 e_Re_readInto_41 rfl rfl ?_
      refine gf_Re_19 rfl e_Re_readInto_42 hw2 lay_73 (by decide) ?_
      refine g_icmp_ne 50 e_Re_readInto_45 (by decide) ⟨fun z4 => ?_, fun z4 => ?_⟩
      · have h := h.1 z4
        refine g_iload_n 1 e_Re_readInto_50 rfl rfl ?_
        refine g_bipush (v := 10) e_Re_readInto_51 (by decide) ?_
        refine g_icmp_eq 65 e_Re_readInto_53 (by decide) ⟨fun z5 => ?_, fun z5 => ?_⟩
        · have h := h.1 z5
          refine g_aload_n 0 e_Re_readInto_65 rfl rfl ?_
          refine gf_Re_28 rfl e_Re_readInto_66 hw2 lay_73 (by decide) ?_
          exact g_iret e_Re_readInto_69 rfl ⟨Sh.n hw2, _, rfl, hw2, h⟩
        · have h := h.2 z5
          refine g_aload_n 0 e_Re_readInto_56 rfl rfl ?_
          refine g_bipush (v := 59) e_Re_readInto_57 (by decide) ?_
          refine w_callVI (w := w2) (As := [.int 59]) (rest := []) e_Re_readInto_59 ok_Re_take rfl km_Re_35 kx_Re_take kv_Re_take rfl (by decide) hw2 lay_73 (by decide) rfl (Nat.le_of_ble_eq_true rfl) h (fun w6 x6 hw6 h => ?_)
          refine g_if_ne 70 e_Re_readInto_62 (by decide) ⟨fun z7 => ?_, fun z7 => ?_⟩
          · have h := h.1 z7
            refine g_iinc (v := (l2 + 1)) (lv := [(2, .int (l2 + 1)), (0, .ref (qb E + 73))]) 1 e_Re_readInto_70 rfl rfl (by decide) rfl ?_
            refine g_goto 19 e_Re_readInto_73 (by decide) ?_
            refine g_loc [1, 0] rfl ?_
            exact h
          · have h := h.2 z7
            refine g_aload_n 0 e_Re_readInto_65 rfl rfl ?_
            refine gf_Re_28 rfl e_Re_readInto_66 hw6 lay_73 (by decide) ?_
            exact g_iret e_Re_readInto_69 rfl ⟨Sh.n hw6, _, rfl, hw6, h⟩
      · have h := h.2 z4
        refine g_iconst (v := (-1)) e_Re_readInto_48 (by decide) ?_
        exact g_iret e_Re_readInto_49 rfl ⟨Sh.n hw2, _, rfl, hw2, h⟩
    · have h := h.2 z3
      refine g_aload_n 0 e_Re_readInto_32 rfl rfl ?_
      refine gf_Re_28 rfl e_Re_readInto_33 hw2 lay_73 (by decide) ?_
      exact g_iret e_Re_readInto_36 rfl ⟨Sh.n hw2, _, rfl, hw2, h⟩
theorem en_Re_readInto {d : Nat} {E : qE} {Q : qW → Int32 → Prop} {p1 : Nat} {w : qW} (hw : Sh w) (h : c_Re_readInto_0 d E Q p1 w) : CaI (d + 42) M_Re_readInto [.ref (qb E + 73), .ref (qb E + p1)] E w Q := Ca.into hw rfl (Nat.le_of_ble_eq_true rfl) h
def c_Re_clause_0 (d : Nat) (E : qE) (Q : qW → Int32 → Prop) (w : qW) : Prop := Go (d + 41) M_Re_clause E 161 161 (qFI Q) 0 [(0, .ref (qb E + 73))] [] w
set_option maxHeartbeats 4000000 in
set_option maxRecDepth 8000 in
theorem s_Re_clause_0 {d : Nat} {E : qE} {Q : qW → Int32 → Prop} {w : qW} (hw : Sh w) (h : CaI (d + 40) M_Re_sign [.ref (qb E + 73)] E w (fun w1 x1 => ((¬ x1 = 110) → (CaI (d + 40) M_Re_sign [.ref (qb E + 73)] E w1 (fun w3 x3 => ((¬ x3 = 100) → ((((0 : Int32) = 0) → (CaI (d + 40) M_Re_takeWord [.ref (qb E + 73), .ref (qc E 12)] E w3 (fun w6 x6 => ((¬ x6 = 0) → (CaI (d + 40) M_Re_takeNumber [.ref (qb E + 73)] E w6 (fun w8 x8 => ((x8 < 0) → (Q w8 0)) ∧ ((¬ x8 < 0) → (CaI (d + 40) M_Re_take [.ref (qb E + 73), .int 32] E w8 (fun w10 x10 => ((x10 = 0) → (Q w10 0)) ∧ ((¬ x10 = 0) → (CaI (d + 40) M_Re_expression [.ref (qb E + 73), .int 0] E w10 (fun w12 x12 => ((¬ x12 = 0) → (∃ K14, isKi K14 ∧ qr w12 73 3 = K14 + 1 ∧ ((((0 : Int32) = 0) → (CaV (d + 40) M_Ki_addStep [.ref (qb E + K14), .int 10, .int 0, .int x8] E w12 (fun w16 => Q w16 1))) ∧ ((¬ (0 : Int32) = 0) → (CaV (d + 40) M_Ki_addStep [.ref (qb E + K14), .int 9, .int 0, .int x8] E w12 (fun w17 => Q w17 1)))))) ∧ ((x12 = 0) → (Q w12 0))))))))))) ∧ ((x6 = 0) → (Q w6 0))))) ∧ ((¬ (0 : Int32) = 0) → (CaI (d + 40) M_Re_takeWord [.ref (qb E + 73), .ref (qc E 11)] E w3 (fun w18 x18 => ((¬ x18 = 0) → (CaI (d + 40) M_Re_takeNumber [.ref (qb E + 73)] E w18 (fun w20 x20 => ((x20 < 0) → (Q w20 0)) ∧ ((¬ x20 < 0) → (CaI (d + 40) M_Re_take [.ref (qb E + 73), .int 32] E w20 (fun w22 x22 => ((x22 = 0) → (Q w22 0)) ∧ ((¬ x22 = 0) → (CaI (d + 40) M_Re_expression [.ref (qb E + 73), .int 0] E w22 (fun w24 x24 => ((¬ x24 = 0) → (∃ K26, isKi K26 ∧ qr w24 73 3 = K26 + 1 ∧ ((((0 : Int32) = 0) → (CaV (d + 40) M_Ki_addStep [.ref (qb E + K26), .int 10, .int 0, .int x20] E w24 (fun w28 => Q w28 1))) ∧ ((¬ (0 : Int32) = 0) → (CaV (d + 40) M_Ki_addStep [.ref (qb E + K26), .int 9, .int 0, .int x20] E w24 (fun w29 => Q w29 1)))))) ∧ ((x24 = 0) → (Q w24 0))))))))))) ∧ ((x18 = 0) → (Q w18 0))))))) ∧ ((x3 = 100) → ((((1 : Int32) = 0) → (CaI (d + 40) M_Re_takeWord [.ref (qb E + 73), .ref (qc E 12)] E w3 (fun w31 x31 => ((¬ x31 = 0) → (CaI (d + 40) M_Re_takeNumber [.ref (qb E + 73)] E w31 (fun w33 x33 => ((x33 < 0) → (Q w33 0)) ∧ ((¬ x33 < 0) → (CaI (d + 40) M_Re_take [.ref (qb E + 73), .int 32] E w33 (fun w35 x35 => ((x35 = 0) → (Q w35 0)) ∧ ((¬ x35 = 0) → (CaI (d + 40) M_Re_expression [.ref (qb E + 73), .int 0] E w35 (fun w37 x37 => ((¬ x37 = 0) → (∃ K39, isKi K39 ∧ qr w37 73 3 = K39 + 1 ∧ ((((1 : Int32) = 0) → (CaV (d + 40) M_Ki_addStep [.ref (qb E + K39), .int 10, .int 0, .int x33] E w37 (fun w41 => Q w41 1))) ∧ ((¬ (1 : Int32) = 0) → (CaV (d + 40) M_Ki_addStep [.ref (qb E + K39), .int 9, .int 0, .int x33] E w37 (fun w42 => Q w42 1)))))) ∧ ((x37 = 0) → (Q w37 0))))))))))) ∧ ((x31 = 0) → (Q w31 0))))) ∧ ((¬ (1 : Int32) = 0) → (CaI (d + 40) M_Re_takeWord [.ref (qb E + 73), .ref (qc E 11)] E w3 (fun w43 x43 => ((¬ x43 = 0) → (CaI (d + 40) M_Re_takeNumber [.ref (qb E + 73)] E w43 (fun w45 x45 => ((x45 < 0) → (Q w45 0)) ∧ ((¬ x45 < 0) → (CaI (d + 40) M_Re_take [.ref (qb E + 73), .int 32] E w45 (fun w47 x47 => ((x47 = 0) → (Q w47 0)) ∧ ((¬ x47 = 0) → (CaI (d + 40) M_Re_expression [.ref (qb E + 73), .int 0] E w47 (fun w49 x49 => ((¬ x49 = 0) → (∃ K51, isKi K51 ∧ qr w49 73 3 = K51 + 1 ∧ ((((1 : Int32) = 0) → (CaV (d + 40) M_Ki_addStep [.ref (qb E + K51), .int 10, .int 0, .int x45] E w49 (fun w53 => Q w53 1))) ∧ ((¬ (1 : Int32) = 0) → (CaV (d + 40) M_Ki_addStep [.ref (qb E + K51), .int 9, .int 0, .int x45] E w49 (fun w54 => Q w54 1)))))) ∧ ((x49 = 0) → (Q w49 0))))))))))) ∧ ((x43 = 0) → (Q w43 0)))))))))) ∧ ((x1 = 110) → (CaI (d + 40) M_Re_needClause [.ref (qb E + 73)] E w1 (fun w55 x55 => (x55 = 0 ∨ x55 = 1) ∧ (Q w55 x55)))))) : c_Re_clause_0 d E Q  w := by
  unfold c_Re_clause_0
  refine g_aload_n 0 e_Re_clause_0 rfl rfl ?_
  refine w_callVI (w := w) (As := []) (rest := []) e_Re_clause_1 ok_Re_sign rfl km_Re_39 kx_Re_sign kv_Re_sign rfl (by decide) hw lay_73 (by decide) rfl (Nat.le_of_ble_eq_true rfl) h (fun w1 x1 hw1 h => ?_)
  refine g_bipush (v := 110) e_Re_clause_4 (by decide) ?_
  refine g_icmp_ne 14 e_Re_clause_6 (by decide) ⟨fun z2 => ?_, fun z2 => ?_⟩
  · have h := h.1 z2
    refine g_aload_n 0 e_Re_clause_14 rfl rfl ?_
    refine w_callVI (w := w1) (As := []) (rest := []) e_Re_clause_15 ok_Re_sign rfl km_Re_39 kx_Re_sign kv_Re_sign rfl (by decide) hw1 lay_73 (by decide) rfl (Nat.le_of_ble_eq_true rfl) h (fun w3 x3 hw3 h => ?_)
    refine g_bipush (v := 100) e_Re_clause_18 (by decide) ?_
    refine g_icmp_ne 27 e_Re_clause_20 (by decide) ⟨fun z4 => ?_, fun z4 => ?_⟩
    · have h := h.1 z4
      refine g_iconst (v := 0) e_Re_clause_27 (by decide) ?_
      refine g_istore_n (lv := [(1, .int 0), (0, .ref (qb E + 73))]) e_Re_clause_28 rfl (by decide) rfl ?_
      refine g_aload_n 1 e_Re_clause_29 rfl rfl ?_
      refine g_iload_n 0 e_Re_clause_30 rfl rfl ?_
      refine g_if_eq 39 e_Re_clause_31 (by decide) ⟨fun z5 => ?_, fun z5 => ?_⟩
      · have h := h.1 z5
        refine g_ldc48 rfl e_Re_clause_39 ?_
        refine w_callVI (w := w3) (As := [.ref (qc E 12)]) (rest := []) e_Re_clause_41 ok_Re_takeWord rfl km_Re_50 kx_Re_takeWord kv_Re_takeWord rfl (by decide) hw3 lay_73 (by decide) rfl (Nat.le_of_ble_eq_true rfl) h (fun w6 x6 hw6 h => ?_)
        refine g_if_ne 49 e_Re_clause_44 (by decide) ⟨fun z7 => ?_, fun z7 => ?_⟩
        · have h := h.1 z7
          refine g_aload_n 1 e_Re_clause_49 rfl rfl ?_
          refine w_callVI (w := w6) (As := []) (rest := []) e_Re_clause_50 ok_Re_takeNumber rfl km_Re_54 kx_Re_takeNumber kv_Re_takeNumber rfl (by decide) hw6 lay_73 (by decide) rfl (Nat.le_of_ble_eq_true rfl) h (fun w8 x8 hw8 h => ?_)
          refine g_istore_n (lv := [(2, .int x8), (1, .int 0), (0, .ref (qb E + 73))]) e_Re_clause_53 rfl (by decide) rfl ?_
          refine g_iload_n 0 e_Re_clause_54 rfl rfl ?_
          refine g_if_lt 75 e_Re_clause_55 (by decide) ⟨fun z9 => ?_, fun z9 => ?_⟩
          · have h := h.1 z9
            refine g_iconst (v := 0) e_Re_clause_75 (by decide) ?_
            exact g_zret e_Re_clause_76 rfl (Or.inl rfl) ⟨Sh.n hw8, _, rfl, hw8, h⟩
          · have h := h.2 z9
            refine g_aload_n 2 e_Re_clause_58 rfl rfl ?_
            refine g_bipush (v := 32) e_Re_clause_59 (by decide) ?_
            refine w_callVI (w := w8) (As := [.int 32]) (rest := []) e_Re_clause_61 ok_Re_take rfl km_Re_35 kx_Re_take kv_Re_take rfl (by decide) hw8 lay_73 (by decide) rfl (Nat.le_of_ble_eq_true rfl) h (fun w10 x10 hw10 h => ?_)
            refine g_if_eq 75 e_Re_clause_64 (by decide) ⟨fun z11 => ?_, fun z11 => ?_⟩
            · have h := h.1 z11
              refine g_iconst (v := 0) e_Re_clause_75 (by decide) ?_
              exact g_zret e_Re_clause_76 rfl (Or.inl rfl) ⟨Sh.n hw10, _, rfl, hw10, h⟩
            · have h := h.2 z11
              refine g_aload_n 2 e_Re_clause_67 rfl rfl ?_
              refine g_iconst (v := 0) e_Re_clause_68 (by decide) ?_
              refine w_callVI (w := w10) (As := [.int 0]) (rest := []) e_Re_clause_69 ok_Re_expression rfl km_Re_57 kx_Re_expression kv_Re_expression rfl (by decide) hw10 lay_73 (by decide) rfl (Nat.le_of_ble_eq_true rfl) h (fun w12 x12 hw12 h => ?_)
              refine g_if_ne 77 e_Re_clause_72 (by decide) ⟨fun z13 => ?_, fun z13 => ?_⟩
              · have h := h.1 z13
                refine g_aload_n 2 e_Re_clause_77 rfl rfl ?_
                obtain ⟨K14, hK14, hr14, h⟩ := h
                refine gf_Re_15 rfl e_Re_clause_78 hw12 lay_73 (by decide) hr14 ?_
                refine g_iload_n 1 e_Re_clause_81 rfl rfl ?_
                refine g_if_eq 90 e_Re_clause_82 (by decide) ⟨fun z15 => ?_, fun z15 => ?_⟩
                · have h := h.1 z15
                  refine g_bipush (v := 10) e_Re_clause_90 (by decide) ?_
                  refine g_iconst (v := 0) e_Re_clause_92 (by decide) ?_
                  refine g_iload_n 0 e_Re_clause_93 rfl rfl ?_
                  refine w_callVV (w := w12) (As := [.int 10, .int 0, .int x8]) (rest := []) e_Re_clause_94 ok_Ki_addStep rfl km_Re_60 kx_Ki_addStep kv_Ki_addStep rfl (by decide) hw12 (lay_Ki hK14) (lt_Ki hK14) rfl (Nat.le_of_ble_eq_true rfl) h (fun w16 hw16 h => ?_)
                  refine g_iconst (v := 1) e_Re_clause_97 (by decide) ?_
                  exact g_zret e_Re_clause_98 rfl (Or.inr rfl) ⟨Sh.n hw16, _, rfl, hw16, h⟩
                · have h := h.2 z15
                  refine g_bipush (v := 9) e_Re_clause_85 (by decide) ?_
                  refine g_goto 92 e_Re_clause_87 (by decide) ?_
                  refine g_iconst (v := 0) e_Re_clause_92 (by decide) ?_
                  refine g_iload_n 0 e_Re_clause_93 rfl rfl ?_
                  refine w_callVV (w := w12) (As := [.int 9, .int 0, .int x8]) (rest := []) e_Re_clause_94 ok_Ki_addStep rfl km_Re_60 kx_Ki_addStep kv_Ki_addStep rfl (by decide) hw12 (lay_Ki hK14) (lt_Ki hK14) rfl (Nat.le_of_ble_eq_true rfl) h (fun w17 hw17 h => ?_)
                  refine g_iconst (v := 1) e_Re_clause_97 (by decide) ?_
                  exact g_zret e_Re_clause_98 rfl (Or.inr rfl) ⟨Sh.n hw17, _, rfl, hw17, h⟩
              · have h := h.2 z13
                refine g_iconst (v := 0) e_Re_clause_75 (by decide) ?_
                exact g_zret e_Re_clause_76 rfl (Or.inl rfl) ⟨Sh.n hw12, _, rfl, hw12, h⟩
        · have h := h.2 z7
          refine g_iconst (v := 0) e_Re_clause_47 (by decide) ?_
          exact g_zret e_Re_clause_48 rfl (Or.inl rfl) ⟨Sh.n hw6, _, rfl, hw6, h⟩
      · have h := h.2 z5
        refine g_ldc46 rfl e_Re_clause_34 ?_
        refine g_goto 41 e_Re_clause_36 (by decide) ?_
        refine w_callVI (w := w3) (As := [.ref (qc E 11)]) (rest := []) e_Re_clause_41 ok_Re_takeWord rfl km_Re_50 kx_Re_takeWord kv_Re_takeWord rfl (by decide) hw3 lay_73 (by decide) rfl (Nat.le_of_ble_eq_true rfl) h (fun w18 x18 hw18 h => ?_)
        refine g_if_ne 49 e_Re_clause_44 (by decide) ⟨fun z19 => ?_, fun z19 => ?_⟩
        · have h := h.1 z19
          refine g_aload_n 1 e_Re_clause_49 rfl rfl ?_
          refine w_callVI (w := w18) (As := []) (rest := []) e_Re_clause_50 ok_Re_takeNumber rfl km_Re_54 kx_Re_takeNumber kv_Re_takeNumber rfl (by decide) hw18 lay_73 (by decide) rfl (Nat.le_of_ble_eq_true rfl) h (fun w20 x20 hw20 h => ?_)
          refine g_istore_n (lv := [(2, .int x20), (1, .int 0), (0, .ref (qb E + 73))]) e_Re_clause_53 rfl (by decide) rfl ?_
          refine g_iload_n 0 e_Re_clause_54 rfl rfl ?_
          refine g_if_lt 75 e_Re_clause_55 (by decide) ⟨fun z21 => ?_, fun z21 => ?_⟩
          · have h := h.1 z21
            refine g_iconst (v := 0) e_Re_clause_75 (by decide) ?_
            exact g_zret e_Re_clause_76 rfl (Or.inl rfl) ⟨Sh.n hw20, _, rfl, hw20, h⟩
          · have h := h.2 z21
            refine g_aload_n 2 e_Re_clause_58 rfl rfl ?_
            refine g_bipush (v := 32) e_Re_clause_59 (by decide) ?_
            refine w_callVI (w := w20) (As := [.int 32]) (rest := []) e_Re_clause_61 ok_Re_take rfl km_Re_35 kx_Re_take kv_Re_take rfl (by decide) hw20 lay_73 (by decide) rfl (Nat.le_of_ble_eq_true rfl) h (fun w22 x22 hw22 h => ?_)
            refine g_if_eq 75 e_Re_clause_64 (by decide) ⟨fun z23 => ?_, fun z23 => ?_⟩
            · have h := h.1 z23
              refine g_iconst (v := 0) e_Re_clause_75 (by decide) ?_
              exact g_zret e_Re_clause_76 rfl (Or.inl rfl) ⟨Sh.n hw22, _, rfl, hw22, h⟩
            · have h := h.2 z23
              refine g_aload_n 2 e_Re_clause_67 rfl rfl ?_
              refine g_iconst (v := 0) e_Re_clause_68 (by decide) ?_
              refine w_callVI (w := w22) (As := [.int 0]) (rest := []) e_Re_clause_69 ok_Re_expression rfl km_Re_57 kx_Re_expression kv_Re_expression rfl (by decide) hw22 lay_73 (by decide) rfl (Nat.le_of_ble_eq_true rfl) h (fun w24 x24 hw24 h => ?_)
              refine g_if_ne 77 e_Re_clause_72 (by decide) ⟨fun z25 => ?_, fun z25 => ?_⟩
              · have h := h.1 z25
                refine g_aload_n 2 e_Re_clause_77 rfl rfl ?_
                obtain ⟨K26, hK26, hr26, h⟩ := h
                refine gf_Re_15 rfl e_Re_clause_78 hw24 lay_73 (by decide) hr26 ?_
                refine g_iload_n 1 e_Re_clause_81 rfl rfl ?_
                refine g_if_eq 90 e_Re_clause_82 (by decide) ⟨fun z27 => ?_, fun z27 => ?_⟩
                · have h := h.1 z27
                  refine g_bipush (v := 10) e_Re_clause_90 (by decide) ?_
                  refine g_iconst (v := 0) e_Re_clause_92 (by decide) ?_
                  refine g_iload_n 0 e_Re_clause_93 rfl rfl ?_
                  refine w_callVV (w := w24) (As := [.int 10, .int 0, .int x20]) (rest := []) e_Re_clause_94 ok_Ki_addStep rfl km_Re_60 kx_Ki_addStep kv_Ki_addStep rfl (by decide) hw24 (lay_Ki hK26) (lt_Ki hK26) rfl (Nat.le_of_ble_eq_true rfl) h (fun w28 hw28 h => ?_)
                  refine g_iconst (v := 1) e_Re_clause_97 (by decide) ?_
                  exact g_zret e_Re_clause_98 rfl (Or.inr rfl) ⟨Sh.n hw28, _, rfl, hw28, h⟩
                · have h := h.2 z27
                  refine g_bipush (v := 9) e_Re_clause_85 (by decide) ?_
                  refine g_goto 92 e_Re_clause_87 (by decide) ?_
                  refine g_iconst (v := 0) e_Re_clause_92 (by decide) ?_
                  refine g_iload_n 0 e_Re_clause_93 rfl rfl ?_
                  refine w_callVV (w := w24) (As := [.int 9, .int 0, .int x20]) (rest := []) e_Re_clause_94 ok_Ki_addStep rfl km_Re_60 kx_Ki_addStep kv_Ki_addStep rfl (by decide) hw24 (lay_Ki hK26) (lt_Ki hK26) rfl (Nat.le_of_ble_eq_true rfl) h (fun w29 hw29 h => ?_)
                  refine g_iconst (v := 1) e_Re_clause_97 (by decide) ?_
                  exact g_zret e_Re_clause_98 rfl (Or.inr rfl) ⟨Sh.n hw29, _, rfl, hw29, h⟩
              · have h := h.2 z25
                refine g_iconst (v := 0) e_Re_clause_75 (by decide) ?_
                exact g_zret e_Re_clause_76 rfl (Or.inl rfl) ⟨Sh.n hw24, _, rfl, hw24, h⟩
        · have h := h.2 z19
          refine g_iconst (v := 0) e_Re_clause_47 (by decide) ?_
          exact g_zret e_Re_clause_48 rfl (Or.inl rfl) ⟨Sh.n hw18, _, rfl, hw18, h⟩
    · have h := h.2 z4
      refine g_iconst (v := 1) e_Re_clause_23 (by decide) ?_
      refine g_goto 28 e_Re_clause_24 (by decide) ?_
      refine g_istore_n (lv := [(1, .int 1), (0, .ref (qb E + 73))]) e_Re_clause_28 rfl (by decide) rfl ?_
      refine g_aload_n 1 e_Re_clause_29 rfl rfl ?_
      refine g_iload_n 0 e_Re_clause_30 rfl rfl ?_
      refine g_if_eq 39 e_Re_clause_31 (by decide) ⟨fun z30 => ?_, fun z30 => ?_⟩
      · have h := h.1 z30
        refine g_ldc48 rfl e_Re_clause_39 ?_
        refine w_callVI (w := w3) (As := [.ref (qc E 12)]) (rest := []) e_Re_clause_41 ok_Re_takeWord rfl km_Re_50 kx_Re_takeWord kv_Re_takeWord rfl (by decide) hw3 lay_73 (by decide) rfl (Nat.le_of_ble_eq_true rfl) h (fun w31 x31 hw31 h => ?_)
        refine g_if_ne 49 e_Re_clause_44 (by decide) ⟨fun z32 => ?_, fun z32 => ?_⟩
        · have h := h.1 z32
          refine g_aload_n 1 e_Re_clause_49 rfl rfl ?_
          refine w_callVI (w := w31) (As := []) (rest := []) e_Re_clause_50 ok_Re_takeNumber rfl km_Re_54 kx_Re_takeNumber kv_Re_takeNumber rfl (by decide) hw31 lay_73 (by decide) rfl (Nat.le_of_ble_eq_true rfl) h (fun w33 x33 hw33 h => ?_)
          refine g_istore_n (lv := [(2, .int x33), (1, .int 1), (0, .ref (qb E + 73))]) e_Re_clause_53 rfl (by decide) rfl ?_
          refine g_iload_n 0 e_Re_clause_54 rfl rfl ?_
          refine g_if_lt 75 e_Re_clause_55 (by decide) ⟨fun z34 => ?_, fun z34 => ?_⟩
          · have h := h.1 z34
            refine g_iconst (v := 0) e_Re_clause_75 (by decide) ?_
            exact g_zret e_Re_clause_76 rfl (Or.inl rfl) ⟨Sh.n hw33, _, rfl, hw33, h⟩
          · have h := h.2 z34
            refine g_aload_n 2 e_Re_clause_58 rfl rfl ?_
            refine g_bipush (v := 32) e_Re_clause_59 (by decide) ?_
            refine w_callVI (w := w33) (As := [.int 32]) (rest := []) e_Re_clause_61 ok_Re_take rfl km_Re_35 kx_Re_take kv_Re_take rfl (by decide) hw33 lay_73 (by decide) rfl (Nat.le_of_ble_eq_true rfl) h (fun w35 x35 hw35 h => ?_)
            refine g_if_eq 75 e_Re_clause_64 (by decide) ⟨fun z36 => ?_, fun z36 => ?_⟩
            · have h := h.1 z36
              refine g_iconst (v := 0) e_Re_clause_75 (by decide) ?_
              exact g_zret e_Re_clause_76 rfl (Or.inl rfl) ⟨Sh.n hw35, _, rfl, hw35, h⟩
            · have h := h.2 z36
              refine g_aload_n 2 e_Re_clause_67 rfl rfl ?_
              refine g_iconst (v := 0) e_Re_clause_68 (by decide) ?_
              refine w_callVI (w := w35) (As := [.int 0]) (rest := []) e_Re_clause_69 ok_Re_expression rfl km_Re_57 kx_Re_expression kv_Re_expression rfl (by decide) hw35 lay_73 (by decide) rfl (Nat.le_of_ble_eq_true rfl) h (fun w37 x37 hw37 h => ?_)
              refine g_if_ne 77 e_Re_clause_72 (by decide) ⟨fun z38 => ?_, fun z38 => ?_⟩
              · have h := h.1 z38
                refine g_aload_n 2 e_Re_clause_77 rfl rfl ?_
                obtain ⟨K39, hK39, hr39, h⟩ := h
                refine gf_Re_15 rfl e_Re_clause_78 hw37 lay_73 (by decide) hr39 ?_
                refine g_iload_n 1 e_Re_clause_81 rfl rfl ?_
                refine g_if_eq 90 e_Re_clause_82 (by decide) ⟨fun z40 => ?_, fun z40 => ?_⟩
                · have h := h.1 z40
                  refine g_bipush (v := 10) e_Re_clause_90 (by decide) ?_
                  refine g_iconst (v := 0) e_Re_clause_92 (by decide) ?_
                  refine g_iload_n 0 e_Re_clause_93 rfl rfl ?_
                  refine w_callVV (w := w37) (As := [.int 10, .int 0, .int x33]) (rest := []) e_Re_clause_94 ok_Ki_addStep rfl km_Re_60 kx_Ki_addStep kv_Ki_addStep rfl (by decide) hw37 (lay_Ki hK39) (lt_Ki hK39) rfl (Nat.le_of_ble_eq_true rfl) h (fun w41 hw41 h => ?_)
                  refine g_iconst (v := 1) e_Re_clause_97 (by decide) ?_
                  exact g_zret e_Re_clause_98 rfl (Or.inr rfl) ⟨Sh.n hw41, _, rfl, hw41, h⟩
                · have h := h.2 z40
                  refine g_bipush (v := 9) e_Re_clause_85 (by decide) ?_
                  refine g_goto 92 e_Re_clause_87 (by decide) ?_
                  refine g_iconst (v := 0) e_Re_clause_92 (by decide) ?_
                  refine g_iload_n 0 e_Re_clause_93 rfl rfl ?_
                  refine w_callVV (w := w37) (As := [.int 9, .int 0, .int x33]) (rest := []) e_Re_clause_94 ok_Ki_addStep rfl km_Re_60 kx_Ki_addStep kv_Ki_addStep rfl (by decide) hw37 (lay_Ki hK39) (lt_Ki hK39) rfl (Nat.le_of_ble_eq_true rfl) h (fun w42 hw42 h => ?_)
                  refine g_iconst (v := 1) e_Re_clause_97 (by decide) ?_
                  exact g_zret e_Re_clause_98 rfl (Or.inr rfl) ⟨Sh.n hw42, _, rfl, hw42, h⟩
              · have h := h.2 z38
                refine g_iconst (v := 0) e_Re_clause_75 (by decide) ?_
                exact g_zret e_Re_clause_76 rfl (Or.inl rfl) ⟨Sh.n hw37, _, rfl, hw37, h⟩
        · have h := h.2 z32
          refine g_iconst (v := 0) e_Re_clause_47 (by decide) ?_
          exact g_zret e_Re_clause_48 rfl (Or.inl rfl) ⟨Sh.n hw31, _, rfl, hw31, h⟩
      · have h := h.2 z30
        refine g_ldc46 rfl e_Re_clause_34 ?_
        refine g_goto 41 e_Re_clause_36 (by decide) ?_
        refine w_callVI (w := w3) (As := [.ref (qc E 11)]) (rest := []) e_Re_clause_41 ok_Re_takeWord rfl km_Re_50 kx_Re_takeWord kv_Re_takeWord rfl (by decide) hw3 lay_73 (by decide) rfl (Nat.le_of_ble_eq_true rfl) h (fun w43 x43 hw43 h => ?_)
        refine g_if_ne 49 e_Re_clause_44 (by decide) ⟨fun z44 => ?_, fun z44 => ?_⟩
        · have h := h.1 z44
          refine g_aload_n 1 e_Re_clause_49 rfl rfl ?_
          refine w_callVI (w := w43) (As := []) (rest := []) e_Re_clause_50 ok_Re_takeNumber rfl km_Re_54 kx_Re_takeNumber kv_Re_takeNumber rfl (by decide) hw43 lay_73 (by decide) rfl (Nat.le_of_ble_eq_true rfl) h (fun w45 x45 hw45 h => ?_)
          refine g_istore_n (lv := [(2, .int x45), (1, .int 1), (0, .ref (qb E + 73))]) e_Re_clause_53 rfl (by decide) rfl ?_
          refine g_iload_n 0 e_Re_clause_54 rfl rfl ?_
          refine g_if_lt 75 e_Re_clause_55 (by decide) ⟨fun z46 => ?_, fun z46 => ?_⟩
          · have h := h.1 z46
            refine g_iconst (v := 0) e_Re_clause_75 (by decide) ?_
            exact g_zret e_Re_clause_76 rfl (Or.inl rfl) ⟨Sh.n hw45, _, rfl, hw45, h⟩
          · have h := h.2 z46
            refine g_aload_n 2 e_Re_clause_58 rfl rfl ?_
            refine g_bipush (v := 32) e_Re_clause_59 (by decide) ?_
            refine w_callVI (w := w45) (As := [.int 32]) (rest := []) e_Re_clause_61 ok_Re_take rfl km_Re_35 kx_Re_take kv_Re_take rfl (by decide) hw45 lay_73 (by decide) rfl (Nat.le_of_ble_eq_true rfl) h (fun w47 x47 hw47 h => ?_)
            refine g_if_eq 75 e_Re_clause_64 (by decide) ⟨fun z48 => ?_, fun z48 => ?_⟩
            · have h := h.1 z48
              refine g_iconst (v := 0) e_Re_clause_75 (by decide) ?_
              exact g_zret e_Re_clause_76 rfl (Or.inl rfl) ⟨Sh.n hw47, _, rfl, hw47, h⟩
            · have h := h.2 z48
              refine g_aload_n 2 e_Re_clause_67 rfl rfl ?_
              refine g_iconst (v := 0) e_Re_clause_68 (by decide) ?_
              refine w_callVI (w := w47) (As := [.int 0]) (rest := []) e_Re_clause_69 ok_Re_expression rfl km_Re_57 kx_Re_expression kv_Re_expression rfl (by decide) hw47 lay_73 (by decide) rfl (Nat.le_of_ble_eq_true rfl) h (fun w49 x49 hw49 h => ?_)
              refine g_if_ne 77 e_Re_clause_72 (by decide) ⟨fun z50 => ?_, fun z50 => ?_⟩
              · have h := h.1 z50
                refine g_aload_n 2 e_Re_clause_77 rfl rfl ?_
                obtain ⟨K51, hK51, hr51, h⟩ := h
                refine gf_Re_15 rfl e_Re_clause_78 hw49 lay_73 (by decide) hr51 ?_
                refine g_iload_n 1 e_Re_clause_81 rfl rfl ?_
                refine g_if_eq 90 e_Re_clause_82 (by decide) ⟨fun z52 => ?_, fun z52 => ?_⟩
                · have h := h.1 z52
                  refine g_bipush (v := 10) e_Re_clause_90 (by decide) ?_
                  refine g_iconst (v := 0) e_Re_clause_92 (by decide) ?_
                  refine g_iload_n 0 e_Re_clause_93 rfl rfl ?_
                  refine w_callVV (w := w49) (As := [.int 10, .int 0, .int x45]) (rest := []) e_Re_clause_94 ok_Ki_addStep rfl km_Re_60 kx_Ki_addStep kv_Ki_addStep rfl (by decide) hw49 (lay_Ki hK51) (lt_Ki hK51) rfl (Nat.le_of_ble_eq_true rfl) h (fun w53 hw53 h => ?_)
                  refine g_iconst (v := 1) e_Re_clause_97 (by decide) ?_
                  exact g_zret e_Re_clause_98 rfl (Or.inr rfl) ⟨Sh.n hw53, _, rfl, hw53, h⟩
                · have h := h.2 z52
                  refine g_bipush (v := 9) e_Re_clause_85 (by decide) ?_
                  refine g_goto 92 e_Re_clause_87 (by decide) ?_
                  refine g_iconst (v := 0) e_Re_clause_92 (by decide) ?_
                  refine g_iload_n 0 e_Re_clause_93 rfl rfl ?_
                  refine w_callVV (w := w49) (As := [.int 9, .int 0, .int x45]) (rest := []) e_Re_clause_94 ok_Ki_addStep rfl km_Re_60 kx_Ki_addStep kv_Ki_addStep rfl (by decide) hw49 (lay_Ki hK51) (lt_Ki hK51) rfl (Nat.le_of_ble_eq_true rfl) h (fun w54 hw54 h => ?_)
                  refine g_iconst (v := 1) e_Re_clause_97 (by decide) ?_
                  exact g_zret e_Re_clause_98 rfl (Or.inr rfl) ⟨Sh.n hw54, _, rfl, hw54, h⟩
              · have h := h.2 z50
                refine g_iconst (v := 0) e_Re_clause_75 (by decide) ?_
                exact g_zret e_Re_clause_76 rfl (Or.inl rfl) ⟨Sh.n hw49, _, rfl, hw49, h⟩
        · have h := h.2 z44
          refine g_iconst (v := 0) e_Re_clause_47 (by decide) ?_
          exact g_zret e_Re_clause_48 rfl (Or.inl rfl) ⟨Sh.n hw43, _, rfl, hw43, h⟩
  · have h := h.2 z2
    refine g_aload_n 0 e_Re_clause_9 rfl rfl ?_
    refine w_callVI (w := w1) (As := []) (rest := []) e_Re_clause_10 ok_Re_needClause rfl km_Re_43 kx_Re_needClause kv_Re_needClause rfl (by decide) hw1 lay_73 (by decide) rfl (Nat.le_of_ble_eq_true rfl) h (fun w55 x55 hw55 h => ?_)
    obtain ⟨o56, h⟩ := h
    exact g_zret e_Re_clause_13 rfl o56 ⟨Sh.n hw55, _, rfl, hw55, h⟩
theorem en_Re_clause {d : Nat} {E : qE} {Q : qW → Int32 → Prop} {w : qW} (hw : Sh w) (h : c_Re_clause_0 d E Q  w) : CaI (d + 41) M_Re_clause [.ref (qb E + 73)] E w Q := Ca.into hw rfl (Nat.le_of_ble_eq_true rfl) h
def c_Re_needClause_0 (d : Nat) (E : qE) (Q : qW → Int32 → Prop) (w : qW) : Prop := Go (d + 6) M_Re_needClause E 161 161 (qFI Q) 0 [(0, .ref (qb E + 73))] [] w
set_option maxHeartbeats 4000000 in
set_option maxRecDepth 8000 in
theorem s_Re_needClause_0 {d : Nat} {E : qE} {Q : qW → Int32 → Prop} {w : qW} (hw : Sh w) (h : CaI (d + 5) M_Re_takeWord [.ref (qb E + 73), .ref (qc E 10)] E w (fun w1 x1 => ((¬ x1 = 0) → (CaI (d + 5) M_Re_takeNumber [.ref (qb E + 73)] E w1 (fun w3 x3 => ((0 ≤ x3) → (∃ K5, isKi K5 ∧ qr w3 73 3 = K5 + 1 ∧ (Q (qpi w3 K5 4 (10 * x3)) 1))) ∧ ((¬ 0 ≤ x3) → (Q w3 0))))) ∧ ((x1 = 0) → (Q w1 0)))) : c_Re_needClause_0 d E Q  w := by
  unfold c_Re_needClause_0
  refine g_aload_n 0 e_Re_needClause_0 rfl rfl ?_
  refine g_ldc64 rfl e_Re_needClause_1 ?_
  refine w_callVI (w := w) (As := [.ref (qc E 10)]) (rest := []) e_Re_needClause_3 ok_Re_takeWord rfl km_Re_50 kx_Re_takeWord kv_Re_takeWord rfl (by decide) hw lay_73 (by decide) rfl (Nat.le_of_ble_eq_true rfl) h (fun w1 x1 hw1 h => ?_)
  refine g_if_ne 11 e_Re_needClause_6 (by decide) ⟨fun z2 => ?_, fun z2 => ?_⟩
  · have h := h.1 z2
    refine g_aload_n 0 e_Re_needClause_11 rfl rfl ?_
    refine w_callVI (w := w1) (As := []) (rest := []) e_Re_needClause_12 ok_Re_takeNumber rfl km_Re_54 kx_Re_takeNumber kv_Re_takeNumber rfl (by decide) hw1 lay_73 (by decide) rfl (Nat.le_of_ble_eq_true rfl) h (fun w3 x3 hw3 h => ?_)
    refine g_istore_n (lv := [(1, .int x3), (0, .ref (qb E + 73))]) e_Re_needClause_15 rfl (by decide) rfl ?_
    refine g_iload_n 0 e_Re_needClause_16 rfl rfl ?_
    refine g_if_ge 22 e_Re_needClause_17 (by decide) ⟨fun z4 => ?_, fun z4 => ?_⟩
    · have h := h.1 z4
      refine g_aload_n 1 e_Re_needClause_22 rfl rfl ?_
      obtain ⟨K5, hK5, hr5, h⟩ := h
      refine gf_Re_15 rfl e_Re_needClause_23 hw3 lay_73 (by decide) hr5 ?_
      refine g_bipush (v := 10) e_Re_needClause_26 (by decide) ?_
      refine g_iload_n 0 e_Re_needClause_28 rfl rfl ?_
      refine g_imul e_Re_needClause_29 ?_
      refine pf_Re_66 rfl e_Re_needClause_30 hw3 (lay_Ki hK5) (lt_Ki hK5) ?_
      refine g_iconst (v := 1) e_Re_needClause_33 (by decide) ?_
      exact g_zret e_Re_needClause_34 rfl (Or.inr rfl) ⟨Sh.n hw3, _, rfl, hw3, h⟩
    · have h := h.2 z4
      refine g_iconst (v := 0) e_Re_needClause_20 (by decide) ?_
      exact g_zret e_Re_needClause_21 rfl (Or.inl rfl) ⟨Sh.n hw3, _, rfl, hw3, h⟩
  · have h := h.2 z2
    refine g_iconst (v := 0) e_Re_needClause_9 (by decide) ?_
    exact g_zret e_Re_needClause_10 rfl (Or.inl rfl) ⟨Sh.n hw1, _, rfl, hw1, h⟩
theorem en_Re_needClause {d : Nat} {E : qE} {Q : qW → Int32 → Prop} {w : qW} (hw : Sh w) (h : c_Re_needClause_0 d E Q  w) : CaI (d + 6) M_Re_needClause [.ref (qb E + 73)] E w Q := Ca.into hw rfl (Nat.le_of_ble_eq_true rfl) h
def c_Re_expression_0 (d : Nat) (E : qE) (Q : qW → Int32 → Prop) (a1 : Int32) (w : qW) : Prop := Go (d + 6) M_Re_expression E 161 161 (qFI Q) 0 [(0, .ref (qb E + 73)), (1, .int a1)] [] w
def c_Re_expression_7 (d : Nat) (E : qE) (Q : qW → Int32 → Prop) (l1 : Int32) (l2 : Int32) (l3 : Int32) (l4 : Int32) (w : qW) : Prop := Go (d + 6) M_Re_expression E 161 161 (qFI Q) 7 [(0, .ref (qb E + 73)), (1, .int l1), (2, .int l2), (3, .int l3), (4, .int l4)] [] w
set_option maxHeartbeats 4000000 in
set_option maxRecDepth 8000 in
theorem s_Re_expression_0 {d : Nat} {E : qE} {Q : qW → Int32 → Prop} {a1 : Int32} {w : qW} (hw : Sh w) (h : c_Re_expression_7 d E Q a1 0 0 0 w) : c_Re_expression_0 d E Q a1 w := by
  unfold c_Re_expression_0
  refine g_iconst (v := 0) e_Re_expression_0 (by decide) ?_
  refine g_istore_n (lv := [(2, .int 0), (0, .ref (qb E + 73)), (1, .int a1)]) e_Re_expression_1 rfl (by decide) rfl ?_
  refine g_iconst (v := 0) e_Re_expression_2 (by decide) ?_
  refine g_istore_n (lv := [(3, .int 0), (2, .int 0), (0, .ref (qb E + 73)), (1, .int a1)]) e_Re_expression_3 rfl (by decide) rfl ?_
  refine g_iconst (v := 0) e_Re_expression_4 (by decide) ?_
  refine g_istore (lv := [(4, .int 0), (3, .int 0), (2, .int 0), (0, .ref (qb E + 73)), (1, .int a1)]) e_Re_expression_5 (by decide) rfl ?_
  refine g_loc [3, 4, 2, 1, 0] rfl ?_
  exact h
set_option maxHeartbeats 4000000 in
set_option maxRecDepth 8000 in
theorem s_Re_expression_7 {d : Nat} {E : qE} {Q : qW → Int32 → Prop} {l1 : Int32} {l2 : Int32} {l3 : Int32} {l4 : Int32} {w : qW} (hw : Sh w) (h : ((100 ≤ l4) → (Q w 0)) ∧ ((¬ 100 ≤ l4) → (CaI (d + 5) M_Re_factor [.ref (qb E + 73), .int l1] E w (fun w2 x2 => ((¬ x2 = 0) → (((l2 = 0) → (CaI (d + 5) M_Re_take [.ref (qb E + 73), .int 38] E w2 (fun w5 x5 => ((¬ x5 = 0) → (c_Re_expression_7 d E Q l1 x5 l3 (l4 + 1) w5)) ∧ ((x5 = 0) → (((l3 = 0) → (CaI (d + 5) M_Re_take [.ref (qb E + 73), .int 124] E w5 (fun w8 x8 => ((¬ x8 = 0) → (c_Re_expression_7 d E Q l1 x5 x8 (l4 + 1) w8)) ∧ ((x8 = 0) → (Q w8 1))))) ∧ ((¬ l3 = 0) → (∃ K10, isKi K10 ∧ qr w5 73 3 = K10 + 1 ∧ (CaV (d + 5) M_Ki_addStep [.ref (qb E + K10), .int 7, .int 0, .int 0] E w5 (fun w11 => CaI (d + 5) M_Re_take [.ref (qb E + 73), .int 124] E w11 (fun w12 x12 => ((¬ x12 = 0) → (c_Re_expression_7 d E Q l1 x5 x12 (l4 + 1) w12)) ∧ ((x12 = 0) → (Q w12 1)))))))))))) ∧ ((¬ l2 = 0) → (∃ K14, isKi K14 ∧ qr w2 73 3 = K14 + 1 ∧ (CaV (d + 5) M_Ki_addStep [.ref (qb E + K14), .int 6, .int 0, .int 0] E w2 (fun w15 => CaI (d + 5) M_Re_take [.ref (qb E + 73), .int 38] E w15 (fun w16 x16 => ((¬ x16 = 0) → (c_Re_expression_7 d E Q l1 x16 l3 (l4 + 1) w16)) ∧ ((x16 = 0) → (((l3 = 0) → (CaI (d + 5) M_Re_take [.ref (qb E + 73), .int 124] E w16 (fun w19 x19 => ((¬ x19 = 0) → (c_Re_expression_7 d E Q l1 x16 x19 (l4 + 1) w19)) ∧ ((x19 = 0) → (Q w19 1))))) ∧ ((¬ l3 = 0) → (∃ K21, isKi K21 ∧ qr w16 73 3 = K21 + 1 ∧ (CaV (d + 5) M_Ki_addStep [.ref (qb E + K21), .int 7, .int 0, .int 0] E w16 (fun w22 => CaI (d + 5) M_Re_take [.ref (qb E + 73), .int 124] E w22 (fun w23 x23 => ((¬ x23 = 0) → (c_Re_expression_7 d E Q l1 x16 x23 (l4 + 1) w23)) ∧ ((x23 = 0) → (Q w23 1)))))))))))))))) ∧ ((x2 = 0) → (Q w2 0)))))) : c_Re_expression_7 d E Q l1 l2 l3 l4 w := by
  unfold c_Re_expression_7
  refine g_iload 4 e_Re_expression_7 rfl ?_
  refine g_bipush (v := 100) e_Re_expression_9 (by decide) ?_
  refine g_icmp_ge 84 e_Re_expression_11 (by decide) ⟨fun z1 => ?_, fun z1 => ?_⟩
  · have h := h.1 z1
    refine g_iconst (v := 0) e_Re_expression_84 (by decide) ?_
    exact g_zret e_Re_expression_85 rfl (Or.inl rfl) ⟨Sh.n hw, _, rfl, hw, h⟩
  · have h := h.2 z1
    refine g_aload_n 0 e_Re_expression_14 rfl rfl ?_
    refine g_iload_n 1 e_Re_expression_15 rfl rfl ?_
    refine w_callVI (w := w) (As := [.int l1]) (rest := []) e_Re_expression_16 ok_Re_factor rfl km_Re_69 kx_Re_factor kv_Re_factor rfl (by decide) hw lay_73 (by decide) rfl (Nat.le_of_ble_eq_true rfl) h (fun w2 x2 hw2 h => ?_)
    refine g_if_ne 24 e_Re_expression_19 (by decide) ⟨fun z3 => ?_, fun z3 => ?_⟩
    · have h := h.1 z3
      refine g_iload_n 2 e_Re_expression_24 rfl rfl ?_
      refine g_if_eq 39 e_Re_expression_25 (by decide) ⟨fun z4 => ?_, fun z4 => ?_⟩
      · have h := h.1 z4
        refine g_aload_n 0 e_Re_expression_39 rfl rfl ?_
        refine g_bipush (v := 38) e_Re_expression_40 (by decide) ?_
        refine w_callVI (w := w2) (As := [.int 38]) (rest := []) e_Re_expression_42 ok_Re_take rfl km_Re_35 kx_Re_take kv_Re_take rfl (by decide) hw2 lay_73 (by decide) rfl (Nat.le_of_ble_eq_true rfl) h (fun w5 x5 hw5 h => ?_)
        refine g_istore_n (lv := [(2, .int x5), (0, .ref (qb E + 73)), (1, .int l1), (3, .int l3), (4, .int l4)]) e_Re_expression_45 rfl (by decide) rfl ?_
        refine g_iload_n 0 e_Re_expression_46 rfl rfl ?_
        refine g_if_ne 78 e_Re_expression_47 (by decide) ⟨fun z6 => ?_, fun z6 => ?_⟩
        · have h := h.1 z6
          refine g_iinc (v := (l4 + 1)) (lv := [(4, .int (l4 + 1)), (2, .int x5), (0, .ref (qb E + 73)), (1, .int l1), (3, .int l3)]) 4 e_Re_expression_78 rfl rfl (by decide) rfl ?_
          refine g_goto 7 e_Re_expression_81 (by decide) ?_
          refine g_loc [2, 3, 1, 4, 0] rfl ?_
          exact h
        · have h := h.2 z6
          refine g_iload_n 3 e_Re_expression_50 rfl rfl ?_
          refine g_if_eq 65 e_Re_expression_51 (by decide) ⟨fun z7 => ?_, fun z7 => ?_⟩
          · have h := h.1 z7
            refine g_aload_n 1 e_Re_expression_65 rfl rfl ?_
            refine g_bipush (v := 124) e_Re_expression_66 (by decide) ?_
            refine w_callVI (w := w5) (As := [.int 124]) (rest := []) e_Re_expression_68 ok_Re_take rfl km_Re_35 kx_Re_take kv_Re_take rfl (by decide) hw5 lay_73 (by decide) rfl (Nat.le_of_ble_eq_true rfl) h (fun w8 x8 hw8 h => ?_)
            refine g_istore_n (lv := [(3, .int x8), (2, .int x5), (0, .ref (qb E + 73)), (1, .int l1), (4, .int l4)]) e_Re_expression_71 rfl (by decide) rfl ?_
            refine g_iload_n 0 e_Re_expression_72 rfl rfl ?_
            refine g_if_ne 78 e_Re_expression_73 (by decide) ⟨fun z9 => ?_, fun z9 => ?_⟩
            · have h := h.1 z9
              refine g_iinc (v := (l4 + 1)) (lv := [(4, .int (l4 + 1)), (3, .int x8), (2, .int x5), (0, .ref (qb E + 73)), (1, .int l1)]) 4 e_Re_expression_78 rfl rfl (by decide) rfl ?_
              refine g_goto 7 e_Re_expression_81 (by decide) ?_
              refine g_loc [3, 4, 2, 1, 0] rfl ?_
              exact h
            · have h := h.2 z9
              refine g_iconst (v := 1) e_Re_expression_76 (by decide) ?_
              exact g_zret e_Re_expression_77 rfl (Or.inr rfl) ⟨Sh.n hw8, _, rfl, hw8, h⟩
          · have h := h.2 z7
            refine g_aload_n 1 e_Re_expression_54 rfl rfl ?_
            obtain ⟨K10, hK10, hr10, h⟩ := h
            refine gf_Re_15 rfl e_Re_expression_55 hw5 lay_73 (by decide) hr10 ?_
            refine g_bipush (v := 7) e_Re_expression_58 (by decide) ?_
            refine g_iconst (v := 0) e_Re_expression_60 (by decide) ?_
            refine g_iconst (v := 0) e_Re_expression_61 (by decide) ?_
            refine w_callVV (w := w5) (As := [.int 7, .int 0, .int 0]) (rest := []) e_Re_expression_62 ok_Ki_addStep rfl km_Re_60 kx_Ki_addStep kv_Ki_addStep rfl (by decide) hw5 (lay_Ki hK10) (lt_Ki hK10) rfl (Nat.le_of_ble_eq_true rfl) h (fun w11 hw11 h => ?_)
            refine g_aload_n 1 e_Re_expression_65 rfl rfl ?_
            refine g_bipush (v := 124) e_Re_expression_66 (by decide) ?_
            refine w_callVI (w := w11) (As := [.int 124]) (rest := []) e_Re_expression_68 ok_Re_take rfl km_Re_35 kx_Re_take kv_Re_take rfl (by decide) hw11 lay_73 (by decide) rfl (Nat.le_of_ble_eq_true rfl) h (fun w12 x12 hw12 h => ?_)
            refine g_istore_n (lv := [(3, .int x12), (2, .int x5), (0, .ref (qb E + 73)), (1, .int l1), (4, .int l4)]) e_Re_expression_71 rfl (by decide) rfl ?_
            refine g_iload_n 0 e_Re_expression_72 rfl rfl ?_
            refine g_if_ne 78 e_Re_expression_73 (by decide) ⟨fun z13 => ?_, fun z13 => ?_⟩
            · have h := h.1 z13
              refine g_iinc (v := (l4 + 1)) (lv := [(4, .int (l4 + 1)), (3, .int x12), (2, .int x5), (0, .ref (qb E + 73)), (1, .int l1)]) 4 e_Re_expression_78 rfl rfl (by decide) rfl ?_
              refine g_goto 7 e_Re_expression_81 (by decide) ?_
              refine g_loc [3, 4, 2, 1, 0] rfl ?_
              exact h
            · have h := h.2 z13
              refine g_iconst (v := 1) e_Re_expression_76 (by decide) ?_
              exact g_zret e_Re_expression_77 rfl (Or.inr rfl) ⟨Sh.n hw12, _, rfl, hw12, h⟩
      · have h := h.2 z4
        refine g_aload_n 0 e_Re_expression_28 rfl rfl ?_
        obtain ⟨K14, hK14, hr14, h⟩ := h
        refine gf_Re_15 rfl e_Re_expression_29 hw2 lay_73 (by decide) hr14 ?_
        refine g_bipush (v := 6) e_Re_expression_32 (by decide) ?_
        refine g_iconst (v := 0) e_Re_expression_34 (by decide) ?_
        refine g_iconst (v := 0) e_Re_expression_35 (by decide) ?_
        refine w_callVV (w := w2) (As := [.int 6, .int 0, .int 0]) (rest := []) e_Re_expression_36 ok_Ki_addStep rfl km_Re_60 kx_Ki_addStep kv_Ki_addStep rfl (by decide) hw2 (lay_Ki hK14) (lt_Ki hK14) rfl (Nat.le_of_ble_eq_true rfl) h (fun w15 hw15 h => ?_)
        refine g_aload_n 0 e_Re_expression_39 rfl rfl ?_
        refine g_bipush (v := 38) e_Re_expression_40 (by decide) ?_
        refine w_callVI (w := w15) (As := [.int 38]) (rest := []) e_Re_expression_42 ok_Re_take rfl km_Re_35 kx_Re_take kv_Re_take rfl (by decide) hw15 lay_73 (by decide) rfl (Nat.le_of_ble_eq_true rfl) h (fun w16 x16 hw16 h => ?_)
        refine g_istore_n (lv := [(2, .int x16), (0, .ref (qb E + 73)), (1, .int l1), (3, .int l3), (4, .int l4)]) e_Re_expression_45 rfl (by decide) rfl ?_
        refine g_iload_n 0 e_Re_expression_46 rfl rfl ?_
        refine g_if_ne 78 e_Re_expression_47 (by decide) ⟨fun z17 => ?_, fun z17 => ?_⟩
        · have h := h.1 z17
          refine g_iinc (v := (l4 + 1)) (lv := [(4, .int (l4 + 1)), (2, .int x16), (0, .ref (qb E + 73)), (1, .int l1), (3, .int l3)]) 4 e_Re_expression_78 rfl rfl (by decide) rfl ?_
          refine g_goto 7 e_Re_expression_81 (by decide) ?_
          refine g_loc [2, 3, 1, 4, 0] rfl ?_
          exact h
        · have h := h.2 z17
          refine g_iload_n 3 e_Re_expression_50 rfl rfl ?_
          refine g_if_eq 65 e_Re_expression_51 (by decide) ⟨fun z18 => ?_, fun z18 => ?_⟩
          · have h := h.1 z18
            refine g_aload_n 1 e_Re_expression_65 rfl rfl ?_
            refine g_bipush (v := 124) e_Re_expression_66 (by decide) ?_
            refine w_callVI (w := w16) (As := [.int 124]) (rest := []) e_Re_expression_68 ok_Re_take rfl km_Re_35 kx_Re_take kv_Re_take rfl (by decide) hw16 lay_73 (by decide) rfl (Nat.le_of_ble_eq_true rfl) h (fun w19 x19 hw19 h => ?_)
            refine g_istore_n (lv := [(3, .int x19), (2, .int x16), (0, .ref (qb E + 73)), (1, .int l1), (4, .int l4)]) e_Re_expression_71 rfl (by decide) rfl ?_
            refine g_iload_n 0 e_Re_expression_72 rfl rfl ?_
            refine g_if_ne 78 e_Re_expression_73 (by decide) ⟨fun z20 => ?_, fun z20 => ?_⟩
            · have h := h.1 z20
              refine g_iinc (v := (l4 + 1)) (lv := [(4, .int (l4 + 1)), (3, .int x19), (2, .int x16), (0, .ref (qb E + 73)), (1, .int l1)]) 4 e_Re_expression_78 rfl rfl (by decide) rfl ?_
              refine g_goto 7 e_Re_expression_81 (by decide) ?_
              refine g_loc [3, 4, 2, 1, 0] rfl ?_
              exact h
            · have h := h.2 z20
              refine g_iconst (v := 1) e_Re_expression_76 (by decide) ?_
              exact g_zret e_Re_expression_77 rfl (Or.inr rfl) ⟨Sh.n hw19, _, rfl, hw19, h⟩
          · have h := h.2 z18
            refine g_aload_n 1 e_Re_expression_54 rfl rfl ?_
            obtain ⟨K21, hK21, hr21, h⟩ := h
            refine gf_Re_15 rfl e_Re_expression_55 hw16 lay_73 (by decide) hr21 ?_
            refine g_bipush (v := 7) e_Re_expression_58 (by decide) ?_
            refine g_iconst (v := 0) e_Re_expression_60 (by decide) ?_
            refine g_iconst (v := 0) e_Re_expression_61 (by decide) ?_
            refine w_callVV (w := w16) (As := [.int 7, .int 0, .int 0]) (rest := []) e_Re_expression_62 ok_Ki_addStep rfl km_Re_60 kx_Ki_addStep kv_Ki_addStep rfl (by decide) hw16 (lay_Ki hK21) (lt_Ki hK21) rfl (Nat.le_of_ble_eq_true rfl) h (fun w22 hw22 h => ?_)
            refine g_aload_n 1 e_Re_expression_65 rfl rfl ?_
            refine g_bipush (v := 124) e_Re_expression_66 (by decide) ?_
            refine w_callVI (w := w22) (As := [.int 124]) (rest := []) e_Re_expression_68 ok_Re_take rfl km_Re_35 kx_Re_take kv_Re_take rfl (by decide) hw22 lay_73 (by decide) rfl (Nat.le_of_ble_eq_true rfl) h (fun w23 x23 hw23 h => ?_)
            refine g_istore_n (lv := [(3, .int x23), (2, .int x16), (0, .ref (qb E + 73)), (1, .int l1), (4, .int l4)]) e_Re_expression_71 rfl (by decide) rfl ?_
            refine g_iload_n 0 e_Re_expression_72 rfl rfl ?_
            refine g_if_ne 78 e_Re_expression_73 (by decide) ⟨fun z24 => ?_, fun z24 => ?_⟩
            · have h := h.1 z24
              refine g_iinc (v := (l4 + 1)) (lv := [(4, .int (l4 + 1)), (3, .int x23), (2, .int x16), (0, .ref (qb E + 73)), (1, .int l1)]) 4 e_Re_expression_78 rfl rfl (by decide) rfl ?_
              refine g_goto 7 e_Re_expression_81 (by decide) ?_
              refine g_loc [3, 4, 2, 1, 0] rfl ?_
              exact h
            · have h := h.2 z24
              refine g_iconst (v := 1) e_Re_expression_76 (by decide) ?_
              exact g_zret e_Re_expression_77 rfl (Or.inr rfl) ⟨Sh.n hw23, _, rfl, hw23, h⟩
    · have h := h.2 z3
      refine g_iconst (v := 0) e_Re_expression_22 (by decide) ?_
      exact g_zret e_Re_expression_23 rfl (Or.inl rfl) ⟨Sh.n hw2, _, rfl, hw2, h⟩
theorem en_Re_expression {d : Nat} {E : qE} {Q : qW → Int32 → Prop} {a1 : Int32} {w : qW} (hw : Sh w) (h : c_Re_expression_0 d E Q a1 w) : CaI (d + 6) M_Re_expression [.ref (qb E + 73), .int a1] E w Q := Ca.into hw rfl (Nat.le_of_ble_eq_true rfl) h
def c_Re_factor_0 (d : Nat) (E : qE) (Q : qW → Int32 → Prop) (a1 : Int32) (w : qW) : Prop := Go (d + 6) M_Re_factor E 161 161 (qFI Q) 0 [(0, .ref (qb E + 73)), (1, .int a1)] [] w
set_option maxHeartbeats 4000000 in
set_option maxRecDepth 8000 in
theorem s_Re_factor_0 {d : Nat} {E : qE} {Q : qW → Int32 → Prop} {a1 : Int32} {w : qW} (hw : Sh w) (h : ((4 ≤ a1) → (CaI (d + 5) M_Re_sign [.ref (qb E + 73)] E w (fun w2 x2 => ((¬ x2 = 40) → (CaI (d + 5) M_Re_sign [.ref (qb E + 73)] E w2 (fun w4 x4 => ((¬ x4 = 33) → (CaI (d + 5) M_Re_takeOneOf [.ref (qb E + 73), .ref (qc E 13)] E w4 (fun w6 x6 => ((0 ≤ x6) → (CaI (d + 5) M_Re_takeOneOf [.ref (qb E + 73), .ref (qc E 14)] E w6 (fun w8 x8 => ((0 ≤ x8) → (CaI (d + 5) M_Re_takeNumber [.ref (qb E + 73)] E w8 (fun w10 x10 => ((0 ≤ x10) → (∃ K12, isKi K12 ∧ qr w10 73 3 = K12 + 1 ∧ (CaV (d + 5) M_Ki_addStep [.ref (qb E + K12), .int x6, .int x8, .int x10] E w10 (fun w13 => Q w13 1)))) ∧ ((¬ 0 ≤ x10) → (Q w10 0))))) ∧ ((¬ 0 ≤ x8) → (((0 ≤ ((-1) : Int32)) → (∃ K15, isKi K15 ∧ qr w8 73 3 = K15 + 1 ∧ (CaV (d + 5) M_Ki_addStep [.ref (qb E + K15), .int x6, .int x8, .int (-1)] E w8 (fun w16 => Q w16 1)))) ∧ ((¬ 0 ≤ ((-1) : Int32)) → (Q w8 0))))))) ∧ ((¬ 0 ≤ x6) → (((0 ≤ ((-1) : Int32)) → (CaI (d + 5) M_Re_takeNumber [.ref (qb E + 73)] E w6 (fun w18 x18 => ((0 ≤ x18) → (∃ K20, isKi K20 ∧ qr w18 73 3 = K20 + 1 ∧ (CaV (d + 5) M_Ki_addStep [.ref (qb E + K20), .int x6, .int (-1), .int x18] E w18 (fun w21 => Q w21 1)))) ∧ ((¬ 0 ≤ x18) → (Q w18 0))))) ∧ ((¬ 0 ≤ ((-1) : Int32)) → (((0 ≤ ((-1) : Int32)) → (∃ K23, isKi K23 ∧ qr w6 73 3 = K23 + 1 ∧ (CaV (d + 5) M_Ki_addStep [.ref (qb E + K23), .int x6, .int (-1), .int (-1)] E w6 (fun w24 => Q w24 1)))) ∧ ((¬ 0 ≤ ((-1) : Int32)) → (Q w6 0))))))))) ∧ ((x4 = 33) → ((((0 : Int32) = 0) → (Q w4 0)) ∧ ((¬ (0 : Int32) = 0) → (CaI (d + 5) M_Re_take [.ref (qb E + 73), .int 33] E w4 (fun w26 x26 => ((x26 = 0) → (Q w26 0)) ∧ ((¬ x26 = 0) → (CaI (d + 5) M_Re_factor [.ref (qb E + 73), .int (a1 + 1)] E w26 (fun w28 x28 => ((¬ x28 = 0) → (∃ K30, isKi K30 ∧ qr w28 73 3 = K30 + 1 ∧ (CaV (d + 5) M_Ki_addStep [.ref (qb E + K30), .int 8, .int 0, .int 0] E w28 (fun w31 => Q w31 1)))) ∧ ((x28 = 0) → (Q w28 0))))))))))))) ∧ ((x2 = 40) → ((((0 : Int32) = 0) → (Q w2 0)) ∧ ((¬ (0 : Int32) = 0) → (CaI (d + 5) M_Re_take [.ref (qb E + 73), .int 40] E w2 (fun w33 x33 => ((x33 = 0) → (Q w33 0)) ∧ ((¬ x33 = 0) → (CaI (d + 5) M_Re_expression [.ref (qb E + 73), .int (a1 + 1)] E w33 (fun w35 x35 => ((x35 = 0) → (Q w35 0)) ∧ ((¬ x35 = 0) → (CaI (d + 5) M_Re_take [.ref (qb E + 73), .int 41] E w35 (fun w37 x37 => ((x37 = 0) → (Q w37 0)) ∧ ((¬ x37 = 0) → (Q w37 1)))))))))))))))) ∧ ((¬ 4 ≤ a1) → (CaI (d + 5) M_Re_sign [.ref (qb E + 73)] E w (fun w39 x39 => ((¬ x39 = 40) → (CaI (d + 5) M_Re_sign [.ref (qb E + 73)] E w39 (fun w41 x41 => ((¬ x41 = 33) → (CaI (d + 5) M_Re_takeOneOf [.ref (qb E + 73), .ref (qc E 13)] E w41 (fun w43 x43 => ((0 ≤ x43) → (CaI (d + 5) M_Re_takeOneOf [.ref (qb E + 73), .ref (qc E 14)] E w43 (fun w45 x45 => ((0 ≤ x45) → (CaI (d + 5) M_Re_takeNumber [.ref (qb E + 73)] E w45 (fun w47 x47 => ((0 ≤ x47) → (∃ K49, isKi K49 ∧ qr w47 73 3 = K49 + 1 ∧ (CaV (d + 5) M_Ki_addStep [.ref (qb E + K49), .int x43, .int x45, .int x47] E w47 (fun w50 => Q w50 1)))) ∧ ((¬ 0 ≤ x47) → (Q w47 0))))) ∧ ((¬ 0 ≤ x45) → (((0 ≤ ((-1) : Int32)) → (∃ K52, isKi K52 ∧ qr w45 73 3 = K52 + 1 ∧ (CaV (d + 5) M_Ki_addStep [.ref (qb E + K52), .int x43, .int x45, .int (-1)] E w45 (fun w53 => Q w53 1)))) ∧ ((¬ 0 ≤ ((-1) : Int32)) → (Q w45 0))))))) ∧ ((¬ 0 ≤ x43) → (((0 ≤ ((-1) : Int32)) → (CaI (d + 5) M_Re_takeNumber [.ref (qb E + 73)] E w43 (fun w55 x55 => ((0 ≤ x55) → (∃ K57, isKi K57 ∧ qr w55 73 3 = K57 + 1 ∧ (CaV (d + 5) M_Ki_addStep [.ref (qb E + K57), .int x43, .int (-1), .int x55] E w55 (fun w58 => Q w58 1)))) ∧ ((¬ 0 ≤ x55) → (Q w55 0))))) ∧ ((¬ 0 ≤ ((-1) : Int32)) → (((0 ≤ ((-1) : Int32)) → (∃ K60, isKi K60 ∧ qr w43 73 3 = K60 + 1 ∧ (CaV (d + 5) M_Ki_addStep [.ref (qb E + K60), .int x43, .int (-1), .int (-1)] E w43 (fun w61 => Q w61 1)))) ∧ ((¬ 0 ≤ ((-1) : Int32)) → (Q w43 0))))))))) ∧ ((x41 = 33) → ((((1 : Int32) = 0) → (Q w41 0)) ∧ ((¬ (1 : Int32) = 0) → (CaI (d + 5) M_Re_take [.ref (qb E + 73), .int 33] E w41 (fun w63 x63 => ((x63 = 0) → (Q w63 0)) ∧ ((¬ x63 = 0) → (CaI (d + 5) M_Re_factor [.ref (qb E + 73), .int (a1 + 1)] E w63 (fun w65 x65 => ((¬ x65 = 0) → (∃ K67, isKi K67 ∧ qr w65 73 3 = K67 + 1 ∧ (CaV (d + 5) M_Ki_addStep [.ref (qb E + K67), .int 8, .int 0, .int 0] E w65 (fun w68 => Q w68 1)))) ∧ ((x65 = 0) → (Q w65 0))))))))))))) ∧ ((x39 = 40) → ((((1 : Int32) = 0) → (Q w39 0)) ∧ ((¬ (1 : Int32) = 0) → (CaI (d + 5) M_Re_take [.ref (qb E + 73), .int 40] E w39 (fun w70 x70 => ((x70 = 0) → (Q w70 0)) ∧ ((¬ x70 = 0) → (CaI (d + 5) M_Re_expression [.ref (qb E + 73), .int (a1 + 1)] E w70 (fun w72 x72 => ((x72 = 0) → (Q w72 0)) ∧ ((¬ x72 = 0) → (CaI (d + 5) M_Re_take [.ref (qb E + 73), .int 41] E w72 (fun w74 x74 => ((x74 = 0) → (Q w74 0)) ∧ ((¬ x74 = 0) → (Q w74 1))))))))))))))))) : c_Re_factor_0 d E Q a1 w := by
  unfold c_Re_factor_0
  refine g_iload_n 1 e_Re_factor_0 rfl rfl ?_
  refine g_iconst (v := 4) e_Re_factor_1 (by decide) ?_
  refine g_icmp_ge 9 e_Re_factor_2 (by decide) ⟨fun z1 => ?_, fun z1 => ?_⟩
  · have h := h.1 z1
    refine g_iconst (v := 0) e_Re_factor_9 (by decide) ?_
    refine g_istore_n (lv := [(2, .int 0), (0, .ref (qb E + 73)), (1, .int a1)]) e_Re_factor_10 rfl (by decide) rfl ?_
    refine g_aload_n 1 e_Re_factor_11 rfl rfl ?_
    refine w_callVI (w := w) (As := []) (rest := []) e_Re_factor_12 ok_Re_sign rfl km_Re_39 kx_Re_sign kv_Re_sign rfl (by decide) hw lay_73 (by decide) rfl (Nat.le_of_ble_eq_true rfl) h (fun w2 x2 hw2 h => ?_)
    refine g_bipush (v := 40) e_Re_factor_15 (by decide) ?_
    refine g_icmp_ne 58 e_Re_factor_17 (by decide) ⟨fun z3 => ?_, fun z3 => ?_⟩
    · have h := h.1 z3
      refine g_aload_n 1 e_Re_factor_58 rfl rfl ?_
      refine w_callVI (w := w2) (As := []) (rest := []) e_Re_factor_59 ok_Re_sign rfl km_Re_39 kx_Re_sign kv_Re_sign rfl (by decide) hw2 lay_73 (by decide) rfl (Nat.le_of_ble_eq_true rfl) h (fun w4 x4 hw4 h => ?_)
      refine g_bipush (v := 33) e_Re_factor_62 (by decide) ?_
      refine g_icmp_ne 105 e_Re_factor_64 (by decide) ⟨fun z5 => ?_, fun z5 => ?_⟩
      · have h := h.1 z5
        refine g_aload_n 1 e_Re_factor_105 rfl rfl ?_
        refine g_ldc72 rfl e_Re_factor_106 ?_
        refine w_callVI (w := w4) (As := [.ref (qc E 13)]) (rest := []) e_Re_factor_108 ok_Re_takeOneOf rfl km_Re_74 kx_Re_takeOneOf kv_Re_takeOneOf rfl (by decide) hw4 lay_73 (by decide) rfl (Nat.le_of_ble_eq_true rfl) h (fun w6 x6 hw6 h => ?_)
        refine g_istore_n (lv := [(3, .int x6), (2, .int 0), (0, .ref (qb E + 73)), (1, .int a1)]) e_Re_factor_111 rfl (by decide) rfl ?_
        refine g_iload_n 0 e_Re_factor_112 rfl rfl ?_
        refine g_if_ge 120 e_Re_factor_113 (by decide) ⟨fun z7 => ?_, fun z7 => ?_⟩
        · have h := h.1 z7
          refine g_aload_n 2 e_Re_factor_120 rfl rfl ?_
          refine g_ldc78 rfl e_Re_factor_121 ?_
          refine w_callVI (w := w6) (As := [.ref (qc E 14)]) (rest := []) e_Re_factor_123 ok_Re_takeOneOf rfl km_Re_74 kx_Re_takeOneOf kv_Re_takeOneOf rfl (by decide) hw6 lay_73 (by decide) rfl (Nat.le_of_ble_eq_true rfl) h (fun w8 x8 hw8 h => ?_)
          refine g_istore (lv := [(4, .int x8), (3, .int x6), (2, .int 0), (0, .ref (qb E + 73)), (1, .int a1)]) e_Re_factor_126 (by decide) rfl ?_
          refine g_iload 0 e_Re_factor_128 rfl ?_
          refine g_if_ge 137 e_Re_factor_130 (by decide) ⟨fun z9 => ?_, fun z9 => ?_⟩
          · have h := h.1 z9
            refine g_aload_n 3 e_Re_factor_137 rfl rfl ?_
            refine w_callVI (w := w8) (As := []) (rest := []) e_Re_factor_138 ok_Re_takeNumber rfl km_Re_54 kx_Re_takeNumber kv_Re_takeNumber rfl (by decide) hw8 lay_73 (by decide) rfl (Nat.le_of_ble_eq_true rfl) h (fun w10 x10 hw10 h => ?_)
            refine g_istore (lv := [(5, .int x10), (4, .int x8), (3, .int x6), (2, .int 0), (0, .ref (qb E + 73)), (1, .int a1)]) e_Re_factor_141 (by decide) rfl ?_
            refine g_iload 0 e_Re_factor_143 rfl ?_
            refine g_if_ge 150 e_Re_factor_145 (by decide) ⟨fun z11 => ?_, fun z11 => ?_⟩
            · have h := h.1 z11
              refine g_aload_n 4 e_Re_factor_150 rfl rfl ?_
              obtain ⟨K12, hK12, hr12, h⟩ := h
              refine gf_Re_15 rfl e_Re_factor_151 hw10 lay_73 (by decide) hr12 ?_
              refine g_iload_n 2 e_Re_factor_154 rfl rfl ?_
              refine g_iload 1 e_Re_factor_155 rfl ?_
              refine g_iload 0 e_Re_factor_157 rfl ?_
              refine w_callVV (w := w10) (As := [.int x6, .int x8, .int x10]) (rest := []) e_Re_factor_159 ok_Ki_addStep rfl km_Re_60 kx_Ki_addStep kv_Ki_addStep rfl (by decide) hw10 (lay_Ki hK12) (lt_Ki hK12) rfl (Nat.le_of_ble_eq_true rfl) h (fun w13 hw13 h => ?_)
              refine g_iconst (v := 1) e_Re_factor_162 (by decide) ?_
              exact g_zret e_Re_factor_163 rfl (Or.inr rfl) ⟨Sh.n hw13, _, rfl, hw13, h⟩
            · have h := h.2 z11
              refine g_iconst (v := 0) e_Re_factor_148 (by decide) ?_
              exact g_zret e_Re_factor_149 rfl (Or.inl rfl) ⟨Sh.n hw10, _, rfl, hw10, h⟩
          · have h := h.2 z9
            refine g_iconst (v := (-1)) e_Re_factor_133 (by decide) ?_
            refine g_goto 141 e_Re_factor_134 (by decide) ?_
            refine g_istore (lv := [(5, .int (-1)), (4, .int x8), (3, .int x6), (2, .int 0), (0, .ref (qb E + 73)), (1, .int a1)]) e_Re_factor_141 (by decide) rfl ?_
            refine g_iload 0 e_Re_factor_143 rfl ?_
            refine g_if_ge 150 e_Re_factor_145 (by decide) ⟨fun z14 => ?_, fun z14 => ?_⟩
            · have h := h.1 z14
              refine g_aload_n 4 e_Re_factor_150 rfl rfl ?_
              obtain ⟨K15, hK15, hr15, h⟩ := h
              refine gf_Re_15 rfl e_Re_factor_151 hw8 lay_73 (by decide) hr15 ?_
              refine g_iload_n 2 e_Re_factor_154 rfl rfl ?_
              refine g_iload 1 e_Re_factor_155 rfl ?_
              refine g_iload 0 e_Re_factor_157 rfl ?_
              refine w_callVV (w := w8) (As := [.int x6, .int x8, .int (-1)]) (rest := []) e_Re_factor_159 ok_Ki_addStep rfl km_Re_60 kx_Ki_addStep kv_Ki_addStep rfl (by decide) hw8 (lay_Ki hK15) (lt_Ki hK15) rfl (Nat.le_of_ble_eq_true rfl) h (fun w16 hw16 h => ?_)
              refine g_iconst (v := 1) e_Re_factor_162 (by decide) ?_
              exact g_zret e_Re_factor_163 rfl (Or.inr rfl) ⟨Sh.n hw16, _, rfl, hw16, h⟩
            · have h := h.2 z14
              refine g_iconst (v := 0) e_Re_factor_148 (by decide) ?_
              exact g_zret e_Re_factor_149 rfl (Or.inl rfl) ⟨Sh.n hw8, _, rfl, hw8, h⟩
        · have h := h.2 z7
          refine g_iconst (v := (-1)) e_Re_factor_116 (by decide) ?_
          refine g_goto 126 e_Re_factor_117 (by decide) ?_
          refine g_istore (lv := [(4, .int (-1)), (3, .int x6), (2, .int 0), (0, .ref (qb E + 73)), (1, .int a1)]) e_Re_factor_126 (by decide) rfl ?_
          refine g_iload 0 e_Re_factor_128 rfl ?_
          refine g_if_ge 137 e_Re_factor_130 (by decide) ⟨fun z17 => ?_, fun z17 => ?_⟩
          · have h := h.1 z17
            refine g_aload_n 3 e_Re_factor_137 rfl rfl ?_
            refine w_callVI (w := w6) (As := []) (rest := []) e_Re_factor_138 ok_Re_takeNumber rfl km_Re_54 kx_Re_takeNumber kv_Re_takeNumber rfl (by decide) hw6 lay_73 (by decide) rfl (Nat.le_of_ble_eq_true rfl) h (fun w18 x18 hw18 h => ?_)
            refine g_istore (lv := [(5, .int x18), (4, .int (-1)), (3, .int x6), (2, .int 0), (0, .ref (qb E + 73)), (1, .int a1)]) e_Re_factor_141 (by decide) rfl ?_
            refine g_iload 0 e_Re_factor_143 rfl ?_
            refine g_if_ge 150 e_Re_factor_145 (by decide) ⟨fun z19 => ?_, fun z19 => ?_⟩
            · have h := h.1 z19
              refine g_aload_n 4 e_Re_factor_150 rfl rfl ?_
              obtain ⟨K20, hK20, hr20, h⟩ := h
              refine gf_Re_15 rfl e_Re_factor_151 hw18 lay_73 (by decide) hr20 ?_
              refine g_iload_n 2 e_Re_factor_154 rfl rfl ?_
              refine g_iload 1 e_Re_factor_155 rfl ?_
              refine g_iload 0 e_Re_factor_157 rfl ?_
              refine w_callVV (w := w18) (As := [.int x6, .int (-1), .int x18]) (rest := []) e_Re_factor_159 ok_Ki_addStep rfl km_Re_60 kx_Ki_addStep kv_Ki_addStep rfl (by decide) hw18 (lay_Ki hK20) (lt_Ki hK20) rfl (Nat.le_of_ble_eq_true rfl) h (fun w21 hw21 h => ?_)
              refine g_iconst (v := 1) e_Re_factor_162 (by decide) ?_
              exact g_zret e_Re_factor_163 rfl (Or.inr rfl) ⟨Sh.n hw21, _, rfl, hw21, h⟩
            · have h := h.2 z19
              refine g_iconst (v := 0) e_Re_factor_148 (by decide) ?_
              exact g_zret e_Re_factor_149 rfl (Or.inl rfl) ⟨Sh.n hw18, _, rfl, hw18, h⟩
          · have h := h.2 z17
            refine g_iconst (v := (-1)) e_Re_factor_133 (by decide) ?_
            refine g_goto 141 e_Re_factor_134 (by decide) ?_
            refine g_istore (lv := [(5, .int (-1)), (4, .int (-1)), (3, .int x6), (2, .int 0), (0, .ref (qb E + 73)), (1, .int a1)]) e_Re_factor_141 (by decide) rfl ?_
            refine g_iload 0 e_Re_factor_143 rfl ?_
            refine g_if_ge 150 e_Re_factor_145 (by decide) ⟨fun z22 => ?_, fun z22 => ?_⟩
            · have h := h.1 z22
              refine g_aload_n 4 e_Re_factor_150 rfl rfl ?_
              obtain ⟨K23, hK23, hr23, h⟩ := h
              refine gf_Re_15 rfl e_Re_factor_151 hw6 lay_73 (by decide) hr23 ?_
              refine g_iload_n 2 e_Re_factor_154 rfl rfl ?_
              refine g_iload 1 e_Re_factor_155 rfl ?_
              refine g_iload 0 e_Re_factor_157 rfl ?_
              refine w_callVV (w := w6) (As := [.int x6, .int (-1), .int (-1)]) (rest := []) e_Re_factor_159 ok_Ki_addStep rfl km_Re_60 kx_Ki_addStep kv_Ki_addStep rfl (by decide) hw6 (lay_Ki hK23) (lt_Ki hK23) rfl (Nat.le_of_ble_eq_true rfl) h (fun w24 hw24 h => ?_)
              refine g_iconst (v := 1) e_Re_factor_162 (by decide) ?_
              exact g_zret e_Re_factor_163 rfl (Or.inr rfl) ⟨Sh.n hw24, _, rfl, hw24, h⟩
            · have h := h.2 z22
              refine g_iconst (v := 0) e_Re_factor_148 (by decide) ?_
              exact g_zret e_Re_factor_149 rfl (Or.inl rfl) ⟨Sh.n hw6, _, rfl, hw6, h⟩
      · have h := h.2 z5
        refine g_iload_n 0 e_Re_factor_67 rfl rfl ?_
        refine g_if_eq 90 e_Re_factor_68 (by decide) ⟨fun z25 => ?_, fun z25 => ?_⟩
        · have h := h.1 z25
          refine g_iconst (v := 0) e_Re_factor_90 (by decide) ?_
          exact g_zret e_Re_factor_91 rfl (Or.inl rfl) ⟨Sh.n hw4, _, rfl, hw4, h⟩
        · have h := h.2 z25
          refine g_aload_n 1 e_Re_factor_71 rfl rfl ?_
          refine g_bipush (v := 33) e_Re_factor_72 (by decide) ?_
          refine w_callVI (w := w4) (As := [.int 33]) (rest := []) e_Re_factor_74 ok_Re_take rfl km_Re_35 kx_Re_take kv_Re_take rfl (by decide) hw4 lay_73 (by decide) rfl (Nat.le_of_ble_eq_true rfl) h (fun w26 x26 hw26 h => ?_)
          refine g_if_eq 90 e_Re_factor_77 (by decide) ⟨fun z27 => ?_, fun z27 => ?_⟩
          · have h := h.1 z27
            refine g_iconst (v := 0) e_Re_factor_90 (by decide) ?_
            exact g_zret e_Re_factor_91 rfl (Or.inl rfl) ⟨Sh.n hw26, _, rfl, hw26, h⟩
          · have h := h.2 z27
            refine g_aload_n 1 e_Re_factor_80 rfl rfl ?_
            refine g_iload_n 2 e_Re_factor_81 rfl rfl ?_
            refine g_iconst (v := 1) e_Re_factor_82 (by decide) ?_
            refine g_iadd e_Re_factor_83 ?_
            refine w_callVI (w := w26) (As := [.int (a1 + 1)]) (rest := []) e_Re_factor_84 ok_Re_factor rfl km_Re_69 kx_Re_factor kv_Re_factor rfl (by decide) hw26 lay_73 (by decide) rfl (Nat.le_of_ble_eq_true rfl) h (fun w28 x28 hw28 h => ?_)
            refine g_if_ne 92 e_Re_factor_87 (by decide) ⟨fun z29 => ?_, fun z29 => ?_⟩
            · have h := h.1 z29
              refine g_aload_n 1 e_Re_factor_92 rfl rfl ?_
              obtain ⟨K30, hK30, hr30, h⟩ := h
              refine gf_Re_15 rfl e_Re_factor_93 hw28 lay_73 (by decide) hr30 ?_
              refine g_bipush (v := 8) e_Re_factor_96 (by decide) ?_
              refine g_iconst (v := 0) e_Re_factor_98 (by decide) ?_
              refine g_iconst (v := 0) e_Re_factor_99 (by decide) ?_
              refine w_callVV (w := w28) (As := [.int 8, .int 0, .int 0]) (rest := []) e_Re_factor_100 ok_Ki_addStep rfl km_Re_60 kx_Ki_addStep kv_Ki_addStep rfl (by decide) hw28 (lay_Ki hK30) (lt_Ki hK30) rfl (Nat.le_of_ble_eq_true rfl) h (fun w31 hw31 h => ?_)
              refine g_iconst (v := 1) e_Re_factor_103 (by decide) ?_
              exact g_zret e_Re_factor_104 rfl (Or.inr rfl) ⟨Sh.n hw31, _, rfl, hw31, h⟩
            · have h := h.2 z29
              refine g_iconst (v := 0) e_Re_factor_90 (by decide) ?_
              exact g_zret e_Re_factor_91 rfl (Or.inl rfl) ⟨Sh.n hw28, _, rfl, hw28, h⟩
    · have h := h.2 z3
      refine g_iload_n 0 e_Re_factor_20 rfl rfl ?_
      refine g_if_eq 56 e_Re_factor_21 (by decide) ⟨fun z32 => ?_, fun z32 => ?_⟩
      · have h := h.1 z32
        refine g_iconst (v := 0) e_Re_factor_56 (by decide) ?_
        exact g_zret e_Re_factor_57 rfl (Or.inl rfl) ⟨Sh.n hw2, _, rfl, hw2, h⟩
      · have h := h.2 z32
        refine g_aload_n 1 e_Re_factor_24 rfl rfl ?_
        refine g_bipush (v := 40) e_Re_factor_25 (by decide) ?_
        refine w_callVI (w := w2) (As := [.int 40]) (rest := []) e_Re_factor_27 ok_Re_take rfl km_Re_35 kx_Re_take kv_Re_take rfl (by decide) hw2 lay_73 (by decide) rfl (Nat.le_of_ble_eq_true rfl) h (fun w33 x33 hw33 h => ?_)
        refine g_if_eq 56 e_Re_factor_30 (by decide) ⟨fun z34 => ?_, fun z34 => ?_⟩
        · have h := h.1 z34
          refine g_iconst (v := 0) e_Re_factor_56 (by decide) ?_
          exact g_zret e_Re_factor_57 rfl (Or.inl rfl) ⟨Sh.n hw33, _, rfl, hw33, h⟩
        · have h := h.2 z34
          refine g_aload_n 1 e_Re_factor_33 rfl rfl ?_
          refine g_iload_n 2 e_Re_factor_34 rfl rfl ?_
          refine g_iconst (v := 1) e_Re_factor_35 (by decide) ?_
          refine g_iadd e_Re_factor_36 ?_
          refine w_callVI (w := w33) (As := [.int (a1 + 1)]) (rest := []) e_Re_factor_37 ok_Re_expression rfl km_Re_57 kx_Re_expression kv_Re_expression rfl (by decide) hw33 lay_73 (by decide) rfl (Nat.le_of_ble_eq_true rfl) h (fun w35 x35 hw35 h => ?_)
          refine g_if_eq 56 e_Re_factor_40 (by decide) ⟨fun z36 => ?_, fun z36 => ?_⟩
          · have h := h.1 z36
            refine g_iconst (v := 0) e_Re_factor_56 (by decide) ?_
            exact g_zret e_Re_factor_57 rfl (Or.inl rfl) ⟨Sh.n hw35, _, rfl, hw35, h⟩
          · have h := h.2 z36
            refine g_aload_n 1 e_Re_factor_43 rfl rfl ?_
            refine g_bipush (v := 41) e_Re_factor_44 (by decide) ?_
            refine w_callVI (w := w35) (As := [.int 41]) (rest := []) e_Re_factor_46 ok_Re_take rfl km_Re_35 kx_Re_take kv_Re_take rfl (by decide) hw35 lay_73 (by decide) rfl (Nat.le_of_ble_eq_true rfl) h (fun w37 x37 hw37 h => ?_)
            refine g_if_eq 56 e_Re_factor_49 (by decide) ⟨fun z38 => ?_, fun z38 => ?_⟩
            · have h := h.1 z38
              refine g_iconst (v := 0) e_Re_factor_56 (by decide) ?_
              exact g_zret e_Re_factor_57 rfl (Or.inl rfl) ⟨Sh.n hw37, _, rfl, hw37, h⟩
            · have h := h.2 z38
              refine g_iconst (v := 1) e_Re_factor_52 (by decide) ?_
              refine g_goto 57 e_Re_factor_53 (by decide) ?_
              exact g_zret e_Re_factor_57 rfl (Or.inr rfl) ⟨Sh.n hw37, _, rfl, hw37, h⟩
  · have h := h.2 z1
    refine g_iconst (v := 1) e_Re_factor_5 (by decide) ?_
    refine g_goto 10 e_Re_factor_6 (by decide) ?_
    refine g_istore_n (lv := [(2, .int 1), (0, .ref (qb E + 73)), (1, .int a1)]) e_Re_factor_10 rfl (by decide) rfl ?_
    refine g_aload_n 1 e_Re_factor_11 rfl rfl ?_
    refine w_callVI (w := w) (As := []) (rest := []) e_Re_factor_12 ok_Re_sign rfl km_Re_39 kx_Re_sign kv_Re_sign rfl (by decide) hw lay_73 (by decide) rfl (Nat.le_of_ble_eq_true rfl) h (fun w39 x39 hw39 h => ?_)
    refine g_bipush (v := 40) e_Re_factor_15 (by decide) ?_
    refine g_icmp_ne 58 e_Re_factor_17 (by decide) ⟨fun z40 => ?_, fun z40 => ?_⟩
    · have h := h.1 z40
      refine g_aload_n 1 e_Re_factor_58 rfl rfl ?_
      refine w_callVI (w := w39) (As := []) (rest := []) e_Re_factor_59 ok_Re_sign rfl km_Re_39 kx_Re_sign kv_Re_sign rfl (by decide) hw39 lay_73 (by decide) rfl (Nat.le_of_ble_eq_true rfl) h (fun w41 x41 hw41 h => ?_)
      refine g_bipush (v := 33) e_Re_factor_62 (by decide) ?_
      refine g_icmp_ne 105 e_Re_factor_64 (by decide) ⟨fun z42 => ?_, fun z42 => ?_⟩
      · have h := h.1 z42
        refine g_aload_n 1 e_Re_factor_105 rfl rfl ?_
        refine g_ldc72 rfl e_Re_factor_106 ?_
        refine w_callVI (w := w41) (As := [.ref (qc E 13)]) (rest := []) e_Re_factor_108 ok_Re_takeOneOf rfl km_Re_74 kx_Re_takeOneOf kv_Re_takeOneOf rfl (by decide) hw41 lay_73 (by decide) rfl (Nat.le_of_ble_eq_true rfl) h (fun w43 x43 hw43 h => ?_)
        refine g_istore_n (lv := [(3, .int x43), (2, .int 1), (0, .ref (qb E + 73)), (1, .int a1)]) e_Re_factor_111 rfl (by decide) rfl ?_
        refine g_iload_n 0 e_Re_factor_112 rfl rfl ?_
        refine g_if_ge 120 e_Re_factor_113 (by decide) ⟨fun z44 => ?_, fun z44 => ?_⟩
        · have h := h.1 z44
          refine g_aload_n 2 e_Re_factor_120 rfl rfl ?_
          refine g_ldc78 rfl e_Re_factor_121 ?_
          refine w_callVI (w := w43) (As := [.ref (qc E 14)]) (rest := []) e_Re_factor_123 ok_Re_takeOneOf rfl km_Re_74 kx_Re_takeOneOf kv_Re_takeOneOf rfl (by decide) hw43 lay_73 (by decide) rfl (Nat.le_of_ble_eq_true rfl) h (fun w45 x45 hw45 h => ?_)
          refine g_istore (lv := [(4, .int x45), (3, .int x43), (2, .int 1), (0, .ref (qb E + 73)), (1, .int a1)]) e_Re_factor_126 (by decide) rfl ?_
          refine g_iload 0 e_Re_factor_128 rfl ?_
          refine g_if_ge 137 e_Re_factor_130 (by decide) ⟨fun z46 => ?_, fun z46 => ?_⟩
          · have h := h.1 z46
            refine g_aload_n 3 e_Re_factor_137 rfl rfl ?_
            refine w_callVI (w := w45) (As := []) (rest := []) e_Re_factor_138 ok_Re_takeNumber rfl km_Re_54 kx_Re_takeNumber kv_Re_takeNumber rfl (by decide) hw45 lay_73 (by decide) rfl (Nat.le_of_ble_eq_true rfl) h (fun w47 x47 hw47 h => ?_)
            refine g_istore (lv := [(5, .int x47), (4, .int x45), (3, .int x43), (2, .int 1), (0, .ref (qb E + 73)), (1, .int a1)]) e_Re_factor_141 (by decide) rfl ?_
            refine g_iload 0 e_Re_factor_143 rfl ?_
            refine g_if_ge 150 e_Re_factor_145 (by decide) ⟨fun z48 => ?_, fun z48 => ?_⟩
            · have h := h.1 z48
              refine g_aload_n 4 e_Re_factor_150 rfl rfl ?_
              obtain ⟨K49, hK49, hr49, h⟩ := h
              refine gf_Re_15 rfl e_Re_factor_151 hw47 lay_73 (by decide) hr49 ?_
              refine g_iload_n 2 e_Re_factor_154 rfl rfl ?_
              refine g_iload 1 e_Re_factor_155 rfl ?_
              refine g_iload 0 e_Re_factor_157 rfl ?_
              refine w_callVV (w := w47) (As := [.int x43, .int x45, .int x47]) (rest := []) e_Re_factor_159 ok_Ki_addStep rfl km_Re_60 kx_Ki_addStep kv_Ki_addStep rfl (by decide) hw47 (lay_Ki hK49) (lt_Ki hK49) rfl (Nat.le_of_ble_eq_true rfl) h (fun w50 hw50 h => ?_)
              refine g_iconst (v := 1) e_Re_factor_162 (by decide) ?_
              exact g_zret e_Re_factor_163 rfl (Or.inr rfl) ⟨Sh.n hw50, _, rfl, hw50, h⟩
            · have h := h.2 z48
              refine g_iconst (v := 0) e_Re_factor_148 (by decide) ?_
              exact g_zret e_Re_factor_149 rfl (Or.inl rfl) ⟨Sh.n hw47, _, rfl, hw47, h⟩
          · have h := h.2 z46
            refine g_iconst (v := (-1)) e_Re_factor_133 (by decide) ?_
            refine g_goto 141 e_Re_factor_134 (by decide) ?_
            refine g_istore (lv := [(5, .int (-1)), (4, .int x45), (3, .int x43), (2, .int 1), (0, .ref (qb E + 73)), (1, .int a1)]) e_Re_factor_141 (by decide) rfl ?_
            refine g_iload 0 e_Re_factor_143 rfl ?_
            refine g_if_ge 150 e_Re_factor_145 (by decide) ⟨fun z51 => ?_, fun z51 => ?_⟩
            · have h := h.1 z51
              refine g_aload_n 4 e_Re_factor_150 rfl rfl ?_
              obtain ⟨K52, hK52, hr52, h⟩ := h
              refine gf_Re_15 rfl e_Re_factor_151 hw45 lay_73 (by decide) hr52 ?_
              refine g_iload_n 2 e_Re_factor_154 rfl rfl ?_
              refine g_iload 1 e_Re_factor_155 rfl ?_
              refine g_iload 0 e_Re_factor_157 rfl ?_
              refine w_callVV (w := w45) (As := [.int x43, .int x45, .int (-1)]) (rest := []) e_Re_factor_159 ok_Ki_addStep rfl km_Re_60 kx_Ki_addStep kv_Ki_addStep rfl (by decide) hw45 (lay_Ki hK52) (lt_Ki hK52) rfl (Nat.le_of_ble_eq_true rfl) h (fun w53 hw53 h => ?_)
              refine g_iconst (v := 1) e_Re_factor_162 (by decide) ?_
              exact g_zret e_Re_factor_163 rfl (Or.inr rfl) ⟨Sh.n hw53, _, rfl, hw53, h⟩
            · have h := h.2 z51
              refine g_iconst (v := 0) e_Re_factor_148 (by decide) ?_
              exact g_zret e_Re_factor_149 rfl (Or.inl rfl) ⟨Sh.n hw45, _, rfl, hw45, h⟩
        · have h := h.2 z44
          refine g_iconst (v := (-1)) e_Re_factor_116 (by decide) ?_
          refine g_goto 126 e_Re_factor_117 (by decide) ?_
          refine g_istore (lv := [(4, .int (-1)), (3, .int x43), (2, .int 1), (0, .ref (qb E + 73)), (1, .int a1)]) e_Re_factor_126 (by decide) rfl ?_
          refine g_iload 0 e_Re_factor_128 rfl ?_
          refine g_if_ge 137 e_Re_factor_130 (by decide) ⟨fun z54 => ?_, fun z54 => ?_⟩
          · have h := h.1 z54
            refine g_aload_n 3 e_Re_factor_137 rfl rfl ?_
            refine w_callVI (w := w43) (As := []) (rest := []) e_Re_factor_138 ok_Re_takeNumber rfl km_Re_54 kx_Re_takeNumber kv_Re_takeNumber rfl (by decide) hw43 lay_73 (by decide) rfl (Nat.le_of_ble_eq_true rfl) h (fun w55 x55 hw55 h => ?_)
            refine g_istore (lv := [(5, .int x55), (4, .int (-1)), (3, .int x43), (2, .int 1), (0, .ref (qb E + 73)), (1, .int a1)]) e_Re_factor_141 (by decide) rfl ?_
            refine g_iload 0 e_Re_factor_143 rfl ?_
            refine g_if_ge 150 e_Re_factor_145 (by decide) ⟨fun z56 => ?_, fun z56 => ?_⟩
            · have h := h.1 z56
              refine g_aload_n 4 e_Re_factor_150 rfl rfl ?_
              obtain ⟨K57, hK57, hr57, h⟩ := h
              refine gf_Re_15 rfl e_Re_factor_151 hw55 lay_73 (by decide) hr57 ?_
              refine g_iload_n 2 e_Re_factor_154 rfl rfl ?_
              refine g_iload 1 e_Re_factor_155 rfl ?_
              refine g_iload 0 e_Re_factor_157 rfl ?_
              refine w_callVV (w := w55) (As := [.int x43, .int (-1), .int x55]) (rest := []) e_Re_factor_159 ok_Ki_addStep rfl km_Re_60 kx_Ki_addStep kv_Ki_addStep rfl (by decide) hw55 (lay_Ki hK57) (lt_Ki hK57) rfl (Nat.le_of_ble_eq_true rfl) h (fun w58 hw58 h => ?_)
              refine g_iconst (v := 1) e_Re_factor_162 (by decide) ?_
              exact g_zret e_Re_factor_163 rfl (Or.inr rfl) ⟨Sh.n hw58, _, rfl, hw58, h⟩
            · have h := h.2 z56
              refine g_iconst (v := 0) e_Re_factor_148 (by decide) ?_
              exact g_zret e_Re_factor_149 rfl (Or.inl rfl) ⟨Sh.n hw55, _, rfl, hw55, h⟩
          · have h := h.2 z54
            refine g_iconst (v := (-1)) e_Re_factor_133 (by decide) ?_
            refine g_goto 141 e_Re_factor_134 (by decide) ?_
            refine g_istore (lv := [(5, .int (-1)), (4, .int (-1)), (3, .int x43), (2, .int 1), (0, .ref (qb E + 73)), (1, .int a1)]) e_Re_factor_141 (by decide) rfl ?_
            refine g_iload 0 e_Re_factor_143 rfl ?_
            refine g_if_ge 150 e_Re_factor_145 (by decide) ⟨fun z59 => ?_, fun z59 => ?_⟩
            · have h := h.1 z59
              refine g_aload_n 4 e_Re_factor_150 rfl rfl ?_
              obtain ⟨K60, hK60, hr60, h⟩ := h
              refine gf_Re_15 rfl e_Re_factor_151 hw43 lay_73 (by decide) hr60 ?_
              refine g_iload_n 2 e_Re_factor_154 rfl rfl ?_
              refine g_iload 1 e_Re_factor_155 rfl ?_
              refine g_iload 0 e_Re_factor_157 rfl ?_
              refine w_callVV (w := w43) (As := [.int x43, .int (-1), .int (-1)]) (rest := []) e_Re_factor_159 ok_Ki_addStep rfl km_Re_60 kx_Ki_addStep kv_Ki_addStep rfl (by decide) hw43 (lay_Ki hK60) (lt_Ki hK60) rfl (Nat.le_of_ble_eq_true rfl) h (fun w61 hw61 h => ?_)
              refine g_iconst (v := 1) e_Re_factor_162 (by decide) ?_
              exact g_zret e_Re_factor_163 rfl (Or.inr rfl) ⟨Sh.n hw61, _, rfl, hw61, h⟩
            · have h := h.2 z59
              refine g_iconst (v := 0) e_Re_factor_148 (by decide) ?_
              exact g_zret e_Re_factor_149 rfl (Or.inl rfl) ⟨Sh.n hw43, _, rfl, hw43, h⟩
      · have h := h.2 z42
        refine g_iload_n 0 e_Re_factor_67 rfl rfl ?_
        refine g_if_eq 90 e_Re_factor_68 (by decide) ⟨fun z62 => ?_, fun z62 => ?_⟩
        · have h := h.1 z62
          refine g_iconst (v := 0) e_Re_factor_90 (by decide) ?_
          exact g_zret e_Re_factor_91 rfl (Or.inl rfl) ⟨Sh.n hw41, _, rfl, hw41, h⟩
        · have h := h.2 z62
          refine g_aload_n 1 e_Re_factor_71 rfl rfl ?_
          refine g_bipush (v := 33) e_Re_factor_72 (by decide) ?_
          refine w_callVI (w := w41) (As := [.int 33]) (rest := []) e_Re_factor_74 ok_Re_take rfl km_Re_35 kx_Re_take kv_Re_take rfl (by decide) hw41 lay_73 (by decide) rfl (Nat.le_of_ble_eq_true rfl) h (fun w63 x63 hw63 h => ?_)
          refine g_if_eq 90 e_Re_factor_77 (by decide) ⟨fun z64 => ?_, fun z64 => ?_⟩
          · have h := h.1 z64
            refine g_iconst (v := 0) e_Re_factor_90 (by decide) ?_
            exact g_zret e_Re_factor_91 rfl (Or.inl rfl) ⟨Sh.n hw63, _, rfl, hw63, h⟩
          · have h := h.2 z64
            refine g_aload_n 1 e_Re_factor_80 rfl rfl ?_
            refine g_iload_n 2 e_Re_factor_81 rfl rfl ?_
            refine g_iconst (v := 1) e_Re_factor_82 (by decide) ?_
            refine g_iadd e_Re_factor_83 ?_
            refine w_callVI (w := w63) (As := [.int (a1 + 1)]) (rest := []) e_Re_factor_84 ok_Re_factor rfl km_Re_69 kx_Re_factor kv_Re_factor rfl (by decide) hw63 lay_73 (by decide) rfl (Nat.le_of_ble_eq_true rfl) h (fun w65 x65 hw65 h => ?_)
            refine g_if_ne 92 e_Re_factor_87 (by decide) ⟨fun z66 => ?_, fun z66 => ?_⟩
            · have h := h.1 z66
              refine g_aload_n 1 e_Re_factor_92 rfl rfl ?_
              obtain ⟨K67, hK67, hr67, h⟩ := h
              refine gf_Re_15 rfl e_Re_factor_93 hw65 lay_73 (by decide) hr67 ?_
              refine g_bipush (v := 8) e_Re_factor_96 (by decide) ?_
              refine g_iconst (v := 0) e_Re_factor_98 (by decide) ?_
              refine g_iconst (v := 0) e_Re_factor_99 (by decide) ?_
              refine w_callVV (w := w65) (As := [.int 8, .int 0, .int 0]) (rest := []) e_Re_factor_100 ok_Ki_addStep rfl km_Re_60 kx_Ki_addStep kv_Ki_addStep rfl (by decide) hw65 (lay_Ki hK67) (lt_Ki hK67) rfl (Nat.le_of_ble_eq_true rfl) h (fun w68 hw68 h => ?_)
              refine g_iconst (v := 1) e_Re_factor_103 (by decide) ?_
              exact g_zret e_Re_factor_104 rfl (Or.inr rfl) ⟨Sh.n hw68, _, rfl, hw68, h⟩
            · have h := h.2 z66
              refine g_iconst (v := 0) e_Re_factor_90 (by decide) ?_
              exact g_zret e_Re_factor_91 rfl (Or.inl rfl) ⟨Sh.n hw65, _, rfl, hw65, h⟩
    · have h := h.2 z40
      refine g_iload_n 0 e_Re_factor_20 rfl rfl ?_
      refine g_if_eq 56 e_Re_factor_21 (by decide) ⟨fun z69 => ?_, fun z69 => ?_⟩
      · have h := h.1 z69
        refine g_iconst (v := 0) e_Re_factor_56 (by decide) ?_
        exact g_zret e_Re_factor_57 rfl (Or.inl rfl) ⟨Sh.n hw39, _, rfl, hw39, h⟩
      · have h := h.2 z69
        refine g_aload_n 1 e_Re_factor_24 rfl rfl ?_
        refine g_bipush (v := 40) e_Re_factor_25 (by decide) ?_
        refine w_callVI (w := w39) (As := [.int 40]) (rest := []) e_Re_factor_27 ok_Re_take rfl km_Re_35 kx_Re_take kv_Re_take rfl (by decide) hw39 lay_73 (by decide) rfl (Nat.le_of_ble_eq_true rfl) h (fun w70 x70 hw70 h => ?_)
        refine g_if_eq 56 e_Re_factor_30 (by decide) ⟨fun z71 => ?_, fun z71 => ?_⟩
        · have h := h.1 z71
          refine g_iconst (v := 0) e_Re_factor_56 (by decide) ?_
          exact g_zret e_Re_factor_57 rfl (Or.inl rfl) ⟨Sh.n hw70, _, rfl, hw70, h⟩
        · have h := h.2 z71
          refine g_aload_n 1 e_Re_factor_33 rfl rfl ?_
          refine g_iload_n 2 e_Re_factor_34 rfl rfl ?_
          refine g_iconst (v := 1) e_Re_factor_35 (by decide) ?_
          refine g_iadd e_Re_factor_36 ?_
          refine w_callVI (w := w70) (As := [.int (a1 + 1)]) (rest := []) e_Re_factor_37 ok_Re_expression rfl km_Re_57 kx_Re_expression kv_Re_expression rfl (by decide) hw70 lay_73 (by decide) rfl (Nat.le_of_ble_eq_true rfl) h (fun w72 x72 hw72 h => ?_)
          refine g_if_eq 56 e_Re_factor_40 (by decide) ⟨fun z73 => ?_, fun z73 => ?_⟩
          · have h := h.1 z73
            refine g_iconst (v := 0) e_Re_factor_56 (by decide) ?_
            exact g_zret e_Re_factor_57 rfl (Or.inl rfl) ⟨Sh.n hw72, _, rfl, hw72, h⟩
          · have h := h.2 z73
            refine g_aload_n 1 e_Re_factor_43 rfl rfl ?_
            refine g_bipush (v := 41) e_Re_factor_44 (by decide) ?_
            refine w_callVI (w := w72) (As := [.int 41]) (rest := []) e_Re_factor_46 ok_Re_take rfl km_Re_35 kx_Re_take kv_Re_take rfl (by decide) hw72 lay_73 (by decide) rfl (Nat.le_of_ble_eq_true rfl) h (fun w74 x74 hw74 h => ?_)
            refine g_if_eq 56 e_Re_factor_49 (by decide) ⟨fun z75 => ?_, fun z75 => ?_⟩
            · have h := h.1 z75
              refine g_iconst (v := 0) e_Re_factor_56 (by decide) ?_
              exact g_zret e_Re_factor_57 rfl (Or.inl rfl) ⟨Sh.n hw74, _, rfl, hw74, h⟩
            · have h := h.2 z75
              refine g_iconst (v := 1) e_Re_factor_52 (by decide) ?_
              refine g_goto 57 e_Re_factor_53 (by decide) ?_
              exact g_zret e_Re_factor_57 rfl (Or.inr rfl) ⟨Sh.n hw74, _, rfl, hw74, h⟩
theorem en_Re_factor {d : Nat} {E : qE} {Q : qW → Int32 → Prop} {a1 : Int32} {w : qW} (hw : Sh w) (h : c_Re_factor_0 d E Q a1 w) : CaI (d + 6) M_Re_factor [.ref (qb E + 73), .int a1] E w Q := Ca.into hw rfl (Nat.le_of_ble_eq_true rfl) h
def c_Re_sign_0 (d : Nat) (E : qE) (Q : qW → Int32 → Prop) (w : qW) : Prop := Go d M_Re_sign E 161 161 (qFI Q) 0 [(0, .ref (qb E + 73))] [] w
set_option maxHeartbeats 4000000 in
set_option maxRecDepth 8000 in
theorem s_Re_sign_0 {d : Nat} {E : qE} {Q : qW → Int32 → Prop} {w : qW} (hw : Sh w) (h : (((qi w 73 2) < 0) → (Q w (-1))) ∧ ((¬ (qi w 73 2) < 0) → ((((qi w 73 1) ≤ (qi w 73 2)) → (Q w (-1))) ∧ ((¬ (qi w 73 1) ≤ (qi w 73 2)) → (((100 ≤ (qi w 73 2)) → (Q w (-1))) ∧ ((¬ 100 ≤ (qi w 73 2)) → (vp_in (qi w 73 2) 100 ∧ (Q w (qi w 74 ((qi w 73 2).toNatClampNeg)))))))))) : c_Re_sign_0 d E Q  w := by
  unfold c_Re_sign_0
  refine g_aload_n 0 e_Re_sign_0 rfl rfl ?_
  refine gf_Re_28 rfl e_Re_sign_1 hw lay_73 (by decide) ?_
  refine g_if_lt 39 e_Re_sign_4 (by decide) ⟨fun z1 => ?_, fun z1 => ?_⟩
  · have h := h.1 z1
    refine g_iconst (v := (-1)) e_Re_sign_39 (by decide) ?_
    exact g_iret e_Re_sign_40 rfl ⟨Sh.n hw, _, rfl, hw, h⟩
  · have h := h.2 z1
    refine g_aload_n 0 e_Re_sign_7 rfl rfl ?_
    refine gf_Re_28 rfl e_Re_sign_8 hw lay_73 (by decide) ?_
    refine g_aload_n 0 e_Re_sign_11 rfl rfl ?_
    refine gf_Re_19 rfl e_Re_sign_12 hw lay_73 (by decide) ?_
    refine g_icmp_ge 39 e_Re_sign_15 (by decide) ⟨fun z2 => ?_, fun z2 => ?_⟩
    · have h := h.1 z2
      refine g_iconst (v := (-1)) e_Re_sign_39 (by decide) ?_
      exact g_iret e_Re_sign_40 rfl ⟨Sh.n hw, _, rfl, hw, h⟩
    · have h := h.2 z2
      refine g_aload_n 0 e_Re_sign_18 rfl rfl ?_
      refine gf_Re_28 rfl e_Re_sign_19 hw lay_73 (by decide) ?_
      refine g_bipush (v := 100) e_Re_sign_22 (by decide) ?_
      refine g_icmp_ge 39 e_Re_sign_24 (by decide) ⟨fun z3 => ?_, fun z3 => ?_⟩
      · have h := h.1 z3
        refine g_iconst (v := (-1)) e_Re_sign_39 (by decide) ?_
        exact g_iret e_Re_sign_40 rfl ⟨Sh.n hw, _, rfl, hw, h⟩
      · have h := h.2 z3
        refine g_aload_n 0 e_Re_sign_27 rfl rfl ?_
        refine gf_Re_9 rfl e_Re_sign_28 hw lay_73 (by decide) (sh_Re_signs hw) ?_
        refine g_aload_n 0 e_Re_sign_31 rfl rfl ?_
        refine gf_Re_28 rfl e_Re_sign_32 hw lay_73 (by decide) ?_
        obtain ⟨o4, h⟩ := h
        refine w_iaload ((qi w 73 2).toNatClampNeg) e_Re_sign_35 hw lay_74 (by decide) o4 rfl ?_
        refine g_goto 40 e_Re_sign_36 (by decide) ?_
        exact g_iret e_Re_sign_40 rfl ⟨Sh.n hw, _, rfl, hw, h⟩
theorem en_Re_sign {d : Nat} {E : qE} {Q : qW → Int32 → Prop} {w : qW} (hw : Sh w) (h : c_Re_sign_0 d E Q  w) : CaI d M_Re_sign [.ref (qb E + 73)] E w Q := Ca.into hw rfl (Nat.le_of_ble_eq_true rfl) h
def c_Re_take_0 (d : Nat) (E : qE) (Q : qW → Int32 → Prop) (a1 : Int32) (w : qW) : Prop := Go (d + 1) M_Re_take E 161 161 (qFI Q) 0 [(0, .ref (qb E + 73)), (1, .int a1)] [] w
set_option maxHeartbeats 4000000 in
set_option maxRecDepth 8000 in
theorem s_Re_take_0 {d : Nat} {E : qE} {Q : qW → Int32 → Prop} {a1 : Int32} {w : qW} (hw : Sh w) (h : CaI d M_Re_sign [.ref (qb E + 73)] E w (fun w1 x1 => ((x1 = a1) → (Q (qpi w1 73 2 ((qi w1 73 2) + 1)) 1)) ∧ ((¬ x1 = a1) → (Q w1 0)))) : c_Re_take_0 d E Q a1 w := by
  unfold c_Re_take_0
  refine g_aload_n 0 e_Re_take_0 rfl rfl ?_
  refine w_callVI (w := w) (As := []) (rest := []) e_Re_take_1 ok_Re_sign rfl km_Re_39 kx_Re_sign kv_Re_sign rfl (by decide) hw lay_73 (by decide) rfl (Nat.le_of_ble_eq_true rfl) h (fun w1 x1 hw1 h => ?_)
  refine g_iload_n 1 e_Re_take_4 rfl rfl ?_
  refine g_icmp_eq 10 e_Re_take_5 (by decide) ⟨fun z2 => ?_, fun z2 => ?_⟩
  · have h := h.1 z2
    refine g_aload_n 0 e_Re_take_10 rfl rfl ?_
    refine g_dup e_Re_take_11 rfl ?_
    refine gf_Re_28 rfl e_Re_take_12 hw1 lay_73 (by decide) ?_
    refine g_iconst (v := 1) e_Re_take_15 (by decide) ?_
    refine g_iadd e_Re_take_16 ?_
    refine pf_Re_28 rfl e_Re_take_17 hw1 lay_73 (by decide) ?_
    refine g_iconst (v := 1) e_Re_take_20 (by decide) ?_
    exact g_zret e_Re_take_21 rfl (Or.inr rfl) ⟨Sh.n hw1, _, rfl, hw1, h⟩
  · have h := h.2 z2
    refine g_iconst (v := 0) e_Re_take_8 (by decide) ?_
    exact g_zret e_Re_take_9 rfl (Or.inl rfl) ⟨Sh.n hw1, _, rfl, hw1, h⟩
theorem en_Re_take {d : Nat} {E : qE} {Q : qW → Int32 → Prop} {a1 : Int32} {w : qW} (hw : Sh w) (h : c_Re_take_0 d E Q a1 w) : CaI (d + 1) M_Re_take [.ref (qb E + 73), .int a1] E w Q := Ca.into hw rfl (Nat.le_of_ble_eq_true rfl) h
def c_Re_takeWord_0 (d : Nat) (E : qE) (Q : qW → Int32 → Prop) (i1 : Nat) (w : qW) : Prop := Go (d + 5) M_Re_takeWord E 161 161 (qFI Q) 0 [(0, .ref (qb E + 73)), (1, .ref (qc E (10 + i1)))] [] w
def c_Re_takeWord_2 (d : Nat) (E : qE) (Q : qW → Int32 → Prop) (i1 : Nat) (l2 : Int32) (w : qW) : Prop := Go (d + 5) M_Re_takeWord E 161 161 (qFI Q) 2 [(0, .ref (qb E + 73)), (1, .ref (qc E (10 + i1))), (2, .int l2)] [] w
set_option maxHeartbeats 4000000 in
set_option maxRecDepth 8000 in
theorem s_Re_takeWord_0 {d : Nat} {E : qE} {Q : qW → Int32 → Prop} {i1 : Nat} {w : qW} (hw : Sh w) (hi1 : i1 < 5) (h : c_Re_takeWord_2 d E Q i1 0 w) : c_Re_takeWord_0 d E Q i1 w := by
  unfold c_Re_takeWord_0
  refine g_iconst (v := 0) e_Re_takeWord_0 (by decide) ?_
  refine g_istore_n (lv := [(2, .int 0), (0, .ref (qb E + 73)), (1, .ref (qc E (10 + i1)))]) e_Re_takeWord_1 rfl (by decide) rfl ?_
  refine g_loc [1, 2, 0] rfl ?_
  exact h
set_option maxHeartbeats 4000000 in
set_option maxRecDepth 8000 in
theorem s_Re_takeWord_2 {d : Nat} {E : qE} {Q : qW → Int32 → Prop} {i1 : Nat} {l2 : Int32} {w : qW} (hw : Sh w) (hi1 : i1 < 5) (h : CaI (d + 4) M_Js_length [.ref (qc E (10 + i1))] E w (fun w1 x1 => ((x1 ≤ l2) → (Q w1 1)) ∧ ((¬ x1 ≤ l2) → (CaI (d + 4) M_Js_charAt [.ref (qc E (10 + i1)), .int l2] E w1 (fun w3 x3 => CaI (d + 4) M_Re_take [.ref (qb E + 73), .int x3] E w3 (fun w4 x4 => ((¬ x4 = 0) → (c_Re_takeWord_2 d E Q i1 (l2 + 1) w4)) ∧ ((x4 = 0) → (Q w4 0)))))))) : c_Re_takeWord_2 d E Q i1 l2 w := by
  unfold c_Re_takeWord_2
  refine g_iload_n 2 e_Re_takeWord_2 rfl rfl ?_
  refine g_aload_n 1 e_Re_takeWord_3 rfl rfl ?_
  refine w_callSS (w := w) (As := []) (rest := [.int l2]) e_Re_takeWord_4 ok_Js_length rfl km_Re_80 kx_Js_length kv_Js_length rfl hi1 rfl (Nat.le_of_ble_eq_true rfl) h (fun w1 x1 hw1 h => ?_)
  refine g_icmp_ge 30 e_Re_takeWord_7 (by decide) ⟨fun z2 => ?_, fun z2 => ?_⟩
  · have h := h.1 z2
    refine g_iconst (v := 1) e_Re_takeWord_30 (by decide) ?_
    exact g_zret e_Re_takeWord_31 rfl (Or.inr rfl) ⟨Sh.n hw1, _, rfl, hw1, h⟩
  · have h := h.2 z2
    refine g_aload_n 0 e_Re_takeWord_10 rfl rfl ?_
    refine g_aload_n 1 e_Re_takeWord_11 rfl rfl ?_
    refine g_iload_n 2 e_Re_takeWord_12 rfl rfl ?_
    refine w_callSS (w := w1) (As := [.int l2]) (rest := [.ref (qb E + 73)]) e_Re_takeWord_13 ok_Js_charAt rfl km_Re_84 kx_Js_charAt kv_Js_charAt rfl hi1 rfl (Nat.le_of_ble_eq_true rfl) h (fun w3 x3 hw3 h => ?_)
    refine w_callVI (w := w3) (As := [.int x3]) (rest := []) e_Re_takeWord_16 ok_Re_take rfl km_Re_35 kx_Re_take kv_Re_take rfl (by decide) hw3 lay_73 (by decide) rfl (Nat.le_of_ble_eq_true rfl) h (fun w4 x4 hw4 h => ?_)
    refine g_if_ne 24 e_Re_takeWord_19 (by decide) ⟨fun z5 => ?_, fun z5 => ?_⟩
    · have h := h.1 z5
      refine g_iinc (v := (l2 + 1)) (lv := [(2, .int (l2 + 1)), (0, .ref (qb E + 73)), (1, .ref (qc E (10 + i1)))]) 2 e_Re_takeWord_24 rfl rfl (by decide) rfl ?_
      refine g_goto 2 e_Re_takeWord_27 (by decide) ?_
      refine g_loc [1, 2, 0] rfl ?_
      exact h
    · have h := h.2 z5
      refine g_iconst (v := 0) e_Re_takeWord_22 (by decide) ?_
      exact g_zret e_Re_takeWord_23 rfl (Or.inl rfl) ⟨Sh.n hw4, _, rfl, hw4, h⟩
theorem en_Re_takeWord {d : Nat} {E : qE} {Q : qW → Int32 → Prop} {i1 : Nat} {w : qW} (hw : Sh w) (h : c_Re_takeWord_0 d E Q i1 w) : CaI (d + 5) M_Re_takeWord [.ref (qb E + 73), .ref (qc E (10 + i1))] E w Q := Ca.into hw rfl (Nat.le_of_ble_eq_true rfl) h
def c_Re_takeOneOf_0 (d : Nat) (E : qE) (Q : qW → Int32 → Prop) (i1 : Nat) (w : qW) : Prop := Go (d + 5) M_Re_takeOneOf E 161 161 (qFI Q) 0 [(0, .ref (qb E + 73)), (1, .ref (qc E (10 + i1)))] [] w
def c_Re_takeOneOf_2 (d : Nat) (E : qE) (Q : qW → Int32 → Prop) (i1 : Nat) (l2 : Int32) (w : qW) : Prop := Go (d + 5) M_Re_takeOneOf E 161 161 (qFI Q) 2 [(0, .ref (qb E + 73)), (1, .ref (qc E (10 + i1))), (2, .int l2)] [] w
set_option maxHeartbeats 4000000 in
set_option maxRecDepth 8000 in
theorem s_Re_takeOneOf_0 {d : Nat} {E : qE} {Q : qW → Int32 → Prop} {i1 : Nat} {w : qW} (hw : Sh w) (hi1 : i1 < 5) (h : c_Re_takeOneOf_2 d E Q i1 0 w) : c_Re_takeOneOf_0 d E Q i1 w := by
  unfold c_Re_takeOneOf_0
  refine g_iconst (v := 0) e_Re_takeOneOf_0 (by decide) ?_
  refine g_istore_n (lv := [(2, .int 0), (0, .ref (qb E + 73)), (1, .ref (qc E (10 + i1)))]) e_Re_takeOneOf_1 rfl (by decide) rfl ?_
  refine g_loc [1, 2, 0] rfl ?_
  exact h
set_option maxHeartbeats 4000000 in
set_option maxRecDepth 8000 in
theorem s_Re_takeOneOf_2 {d : Nat} {E : qE} {Q : qW → Int32 → Prop} {i1 : Nat} {l2 : Int32} {w : qW} (hw : Sh w) (hi1 : i1 < 5) (h : CaI (d + 4) M_Js_length [.ref (qc E (10 + i1))] E w (fun w1 x1 => ((x1 ≤ l2) → (Q w1 (-1))) ∧ ((¬ x1 ≤ l2) → (CaI (d + 4) M_Re_sign [.ref (qb E + 73)] E w1 (fun w3 x3 => CaI (d + 4) M_Js_charAt [.ref (qc E (10 + i1)), .int l2] E w3 (fun w4 x4 => ((¬ x3 = x4) → (c_Re_takeOneOf_2 d E Q i1 (l2 + 1) w4)) ∧ ((x3 = x4) → (Q (qpi w4 73 2 ((qi w4 73 2) + 1)) l2)))))))) : c_Re_takeOneOf_2 d E Q i1 l2 w := by
  unfold c_Re_takeOneOf_2
  refine g_iload_n 2 e_Re_takeOneOf_2 rfl rfl ?_
  refine g_aload_n 1 e_Re_takeOneOf_3 rfl rfl ?_
  refine w_callSS (w := w) (As := []) (rest := [.int l2]) e_Re_takeOneOf_4 ok_Js_length rfl km_Re_80 kx_Js_length kv_Js_length rfl hi1 rfl (Nat.le_of_ble_eq_true rfl) h (fun w1 x1 hw1 h => ?_)
  refine g_icmp_ge 40 e_Re_takeOneOf_7 (by decide) ⟨fun z2 => ?_, fun z2 => ?_⟩
  · have h := h.1 z2
    refine g_iconst (v := (-1)) e_Re_takeOneOf_40 (by decide) ?_
    exact g_iret e_Re_takeOneOf_41 rfl ⟨Sh.n hw1, _, rfl, hw1, h⟩
  · have h := h.2 z2
    refine g_aload_n 0 e_Re_takeOneOf_10 rfl rfl ?_
    refine w_callVI (w := w1) (As := []) (rest := []) e_Re_takeOneOf_11 ok_Re_sign rfl km_Re_39 kx_Re_sign kv_Re_sign rfl (by decide) hw1 lay_73 (by decide) rfl (Nat.le_of_ble_eq_true rfl) h (fun w3 x3 hw3 h => ?_)
    refine g_aload_n 1 e_Re_takeOneOf_14 rfl rfl ?_
    refine g_iload_n 2 e_Re_takeOneOf_15 rfl rfl ?_
    refine w_callSS (w := w3) (As := [.int l2]) (rest := [.int x3]) e_Re_takeOneOf_16 ok_Js_charAt rfl km_Re_84 kx_Js_charAt kv_Js_charAt rfl hi1 rfl (Nat.le_of_ble_eq_true rfl) h (fun w4 x4 hw4 h => ?_)
    refine g_icmp_ne 34 e_Re_takeOneOf_19 (by decide) ⟨fun z5 => ?_, fun z5 => ?_⟩
    · have h := h.1 z5
      refine g_iinc (v := (l2 + 1)) (lv := [(2, .int (l2 + 1)), (0, .ref (qb E + 73)), (1, .ref (qc E (10 + i1)))]) 2 e_Re_takeOneOf_34 rfl rfl (by decide) rfl ?_
      refine g_goto 2 e_Re_takeOneOf_37 (by decide) ?_
      refine g_loc [1, 2, 0] rfl ?_
      exact h
    · have h := h.2 z5
      refine g_aload_n 0 e_Re_takeOneOf_22 rfl rfl ?_
      refine g_dup e_Re_takeOneOf_23 rfl ?_
      refine gf_Re_28 rfl e_Re_takeOneOf_24 hw4 lay_73 (by decide) ?_
      refine g_iconst (v := 1) e_Re_takeOneOf_27 (by decide) ?_
      refine g_iadd e_Re_takeOneOf_28 ?_
      refine pf_Re_28 rfl e_Re_takeOneOf_29 hw4 lay_73 (by decide) ?_
      refine g_iload_n 2 e_Re_takeOneOf_32 rfl rfl ?_
      exact g_iret e_Re_takeOneOf_33 rfl ⟨Sh.n hw4, _, rfl, hw4, h⟩
theorem en_Re_takeOneOf {d : Nat} {E : qE} {Q : qW → Int32 → Prop} {i1 : Nat} {w : qW} (hw : Sh w) (h : c_Re_takeOneOf_0 d E Q i1 w) : CaI (d + 5) M_Re_takeOneOf [.ref (qb E + 73), .ref (qc E (10 + i1))] E w Q := Ca.into hw rfl (Nat.le_of_ble_eq_true rfl) h
def c_Re_takeNumber_0 (d : Nat) (E : qE) (Q : qW → Int32 → Prop) (w : qW) : Prop := Go (d + 1) M_Re_takeNumber E 161 161 (qFI Q) 0 [(0, .ref (qb E + 73))] [] w
def c_Re_takeNumber_4 (d : Nat) (E : qE) (Q : qW → Int32 → Prop) (l1 : Int32) (l2 : Int32) (w : qW) : Prop := Go (d + 1) M_Re_takeNumber E 161 161 (qFI Q) 4 [(0, .ref (qb E + 73)), (1, .int l1), (2, .int l2)] [] w
set_option maxHeartbeats 4000000 in
set_option maxRecDepth 8000 in
theorem s_Re_takeNumber_0 {d : Nat} {E : qE} {Q : qW → Int32 → Prop} {w : qW} (hw : Sh w) (h : c_Re_takeNumber_4 d E Q (-1) 0 w) : c_Re_takeNumber_0 d E Q  w := by
  unfold c_Re_takeNumber_0
  refine g_iconst (v := (-1)) e_Re_takeNumber_0 (by decide) ?_
  refine g_istore_n (lv := [(1, .int (-1)), (0, .ref (qb E + 73))]) e_Re_takeNumber_1 rfl (by decide) rfl ?_
  refine g_iconst (v := 0) e_Re_takeNumber_2 (by decide) ?_
  refine g_istore_n (lv := [(2, .int 0), (1, .int (-1)), (0, .ref (qb E + 73))]) e_Re_takeNumber_3 rfl (by decide) rfl ?_
  refine g_loc [2, 1, 0] rfl ?_
  exact h
set_option maxHeartbeats 4000000 in
set_option maxRecDepth 8000 in
theorem s_Re_takeNumber_4 {d : Nat} {E : qE} {Q : qW → Int32 → Prop} {l1 : Int32} {l2 : Int32} {w : qW} (hw : Sh w) (h : ((2 ≤ l2) → (Q w l1)) ∧ ((¬ 2 ≤ l2) → (CaI d M_Re_sign [.ref (qb E + 73)] E w (fun w2 x2 => (((x2 - 48) < 0) → (Q w2 l1)) ∧ ((¬ (x2 - 48) < 0) → ((((x2 - 48) ≤ 9) → (((¬ l2 = 0) → (c_Re_takeNumber_4 d E Q ((10 * l1) + (x2 - 48)) (l2 + 1) (qpi w2 73 2 ((qi w2 73 2) + 1)))) ∧ ((l2 = 0) → (c_Re_takeNumber_4 d E Q (x2 - 48) (l2 + 1) (qpi w2 73 2 ((qi w2 73 2) + 1)))))) ∧ ((¬ (x2 - 48) ≤ 9) → (Q w2 l1)))))))) : c_Re_takeNumber_4 d E Q l1 l2 w := by
  unfold c_Re_takeNumber_4
  refine g_iload_n 2 e_Re_takeNumber_4 rfl rfl ?_
  refine g_iconst (v := 2) e_Re_takeNumber_5 (by decide) ?_
  refine g_icmp_ge 60 e_Re_takeNumber_6 (by decide) ⟨fun z1 => ?_, fun z1 => ?_⟩
  · have h := h.1 z1
    refine g_iload_n 1 e_Re_takeNumber_60 rfl rfl ?_
    exact g_iret e_Re_takeNumber_61 rfl ⟨Sh.n hw, _, rfl, hw, h⟩
  · have h := h.2 z1
    refine g_aload_n 0 e_Re_takeNumber_9 rfl rfl ?_
    refine w_callVI (w := w) (As := []) (rest := []) e_Re_takeNumber_10 ok_Re_sign rfl km_Re_39 kx_Re_sign kv_Re_sign rfl (by decide) hw lay_73 (by decide) rfl (Nat.le_of_ble_eq_true rfl) h (fun w2 x2 hw2 h => ?_)
    refine g_bipush (v := 48) e_Re_takeNumber_13 (by decide) ?_
    refine g_isub e_Re_takeNumber_15 ?_
    refine g_istore_n (lv := [(3, .int (x2 - 48)), (0, .ref (qb E + 73)), (1, .int l1), (2, .int l2)]) e_Re_takeNumber_16 rfl (by decide) rfl ?_
    refine g_iload_n 0 e_Re_takeNumber_17 rfl rfl ?_
    refine g_if_lt 27 e_Re_takeNumber_18 (by decide) ⟨fun z3 => ?_, fun z3 => ?_⟩
    · have h := h.1 z3
      refine g_iload_n 2 e_Re_takeNumber_27 rfl rfl ?_
      exact g_iret e_Re_takeNumber_28 rfl ⟨Sh.n hw2, _, rfl, hw2, h⟩
    · have h := h.2 z3
      refine g_iload_n 0 e_Re_takeNumber_21 rfl rfl ?_
      refine g_bipush (v := 9) e_Re_takeNumber_22 (by decide) ?_
      refine g_icmp_le 29 e_Re_takeNumber_24 (by decide) ⟨fun z4 => ?_, fun z4 => ?_⟩
      · have h := h.1 z4
        refine g_iload_n 3 e_Re_takeNumber_29 rfl rfl ?_
        refine g_if_ne 37 e_Re_takeNumber_30 (by decide) ⟨fun z5 => ?_, fun z5 => ?_⟩
        · have h := h.1 z5
          refine g_bipush (v := 10) e_Re_takeNumber_37 (by decide) ?_
          refine g_iload_n 2 e_Re_takeNumber_39 rfl rfl ?_
          refine g_imul e_Re_takeNumber_40 ?_
          refine g_iload_n 0 e_Re_takeNumber_41 rfl rfl ?_
          refine g_iadd e_Re_takeNumber_42 ?_
          refine g_istore_n (lv := [(1, .int ((10 * l1) + (x2 - 48))), (3, .int (x2 - 48)), (0, .ref (qb E + 73)), (2, .int l2)]) e_Re_takeNumber_43 rfl (by decide) rfl ?_
          refine g_aload_n 2 e_Re_takeNumber_44 rfl rfl ?_
          refine g_dup e_Re_takeNumber_45 rfl ?_
          refine gf_Re_28 rfl e_Re_takeNumber_46 hw2 lay_73 (by decide) ?_
          refine g_iconst (v := 1) e_Re_takeNumber_49 (by decide) ?_
          refine g_iadd e_Re_takeNumber_50 ?_
          refine pf_Re_28 rfl e_Re_takeNumber_51 hw2 lay_73 (by decide) ?_
          refine g_iinc (v := (l2 + 1)) (lv := [(2, .int (l2 + 1)), (1, .int ((10 * l1) + (x2 - 48))), (3, .int (x2 - 48)), (0, .ref (qb E + 73))]) 3 e_Re_takeNumber_54 rfl rfl (by decide) rfl ?_
          refine g_goto 4 e_Re_takeNumber_57 (by decide) ?_
          refine g_loc [3, 1, 0] rfl ?_
          exact h
        · have h := h.2 z5
          refine g_iload_n 0 e_Re_takeNumber_33 rfl rfl ?_
          refine g_goto 43 e_Re_takeNumber_34 (by decide) ?_
          refine g_istore_n (lv := [(1, .int (x2 - 48)), (3, .int (x2 - 48)), (0, .ref (qb E + 73)), (2, .int l2)]) e_Re_takeNumber_43 rfl (by decide) rfl ?_
          refine g_aload_n 2 e_Re_takeNumber_44 rfl rfl ?_
          refine g_dup e_Re_takeNumber_45 rfl ?_
          refine gf_Re_28 rfl e_Re_takeNumber_46 hw2 lay_73 (by decide) ?_
          refine g_iconst (v := 1) e_Re_takeNumber_49 (by decide) ?_
          refine g_iadd e_Re_takeNumber_50 ?_
          refine pf_Re_28 rfl e_Re_takeNumber_51 hw2 lay_73 (by decide) ?_
          refine g_iinc (v := (l2 + 1)) (lv := [(2, .int (l2 + 1)), (1, .int (x2 - 48)), (3, .int (x2 - 48)), (0, .ref (qb E + 73))]) 3 e_Re_takeNumber_54 rfl rfl (by decide) rfl ?_
          refine g_goto 4 e_Re_takeNumber_57 (by decide) ?_
          refine g_loc [3, 1, 0] rfl ?_
          exact h
      · have h := h.2 z4
        refine g_iload_n 2 e_Re_takeNumber_27 rfl rfl ?_
        exact g_iret e_Re_takeNumber_28 rfl ⟨Sh.n hw2, _, rfl, hw2, h⟩
theorem en_Re_takeNumber {d : Nat} {E : qE} {Q : qW → Int32 → Prop} {w : qW} (hw : Sh w) (h : c_Re_takeNumber_0 d E Q  w) : CaI (d + 1) M_Re_takeNumber [.ref (qb E + 73)] E w Q := Ca.into hw rfl (Nat.le_of_ble_eq_true rfl) h
def c_Ro_copyFrom_0 (d : Nat) (E : qE) (Q : qW → Prop) (r : Nat) (p1 : Nat) (w : qW) : Prop := Go (d + 1) M_Ro_copyFrom E 161 161 (qFV Q) 0 [(0, .ref (qb E + r)), (1, .ref (qb E + p1))] [] w
set_option maxHeartbeats 4000000 in
set_option maxRecDepth 8000 in
theorem s_Ro_copyFrom_0 {d : Nat} {E : qE} {Q : qW → Prop} {r : Nat} {p1 : Nat} {n : Nat} {w : qW} (hw : Sh w) (hr : isRo r n) (hp1 : isRo p1 n) (h : CaI d M_Jm_min [.int (Int32.ofNat n), .int (Int32.ofNat n)] E w (fun w1 x1 => ¬ x1 < 0 ∧ ((0 : Int32).toNatClampNeg + (x1 : Int32).toNatClampNeg ≤ n ∧ ((0 : Int32).toNatClampNeg + (x1 : Int32).toNatClampNeg ≤ n ∧ (¬ x1 < 0 ∧ ((0 : Int32).toNatClampNeg + (x1 : Int32).toNatClampNeg ≤ n ∧ ((0 : Int32).toNatClampNeg + (x1 : Int32).toNatClampNeg ≤ n ∧ (Q (qpi (qcp (qcp w1 (p1 + 1) 0 (r + 1) 0 ((x1).toNatClampNeg)) (p1 + 2) 0 (r + 2) 0 ((x1).toNatClampNeg)) r 2 (qi (qcp (qcp w1 (p1 + 1) 0 (r + 1) 0 ((x1).toNatClampNeg)) (p1 + 2) 0 (r + 2) 0 ((x1).toNatClampNeg)) p1 2)))))))))) : c_Ro_copyFrom_0 d E Q r p1 w := by
  unfold c_Ro_copyFrom_0
  refine g_aload_n 0 e_Ro_copyFrom_0 rfl rfl ?_
  refine gf_Ro_15 rfl e_Ro_copyFrom_1 hw (lay_Ro hr) (lt_Ro hr) (sh_Ro_firsts hw hr) ?_
  refine w_alen (v := (Int32.ofNat n)) e_Ro_copyFrom_4 hw (lay_Ro1 hr) (Or.inl rfl) (lt_Ro1 hr) rfl ?_
  refine g_aload_n 1 e_Ro_copyFrom_5 rfl rfl ?_
  refine gf_Ro_15 rfl e_Ro_copyFrom_6 hw (lay_Ro hp1) (lt_Ro hp1) (sh_Ro_firsts hw hp1) ?_
  refine w_alen (v := (Int32.ofNat n)) e_Ro_copyFrom_9 hw (lay_Ro1 hp1) (Or.inl rfl) (lt_Ro1 hp1) rfl ?_
  refine w_callSI (w := w) (As := [.int (Int32.ofNat n), .int (Int32.ofNat n)]) (rest := []) e_Ro_copyFrom_10 ok_Jm_min rfl km_Ro_24 ks_Jm_min rfl (Nat.le_of_ble_eq_true rfl) h (fun w1 x1 hw1 h => ?_)
  refine g_istore_n (lv := [(2, .int x1), (0, .ref (qb E + r)), (1, .ref (qb E + p1))]) e_Ro_copyFrom_13 rfl (by decide) rfl ?_
  refine g_aload_n 2 e_Ro_copyFrom_14 rfl rfl ?_
  refine gf_Ro_15 rfl e_Ro_copyFrom_15 hw1 (lay_Ro hp1) (lt_Ro hp1) (sh_Ro_firsts hw1 hp1) ?_
  refine g_iconst (v := 0) e_Ro_copyFrom_18 (by decide) ?_
  refine g_aload_n 1 e_Ro_copyFrom_19 rfl rfl ?_
  refine gf_Ro_15 rfl e_Ro_copyFrom_20 hw1 (lay_Ro hr) (lt_Ro hr) (sh_Ro_firsts hw1 hr) ?_
  refine g_iconst (v := 0) e_Ro_copyFrom_23 (by decide) ?_
  refine g_iload_n 0 e_Ro_copyFrom_24 rfl rfl ?_
  obtain ⟨o2, h⟩ := h
  obtain ⟨o3, h⟩ := h
  obtain ⟨o4, h⟩ := h
  refine g_copy (i0 := 0) e_Ro_copyFrom_25 km_Ro_27 (lay_Ro1 hp1) (lay_Ro1 hr) (qlt hw1 (lt_Ro1 hp1)) (qlt hw1 (lt_Ro1 hr)) hw1.1 (by decide) (by decide) o2 o3 o4 (Nat.le_of_ble_eq_true rfl) ?_
  refine g_aload_n 2 e_Ro_copyFrom_28 rfl rfl ?_
  refine gf_Ro_21 rfl e_Ro_copyFrom_29 hw1 (lay_Ro hp1) (lt_Ro hp1) (sh_Ro_seconds hw1 hp1) ?_
  refine g_iconst (v := 0) e_Ro_copyFrom_32 (by decide) ?_
  refine g_aload_n 1 e_Ro_copyFrom_33 rfl rfl ?_
  refine gf_Ro_21 rfl e_Ro_copyFrom_34 hw1 (lay_Ro hr) (lt_Ro hr) (sh_Ro_seconds hw1 hr) ?_
  refine g_iconst (v := 0) e_Ro_copyFrom_37 (by decide) ?_
  refine g_iload_n 0 e_Ro_copyFrom_38 rfl rfl ?_
  obtain ⟨o5, h⟩ := h
  obtain ⟨o6, h⟩ := h
  obtain ⟨o7, h⟩ := h
  refine g_copy (i0 := 0) e_Ro_copyFrom_39 km_Ro_27 (lay_Ro2 hp1) (lay_Ro2 hr) (qlt hw1 (lt_Ro2 hp1)) (qlt hw1 (lt_Ro2 hr)) hw1.1 (by decide) (by decide) o5 o6 o7 (Nat.le_of_ble_eq_true rfl) ?_
  refine g_aload_n 1 e_Ro_copyFrom_42 rfl rfl ?_
  refine g_aload_n 2 e_Ro_copyFrom_43 rfl rfl ?_
  refine gf_Ro_33 rfl e_Ro_copyFrom_44 hw1 (lay_Ro hp1) (lt_Ro hp1) ?_
  refine pf_Ro_33 rfl e_Ro_copyFrom_47 hw1 (lay_Ro hr) (lt_Ro hr) ?_
  exact g_vret e_Ro_copyFrom_50 rfl ⟨Sh.n hw1, rfl, hw1, h⟩
theorem en_Ro_copyFrom {d : Nat} {E : qE} {Q : qW → Prop} {r : Nat} {p1 : Nat} {w : qW} (hw : Sh w) (h : c_Ro_copyFrom_0 d E Q r p1 w) : CaV (d + 1) M_Ro_copyFrom [.ref (qb E + r), .ref (qb E + p1)] E w Q := Ca.into hw rfl (Nat.le_of_ble_eq_true rfl) h
def c_Ro_empty_0 (d : Nat) (E : qE) (Q : qW → Int32 → Prop) (r : Nat) (w : qW) : Prop := Go d M_Ro_empty E 161 161 (qFI Q) 0 [(0, .ref (qb E + r))] [] w
set_option maxHeartbeats 4000000 in
set_option maxRecDepth 8000 in
theorem s_Ro_empty_0 {d : Nat} {E : qE} {Q : qW → Int32 → Prop} {r : Nat} {n : Nat} {w : qW} (hw : Sh w) (hr : isRo r n) (h : Q (qpi w r 2 0) 0) : c_Ro_empty_0 d E Q r w := by
  unfold c_Ro_empty_0
  refine g_aload_n 0 e_Ro_empty_0 rfl rfl ?_
  refine g_iconst (v := 0) e_Ro_empty_1 (by decide) ?_
  refine pf_Ro_33 rfl e_Ro_empty_2 hw (lay_Ro hr) (lt_Ro hr) ?_
  refine g_iconst (v := 0) e_Ro_empty_5 (by decide) ?_
  exact g_iret e_Ro_empty_6 rfl ⟨Sh.n hw, _, rfl, hw, h⟩
theorem en_Ro_empty {d : Nat} {E : qE} {Q : qW → Int32 → Prop} {r : Nat} {w : qW} (hw : Sh w) (h : c_Ro_empty_0 d E Q r w) : CaI d M_Ro_empty [.ref (qb E + r)] E w Q := Ca.into hw rfl (Nat.le_of_ble_eq_true rfl) h
def c_Ro_add_0 (d : Nat) (E : qE) (Q : qW → Int32 → Prop) (r : Nat) (a1 : Int32) (a2 : Int32) (w : qW) : Prop := Go d M_Ro_add E 161 161 (qFI Q) 0 [(0, .ref (qb E + r)), (1, .int a1), (2, .int a2)] [] w
set_option maxHeartbeats 4000000 in
set_option maxRecDepth 8000 in
theorem s_Ro_add_0 {d : Nat} {E : qE} {Q : qW → Int32 → Prop} {r : Nat} {a1 : Int32} {a2 : Int32} {n : Nat} {w : qW} (hw : Sh w) (hr : isRo r n) (h : (((qi w r 2) < 0) → (Q w (-4))) ∧ ((¬ (qi w r 2) < 0) → ((((Int32.ofNat n) ≤ (qi w r 2)) → (Q w (-4))) ∧ ((¬ (Int32.ofNat n) ≤ (qi w r 2)) → ((((qi w r 2) < (Int32.ofNat n)) → (vp_in (qi w r 2) n ∧ (vp_in (qi (qpi w (r + 1) ((qi w r 2).toNatClampNeg) a1) r 2) n ∧ (Q (qpi (qpi (qpi w (r + 1) ((qi w r 2).toNatClampNeg) a1) (r + 2) ((qi (qpi w (r + 1) ((qi w r 2).toNatClampNeg) a1) r 2).toNatClampNeg) a2) r 2 ((qi (qpi (qpi w (r + 1) ((qi w r 2).toNatClampNeg) a1) (r + 2) ((qi (qpi w (r + 1) ((qi w r 2).toNatClampNeg) a1) r 2).toNatClampNeg) a2) r 2) + 1)) (qi (qpi (qpi (qpi w (r + 1) ((qi w r 2).toNatClampNeg) a1) (r + 2) ((qi (qpi w (r + 1) ((qi w r 2).toNatClampNeg) a1) r 2).toNatClampNeg) a2) r 2 ((qi (qpi (qpi w (r + 1) ((qi w r 2).toNatClampNeg) a1) (r + 2) ((qi (qpi w (r + 1) ((qi w r 2).toNatClampNeg) a1) r 2).toNatClampNeg) a2) r 2) + 1)) r 2))))) ∧ ((¬ (qi w r 2) < (Int32.ofNat n)) → (Q w (-4)))))))) : c_Ro_add_0 d E Q r a1 a2 w := by
  unfold c_Ro_add_0
  refine g_aload_n 0 e_Ro_add_0 rfl rfl ?_
  refine gf_Ro_33 rfl e_Ro_add_1 hw (lay_Ro hr) (lt_Ro hr) ?_
  refine g_if_lt 31 e_Ro_add_4 (by decide) ⟨fun z1 => ?_, fun z1 => ?_⟩
  · have h := h.1 z1
    refine g_bipush (v := (-4)) e_Ro_add_31 (by decide) ?_
    exact g_iret e_Ro_add_33 rfl ⟨Sh.n hw, _, rfl, hw, h⟩
  · have h := h.2 z1
    refine g_aload_n 0 e_Ro_add_7 rfl rfl ?_
    refine gf_Ro_33 rfl e_Ro_add_8 hw (lay_Ro hr) (lt_Ro hr) ?_
    refine g_aload_n 0 e_Ro_add_11 rfl rfl ?_
    refine gf_Ro_15 rfl e_Ro_add_12 hw (lay_Ro hr) (lt_Ro hr) (sh_Ro_firsts hw hr) ?_
    refine w_alen (v := (Int32.ofNat n)) e_Ro_add_15 hw (lay_Ro1 hr) (Or.inl rfl) (lt_Ro1 hr) rfl ?_
    refine g_icmp_ge 31 e_Ro_add_16 (by decide) ⟨fun z2 => ?_, fun z2 => ?_⟩
    · have h := h.1 z2
      refine g_bipush (v := (-4)) e_Ro_add_31 (by decide) ?_
      exact g_iret e_Ro_add_33 rfl ⟨Sh.n hw, _, rfl, hw, h⟩
    · have h := h.2 z2
      refine g_aload_n 0 e_Ro_add_19 rfl rfl ?_
      refine gf_Ro_33 rfl e_Ro_add_20 hw (lay_Ro hr) (lt_Ro hr) ?_
      refine g_aload_n 0 e_Ro_add_23 rfl rfl ?_
      refine gf_Ro_21 rfl e_Ro_add_24 hw (lay_Ro hr) (lt_Ro hr) (sh_Ro_seconds hw hr) ?_
      refine w_alen (v := (Int32.ofNat n)) e_Ro_add_27 hw (lay_Ro2 hr) (Or.inl rfl) (lt_Ro2 hr) rfl ?_
      refine g_icmp_lt 34 e_Ro_add_28 (by decide) ⟨fun z3 => ?_, fun z3 => ?_⟩
      · have h := h.1 z3
        refine g_aload_n 0 e_Ro_add_34 rfl rfl ?_
        refine gf_Ro_15 rfl e_Ro_add_35 hw (lay_Ro hr) (lt_Ro hr) (sh_Ro_firsts hw hr) ?_
        refine g_aload_n 0 e_Ro_add_38 rfl rfl ?_
        refine gf_Ro_33 rfl e_Ro_add_39 hw (lay_Ro hr) (lt_Ro hr) ?_
        refine g_iload_n 1 e_Ro_add_42 rfl rfl ?_
        obtain ⟨o4, h⟩ := h
        refine w_iastore ((qi w r 2).toNatClampNeg) e_Ro_add_43 hw (lay_Ro1 hr) (lt_Ro1 hr) o4 rfl ?_
        refine g_aload_n 0 e_Ro_add_44 rfl rfl ?_
        refine gf_Ro_21 rfl e_Ro_add_45 hw (lay_Ro hr) (lt_Ro hr) (sh_Ro_seconds hw hr) ?_
        refine g_aload_n 0 e_Ro_add_48 rfl rfl ?_
        refine gf_Ro_33 rfl e_Ro_add_49 hw (lay_Ro hr) (lt_Ro hr) ?_
        refine g_iload_n 2 e_Ro_add_52 rfl rfl ?_
        obtain ⟨o5, h⟩ := h
        refine w_iastore ((qi (qpi w (r + 1) ((qi w r 2).toNatClampNeg) a1) r 2).toNatClampNeg) e_Ro_add_53 hw (lay_Ro2 hr) (lt_Ro2 hr) o5 rfl ?_
        refine g_aload_n 0 e_Ro_add_54 rfl rfl ?_
        refine g_dup e_Ro_add_55 rfl ?_
        refine gf_Ro_33 rfl e_Ro_add_56 hw (lay_Ro hr) (lt_Ro hr) ?_
        refine g_iconst (v := 1) e_Ro_add_59 (by decide) ?_
        refine g_iadd e_Ro_add_60 ?_
        refine pf_Ro_33 rfl e_Ro_add_61 hw (lay_Ro hr) (lt_Ro hr) ?_
        refine g_aload_n 0 e_Ro_add_64 rfl rfl ?_
        refine gf_Ro_33 rfl e_Ro_add_65 hw (lay_Ro hr) (lt_Ro hr) ?_
        exact g_iret e_Ro_add_68 rfl ⟨Sh.n hw, _, rfl, hw, h⟩
      · have h := h.2 z3
        refine g_bipush (v := (-4)) e_Ro_add_31 (by decide) ?_
        exact g_iret e_Ro_add_33 rfl ⟨Sh.n hw, _, rfl, hw, h⟩
theorem en_Ro_add {d : Nat} {E : qE} {Q : qW → Int32 → Prop} {r : Nat} {a1 : Int32} {a2 : Int32} {w : qW} (hw : Sh w) (h : c_Ro_add_0 d E Q r a1 a2 w) : CaI d M_Ro_add [.ref (qb E + r), .int a1, .int a2] E w Q := Ca.into hw rfl (Nat.le_of_ble_eq_true rfl) h
def c_Ro_first_0 (d : Nat) (E : qE) (Q : qW → Int32 → Prop) (r : Nat) (a1 : Int32) (w : qW) : Prop := Go d M_Ro_first E 161 161 (qFI Q) 0 [(0, .ref (qb E + r)), (1, .int a1)] [] w
set_option maxHeartbeats 4000000 in
set_option maxRecDepth 8000 in
theorem s_Ro_first_0 {d : Nat} {E : qE} {Q : qW → Int32 → Prop} {r : Nat} {a1 : Int32} {n : Nat} {w : qW} (hw : Sh w) (hr : isRo r n) (h : ((a1 < 0) → (Q w (-1))) ∧ ((¬ a1 < 0) → ((((Int32.ofNat n) ≤ a1) → (Q w (-1))) ∧ ((¬ (Int32.ofNat n) ≤ a1) → (vp_in a1 n ∧ (Q w (qi w (r + 1) ((a1).toNatClampNeg)))))))) : c_Ro_first_0 d E Q r a1 w := by
  unfold c_Ro_first_0
  refine g_iload_n 1 e_Ro_first_0 rfl rfl ?_
  refine g_if_lt 22 e_Ro_first_1 (by decide) ⟨fun z1 => ?_, fun z1 => ?_⟩
  · have h := h.1 z1
    refine g_iconst (v := (-1)) e_Ro_first_22 (by decide) ?_
    exact g_iret e_Ro_first_23 rfl ⟨Sh.n hw, _, rfl, hw, h⟩
  · have h := h.2 z1
    refine g_iload_n 1 e_Ro_first_4 rfl rfl ?_
    refine g_aload_n 0 e_Ro_first_5 rfl rfl ?_
    refine gf_Ro_15 rfl e_Ro_first_6 hw (lay_Ro hr) (lt_Ro hr) (sh_Ro_firsts hw hr) ?_
    refine w_alen (v := (Int32.ofNat n)) e_Ro_first_9 hw (lay_Ro1 hr) (Or.inl rfl) (lt_Ro1 hr) rfl ?_
    refine g_icmp_ge 22 e_Ro_first_10 (by decide) ⟨fun z2 => ?_, fun z2 => ?_⟩
    · have h := h.1 z2
      refine g_iconst (v := (-1)) e_Ro_first_22 (by decide) ?_
      exact g_iret e_Ro_first_23 rfl ⟨Sh.n hw, _, rfl, hw, h⟩
    · have h := h.2 z2
      refine g_aload_n 0 e_Ro_first_13 rfl rfl ?_
      refine gf_Ro_15 rfl e_Ro_first_14 hw (lay_Ro hr) (lt_Ro hr) (sh_Ro_firsts hw hr) ?_
      refine g_iload_n 1 e_Ro_first_17 rfl rfl ?_
      obtain ⟨o3, h⟩ := h
      refine w_iaload ((a1).toNatClampNeg) e_Ro_first_18 hw (lay_Ro1 hr) (lt_Ro1 hr) o3 rfl ?_
      refine g_goto 23 e_Ro_first_19 (by decide) ?_
      exact g_iret e_Ro_first_23 rfl ⟨Sh.n hw, _, rfl, hw, h⟩
theorem en_Ro_first {d : Nat} {E : qE} {Q : qW → Int32 → Prop} {r : Nat} {a1 : Int32} {w : qW} (hw : Sh w) (h : c_Ro_first_0 d E Q r a1 w) : CaI d M_Ro_first [.ref (qb E + r), .int a1] E w Q := Ca.into hw rfl (Nat.le_of_ble_eq_true rfl) h
def c_Ro_second_0 (d : Nat) (E : qE) (Q : qW → Int32 → Prop) (r : Nat) (a1 : Int32) (w : qW) : Prop := Go d M_Ro_second E 161 161 (qFI Q) 0 [(0, .ref (qb E + r)), (1, .int a1)] [] w
set_option maxHeartbeats 4000000 in
set_option maxRecDepth 8000 in
theorem s_Ro_second_0 {d : Nat} {E : qE} {Q : qW → Int32 → Prop} {r : Nat} {a1 : Int32} {n : Nat} {w : qW} (hw : Sh w) (hr : isRo r n) (h : ((a1 < 0) → (Q w (-1))) ∧ ((¬ a1 < 0) → ((((Int32.ofNat n) ≤ a1) → (Q w (-1))) ∧ ((¬ (Int32.ofNat n) ≤ a1) → (vp_in a1 n ∧ (Q w (qi w (r + 2) ((a1).toNatClampNeg)))))))) : c_Ro_second_0 d E Q r a1 w := by
  unfold c_Ro_second_0
  refine g_iload_n 1 e_Ro_second_0 rfl rfl ?_
  refine g_if_lt 22 e_Ro_second_1 (by decide) ⟨fun z1 => ?_, fun z1 => ?_⟩
  · have h := h.1 z1
    refine g_iconst (v := (-1)) e_Ro_second_22 (by decide) ?_
    exact g_iret e_Ro_second_23 rfl ⟨Sh.n hw, _, rfl, hw, h⟩
  · have h := h.2 z1
    refine g_iload_n 1 e_Ro_second_4 rfl rfl ?_
    refine g_aload_n 0 e_Ro_second_5 rfl rfl ?_
    refine gf_Ro_21 rfl e_Ro_second_6 hw (lay_Ro hr) (lt_Ro hr) (sh_Ro_seconds hw hr) ?_
    refine w_alen (v := (Int32.ofNat n)) e_Ro_second_9 hw (lay_Ro2 hr) (Or.inl rfl) (lt_Ro2 hr) rfl ?_
    refine g_icmp_ge 22 e_Ro_second_10 (by decide) ⟨fun z2 => ?_, fun z2 => ?_⟩
    · have h := h.1 z2
      refine g_iconst (v := (-1)) e_Ro_second_22 (by decide) ?_
      exact g_iret e_Ro_second_23 rfl ⟨Sh.n hw, _, rfl, hw, h⟩
    · have h := h.2 z2
      refine g_aload_n 0 e_Ro_second_13 rfl rfl ?_
      refine gf_Ro_21 rfl e_Ro_second_14 hw (lay_Ro hr) (lt_Ro hr) (sh_Ro_seconds hw hr) ?_
      refine g_iload_n 1 e_Ro_second_17 rfl rfl ?_
      obtain ⟨o3, h⟩ := h
      refine w_iaload ((a1).toNatClampNeg) e_Ro_second_18 hw (lay_Ro2 hr) (lt_Ro2 hr) o3 rfl ?_
      refine g_goto 23 e_Ro_second_19 (by decide) ?_
      exact g_iret e_Ro_second_23 rfl ⟨Sh.n hw, _, rfl, hw, h⟩
theorem en_Ro_second {d : Nat} {E : qE} {Q : qW → Int32 → Prop} {r : Nat} {a1 : Int32} {w : qW} (hw : Sh w) (h : c_Ro_second_0 d E Q r a1 w) : CaI d M_Ro_second [.ref (qb E + r), .int a1] E w Q := Ca.into hw rfl (Nat.le_of_ble_eq_true rfl) h
def c_Ta_become_0 (d : Nat) (E : qE) (Q : qW → Prop) (tt : Nat) (a1 : Int32) (a2 : Int32) (w : qW) : Prop := Go d M_Ta_become E 161 161 (qFV Q) 0 [(0, .ref (qb E + tt)), (1, .int a1), (2, .int a2)] [] w
def c_Ta_become_12 (d : Nat) (E : qE) (Q : qW → Prop) (tt : Nat) (l3 : Int32) (w : qW) : Prop := Go d M_Ta_become E 161 161 (qFV Q) 12 [(0, .ref (qb E + tt)), (3, .int l3)] [] w
set_option maxHeartbeats 4000000 in
set_option maxRecDepth 8000 in
theorem s_Ta_become_0 {d : Nat} {E : qE} {Q : qW → Prop} {tt : Nat} {a1 : Int32} {a2 : Int32} {w : qW} (hw : Sh w) (htt : isTa tt) (h : c_Ta_become_12 d E Q tt 0 (qpi (qpi w tt 0 a1) tt 1 a2)) : c_Ta_become_0 d E Q tt a1 a2 w := by
  unfold c_Ta_become_0
  refine g_aload_n 0 e_Ta_become_0 rfl rfl ?_
  refine g_iload_n 1 e_Ta_become_1 rfl rfl ?_
  refine pf_Ta_9 rfl e_Ta_become_2 hw (lay_Ta htt) (lt_Ta htt) ?_
  refine g_aload_n 0 e_Ta_become_5 rfl rfl ?_
  refine g_iload_n 2 e_Ta_become_6 rfl rfl ?_
  refine pf_Ta_19 rfl e_Ta_become_7 hw (lay_Ta htt) (lt_Ta htt) ?_
  refine g_iconst (v := 0) e_Ta_become_10 (by decide) ?_
  refine g_istore_n (lv := [(3, .int 0), (0, .ref (qb E + tt)), (1, .int a1), (2, .int a2)]) e_Ta_become_11 rfl (by decide) rfl ?_
  refine g_loc [1, 0] rfl ?_
  exact h
set_option maxHeartbeats 4000000 in
set_option maxRecDepth 8000 in
theorem s_Ta_become_12 {d : Nat} {E : qE} {Q : qW → Prop} {tt : Nat} {l3 : Int32} {w : qW} (hw : Sh w) (htt : isTa tt) (h : ((60 ≤ l3) → (Q w)) ∧ ((¬ 60 ≤ l3) → (vp_in l3 60 ∧ (c_Ta_become_12 d E Q tt (l3 + 1) (qpl w (tt + 1) ((l3).toNatClampNeg) 0))))) : c_Ta_become_12 d E Q tt l3 w := by
  unfold c_Ta_become_12
  refine g_iload_n 1 e_Ta_become_12 rfl rfl ?_
  refine g_bipush (v := 60) e_Ta_become_13 (by decide) ?_
  refine g_icmp_ge 31 e_Ta_become_15 (by decide) ⟨fun z1 => ?_, fun z1 => ?_⟩
  · have h := h.1 z1
    exact g_vret e_Ta_become_31 rfl ⟨Sh.n hw, rfl, hw, h⟩
  · have h := h.2 z1
    refine g_aload_n 0 e_Ta_become_18 rfl rfl ?_
    refine gf_Ta_15 rfl e_Ta_become_19 hw (lay_Ta htt) (lt_Ta htt) (sh_Ta_items hw htt) ?_
    refine g_iload_n 1 e_Ta_become_22 rfl rfl ?_
    refine g_lconst (v := 0) e_Ta_become_23 rfl ?_
    obtain ⟨o2, h⟩ := h
    refine w_lastore ((l3).toNatClampNeg) e_Ta_become_24 hw (lay_Ta1 htt) (lt_Ta1 htt) o2 rfl ?_
    refine g_iinc (v := (l3 + 1)) (lv := [(3, .int (l3 + 1)), (0, .ref (qb E + tt))]) 1 e_Ta_become_25 rfl rfl (by decide) rfl ?_
    refine g_goto 12 e_Ta_become_28 (by decide) ?_
    refine g_loc [1, 0] rfl ?_
    exact h
theorem en_Ta_become {d : Nat} {E : qE} {Q : qW → Prop} {tt : Nat} {a1 : Int32} {a2 : Int32} {w : qW} (hw : Sh w) (h : c_Ta_become_0 d E Q tt a1 a2 w) : CaV d M_Ta_become [.ref (qb E + tt), .int a1, .int a2] E w Q := Ca.into hw rfl (Nat.le_of_ble_eq_true rfl) h
def c_Ta_has_0 (d : Nat) (E : qE) (Q : qW → Int32 → Prop) (tt : Nat) (a1 : Int32) (w : qW) : Prop := Go d M_Ta_has E 161 161 (qFI Q) 0 [(0, .ref (qb E + tt)), (1, .int a1)] [] w
set_option maxHeartbeats 4000000 in
set_option maxRecDepth 8000 in
theorem s_Ta_has_0 {d : Nat} {E : qE} {Q : qW → Int32 → Prop} {tt : Nat} {a1 : Int32} {w : qW} (hw : Sh w) (htt : isTa tt) (h : ((a1 < 0) → (Q w 0)) ∧ ((¬ a1 < 0) → ((((qi w tt 1) ≤ a1) → (Q w 0)) ∧ ((¬ (qi w tt 1) ≤ a1) → (((60 ≤ a1) → (Q w 0)) ∧ ((¬ 60 ≤ a1) → (Q w 1))))))) : c_Ta_has_0 d E Q tt a1 w := by
  unfold c_Ta_has_0
  refine g_iload_n 1 e_Ta_has_0 rfl rfl ?_
  refine g_if_lt 22 e_Ta_has_1 (by decide) ⟨fun z1 => ?_, fun z1 => ?_⟩
  · have h := h.1 z1
    refine g_iconst (v := 0) e_Ta_has_22 (by decide) ?_
    exact g_zret e_Ta_has_23 rfl (Or.inl rfl) ⟨Sh.n hw, _, rfl, hw, h⟩
  · have h := h.2 z1
    refine g_iload_n 1 e_Ta_has_4 rfl rfl ?_
    refine g_aload_n 0 e_Ta_has_5 rfl rfl ?_
    refine gf_Ta_19 rfl e_Ta_has_6 hw (lay_Ta htt) (lt_Ta htt) ?_
    refine g_icmp_ge 22 e_Ta_has_9 (by decide) ⟨fun z2 => ?_, fun z2 => ?_⟩
    · have h := h.1 z2
      refine g_iconst (v := 0) e_Ta_has_22 (by decide) ?_
      exact g_zret e_Ta_has_23 rfl (Or.inl rfl) ⟨Sh.n hw, _, rfl, hw, h⟩
    · have h := h.2 z2
      refine g_iload_n 1 e_Ta_has_12 rfl rfl ?_
      refine g_bipush (v := 60) e_Ta_has_13 (by decide) ?_
      refine g_icmp_ge 22 e_Ta_has_15 (by decide) ⟨fun z3 => ?_, fun z3 => ?_⟩
      · have h := h.1 z3
        refine g_iconst (v := 0) e_Ta_has_22 (by decide) ?_
        exact g_zret e_Ta_has_23 rfl (Or.inl rfl) ⟨Sh.n hw, _, rfl, hw, h⟩
      · have h := h.2 z3
        refine g_iconst (v := 1) e_Ta_has_18 (by decide) ?_
        refine g_goto 23 e_Ta_has_19 (by decide) ?_
        exact g_zret e_Ta_has_23 rfl (Or.inr rfl) ⟨Sh.n hw, _, rfl, hw, h⟩
theorem en_Ta_has {d : Nat} {E : qE} {Q : qW → Int32 → Prop} {tt : Nat} {a1 : Int32} {w : qW} (hw : Sh w) (h : c_Ta_has_0 d E Q tt a1 w) : CaI d M_Ta_has [.ref (qb E + tt), .int a1] E w Q := Ca.into hw rfl (Nat.le_of_ble_eq_true rfl) h
def c_Ta_hasRun_0 (d : Nat) (E : qE) (Q : qW → Int32 → Prop) (tt : Nat) (a1 : Int32) (a2 : Int32) (w : qW) : Prop := Go d M_Ta_hasRun E 161 161 (qFI Q) 0 [(0, .ref (qb E + tt)), (1, .int a1), (2, .int a2)] [] w
set_option maxHeartbeats 4000000 in
set_option maxRecDepth 8000 in
theorem s_Ta_hasRun_0 {d : Nat} {E : qE} {Q : qW → Int32 → Prop} {tt : Nat} {a1 : Int32} {a2 : Int32} {w : qW} (hw : Sh w) (htt : isTa tt) (h : ((a2 < 0) → (Q w 0)) ∧ ((¬ a2 < 0) → (((a1 < 0) → (Q w 0)) ∧ ((¬ a1 < 0) → (((60 < (qi w tt 1)) → (Q w 0)) ∧ ((¬ 60 < (qi w tt 1)) → (((((qi w tt 1) - a2) < a1) → (Q w 0)) ∧ ((¬ ((qi w tt 1) - a2) < a1) → (Q w 1))))))))) : c_Ta_hasRun_0 d E Q tt a1 a2 w := by
  unfold c_Ta_hasRun_0
  refine g_iload_n 2 e_Ta_hasRun_0 rfl rfl ?_
  refine g_if_lt 31 e_Ta_hasRun_1 (by decide) ⟨fun z1 => ?_, fun z1 => ?_⟩
  · have h := h.1 z1
    refine g_iconst (v := 0) e_Ta_hasRun_31 (by decide) ?_
    exact g_zret e_Ta_hasRun_32 rfl (Or.inl rfl) ⟨Sh.n hw, _, rfl, hw, h⟩
  · have h := h.2 z1
    refine g_iload_n 1 e_Ta_hasRun_4 rfl rfl ?_
    refine g_if_lt 31 e_Ta_hasRun_5 (by decide) ⟨fun z2 => ?_, fun z2 => ?_⟩
    · have h := h.1 z2
      refine g_iconst (v := 0) e_Ta_hasRun_31 (by decide) ?_
      exact g_zret e_Ta_hasRun_32 rfl (Or.inl rfl) ⟨Sh.n hw, _, rfl, hw, h⟩
    · have h := h.2 z2
      refine g_aload_n 0 e_Ta_hasRun_8 rfl rfl ?_
      refine gf_Ta_19 rfl e_Ta_hasRun_9 hw (lay_Ta htt) (lt_Ta htt) ?_
      refine g_bipush (v := 60) e_Ta_hasRun_12 (by decide) ?_
      refine g_icmp_gt 31 e_Ta_hasRun_14 (by decide) ⟨fun z3 => ?_, fun z3 => ?_⟩
      · have h := h.1 z3
        refine g_iconst (v := 0) e_Ta_hasRun_31 (by decide) ?_
        exact g_zret e_Ta_hasRun_32 rfl (Or.inl rfl) ⟨Sh.n hw, _, rfl, hw, h⟩
      · have h := h.2 z3
        refine g_iload_n 1 e_Ta_hasRun_17 rfl rfl ?_
        refine g_aload_n 0 e_Ta_hasRun_18 rfl rfl ?_
        refine gf_Ta_19 rfl e_Ta_hasRun_19 hw (lay_Ta htt) (lt_Ta htt) ?_
        refine g_iload_n 2 e_Ta_hasRun_22 rfl rfl ?_
        refine g_isub e_Ta_hasRun_23 ?_
        refine g_icmp_gt 31 e_Ta_hasRun_24 (by decide) ⟨fun z4 => ?_, fun z4 => ?_⟩
        · have h := h.1 z4
          refine g_iconst (v := 0) e_Ta_hasRun_31 (by decide) ?_
          exact g_zret e_Ta_hasRun_32 rfl (Or.inl rfl) ⟨Sh.n hw, _, rfl, hw, h⟩
        · have h := h.2 z4
          refine g_iconst (v := 1) e_Ta_hasRun_27 (by decide) ?_
          refine g_goto 32 e_Ta_hasRun_28 (by decide) ?_
          exact g_zret e_Ta_hasRun_32 rfl (Or.inr rfl) ⟨Sh.n hw, _, rfl, hw, h⟩
theorem en_Ta_hasRun {d : Nat} {E : qE} {Q : qW → Int32 → Prop} {tt : Nat} {a1 : Int32} {a2 : Int32} {w : qW} (hw : Sh w) (h : c_Ta_hasRun_0 d E Q tt a1 a2 w) : CaI d M_Ta_hasRun [.ref (qb E + tt), .int a1, .int a2] E w Q := Ca.into hw rfl (Nat.le_of_ble_eq_true rfl) h
def c_Ta_fitted_0 (d : Nat) (E : qE) (Q : qW → Int64 → Prop) (tt : Nat) (a1 : Int64) (w : qW) : Prop := Go d M_Ta_fitted E 161 161 (qFL Q) 0 [(0, .ref (qb E + tt)), (1, .long a1)] [] w
set_option maxHeartbeats 4000000 in
set_option maxRecDepth 8000 in
theorem s_Ta_fitted_0 {d : Nat} {E : qE} {Q : qW → Int64 → Prop} {tt : Nat} {a1 : Int64} {w : qW} (hw : Sh w) (htt : isTa tt) (h : ((qi w tt 0) = 0 → (Q w ((((a1 : Int64).toInt32 : Int32).toInt8.toInt32 : Int32).toInt64))) ∧ ((qi w tt 0) = 1 → (Q w ((((a1 : Int64).toInt32 : Int32).toInt16.toInt32 : Int32).toInt64))) ∧ ((qi w tt 0) = 2 → (Q w (((a1 : Int64).toInt32 : Int32).toInt64))) ∧ ((qi w tt 0) = 3 → (Q w a1)) ∧ ((qi w tt 0) = 4 → ((((lg_cmp a1 0) = 0) → (Q w 0)) ∧ ((¬ (lg_cmp a1 0) = 0) → (Q w 1)))) ∧ (((qi w tt 0).toInt < 0 ∨ 4 < (qi w tt 0).toInt) → (Q w a1))) : c_Ta_fitted_0 d E Q tt a1 w := by
  unfold c_Ta_fitted_0
  refine g_aload_n 0 e_Ta_fitted_0 rfl rfl ?_
  refine gf_Ta_9 rfl e_Ta_fitted_1 hw (lay_Ta htt) (lt_Ta htt) ?_
  refine g_table e_Ta_fitted_4 5 (by decide) [40, 45, 50, 66, 54] 66 (by decide) (by decide +kernel) ⟨fun j1 hj1 hx1 => ?_, fun hx1 => ?_⟩
  · rcases (show j1 = 0 ∨ j1 = 1 ∨ j1 = 2 ∨ j1 = 3 ∨ j1 = 4 by omega) with rfl | rfl | rfl | rfl | rfl
    · have h := h.1 (q_key hx1 (by decide))
      change Go _ _ _ _ _ _ 40 _ _ _
      refine g_lload_n 1 e_Ta_fitted_40 rfl rfl ?_
      refine g_l2i e_Ta_fitted_41 ?_
      refine g_i2b e_Ta_fitted_42 ?_
      refine g_i2l e_Ta_fitted_43 ?_
      exact g_lret e_Ta_fitted_44 rfl ⟨Sh.n hw, _, rfl, hw, h⟩
    · have h := h.2.1 (q_key hx1 (by decide))
      change Go _ _ _ _ _ _ 45 _ _ _
      refine g_lload_n 1 e_Ta_fitted_45 rfl rfl ?_
      refine g_l2i e_Ta_fitted_46 ?_
      refine g_i2s e_Ta_fitted_47 ?_
      refine g_i2l e_Ta_fitted_48 ?_
      exact g_lret e_Ta_fitted_49 rfl ⟨Sh.n hw, _, rfl, hw, h⟩
    · have h := h.2.2.1 (q_key hx1 (by decide))
      change Go _ _ _ _ _ _ 50 _ _ _
      refine g_lload_n 1 e_Ta_fitted_50 rfl rfl ?_
      refine g_l2i e_Ta_fitted_51 ?_
      refine g_i2l e_Ta_fitted_52 ?_
      exact g_lret e_Ta_fitted_53 rfl ⟨Sh.n hw, _, rfl, hw, h⟩
    · have h := h.2.2.2.1 (q_key hx1 (by decide))
      change Go _ _ _ _ _ _ 66 _ _ _
      refine g_lload_n 1 e_Ta_fitted_66 rfl rfl ?_
      exact g_lret e_Ta_fitted_67 rfl ⟨Sh.n hw, _, rfl, hw, h⟩
    · have h := h.2.2.2.2.1 (q_key hx1 (by decide))
      change Go _ _ _ _ _ _ 54 _ _ _
      refine g_lload_n 1 e_Ta_fitted_54 rfl rfl ?_
      refine g_lconst (v := 0) e_Ta_fitted_55 rfl ?_
      refine g_lcmp e_Ta_fitted_56 ?_
      refine g_if_eq 64 e_Ta_fitted_57 (by decide) ⟨fun z2 => ?_, fun z2 => ?_⟩
      · have h := h.1 z2
        refine g_lconst (v := 0) e_Ta_fitted_64 rfl ?_
        exact g_lret e_Ta_fitted_65 rfl ⟨Sh.n hw, _, rfl, hw, h⟩
      · have h := h.2 z2
        refine g_lconst (v := 1) e_Ta_fitted_60 rfl ?_
        refine g_goto 65 e_Ta_fitted_61 (by decide) ?_
        exact g_lret e_Ta_fitted_65 rfl ⟨Sh.n hw, _, rfl, hw, h⟩
  · have h := h.2.2.2.2.2 hx1
    refine g_lload_n 1 e_Ta_fitted_66 rfl rfl ?_
    exact g_lret e_Ta_fitted_67 rfl ⟨Sh.n hw, _, rfl, hw, h⟩
theorem en_Ta_fitted {d : Nat} {E : qE} {Q : qW → Int64 → Prop} {tt : Nat} {a1 : Int64} {w : qW} (hw : Sh w) (h : c_Ta_fitted_0 d E Q tt a1 w) : CaL d M_Ta_fitted [.ref (qb E + tt), .long a1] E w Q := Ca.into hw rfl (Nat.le_of_ble_eq_true rfl) h
def c_Th_copyFrom_0 (d : Nat) (E : qE) (Q : qW → Prop) (t : Nat) (p1 : Nat) (w : qW) : Prop := Go (d + 1) M_Th_copyFrom E 161 161 (qFV Q) 0 [(0, .ref (qb E + t)), (1, .ref (qb E + p1))] [] w
set_option maxHeartbeats 4000000 in
set_option maxRecDepth 8000 in
theorem s_Th_copyFrom_0 {d : Nat} {E : qE} {Q : qW → Prop} {t : Nat} {p1 : Nat} {w : qW} (hw : Sh w) (ht : isTh t) (hp1 : isTh p1) (h : Q (qcp (qpi (qpi (qpi (qpi (qpi (qpi w t 1 (qi w p1 1)) t 2 (qi (qpi w t 1 (qi w p1 1)) p1 2)) t 3 (qi (qpi (qpi w t 1 (qi w p1 1)) t 2 (qi (qpi w t 1 (qi w p1 1)) p1 2)) p1 3)) t 4 (qi (qpi (qpi (qpi w t 1 (qi w p1 1)) t 2 (qi (qpi w t 1 (qi w p1 1)) p1 2)) t 3 (qi (qpi (qpi w t 1 (qi w p1 1)) t 2 (qi (qpi w t 1 (qi w p1 1)) p1 2)) p1 3)) p1 4)) t 5 (qi (qpi (qpi (qpi (qpi w t 1 (qi w p1 1)) t 2 (qi (qpi w t 1 (qi w p1 1)) p1 2)) t 3 (qi (qpi (qpi w t 1 (qi w p1 1)) t 2 (qi (qpi w t 1 (qi w p1 1)) p1 2)) p1 3)) t 4 (qi (qpi (qpi (qpi w t 1 (qi w p1 1)) t 2 (qi (qpi w t 1 (qi w p1 1)) p1 2)) t 3 (qi (qpi (qpi w t 1 (qi w p1 1)) t 2 (qi (qpi w t 1 (qi w p1 1)) p1 2)) p1 3)) p1 4)) p1 5)) t 6 (qi (qpi (qpi (qpi (qpi (qpi w t 1 (qi w p1 1)) t 2 (qi (qpi w t 1 (qi w p1 1)) p1 2)) t 3 (qi (qpi (qpi w t 1 (qi w p1 1)) t 2 (qi (qpi w t 1 (qi w p1 1)) p1 2)) p1 3)) t 4 (qi (qpi (qpi (qpi w t 1 (qi w p1 1)) t 2 (qi (qpi w t 1 (qi w p1 1)) p1 2)) t 3 (qi (qpi (qpi w t 1 (qi w p1 1)) t 2 (qi (qpi w t 1 (qi w p1 1)) p1 2)) p1 3)) p1 4)) t 5 (qi (qpi (qpi (qpi (qpi w t 1 (qi w p1 1)) t 2 (qi (qpi w t 1 (qi w p1 1)) p1 2)) t 3 (qi (qpi (qpi w t 1 (qi w p1 1)) t 2 (qi (qpi w t 1 (qi w p1 1)) p1 2)) p1 3)) t 4 (qi (qpi (qpi (qpi w t 1 (qi w p1 1)) t 2 (qi (qpi w t 1 (qi w p1 1)) p1 2)) t 3 (qi (qpi (qpi w t 1 (qi w p1 1)) t 2 (qi (qpi w t 1 (qi w p1 1)) p1 2)) p1 3)) p1 4)) p1 5)) p1 6)) (p1 + 1) 0 (t + 1) 0 4)) : c_Th_copyFrom_0 d E Q t p1 w := by
  unfold c_Th_copyFrom_0
  refine g_aload_n 0 e_Th_copyFrom_0 rfl rfl ?_
  refine g_aload_n 1 e_Th_copyFrom_1 rfl rfl ?_
  refine gf_Th_19 rfl e_Th_copyFrom_2 hw (lay_Th hp1) (lt_Th hp1) ?_
  refine pf_Th_19 rfl e_Th_copyFrom_5 hw (lay_Th ht) (lt_Th ht) ?_
  refine g_aload_n 0 e_Th_copyFrom_8 rfl rfl ?_
  refine g_aload_n 1 e_Th_copyFrom_9 rfl rfl ?_
  refine gf_Th_22 rfl e_Th_copyFrom_10 hw (lay_Th hp1) (lt_Th hp1) ?_
  refine pf_Th_22 rfl e_Th_copyFrom_13 hw (lay_Th ht) (lt_Th ht) ?_
  refine g_aload_n 0 e_Th_copyFrom_16 rfl rfl ?_
  refine g_aload_n 1 e_Th_copyFrom_17 rfl rfl ?_
  refine gf_Th_25 rfl e_Th_copyFrom_18 hw (lay_Th hp1) (lt_Th hp1) ?_
  refine pf_Th_25 rfl e_Th_copyFrom_21 hw (lay_Th ht) (lt_Th ht) ?_
  refine g_aload_n 0 e_Th_copyFrom_24 rfl rfl ?_
  refine g_aload_n 1 e_Th_copyFrom_25 rfl rfl ?_
  refine gf_Th_28 rfl e_Th_copyFrom_26 hw (lay_Th hp1) (lt_Th hp1) ?_
  refine pf_Th_28 rfl e_Th_copyFrom_29 hw (lay_Th ht) (lt_Th ht) ?_
  refine g_aload_n 0 e_Th_copyFrom_32 rfl rfl ?_
  refine g_aload_n 1 e_Th_copyFrom_33 rfl rfl ?_
  refine gf_Th_31 rfl e_Th_copyFrom_34 hw (lay_Th hp1) (lt_Th hp1) ?_
  refine pf_Th_31 rfl e_Th_copyFrom_37 hw (lay_Th ht) (lt_Th ht) ?_
  refine g_aload_n 0 e_Th_copyFrom_40 rfl rfl ?_
  refine g_aload_n 1 e_Th_copyFrom_41 rfl rfl ?_
  refine gf_Th_34 rfl e_Th_copyFrom_42 hw (lay_Th hp1) (lt_Th hp1) ?_
  refine pf_Th_34 rfl e_Th_copyFrom_45 hw (lay_Th ht) (lt_Th ht) ?_
  refine g_aload_n 1 e_Th_copyFrom_48 rfl rfl ?_
  refine gf_Th_9 rfl e_Th_copyFrom_49 hw (lay_Th hp1) (lt_Th hp1) (sh_Row hw hp1) ?_
  refine g_iconst (v := 0) e_Th_copyFrom_52 (by decide) ?_
  refine g_aload_n 0 e_Th_copyFrom_53 rfl rfl ?_
  refine gf_Th_9 rfl e_Th_copyFrom_54 hw (lay_Th ht) (lt_Th ht) (sh_Row hw ht) ?_
  refine g_iconst (v := 0) e_Th_copyFrom_57 (by decide) ?_
  refine g_iconst (v := 4) e_Th_copyFrom_58 (by decide) ?_
  refine g_copy (i0 := 0) e_Th_copyFrom_59 km_Th_37 (lay_Row hp1) (lay_Row ht) (qlt hw (lt_Row hp1)) (qlt hw (lt_Row ht)) hw.1 (by decide) (by decide) (by decide) (by decide) (by decide) (Nat.le_of_ble_eq_true rfl) ?_
  exact g_vret e_Th_copyFrom_62 rfl ⟨Sh.n hw, rfl, hw, h⟩
theorem en_Th_copyFrom {d : Nat} {E : qE} {Q : qW → Prop} {t : Nat} {p1 : Nat} {w : qW} (hw : Sh w) (h : c_Th_copyFrom_0 d E Q t p1 w) : CaV (d + 1) M_Th_copyFrom [.ref (qb E + t), .ref (qb E + p1)] E w Q := Ca.into hw rfl (Nat.le_of_ble_eq_true rfl) h
def c_Th_begin_0 (d : Nat) (E : qE) (Q : qW → Prop) (t : Nat) (a1 : Int32) (a2 : Int32) (a3 : Int32) (a4 : Int32) (w : qW) : Prop := Go d M_Th_begin E 161 161 (qFV Q) 0 [(0, .ref (qb E + t)), (1, .int a1), (2, .int a2), (3, .int a3), (4, .int a4)] [] w
def c_Th_begin_34 (d : Nat) (E : qE) (Q : qW → Prop) (t : Nat) (l5 : Int32) (w : qW) : Prop := Go d M_Th_begin E 161 161 (qFV Q) 34 [(0, .ref (qb E + t)), (5, .int l5)] [] w
set_option maxHeartbeats 4000000 in
set_option maxRecDepth 8000 in
theorem s_Th_begin_0 {d : Nat} {E : qE} {Q : qW → Prop} {t : Nat} {a1 : Int32} {a2 : Int32} {a3 : Int32} {a4 : Int32} {w : qW} (hw : Sh w) (ht : isTh t) (h : c_Th_begin_34 d E Q t 0 (qpi (qpi (qpi (qpi (qpi (qpi w t 1 a1) t 2 a2) t 3 a3) t 4 a4) t 5 0) t 6 0)) : c_Th_begin_0 d E Q t a1 a2 a3 a4 w := by
  unfold c_Th_begin_0
  refine g_aload_n 0 e_Th_begin_0 rfl rfl ?_
  refine g_iload_n 1 e_Th_begin_1 rfl rfl ?_
  refine pf_Th_19 rfl e_Th_begin_2 hw (lay_Th ht) (lt_Th ht) ?_
  refine g_aload_n 0 e_Th_begin_5 rfl rfl ?_
  refine g_iload_n 2 e_Th_begin_6 rfl rfl ?_
  refine pf_Th_22 rfl e_Th_begin_7 hw (lay_Th ht) (lt_Th ht) ?_
  refine g_aload_n 0 e_Th_begin_10 rfl rfl ?_
  refine g_iload_n 3 e_Th_begin_11 rfl rfl ?_
  refine pf_Th_25 rfl e_Th_begin_12 hw (lay_Th ht) (lt_Th ht) ?_
  refine g_aload_n 0 e_Th_begin_15 rfl rfl ?_
  refine g_iload 4 e_Th_begin_16 rfl ?_
  refine pf_Th_28 rfl e_Th_begin_18 hw (lay_Th ht) (lt_Th ht) ?_
  refine g_aload_n 0 e_Th_begin_21 rfl rfl ?_
  refine g_iconst (v := 0) e_Th_begin_22 (by decide) ?_
  refine pf_Th_31 rfl e_Th_begin_23 hw (lay_Th ht) (lt_Th ht) ?_
  refine g_aload_n 0 e_Th_begin_26 rfl rfl ?_
  refine g_iconst (v := 0) e_Th_begin_27 (by decide) ?_
  refine pf_Th_34 rfl e_Th_begin_28 hw (lay_Th ht) (lt_Th ht) ?_
  refine g_iconst (v := 0) e_Th_begin_31 (by decide) ?_
  refine g_istore (lv := [(5, .int 0), (0, .ref (qb E + t)), (1, .int a1), (2, .int a2), (3, .int a3), (4, .int a4)]) e_Th_begin_32 (by decide) rfl ?_
  refine g_loc [1, 0] rfl ?_
  exact h
set_option maxHeartbeats 4000000 in
set_option maxRecDepth 8000 in
theorem s_Th_begin_34 {d : Nat} {E : qE} {Q : qW → Prop} {t : Nat} {l5 : Int32} {w : qW} (hw : Sh w) (ht : isTh t) (h : ((4 ≤ l5) → (Q w)) ∧ ((¬ 4 ≤ l5) → (vp_in l5 4 ∧ (c_Th_begin_34 d E Q t (l5 + 1) (qpi w (t + 1) ((l5).toNatClampNeg) 0))))) : c_Th_begin_34 d E Q t l5 w := by
  unfold c_Th_begin_34
  refine g_iload 1 e_Th_begin_34 rfl ?_
  refine g_iconst (v := 4) e_Th_begin_36 (by decide) ?_
  refine g_icmp_ge 54 e_Th_begin_37 (by decide) ⟨fun z1 => ?_, fun z1 => ?_⟩
  · have h := h.1 z1
    exact g_vret e_Th_begin_54 rfl ⟨Sh.n hw, rfl, hw, h⟩
  · have h := h.2 z1
    refine g_aload_n 0 e_Th_begin_40 rfl rfl ?_
    refine gf_Th_9 rfl e_Th_begin_41 hw (lay_Th ht) (lt_Th ht) (sh_Row hw ht) ?_
    refine g_iload 1 e_Th_begin_44 rfl ?_
    refine g_iconst (v := 0) e_Th_begin_46 (by decide) ?_
    obtain ⟨o2, h⟩ := h
    refine w_iastore ((l5).toNatClampNeg) e_Th_begin_47 hw (lay_Row ht) (lt_Row ht) o2 rfl ?_
    refine g_iinc (v := (l5 + 1)) (lv := [(5, .int (l5 + 1)), (0, .ref (qb E + t))]) 1 e_Th_begin_48 rfl rfl (by decide) rfl ?_
    refine g_goto 34 e_Th_begin_51 (by decide) ?_
    refine g_loc [1, 0] rfl ?_
    exact h
theorem en_Th_begin {d : Nat} {E : qE} {Q : qW → Prop} {t : Nat} {a1 : Int32} {a2 : Int32} {a3 : Int32} {a4 : Int32} {w : qW} (hw : Sh w) (h : c_Th_begin_0 d E Q t a1 a2 a3 a4 w) : CaV d M_Th_begin [.ref (qb E + t), .int a1, .int a2, .int a3, .int a4] E w Q := Ca.into hw rfl (Nat.le_of_ble_eq_true rfl) h
def c_Th_putIn_0 (d : Nat) (E : qE) (Q : qW → Prop) (t : Nat) (w : qW) : Prop := Go d M_Th_putIn E 161 161 (qFV Q) 0 [(0, .ref (qb E + t))] [] w
set_option maxHeartbeats 4000000 in
set_option maxRecDepth 8000 in
theorem s_Th_putIn_0 {d : Nat} {E : qE} {Q : qW → Prop} {t : Nat} {w : qW} (hw : Sh w) (ht : isTh t) (h : Q (qpi (qpi w t 5 1) t 6 0)) : c_Th_putIn_0 d E Q t w := by
  unfold c_Th_putIn_0
  refine g_aload_n 0 e_Th_putIn_0 rfl rfl ?_
  refine g_iconst (v := 1) e_Th_putIn_1 (by decide) ?_
  refine pf_Th_31 rfl e_Th_putIn_2 hw (lay_Th ht) (lt_Th ht) ?_
  refine g_aload_n 0 e_Th_putIn_5 rfl rfl ?_
  refine g_iconst (v := 0) e_Th_putIn_6 (by decide) ?_
  refine pf_Th_34 rfl e_Th_putIn_7 hw (lay_Th ht) (lt_Th ht) ?_
  exact g_vret e_Th_putIn_10 rfl ⟨Sh.n hw, rfl, hw, h⟩
theorem en_Th_putIn {d : Nat} {E : qE} {Q : qW → Prop} {t : Nat} {w : qW} (hw : Sh w) (h : c_Th_putIn_0 d E Q t w) : CaV d M_Th_putIn [.ref (qb E + t)] E w Q := Ca.into hw rfl (Nat.le_of_ble_eq_true rfl) h
def c_Th_isUnder_0 (d : Nat) (E : qE) (Q : qW → Int32 → Prop) (t : Nat) (a1 : Int32) (w : qW) : Prop := Go d M_Th_isUnder E 161 161 (qFI Q) 0 [(0, .ref (qb E + t)), (1, .int a1)] [] w
def c_Th_isUnder_7 (d : Nat) (E : qE) (Q : qW → Int32 → Prop) (l1 : Int32) (l2 : Int32) (l3 : Int32) (w : qW) : Prop := Go d M_Th_isUnder E 161 161 (qFI Q) 7 [(1, .int l1), (2, .int l2), (3, .int l3)] [] w
set_option maxHeartbeats 4000000 in
set_option maxRecDepth 8000 in
theorem s_Th_isUnder_0 {d : Nat} {E : qE} {Q : qW → Int32 → Prop} {t : Nat} {a1 : Int32} {w : qW} (hw : Sh w) (ht : isTh t) (h : c_Th_isUnder_7 d E Q a1 (qi w t 1) 0 w) : c_Th_isUnder_0 d E Q t a1 w := by
  unfold c_Th_isUnder_0
  refine g_aload_n 0 e_Th_isUnder_0 rfl rfl ?_
  refine gf_Th_19 rfl e_Th_isUnder_1 hw (lay_Th ht) (lt_Th ht) ?_
  refine g_istore_n (lv := [(2, .int (qi w t 1)), (0, .ref (qb E + t)), (1, .int a1)]) e_Th_isUnder_4 rfl (by decide) rfl ?_
  refine g_iconst (v := 0) e_Th_isUnder_5 (by decide) ?_
  refine g_istore_n (lv := [(3, .int 0), (2, .int (qi w t 1)), (0, .ref (qb E + t)), (1, .int a1)]) e_Th_isUnder_6 rfl (by decide) rfl ?_
  refine g_loc [3, 1, 0] rfl ?_
  exact h
set_option maxHeartbeats 4000000 in
set_option maxRecDepth 8000 in
theorem s_Th_isUnder_7 {d : Nat} {E : qE} {Q : qW → Int32 → Prop} {l1 : Int32} {l2 : Int32} {l3 : Int32} {w : qW} (hw : Sh w) (h : ((7 ≤ l3) → (Q w 0)) ∧ ((¬ 7 ≤ l3) → (((l2 < 0) → (Q w 0)) ∧ ((¬ l2 < 0) → (((7 ≤ l2) → (Q w 0)) ∧ ((¬ 7 ≤ l2) → (((¬ l2 = l1) → (vp_in l2 7 ∧ (c_Th_isUnder_7 d E Q l1 (qAbove (l2 : Int32).toNatClampNeg) (l3 + 1) w))) ∧ ((l2 = l1) → (Q w 1))))))))) : c_Th_isUnder_7 d E Q l1 l2 l3 w := by
  unfold c_Th_isUnder_7
  refine g_iload_n 2 e_Th_isUnder_7 rfl rfl ?_
  refine g_aboveT rfl e_Th_isUnder_8 ?_
  refine g_t0len e_Th_isUnder_11 ?_
  refine g_icmp_ge 46 e_Th_isUnder_12 (by decide) ⟨fun z1 => ?_, fun z1 => ?_⟩
  · have h := h.1 z1
    refine g_iconst (v := 0) e_Th_isUnder_46 (by decide) ?_
    exact g_zret e_Th_isUnder_47 rfl (Or.inl rfl) ⟨Sh.n hw, _, rfl, hw, h⟩
  · have h := h.2 z1
    refine g_iload_n 1 e_Th_isUnder_15 rfl rfl ?_
    refine g_if_lt 46 e_Th_isUnder_16 (by decide) ⟨fun z2 => ?_, fun z2 => ?_⟩
    · have h := h.1 z2
      refine g_iconst (v := 0) e_Th_isUnder_46 (by decide) ?_
      exact g_zret e_Th_isUnder_47 rfl (Or.inl rfl) ⟨Sh.n hw, _, rfl, hw, h⟩
    · have h := h.2 z2
      refine g_iload_n 1 e_Th_isUnder_19 rfl rfl ?_
      refine g_aboveT rfl e_Th_isUnder_20 ?_
      refine g_t0len e_Th_isUnder_23 ?_
      refine g_icmp_ge 46 e_Th_isUnder_24 (by decide) ⟨fun z3 => ?_, fun z3 => ?_⟩
      · have h := h.1 z3
        refine g_iconst (v := 0) e_Th_isUnder_46 (by decide) ?_
        exact g_zret e_Th_isUnder_47 rfl (Or.inl rfl) ⟨Sh.n hw, _, rfl, hw, h⟩
      · have h := h.2 z3
        refine g_iload_n 1 e_Th_isUnder_27 rfl rfl ?_
        refine g_iload_n 0 e_Th_isUnder_28 rfl rfl ?_
        refine g_icmp_ne 34 e_Th_isUnder_29 (by decide) ⟨fun z4 => ?_, fun z4 => ?_⟩
        · have h := h.1 z4
          refine g_aboveT rfl e_Th_isUnder_34 ?_
          refine g_iload_n 1 e_Th_isUnder_37 rfl rfl ?_
          obtain ⟨o5, h⟩ := h
          refine g_t0ld e_Th_isUnder_38 o5 ?_
          refine g_istore_n (lv := [(2, .int (qAbove (l2 : Int32).toNatClampNeg)), (1, .int l1), (3, .int l3)]) e_Th_isUnder_39 rfl (by decide) rfl ?_
          refine g_iinc (v := (l3 + 1)) (lv := [(3, .int (l3 + 1)), (2, .int (qAbove (l2 : Int32).toNatClampNeg)), (1, .int l1)]) 2 e_Th_isUnder_40 rfl rfl (by decide) rfl ?_
          refine g_goto 7 e_Th_isUnder_43 (by decide) ?_
          refine g_loc [2, 1, 0] rfl ?_
          exact h
        · have h := h.2 z4
          refine g_iconst (v := 1) e_Th_isUnder_32 (by decide) ?_
          exact g_zret e_Th_isUnder_33 rfl (Or.inr rfl) ⟨Sh.n hw, _, rfl, hw, h⟩
theorem en_Th_isUnder {d : Nat} {E : qE} {Q : qW → Int32 → Prop} {t : Nat} {a1 : Int32} {w : qW} (hw : Sh w) (h : c_Th_isUnder_0 d E Q t a1 w) : CaI d M_Th_isUnder [.ref (qb E + t), .int a1] E w Q := Ca.into hw rfl (Nat.le_of_ble_eq_true rfl) h
def c_Ji_bitCount_0 (d : Nat) (E : qE) (Q : qW → Int32 → Prop) (a0 : Int32) (w : qW) : Prop := Go d M_Ji_bitCount E 161 161 (qFI Q) 0 [(0, .int a0)] [] w
set_option maxHeartbeats 4000000 in
set_option maxRecDepth 8000 in
theorem s_Ji_bitCount_0 {d : Nat} {E : qE} {Q : qW → Int32 → Prop} {a0 : Int32} {w : qW} (hw : Sh w) (h : Q w ((((((((a0 - ((((a0).toUInt32 >>> ((1 : Int32).toUInt32 &&& Int32.toUInt32 31)).toInt32) &&& 1431655765)) &&& 858993459) + (((((a0 - ((((a0).toUInt32 >>> ((1 : Int32).toUInt32 &&& Int32.toUInt32 31)).toInt32) &&& 1431655765))).toUInt32 >>> ((2 : Int32).toUInt32 &&& Int32.toUInt32 31)).toInt32) &&& 858993459)) + ((((((a0 - ((((a0).toUInt32 >>> ((1 : Int32).toUInt32 &&& Int32.toUInt32 31)).toInt32) &&& 1431655765)) &&& 858993459) + (((((a0 - ((((a0).toUInt32 >>> ((1 : Int32).toUInt32 &&& Int32.toUInt32 31)).toInt32) &&& 1431655765))).toUInt32 >>> ((2 : Int32).toUInt32 &&& Int32.toUInt32 31)).toInt32) &&& 858993459))).toUInt32 >>> ((4 : Int32).toUInt32 &&& Int32.toUInt32 31)).toInt32)) &&& 252645135) + ((((((((a0 - ((((a0).toUInt32 >>> ((1 : Int32).toUInt32 &&& Int32.toUInt32 31)).toInt32) &&& 1431655765)) &&& 858993459) + (((((a0 - ((((a0).toUInt32 >>> ((1 : Int32).toUInt32 &&& Int32.toUInt32 31)).toInt32) &&& 1431655765))).toUInt32 >>> ((2 : Int32).toUInt32 &&& Int32.toUInt32 31)).toInt32) &&& 858993459)) + ((((((a0 - ((((a0).toUInt32 >>> ((1 : Int32).toUInt32 &&& Int32.toUInt32 31)).toInt32) &&& 1431655765)) &&& 858993459) + (((((a0 - ((((a0).toUInt32 >>> ((1 : Int32).toUInt32 &&& Int32.toUInt32 31)).toInt32) &&& 1431655765))).toUInt32 >>> ((2 : Int32).toUInt32 &&& Int32.toUInt32 31)).toInt32) &&& 858993459))).toUInt32 >>> ((4 : Int32).toUInt32 &&& Int32.toUInt32 31)).toInt32)) &&& 252645135)).toUInt32 >>> ((8 : Int32).toUInt32 &&& Int32.toUInt32 31)).toInt32)) + (((((((((a0 - ((((a0).toUInt32 >>> ((1 : Int32).toUInt32 &&& Int32.toUInt32 31)).toInt32) &&& 1431655765)) &&& 858993459) + (((((a0 - ((((a0).toUInt32 >>> ((1 : Int32).toUInt32 &&& Int32.toUInt32 31)).toInt32) &&& 1431655765))).toUInt32 >>> ((2 : Int32).toUInt32 &&& Int32.toUInt32 31)).toInt32) &&& 858993459)) + ((((((a0 - ((((a0).toUInt32 >>> ((1 : Int32).toUInt32 &&& Int32.toUInt32 31)).toInt32) &&& 1431655765)) &&& 858993459) + (((((a0 - ((((a0).toUInt32 >>> ((1 : Int32).toUInt32 &&& Int32.toUInt32 31)).toInt32) &&& 1431655765))).toUInt32 >>> ((2 : Int32).toUInt32 &&& Int32.toUInt32 31)).toInt32) &&& 858993459))).toUInt32 >>> ((4 : Int32).toUInt32 &&& Int32.toUInt32 31)).toInt32)) &&& 252645135) + ((((((((a0 - ((((a0).toUInt32 >>> ((1 : Int32).toUInt32 &&& Int32.toUInt32 31)).toInt32) &&& 1431655765)) &&& 858993459) + (((((a0 - ((((a0).toUInt32 >>> ((1 : Int32).toUInt32 &&& Int32.toUInt32 31)).toInt32) &&& 1431655765))).toUInt32 >>> ((2 : Int32).toUInt32 &&& Int32.toUInt32 31)).toInt32) &&& 858993459)) + ((((((a0 - ((((a0).toUInt32 >>> ((1 : Int32).toUInt32 &&& Int32.toUInt32 31)).toInt32) &&& 1431655765)) &&& 858993459) + (((((a0 - ((((a0).toUInt32 >>> ((1 : Int32).toUInt32 &&& Int32.toUInt32 31)).toInt32) &&& 1431655765))).toUInt32 >>> ((2 : Int32).toUInt32 &&& Int32.toUInt32 31)).toInt32) &&& 858993459))).toUInt32 >>> ((4 : Int32).toUInt32 &&& Int32.toUInt32 31)).toInt32)) &&& 252645135)).toUInt32 >>> ((8 : Int32).toUInt32 &&& Int32.toUInt32 31)).toInt32))).toUInt32 >>> ((16 : Int32).toUInt32 &&& Int32.toUInt32 31)).toInt32)) &&& 63)) : c_Ji_bitCount_0 d E Q a0 w := by
  unfold c_Ji_bitCount_0
  refine g_iload_n 0 e_Ji_bitCount_0 rfl rfl ?_
  refine g_iload_n 0 e_Ji_bitCount_1 rfl rfl ?_
  refine g_iconst (v := 1) e_Ji_bitCount_2 (by decide) ?_
  refine g_iushr e_Ji_bitCount_3 ?_
  refine g_ldcw (v := 1431655765) e_Ji_bitCount_4 kk_Ji_265 ?_
  refine g_iand e_Ji_bitCount_7 ?_
  refine g_isub e_Ji_bitCount_8 ?_
  refine g_istore_n (lv := [(0, .int (a0 - ((((a0).toUInt32 >>> ((1 : Int32).toUInt32 &&& Int32.toUInt32 31)).toInt32) &&& 1431655765)))]) e_Ji_bitCount_9 rfl (by decide) rfl ?_
  refine g_iload_n 0 e_Ji_bitCount_10 rfl rfl ?_
  refine g_ldcw (v := 858993459) e_Ji_bitCount_11 kk_Ji_266 ?_
  refine g_iand e_Ji_bitCount_14 ?_
  refine g_iload_n 0 e_Ji_bitCount_15 rfl rfl ?_
  refine g_iconst (v := 2) e_Ji_bitCount_16 (by decide) ?_
  refine g_iushr e_Ji_bitCount_17 ?_
  refine g_ldcw (v := 858993459) e_Ji_bitCount_18 kk_Ji_266 ?_
  refine g_iand e_Ji_bitCount_21 ?_
  refine g_iadd e_Ji_bitCount_22 ?_
  refine g_istore_n (lv := [(0, .int (((a0 - ((((a0).toUInt32 >>> ((1 : Int32).toUInt32 &&& Int32.toUInt32 31)).toInt32) &&& 1431655765)) &&& 858993459) + (((((a0 - ((((a0).toUInt32 >>> ((1 : Int32).toUInt32 &&& Int32.toUInt32 31)).toInt32) &&& 1431655765))).toUInt32 >>> ((2 : Int32).toUInt32 &&& Int32.toUInt32 31)).toInt32) &&& 858993459)))]) e_Ji_bitCount_23 rfl (by decide) rfl ?_
  refine g_iload_n 0 e_Ji_bitCount_24 rfl rfl ?_
  refine g_iload_n 0 e_Ji_bitCount_25 rfl rfl ?_
  refine g_iconst (v := 4) e_Ji_bitCount_26 (by decide) ?_
  refine g_iushr e_Ji_bitCount_27 ?_
  refine g_iadd e_Ji_bitCount_28 ?_
  refine g_ldcw (v := 252645135) e_Ji_bitCount_29 kk_Ji_267 ?_
  refine g_iand e_Ji_bitCount_32 ?_
  refine g_istore_n (lv := [(0, .int (((((a0 - ((((a0).toUInt32 >>> ((1 : Int32).toUInt32 &&& Int32.toUInt32 31)).toInt32) &&& 1431655765)) &&& 858993459) + (((((a0 - ((((a0).toUInt32 >>> ((1 : Int32).toUInt32 &&& Int32.toUInt32 31)).toInt32) &&& 1431655765))).toUInt32 >>> ((2 : Int32).toUInt32 &&& Int32.toUInt32 31)).toInt32) &&& 858993459)) + ((((((a0 - ((((a0).toUInt32 >>> ((1 : Int32).toUInt32 &&& Int32.toUInt32 31)).toInt32) &&& 1431655765)) &&& 858993459) + (((((a0 - ((((a0).toUInt32 >>> ((1 : Int32).toUInt32 &&& Int32.toUInt32 31)).toInt32) &&& 1431655765))).toUInt32 >>> ((2 : Int32).toUInt32 &&& Int32.toUInt32 31)).toInt32) &&& 858993459))).toUInt32 >>> ((4 : Int32).toUInt32 &&& Int32.toUInt32 31)).toInt32)) &&& 252645135))]) e_Ji_bitCount_33 rfl (by decide) rfl ?_
  refine g_iload_n 0 e_Ji_bitCount_34 rfl rfl ?_
  refine g_iload_n 0 e_Ji_bitCount_35 rfl rfl ?_
  refine g_bipush (v := 8) e_Ji_bitCount_36 (by decide) ?_
  refine g_iushr e_Ji_bitCount_38 ?_
  refine g_iadd e_Ji_bitCount_39 ?_
  refine g_istore_n (lv := [(0, .int ((((((a0 - ((((a0).toUInt32 >>> ((1 : Int32).toUInt32 &&& Int32.toUInt32 31)).toInt32) &&& 1431655765)) &&& 858993459) + (((((a0 - ((((a0).toUInt32 >>> ((1 : Int32).toUInt32 &&& Int32.toUInt32 31)).toInt32) &&& 1431655765))).toUInt32 >>> ((2 : Int32).toUInt32 &&& Int32.toUInt32 31)).toInt32) &&& 858993459)) + ((((((a0 - ((((a0).toUInt32 >>> ((1 : Int32).toUInt32 &&& Int32.toUInt32 31)).toInt32) &&& 1431655765)) &&& 858993459) + (((((a0 - ((((a0).toUInt32 >>> ((1 : Int32).toUInt32 &&& Int32.toUInt32 31)).toInt32) &&& 1431655765))).toUInt32 >>> ((2 : Int32).toUInt32 &&& Int32.toUInt32 31)).toInt32) &&& 858993459))).toUInt32 >>> ((4 : Int32).toUInt32 &&& Int32.toUInt32 31)).toInt32)) &&& 252645135) + ((((((((a0 - ((((a0).toUInt32 >>> ((1 : Int32).toUInt32 &&& Int32.toUInt32 31)).toInt32) &&& 1431655765)) &&& 858993459) + (((((a0 - ((((a0).toUInt32 >>> ((1 : Int32).toUInt32 &&& Int32.toUInt32 31)).toInt32) &&& 1431655765))).toUInt32 >>> ((2 : Int32).toUInt32 &&& Int32.toUInt32 31)).toInt32) &&& 858993459)) + ((((((a0 - ((((a0).toUInt32 >>> ((1 : Int32).toUInt32 &&& Int32.toUInt32 31)).toInt32) &&& 1431655765)) &&& 858993459) + (((((a0 - ((((a0).toUInt32 >>> ((1 : Int32).toUInt32 &&& Int32.toUInt32 31)).toInt32) &&& 1431655765))).toUInt32 >>> ((2 : Int32).toUInt32 &&& Int32.toUInt32 31)).toInt32) &&& 858993459))).toUInt32 >>> ((4 : Int32).toUInt32 &&& Int32.toUInt32 31)).toInt32)) &&& 252645135)).toUInt32 >>> ((8 : Int32).toUInt32 &&& Int32.toUInt32 31)).toInt32)))]) e_Ji_bitCount_40 rfl (by decide) rfl ?_
  refine g_iload_n 0 e_Ji_bitCount_41 rfl rfl ?_
  refine g_iload_n 0 e_Ji_bitCount_42 rfl rfl ?_
  refine g_bipush (v := 16) e_Ji_bitCount_43 (by decide) ?_
  refine g_iushr e_Ji_bitCount_45 ?_
  refine g_iadd e_Ji_bitCount_46 ?_
  refine g_istore_n (lv := [(0, .int (((((((a0 - ((((a0).toUInt32 >>> ((1 : Int32).toUInt32 &&& Int32.toUInt32 31)).toInt32) &&& 1431655765)) &&& 858993459) + (((((a0 - ((((a0).toUInt32 >>> ((1 : Int32).toUInt32 &&& Int32.toUInt32 31)).toInt32) &&& 1431655765))).toUInt32 >>> ((2 : Int32).toUInt32 &&& Int32.toUInt32 31)).toInt32) &&& 858993459)) + ((((((a0 - ((((a0).toUInt32 >>> ((1 : Int32).toUInt32 &&& Int32.toUInt32 31)).toInt32) &&& 1431655765)) &&& 858993459) + (((((a0 - ((((a0).toUInt32 >>> ((1 : Int32).toUInt32 &&& Int32.toUInt32 31)).toInt32) &&& 1431655765))).toUInt32 >>> ((2 : Int32).toUInt32 &&& Int32.toUInt32 31)).toInt32) &&& 858993459))).toUInt32 >>> ((4 : Int32).toUInt32 &&& Int32.toUInt32 31)).toInt32)) &&& 252645135) + ((((((((a0 - ((((a0).toUInt32 >>> ((1 : Int32).toUInt32 &&& Int32.toUInt32 31)).toInt32) &&& 1431655765)) &&& 858993459) + (((((a0 - ((((a0).toUInt32 >>> ((1 : Int32).toUInt32 &&& Int32.toUInt32 31)).toInt32) &&& 1431655765))).toUInt32 >>> ((2 : Int32).toUInt32 &&& Int32.toUInt32 31)).toInt32) &&& 858993459)) + ((((((a0 - ((((a0).toUInt32 >>> ((1 : Int32).toUInt32 &&& Int32.toUInt32 31)).toInt32) &&& 1431655765)) &&& 858993459) + (((((a0 - ((((a0).toUInt32 >>> ((1 : Int32).toUInt32 &&& Int32.toUInt32 31)).toInt32) &&& 1431655765))).toUInt32 >>> ((2 : Int32).toUInt32 &&& Int32.toUInt32 31)).toInt32) &&& 858993459))).toUInt32 >>> ((4 : Int32).toUInt32 &&& Int32.toUInt32 31)).toInt32)) &&& 252645135)).toUInt32 >>> ((8 : Int32).toUInt32 &&& Int32.toUInt32 31)).toInt32)) + (((((((((a0 - ((((a0).toUInt32 >>> ((1 : Int32).toUInt32 &&& Int32.toUInt32 31)).toInt32) &&& 1431655765)) &&& 858993459) + (((((a0 - ((((a0).toUInt32 >>> ((1 : Int32).toUInt32 &&& Int32.toUInt32 31)).toInt32) &&& 1431655765))).toUInt32 >>> ((2 : Int32).toUInt32 &&& Int32.toUInt32 31)).toInt32) &&& 858993459)) + ((((((a0 - ((((a0).toUInt32 >>> ((1 : Int32).toUInt32 &&& Int32.toUInt32 31)).toInt32) &&& 1431655765)) &&& 858993459) + (((((a0 - ((((a0).toUInt32 >>> ((1 : Int32).toUInt32 &&& Int32.toUInt32 31)).toInt32) &&& 1431655765))).toUInt32 >>> ((2 : Int32).toUInt32 &&& Int32.toUInt32 31)).toInt32) &&& 858993459))).toUInt32 >>> ((4 : Int32).toUInt32 &&& Int32.toUInt32 31)).toInt32)) &&& 252645135) + ((((((((a0 - ((((a0).toUInt32 >>> ((1 : Int32).toUInt32 &&& Int32.toUInt32 31)).toInt32) &&& 1431655765)) &&& 858993459) + (((((a0 - ((((a0).toUInt32 >>> ((1 : Int32).toUInt32 &&& Int32.toUInt32 31)).toInt32) &&& 1431655765))).toUInt32 >>> ((2 : Int32).toUInt32 &&& Int32.toUInt32 31)).toInt32) &&& 858993459)) + ((((((a0 - ((((a0).toUInt32 >>> ((1 : Int32).toUInt32 &&& Int32.toUInt32 31)).toInt32) &&& 1431655765)) &&& 858993459) + (((((a0 - ((((a0).toUInt32 >>> ((1 : Int32).toUInt32 &&& Int32.toUInt32 31)).toInt32) &&& 1431655765))).toUInt32 >>> ((2 : Int32).toUInt32 &&& Int32.toUInt32 31)).toInt32) &&& 858993459))).toUInt32 >>> ((4 : Int32).toUInt32 &&& Int32.toUInt32 31)).toInt32)) &&& 252645135)).toUInt32 >>> ((8 : Int32).toUInt32 &&& Int32.toUInt32 31)).toInt32))).toUInt32 >>> ((16 : Int32).toUInt32 &&& Int32.toUInt32 31)).toInt32)))]) e_Ji_bitCount_47 rfl (by decide) rfl ?_
  refine g_iload_n 0 e_Ji_bitCount_48 rfl rfl ?_
  refine g_bipush (v := 63) e_Ji_bitCount_49 (by decide) ?_
  refine g_iand e_Ji_bitCount_51 ?_
  exact g_iret e_Ji_bitCount_52 rfl ⟨Sh.n hw, _, rfl, hw, h⟩
theorem en_Ji_bitCount {d : Nat} {E : qE} {Q : qW → Int32 → Prop} {a0 : Int32} {w : qW} (hw : Sh w) (h : c_Ji_bitCount_0 d E Q a0 w) : CaI d M_Ji_bitCount [.int a0] E w Q := Ca.into hw rfl (Nat.le_of_ble_eq_true rfl) h
def c_Jm_floorMod_0 (d : Nat) (E : qE) (Q : qW → Int32 → Prop) (a0 : Int32) (a1 : Int32) (w : qW) : Prop := Go d M_Jm_floorMod E 161 161 (qFI Q) 0 [(0, .int a0), (1, .int a1)] [] w
set_option maxHeartbeats 4000000 in
set_option maxRecDepth 8000 in
theorem s_Jm_floorMod_0 {d : Nat} {E : qE} {Q : qW → Int32 → Prop} {a0 : Int32} {a1 : Int32} {w : qW} (hw : Sh w) (h : (¬ a1 = 0) ∧ (((0 ≤ (a0 ^^^ a1)) → (Q w (a0 - a0 / a1 * a1))) ∧ ((¬ 0 ≤ (a0 ^^^ a1)) → ((((a0 - a0 / a1 * a1) = 0) → (Q w (a0 - a0 / a1 * a1))) ∧ ((¬ (a0 - a0 / a1 * a1) = 0) → (Q w ((a0 - a0 / a1 * a1) + a1))))))) : c_Jm_floorMod_0 d E Q a0 a1 w := by
  unfold c_Jm_floorMod_0
  refine g_iload_n 0 e_Jm_floorMod_0 rfl rfl ?_
  refine g_iload_n 1 e_Jm_floorMod_1 rfl rfl ?_
  obtain ⟨o1, h⟩ := h
  refine g_irem e_Jm_floorMod_2 o1 ?_
  refine g_istore_n (lv := [(2, .int (a0 - a0 / a1 * a1)), (0, .int a0), (1, .int a1)]) e_Jm_floorMod_3 rfl (by decide) rfl ?_
  refine g_iload_n 1 e_Jm_floorMod_4 rfl rfl ?_
  refine g_iload_n 2 e_Jm_floorMod_5 rfl rfl ?_
  refine g_ixor e_Jm_floorMod_6 ?_
  refine g_if_ge 18 e_Jm_floorMod_7 (by decide) ⟨fun z2 => ?_, fun z2 => ?_⟩
  · have h := h.1 z2
    refine g_iload_n 0 e_Jm_floorMod_18 rfl rfl ?_
    exact g_iret e_Jm_floorMod_19 rfl ⟨Sh.n hw, _, rfl, hw, h⟩
  · have h := h.2 z2
    refine g_iload_n 0 e_Jm_floorMod_10 rfl rfl ?_
    refine g_if_eq 18 e_Jm_floorMod_11 (by decide) ⟨fun z3 => ?_, fun z3 => ?_⟩
    · have h := h.1 z3
      refine g_iload_n 0 e_Jm_floorMod_18 rfl rfl ?_
      exact g_iret e_Jm_floorMod_19 rfl ⟨Sh.n hw, _, rfl, hw, h⟩
    · have h := h.2 z3
      refine g_iload_n 0 e_Jm_floorMod_14 rfl rfl ?_
      refine g_iload_n 2 e_Jm_floorMod_15 rfl rfl ?_
      refine g_iadd e_Jm_floorMod_16 ?_
      exact g_iret e_Jm_floorMod_17 rfl ⟨Sh.n hw, _, rfl, hw, h⟩
theorem en_Jm_floorMod {d : Nat} {E : qE} {Q : qW → Int32 → Prop} {a0 : Int32} {a1 : Int32} {w : qW} (hw : Sh w) (h : c_Jm_floorMod_0 d E Q a0 a1 w) : CaI d M_Jm_floorMod [.int a0, .int a1] E w Q := Ca.into hw (by decide +kernel) (Nat.le_of_ble_eq_true rfl) h
def c_Jm_abs_0 (d : Nat) (E : qE) (Q : qW → Int32 → Prop) (a0 : Int32) (w : qW) : Prop := Go d M_Jm_abs E 161 161 (qFI Q) 0 [(0, .int a0)] [] w
set_option maxHeartbeats 4000000 in
set_option maxRecDepth 8000 in
theorem s_Jm_abs_0 {d : Nat} {E : qE} {Q : qW → Int32 → Prop} {a0 : Int32} {w : qW} (hw : Sh w) (h : ((0 ≤ a0) → (Q w a0)) ∧ ((¬ 0 ≤ a0) → (Q w (-a0)))) : c_Jm_abs_0 d E Q a0 w := by
  unfold c_Jm_abs_0
  refine g_iload_n 0 e_Jm_abs_0 rfl rfl ?_
  refine g_if_ge 9 e_Jm_abs_1 (by decide) ⟨fun z1 => ?_, fun z1 => ?_⟩
  · have h := h.1 z1
    refine g_iload_n 0 e_Jm_abs_9 rfl rfl ?_
    exact g_iret e_Jm_abs_10 rfl ⟨Sh.n hw, _, rfl, hw, h⟩
  · have h := h.2 z1
    refine g_iload_n 0 e_Jm_abs_4 rfl rfl ?_
    refine g_ineg e_Jm_abs_5 ?_
    refine g_goto 10 e_Jm_abs_6 (by decide) ?_
    exact g_iret e_Jm_abs_10 rfl ⟨Sh.n hw, _, rfl, hw, h⟩
theorem en_Jm_abs {d : Nat} {E : qE} {Q : qW → Int32 → Prop} {a0 : Int32} {w : qW} (hw : Sh w) (h : c_Jm_abs_0 d E Q a0 w) : CaI d M_Jm_abs [.int a0] E w Q := Ca.into hw (by decide +kernel) (Nat.le_of_ble_eq_true rfl) h
def c_Jm_max_0 (d : Nat) (E : qE) (Q : qW → Int32 → Prop) (a0 : Int32) (a1 : Int32) (w : qW) : Prop := Go d M_Jm_max E 161 161 (qFI Q) 0 [(0, .int a0), (1, .int a1)] [] w
set_option maxHeartbeats 4000000 in
set_option maxRecDepth 8000 in
theorem s_Jm_max_0 {d : Nat} {E : qE} {Q : qW → Int32 → Prop} {a0 : Int32} {a1 : Int32} {w : qW} (hw : Sh w) (h : ((a0 < a1) → (Q w a1)) ∧ ((¬ a0 < a1) → (Q w a0))) : c_Jm_max_0 d E Q a0 a1 w := by
  unfold c_Jm_max_0
  refine g_iload_n 0 e_Jm_max_0 rfl rfl ?_
  refine g_iload_n 1 e_Jm_max_1 rfl rfl ?_
  refine g_icmp_lt 9 e_Jm_max_2 (by decide) ⟨fun z1 => ?_, fun z1 => ?_⟩
  · have h := h.1 z1
    refine g_iload_n 1 e_Jm_max_9 rfl rfl ?_
    exact g_iret e_Jm_max_10 rfl ⟨Sh.n hw, _, rfl, hw, h⟩
  · have h := h.2 z1
    refine g_iload_n 0 e_Jm_max_5 rfl rfl ?_
    refine g_goto 10 e_Jm_max_6 (by decide) ?_
    exact g_iret e_Jm_max_10 rfl ⟨Sh.n hw, _, rfl, hw, h⟩
theorem en_Jm_max {d : Nat} {E : qE} {Q : qW → Int32 → Prop} {a0 : Int32} {a1 : Int32} {w : qW} (hw : Sh w) (h : c_Jm_max_0 d E Q a0 a1 w) : CaI d M_Jm_max [.int a0, .int a1] E w Q := Ca.into hw (by decide +kernel) (Nat.le_of_ble_eq_true rfl) h
def c_Jm_min_0 (d : Nat) (E : qE) (Q : qW → Int32 → Prop) (a0 : Int32) (a1 : Int32) (w : qW) : Prop := Go d M_Jm_min E 161 161 (qFI Q) 0 [(0, .int a0), (1, .int a1)] [] w
set_option maxHeartbeats 4000000 in
set_option maxRecDepth 8000 in
theorem s_Jm_min_0 {d : Nat} {E : qE} {Q : qW → Int32 → Prop} {a0 : Int32} {a1 : Int32} {w : qW} (hw : Sh w) (h : ((a1 < a0) → (Q w a1)) ∧ ((¬ a1 < a0) → (Q w a0))) : c_Jm_min_0 d E Q a0 a1 w := by
  unfold c_Jm_min_0
  refine g_iload_n 0 e_Jm_min_0 rfl rfl ?_
  refine g_iload_n 1 e_Jm_min_1 rfl rfl ?_
  refine g_icmp_gt 9 e_Jm_min_2 (by decide) ⟨fun z1 => ?_, fun z1 => ?_⟩
  · have h := h.1 z1
    refine g_iload_n 1 e_Jm_min_9 rfl rfl ?_
    exact g_iret e_Jm_min_10 rfl ⟨Sh.n hw, _, rfl, hw, h⟩
  · have h := h.2 z1
    refine g_iload_n 0 e_Jm_min_5 rfl rfl ?_
    refine g_goto 10 e_Jm_min_6 (by decide) ?_
    exact g_iret e_Jm_min_10 rfl ⟨Sh.n hw, _, rfl, hw, h⟩
theorem en_Jm_min {d : Nat} {E : qE} {Q : qW → Int32 → Prop} {a0 : Int32} {a1 : Int32} {w : qW} (hw : Sh w) (h : c_Jm_min_0 d E Q a0 a1 w) : CaI d M_Jm_min [.int a0, .int a1] E w Q := Ca.into hw (by decide +kernel) (Nat.le_of_ble_eq_true rfl) h
def c_Js_length_0 (d : Nat) (E : qE) (Q : qW → Int32 → Prop) (i0 : Nat) (w : qW) : Prop := Go (d + 1) M_Js_length E 161 161 (qFI Q) 0 [(0, .ref (qc E (10 + i0)))] [] w
set_option maxHeartbeats 4000000 in
set_option maxRecDepth 8000 in
theorem s_Js_length_0 {d : Nat} {E : qE} {Q : qW → Int32 → Prop} {i0 : Nat} {w : qW} (hw : Sh w) (hi0 : i0 < 5) (h : CaI d M_Js_coder [.ref (qc E (10 + i0))] E w (fun w1 x1 => Q w1 ((Int32.ofNat (qlen.getD i0 0)) >>> (x1 &&& 31)))) : c_Js_length_0 d E Q i0 w := by
  unfold c_Js_length_0
  refine g_aload_n 0 e_Js_length_0 rfl rfl ?_
  refine g_strval hi0 rfl e_Js_length_1 ?_
  refine g_strlen hi0 e_Js_length_4 ?_
  refine g_aload_n 0 e_Js_length_5 rfl rfl ?_
  refine w_callSS (w := w) (As := []) (rest := [.int (Int32.ofNat (qlen.getD i0 0))]) e_Js_length_6 ok_Js_coder rfl km_Js_335 kx_Js_coder kv_Js_coder rfl hi0 rfl (Nat.le_of_ble_eq_true rfl) h (fun w1 x1 hw1 h => ?_)
  refine g_ishr e_Js_length_9 ?_
  exact g_iret e_Js_length_10 rfl ⟨Sh.n hw1, _, rfl, hw1, h⟩
theorem en_Js_length {d : Nat} {E : qE} {Q : qW → Int32 → Prop} {i0 : Nat} {w : qW} (hw : Sh w) (h : c_Js_length_0 d E Q i0 w) : CaI (d + 1) M_Js_length [.ref (qc E (10 + i0))] E w Q := Ca.into hw rfl (Nat.le_of_ble_eq_true rfl) h
def c_Js_charAt_0 (d : Nat) (E : qE) (Q : qW → Int32 → Prop) (i0 : Nat) (a1 : Int32) (w : qW) : Prop := Go (d + 4) M_Js_charAt E 161 161 (qFI Q) 0 [(0, .ref (qc E (10 + i0))), (1, .int a1)] [] w
set_option maxHeartbeats 4000000 in
set_option maxRecDepth 8000 in
theorem s_Js_charAt_0 {d : Nat} {E : qE} {Q : qW → Int32 → Prop} {i0 : Nat} {a1 : Int32} {w : qW} (hw : Sh w) (hi0 : i0 < 5) (h : CaI (d + 3) M_Js_isLatin1 [.ref (qc E (10 + i0))] E w (fun w1 x1 => ((x1 = 0) → (CaI (d + 3) M_Ju_charAt [.ref (qc E (20 + i0)), .int a1] E w1 (fun w3 x3 => narrow .char (.int x3) = .int x3 ∧ (Q w3 x3)))) ∧ ((¬ x1 = 0) → (CaI (d + 3) M_Jl_charAt [.ref (qc E (20 + i0)), .int a1] E w1 (fun w5 x5 => narrow .char (.int x5) = .int x5 ∧ (Q w5 x5)))))) : c_Js_charAt_0 d E Q i0 a1 w := by
  unfold c_Js_charAt_0
  refine g_aload_n 0 e_Js_charAt_0 rfl rfl ?_
  refine w_callSS (w := w) (As := []) (rest := []) e_Js_charAt_1 ok_Js_isLatin1 rfl km_Js_492 kx_Js_isLatin1 kv_Js_isLatin1 rfl hi0 rfl (Nat.le_of_ble_eq_true rfl) h (fun w1 x1 hw1 h => ?_)
  refine g_if_eq 16 e_Js_charAt_4 (by decide) ⟨fun z2 => ?_, fun z2 => ?_⟩
  · have h := h.1 z2
    refine g_aload_n 0 e_Js_charAt_16 rfl rfl ?_
    refine g_strval hi0 rfl e_Js_charAt_17 ?_
    refine g_iload_n 1 e_Js_charAt_20 rfl rfl ?_
    refine w_callSI (w := w1) (As := [.ref (qc E (20 + i0)), .int a1]) (rest := []) e_Js_charAt_21 ok_Ju_charAt rfl km_Js_498 ks_Ju_charAt rfl (Nat.le_of_ble_eq_true rfl) h (fun w3 x3 hw3 h => ?_)
    obtain ⟨o4, h⟩ := h
    exact g_nret (ty := .char) e_Js_charAt_24 rfl o4 ⟨Sh.n hw3, _, rfl, hw3, h⟩
  · have h := h.2 z2
    refine g_aload_n 0 e_Js_charAt_7 rfl rfl ?_
    refine g_strval hi0 rfl e_Js_charAt_8 ?_
    refine g_iload_n 1 e_Js_charAt_11 rfl rfl ?_
    refine w_callSI (w := w1) (As := [.ref (qc E (20 + i0)), .int a1]) (rest := []) e_Js_charAt_12 ok_Jl_charAt rfl km_Js_495 ks_Jl_charAt rfl (Nat.le_of_ble_eq_true rfl) h (fun w5 x5 hw5 h => ?_)
    obtain ⟨o6, h⟩ := h
    exact g_nret (ty := .char) e_Js_charAt_15 rfl o6 ⟨Sh.n hw5, _, rfl, hw5, h⟩
theorem en_Js_charAt {d : Nat} {E : qE} {Q : qW → Int32 → Prop} {i0 : Nat} {a1 : Int32} {w : qW} (hw : Sh w) (h : c_Js_charAt_0 d E Q i0 a1 w) : CaI (d + 4) M_Js_charAt [.ref (qc E (10 + i0)), .int a1] E w Q := Ca.into hw rfl (Nat.le_of_ble_eq_true rfl) h
def c_Js_coder_0 (d : Nat) (E : qE) (Q : qW → Int32 → Prop) (i0 : Nat) (w : qW) : Prop := Go d M_Js_coder E 161 161 (qFI Q) 0 [(0, .ref (qc E (10 + i0)))] [] w
set_option maxHeartbeats 4000000 in
set_option maxRecDepth 8000 in
theorem s_Js_coder_0 {d : Nat} {E : qE} {Q : qW → Int32 → Prop} {i0 : Nat} {w : qW} (hw : Sh w) (hi0 : i0 < 5) (h : (((1 : Int32) = 0) → (narrow .byte (.int 1) = .int 1 ∧ (Q w 1))) ∧ ((¬ (1 : Int32) = 0) → (narrow .byte (.int 0) = .int 0 ∧ (Q w 0)))) : c_Js_coder_0 d E Q i0 w := by
  unfold c_Js_coder_0
  refine g_compact rfl e_Js_coder_0 ?_
  refine g_if_eq 13 e_Js_coder_3 (by decide) ⟨fun z1 => ?_, fun z1 => ?_⟩
  · have h := h.1 z1
    refine g_iconst (v := 1) e_Js_coder_13 (by decide) ?_
    obtain ⟨o2, h⟩ := h
    exact g_nret (ty := .byte) e_Js_coder_14 rfl o2 ⟨Sh.n hw, _, rfl, hw, h⟩
  · have h := h.2 z1
    refine g_aload_n 0 e_Js_coder_6 rfl rfl ?_
    refine g_strcod hi0 rfl e_Js_coder_7 ?_
    refine g_goto 14 e_Js_coder_10 (by decide) ?_
    obtain ⟨o3, h⟩ := h
    exact g_nret (ty := .byte) e_Js_coder_14 rfl o3 ⟨Sh.n hw, _, rfl, hw, h⟩
theorem en_Js_coder {d : Nat} {E : qE} {Q : qW → Int32 → Prop} {i0 : Nat} {w : qW} (hw : Sh w) (h : c_Js_coder_0 d E Q i0 w) : CaI d M_Js_coder [.ref (qc E (10 + i0))] E w Q := Ca.into hw rfl (Nat.le_of_ble_eq_true rfl) h
def c_Js_isLatin1_0 (d : Nat) (E : qE) (Q : qW → Int32 → Prop) (i0 : Nat) (w : qW) : Prop := Go d M_Js_isLatin1 E 161 161 (qFI Q) 0 [(0, .ref (qc E (10 + i0)))] [] w
set_option maxHeartbeats 4000000 in
set_option maxRecDepth 8000 in
theorem s_Js_isLatin1_0 {d : Nat} {E : qE} {Q : qW → Int32 → Prop} {i0 : Nat} {w : qW} (hw : Sh w) (hi0 : i0 < 5) (h : (((1 : Int32) = 0) → (Q w 0)) ∧ ((¬ (1 : Int32) = 0) → (((¬ (0 : Int32) = 0) → (Q w 0)) ∧ (((0 : Int32) = 0) → (Q w 1))))) : c_Js_isLatin1_0 d E Q i0 w := by
  unfold c_Js_isLatin1_0
  refine g_compact rfl e_Js_isLatin1_0 ?_
  refine g_if_eq 17 e_Js_isLatin1_3 (by decide) ⟨fun z1 => ?_, fun z1 => ?_⟩
  · have h := h.1 z1
    refine g_iconst (v := 0) e_Js_isLatin1_17 (by decide) ?_
    exact g_zret e_Js_isLatin1_18 rfl (Or.inl rfl) ⟨Sh.n hw, _, rfl, hw, h⟩
  · have h := h.2 z1
    refine g_aload_n 0 e_Js_isLatin1_6 rfl rfl ?_
    refine g_strcod hi0 rfl e_Js_isLatin1_7 ?_
    refine g_if_ne 17 e_Js_isLatin1_10 (by decide) ⟨fun z2 => ?_, fun z2 => ?_⟩
    · have h := h.1 z2
      refine g_iconst (v := 0) e_Js_isLatin1_17 (by decide) ?_
      exact g_zret e_Js_isLatin1_18 rfl (Or.inl rfl) ⟨Sh.n hw, _, rfl, hw, h⟩
    · have h := h.2 z2
      refine g_iconst (v := 1) e_Js_isLatin1_13 (by decide) ?_
      refine g_goto 18 e_Js_isLatin1_14 (by decide) ?_
      exact g_zret e_Js_isLatin1_18 rfl (Or.inr rfl) ⟨Sh.n hw, _, rfl, hw, h⟩
theorem en_Js_isLatin1 {d : Nat} {E : qE} {Q : qW → Int32 → Prop} {i0 : Nat} {w : qW} (hw : Sh w) (h : c_Js_isLatin1_0 d E Q i0 w) : CaI d M_Js_isLatin1 [.ref (qc E (10 + i0))] E w Q := Ca.into hw rfl (Nat.le_of_ble_eq_true rfl) h
def c_Js_checkIndex_0 (d : Nat) (E : qE) (Q : qW → Prop) (a0 : Int32) (a1 : Int32) (w : qW) : Prop := Go (d + 1) M_Js_checkIndex E 161 161 (qFV Q) 0 [(0, .int a0), (1, .int a1)] [] w
set_option maxHeartbeats 4000000 in
set_option maxRecDepth 8000 in
theorem s_Js_checkIndex_0 {d : Nat} {E : qE} {Q : qW → Prop} {a0 : Int32} {a1 : Int32} {w : qW} (hw : Sh w) (h : (CaI d M_Jp_checkIndex [.int a0, .int a1, .null] E w (fun w1 x1 => Q w1)) ∧ (∀ t9 : Nat, CaI d M_Jp_checkIndex [.int a0, .int a1, (.ref t9)] E w (fun w2 x2 => Q w2))) : c_Js_checkIndex_0 d E Q a0 a1 w := by
  unfold c_Js_checkIndex_0
  refine g_iload_n 0 e_Js_checkIndex_0 rfl rfl ?_
  refine g_iload_n 1 e_Js_checkIndex_1 rfl rfl ?_
  refine g_formatter rfl e_Js_checkIndex_2 ⟨?_, fun t9 => ?_⟩
  · have h := h.1
    refine w_callSI (w := w) (As := [.int a0, .int a1, .null]) (rest := []) e_Js_checkIndex_5 ok_Jp_checkIndex rfl km_Js_1059 ks_Jp_checkIndex rfl (Nat.le_of_ble_eq_true rfl) h (fun w1 x1 hw1 h => ?_)
    refine g_pop e_Js_checkIndex_8 rfl ?_
    exact g_vret e_Js_checkIndex_9 rfl ⟨Sh.n hw1, rfl, hw1, h⟩
  · have h := h.2 t9
    refine w_callSI (w := w) (As := [.int a0, .int a1, (.ref t9)]) (rest := []) e_Js_checkIndex_5 ok_Jp_checkIndex rfl km_Js_1059 ks_Jp_checkIndex rfl (Nat.le_of_ble_eq_true rfl) h (fun w2 x2 hw2 h => ?_)
    refine g_pop e_Js_checkIndex_8 rfl ?_
    exact g_vret e_Js_checkIndex_9 rfl ⟨Sh.n hw2, rfl, hw2, h⟩
theorem en_Js_checkIndex {d : Nat} {E : qE} {Q : qW → Prop} {a0 : Int32} {a1 : Int32} {w : qW} (hw : Sh w) (h : c_Js_checkIndex_0 d E Q a0 a1 w) : CaV (d + 1) M_Js_checkIndex [.int a0, .int a1] E w Q := Ca.into hw rfl (Nat.le_of_ble_eq_true rfl) h
def c_Jl_charAt_0 (d : Nat) (E : qE) (Q : qW → Int32 → Prop) (i0 : Nat) (a1 : Int32) (w : qW) : Prop := Go (d + 2) M_Jl_charAt E 161 161 (qFI Q) 0 [(0, .ref (qc E (20 + i0))), (1, .int a1)] [] w
set_option maxHeartbeats 4000000 in
set_option maxRecDepth 8000 in
theorem s_Jl_charAt_0 {d : Nat} {E : qE} {Q : qW → Int32 → Prop} {i0 : Nat} {a1 : Int32} {w : qW} (hw : Sh w) (hi0 : i0 < 5) (h : CaV (d + 1) M_Js_checkIndex [.int a1, .int (Int32.ofNat (qlen.getD i0 0))] E w (fun w1 => vp_in a1 (qlen.getD i0 0) ∧ (narrow .char (.int ((((((qbyt.getD i0 []).getD (a1 : Int32).toNatClampNeg 0) &&& 255) : Int32).toUInt32 % 65536).toInt32)) = .int ((((((qbyt.getD i0 []).getD (a1 : Int32).toNatClampNeg 0) &&& 255) : Int32).toUInt32 % 65536).toInt32) ∧ (Q w1 ((((((qbyt.getD i0 []).getD (a1 : Int32).toNatClampNeg 0) &&& 255) : Int32).toUInt32 % 65536).toInt32))))) : c_Jl_charAt_0 d E Q i0 a1 w := by
  unfold c_Jl_charAt_0
  refine g_iload_n 1 e_Jl_charAt_0 rfl rfl ?_
  refine g_aload_n 0 e_Jl_charAt_1 rfl rfl ?_
  refine g_strlen hi0 e_Jl_charAt_2 ?_
  refine w_callSV (w := w) (As := [.int a1, .int (Int32.ofNat (qlen.getD i0 0))]) (rest := []) e_Jl_charAt_3 ok_Js_checkIndex rfl km_Jl_9 ks_Js_checkIndex rfl (Nat.le_of_ble_eq_true rfl) h (fun w1 hw1 h => ?_)
  refine g_aload_n 0 e_Jl_charAt_6 rfl rfl ?_
  refine g_iload_n 1 e_Jl_charAt_7 rfl rfl ?_
  obtain ⟨o2, h⟩ := h
  refine g_strld hi0 e_Jl_charAt_8 o2 ?_
  refine g_sipush (v := 255) e_Jl_charAt_9 (by decide) ?_
  refine g_iand e_Jl_charAt_12 ?_
  refine g_i2c e_Jl_charAt_13 ?_
  obtain ⟨o3, h⟩ := h
  exact g_nret (ty := .char) e_Jl_charAt_14 rfl o3 ⟨Sh.n hw1, _, rfl, hw1, h⟩
theorem en_Jl_charAt {d : Nat} {E : qE} {Q : qW → Int32 → Prop} {i0 : Nat} {a1 : Int32} {w : qW} (hw : Sh w) (h : c_Jl_charAt_0 d E Q i0 a1 w) : CaI (d + 2) M_Jl_charAt [.ref (qc E (20 + i0)), .int a1] E w Q := Ca.into hw rfl (Nat.le_of_ble_eq_true rfl) h
def c_Jp_checkIndex_0 (d : Nat) (E : qE) (Q : qW → Int32 → Prop) (a0 : Int32) (a1 : Int32) (v2 : Value) (w : qW) : Prop := Go d M_Jp_checkIndex E 161 161 (qFI Q) 0 [(0, .int a0), (1, .int a1), (2, v2)] [] w
set_option maxHeartbeats 4000000 in
set_option maxRecDepth 8000 in
theorem s_Jp_checkIndex_0 {d : Nat} {E : qE} {Q : qW → Int32 → Prop} {a0 : Int32} {a1 : Int32} {v2 : Value} {w : qW} (hw : Sh w) (hv2 : v2.category = 1) (h : ((a0 < 0) → (False)) ∧ ((¬ a0 < 0) → (((a0 < a1) → (Q w a0)) ∧ ((¬ a0 < a1) → (False))))) : c_Jp_checkIndex_0 d E Q a0 a1 v2 w := by
  unfold c_Jp_checkIndex_0
  refine g_iload_n 0 e_Jp_checkIndex_0 rfl rfl ?_
  refine g_if_lt 9 e_Jp_checkIndex_1 (by decide) ⟨fun z1 => ?_, fun z1 => ?_⟩
  · have h := h.1 z1
    exact h.elim
  · have h := h.2 z1
    refine g_iload_n 0 e_Jp_checkIndex_4 rfl rfl ?_
    refine g_iload_n 1 e_Jp_checkIndex_5 rfl rfl ?_
    refine g_icmp_lt 16 e_Jp_checkIndex_6 (by decide) ⟨fun z2 => ?_, fun z2 => ?_⟩
    · have h := h.1 z2
      refine g_iload_n 0 e_Jp_checkIndex_16 rfl rfl ?_
      exact g_iret e_Jp_checkIndex_17 rfl ⟨Sh.n hw, _, rfl, hw, h⟩
    · have h := h.2 z2
      exact h.elim
theorem en_Jp_checkIndex {d : Nat} {E : qE} {Q : qW → Int32 → Prop} {a0 : Int32} {a1 : Int32} {v2 : Value} {w : qW} (hw : Sh w) (hv2 : v2.category = 1) (h : c_Jp_checkIndex_0 d E Q a0 a1 v2 w) : CaI d M_Jp_checkIndex [.int a0, .int a1, v2] E w Q := Ca.into hw rfl (lg3 _ hv2 _ _) h
