def c_La_law_18 (d : Nat) (E : qE) (Q : qW → Int32 → Prop) (l3 : Int32) (w : qW) : Prop := Go (d + 44) M_La_law E 0 161 (qFI Q) 18 [(0, .ref (qc E 2)), (1, .ref (qb E + 0)), (2, .ref (qb E + 115)), (3, .int l3)] [] w
def c_La_law_188 (d : Nat) (E : qE) (Q : qW → Int32 → Prop) (l3 : Int32) (w : qW) : Prop := Go (d + 44) M_La_law E 0 161 (qFI Q) 188 [(0, .ref (qc E 2)), (1, .ref (qb E + 0)), (2, .ref (qb E + 115)), (3, .int l3)] [] w
def c_La_law_241 (d : Nat) (E : qE) (Q : qW → Int32 → Prop) (l3 : Int32) (w : qW) : Prop := Go (d + 44) M_La_law E 0 161 (qFI Q) 241 [(0, .ref (qc E 2)), (1, .ref (qb E + 0)), (2, .ref (qb E + 115)), (3, .int l3)] [] w
def c_La_law_274 (d : Nat) (E : qE) (Q : qW → Int32 → Prop) (l3 : Int32) (w : qW) : Prop := Go (d + 44) M_La_law E 0 161 (qFI Q) 274 [(0, .ref (qc E 2)), (1, .ref (qb E + 0)), (2, .ref (qb E + 115)), (3, .int l3)] [] w
def c_La_law_297 (d : Nat) (E : qE) (Q : qW → Int32 → Prop) (l3 : Int32) (w : qW) : Prop := Go (d + 44) M_La_law E 0 161 (qFI Q) 297 [(0, .ref (qc E 2)), (1, .ref (qb E + 0)), (2, .ref (qb E + 115)), (3, .int l3)] [] w
def c_La_law_320 (d : Nat) (E : qE) (Q : qW → Int32 → Prop) (l3 : Int32) (w : qW) : Prop := Go (d + 44) M_La_law E 0 161 (qFI Q) 320 [(0, .ref (qc E 2)), (1, .ref (qb E + 0)), (2, .ref (qb E + 115)), (3, .int l3)] [] w
def c_La_law_353 (d : Nat) (E : qE) (Q : qW → Int32 → Prop) (l3 : Int32) (w : qW) : Prop := Go (d + 44) M_La_law E 0 161 (qFI Q) 353 [(0, .ref (qc E 2)), (1, .ref (qb E + 0)), (2, .ref (qb E + 115)), (3, .int l3)] [] w
def c_La_law_376 (d : Nat) (E : qE) (Q : qW → Int32 → Prop) (l3 : Int32) (w : qW) : Prop := Go (d + 44) M_La_law E 0 161 (qFI Q) 376 [(0, .ref (qc E 2)), (1, .ref (qb E + 0)), (2, .ref (qb E + 115)), (3, .int l3)] [] w
def c_La_law_389 (d : Nat) (E : qE) (Q : qW → Int32 → Prop) (l3 : Int32) (w : qW) : Prop := Go (d + 44) M_La_law E 0 161 (qFI Q) 389 [(0, .ref (qc E 2)), (1, .ref (qb E + 0)), (2, .ref (qb E + 115)), (3, .int l3)] [] w
def c_La_law_432 (d : Nat) (E : qE) (Q : qW → Int32 → Prop) (l3 : Int32) (w : qW) : Prop := Go (d + 44) M_La_law E 0 161 (qFI Q) 432 [(0, .ref (qc E 2)), (1, .ref (qb E + 0)), (2, .ref (qb E + 115)), (3, .int l3)] [] w
def c_La_law_455 (d : Nat) (E : qE) (Q : qW → Int32 → Prop) (l3 : Int32) (w : qW) : Prop := Go (d + 44) M_La_law E 0 161 (qFI Q) 455 [(0, .ref (qc E 2)), (1, .ref (qb E + 0)), (2, .ref (qb E + 115)), (3, .int l3)] [] w
def c_La_law_468 (d : Nat) (E : qE) (Q : qW → Int32 → Prop) (l3 : Int32) (w : qW) : Prop := Go (d + 44) M_La_law E 0 161 (qFI Q) 468 [(0, .ref (qc E 2)), (1, .ref (qb E + 0)), (2, .ref (qb E + 115)), (3, .int l3)] [] w
def c_La_law_491 (d : Nat) (E : qE) (Q : qW → Int32 → Prop) (l3 : Int32) (w : qW) : Prop := Go (d + 44) M_La_law E 0 161 (qFI Q) 491 [(0, .ref (qc E 2)), (1, .ref (qb E + 0)), (2, .ref (qb E + 115)), (3, .int l3)] [] w
def c_La_law_514 (d : Nat) (E : qE) (Q : qW → Int32 → Prop) (l3 : Int32) (w : qW) : Prop := Go (d + 44) M_La_law E 0 161 (qFI Q) 514 [(0, .ref (qc E 2)), (1, .ref (qb E + 0)), (2, .ref (qb E + 115)), (3, .int l3)] [] w
def c_La_law_547 (d : Nat) (E : qE) (Q : qW → Int32 → Prop) (l3 : Int32) (w : qW) : Prop := Go (d + 44) M_La_law E 0 161 (qFI Q) 547 [(0, .ref (qc E 2)), (1, .ref (qb E + 0)), (2, .ref (qb E + 115)), (3, .int l3)] [] w
def c_La_law_580 (d : Nat) (E : qE) (Q : qW → Int32 → Prop) (l3 : Int32) (w : qW) : Prop := Go (d + 44) M_La_law E 0 161 (qFI Q) 580 [(0, .ref (qc E 2)), (1, .ref (qb E + 0)), (2, .ref (qb E + 115)), (3, .int l3)] [] w
def c_La_law_603 (d : Nat) (E : qE) (Q : qW → Int32 → Prop) (l3 : Int32) (w : qW) : Prop := Go (d + 44) M_La_law E 0 161 (qFI Q) 603 [(0, .ref (qc E 2)), (1, .ref (qb E + 0)), (2, .ref (qb E + 115)), (3, .int l3)] [] w
def c_La_law_636 (d : Nat) (E : qE) (Q : qW → Int32 → Prop) (l3 : Int32) (w : qW) : Prop := Go (d + 44) M_La_law E 0 161 (qFI Q) 636 [(0, .ref (qc E 2)), (1, .ref (qb E + 0)), (2, .ref (qb E + 115)), (3, .int l3)] [] w
def c_La_law_669 (d : Nat) (E : qE) (Q : qW → Int32 → Prop) (l3 : Int32) (w : qW) : Prop := Go (d + 44) M_La_law E 0 161 (qFI Q) 669 [(0, .ref (qc E 2)), (1, .ref (qb E + 0)), (2, .ref (qb E + 115)), (3, .int l3)] [] w
def c_La_law_702 (d : Nat) (E : qE) (Q : qW → Int32 → Prop) (l3 : Int32) (w : qW) : Prop := Go (d + 44) M_La_law E 0 161 (qFI Q) 702 [(0, .ref (qc E 2)), (1, .ref (qb E + 0)), (2, .ref (qb E + 115)), (3, .int l3)] [] w
def c_La_law_736 (d : Nat) (E : qE) (Q : qW → Int32 → Prop) (l3 : Int32) (w : qW) : Prop := Go (d + 44) M_La_law E 0 161 (qFI Q) 736 [(0, .ref (qc E 2)), (1, .ref (qb E + 0)), (2, .ref (qb E + 115)), (3, .int l3)] [] w
def c_La_law_760 (d : Nat) (E : qE) (Q : qW → Int32 → Prop) (l3 : Int32) (w : qW) : Prop := Go (d + 44) M_La_law E 0 161 (qFI Q) 760 [(0, .ref (qc E 2)), (1, .ref (qb E + 0)), (2, .ref (qb E + 115)), (3, .int l3)] [] w
def c_La_law_793 (d : Nat) (E : qE) (Q : qW → Int32 → Prop) (l3 : Int32) (w : qW) : Prop := Go (d + 44) M_La_law E 0 161 (qFI Q) 793 [(0, .ref (qc E 2)), (1, .ref (qb E + 0)), (2, .ref (qb E + 115)), (3, .int l3)] [] w
def c_La_law_816 (d : Nat) (E : qE) (Q : qW → Int32 → Prop) (l3 : Int32) (w : qW) : Prop := Go (d + 44) M_La_law E 0 161 (qFI Q) 816 [(0, .ref (qc E 2)), (1, .ref (qb E + 0)), (2, .ref (qb E + 115)), (3, .int l3)] [] w
def c_La_law_849 (d : Nat) (E : qE) (Q : qW → Int32 → Prop) (l3 : Int32) (w : qW) : Prop := Go (d + 44) M_La_law E 0 161 (qFI Q) 849 [(0, .ref (qc E 2)), (1, .ref (qb E + 0)), (2, .ref (qb E + 115)), (3, .int l3)] [] w
def c_La_law_862 (d : Nat) (E : qE) (Q : qW → Int32 → Prop) (l3 : Int32) (w : qW) : Prop := Go (d + 44) M_La_law E 0 161 (qFI Q) 862 [(0, .ref (qc E 2)), (1, .ref (qb E + 0)), (2, .ref (qb E + 115)), (3, .int l3)] [] w
def c_La_law_895 (d : Nat) (E : qE) (Q : qW → Int32 → Prop) (l3 : Int32) (w : qW) : Prop := Go (d + 44) M_La_law E 0 161 (qFI Q) 895 [(0, .ref (qc E 2)), (1, .ref (qb E + 0)), (2, .ref (qb E + 115)), (3, .int l3)] [] w
def c_La_law_908 (d : Nat) (E : qE) (Q : qW → Int32 → Prop) (l3 : Int32) (w : qW) : Prop := Go (d + 44) M_La_law E 0 161 (qFI Q) 908 [(0, .ref (qc E 2)), (1, .ref (qb E + 0)), (2, .ref (qb E + 115)), (3, .int l3)] [] w
def c_La_law_921 (d : Nat) (E : qE) (Q : qW → Int32 → Prop) (l3 : Int32) (w : qW) : Prop := Go (d + 44) M_La_law E 0 161 (qFI Q) 921 [(0, .ref (qc E 2)), (1, .ref (qb E + 0)), (2, .ref (qb E + 115)), (3, .int l3)] [] w
def c_La_law_964 (d : Nat) (E : qE) (Q : qW → Int32 → Prop) (l3 : Int32) (w : qW) : Prop := Go (d + 44) M_La_law E 0 161 (qFI Q) 964 [(0, .ref (qc E 2)), (1, .ref (qb E + 0)), (2, .ref (qb E + 115)), (3, .int l3)] [] w
def c_La_law_987 (d : Nat) (E : qE) (Q : qW → Int32 → Prop) (l3 : Int32) (w : qW) : Prop := Go (d + 44) M_La_law E 0 161 (qFI Q) 987 [(0, .ref (qc E 2)), (1, .ref (qb E + 0)), (2, .ref (qb E + 115)), (3, .int l3)] [] w
def c_La_law_1020 (d : Nat) (E : qE) (Q : qW → Int32 → Prop) (l3 : Int32) (w : qW) : Prop := Go (d + 44) M_La_law E 0 161 (qFI Q) 1020 [(0, .ref (qc E 2)), (1, .ref (qb E + 0)), (2, .ref (qb E + 115)), (3, .int l3)] [] w
def c_La_law_1043 (d : Nat) (E : qE) (Q : qW → Int32 → Prop) (l3 : Int32) (w : qW) : Prop := Go (d + 44) M_La_law E 0 161 (qFI Q) 1043 [(0, .ref (qc E 2)), (1, .ref (qb E + 0)), (2, .ref (qb E + 115)), (3, .int l3)] [] w
def c_La_law_1086 (d : Nat) (E : qE) (Q : qW → Int32 → Prop) (l3 : Int32) (w : qW) : Prop := Go (d + 44) M_La_law E 0 161 (qFI Q) 1086 [(0, .ref (qc E 2)), (1, .ref (qb E + 0)), (2, .ref (qb E + 115)), (3, .int l3)] [] w
def c_La_law_1159 (d : Nat) (E : qE) (Q : qW → Int32 → Prop) (l3 : Int32) (w : qW) : Prop := Go (d + 44) M_La_law E 0 161 (qFI Q) 1159 [(0, .ref (qc E 2)), (1, .ref (qb E + 0)), (2, .ref (qb E + 115)), (3, .int l3)] [] w
def c_La_law_1193 (d : Nat) (E : qE) (Q : qW → Int32 → Prop) (l3 : Int32) (w : qW) : Prop := Go (d + 44) M_La_law E 0 161 (qFI Q) 1193 [(0, .ref (qc E 2)), (1, .ref (qb E + 0)), (2, .ref (qb E + 115)), (3, .int l3)] [] w
def c_La_law_1256 (d : Nat) (E : qE) (Q : qW → Int32 → Prop) (l3 : Int32) (w : qW) : Prop := Go (d + 44) M_La_law E 0 161 (qFI Q) 1256 [(0, .ref (qc E 2)), (1, .ref (qb E + 0)), (2, .ref (qb E + 115)), (3, .int l3)] [] w
set_option maxHeartbeats 4000000 in
set_option maxRecDepth 8000 in
theorem s_La_law_18 {d : Nat} {E : qE} {Q : qW → Int32 → Prop} {l3 : Int32} {w : qW} (hw : Sh w) (h : ((((Int32.ofNat (qL E)) - 6) < l3) → (Q w 1)) ∧ ((¬ ((Int32.ofNat (qL E)) - 6) < l3) → (vp_in l3 (qL E) ∧ ((((qxs E (l3 : Int32).toNatClampNeg) &&& 63) = 0 → (c_La_law_188 d E Q l3 w)) ∧ (((qxs E (l3 : Int32).toNatClampNeg) &&& 63) = 1 → (c_La_law_241 d E Q l3 w)) ∧ (((qxs E (l3 : Int32).toNatClampNeg) &&& 63) = 2 → (c_La_law_274 d E Q l3 w)) ∧ (((qxs E (l3 : Int32).toNatClampNeg) &&& 63) = 3 → (c_La_law_297 d E Q l3 w)) ∧ (((qxs E (l3 : Int32).toNatClampNeg) &&& 63) = 4 → (c_La_law_320 d E Q l3 w)) ∧ (((qxs E (l3 : Int32).toNatClampNeg) &&& 63) = 5 → (c_La_law_353 d E Q l3 w)) ∧ (((qxs E (l3 : Int32).toNatClampNeg) &&& 63) = 6 → (c_La_law_376 d E Q l3 w)) ∧ (((qxs E (l3 : Int32).toNatClampNeg) &&& 63) = 7 → (c_La_law_389 d E Q l3 w)) ∧ (((qxs E (l3 : Int32).toNatClampNeg) &&& 63) = 8 → (c_La_law_432 d E Q l3 w)) ∧ (((qxs E (l3 : Int32).toNatClampNeg) &&& 63) = 9 → (c_La_law_455 d E Q l3 w)) ∧ (((qxs E (l3 : Int32).toNatClampNeg) &&& 63) = 10 → (c_La_law_468 d E Q l3 w)) ∧ (((qxs E (l3 : Int32).toNatClampNeg) &&& 63) = 11 → (c_La_law_491 d E Q l3 w)) ∧ (((qxs E (l3 : Int32).toNatClampNeg) &&& 63) = 12 → (c_La_law_514 d E Q l3 w)) ∧ (((qxs E (l3 : Int32).toNatClampNeg) &&& 63) = 13 → (c_La_law_547 d E Q l3 w)) ∧ (((qxs E (l3 : Int32).toNatClampNeg) &&& 63) = 14 → (c_La_law_580 d E Q l3 w)) ∧ (((qxs E (l3 : Int32).toNatClampNeg) &&& 63) = 15 → (c_La_law_603 d E Q l3 w)) ∧ (((qxs E (l3 : Int32).toNatClampNeg) &&& 63) = 16 → (c_La_law_636 d E Q l3 w)) ∧ (((qxs E (l3 : Int32).toNatClampNeg) &&& 63) = 17 → (c_La_law_669 d E Q l3 w)) ∧ (((qxs E (l3 : Int32).toNatClampNeg) &&& 63) = 18 → (c_La_law_702 d E Q l3 w)) ∧ (((qxs E (l3 : Int32).toNatClampNeg) &&& 63) = 19 → (c_La_law_736 d E Q l3 w)) ∧ (((qxs E (l3 : Int32).toNatClampNeg) &&& 63) = 20 → (c_La_law_760 d E Q l3 w)) ∧ (((qxs E (l3 : Int32).toNatClampNeg) &&& 63) = 21 → (c_La_law_793 d E Q l3 w)) ∧ (((qxs E (l3 : Int32).toNatClampNeg) &&& 63) = 22 → (c_La_law_816 d E Q l3 w)) ∧ (((qxs E (l3 : Int32).toNatClampNeg) &&& 63) = 23 → (c_La_law_849 d E Q l3 w)) ∧ (((qxs E (l3 : Int32).toNatClampNeg) &&& 63) = 24 → (c_La_law_862 d E Q l3 w)) ∧ (((qxs E (l3 : Int32).toNatClampNeg) &&& 63) = 25 → (c_La_law_895 d E Q l3 w)) ∧ (((qxs E (l3 : Int32).toNatClampNeg) &&& 63) = 26 → (c_La_law_908 d E Q l3 w)) ∧ (((qxs E (l3 : Int32).toNatClampNeg) &&& 63) = 27 → (c_La_law_921 d E Q l3 w)) ∧ (((qxs E (l3 : Int32).toNatClampNeg) &&& 63) = 28 → (c_La_law_964 d E Q l3 w)) ∧ (((qxs E (l3 : Int32).toNatClampNeg) &&& 63) = 29 → (c_La_law_987 d E Q l3 w)) ∧ (((qxs E (l3 : Int32).toNatClampNeg) &&& 63) = 30 → (c_La_law_1020 d E Q l3 w)) ∧ (((qxs E (l3 : Int32).toNatClampNeg) &&& 63) = 31 → (c_La_law_1043 d E Q l3 w)) ∧ (((qxs E (l3 : Int32).toNatClampNeg) &&& 63) = 32 → (c_La_law_1086 d E Q l3 w)) ∧ (((qxs E (l3 : Int32).toNatClampNeg) &&& 63) = 33 → (c_La_law_1159 d E Q l3 w)) ∧ (((qxs E (l3 : Int32).toNatClampNeg) &&& 63) = 34 → (c_La_law_1193 d E Q l3 w)) ∧ ((((qxs E (l3 : Int32).toNatClampNeg) &&& 63).toInt < 0 ∨ 34 < ((qxs E (l3 : Int32).toNatClampNeg) &&& 63).toInt) → (c_La_law_1256 d E Q l3 w)))))) : c_La_law_18 d E Q l3 w := by
  unfold c_La_law_18
  refine g_iload_n 3 e_La_law_18 rfl rfl ?_
  refine g_aload_n 0 e_La_law_19 rfl rfl ?_
  refine g_slen e_La_law_20 ?_
  refine g_bipush (v := 6) e_La_law_21 (by decide) ?_
  refine g_isub e_La_law_23 ?_
  refine g_icmp_gt 1262 e_La_law_24 (by decide) ⟨fun z1 => ?_, fun z1 => ?_⟩
  · have h := h.1 z1
    refine g_iconst (v := 1) e_La_law_1262 (by decide) ?_
    exact g_zret e_La_law_1263 rfl (Or.inr rfl) ⟨Sh.n hw, _, rfl, hw, h⟩
  · have h := h.2 z1
    refine g_aload_n 0 e_La_law_27 rfl rfl ?_
    refine g_iload_n 3 e_La_law_28 rfl rfl ?_
    obtain ⟨o2, h⟩ := h
    refine g_sld e_La_law_29 o2 ?_
    refine g_bipush (v := 63) e_La_law_30 (by decide) ?_
    refine g_iand e_La_law_32 ?_
    refine g_table e_La_law_33 35 (by decide) [188, 241, 274, 297, 320, 353, 376, 389, 432, 455, 468, 491, 514, 547, 580, 603, 636, 669, 702, 736, 760, 793, 816, 849, 862, 895, 908, 921, 964, 987, 1020, 1043, 1086, 1159, 1193] 1256 (by decide) (by decide +kernel) ⟨fun j3 hj3 hx3 => ?_, fun hx3 => ?_⟩
    · rcases (show j3 = 0 ∨ j3 = 1 ∨ j3 = 2 ∨ j3 = 3 ∨ j3 = 4 ∨ j3 = 5 ∨ j3 = 6 ∨ j3 = 7 ∨ j3 = 8 ∨ j3 = 9 ∨ j3 = 10 ∨ j3 = 11 ∨ j3 = 12 ∨ j3 = 13 ∨ j3 = 14 ∨ j3 = 15 ∨ j3 = 16 ∨ j3 = 17 ∨ j3 = 18 ∨ j3 = 19 ∨ j3 = 20 ∨ j3 = 21 ∨ j3 = 22 ∨ j3 = 23 ∨ j3 = 24 ∨ j3 = 25 ∨ j3 = 26 ∨ j3 = 27 ∨ j3 = 28 ∨ j3 = 29 ∨ j3 = 30 ∨ j3 = 31 ∨ j3 = 32 ∨ j3 = 33 ∨ j3 = 34 by omega) with rfl | rfl | rfl | rfl | rfl | rfl | rfl | rfl | rfl | rfl | rfl | rfl | rfl | rfl | rfl | rfl | rfl | rfl | rfl | rfl | rfl | rfl | rfl | rfl | rfl | rfl | rfl | rfl | rfl | rfl | rfl | rfl | rfl | rfl | rfl
      · have h := h.1 (q_key hx3 (by decide))
        change Go _ _ _ _ _ _ 188 _ _ _
        refine g_loc [0, 1, 2, 3] rfl ?_
        exact h
      · have h := h.2.1 (q_key hx3 (by decide))
        change Go _ _ _ _ _ _ 241 _ _ _
        refine g_loc [0, 1, 2, 3] rfl ?_
        exact h
      · have h := h.2.2.1 (q_key hx3 (by decide))
        change Go _ _ _ _ _ _ 274 _ _ _
        refine g_loc [0, 1, 2, 3] rfl ?_
        exact h
      · have h := h.2.2.2.1 (q_key hx3 (by decide))
        change Go _ _ _ _ _ _ 297 _ _ _
        refine g_loc [0, 1, 2, 3] rfl ?_
        exact h
      · have h := h.2.2.2.2.1 (q_key hx3 (by decide))
        change Go _ _ _ _ _ _ 320 _ _ _
        refine g_loc [0, 1, 2, 3] rfl ?_
        exact h
      · have h := h.2.2.2.2.2.1 (q_key hx3 (by decide))
        change Go _ _ _ _ _ _ 353 _ _ _
        refine g_loc [0, 1, 2, 3] rfl ?_
        exact h
      · have h := h.2.2.2.2.2.2.1 (q_key hx3 (by decide))
        change Go _ _ _ _ _ _ 376 _ _ _
        refine g_loc [0, 1, 2, 3] rfl ?_
        exact h
      · have h := h.2.2.2.2.2.2.2.1 (q_key hx3 (by decide))
        change Go _ _ _ _ _ _ 389 _ _ _
        refine g_loc [0, 1, 2, 3] rfl ?_
        exact h
      · have h := h.2.2.2.2.2.2.2.2.1 (q_key hx3 (by decide))
        change Go _ _ _ _ _ _ 432 _ _ _
        refine g_loc [0, 1, 2, 3] rfl ?_
        exact h
      · have h := h.2.2.2.2.2.2.2.2.2.1 (q_key hx3 (by decide))
        change Go _ _ _ _ _ _ 455 _ _ _
        refine g_loc [0, 1, 2, 3] rfl ?_
        exact h
      · have h := h.2.2.2.2.2.2.2.2.2.2.1 (q_key hx3 (by decide))
        change Go _ _ _ _ _ _ 468 _ _ _
        refine g_loc [0, 1, 2, 3] rfl ?_
        exact h
      · have h := h.2.2.2.2.2.2.2.2.2.2.2.1 (q_key hx3 (by decide))
        change Go _ _ _ _ _ _ 491 _ _ _
        refine g_loc [0, 1, 2, 3] rfl ?_
        exact h
      · have h := h.2.2.2.2.2.2.2.2.2.2.2.2.1 (q_key hx3 (by decide))
        change Go _ _ _ _ _ _ 514 _ _ _
        refine g_loc [0, 1, 2, 3] rfl ?_
        exact h
      · have h := h.2.2.2.2.2.2.2.2.2.2.2.2.2.1 (q_key hx3 (by decide))
        change Go _ _ _ _ _ _ 547 _ _ _
        refine g_loc [0, 1, 2, 3] rfl ?_
        exact h
      · have h := h.2.2.2.2.2.2.2.2.2.2.2.2.2.2.1 (q_key hx3 (by decide))
        change Go _ _ _ _ _ _ 580 _ _ _
        refine g_loc [0, 1, 2, 3] rfl ?_
        exact h
      · have h := h.2.2.2.2.2.2.2.2.2.2.2.2.2.2.2.1 (q_key hx3 (by decide))
        change Go _ _ _ _ _ _ 603 _ _ _
        refine g_loc [0, 1, 2, 3] rfl ?_
        exact h
      · have h := h.2.2.2.2.2.2.2.2.2.2.2.2.2.2.2.2.1 (q_key hx3 (by decide))
        change Go _ _ _ _ _ _ 636 _ _ _
        refine g_loc [0, 1, 2, 3] rfl ?_
        exact h
      · have h := h.2.2.2.2.2.2.2.2.2.2.2.2.2.2.2.2.2.1 (q_key hx3 (by decide))
        change Go _ _ _ _ _ _ 669 _ _ _
        refine g_loc [0, 1, 2, 3] rfl ?_
        exact h
      · have h := h.2.2.2.2.2.2.2.2.2.2.2.2.2.2.2.2.2.2.1 (q_key hx3 (by decide))
        change Go _ _ _ _ _ _ 702 _ _ _
        refine g_loc [0, 1, 2, 3] rfl ?_
        exact h
      · have h := h.2.2.2.2.2.2.2.2.2.2.2.2.2.2.2.2.2.2.2.1 (q_key hx3 (by decide))
        change Go _ _ _ _ _ _ 736 _ _ _
        refine g_loc [0, 1, 2, 3] rfl ?_
        exact h
      · have h := h.2.2.2.2.2.2.2.2.2.2.2.2.2.2.2.2.2.2.2.2.1 (q_key hx3 (by decide))
        change Go _ _ _ _ _ _ 760 _ _ _
        refine g_loc [0, 1, 2, 3] rfl ?_
        exact h
      · have h := h.2.2.2.2.2.2.2.2.2.2.2.2.2.2.2.2.2.2.2.2.2.1 (q_key hx3 (by decide))
        change Go _ _ _ _ _ _ 793 _ _ _
        refine g_loc [0, 1, 2, 3] rfl ?_
        exact h
      · have h := h.2.2.2.2.2.2.2.2.2.2.2.2.2.2.2.2.2.2.2.2.2.2.1 (q_key hx3 (by decide))
        change Go _ _ _ _ _ _ 816 _ _ _
        refine g_loc [0, 1, 2, 3] rfl ?_
        exact h
      · have h := h.2.2.2.2.2.2.2.2.2.2.2.2.2.2.2.2.2.2.2.2.2.2.2.1 (q_key hx3 (by decide))
        change Go _ _ _ _ _ _ 849 _ _ _
        refine g_loc [0, 1, 2, 3] rfl ?_
        exact h
      · have h := h.2.2.2.2.2.2.2.2.2.2.2.2.2.2.2.2.2.2.2.2.2.2.2.2.1 (q_key hx3 (by decide))
        change Go _ _ _ _ _ _ 862 _ _ _
        refine g_loc [0, 1, 2, 3] rfl ?_
        exact h
      · have h := h.2.2.2.2.2.2.2.2.2.2.2.2.2.2.2.2.2.2.2.2.2.2.2.2.2.1 (q_key hx3 (by decide))
        change Go _ _ _ _ _ _ 895 _ _ _
        refine g_loc [0, 1, 2, 3] rfl ?_
        exact h
      · have h := h.2.2.2.2.2.2.2.2.2.2.2.2.2.2.2.2.2.2.2.2.2.2.2.2.2.2.1 (q_key hx3 (by decide))
        change Go _ _ _ _ _ _ 908 _ _ _
        refine g_loc [0, 1, 2, 3] rfl ?_
        exact h
      · have h := h.2.2.2.2.2.2.2.2.2.2.2.2.2.2.2.2.2.2.2.2.2.2.2.2.2.2.2.1 (q_key hx3 (by decide))
        change Go _ _ _ _ _ _ 921 _ _ _
        refine g_loc [0, 1, 2, 3] rfl ?_
        exact h
      · have h := h.2.2.2.2.2.2.2.2.2.2.2.2.2.2.2.2.2.2.2.2.2.2.2.2.2.2.2.2.1 (q_key hx3 (by decide))
        change Go _ _ _ _ _ _ 964 _ _ _
        refine g_loc [0, 1, 2, 3] rfl ?_
        exact h
      · have h := h.2.2.2.2.2.2.2.2.2.2.2.2.2.2.2.2.2.2.2.2.2.2.2.2.2.2.2.2.2.1 (q_key hx3 (by decide))
        change Go _ _ _ _ _ _ 987 _ _ _
        refine g_loc [0, 1, 2, 3] rfl ?_
        exact h
      · have h := h.2.2.2.2.2.2.2.2.2.2.2.2.2.2.2.2.2.2.2.2.2.2.2.2.2.2.2.2.2.2.1 (q_key hx3 (by decide))
        change Go _ _ _ _ _ _ 1020 _ _ _
        refine g_loc [0, 1, 2, 3] rfl ?_
        exact h
      · have h := h.2.2.2.2.2.2.2.2.2.2.2.2.2.2.2.2.2.2.2.2.2.2.2.2.2.2.2.2.2.2.2.1 (q_key hx3 (by decide))
        change Go _ _ _ _ _ _ 1043 _ _ _
        refine g_loc [0, 1, 2, 3] rfl ?_
        exact h
      · have h := h.2.2.2.2.2.2.2.2.2.2.2.2.2.2.2.2.2.2.2.2.2.2.2.2.2.2.2.2.2.2.2.2.1 (q_key hx3 (by decide))
        change Go _ _ _ _ _ _ 1086 _ _ _
        refine g_loc [0, 1, 2, 3] rfl ?_
        exact h
      · have h := h.2.2.2.2.2.2.2.2.2.2.2.2.2.2.2.2.2.2.2.2.2.2.2.2.2.2.2.2.2.2.2.2.2.1 (q_key hx3 (by decide))
        change Go _ _ _ _ _ _ 1159 _ _ _
        refine g_loc [0, 1, 2, 3] rfl ?_
        exact h
      · have h := h.2.2.2.2.2.2.2.2.2.2.2.2.2.2.2.2.2.2.2.2.2.2.2.2.2.2.2.2.2.2.2.2.2.2.1 (q_key hx3 (by decide))
        change Go _ _ _ _ _ _ 1193 _ _ _
        refine g_loc [0, 1, 2, 3] rfl ?_
        exact h
    · have h := h.2.2.2.2.2.2.2.2.2.2.2.2.2.2.2.2.2.2.2.2.2.2.2.2.2.2.2.2.2.2.2.2.2.2.2 hx3
      refine g_loc [0, 1, 2, 3] rfl ?_
      exact h
set_option maxHeartbeats 4000000 in
set_option maxRecDepth 8000 in
theorem s_La_law_188 {d : Nat} {E : qE} {Q : qW → Int32 → Prop} {l3 : Int32} {w : qW} (hw : Sh w) (h : vp_in (l3 + 1) (qL E) ∧ (vp_in (l3 + 2) (qL E) ∧ (vp_in (l3 + 3) (qL E) ∧ (vp_in (l3 + 4) (qL E) ∧ (CaI (d + 43) M_Qu_thing [.ref (qb E + 0), .int (qxs E ((l3 + 1) : Int32).toNatClampNeg), .int (qxs E ((l3 + 2) : Int32).toNatClampNeg), .int (qxs E ((l3 + 3) : Int32).toNatClampNeg), .int (qxs E ((l3 + 4) : Int32).toNatClampNeg)] E w (fun w5 x5 => vp_in (l3 + 1) (qL E) ∧ (vp_in (l3 + 2) (qL E) ∧ (vp_in (l3 + 3) (qL E) ∧ (vp_in (l3 + 4) (qL E) ∧ (CaI (d + 43) M_Mo_thing [.ref (qb E + 115), .int (qxs E ((l3 + 1) : Int32).toNatClampNeg), .int (qxs E ((l3 + 2) : Int32).toNatClampNeg), .int (qxs E ((l3 + 3) : Int32).toNatClampNeg), .int (qxs E ((l3 + 4) : Int32).toNatClampNeg)] E w5 (fun w10 x10 => ((x5 = x10) → (c_La_law_1256 d E Q l3 w10)) ∧ ((¬ x5 = x10) → (Q w10 0))))))))))))) : c_La_law_188 d E Q l3 w := by
  unfold c_La_law_188
  refine g_aload_n 1 e_La_law_188 rfl rfl ?_
  refine g_aload_n 0 e_La_law_189 rfl rfl ?_
  refine g_iload_n 3 e_La_law_190 rfl rfl ?_
  refine g_iconst (v := 1) e_La_law_191 (by decide) ?_
  refine g_iadd e_La_law_192 ?_
  obtain ⟨o1, h⟩ := h
  refine g_sld e_La_law_193 o1 ?_
  refine g_aload_n 0 e_La_law_194 rfl rfl ?_
  refine g_iload_n 3 e_La_law_195 rfl rfl ?_
  refine g_iconst (v := 2) e_La_law_196 (by decide) ?_
  refine g_iadd e_La_law_197 ?_
  obtain ⟨o2, h⟩ := h
  refine g_sld e_La_law_198 o2 ?_
  refine g_aload_n 0 e_La_law_199 rfl rfl ?_
  refine g_iload_n 3 e_La_law_200 rfl rfl ?_
  refine g_iconst (v := 3) e_La_law_201 (by decide) ?_
  refine g_iadd e_La_law_202 ?_
  obtain ⟨o3, h⟩ := h
  refine g_sld e_La_law_203 o3 ?_
  refine g_aload_n 0 e_La_law_204 rfl rfl ?_
  refine g_iload_n 3 e_La_law_205 rfl rfl ?_
  refine g_iconst (v := 4) e_La_law_206 (by decide) ?_
  refine g_iadd e_La_law_207 ?_
  obtain ⟨o4, h⟩ := h
  refine g_sld e_La_law_208 o4 ?_
  refine w_callVI (w := w) (As := [.int (qxs E ((l3 + 1) : Int32).toNatClampNeg), .int (qxs E ((l3 + 2) : Int32).toNatClampNeg), .int (qxs E ((l3 + 3) : Int32).toNatClampNeg), .int (qxs E ((l3 + 4) : Int32).toNatClampNeg)]) (rest := []) e_La_law_209 ok_Qu_thing rfl km_La_13 kx_Qu_thing kv_Qu_thing rfl (by decide) hw lay_0 (by decide) rfl (Nat.le_of_ble_eq_true rfl) h (fun w5 x5 hw5 h => ?_)
  refine g_aload_n 2 e_La_law_212 rfl rfl ?_
  refine g_aload_n 0 e_La_law_213 rfl rfl ?_
  refine g_iload_n 3 e_La_law_214 rfl rfl ?_
  refine g_iconst (v := 1) e_La_law_215 (by decide) ?_
  refine g_iadd e_La_law_216 ?_
  obtain ⟨o6, h⟩ := h
  refine g_sld e_La_law_217 o6 ?_
  refine g_aload_n 0 e_La_law_218 rfl rfl ?_
  refine g_iload_n 3 e_La_law_219 rfl rfl ?_
  refine g_iconst (v := 2) e_La_law_220 (by decide) ?_
  refine g_iadd e_La_law_221 ?_
  obtain ⟨o7, h⟩ := h
  refine g_sld e_La_law_222 o7 ?_
  refine g_aload_n 0 e_La_law_223 rfl rfl ?_
  refine g_iload_n 3 e_La_law_224 rfl rfl ?_
  refine g_iconst (v := 3) e_La_law_225 (by decide) ?_
  refine g_iadd e_La_law_226 ?_
  obtain ⟨o8, h⟩ := h
  refine g_sld e_La_law_227 o8 ?_
  refine g_aload_n 0 e_La_law_228 rfl rfl ?_
  refine g_iload_n 3 e_La_law_229 rfl rfl ?_
  refine g_iconst (v := 4) e_La_law_230 (by decide) ?_
  refine g_iadd e_La_law_231 ?_
  obtain ⟨o9, h⟩ := h
  refine g_sld e_La_law_232 o9 ?_
  refine w_callVI (w := w5) (As := [.int (qxs E ((l3 + 1) : Int32).toNatClampNeg), .int (qxs E ((l3 + 2) : Int32).toNatClampNeg), .int (qxs E ((l3 + 3) : Int32).toNatClampNeg), .int (qxs E ((l3 + 4) : Int32).toNatClampNeg)]) (rest := [.int x5]) e_La_law_233 ok_Mo_thing rfl km_La_17 kx_Mo_thing kv_Mo_thing rfl (by decide) hw5 lay_115 (by decide) rfl (Nat.le_of_ble_eq_true rfl) h (fun w10 x10 hw10 h => ?_)
  refine g_icmp_eq 1256 e_La_law_236 (by decide) ⟨fun z11 => ?_, fun z11 => ?_⟩
  · have h := h.1 z11
    refine g_loc [0, 1, 2, 3] rfl ?_
    exact h
  · have h := h.2 z11
    refine g_iconst (v := 0) e_La_law_239 (by decide) ?_
    exact g_zret e_La_law_240 rfl (Or.inl rfl) ⟨Sh.n hw10, _, rfl, hw10, h⟩
set_option maxHeartbeats 4000000 in
set_option maxRecDepth 8000 in
theorem s_La_law_241 {d : Nat} {E : qE} {Q : qW → Int32 → Prop} {l3 : Int32} {w : qW} (hw : Sh w) (h : vp_in (l3 + 1) (qL E) ∧ (vp_in (l3 + 2) (qL E) ∧ (CaI (d + 43) M_Qu_of [.ref (qb E + 0), .int (qxs E ((l3 + 1) : Int32).toNatClampNeg), .int (qxs E ((l3 + 2) : Int32).toNatClampNeg)] E w (fun w3 x3 => vp_in (l3 + 1) (qL E) ∧ (vp_in (l3 + 2) (qL E) ∧ (CaI (d + 43) M_Mo_of [.ref (qb E + 115), .int (qxs E ((l3 + 1) : Int32).toNatClampNeg), .int (qxs E ((l3 + 2) : Int32).toNatClampNeg)] E w3 (fun w6 x6 => ((x3 = x6) → (c_La_law_1256 d E Q l3 w6)) ∧ ((¬ x3 = x6) → (Q w6 0))))))))) : c_La_law_241 d E Q l3 w := by
  unfold c_La_law_241
  refine g_aload_n 1 e_La_law_241 rfl rfl ?_
  refine g_aload_n 0 e_La_law_242 rfl rfl ?_
  refine g_iload_n 3 e_La_law_243 rfl rfl ?_
  refine g_iconst (v := 1) e_La_law_244 (by decide) ?_
  refine g_iadd e_La_law_245 ?_
  obtain ⟨o1, h⟩ := h
  refine g_sld e_La_law_246 o1 ?_
  refine g_aload_n 0 e_La_law_247 rfl rfl ?_
  refine g_iload_n 3 e_La_law_248 rfl rfl ?_
  refine g_iconst (v := 2) e_La_law_249 (by decide) ?_
  refine g_iadd e_La_law_250 ?_
  obtain ⟨o2, h⟩ := h
  refine g_sld e_La_law_251 o2 ?_
  refine w_callVI (w := w) (As := [.int (qxs E ((l3 + 1) : Int32).toNatClampNeg), .int (qxs E ((l3 + 2) : Int32).toNatClampNeg)]) (rest := []) e_La_law_252 ok_Qu_of rfl km_La_18 kx_Qu_of kv_Qu_of rfl (by decide) hw lay_0 (by decide) rfl (Nat.le_of_ble_eq_true rfl) h (fun w3 x3 hw3 h => ?_)
  refine g_aload_n 2 e_La_law_255 rfl rfl ?_
  refine g_aload_n 0 e_La_law_256 rfl rfl ?_
  refine g_iload_n 3 e_La_law_257 rfl rfl ?_
  refine g_iconst (v := 1) e_La_law_258 (by decide) ?_
  refine g_iadd e_La_law_259 ?_
  obtain ⟨o4, h⟩ := h
  refine g_sld e_La_law_260 o4 ?_
  refine g_aload_n 0 e_La_law_261 rfl rfl ?_
  refine g_iload_n 3 e_La_law_262 rfl rfl ?_
  refine g_iconst (v := 2) e_La_law_263 (by decide) ?_
  refine g_iadd e_La_law_264 ?_
  obtain ⟨o5, h⟩ := h
  refine g_sld e_La_law_265 o5 ?_
  refine w_callVI (w := w3) (As := [.int (qxs E ((l3 + 1) : Int32).toNatClampNeg), .int (qxs E ((l3 + 2) : Int32).toNatClampNeg)]) (rest := [.int x3]) e_La_law_266 ok_Mo_of rfl km_La_22 kx_Mo_of kv_Mo_of rfl (by decide) hw3 lay_115 (by decide) rfl (Nat.le_of_ble_eq_true rfl) h (fun w6 x6 hw6 h => ?_)
  refine g_icmp_eq 1256 e_La_law_269 (by decide) ⟨fun z7 => ?_, fun z7 => ?_⟩
  · have h := h.1 z7
    refine g_loc [0, 1, 2, 3] rfl ?_
    exact h
  · have h := h.2 z7
    refine g_iconst (v := 0) e_La_law_272 (by decide) ?_
    exact g_zret e_La_law_273 rfl (Or.inl rfl) ⟨Sh.n hw6, _, rfl, hw6, h⟩
set_option maxHeartbeats 4000000 in
set_option maxRecDepth 8000 in
theorem s_La_law_274 {d : Nat} {E : qE} {Q : qW → Int32 → Prop} {l3 : Int32} {w : qW} (hw : Sh w) (h : vp_in (l3 + 1) (qL E) ∧ (CaI (d + 43) M_Qu_put [.ref (qb E + 0), .int (qxs E ((l3 + 1) : Int32).toNatClampNeg)] E w (fun w2 x2 => vp_in (l3 + 1) (qL E) ∧ (CaI (d + 43) M_Mo_put [.ref (qb E + 115), .int (qxs E ((l3 + 1) : Int32).toNatClampNeg)] E w2 (fun w4 x4 => ((x2 = x4) → (c_La_law_1256 d E Q l3 w4)) ∧ ((¬ x2 = x4) → (Q w4 0))))))) : c_La_law_274 d E Q l3 w := by
  unfold c_La_law_274
  refine g_aload_n 1 e_La_law_274 rfl rfl ?_
  refine g_aload_n 0 e_La_law_275 rfl rfl ?_
  refine g_iload_n 3 e_La_law_276 rfl rfl ?_
  refine g_iconst (v := 1) e_La_law_277 (by decide) ?_
  refine g_iadd e_La_law_278 ?_
  obtain ⟨o1, h⟩ := h
  refine g_sld e_La_law_279 o1 ?_
  refine w_callVI (w := w) (As := [.int (qxs E ((l3 + 1) : Int32).toNatClampNeg)]) (rest := []) e_La_law_280 ok_Qu_put rfl km_La_23 kx_Qu_put kv_Qu_put rfl (by decide) hw lay_0 (by decide) rfl (Nat.le_of_ble_eq_true rfl) h (fun w2 x2 hw2 h => ?_)
  refine g_aload_n 2 e_La_law_283 rfl rfl ?_
  refine g_aload_n 0 e_La_law_284 rfl rfl ?_
  refine g_iload_n 3 e_La_law_285 rfl rfl ?_
  refine g_iconst (v := 1) e_La_law_286 (by decide) ?_
  refine g_iadd e_La_law_287 ?_
  obtain ⟨o3, h⟩ := h
  refine g_sld e_La_law_288 o3 ?_
  refine w_callVI (w := w2) (As := [.int (qxs E ((l3 + 1) : Int32).toNatClampNeg)]) (rest := [.int x2]) e_La_law_289 ok_Mo_put rfl km_La_27 kx_Mo_put kv_Mo_put rfl (by decide) hw2 lay_115 (by decide) rfl (Nat.le_of_ble_eq_true rfl) h (fun w4 x4 hw4 h => ?_)
  refine g_icmp_eq 1256 e_La_law_292 (by decide) ⟨fun z5 => ?_, fun z5 => ?_⟩
  · have h := h.1 z5
    refine g_loc [0, 1, 2, 3] rfl ?_
    exact h
  · have h := h.2 z5
    refine g_iconst (v := 0) e_La_law_295 (by decide) ?_
    exact g_zret e_La_law_296 rfl (Or.inl rfl) ⟨Sh.n hw4, _, rfl, hw4, h⟩
set_option maxHeartbeats 4000000 in
set_option maxRecDepth 8000 in
theorem s_La_law_297 {d : Nat} {E : qE} {Q : qW → Int32 → Prop} {l3 : Int32} {w : qW} (hw : Sh w) (h : vp_in (l3 + 1) (qL E) ∧ (CaI (d + 43) M_Qu_say [.ref (qb E + 0), .int (qxs E ((l3 + 1) : Int32).toNatClampNeg)] E w (fun w2 x2 => vp_in (l3 + 1) (qL E) ∧ (CaI (d + 43) M_Mo_say [.ref (qb E + 115), .int (qxs E ((l3 + 1) : Int32).toNatClampNeg)] E w2 (fun w4 x4 => ((x2 = x4) → (c_La_law_1256 d E Q l3 w4)) ∧ ((¬ x2 = x4) → (Q w4 0))))))) : c_La_law_297 d E Q l3 w := by
  unfold c_La_law_297
  refine g_aload_n 1 e_La_law_297 rfl rfl ?_
  refine g_aload_n 0 e_La_law_298 rfl rfl ?_
  refine g_iload_n 3 e_La_law_299 rfl rfl ?_
  refine g_iconst (v := 1) e_La_law_300 (by decide) ?_
  refine g_iadd e_La_law_301 ?_
  obtain ⟨o1, h⟩ := h
  refine g_sld e_La_law_302 o1 ?_
  refine w_callVI (w := w) (As := [.int (qxs E ((l3 + 1) : Int32).toNatClampNeg)]) (rest := []) e_La_law_303 ok_Qu_say rfl km_La_28 kx_Qu_say kv_Qu_say rfl (by decide) hw lay_0 (by decide) rfl (Nat.le_of_ble_eq_true rfl) h (fun w2 x2 hw2 h => ?_)
  refine g_aload_n 2 e_La_law_306 rfl rfl ?_
  refine g_aload_n 0 e_La_law_307 rfl rfl ?_
  refine g_iload_n 3 e_La_law_308 rfl rfl ?_
  refine g_iconst (v := 1) e_La_law_309 (by decide) ?_
  refine g_iadd e_La_law_310 ?_
  obtain ⟨o3, h⟩ := h
  refine g_sld e_La_law_311 o3 ?_
  refine w_callVI (w := w2) (As := [.int (qxs E ((l3 + 1) : Int32).toNatClampNeg)]) (rest := [.int x2]) e_La_law_312 ok_Mo_say rfl km_La_31 kx_Mo_say kv_Mo_say rfl (by decide) hw2 lay_115 (by decide) rfl (Nat.le_of_ble_eq_true rfl) h (fun w4 x4 hw4 h => ?_)
  refine g_icmp_eq 1256 e_La_law_315 (by decide) ⟨fun z5 => ?_, fun z5 => ?_⟩
  · have h := h.1 z5
    refine g_loc [0, 1, 2, 3] rfl ?_
    exact h
  · have h := h.2 z5
    refine g_iconst (v := 0) e_La_law_318 (by decide) ?_
    exact g_zret e_La_law_319 rfl (Or.inl rfl) ⟨Sh.n hw4, _, rfl, hw4, h⟩
set_option maxHeartbeats 4000000 in
set_option maxRecDepth 8000 in
theorem s_La_law_320 {d : Nat} {E : qE} {Q : qW → Int32 → Prop} {l3 : Int32} {w : qW} (hw : Sh w) (h : vp_in (l3 + 1) (qL E) ∧ (vp_in (l3 + 2) (qL E) ∧ (CaI (d + 43) M_Qu_weigh [.ref (qb E + 0), .int (qxs E ((l3 + 1) : Int32).toNatClampNeg), .int (qxs E ((l3 + 2) : Int32).toNatClampNeg)] E w (fun w3 x3 => vp_in (l3 + 1) (qL E) ∧ (vp_in (l3 + 2) (qL E) ∧ (CaI (d + 43) M_Mo_weigh [.ref (qb E + 115), .int (qxs E ((l3 + 1) : Int32).toNatClampNeg), .int (qxs E ((l3 + 2) : Int32).toNatClampNeg)] E w3 (fun w6 x6 => ((x3 = x6) → (c_La_law_1256 d E Q l3 w6)) ∧ ((¬ x3 = x6) → (Q w6 0))))))))) : c_La_law_320 d E Q l3 w := by
  unfold c_La_law_320
  refine g_aload_n 1 e_La_law_320 rfl rfl ?_
  refine g_aload_n 0 e_La_law_321 rfl rfl ?_
  refine g_iload_n 3 e_La_law_322 rfl rfl ?_
  refine g_iconst (v := 1) e_La_law_323 (by decide) ?_
  refine g_iadd e_La_law_324 ?_
  obtain ⟨o1, h⟩ := h
  refine g_sld e_La_law_325 o1 ?_
  refine g_aload_n 0 e_La_law_326 rfl rfl ?_
  refine g_iload_n 3 e_La_law_327 rfl rfl ?_
  refine g_iconst (v := 2) e_La_law_328 (by decide) ?_
  refine g_iadd e_La_law_329 ?_
  obtain ⟨o2, h⟩ := h
  refine g_sld e_La_law_330 o2 ?_
  refine w_callVI (w := w) (As := [.int (qxs E ((l3 + 1) : Int32).toNatClampNeg), .int (qxs E ((l3 + 2) : Int32).toNatClampNeg)]) (rest := []) e_La_law_331 ok_Qu_weigh rfl km_La_32 kx_Qu_weigh kv_Qu_weigh rfl (by decide) hw lay_0 (by decide) rfl (Nat.le_of_ble_eq_true rfl) h (fun w3 x3 hw3 h => ?_)
  refine g_aload_n 2 e_La_law_334 rfl rfl ?_
  refine g_aload_n 0 e_La_law_335 rfl rfl ?_
  refine g_iload_n 3 e_La_law_336 rfl rfl ?_
  refine g_iconst (v := 1) e_La_law_337 (by decide) ?_
  refine g_iadd e_La_law_338 ?_
  obtain ⟨o4, h⟩ := h
  refine g_sld e_La_law_339 o4 ?_
  refine g_aload_n 0 e_La_law_340 rfl rfl ?_
  refine g_iload_n 3 e_La_law_341 rfl rfl ?_
  refine g_iconst (v := 2) e_La_law_342 (by decide) ?_
  refine g_iadd e_La_law_343 ?_
  obtain ⟨o5, h⟩ := h
  refine g_sld e_La_law_344 o5 ?_
  refine w_callVI (w := w3) (As := [.int (qxs E ((l3 + 1) : Int32).toNatClampNeg), .int (qxs E ((l3 + 2) : Int32).toNatClampNeg)]) (rest := [.int x3]) e_La_law_345 ok_Mo_weigh rfl km_La_35 kx_Mo_weigh kv_Mo_weigh rfl (by decide) hw3 lay_115 (by decide) rfl (Nat.le_of_ble_eq_true rfl) h (fun w6 x6 hw6 h => ?_)
  refine g_icmp_eq 1256 e_La_law_348 (by decide) ⟨fun z7 => ?_, fun z7 => ?_⟩
  · have h := h.1 z7
    refine g_loc [0, 1, 2, 3] rfl ?_
    exact h
  · have h := h.2 z7
    refine g_iconst (v := 0) e_La_law_351 (by decide) ?_
    exact g_zret e_La_law_352 rfl (Or.inl rfl) ⟨Sh.n hw6, _, rfl, hw6, h⟩
set_option maxHeartbeats 4000000 in
set_option maxRecDepth 8000 in
theorem s_La_law_353 {d : Nat} {E : qE} {Q : qW → Int32 → Prop} {l3 : Int32} {w : qW} (hw : Sh w) (h : vp_in (l3 + 1) (qL E) ∧ (CaI (d + 43) M_Qu_fire [.ref (qb E + 0), .int (qxs E ((l3 + 1) : Int32).toNatClampNeg)] E w (fun w2 x2 => vp_in (l3 + 1) (qL E) ∧ (CaI (d + 43) M_Mo_fire [.ref (qb E + 115), .int (qxs E ((l3 + 1) : Int32).toNatClampNeg)] E w2 (fun w4 x4 => ((x2 = x4) → (c_La_law_1256 d E Q l3 w4)) ∧ ((¬ x2 = x4) → (Q w4 0))))))) : c_La_law_353 d E Q l3 w := by
  unfold c_La_law_353
  refine g_aload_n 1 e_La_law_353 rfl rfl ?_
  refine g_aload_n 0 e_La_law_354 rfl rfl ?_
  refine g_iload_n 3 e_La_law_355 rfl rfl ?_
  refine g_iconst (v := 1) e_La_law_356 (by decide) ?_
  refine g_iadd e_La_law_357 ?_
  obtain ⟨o1, h⟩ := h
  refine g_sld e_La_law_358 o1 ?_
  refine w_callVI (w := w) (As := [.int (qxs E ((l3 + 1) : Int32).toNatClampNeg)]) (rest := []) e_La_law_359 ok_Qu_fire rfl km_La_36 kx_Qu_fire kv_Qu_fire rfl (by decide) hw lay_0 (by decide) rfl (Nat.le_of_ble_eq_true rfl) h (fun w2 x2 hw2 h => ?_)
  refine g_aload_n 2 e_La_law_362 rfl rfl ?_
  refine g_aload_n 0 e_La_law_363 rfl rfl ?_
  refine g_iload_n 3 e_La_law_364 rfl rfl ?_
  refine g_iconst (v := 1) e_La_law_365 (by decide) ?_
  refine g_iadd e_La_law_366 ?_
  obtain ⟨o3, h⟩ := h
  refine g_sld e_La_law_367 o3 ?_
  refine w_callVI (w := w2) (As := [.int (qxs E ((l3 + 1) : Int32).toNatClampNeg)]) (rest := [.int x2]) e_La_law_368 ok_Mo_fire rfl km_La_39 kx_Mo_fire kv_Mo_fire rfl (by decide) hw2 lay_115 (by decide) rfl (Nat.le_of_ble_eq_true rfl) h (fun w4 x4 hw4 h => ?_)
  refine g_icmp_eq 1256 e_La_law_371 (by decide) ⟨fun z5 => ?_, fun z5 => ?_⟩
  · have h := h.1 z5
    refine g_loc [0, 1, 2, 3] rfl ?_
    exact h
  · have h := h.2 z5
    refine g_iconst (v := 0) e_La_law_374 (by decide) ?_
    exact g_zret e_La_law_375 rfl (Or.inl rfl) ⟨Sh.n hw4, _, rfl, hw4, h⟩
set_option maxHeartbeats 4000000 in
set_option maxRecDepth 8000 in
theorem s_La_law_376 {d : Nat} {E : qE} {Q : qW → Int32 → Prop} {l3 : Int32} {w : qW} (hw : Sh w) (h : CaI (d + 43) M_Qu_tip [.ref (qb E + 0)] E w (fun w1 x1 => CaI (d + 43) M_Mo_tip [.ref (qb E + 115)] E w1 (fun w2 x2 => ((x1 = x2) → (c_La_law_1256 d E Q l3 w2)) ∧ ((¬ x1 = x2) → (Q w2 0))))) : c_La_law_376 d E Q l3 w := by
  unfold c_La_law_376
  refine g_aload_n 1 e_La_law_376 rfl rfl ?_
  refine w_callVI (w := w) (As := []) (rest := []) e_La_law_377 ok_Qu_tip rfl km_La_40 kx_Qu_tip kv_Qu_tip rfl (by decide) hw lay_0 (by decide) rfl (Nat.le_of_ble_eq_true rfl) h (fun w1 x1 hw1 h => ?_)
  refine g_aload_n 2 e_La_law_380 rfl rfl ?_
  refine w_callVI (w := w1) (As := []) (rest := [.int x1]) e_La_law_381 ok_Mo_tip rfl km_La_44 kx_Mo_tip kv_Mo_tip rfl (by decide) hw1 lay_115 (by decide) rfl (Nat.le_of_ble_eq_true rfl) h (fun w2 x2 hw2 h => ?_)
  refine g_icmp_eq 1256 e_La_law_384 (by decide) ⟨fun z3 => ?_, fun z3 => ?_⟩
  · have h := h.1 z3
    refine g_loc [0, 1, 2, 3] rfl ?_
    exact h
  · have h := h.2 z3
    refine g_iconst (v := 0) e_La_law_387 (by decide) ?_
    exact g_zret e_La_law_388 rfl (Or.inl rfl) ⟨Sh.n hw2, _, rfl, hw2, h⟩
set_option maxHeartbeats 4000000 in
set_option maxRecDepth 8000 in
theorem s_La_law_389 {d : Nat} {E : qE} {Q : qW → Int32 → Prop} {l3 : Int32} {w : qW} (hw : Sh w) (h : vp_in (l3 + 1) (qL E) ∧ (vp_in (l3 + 2) (qL E) ∧ (vp_in (l3 + 3) (qL E) ∧ (CaI (d + 43) M_Qu_row [.ref (qb E + 0), .int (qxs E ((l3 + 1) : Int32).toNatClampNeg), .int (qxs E ((l3 + 2) : Int32).toNatClampNeg), .int (qxs E ((l3 + 3) : Int32).toNatClampNeg)] E w (fun w4 x4 => vp_in (l3 + 1) (qL E) ∧ (vp_in (l3 + 2) (qL E) ∧ (vp_in (l3 + 3) (qL E) ∧ (CaI (d + 43) M_Mo_row [.ref (qb E + 115), .int (qxs E ((l3 + 1) : Int32).toNatClampNeg), .int (qxs E ((l3 + 2) : Int32).toNatClampNeg), .int (qxs E ((l3 + 3) : Int32).toNatClampNeg)] E w4 (fun w8 x8 => ((x4 = x8) → (c_La_law_1256 d E Q l3 w8)) ∧ ((¬ x4 = x8) → (Q w8 0))))))))))) : c_La_law_389 d E Q l3 w := by
  unfold c_La_law_389
  refine g_aload_n 1 e_La_law_389 rfl rfl ?_
  refine g_aload_n 0 e_La_law_390 rfl rfl ?_
  refine g_iload_n 3 e_La_law_391 rfl rfl ?_
  refine g_iconst (v := 1) e_La_law_392 (by decide) ?_
  refine g_iadd e_La_law_393 ?_
  obtain ⟨o1, h⟩ := h
  refine g_sld e_La_law_394 o1 ?_
  refine g_aload_n 0 e_La_law_395 rfl rfl ?_
  refine g_iload_n 3 e_La_law_396 rfl rfl ?_
  refine g_iconst (v := 2) e_La_law_397 (by decide) ?_
  refine g_iadd e_La_law_398 ?_
  obtain ⟨o2, h⟩ := h
  refine g_sld e_La_law_399 o2 ?_
  refine g_aload_n 0 e_La_law_400 rfl rfl ?_
  refine g_iload_n 3 e_La_law_401 rfl rfl ?_
  refine g_iconst (v := 3) e_La_law_402 (by decide) ?_
  refine g_iadd e_La_law_403 ?_
  obtain ⟨o3, h⟩ := h
  refine g_sld e_La_law_404 o3 ?_
  refine w_callVI (w := w) (As := [.int (qxs E ((l3 + 1) : Int32).toNatClampNeg), .int (qxs E ((l3 + 2) : Int32).toNatClampNeg), .int (qxs E ((l3 + 3) : Int32).toNatClampNeg)]) (rest := []) e_La_law_405 ok_Qu_row rfl km_La_45 kx_Qu_row kv_Qu_row rfl (by decide) hw lay_0 (by decide) rfl (Nat.le_of_ble_eq_true rfl) h (fun w4 x4 hw4 h => ?_)
  refine g_aload_n 2 e_La_law_408 rfl rfl ?_
  refine g_aload_n 0 e_La_law_409 rfl rfl ?_
  refine g_iload_n 3 e_La_law_410 rfl rfl ?_
  refine g_iconst (v := 1) e_La_law_411 (by decide) ?_
  refine g_iadd e_La_law_412 ?_
  obtain ⟨o5, h⟩ := h
  refine g_sld e_La_law_413 o5 ?_
  refine g_aload_n 0 e_La_law_414 rfl rfl ?_
  refine g_iload_n 3 e_La_law_415 rfl rfl ?_
  refine g_iconst (v := 2) e_La_law_416 (by decide) ?_
  refine g_iadd e_La_law_417 ?_
  obtain ⟨o6, h⟩ := h
  refine g_sld e_La_law_418 o6 ?_
  refine g_aload_n 0 e_La_law_419 rfl rfl ?_
  refine g_iload_n 3 e_La_law_420 rfl rfl ?_
  refine g_iconst (v := 3) e_La_law_421 (by decide) ?_
  refine g_iadd e_La_law_422 ?_
  obtain ⟨o7, h⟩ := h
  refine g_sld e_La_law_423 o7 ?_
  refine w_callVI (w := w4) (As := [.int (qxs E ((l3 + 1) : Int32).toNatClampNeg), .int (qxs E ((l3 + 2) : Int32).toNatClampNeg), .int (qxs E ((l3 + 3) : Int32).toNatClampNeg)]) (rest := [.int x4]) e_La_law_424 ok_Mo_row rfl km_La_49 kx_Mo_row kv_Mo_row rfl (by decide) hw4 lay_115 (by decide) rfl (Nat.le_of_ble_eq_true rfl) h (fun w8 x8 hw8 h => ?_)
  refine g_icmp_eq 1256 e_La_law_427 (by decide) ⟨fun z9 => ?_, fun z9 => ?_⟩
  · have h := h.1 z9
    refine g_loc [0, 1, 2, 3] rfl ?_
    exact h
  · have h := h.2 z9
    refine g_iconst (v := 0) e_La_law_430 (by decide) ?_
    exact g_zret e_La_law_431 rfl (Or.inl rfl) ⟨Sh.n hw8, _, rfl, hw8, h⟩
set_option maxHeartbeats 4000000 in
set_option maxRecDepth 8000 in
theorem s_La_law_432 {d : Nat} {E : qE} {Q : qW → Int32 → Prop} {l3 : Int32} {w : qW} (hw : Sh w) (h : vp_in (l3 + 1) (qL E) ∧ (CaI (d + 43) M_Qu_feed [.ref (qb E + 0), .int (qxs E ((l3 + 1) : Int32).toNatClampNeg)] E w (fun w2 x2 => vp_in (l3 + 1) (qL E) ∧ (CaI (d + 43) M_Mo_feed [.ref (qb E + 115), .int (qxs E ((l3 + 1) : Int32).toNatClampNeg)] E w2 (fun w4 x4 => ((x2 = x4) → (c_La_law_1256 d E Q l3 w4)) ∧ ((¬ x2 = x4) → (Q w4 0))))))) : c_La_law_432 d E Q l3 w := by
  unfold c_La_law_432
  refine g_aload_n 1 e_La_law_432 rfl rfl ?_
  refine g_aload_n 0 e_La_law_433 rfl rfl ?_
  refine g_iload_n 3 e_La_law_434 rfl rfl ?_
  refine g_iconst (v := 1) e_La_law_435 (by decide) ?_
  refine g_iadd e_La_law_436 ?_
  obtain ⟨o1, h⟩ := h
  refine g_sld e_La_law_437 o1 ?_
  refine w_callVI (w := w) (As := [.int (qxs E ((l3 + 1) : Int32).toNatClampNeg)]) (rest := []) e_La_law_438 ok_Qu_feed rfl km_La_50 kx_Qu_feed kv_Qu_feed rfl (by decide) hw lay_0 (by decide) rfl (Nat.le_of_ble_eq_true rfl) h (fun w2 x2 hw2 h => ?_)
  refine g_aload_n 2 e_La_law_441 rfl rfl ?_
  refine g_aload_n 0 e_La_law_442 rfl rfl ?_
  refine g_iload_n 3 e_La_law_443 rfl rfl ?_
  refine g_iconst (v := 1) e_La_law_444 (by decide) ?_
  refine g_iadd e_La_law_445 ?_
  obtain ⟨o3, h⟩ := h
  refine g_sld e_La_law_446 o3 ?_
  refine w_callVI (w := w2) (As := [.int (qxs E ((l3 + 1) : Int32).toNatClampNeg)]) (rest := [.int x2]) e_La_law_447 ok_Mo_feed rfl km_La_53 kx_Mo_feed kv_Mo_feed rfl (by decide) hw2 lay_115 (by decide) rfl (Nat.le_of_ble_eq_true rfl) h (fun w4 x4 hw4 h => ?_)
  refine g_icmp_eq 1256 e_La_law_450 (by decide) ⟨fun z5 => ?_, fun z5 => ?_⟩
  · have h := h.1 z5
    refine g_loc [0, 1, 2, 3] rfl ?_
    exact h
  · have h := h.2 z5
    refine g_iconst (v := 0) e_La_law_453 (by decide) ?_
    exact g_zret e_La_law_454 rfl (Or.inl rfl) ⟨Sh.n hw4, _, rfl, hw4, h⟩
set_option maxHeartbeats 4000000 in
set_option maxRecDepth 8000 in
theorem s_La_law_455 {d : Nat} {E : qE} {Q : qW → Int32 → Prop} {l3 : Int32} {w : qW} (hw : Sh w) (h : CaI (d + 43) M_Qu_kitchen [.ref (qb E + 0)] E w (fun w1 x1 => CaI (d + 43) M_Mo_kitchen [.ref (qb E + 115)] E w1 (fun w2 x2 => ((x1 = x2) → (c_La_law_1256 d E Q l3 w2)) ∧ ((¬ x1 = x2) → (Q w2 0))))) : c_La_law_455 d E Q l3 w := by
  unfold c_La_law_455
  refine g_aload_n 1 e_La_law_455 rfl rfl ?_
  refine w_callVI (w := w) (As := []) (rest := []) e_La_law_456 ok_Qu_kitchen rfl km_La_54 kx_Qu_kitchen kv_Qu_kitchen rfl (by decide) hw lay_0 (by decide) rfl (Nat.le_of_ble_eq_true rfl) h (fun w1 x1 hw1 h => ?_)
  refine g_aload_n 2 e_La_law_459 rfl rfl ?_
  refine w_callVI (w := w1) (As := []) (rest := [.int x1]) e_La_law_460 ok_Mo_kitchen rfl km_La_57 kx_Mo_kitchen kv_Mo_kitchen rfl (by decide) hw1 lay_115 (by decide) rfl (Nat.le_of_ble_eq_true rfl) h (fun w2 x2 hw2 h => ?_)
  refine g_icmp_eq 1256 e_La_law_463 (by decide) ⟨fun z3 => ?_, fun z3 => ?_⟩
  · have h := h.1 z3
    refine g_loc [0, 1, 2, 3] rfl ?_
    exact h
  · have h := h.2 z3
    refine g_iconst (v := 0) e_La_law_466 (by decide) ?_
    exact g_zret e_La_law_467 rfl (Or.inl rfl) ⟨Sh.n hw2, _, rfl, hw2, h⟩
set_option maxHeartbeats 4000000 in
set_option maxRecDepth 8000 in
theorem s_La_law_468 {d : Nat} {E : qE} {Q : qW → Int32 → Prop} {l3 : Int32} {w : qW} (hw : Sh w) (h : vp_in (l3 + 1) (qL E) ∧ (CaI (d + 43) M_Qu_told [.ref (qb E + 0), .int (qxs E ((l3 + 1) : Int32).toNatClampNeg)] E w (fun w2 x2 => vp_in (l3 + 1) (qL E) ∧ (CaI (d + 43) M_Mo_told [.ref (qb E + 115), .int (qxs E ((l3 + 1) : Int32).toNatClampNeg)] E w2 (fun w4 x4 => ((x2 = x4) → (c_La_law_1256 d E Q l3 w4)) ∧ ((¬ x2 = x4) → (Q w4 0))))))) : c_La_law_468 d E Q l3 w := by
  unfold c_La_law_468
  refine g_aload_n 1 e_La_law_468 rfl rfl ?_
  refine g_aload_n 0 e_La_law_469 rfl rfl ?_
  refine g_iload_n 3 e_La_law_470 rfl rfl ?_
  refine g_iconst (v := 1) e_La_law_471 (by decide) ?_
  refine g_iadd e_La_law_472 ?_
  obtain ⟨o1, h⟩ := h
  refine g_sld e_La_law_473 o1 ?_
  refine w_callVI (w := w) (As := [.int (qxs E ((l3 + 1) : Int32).toNatClampNeg)]) (rest := []) e_La_law_474 ok_Qu_told rfl km_La_58 kx_Qu_told kv_Qu_told rfl (by decide) hw lay_0 (by decide) rfl (Nat.le_of_ble_eq_true rfl) h (fun w2 x2 hw2 h => ?_)
  refine g_aload_n 2 e_La_law_477 rfl rfl ?_
  refine g_aload_n 0 e_La_law_478 rfl rfl ?_
  refine g_iload_n 3 e_La_law_479 rfl rfl ?_
  refine g_iconst (v := 1) e_La_law_480 (by decide) ?_
  refine g_iadd e_La_law_481 ?_
  obtain ⟨o3, h⟩ := h
  refine g_sld e_La_law_482 o3 ?_
  refine w_callVI (w := w2) (As := [.int (qxs E ((l3 + 1) : Int32).toNatClampNeg)]) (rest := [.int x2]) e_La_law_483 ok_Mo_told rfl km_La_61 kx_Mo_told kv_Mo_told rfl (by decide) hw2 lay_115 (by decide) rfl (Nat.le_of_ble_eq_true rfl) h (fun w4 x4 hw4 h => ?_)
  refine g_icmp_eq 1256 e_La_law_486 (by decide) ⟨fun z5 => ?_, fun z5 => ?_⟩
  · have h := h.1 z5
    refine g_loc [0, 1, 2, 3] rfl ?_
    exact h
  · have h := h.2 z5
    refine g_iconst (v := 0) e_La_law_489 (by decide) ?_
    exact g_zret e_La_law_490 rfl (Or.inl rfl) ⟨Sh.n hw4, _, rfl, hw4, h⟩
set_option maxHeartbeats 4000000 in
set_option maxRecDepth 8000 in
theorem s_La_law_491 {d : Nat} {E : qE} {Q : qW → Int32 → Prop} {l3 : Int32} {w : qW} (hw : Sh w) (h : vp_in (l3 + 1) (qL E) ∧ (CaI (d + 43) M_Qu_pass [.ref (qb E + 0), .int (qxs E ((l3 + 1) : Int32).toNatClampNeg)] E w (fun w2 x2 => vp_in (l3 + 1) (qL E) ∧ (CaI (d + 43) M_Mo_pass [.ref (qb E + 115), .int (qxs E ((l3 + 1) : Int32).toNatClampNeg)] E w2 (fun w4 x4 => ((x2 = x4) → (c_La_law_1256 d E Q l3 w4)) ∧ ((¬ x2 = x4) → (Q w4 0))))))) : c_La_law_491 d E Q l3 w := by
  unfold c_La_law_491
  refine g_aload_n 1 e_La_law_491 rfl rfl ?_
  refine g_aload_n 0 e_La_law_492 rfl rfl ?_
  refine g_iload_n 3 e_La_law_493 rfl rfl ?_
  refine g_iconst (v := 1) e_La_law_494 (by decide) ?_
  refine g_iadd e_La_law_495 ?_
  obtain ⟨o1, h⟩ := h
  refine g_sld e_La_law_496 o1 ?_
  refine w_callVI (w := w) (As := [.int (qxs E ((l3 + 1) : Int32).toNatClampNeg)]) (rest := []) e_La_law_497 ok_Qu_pass rfl km_La_62 kx_Qu_pass kv_Qu_pass rfl (by decide) hw lay_0 (by decide) rfl (Nat.le_of_ble_eq_true rfl) h (fun w2 x2 hw2 h => ?_)
  refine g_aload_n 2 e_La_law_500 rfl rfl ?_
  refine g_aload_n 0 e_La_law_501 rfl rfl ?_
  refine g_iload_n 3 e_La_law_502 rfl rfl ?_
  refine g_iconst (v := 1) e_La_law_503 (by decide) ?_
  refine g_iadd e_La_law_504 ?_
  obtain ⟨o3, h⟩ := h
  refine g_sld e_La_law_505 o3 ?_
  refine w_callVI (w := w2) (As := [.int (qxs E ((l3 + 1) : Int32).toNatClampNeg)]) (rest := [.int x2]) e_La_law_506 ok_Mo_pass rfl km_La_65 kx_Mo_pass kv_Mo_pass rfl (by decide) hw2 lay_115 (by decide) rfl (Nat.le_of_ble_eq_true rfl) h (fun w4 x4 hw4 h => ?_)
  refine g_icmp_eq 1256 e_La_law_509 (by decide) ⟨fun z5 => ?_, fun z5 => ?_⟩
  · have h := h.1 z5
    refine g_loc [0, 1, 2, 3] rfl ?_
    exact h
  · have h := h.2 z5
    refine g_iconst (v := 0) e_La_law_512 (by decide) ?_
    exact g_zret e_La_law_513 rfl (Or.inl rfl) ⟨Sh.n hw4, _, rfl, hw4, h⟩
set_option maxHeartbeats 4000000 in
set_option maxRecDepth 8000 in
theorem s_La_law_514 {d : Nat} {E : qE} {Q : qW → Int32 → Prop} {l3 : Int32} {w : qW} (hw : Sh w) (h : vp_in (l3 + 1) (qL E) ∧ (vp_in (l3 + 2) (qL E) ∧ (CaI (d + 43) M_Qu_on [.ref (qb E + 0), .int (qxs E ((l3 + 1) : Int32).toNatClampNeg), .int (qxs E ((l3 + 2) : Int32).toNatClampNeg)] E w (fun w3 x3 => vp_in (l3 + 1) (qL E) ∧ (vp_in (l3 + 2) (qL E) ∧ (CaI (d + 43) M_Mo_on [.ref (qb E + 115), .int (qxs E ((l3 + 1) : Int32).toNatClampNeg), .int (qxs E ((l3 + 2) : Int32).toNatClampNeg)] E w3 (fun w6 x6 => ((x3 = x6) → (c_La_law_1256 d E Q l3 w6)) ∧ ((¬ x3 = x6) → (Q w6 0))))))))) : c_La_law_514 d E Q l3 w := by
  unfold c_La_law_514
  refine g_aload_n 1 e_La_law_514 rfl rfl ?_
  refine g_aload_n 0 e_La_law_515 rfl rfl ?_
  refine g_iload_n 3 e_La_law_516 rfl rfl ?_
  refine g_iconst (v := 1) e_La_law_517 (by decide) ?_
  refine g_iadd e_La_law_518 ?_
  obtain ⟨o1, h⟩ := h
  refine g_sld e_La_law_519 o1 ?_
  refine g_aload_n 0 e_La_law_520 rfl rfl ?_
  refine g_iload_n 3 e_La_law_521 rfl rfl ?_
  refine g_iconst (v := 2) e_La_law_522 (by decide) ?_
  refine g_iadd e_La_law_523 ?_
  obtain ⟨o2, h⟩ := h
  refine g_sld e_La_law_524 o2 ?_
  refine w_callVI (w := w) (As := [.int (qxs E ((l3 + 1) : Int32).toNatClampNeg), .int (qxs E ((l3 + 2) : Int32).toNatClampNeg)]) (rest := []) e_La_law_525 ok_Qu_on rfl km_La_66 kx_Qu_on kv_Qu_on rfl (by decide) hw lay_0 (by decide) rfl (Nat.le_of_ble_eq_true rfl) h (fun w3 x3 hw3 h => ?_)
  refine g_aload_n 2 e_La_law_528 rfl rfl ?_
  refine g_aload_n 0 e_La_law_529 rfl rfl ?_
  refine g_iload_n 3 e_La_law_530 rfl rfl ?_
  refine g_iconst (v := 1) e_La_law_531 (by decide) ?_
  refine g_iadd e_La_law_532 ?_
  obtain ⟨o4, h⟩ := h
  refine g_sld e_La_law_533 o4 ?_
  refine g_aload_n 0 e_La_law_534 rfl rfl ?_
  refine g_iload_n 3 e_La_law_535 rfl rfl ?_
  refine g_iconst (v := 2) e_La_law_536 (by decide) ?_
  refine g_iadd e_La_law_537 ?_
  obtain ⟨o5, h⟩ := h
  refine g_sld e_La_law_538 o5 ?_
  refine w_callVI (w := w3) (As := [.int (qxs E ((l3 + 1) : Int32).toNatClampNeg), .int (qxs E ((l3 + 2) : Int32).toNatClampNeg)]) (rest := [.int x3]) e_La_law_539 ok_Mo_on rfl km_La_69 kx_Mo_on kv_Mo_on rfl (by decide) hw3 lay_115 (by decide) rfl (Nat.le_of_ble_eq_true rfl) h (fun w6 x6 hw6 h => ?_)
  refine g_icmp_eq 1256 e_La_law_542 (by decide) ⟨fun z7 => ?_, fun z7 => ?_⟩
  · have h := h.1 z7
    refine g_loc [0, 1, 2, 3] rfl ?_
    exact h
  · have h := h.2 z7
    refine g_iconst (v := 0) e_La_law_545 (by decide) ?_
    exact g_zret e_La_law_546 rfl (Or.inl rfl) ⟨Sh.n hw6, _, rfl, hw6, h⟩
set_option maxHeartbeats 4000000 in
set_option maxRecDepth 8000 in
theorem s_La_law_547 {d : Nat} {E : qE} {Q : qW → Int32 → Prop} {l3 : Int32} {w : qW} (hw : Sh w) (h : vp_in (l3 + 1) (qL E) ∧ (vp_in (l3 + 2) (qL E) ∧ (CaI (d + 43) M_Qu_best [.ref (qb E + 0), .int (qxs E ((l3 + 1) : Int32).toNatClampNeg), .int (qxs E ((l3 + 2) : Int32).toNatClampNeg)] E w (fun w3 x3 => vp_in (l3 + 1) (qL E) ∧ (vp_in (l3 + 2) (qL E) ∧ (CaI (d + 43) M_Mo_best [.ref (qb E + 115), .int (qxs E ((l3 + 1) : Int32).toNatClampNeg), .int (qxs E ((l3 + 2) : Int32).toNatClampNeg)] E w3 (fun w6 x6 => ((x3 = x6) → (c_La_law_1256 d E Q l3 w6)) ∧ ((¬ x3 = x6) → (Q w6 0))))))))) : c_La_law_547 d E Q l3 w := by
  unfold c_La_law_547
  refine g_aload_n 1 e_La_law_547 rfl rfl ?_
  refine g_aload_n 0 e_La_law_548 rfl rfl ?_
  refine g_iload_n 3 e_La_law_549 rfl rfl ?_
  refine g_iconst (v := 1) e_La_law_550 (by decide) ?_
  refine g_iadd e_La_law_551 ?_
  obtain ⟨o1, h⟩ := h
  refine g_sld e_La_law_552 o1 ?_
  refine g_aload_n 0 e_La_law_553 rfl rfl ?_
  refine g_iload_n 3 e_La_law_554 rfl rfl ?_
  refine g_iconst (v := 2) e_La_law_555 (by decide) ?_
  refine g_iadd e_La_law_556 ?_
  obtain ⟨o2, h⟩ := h
  refine g_sld e_La_law_557 o2 ?_
  refine w_callVI (w := w) (As := [.int (qxs E ((l3 + 1) : Int32).toNatClampNeg), .int (qxs E ((l3 + 2) : Int32).toNatClampNeg)]) (rest := []) e_La_law_558 ok_Qu_best rfl km_La_70 kx_Qu_best kv_Qu_best rfl (by decide) hw lay_0 (by decide) rfl (Nat.le_of_ble_eq_true rfl) h (fun w3 x3 hw3 h => ?_)
  refine g_aload_n 2 e_La_law_561 rfl rfl ?_
  refine g_aload_n 0 e_La_law_562 rfl rfl ?_
  refine g_iload_n 3 e_La_law_563 rfl rfl ?_
  refine g_iconst (v := 1) e_La_law_564 (by decide) ?_
  refine g_iadd e_La_law_565 ?_
  obtain ⟨o4, h⟩ := h
  refine g_sld e_La_law_566 o4 ?_
  refine g_aload_n 0 e_La_law_567 rfl rfl ?_
  refine g_iload_n 3 e_La_law_568 rfl rfl ?_
  refine g_iconst (v := 2) e_La_law_569 (by decide) ?_
  refine g_iadd e_La_law_570 ?_
  obtain ⟨o5, h⟩ := h
  refine g_sld e_La_law_571 o5 ?_
  refine w_callVI (w := w3) (As := [.int (qxs E ((l3 + 1) : Int32).toNatClampNeg), .int (qxs E ((l3 + 2) : Int32).toNatClampNeg)]) (rest := [.int x3]) e_La_law_572 ok_Mo_best rfl km_La_73 kx_Mo_best kv_Mo_best rfl (by decide) hw3 lay_115 (by decide) rfl (Nat.le_of_ble_eq_true rfl) h (fun w6 x6 hw6 h => ?_)
  refine g_icmp_eq 1256 e_La_law_575 (by decide) ⟨fun z7 => ?_, fun z7 => ?_⟩
  · have h := h.1 z7
    refine g_loc [0, 1, 2, 3] rfl ?_
    exact h
  · have h := h.2 z7
    refine g_iconst (v := 0) e_La_law_578 (by decide) ?_
    exact g_zret e_La_law_579 rfl (Or.inl rfl) ⟨Sh.n hw6, _, rfl, hw6, h⟩
set_option maxHeartbeats 4000000 in
set_option maxRecDepth 8000 in
theorem s_La_law_580 {d : Nat} {E : qE} {Q : qW → Int32 → Prop} {l3 : Int32} {w : qW} (hw : Sh w) (h : vp_in (l3 + 1) (qL E) ∧ (CaI (d + 43) M_Qu_enough [.ref (qb E + 0), .int (qxs E ((l3 + 1) : Int32).toNatClampNeg)] E w (fun w2 x2 => vp_in (l3 + 1) (qL E) ∧ (CaI (d + 43) M_Mo_enough [.ref (qb E + 115), .int (qxs E ((l3 + 1) : Int32).toNatClampNeg)] E w2 (fun w4 x4 => ((x2 = x4) → (c_La_law_1256 d E Q l3 w4)) ∧ ((¬ x2 = x4) → (Q w4 0))))))) : c_La_law_580 d E Q l3 w := by
  unfold c_La_law_580
  refine g_aload_n 1 e_La_law_580 rfl rfl ?_
  refine g_aload_n 0 e_La_law_581 rfl rfl ?_
  refine g_iload_n 3 e_La_law_582 rfl rfl ?_
  refine g_iconst (v := 1) e_La_law_583 (by decide) ?_
  refine g_iadd e_La_law_584 ?_
  obtain ⟨o1, h⟩ := h
  refine g_sld e_La_law_585 o1 ?_
  refine w_callVI (w := w) (As := [.int (qxs E ((l3 + 1) : Int32).toNatClampNeg)]) (rest := []) e_La_law_586 ok_Qu_enough rfl km_La_74 kx_Qu_enough kv_Qu_enough rfl (by decide) hw lay_0 (by decide) rfl (Nat.le_of_ble_eq_true rfl) h (fun w2 x2 hw2 h => ?_)
  refine g_aload_n 2 e_La_law_589 rfl rfl ?_
  refine g_aload_n 0 e_La_law_590 rfl rfl ?_
  refine g_iload_n 3 e_La_law_591 rfl rfl ?_
  refine g_iconst (v := 1) e_La_law_592 (by decide) ?_
  refine g_iadd e_La_law_593 ?_
  obtain ⟨o3, h⟩ := h
  refine g_sld e_La_law_594 o3 ?_
  refine w_callVI (w := w2) (As := [.int (qxs E ((l3 + 1) : Int32).toNatClampNeg)]) (rest := [.int x2]) e_La_law_595 ok_Mo_enough rfl km_La_77 kx_Mo_enough kv_Mo_enough rfl (by decide) hw2 lay_115 (by decide) rfl (Nat.le_of_ble_eq_true rfl) h (fun w4 x4 hw4 h => ?_)
  refine g_icmp_eq 1256 e_La_law_598 (by decide) ⟨fun z5 => ?_, fun z5 => ?_⟩
  · have h := h.1 z5
    refine g_loc [0, 1, 2, 3] rfl ?_
    exact h
  · have h := h.2 z5
    refine g_iconst (v := 0) e_La_law_601 (by decide) ?_
    exact g_zret e_La_law_602 rfl (Or.inl rfl) ⟨Sh.n hw4, _, rfl, hw4, h⟩
set_option maxHeartbeats 4000000 in
set_option maxRecDepth 8000 in
theorem s_La_law_603 {d : Nat} {E : qE} {Q : qW → Int32 → Prop} {l3 : Int32} {w : qW} (hw : Sh w) (h : vp_in (l3 + 1) (qL E) ∧ (vp_in (l3 + 2) (qL E) ∧ (CaI (d + 43) M_Qu_flame [.ref (qb E + 0), .int (qxs E ((l3 + 1) : Int32).toNatClampNeg), .int (qxs E ((l3 + 2) : Int32).toNatClampNeg)] E w (fun w3 x3 => vp_in (l3 + 1) (qL E) ∧ (vp_in (l3 + 2) (qL E) ∧ (CaI (d + 43) M_Mo_flame [.ref (qb E + 115), .int (qxs E ((l3 + 1) : Int32).toNatClampNeg), .int (qxs E ((l3 + 2) : Int32).toNatClampNeg)] E w3 (fun w6 x6 => ((x3 = x6) → (c_La_law_1256 d E Q l3 w6)) ∧ ((¬ x3 = x6) → (Q w6 0))))))))) : c_La_law_603 d E Q l3 w := by
  unfold c_La_law_603
  refine g_aload_n 1 e_La_law_603 rfl rfl ?_
  refine g_aload_n 0 e_La_law_604 rfl rfl ?_
  refine g_iload_n 3 e_La_law_605 rfl rfl ?_
  refine g_iconst (v := 1) e_La_law_606 (by decide) ?_
  refine g_iadd e_La_law_607 ?_
  obtain ⟨o1, h⟩ := h
  refine g_sld e_La_law_608 o1 ?_
  refine g_aload_n 0 e_La_law_609 rfl rfl ?_
  refine g_iload_n 3 e_La_law_610 rfl rfl ?_
  refine g_iconst (v := 2) e_La_law_611 (by decide) ?_
  refine g_iadd e_La_law_612 ?_
  obtain ⟨o2, h⟩ := h
  refine g_sld e_La_law_613 o2 ?_
  refine w_callVI (w := w) (As := [.int (qxs E ((l3 + 1) : Int32).toNatClampNeg), .int (qxs E ((l3 + 2) : Int32).toNatClampNeg)]) (rest := []) e_La_law_614 ok_Qu_flame rfl km_La_78 kx_Qu_flame kv_Qu_flame rfl (by decide) hw lay_0 (by decide) rfl (Nat.le_of_ble_eq_true rfl) h (fun w3 x3 hw3 h => ?_)
  refine g_aload_n 2 e_La_law_617 rfl rfl ?_
  refine g_aload_n 0 e_La_law_618 rfl rfl ?_
  refine g_iload_n 3 e_La_law_619 rfl rfl ?_
  refine g_iconst (v := 1) e_La_law_620 (by decide) ?_
  refine g_iadd e_La_law_621 ?_
  obtain ⟨o4, h⟩ := h
  refine g_sld e_La_law_622 o4 ?_
  refine g_aload_n 0 e_La_law_623 rfl rfl ?_
  refine g_iload_n 3 e_La_law_624 rfl rfl ?_
  refine g_iconst (v := 2) e_La_law_625 (by decide) ?_
  refine g_iadd e_La_law_626 ?_
  obtain ⟨o5, h⟩ := h
  refine g_sld e_La_law_627 o5 ?_
  refine w_callVI (w := w3) (As := [.int (qxs E ((l3 + 1) : Int32).toNatClampNeg), .int (qxs E ((l3 + 2) : Int32).toNatClampNeg)]) (rest := [.int x3]) e_La_law_628 ok_Mo_flame rfl km_La_81 kx_Mo_flame kv_Mo_flame rfl (by decide) hw3 lay_115 (by decide) rfl (Nat.le_of_ble_eq_true rfl) h (fun w6 x6 hw6 h => ?_)
  refine g_icmp_eq 1256 e_La_law_631 (by decide) ⟨fun z7 => ?_, fun z7 => ?_⟩
  · have h := h.1 z7
    refine g_loc [0, 1, 2, 3] rfl ?_
    exact h
  · have h := h.2 z7
    refine g_iconst (v := 0) e_La_law_634 (by decide) ?_
    exact g_zret e_La_law_635 rfl (Or.inl rfl) ⟨Sh.n hw6, _, rfl, hw6, h⟩
set_option maxHeartbeats 4000000 in
set_option maxRecDepth 8000 in
theorem s_La_law_636 {d : Nat} {E : qE} {Q : qW → Int32 → Prop} {l3 : Int32} {w : qW} (hw : Sh w) (h : vp_in (l3 + 1) (qL E) ∧ (vp_in (l3 + 2) (qL E) ∧ (CaI (d + 43) M_Qu_see [.ref (qb E + 0), .int (qxs E ((l3 + 1) : Int32).toNatClampNeg), .int (qxs E ((l3 + 2) : Int32).toNatClampNeg)] E w (fun w3 x3 => vp_in (l3 + 1) (qL E) ∧ (vp_in (l3 + 2) (qL E) ∧ (CaI (d + 43) M_Mo_see [.ref (qb E + 115), .int (qxs E ((l3 + 1) : Int32).toNatClampNeg), .int (qxs E ((l3 + 2) : Int32).toNatClampNeg)] E w3 (fun w6 x6 => ((x3 = x6) → (c_La_law_1256 d E Q l3 w6)) ∧ ((¬ x3 = x6) → (Q w6 0))))))))) : c_La_law_636 d E Q l3 w := by
  unfold c_La_law_636
  refine g_aload_n 1 e_La_law_636 rfl rfl ?_
  refine g_aload_n 0 e_La_law_637 rfl rfl ?_
  refine g_iload_n 3 e_La_law_638 rfl rfl ?_
  refine g_iconst (v := 1) e_La_law_639 (by decide) ?_
  refine g_iadd e_La_law_640 ?_
  obtain ⟨o1, h⟩ := h
  refine g_sld e_La_law_641 o1 ?_
  refine g_aload_n 0 e_La_law_642 rfl rfl ?_
  refine g_iload_n 3 e_La_law_643 rfl rfl ?_
  refine g_iconst (v := 2) e_La_law_644 (by decide) ?_
  refine g_iadd e_La_law_645 ?_
  obtain ⟨o2, h⟩ := h
  refine g_sld e_La_law_646 o2 ?_
  refine w_callVI (w := w) (As := [.int (qxs E ((l3 + 1) : Int32).toNatClampNeg), .int (qxs E ((l3 + 2) : Int32).toNatClampNeg)]) (rest := []) e_La_law_647 ok_Qu_see rfl km_La_82 kx_Qu_see kv_Qu_see rfl (by decide) hw lay_0 (by decide) rfl (Nat.le_of_ble_eq_true rfl) h (fun w3 x3 hw3 h => ?_)
  refine g_aload_n 2 e_La_law_650 rfl rfl ?_
  refine g_aload_n 0 e_La_law_651 rfl rfl ?_
  refine g_iload_n 3 e_La_law_652 rfl rfl ?_
  refine g_iconst (v := 1) e_La_law_653 (by decide) ?_
  refine g_iadd e_La_law_654 ?_
  obtain ⟨o4, h⟩ := h
  refine g_sld e_La_law_655 o4 ?_
  refine g_aload_n 0 e_La_law_656 rfl rfl ?_
  refine g_iload_n 3 e_La_law_657 rfl rfl ?_
  refine g_iconst (v := 2) e_La_law_658 (by decide) ?_
  refine g_iadd e_La_law_659 ?_
  obtain ⟨o5, h⟩ := h
  refine g_sld e_La_law_660 o5 ?_
  refine w_callVI (w := w3) (As := [.int (qxs E ((l3 + 1) : Int32).toNatClampNeg), .int (qxs E ((l3 + 2) : Int32).toNatClampNeg)]) (rest := [.int x3]) e_La_law_661 ok_Mo_see rfl km_La_85 kx_Mo_see kv_Mo_see rfl (by decide) hw3 lay_115 (by decide) rfl (Nat.le_of_ble_eq_true rfl) h (fun w6 x6 hw6 h => ?_)
  refine g_icmp_eq 1256 e_La_law_664 (by decide) ⟨fun z7 => ?_, fun z7 => ?_⟩
  · have h := h.1 z7
    refine g_loc [0, 1, 2, 3] rfl ?_
    exact h
  · have h := h.2 z7
    refine g_iconst (v := 0) e_La_law_667 (by decide) ?_
    exact g_zret e_La_law_668 rfl (Or.inl rfl) ⟨Sh.n hw6, _, rfl, hw6, h⟩
set_option maxHeartbeats 4000000 in
set_option maxRecDepth 8000 in
theorem s_La_law_669 {d : Nat} {E : qE} {Q : qW → Int32 → Prop} {l3 : Int32} {w : qW} (hw : Sh w) (h : vp_in (l3 + 1) (qL E) ∧ (vp_in (l3 + 2) (qL E) ∧ (CaI (d + 43) M_Qu_can [.ref (qb E + 0), .int (qxs E ((l3 + 1) : Int32).toNatClampNeg), .int (qxs E ((l3 + 2) : Int32).toNatClampNeg)] E w (fun w3 x3 => vp_in (l3 + 1) (qL E) ∧ (vp_in (l3 + 2) (qL E) ∧ (CaI (d + 43) M_Mo_can [.ref (qb E + 115), .int (qxs E ((l3 + 1) : Int32).toNatClampNeg), .int (qxs E ((l3 + 2) : Int32).toNatClampNeg)] E w3 (fun w6 x6 => ((x3 = x6) → (c_La_law_1256 d E Q l3 w6)) ∧ ((¬ x3 = x6) → (Q w6 0))))))))) : c_La_law_669 d E Q l3 w := by
  unfold c_La_law_669
  refine g_aload_n 1 e_La_law_669 rfl rfl ?_
  refine g_aload_n 0 e_La_law_670 rfl rfl ?_
  refine g_iload_n 3 e_La_law_671 rfl rfl ?_
  refine g_iconst (v := 1) e_La_law_672 (by decide) ?_
  refine g_iadd e_La_law_673 ?_
  obtain ⟨o1, h⟩ := h
  refine g_sld e_La_law_674 o1 ?_
  refine g_aload_n 0 e_La_law_675 rfl rfl ?_
  refine g_iload_n 3 e_La_law_676 rfl rfl ?_
  refine g_iconst (v := 2) e_La_law_677 (by decide) ?_
  refine g_iadd e_La_law_678 ?_
  obtain ⟨o2, h⟩ := h
  refine g_sld e_La_law_679 o2 ?_
  refine w_callVI (w := w) (As := [.int (qxs E ((l3 + 1) : Int32).toNatClampNeg), .int (qxs E ((l3 + 2) : Int32).toNatClampNeg)]) (rest := []) e_La_law_680 ok_Qu_can rfl km_La_86 kx_Qu_can kv_Qu_can rfl (by decide) hw lay_0 (by decide) rfl (Nat.le_of_ble_eq_true rfl) h (fun w3 x3 hw3 h => ?_)
  refine g_aload_n 2 e_La_law_683 rfl rfl ?_
  refine g_aload_n 0 e_La_law_684 rfl rfl ?_
  refine g_iload_n 3 e_La_law_685 rfl rfl ?_
  refine g_iconst (v := 1) e_La_law_686 (by decide) ?_
  refine g_iadd e_La_law_687 ?_
  obtain ⟨o4, h⟩ := h
  refine g_sld e_La_law_688 o4 ?_
  refine g_aload_n 0 e_La_law_689 rfl rfl ?_
  refine g_iload_n 3 e_La_law_690 rfl rfl ?_
  refine g_iconst (v := 2) e_La_law_691 (by decide) ?_
  refine g_iadd e_La_law_692 ?_
  obtain ⟨o5, h⟩ := h
  refine g_sld e_La_law_693 o5 ?_
  refine w_callVI (w := w3) (As := [.int (qxs E ((l3 + 1) : Int32).toNatClampNeg), .int (qxs E ((l3 + 2) : Int32).toNatClampNeg)]) (rest := [.int x3]) e_La_law_694 ok_Mo_can rfl km_La_89 kx_Mo_can kv_Mo_can rfl (by decide) hw3 lay_115 (by decide) rfl (Nat.le_of_ble_eq_true rfl) h (fun w6 x6 hw6 h => ?_)
  refine g_icmp_eq 1256 e_La_law_697 (by decide) ⟨fun z7 => ?_, fun z7 => ?_⟩
  · have h := h.1 z7
    refine g_loc [0, 1, 2, 3] rfl ?_
    exact h
  · have h := h.2 z7
    refine g_iconst (v := 0) e_La_law_700 (by decide) ?_
    exact g_zret e_La_law_701 rfl (Or.inl rfl) ⟨Sh.n hw6, _, rfl, hw6, h⟩
set_option maxHeartbeats 4000000 in
set_option maxRecDepth 8000 in
theorem s_La_law_702 {d : Nat} {E : qE} {Q : qW → Int32 → Prop} {l3 : Int32} {w : qW} (hw : Sh w) (h : vp_in (l3 + 1) (qL E) ∧ (vp_in (l3 + 2) (qL E) ∧ (CaL (d + 43) M_Qu_odds [.ref (qb E + 0), .int (qxs E ((l3 + 1) : Int32).toNatClampNeg), .int (qxs E ((l3 + 2) : Int32).toNatClampNeg)] E w (fun w3 x3 => vp_in (l3 + 1) (qL E) ∧ (vp_in (l3 + 2) (qL E) ∧ (CaL (d + 43) M_Mo_odds [.ref (qb E + 115), .int (qxs E ((l3 + 1) : Int32).toNatClampNeg), .int (qxs E ((l3 + 2) : Int32).toNatClampNeg)] E w3 (fun w6 x6 => (((lg_cmp x3 x6) = 0) → (c_La_law_1256 d E Q l3 w6)) ∧ ((¬ (lg_cmp x3 x6) = 0) → (Q w6 0))))))))) : c_La_law_702 d E Q l3 w := by
  unfold c_La_law_702
  refine g_aload_n 1 e_La_law_702 rfl rfl ?_
  refine g_aload_n 0 e_La_law_703 rfl rfl ?_
  refine g_iload_n 3 e_La_law_704 rfl rfl ?_
  refine g_iconst (v := 1) e_La_law_705 (by decide) ?_
  refine g_iadd e_La_law_706 ?_
  obtain ⟨o1, h⟩ := h
  refine g_sld e_La_law_707 o1 ?_
  refine g_aload_n 0 e_La_law_708 rfl rfl ?_
  refine g_iload_n 3 e_La_law_709 rfl rfl ?_
  refine g_iconst (v := 2) e_La_law_710 (by decide) ?_
  refine g_iadd e_La_law_711 ?_
  obtain ⟨o2, h⟩ := h
  refine g_sld e_La_law_712 o2 ?_
  refine w_callVL (w := w) (As := [.int (qxs E ((l3 + 1) : Int32).toNatClampNeg), .int (qxs E ((l3 + 2) : Int32).toNatClampNeg)]) (rest := []) e_La_law_713 ok_Qu_odds rfl km_La_90 kx_Qu_odds kv_Qu_odds rfl (by decide) hw lay_0 (by decide) rfl (Nat.le_of_ble_eq_true rfl) h (fun w3 x3 hw3 h => ?_)
  refine g_aload_n 2 e_La_law_716 rfl rfl ?_
  refine g_aload_n 0 e_La_law_717 rfl rfl ?_
  refine g_iload_n 3 e_La_law_718 rfl rfl ?_
  refine g_iconst (v := 1) e_La_law_719 (by decide) ?_
  refine g_iadd e_La_law_720 ?_
  obtain ⟨o4, h⟩ := h
  refine g_sld e_La_law_721 o4 ?_
  refine g_aload_n 0 e_La_law_722 rfl rfl ?_
  refine g_iload_n 3 e_La_law_723 rfl rfl ?_
  refine g_iconst (v := 2) e_La_law_724 (by decide) ?_
  refine g_iadd e_La_law_725 ?_
  obtain ⟨o5, h⟩ := h
  refine g_sld e_La_law_726 o5 ?_
  refine w_callVL (w := w3) (As := [.int (qxs E ((l3 + 1) : Int32).toNatClampNeg), .int (qxs E ((l3 + 2) : Int32).toNatClampNeg)]) (rest := [.long x3]) e_La_law_727 ok_Mo_odds rfl km_La_94 kx_Mo_odds kv_Mo_odds rfl (by decide) hw3 lay_115 (by decide) rfl (Nat.le_of_ble_eq_true rfl) h (fun w6 x6 hw6 h => ?_)
  refine g_lcmp e_La_law_730 ?_
  refine g_if_eq 1256 e_La_law_731 (by decide) ⟨fun z7 => ?_, fun z7 => ?_⟩
  · have h := h.1 z7
    refine g_loc [0, 1, 2, 3] rfl ?_
    exact h
  · have h := h.2 z7
    refine g_iconst (v := 0) e_La_law_734 (by decide) ?_
    exact g_zret e_La_law_735 rfl (Or.inl rfl) ⟨Sh.n hw6, _, rfl, hw6, h⟩
set_option maxHeartbeats 4000000 in
set_option maxRecDepth 8000 in
theorem s_La_law_736 {d : Nat} {E : qE} {Q : qW → Int32 → Prop} {l3 : Int32} {w : qW} (hw : Sh w) (h : vp_in (l3 + 1) (qL E) ∧ (CaL (d + 43) M_Qu_mean [.ref (qb E + 0), .int (qxs E ((l3 + 1) : Int32).toNatClampNeg)] E w (fun w2 x2 => vp_in (l3 + 1) (qL E) ∧ (CaL (d + 43) M_Mo_mean [.ref (qb E + 115), .int (qxs E ((l3 + 1) : Int32).toNatClampNeg)] E w2 (fun w4 x4 => (((lg_cmp x2 x4) = 0) → (c_La_law_1256 d E Q l3 w4)) ∧ ((¬ (lg_cmp x2 x4) = 0) → (Q w4 0))))))) : c_La_law_736 d E Q l3 w := by
  unfold c_La_law_736
  refine g_aload_n 1 e_La_law_736 rfl rfl ?_
  refine g_aload_n 0 e_La_law_737 rfl rfl ?_
  refine g_iload_n 3 e_La_law_738 rfl rfl ?_
  refine g_iconst (v := 1) e_La_law_739 (by decide) ?_
  refine g_iadd e_La_law_740 ?_
  obtain ⟨o1, h⟩ := h
  refine g_sld e_La_law_741 o1 ?_
  refine w_callVL (w := w) (As := [.int (qxs E ((l3 + 1) : Int32).toNatClampNeg)]) (rest := []) e_La_law_742 ok_Qu_mean rfl km_La_95 kx_Qu_mean kv_Qu_mean rfl (by decide) hw lay_0 (by decide) rfl (Nat.le_of_ble_eq_true rfl) h (fun w2 x2 hw2 h => ?_)
  refine g_aload_n 2 e_La_law_745 rfl rfl ?_
  refine g_aload_n 0 e_La_law_746 rfl rfl ?_
  refine g_iload_n 3 e_La_law_747 rfl rfl ?_
  refine g_iconst (v := 1) e_La_law_748 (by decide) ?_
  refine g_iadd e_La_law_749 ?_
  obtain ⟨o3, h⟩ := h
  refine g_sld e_La_law_750 o3 ?_
  refine w_callVL (w := w2) (As := [.int (qxs E ((l3 + 1) : Int32).toNatClampNeg)]) (rest := [.long x2]) e_La_law_751 ok_Mo_mean rfl km_La_99 kx_Mo_mean kv_Mo_mean rfl (by decide) hw2 lay_115 (by decide) rfl (Nat.le_of_ble_eq_true rfl) h (fun w4 x4 hw4 h => ?_)
  refine g_lcmp e_La_law_754 ?_
  refine g_if_eq 1256 e_La_law_755 (by decide) ⟨fun z5 => ?_, fun z5 => ?_⟩
  · have h := h.1 z5
    refine g_loc [0, 1, 2, 3] rfl ?_
    exact h
  · have h := h.2 z5
    refine g_iconst (v := 0) e_La_law_758 (by decide) ?_
    exact g_zret e_La_law_759 rfl (Or.inl rfl) ⟨Sh.n hw4, _, rfl, hw4, h⟩
set_option maxHeartbeats 4000000 in
set_option maxRecDepth 8000 in
theorem s_La_law_760 {d : Nat} {E : qE} {Q : qW → Int32 → Prop} {l3 : Int32} {w : qW} (hw : Sh w) (h : vp_in (l3 + 1) (qL E) ∧ (vp_in (l3 + 2) (qL E) ∧ (CaI (d + 43) M_Qu_plan [.ref (qb E + 0), .int (qxs E ((l3 + 1) : Int32).toNatClampNeg), .int (qxs E ((l3 + 2) : Int32).toNatClampNeg)] E w (fun w3 x3 => vp_in (l3 + 1) (qL E) ∧ (vp_in (l3 + 2) (qL E) ∧ (CaI (d + 43) M_Mo_plan [.ref (qb E + 115), .int (qxs E ((l3 + 1) : Int32).toNatClampNeg), .int (qxs E ((l3 + 2) : Int32).toNatClampNeg)] E w3 (fun w6 x6 => ((x3 = x6) → (c_La_law_1256 d E Q l3 w6)) ∧ ((¬ x3 = x6) → (Q w6 0))))))))) : c_La_law_760 d E Q l3 w := by
  unfold c_La_law_760
  refine g_aload_n 1 e_La_law_760 rfl rfl ?_
  refine g_aload_n 0 e_La_law_761 rfl rfl ?_
  refine g_iload_n 3 e_La_law_762 rfl rfl ?_
  refine g_iconst (v := 1) e_La_law_763 (by decide) ?_
  refine g_iadd e_La_law_764 ?_
  obtain ⟨o1, h⟩ := h
  refine g_sld e_La_law_765 o1 ?_
  refine g_aload_n 0 e_La_law_766 rfl rfl ?_
  refine g_iload_n 3 e_La_law_767 rfl rfl ?_
  refine g_iconst (v := 2) e_La_law_768 (by decide) ?_
  refine g_iadd e_La_law_769 ?_
  obtain ⟨o2, h⟩ := h
  refine g_sld e_La_law_770 o2 ?_
  refine w_callVI (w := w) (As := [.int (qxs E ((l3 + 1) : Int32).toNatClampNeg), .int (qxs E ((l3 + 2) : Int32).toNatClampNeg)]) (rest := []) e_La_law_771 ok_Qu_plan rfl km_La_100 kx_Qu_plan kv_Qu_plan rfl (by decide) hw lay_0 (by decide) rfl (Nat.le_of_ble_eq_true rfl) h (fun w3 x3 hw3 h => ?_)
  refine g_aload_n 2 e_La_law_774 rfl rfl ?_
  refine g_aload_n 0 e_La_law_775 rfl rfl ?_
  refine g_iload_n 3 e_La_law_776 rfl rfl ?_
  refine g_iconst (v := 1) e_La_law_777 (by decide) ?_
  refine g_iadd e_La_law_778 ?_
  obtain ⟨o4, h⟩ := h
  refine g_sld e_La_law_779 o4 ?_
  refine g_aload_n 0 e_La_law_780 rfl rfl ?_
  refine g_iload_n 3 e_La_law_781 rfl rfl ?_
  refine g_iconst (v := 2) e_La_law_782 (by decide) ?_
  refine g_iadd e_La_law_783 ?_
  obtain ⟨o5, h⟩ := h
  refine g_sld e_La_law_784 o5 ?_
  refine w_callVI (w := w3) (As := [.int (qxs E ((l3 + 1) : Int32).toNatClampNeg), .int (qxs E ((l3 + 2) : Int32).toNatClampNeg)]) (rest := [.int x3]) e_La_law_785 ok_Mo_plan rfl km_La_103 kx_Mo_plan kv_Mo_plan rfl (by decide) hw3 lay_115 (by decide) rfl (Nat.le_of_ble_eq_true rfl) h (fun w6 x6 hw6 h => ?_)
  refine g_icmp_eq 1256 e_La_law_788 (by decide) ⟨fun z7 => ?_, fun z7 => ?_⟩
  · have h := h.1 z7
    refine g_loc [0, 1, 2, 3] rfl ?_
    exact h
  · have h := h.2 z7
    refine g_iconst (v := 0) e_La_law_791 (by decide) ?_
    exact g_zret e_La_law_792 rfl (Or.inl rfl) ⟨Sh.n hw6, _, rfl, hw6, h⟩
set_option maxHeartbeats 4000000 in
set_option maxRecDepth 8000 in
theorem s_La_law_793 {d : Nat} {E : qE} {Q : qW → Int32 → Prop} {l3 : Int32} {w : qW} (hw : Sh w) (h : vp_in (l3 + 1) (qL E) ∧ (CaI (d + 43) M_Qu_ends [.ref (qb E + 0), .int (qxs E ((l3 + 1) : Int32).toNatClampNeg)] E w (fun w2 x2 => vp_in (l3 + 1) (qL E) ∧ (CaI (d + 43) M_Mo_ends [.ref (qb E + 115), .int (qxs E ((l3 + 1) : Int32).toNatClampNeg)] E w2 (fun w4 x4 => ((x2 = x4) → (c_La_law_1256 d E Q l3 w4)) ∧ ((¬ x2 = x4) → (Q w4 0))))))) : c_La_law_793 d E Q l3 w := by
  unfold c_La_law_793
  refine g_aload_n 1 e_La_law_793 rfl rfl ?_
  refine g_aload_n 0 e_La_law_794 rfl rfl ?_
  refine g_iload_n 3 e_La_law_795 rfl rfl ?_
  refine g_iconst (v := 1) e_La_law_796 (by decide) ?_
  refine g_iadd e_La_law_797 ?_
  obtain ⟨o1, h⟩ := h
  refine g_sld e_La_law_798 o1 ?_
  refine w_callVI (w := w) (As := [.int (qxs E ((l3 + 1) : Int32).toNatClampNeg)]) (rest := []) e_La_law_799 ok_Qu_ends rfl km_La_104 kx_Qu_ends kv_Qu_ends rfl (by decide) hw lay_0 (by decide) rfl (Nat.le_of_ble_eq_true rfl) h (fun w2 x2 hw2 h => ?_)
  refine g_aload_n 2 e_La_law_802 rfl rfl ?_
  refine g_aload_n 0 e_La_law_803 rfl rfl ?_
  refine g_iload_n 3 e_La_law_804 rfl rfl ?_
  refine g_iconst (v := 1) e_La_law_805 (by decide) ?_
  refine g_iadd e_La_law_806 ?_
  obtain ⟨o3, h⟩ := h
  refine g_sld e_La_law_807 o3 ?_
  refine w_callVI (w := w2) (As := [.int (qxs E ((l3 + 1) : Int32).toNatClampNeg)]) (rest := [.int x2]) e_La_law_808 ok_Mo_ends rfl km_La_107 kx_Mo_ends kv_Mo_ends rfl (by decide) hw2 lay_115 (by decide) rfl (Nat.le_of_ble_eq_true rfl) h (fun w4 x4 hw4 h => ?_)
  refine g_icmp_eq 1256 e_La_law_811 (by decide) ⟨fun z5 => ?_, fun z5 => ?_⟩
  · have h := h.1 z5
    refine g_loc [0, 1, 2, 3] rfl ?_
    exact h
  · have h := h.2 z5
    refine g_iconst (v := 0) e_La_law_814 (by decide) ?_
    exact g_zret e_La_law_815 rfl (Or.inl rfl) ⟨Sh.n hw4, _, rfl, hw4, h⟩
set_option maxHeartbeats 4000000 in
set_option maxRecDepth 8000 in
theorem s_La_law_816 {d : Nat} {E : qE} {Q : qW → Int32 → Prop} {l3 : Int32} {w : qW} (hw : Sh w) (h : vp_in (l3 + 1) (qL E) ∧ (vp_in (l3 + 2) (qL E) ∧ (CaI (d + 43) M_Qu_book [.ref (qb E + 0), .int (qxs E ((l3 + 1) : Int32).toNatClampNeg), .int (qxs E ((l3 + 2) : Int32).toNatClampNeg)] E w (fun w3 x3 => vp_in (l3 + 1) (qL E) ∧ (vp_in (l3 + 2) (qL E) ∧ (CaI (d + 43) M_Mo_book [.ref (qb E + 115), .int (qxs E ((l3 + 1) : Int32).toNatClampNeg), .int (qxs E ((l3 + 2) : Int32).toNatClampNeg)] E w3 (fun w6 x6 => ((x3 = x6) → (c_La_law_1256 d E Q l3 w6)) ∧ ((¬ x3 = x6) → (Q w6 0))))))))) : c_La_law_816 d E Q l3 w := by
  unfold c_La_law_816
  refine g_aload_n 1 e_La_law_816 rfl rfl ?_
  refine g_aload_n 0 e_La_law_817 rfl rfl ?_
  refine g_iload_n 3 e_La_law_818 rfl rfl ?_
  refine g_iconst (v := 1) e_La_law_819 (by decide) ?_
  refine g_iadd e_La_law_820 ?_
  obtain ⟨o1, h⟩ := h
  refine g_sld e_La_law_821 o1 ?_
  refine g_aload_n 0 e_La_law_822 rfl rfl ?_
  refine g_iload_n 3 e_La_law_823 rfl rfl ?_
  refine g_iconst (v := 2) e_La_law_824 (by decide) ?_
  refine g_iadd e_La_law_825 ?_
  obtain ⟨o2, h⟩ := h
  refine g_sld e_La_law_826 o2 ?_
  refine w_callVI (w := w) (As := [.int (qxs E ((l3 + 1) : Int32).toNatClampNeg), .int (qxs E ((l3 + 2) : Int32).toNatClampNeg)]) (rest := []) e_La_law_827 ok_Qu_book rfl km_La_108 kx_Qu_book kv_Qu_book rfl (by decide) hw lay_0 (by decide) rfl (Nat.le_of_ble_eq_true rfl) h (fun w3 x3 hw3 h => ?_)
  refine g_aload_n 2 e_La_law_830 rfl rfl ?_
  refine g_aload_n 0 e_La_law_831 rfl rfl ?_
  refine g_iload_n 3 e_La_law_832 rfl rfl ?_
  refine g_iconst (v := 1) e_La_law_833 (by decide) ?_
  refine g_iadd e_La_law_834 ?_
  obtain ⟨o4, h⟩ := h
  refine g_sld e_La_law_835 o4 ?_
  refine g_aload_n 0 e_La_law_836 rfl rfl ?_
  refine g_iload_n 3 e_La_law_837 rfl rfl ?_
  refine g_iconst (v := 2) e_La_law_838 (by decide) ?_
  refine g_iadd e_La_law_839 ?_
  obtain ⟨o5, h⟩ := h
  refine g_sld e_La_law_840 o5 ?_
  refine w_callVI (w := w3) (As := [.int (qxs E ((l3 + 1) : Int32).toNatClampNeg), .int (qxs E ((l3 + 2) : Int32).toNatClampNeg)]) (rest := [.int x3]) e_La_law_841 ok_Mo_book rfl km_La_111 kx_Mo_book kv_Mo_book rfl (by decide) hw3 lay_115 (by decide) rfl (Nat.le_of_ble_eq_true rfl) h (fun w6 x6 hw6 h => ?_)
  refine g_icmp_eq 1256 e_La_law_844 (by decide) ⟨fun z7 => ?_, fun z7 => ?_⟩
  · have h := h.1 z7
    refine g_loc [0, 1, 2, 3] rfl ?_
    exact h
  · have h := h.2 z7
    refine g_iconst (v := 0) e_La_law_847 (by decide) ?_
    exact g_zret e_La_law_848 rfl (Or.inl rfl) ⟨Sh.n hw6, _, rfl, hw6, h⟩
set_option maxHeartbeats 4000000 in
set_option maxRecDepth 8000 in
theorem s_La_law_849 {d : Nat} {E : qE} {Q : qW → Int32 → Prop} {l3 : Int32} {w : qW} (hw : Sh w) (h : CaI (d + 43) M_Qu_looked [.ref (qb E + 0)] E w (fun w1 x1 => CaI (d + 43) M_Mo_looked [.ref (qb E + 115)] E w1 (fun w2 x2 => ((x1 = x2) → (c_La_law_1256 d E Q l3 w2)) ∧ ((¬ x1 = x2) → (Q w2 0))))) : c_La_law_849 d E Q l3 w := by
  unfold c_La_law_849
  refine g_aload_n 1 e_La_law_849 rfl rfl ?_
  refine w_callVI (w := w) (As := []) (rest := []) e_La_law_850 ok_Qu_looked rfl km_La_112 kx_Qu_looked kv_Qu_looked rfl (by decide) hw lay_0 (by decide) rfl (Nat.le_of_ble_eq_true rfl) h (fun w1 x1 hw1 h => ?_)
  refine g_aload_n 2 e_La_law_853 rfl rfl ?_
  refine w_callVI (w := w1) (As := []) (rest := [.int x1]) e_La_law_854 ok_Mo_looked rfl km_La_115 kx_Mo_looked kv_Mo_looked rfl (by decide) hw1 lay_115 (by decide) rfl (Nat.le_of_ble_eq_true rfl) h (fun w2 x2 hw2 h => ?_)
  refine g_icmp_eq 1256 e_La_law_857 (by decide) ⟨fun z3 => ?_, fun z3 => ?_⟩
  · have h := h.1 z3
    refine g_loc [0, 1, 2, 3] rfl ?_
    exact h
  · have h := h.2 z3
    refine g_iconst (v := 0) e_La_law_860 (by decide) ?_
    exact g_zret e_La_law_861 rfl (Or.inl rfl) ⟨Sh.n hw2, _, rfl, hw2, h⟩
set_option maxHeartbeats 4000000 in
set_option maxRecDepth 8000 in
theorem s_La_law_862 {d : Nat} {E : qE} {Q : qW → Int32 → Prop} {l3 : Int32} {w : qW} (hw : Sh w) (h : vp_in (l3 + 1) (qL E) ∧ (vp_in (l3 + 2) (qL E) ∧ (CaI (d + 43) M_Qu_judge [.ref (qb E + 0), .int (qxs E ((l3 + 1) : Int32).toNatClampNeg), .int (qxs E ((l3 + 2) : Int32).toNatClampNeg)] E w (fun w3 x3 => vp_in (l3 + 1) (qL E) ∧ (vp_in (l3 + 2) (qL E) ∧ (CaI (d + 43) M_Mo_judge [.ref (qb E + 115), .int (qxs E ((l3 + 1) : Int32).toNatClampNeg), .int (qxs E ((l3 + 2) : Int32).toNatClampNeg)] E w3 (fun w6 x6 => ((x3 = x6) → (c_La_law_1256 d E Q l3 w6)) ∧ ((¬ x3 = x6) → (Q w6 0))))))))) : c_La_law_862 d E Q l3 w := by
  unfold c_La_law_862
  refine g_aload_n 1 e_La_law_862 rfl rfl ?_
  refine g_aload_n 0 e_La_law_863 rfl rfl ?_
  refine g_iload_n 3 e_La_law_864 rfl rfl ?_
  refine g_iconst (v := 1) e_La_law_865 (by decide) ?_
  refine g_iadd e_La_law_866 ?_
  obtain ⟨o1, h⟩ := h
  refine g_sld e_La_law_867 o1 ?_
  refine g_aload_n 0 e_La_law_868 rfl rfl ?_
  refine g_iload_n 3 e_La_law_869 rfl rfl ?_
  refine g_iconst (v := 2) e_La_law_870 (by decide) ?_
  refine g_iadd e_La_law_871 ?_
  obtain ⟨o2, h⟩ := h
  refine g_sld e_La_law_872 o2 ?_
  refine w_callVI (w := w) (As := [.int (qxs E ((l3 + 1) : Int32).toNatClampNeg), .int (qxs E ((l3 + 2) : Int32).toNatClampNeg)]) (rest := []) e_La_law_873 ok_Qu_judge rfl km_La_116 kx_Qu_judge kv_Qu_judge rfl (by decide) hw lay_0 (by decide) rfl (Nat.le_of_ble_eq_true rfl) h (fun w3 x3 hw3 h => ?_)
  refine g_aload_n 2 e_La_law_876 rfl rfl ?_
  refine g_aload_n 0 e_La_law_877 rfl rfl ?_
  refine g_iload_n 3 e_La_law_878 rfl rfl ?_
  refine g_iconst (v := 1) e_La_law_879 (by decide) ?_
  refine g_iadd e_La_law_880 ?_
  obtain ⟨o4, h⟩ := h
  refine g_sld e_La_law_881 o4 ?_
  refine g_aload_n 0 e_La_law_882 rfl rfl ?_
  refine g_iload_n 3 e_La_law_883 rfl rfl ?_
  refine g_iconst (v := 2) e_La_law_884 (by decide) ?_
  refine g_iadd e_La_law_885 ?_
  obtain ⟨o5, h⟩ := h
  refine g_sld e_La_law_886 o5 ?_
  refine w_callVI (w := w3) (As := [.int (qxs E ((l3 + 1) : Int32).toNatClampNeg), .int (qxs E ((l3 + 2) : Int32).toNatClampNeg)]) (rest := [.int x3]) e_La_law_887 ok_Mo_judge rfl km_La_119 kx_Mo_judge kv_Mo_judge rfl (by decide) hw3 lay_115 (by decide) rfl (Nat.le_of_ble_eq_true rfl) h (fun w6 x6 hw6 h => ?_)
  refine g_icmp_eq 1256 e_La_law_890 (by decide) ⟨fun z7 => ?_, fun z7 => ?_⟩
  · have h := h.1 z7
    refine g_loc [0, 1, 2, 3] rfl ?_
    exact h
  · have h := h.2 z7
    refine g_iconst (v := 0) e_La_law_893 (by decide) ?_
    exact g_zret e_La_law_894 rfl (Or.inl rfl) ⟨Sh.n hw6, _, rfl, hw6, h⟩
set_option maxHeartbeats 4000000 in
set_option maxRecDepth 8000 in
theorem s_La_law_895 {d : Nat} {E : qE} {Q : qW → Int32 → Prop} {l3 : Int32} {w : qW} (hw : Sh w) (h : CaI (d + 43) M_Qu_image [.ref (qb E + 0)] E w (fun w1 x1 => CaI (d + 43) M_Mo_image [.ref (qb E + 115)] E w1 (fun w2 x2 => ((x1 = x2) → (c_La_law_1256 d E Q l3 w2)) ∧ ((¬ x1 = x2) → (Q w2 0))))) : c_La_law_895 d E Q l3 w := by
  unfold c_La_law_895
  refine g_aload_n 1 e_La_law_895 rfl rfl ?_
  refine w_callVI (w := w) (As := []) (rest := []) e_La_law_896 ok_Qu_image rfl km_La_120 kx_Qu_image kv_Qu_image rfl (by decide) hw lay_0 (by decide) rfl (Nat.le_of_ble_eq_true rfl) h (fun w1 x1 hw1 h => ?_)
  refine g_aload_n 2 e_La_law_899 rfl rfl ?_
  refine w_callVI (w := w1) (As := []) (rest := [.int x1]) e_La_law_900 ok_Mo_image rfl km_La_123 kx_Mo_image kv_Mo_image rfl (by decide) hw1 lay_115 (by decide) rfl (Nat.le_of_ble_eq_true rfl) h (fun w2 x2 hw2 h => ?_)
  refine g_icmp_eq 1256 e_La_law_903 (by decide) ⟨fun z3 => ?_, fun z3 => ?_⟩
  · have h := h.1 z3
    refine g_loc [0, 1, 2, 3] rfl ?_
    exact h
  · have h := h.2 z3
    refine g_iconst (v := 0) e_La_law_906 (by decide) ?_
    exact g_zret e_La_law_907 rfl (Or.inl rfl) ⟨Sh.n hw2, _, rfl, hw2, h⟩
set_option maxHeartbeats 4000000 in
set_option maxRecDepth 8000 in
theorem s_La_law_908 {d : Nat} {E : qE} {Q : qW → Int32 → Prop} {l3 : Int32} {w : qW} (hw : Sh w) (h : CaI (d + 43) M_Qu_undo [.ref (qb E + 0)] E w (fun w1 x1 => CaI (d + 43) M_Mo_undo [.ref (qb E + 115)] E w1 (fun w2 x2 => ((x1 = x2) → (c_La_law_1256 d E Q l3 w2)) ∧ ((¬ x1 = x2) → (Q w2 0))))) : c_La_law_908 d E Q l3 w := by
  unfold c_La_law_908
  refine g_aload_n 1 e_La_law_908 rfl rfl ?_
  refine w_callVI (w := w) (As := []) (rest := []) e_La_law_909 ok_Qu_undo rfl km_La_124 kx_Qu_undo kv_Qu_undo rfl (by decide) hw lay_0 (by decide) rfl (Nat.le_of_ble_eq_true rfl) h (fun w1 x1 hw1 h => ?_)
  refine g_aload_n 2 e_La_law_912 rfl rfl ?_
  refine w_callVI (w := w1) (As := []) (rest := [.int x1]) e_La_law_913 ok_Mo_undo rfl km_La_127 kx_Mo_undo kv_Mo_undo rfl (by decide) hw1 lay_115 (by decide) rfl (Nat.le_of_ble_eq_true rfl) h (fun w2 x2 hw2 h => ?_)
  refine g_icmp_eq 1256 e_La_law_916 (by decide) ⟨fun z3 => ?_, fun z3 => ?_⟩
  · have h := h.1 z3
    refine g_loc [0, 1, 2, 3] rfl ?_
    exact h
  · have h := h.2 z3
    refine g_iconst (v := 0) e_La_law_919 (by decide) ?_
    exact g_zret e_La_law_920 rfl (Or.inl rfl) ⟨Sh.n hw2, _, rfl, hw2, h⟩
set_option maxHeartbeats 4000000 in
set_option maxRecDepth 8000 in
theorem s_La_law_921 {d : Nat} {E : qE} {Q : qW → Int32 → Prop} {l3 : Int32} {w : qW} (hw : Sh w) (h : vp_in (l3 + 1) (qL E) ∧ (vp_in (l3 + 2) (qL E) ∧ (vp_in (l3 + 3) (qL E) ∧ (CaI (d + 43) M_Qu_act [.ref (qb E + 0), .int (qxs E ((l3 + 1) : Int32).toNatClampNeg), .int (qxs E ((l3 + 2) : Int32).toNatClampNeg), .int (qxs E ((l3 + 3) : Int32).toNatClampNeg)] E w (fun w4 x4 => vp_in (l3 + 1) (qL E) ∧ (vp_in (l3 + 2) (qL E) ∧ (vp_in (l3 + 3) (qL E) ∧ (CaI (d + 43) M_Mo_act [.ref (qb E + 115), .int (qxs E ((l3 + 1) : Int32).toNatClampNeg), .int (qxs E ((l3 + 2) : Int32).toNatClampNeg), .int (qxs E ((l3 + 3) : Int32).toNatClampNeg)] E w4 (fun w8 x8 => ((x4 = x8) → (c_La_law_1256 d E Q l3 w8)) ∧ ((¬ x4 = x8) → (Q w8 0))))))))))) : c_La_law_921 d E Q l3 w := by
  unfold c_La_law_921
  refine g_aload_n 1 e_La_law_921 rfl rfl ?_
  refine g_aload_n 0 e_La_law_922 rfl rfl ?_
  refine g_iload_n 3 e_La_law_923 rfl rfl ?_
  refine g_iconst (v := 1) e_La_law_924 (by decide) ?_
  refine g_iadd e_La_law_925 ?_
  obtain ⟨o1, h⟩ := h
  refine g_sld e_La_law_926 o1 ?_
  refine g_aload_n 0 e_La_law_927 rfl rfl ?_
  refine g_iload_n 3 e_La_law_928 rfl rfl ?_
  refine g_iconst (v := 2) e_La_law_929 (by decide) ?_
  refine g_iadd e_La_law_930 ?_
  obtain ⟨o2, h⟩ := h
  refine g_sld e_La_law_931 o2 ?_
  refine g_aload_n 0 e_La_law_932 rfl rfl ?_
  refine g_iload_n 3 e_La_law_933 rfl rfl ?_
  refine g_iconst (v := 3) e_La_law_934 (by decide) ?_
  refine g_iadd e_La_law_935 ?_
  obtain ⟨o3, h⟩ := h
  refine g_sld e_La_law_936 o3 ?_
  refine w_callVI (w := w) (As := [.int (qxs E ((l3 + 1) : Int32).toNatClampNeg), .int (qxs E ((l3 + 2) : Int32).toNatClampNeg), .int (qxs E ((l3 + 3) : Int32).toNatClampNeg)]) (rest := []) e_La_law_937 ok_Qu_act rfl km_La_128 kx_Qu_act kv_Qu_act rfl (by decide) hw lay_0 (by decide) rfl (Nat.le_of_ble_eq_true rfl) h (fun w4 x4 hw4 h => ?_)
  refine g_aload_n 2 e_La_law_940 rfl rfl ?_
  refine g_aload_n 0 e_La_law_941 rfl rfl ?_
  refine g_iload_n 3 e_La_law_942 rfl rfl ?_
  refine g_iconst (v := 1) e_La_law_943 (by decide) ?_
  refine g_iadd e_La_law_944 ?_
  obtain ⟨o5, h⟩ := h
  refine g_sld e_La_law_945 o5 ?_
  refine g_aload_n 0 e_La_law_946 rfl rfl ?_
  refine g_iload_n 3 e_La_law_947 rfl rfl ?_
  refine g_iconst (v := 2) e_La_law_948 (by decide) ?_
  refine g_iadd e_La_law_949 ?_
  obtain ⟨o6, h⟩ := h
  refine g_sld e_La_law_950 o6 ?_
  refine g_aload_n 0 e_La_law_951 rfl rfl ?_
  refine g_iload_n 3 e_La_law_952 rfl rfl ?_
  refine g_iconst (v := 3) e_La_law_953 (by decide) ?_
  refine g_iadd e_La_law_954 ?_
  obtain ⟨o7, h⟩ := h
  refine g_sld e_La_law_955 o7 ?_
  refine w_callVI (w := w4) (As := [.int (qxs E ((l3 + 1) : Int32).toNatClampNeg), .int (qxs E ((l3 + 2) : Int32).toNatClampNeg), .int (qxs E ((l3 + 3) : Int32).toNatClampNeg)]) (rest := [.int x4]) e_La_law_956 ok_Mo_act rfl km_La_131 kx_Mo_act kv_Mo_act rfl (by decide) hw4 lay_115 (by decide) rfl (Nat.le_of_ble_eq_true rfl) h (fun w8 x8 hw8 h => ?_)
  refine g_icmp_eq 1256 e_La_law_959 (by decide) ⟨fun z9 => ?_, fun z9 => ?_⟩
  · have h := h.1 z9
    refine g_loc [0, 1, 2, 3] rfl ?_
    exact h
  · have h := h.2 z9
    refine g_iconst (v := 0) e_La_law_962 (by decide) ?_
    exact g_zret e_La_law_963 rfl (Or.inl rfl) ⟨Sh.n hw8, _, rfl, hw8, h⟩
set_option maxHeartbeats 4000000 in
set_option maxRecDepth 8000 in
theorem s_La_law_964 {d : Nat} {E : qE} {Q : qW → Int32 → Prop} {l3 : Int32} {w : qW} (hw : Sh w) (h : vp_in (l3 + 1) (qL E) ∧ (CaI (d + 43) M_Qu_trace [.ref (qb E + 0), .int (qxs E ((l3 + 1) : Int32).toNatClampNeg)] E w (fun w2 x2 => vp_in (l3 + 1) (qL E) ∧ (CaI (d + 43) M_Mo_trace [.ref (qb E + 115), .int (qxs E ((l3 + 1) : Int32).toNatClampNeg)] E w2 (fun w4 x4 => ((x2 = x4) → (c_La_law_1256 d E Q l3 w4)) ∧ ((¬ x2 = x4) → (Q w4 0))))))) : c_La_law_964 d E Q l3 w := by
  unfold c_La_law_964
  refine g_aload_n 1 e_La_law_964 rfl rfl ?_
  refine g_aload_n 0 e_La_law_965 rfl rfl ?_
  refine g_iload_n 3 e_La_law_966 rfl rfl ?_
  refine g_iconst (v := 1) e_La_law_967 (by decide) ?_
  refine g_iadd e_La_law_968 ?_
  obtain ⟨o1, h⟩ := h
  refine g_sld e_La_law_969 o1 ?_
  refine w_callVI (w := w) (As := [.int (qxs E ((l3 + 1) : Int32).toNatClampNeg)]) (rest := []) e_La_law_970 ok_Qu_trace rfl km_La_132 kx_Qu_trace kv_Qu_trace rfl (by decide) hw lay_0 (by decide) rfl (Nat.le_of_ble_eq_true rfl) h (fun w2 x2 hw2 h => ?_)
  refine g_aload_n 2 e_La_law_973 rfl rfl ?_
  refine g_aload_n 0 e_La_law_974 rfl rfl ?_
  refine g_iload_n 3 e_La_law_975 rfl rfl ?_
  refine g_iconst (v := 1) e_La_law_976 (by decide) ?_
  refine g_iadd e_La_law_977 ?_
  obtain ⟨o3, h⟩ := h
  refine g_sld e_La_law_978 o3 ?_
  refine w_callVI (w := w2) (As := [.int (qxs E ((l3 + 1) : Int32).toNatClampNeg)]) (rest := [.int x2]) e_La_law_979 ok_Mo_trace rfl km_La_135 kx_Mo_trace kv_Mo_trace rfl (by decide) hw2 lay_115 (by decide) rfl (Nat.le_of_ble_eq_true rfl) h (fun w4 x4 hw4 h => ?_)
  refine g_icmp_eq 1256 e_La_law_982 (by decide) ⟨fun z5 => ?_, fun z5 => ?_⟩
  · have h := h.1 z5
    refine g_loc [0, 1, 2, 3] rfl ?_
    exact h
  · have h := h.2 z5
    refine g_iconst (v := 0) e_La_law_985 (by decide) ?_
    exact g_zret e_La_law_986 rfl (Or.inl rfl) ⟨Sh.n hw4, _, rfl, hw4, h⟩
set_option maxHeartbeats 4000000 in
set_option maxRecDepth 8000 in
theorem s_La_law_987 {d : Nat} {E : qE} {Q : qW → Int32 → Prop} {l3 : Int32} {w : qW} (hw : Sh w) (h : vp_in (l3 + 1) (qL E) ∧ (vp_in (l3 + 2) (qL E) ∧ (CaI (d + 43) M_Qu_taken [.ref (qb E + 0), .int (qxs E ((l3 + 1) : Int32).toNatClampNeg), .int (qxs E ((l3 + 2) : Int32).toNatClampNeg)] E w (fun w3 x3 => vp_in (l3 + 1) (qL E) ∧ (vp_in (l3 + 2) (qL E) ∧ (CaI (d + 43) M_Mo_taken [.ref (qb E + 115), .int (qxs E ((l3 + 1) : Int32).toNatClampNeg), .int (qxs E ((l3 + 2) : Int32).toNatClampNeg)] E w3 (fun w6 x6 => ((x3 = x6) → (c_La_law_1256 d E Q l3 w6)) ∧ ((¬ x3 = x6) → (Q w6 0))))))))) : c_La_law_987 d E Q l3 w := by
  unfold c_La_law_987
  refine g_aload_n 1 e_La_law_987 rfl rfl ?_
  refine g_aload_n 0 e_La_law_988 rfl rfl ?_
  refine g_iload_n 3 e_La_law_989 rfl rfl ?_
  refine g_iconst (v := 1) e_La_law_990 (by decide) ?_
  refine g_iadd e_La_law_991 ?_
  obtain ⟨o1, h⟩ := h
  refine g_sld e_La_law_992 o1 ?_
  refine g_aload_n 0 e_La_law_993 rfl rfl ?_
  refine g_iload_n 3 e_La_law_994 rfl rfl ?_
  refine g_iconst (v := 2) e_La_law_995 (by decide) ?_
  refine g_iadd e_La_law_996 ?_
  obtain ⟨o2, h⟩ := h
  refine g_sld e_La_law_997 o2 ?_
  refine w_callVI (w := w) (As := [.int (qxs E ((l3 + 1) : Int32).toNatClampNeg), .int (qxs E ((l3 + 2) : Int32).toNatClampNeg)]) (rest := []) e_La_law_998 ok_Qu_taken rfl km_La_136 kx_Qu_taken kv_Qu_taken rfl (by decide) hw lay_0 (by decide) rfl (Nat.le_of_ble_eq_true rfl) h (fun w3 x3 hw3 h => ?_)
  refine g_aload_n 2 e_La_law_1001 rfl rfl ?_
  refine g_aload_n 0 e_La_law_1002 rfl rfl ?_
  refine g_iload_n 3 e_La_law_1003 rfl rfl ?_
  refine g_iconst (v := 1) e_La_law_1004 (by decide) ?_
  refine g_iadd e_La_law_1005 ?_
  obtain ⟨o4, h⟩ := h
  refine g_sld e_La_law_1006 o4 ?_
  refine g_aload_n 0 e_La_law_1007 rfl rfl ?_
  refine g_iload_n 3 e_La_law_1008 rfl rfl ?_
  refine g_iconst (v := 2) e_La_law_1009 (by decide) ?_
  refine g_iadd e_La_law_1010 ?_
  obtain ⟨o5, h⟩ := h
  refine g_sld e_La_law_1011 o5 ?_
  refine w_callVI (w := w3) (As := [.int (qxs E ((l3 + 1) : Int32).toNatClampNeg), .int (qxs E ((l3 + 2) : Int32).toNatClampNeg)]) (rest := [.int x3]) e_La_law_1012 ok_Mo_taken rfl km_La_139 kx_Mo_taken kv_Mo_taken rfl (by decide) hw3 lay_115 (by decide) rfl (Nat.le_of_ble_eq_true rfl) h (fun w6 x6 hw6 h => ?_)
  refine g_icmp_eq 1256 e_La_law_1015 (by decide) ⟨fun z7 => ?_, fun z7 => ?_⟩
  · have h := h.1 z7
    refine g_loc [0, 1, 2, 3] rfl ?_
    exact h
  · have h := h.2 z7
    refine g_iconst (v := 0) e_La_law_1018 (by decide) ?_
    exact g_zret e_La_law_1019 rfl (Or.inl rfl) ⟨Sh.n hw6, _, rfl, hw6, h⟩
set_option maxHeartbeats 4000000 in
set_option maxRecDepth 8000 in
theorem s_La_law_1020 {d : Nat} {E : qE} {Q : qW → Int32 → Prop} {l3 : Int32} {w : qW} (hw : Sh w) (h : vp_in (l3 + 1) (qL E) ∧ (CaI (d + 43) M_Qu_count [.ref (qb E + 0), .int (qxs E ((l3 + 1) : Int32).toNatClampNeg)] E w (fun w2 x2 => vp_in (l3 + 1) (qL E) ∧ (CaI (d + 43) M_Mo_count [.ref (qb E + 115), .int (qxs E ((l3 + 1) : Int32).toNatClampNeg)] E w2 (fun w4 x4 => ((x2 = x4) → (c_La_law_1256 d E Q l3 w4)) ∧ ((¬ x2 = x4) → (Q w4 0))))))) : c_La_law_1020 d E Q l3 w := by
  unfold c_La_law_1020
  refine g_aload_n 1 e_La_law_1020 rfl rfl ?_
  refine g_aload_n 0 e_La_law_1021 rfl rfl ?_
  refine g_iload_n 3 e_La_law_1022 rfl rfl ?_
  refine g_iconst (v := 1) e_La_law_1023 (by decide) ?_
  refine g_iadd e_La_law_1024 ?_
  obtain ⟨o1, h⟩ := h
  refine g_sld e_La_law_1025 o1 ?_
  refine w_callVI (w := w) (As := [.int (qxs E ((l3 + 1) : Int32).toNatClampNeg)]) (rest := []) e_La_law_1026 ok_Qu_count rfl km_La_140 kx_Qu_count kv_Qu_count rfl (by decide) hw lay_0 (by decide) rfl (Nat.le_of_ble_eq_true rfl) h (fun w2 x2 hw2 h => ?_)
  refine g_aload_n 2 e_La_law_1029 rfl rfl ?_
  refine g_aload_n 0 e_La_law_1030 rfl rfl ?_
  refine g_iload_n 3 e_La_law_1031 rfl rfl ?_
  refine g_iconst (v := 1) e_La_law_1032 (by decide) ?_
  refine g_iadd e_La_law_1033 ?_
  obtain ⟨o3, h⟩ := h
  refine g_sld e_La_law_1034 o3 ?_
  refine w_callVI (w := w2) (As := [.int (qxs E ((l3 + 1) : Int32).toNatClampNeg)]) (rest := [.int x2]) e_La_law_1035 ok_Mo_count rfl km_La_143 kx_Mo_count kv_Mo_count rfl (by decide) hw2 lay_115 (by decide) rfl (Nat.le_of_ble_eq_true rfl) h (fun w4 x4 hw4 h => ?_)
  refine g_icmp_eq 1256 e_La_law_1038 (by decide) ⟨fun z5 => ?_, fun z5 => ?_⟩
  · have h := h.1 z5
    refine g_loc [0, 1, 2, 3] rfl ?_
    exact h
  · have h := h.2 z5
    refine g_iconst (v := 0) e_La_law_1041 (by decide) ?_
    exact g_zret e_La_law_1042 rfl (Or.inl rfl) ⟨Sh.n hw4, _, rfl, hw4, h⟩
set_option maxHeartbeats 4000000 in
set_option maxRecDepth 8000 in
theorem s_La_law_1043 {d : Nat} {E : qE} {Q : qW → Int32 → Prop} {l3 : Int32} {w : qW} (hw : Sh w) (h : vp_in (l3 + 1) (qL E) ∧ (vp_in (l3 + 2) (qL E) ∧ (vp_in (l3 + 3) (qL E) ∧ (CaI (d + 43) M_Qu_tape [.ref (qb E + 0), .int (qxs E ((l3 + 1) : Int32).toNatClampNeg), .int (qxs E ((l3 + 2) : Int32).toNatClampNeg), .int (qxs E ((l3 + 3) : Int32).toNatClampNeg)] E w (fun w4 x4 => vp_in (l3 + 1) (qL E) ∧ (vp_in (l3 + 2) (qL E) ∧ (vp_in (l3 + 3) (qL E) ∧ (CaI (d + 43) M_Mo_tape [.ref (qb E + 115), .int (qxs E ((l3 + 1) : Int32).toNatClampNeg), .int (qxs E ((l3 + 2) : Int32).toNatClampNeg), .int (qxs E ((l3 + 3) : Int32).toNatClampNeg)] E w4 (fun w8 x8 => ((x4 = x8) → (c_La_law_1256 d E Q l3 w8)) ∧ ((¬ x4 = x8) → (Q w8 0))))))))))) : c_La_law_1043 d E Q l3 w := by
  unfold c_La_law_1043
  refine g_aload_n 1 e_La_law_1043 rfl rfl ?_
  refine g_aload_n 0 e_La_law_1044 rfl rfl ?_
  refine g_iload_n 3 e_La_law_1045 rfl rfl ?_
  refine g_iconst (v := 1) e_La_law_1046 (by decide) ?_
  refine g_iadd e_La_law_1047 ?_
  obtain ⟨o1, h⟩ := h
  refine g_sld e_La_law_1048 o1 ?_
  refine g_aload_n 0 e_La_law_1049 rfl rfl ?_
  refine g_iload_n 3 e_La_law_1050 rfl rfl ?_
  refine g_iconst (v := 2) e_La_law_1051 (by decide) ?_
  refine g_iadd e_La_law_1052 ?_
  obtain ⟨o2, h⟩ := h
  refine g_sld e_La_law_1053 o2 ?_
  refine g_aload_n 0 e_La_law_1054 rfl rfl ?_
  refine g_iload_n 3 e_La_law_1055 rfl rfl ?_
  refine g_iconst (v := 3) e_La_law_1056 (by decide) ?_
  refine g_iadd e_La_law_1057 ?_
  obtain ⟨o3, h⟩ := h
  refine g_sld e_La_law_1058 o3 ?_
  refine w_callVI (w := w) (As := [.int (qxs E ((l3 + 1) : Int32).toNatClampNeg), .int (qxs E ((l3 + 2) : Int32).toNatClampNeg), .int (qxs E ((l3 + 3) : Int32).toNatClampNeg)]) (rest := []) e_La_law_1059 ok_Qu_tape rfl km_La_144 kx_Qu_tape kv_Qu_tape rfl (by decide) hw lay_0 (by decide) rfl (Nat.le_of_ble_eq_true rfl) h (fun w4 x4 hw4 h => ?_)
  refine g_aload_n 2 e_La_law_1062 rfl rfl ?_
  refine g_aload_n 0 e_La_law_1063 rfl rfl ?_
  refine g_iload_n 3 e_La_law_1064 rfl rfl ?_
  refine g_iconst (v := 1) e_La_law_1065 (by decide) ?_
  refine g_iadd e_La_law_1066 ?_
  obtain ⟨o5, h⟩ := h
  refine g_sld e_La_law_1067 o5 ?_
  refine g_aload_n 0 e_La_law_1068 rfl rfl ?_
  refine g_iload_n 3 e_La_law_1069 rfl rfl ?_
  refine g_iconst (v := 2) e_La_law_1070 (by decide) ?_
  refine g_iadd e_La_law_1071 ?_
  obtain ⟨o6, h⟩ := h
  refine g_sld e_La_law_1072 o6 ?_
  refine g_aload_n 0 e_La_law_1073 rfl rfl ?_
  refine g_iload_n 3 e_La_law_1074 rfl rfl ?_
  refine g_iconst (v := 3) e_La_law_1075 (by decide) ?_
  refine g_iadd e_La_law_1076 ?_
  obtain ⟨o7, h⟩ := h
  refine g_sld e_La_law_1077 o7 ?_
  refine w_callVI (w := w4) (As := [.int (qxs E ((l3 + 1) : Int32).toNatClampNeg), .int (qxs E ((l3 + 2) : Int32).toNatClampNeg), .int (qxs E ((l3 + 3) : Int32).toNatClampNeg)]) (rest := [.int x4]) e_La_law_1078 ok_Mo_tape rfl km_La_147 kx_Mo_tape kv_Mo_tape rfl (by decide) hw4 lay_115 (by decide) rfl (Nat.le_of_ble_eq_true rfl) h (fun w8 x8 hw8 h => ?_)
  refine g_icmp_eq 1256 e_La_law_1081 (by decide) ⟨fun z9 => ?_, fun z9 => ?_⟩
  · have h := h.1 z9
    refine g_loc [0, 1, 2, 3] rfl ?_
    exact h
  · have h := h.2 z9
    refine g_iconst (v := 0) e_La_law_1084 (by decide) ?_
    exact g_zret e_La_law_1085 rfl (Or.inl rfl) ⟨Sh.n hw8, _, rfl, hw8, h⟩
set_option maxHeartbeats 4000000 in
set_option maxRecDepth 8000 in
theorem s_La_law_1086 {d : Nat} {E : qE} {Q : qW → Int32 → Prop} {l3 : Int32} {w : qW} (hw : Sh w) (h : vp_in (l3 + 1) (qL E) ∧ (vp_in (l3 + 2) (qL E) ∧ (vp_in (l3 + 3) (qL E) ∧ (vp_in (l3 + 4) (qL E) ∧ (CaI (d + 43) M_Qu_item [.ref (qb E + 0), .int (qxs E ((l3 + 1) : Int32).toNatClampNeg), .int (qxs E ((l3 + 2) : Int32).toNatClampNeg), .long (((((qxs E ((l3 + 3) : Int32).toNatClampNeg) : Int32).toInt64) <<< ((32 : Int32).toInt64 &&& 63)) ||| ((((qxs E ((l3 + 4) : Int32).toNatClampNeg) : Int32).toInt64) &&& 4294967295))] E w (fun w5 x5 => vp_in (l3 + 1) (qL E) ∧ (vp_in (l3 + 2) (qL E) ∧ (vp_in (l3 + 3) (qL E) ∧ (vp_in (l3 + 4) (qL E) ∧ (CaI (d + 43) M_Mo_item [.ref (qb E + 115), .int (qxs E ((l3 + 1) : Int32).toNatClampNeg), .int (qxs E ((l3 + 2) : Int32).toNatClampNeg), .long (((((qxs E ((l3 + 3) : Int32).toNatClampNeg) : Int32).toInt64) <<< ((32 : Int32).toInt64 &&& 63)) ||| ((((qxs E ((l3 + 4) : Int32).toNatClampNeg) : Int32).toInt64) &&& 4294967295))] E w5 (fun w10 x10 => ((x5 = x10) → (c_La_law_1256 d E Q l3 w10)) ∧ ((¬ x5 = x10) → (Q w10 0))))))))))))) : c_La_law_1086 d E Q l3 w := by
  unfold c_La_law_1086
  refine g_aload_n 1 e_La_law_1086 rfl rfl ?_
  refine g_aload_n 0 e_La_law_1087 rfl rfl ?_
  refine g_iload_n 3 e_La_law_1088 rfl rfl ?_
  refine g_iconst (v := 1) e_La_law_1089 (by decide) ?_
  refine g_iadd e_La_law_1090 ?_
  obtain ⟨o1, h⟩ := h
  refine g_sld e_La_law_1091 o1 ?_
  refine g_aload_n 0 e_La_law_1092 rfl rfl ?_
  refine g_iload_n 3 e_La_law_1093 rfl rfl ?_
  refine g_iconst (v := 2) e_La_law_1094 (by decide) ?_
  refine g_iadd e_La_law_1095 ?_
  obtain ⟨o2, h⟩ := h
  refine g_sld e_La_law_1096 o2 ?_
  refine g_aload_n 0 e_La_law_1097 rfl rfl ?_
  refine g_iload_n 3 e_La_law_1098 rfl rfl ?_
  refine g_iconst (v := 3) e_La_law_1099 (by decide) ?_
  refine g_iadd e_La_law_1100 ?_
  obtain ⟨o3, h⟩ := h
  refine g_sld e_La_law_1101 o3 ?_
  refine g_i2l e_La_law_1102 ?_
  refine g_bipush (v := 32) e_La_law_1103 (by decide) ?_
  refine g_lshl e_La_law_1105 ?_
  refine g_aload_n 0 e_La_law_1106 rfl rfl ?_
  refine g_iload_n 3 e_La_law_1107 rfl rfl ?_
  refine g_iconst (v := 4) e_La_law_1108 (by decide) ?_
  refine g_iadd e_La_law_1109 ?_
  obtain ⟨o4, h⟩ := h
  refine g_sld e_La_law_1110 o4 ?_
  refine g_i2l e_La_law_1111 ?_
  refine g_ldc2 (v := 4294967295) e_La_law_1112 kk_La_148 ?_
  refine g_land e_La_law_1115 ?_
  refine g_lor e_La_law_1116 ?_
  refine w_callVI (w := w) (As := [.int (qxs E ((l3 + 1) : Int32).toNatClampNeg), .int (qxs E ((l3 + 2) : Int32).toNatClampNeg), .long (((((qxs E ((l3 + 3) : Int32).toNatClampNeg) : Int32).toInt64) <<< ((32 : Int32).toInt64 &&& 63)) ||| ((((qxs E ((l3 + 4) : Int32).toNatClampNeg) : Int32).toInt64) &&& 4294967295))]) (rest := []) e_La_law_1117 ok_Qu_item rfl km_La_150 kx_Qu_item kv_Qu_item rfl (by decide) hw lay_0 (by decide) rfl (Nat.le_of_ble_eq_true rfl) h (fun w5 x5 hw5 h => ?_)
  refine g_aload_n 2 e_La_law_1120 rfl rfl ?_
  refine g_aload_n 0 e_La_law_1121 rfl rfl ?_
  refine g_iload_n 3 e_La_law_1122 rfl rfl ?_
  refine g_iconst (v := 1) e_La_law_1123 (by decide) ?_
  refine g_iadd e_La_law_1124 ?_
  obtain ⟨o6, h⟩ := h
  refine g_sld e_La_law_1125 o6 ?_
  refine g_aload_n 0 e_La_law_1126 rfl rfl ?_
  refine g_iload_n 3 e_La_law_1127 rfl rfl ?_
  refine g_iconst (v := 2) e_La_law_1128 (by decide) ?_
  refine g_iadd e_La_law_1129 ?_
  obtain ⟨o7, h⟩ := h
  refine g_sld e_La_law_1130 o7 ?_
  refine g_aload_n 0 e_La_law_1131 rfl rfl ?_
  refine g_iload_n 3 e_La_law_1132 rfl rfl ?_
  refine g_iconst (v := 3) e_La_law_1133 (by decide) ?_
  refine g_iadd e_La_law_1134 ?_
  obtain ⟨o8, h⟩ := h
  refine g_sld e_La_law_1135 o8 ?_
  refine g_i2l e_La_law_1136 ?_
  refine g_bipush (v := 32) e_La_law_1137 (by decide) ?_
  refine g_lshl e_La_law_1139 ?_
  refine g_aload_n 0 e_La_law_1140 rfl rfl ?_
  refine g_iload_n 3 e_La_law_1141 rfl rfl ?_
  refine g_iconst (v := 4) e_La_law_1142 (by decide) ?_
  refine g_iadd e_La_law_1143 ?_
  obtain ⟨o9, h⟩ := h
  refine g_sld e_La_law_1144 o9 ?_
  refine g_i2l e_La_law_1145 ?_
  refine g_ldc2 (v := 4294967295) e_La_law_1146 kk_La_148 ?_
  refine g_land e_La_law_1149 ?_
  refine g_lor e_La_law_1150 ?_
  refine w_callVI (w := w5) (As := [.int (qxs E ((l3 + 1) : Int32).toNatClampNeg), .int (qxs E ((l3 + 2) : Int32).toNatClampNeg), .long (((((qxs E ((l3 + 3) : Int32).toNatClampNeg) : Int32).toInt64) <<< ((32 : Int32).toInt64 &&& 63)) ||| ((((qxs E ((l3 + 4) : Int32).toNatClampNeg) : Int32).toInt64) &&& 4294967295))]) (rest := [.int x5]) e_La_law_1151 ok_Mo_item rfl km_La_154 kx_Mo_item kv_Mo_item rfl (by decide) hw5 lay_115 (by decide) rfl (Nat.le_of_ble_eq_true rfl) h (fun w10 x10 hw10 h => ?_)
  refine g_icmp_eq 1256 e_La_law_1154 (by decide) ⟨fun z11 => ?_, fun z11 => ?_⟩
  · have h := h.1 z11
    refine g_loc [0, 1, 2, 3] rfl ?_
    exact h
  · have h := h.2 z11
    refine g_iconst (v := 0) e_La_law_1157 (by decide) ?_
    exact g_zret e_La_law_1158 rfl (Or.inl rfl) ⟨Sh.n hw10, _, rfl, hw10, h⟩
set_option maxHeartbeats 4000000 in
set_option maxRecDepth 8000 in
theorem s_La_law_1159 {d : Nat} {E : qE} {Q : qW → Int32 → Prop} {l3 : Int32} {w : qW} (hw : Sh w) (h : vp_in (l3 + 1) (qL E) ∧ (vp_in (l3 + 2) (qL E) ∧ (CaL (d + 43) M_Qu_read [.ref (qb E + 0), .int (qxs E ((l3 + 1) : Int32).toNatClampNeg), .int (qxs E ((l3 + 2) : Int32).toNatClampNeg)] E w (fun w3 x3 => vp_in (l3 + 1) (qL E) ∧ (vp_in (l3 + 2) (qL E) ∧ (CaL (d + 43) M_Mo_read [.ref (qb E + 115), .int (qxs E ((l3 + 1) : Int32).toNatClampNeg), .int (qxs E ((l3 + 2) : Int32).toNatClampNeg)] E w3 (fun w6 x6 => (((lg_cmp x3 x6) = 0) → (c_La_law_1256 d E Q l3 w6)) ∧ ((¬ (lg_cmp x3 x6) = 0) → (Q w6 0))))))))) : c_La_law_1159 d E Q l3 w := by
  unfold c_La_law_1159
  refine g_aload_n 1 e_La_law_1159 rfl rfl ?_
  refine g_aload_n 0 e_La_law_1160 rfl rfl ?_
  refine g_iload_n 3 e_La_law_1161 rfl rfl ?_
  refine g_iconst (v := 1) e_La_law_1162 (by decide) ?_
  refine g_iadd e_La_law_1163 ?_
  obtain ⟨o1, h⟩ := h
  refine g_sld e_La_law_1164 o1 ?_
  refine g_aload_n 0 e_La_law_1165 rfl rfl ?_
  refine g_iload_n 3 e_La_law_1166 rfl rfl ?_
  refine g_iconst (v := 2) e_La_law_1167 (by decide) ?_
  refine g_iadd e_La_law_1168 ?_
  obtain ⟨o2, h⟩ := h
  refine g_sld e_La_law_1169 o2 ?_
  refine w_callVL (w := w) (As := [.int (qxs E ((l3 + 1) : Int32).toNatClampNeg), .int (qxs E ((l3 + 2) : Int32).toNatClampNeg)]) (rest := []) e_La_law_1170 ok_Qu_read rfl km_La_155 kx_Qu_read kv_Qu_read rfl (by decide) hw lay_0 (by decide) rfl (Nat.le_of_ble_eq_true rfl) h (fun w3 x3 hw3 h => ?_)
  refine g_aload_n 2 e_La_law_1173 rfl rfl ?_
  refine g_aload_n 0 e_La_law_1174 rfl rfl ?_
  refine g_iload_n 3 e_La_law_1175 rfl rfl ?_
  refine g_iconst (v := 1) e_La_law_1176 (by decide) ?_
  refine g_iadd e_La_law_1177 ?_
  obtain ⟨o4, h⟩ := h
  refine g_sld e_La_law_1178 o4 ?_
  refine g_aload_n 0 e_La_law_1179 rfl rfl ?_
  refine g_iload_n 3 e_La_law_1180 rfl rfl ?_
  refine g_iconst (v := 2) e_La_law_1181 (by decide) ?_
  refine g_iadd e_La_law_1182 ?_
  obtain ⟨o5, h⟩ := h
  refine g_sld e_La_law_1183 o5 ?_
  refine w_callVL (w := w3) (As := [.int (qxs E ((l3 + 1) : Int32).toNatClampNeg), .int (qxs E ((l3 + 2) : Int32).toNatClampNeg)]) (rest := [.long x3]) e_La_law_1184 ok_Mo_read rfl km_La_158 kx_Mo_read kv_Mo_read rfl (by decide) hw3 lay_115 (by decide) rfl (Nat.le_of_ble_eq_true rfl) h (fun w6 x6 hw6 h => ?_)
  refine g_lcmp e_La_law_1187 ?_
  refine g_if_eq 1256 e_La_law_1188 (by decide) ⟨fun z7 => ?_, fun z7 => ?_⟩
  · have h := h.1 z7
    refine g_loc [0, 1, 2, 3] rfl ?_
    exact h
  · have h := h.2 z7
    refine g_iconst (v := 0) e_La_law_1191 (by decide) ?_
    exact g_zret e_La_law_1192 rfl (Or.inl rfl) ⟨Sh.n hw6, _, rfl, hw6, h⟩
set_option maxHeartbeats 4000000 in
set_option maxRecDepth 8000 in
theorem s_La_law_1193 {d : Nat} {E : qE} {Q : qW → Int32 → Prop} {l3 : Int32} {w : qW} (hw : Sh w) (h : vp_in (l3 + 1) (qL E) ∧ (vp_in (l3 + 2) (qL E) ∧ (vp_in (l3 + 3) (qL E) ∧ (vp_in (l3 + 4) (qL E) ∧ (vp_in (l3 + 5) (qL E) ∧ (CaI (d + 43) M_Qu_shift [.ref (qb E + 0), .int (qxs E ((l3 + 1) : Int32).toNatClampNeg), .int (qxs E ((l3 + 2) : Int32).toNatClampNeg), .int (qxs E ((l3 + 3) : Int32).toNatClampNeg), .int (qxs E ((l3 + 4) : Int32).toNatClampNeg), .int (qxs E ((l3 + 5) : Int32).toNatClampNeg)] E w (fun w6 x6 => vp_in (l3 + 1) (qL E) ∧ (vp_in (l3 + 2) (qL E) ∧ (vp_in (l3 + 3) (qL E) ∧ (vp_in (l3 + 4) (qL E) ∧ (vp_in (l3 + 5) (qL E) ∧ (CaI (d + 43) M_Mo_shift [.ref (qb E + 115), .int (qxs E ((l3 + 1) : Int32).toNatClampNeg), .int (qxs E ((l3 + 2) : Int32).toNatClampNeg), .int (qxs E ((l3 + 3) : Int32).toNatClampNeg), .int (qxs E ((l3 + 4) : Int32).toNatClampNeg), .int (qxs E ((l3 + 5) : Int32).toNatClampNeg)] E w6 (fun w12 x12 => ((x6 = x12) → (c_La_law_1256 d E Q l3 w12)) ∧ ((¬ x6 = x12) → (Q w12 0))))))))))))))) : c_La_law_1193 d E Q l3 w := by
  unfold c_La_law_1193
  refine g_aload_n 1 e_La_law_1193 rfl rfl ?_
  refine g_aload_n 0 e_La_law_1194 rfl rfl ?_
  refine g_iload_n 3 e_La_law_1195 rfl rfl ?_
  refine g_iconst (v := 1) e_La_law_1196 (by decide) ?_
  refine g_iadd e_La_law_1197 ?_
  obtain ⟨o1, h⟩ := h
  refine g_sld e_La_law_1198 o1 ?_
  refine g_aload_n 0 e_La_law_1199 rfl rfl ?_
  refine g_iload_n 3 e_La_law_1200 rfl rfl ?_
  refine g_iconst (v := 2) e_La_law_1201 (by decide) ?_
  refine g_iadd e_La_law_1202 ?_
  obtain ⟨o2, h⟩ := h
  refine g_sld e_La_law_1203 o2 ?_
  refine g_aload_n 0 e_La_law_1204 rfl rfl ?_
  refine g_iload_n 3 e_La_law_1205 rfl rfl ?_
  refine g_iconst (v := 3) e_La_law_1206 (by decide) ?_
  refine g_iadd e_La_law_1207 ?_
  obtain ⟨o3, h⟩ := h
  refine g_sld e_La_law_1208 o3 ?_
  refine g_aload_n 0 e_La_law_1209 rfl rfl ?_
  refine g_iload_n 3 e_La_law_1210 rfl rfl ?_
  refine g_iconst (v := 4) e_La_law_1211 (by decide) ?_
  refine g_iadd e_La_law_1212 ?_
  obtain ⟨o4, h⟩ := h
  refine g_sld e_La_law_1213 o4 ?_
  refine g_aload_n 0 e_La_law_1214 rfl rfl ?_
  refine g_iload_n 3 e_La_law_1215 rfl rfl ?_
  refine g_iconst (v := 5) e_La_law_1216 (by decide) ?_
  refine g_iadd e_La_law_1217 ?_
  obtain ⟨o5, h⟩ := h
  refine g_sld e_La_law_1218 o5 ?_
  refine w_callVI (w := w) (As := [.int (qxs E ((l3 + 1) : Int32).toNatClampNeg), .int (qxs E ((l3 + 2) : Int32).toNatClampNeg), .int (qxs E ((l3 + 3) : Int32).toNatClampNeg), .int (qxs E ((l3 + 4) : Int32).toNatClampNeg), .int (qxs E ((l3 + 5) : Int32).toNatClampNeg)]) (rest := []) e_La_law_1219 ok_Qu_shift rfl km_La_159 kx_Qu_shift kv_Qu_shift rfl (by decide) hw lay_0 (by decide) rfl (Nat.le_of_ble_eq_true rfl) h (fun w6 x6 hw6 h => ?_)
  refine g_aload_n 2 e_La_law_1222 rfl rfl ?_
  refine g_aload_n 0 e_La_law_1223 rfl rfl ?_
  refine g_iload_n 3 e_La_law_1224 rfl rfl ?_
  refine g_iconst (v := 1) e_La_law_1225 (by decide) ?_
  refine g_iadd e_La_law_1226 ?_
  obtain ⟨o7, h⟩ := h
  refine g_sld e_La_law_1227 o7 ?_
  refine g_aload_n 0 e_La_law_1228 rfl rfl ?_
  refine g_iload_n 3 e_La_law_1229 rfl rfl ?_
  refine g_iconst (v := 2) e_La_law_1230 (by decide) ?_
  refine g_iadd e_La_law_1231 ?_
  obtain ⟨o8, h⟩ := h
  refine g_sld e_La_law_1232 o8 ?_
  refine g_aload_n 0 e_La_law_1233 rfl rfl ?_
  refine g_iload_n 3 e_La_law_1234 rfl rfl ?_
  refine g_iconst (v := 3) e_La_law_1235 (by decide) ?_
  refine g_iadd e_La_law_1236 ?_
  obtain ⟨o9, h⟩ := h
  refine g_sld e_La_law_1237 o9 ?_
  refine g_aload_n 0 e_La_law_1238 rfl rfl ?_
  refine g_iload_n 3 e_La_law_1239 rfl rfl ?_
  refine g_iconst (v := 4) e_La_law_1240 (by decide) ?_
  refine g_iadd e_La_law_1241 ?_
  obtain ⟨o10, h⟩ := h
  refine g_sld e_La_law_1242 o10 ?_
  refine g_aload_n 0 e_La_law_1243 rfl rfl ?_
  refine g_iload_n 3 e_La_law_1244 rfl rfl ?_
  refine g_iconst (v := 5) e_La_law_1245 (by decide) ?_
  refine g_iadd e_La_law_1246 ?_
  obtain ⟨o11, h⟩ := h
  refine g_sld e_La_law_1247 o11 ?_
  refine w_callVI (w := w6) (As := [.int (qxs E ((l3 + 1) : Int32).toNatClampNeg), .int (qxs E ((l3 + 2) : Int32).toNatClampNeg), .int (qxs E ((l3 + 3) : Int32).toNatClampNeg), .int (qxs E ((l3 + 4) : Int32).toNatClampNeg), .int (qxs E ((l3 + 5) : Int32).toNatClampNeg)]) (rest := [.int x6]) e_La_law_1248 ok_Mo_shift rfl km_La_163 kx_Mo_shift kv_Mo_shift rfl (by decide) hw6 lay_115 (by decide) rfl (Nat.le_of_ble_eq_true rfl) h (fun w12 x12 hw12 h => ?_)
  refine g_icmp_eq 1256 e_La_law_1251 (by decide) ⟨fun z13 => ?_, fun z13 => ?_⟩
  · have h := h.1 z13
    refine g_loc [0, 1, 2, 3] rfl ?_
    exact h
  · have h := h.2 z13
    refine g_iconst (v := 0) e_La_law_1254 (by decide) ?_
    exact g_zret e_La_law_1255 rfl (Or.inl rfl) ⟨Sh.n hw12, _, rfl, hw12, h⟩
set_option maxHeartbeats 4000000 in
set_option maxRecDepth 8000 in
theorem s_La_law_1256 {d : Nat} {E : qE} {Q : qW → Int32 → Prop} {l3 : Int32} {w : qW} (hw : Sh w) (h : c_La_law_18 d E Q (l3 + 6) w) : c_La_law_1256 d E Q l3 w := by
  unfold c_La_law_1256
  refine g_iinc (v := (l3 + 6)) (lv := [(3, .int (l3 + 6)), (0, .ref (qc E 2)), (1, .ref (qb E + 0)), (2, .ref (qb E + 115))]) 3 e_La_law_1256 rfl rfl (by decide) rfl ?_
  refine g_goto 18 e_La_law_1259 (by decide) ?_
  refine g_loc [1, 2, 3, 0] rfl ?_
  exact h
