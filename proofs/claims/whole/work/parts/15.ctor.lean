section CT
variable {d : Nat} {M : qM} {E : qE} {N0 N1 : Nat} {F : qW → Option Value → Prop} {pc : Nat} {loc : List (Nat × Value)} {rest : List Value} {w : qW}
theorem n_new {ci n idx : Nat} {C : String} {T : u_T} {ty : Nat → FieldType} (k : Nat) (hs : w.1 = k) (hd : decode M.2.1 pc = .ok (.new idx, 3)) (hc : q_cls[ci]? = some (C, T, n)) (hci : ci < 20) (hin : ∀ w ∈ u_ws C T n, w ∈ qG) (hty : ∀ k, k < n → parseFieldDescriptor (T k).2.2.1 = some (ty k)) (hcl : Cond.classLink M.1.cls idx C ∈ qG) (hinst : Cond.instantiable C n ∈ qG) (hini : Cond.initialized C ∈ qG) (hfs : ∀ j, j < n → defaultValue (ty j) = if qft ci j = 2 then .null else .int 0) (hft : ∀ j, j < n → qft ci j = 0 ∨ qft ci j = 1 ∨ qft ci j = 2) (hlay : qlay k = (ci, n)) (hN : k < 161) (hN1 : k + 1 ≤ N1)
    (kk : Go d M E N0 N1 F (pc + 3) loc (.ref (qb E + k) :: rest) (qnw w)) : Go d M E N0 N1 F pc loc rest w := by
  subst hs
  exact g_new hd hc hci hin hty hcl hinst hini hfs hft hlay hN hN1 kk
theorem n_newa {n0 ac : Nat} {atype : ArrayType} {n : Int32} (k : Nat) (hs : w.1 = k) (hd : decode M.2.1 pc = .ok (.newarray atype, 2)) (hat : (atype = .int ∧ ac = 20) ∨ (atype = .long ∧ ac = 21) ∨ (atype = .boolean ∧ ac = 22)) (harr : Cond.arrayClass (newarray.typeOf atype) ∈ qG) (hn : ¬ n < 0) (hN' : n.toNatClampNeg = n0) (hsm : n0 ≤ 1000) (hlay : qlay k = (ac, n0)) (hN : k < 161) (hN1 : k + 1 ≤ N1)
    (kk : Go d M E N0 N1 F (pc + 2) loc (.ref (qb E + k) :: rest) (qnw w)) : Go d M E N0 N1 F pc loc (.int n :: rest) w := by
  subst hs
  exact g_newa hd hat harr hn hN' hsm hlay hN hN1 kk
theorem n_newq {n0 c0 idx : Nat} {C : String} {n : Int32} (k t0 : Nat) (hs : w.1 = k) (hd : decode M.2.1 pc = .ok (.anewarray idx, 3)) (hcl : Cond.classLink M.1.cls idx C ∈ qG) (hao : ∀ s H, qK E s H → va_AO C s) (hc0 : 22 < c0) (ht0 : (qtys E)[t0]? = some (qA E (c0 - 20), .object C)) (hn : ¬ n < 0) (hN' : n.toNatClampNeg = n0) (hsm : n0 ≤ 1000) (hlay : qlay k = (c0, n0)) (hN : k < 161) (hN1 : k + 1 ≤ N1)
    (kk : Go d M E N0 N1 F (pc + 3) loc (.ref (qb E + k) :: rest) (qnw w)) : Go d M E N0 N1 F pc loc (.int n :: rest) w := by
  subst hs
  exact g_newq t0 hd hcl hao hc0 ht0 hn hN' hsm hlay hN hN1 kk
theorem n_putI {ci j n idx k : Nat} {C ref nm ds : String} {T : u_T} {ty0 : Nat → FieldType} {x : Int32} (hd : decode M.2.1 pc = .ok (.putfield idx, 3)) (hc : q_cls[ci]? = some (C, T, n)) (hin : ∀ w ∈ u_ws C T n, w ∈ qG) (hty : ∀ k, k < n → parseFieldDescriptor (T k).2.2.1 = some (ty0 k)) (hnm : ∀ a, a < n → ∀ b, b < n → a ≠ b → (T a).2.1 ≠ (T b).2.1) (hj : j < n) (hT : (T j).2.1 = nm ∧ (T j).2.2.1 = ds ∧ (T j).1 = ref) (hfi : (T j).2.2.2 = false ∨ (M.1.name = "<init>" ∧ ref = M.1.cls)) (hl : Cond.fieldLink M.1.cls idx ref nm ds ∈ qG) (hci : ci < 20) (hlay : qlay k = (ci, n)) (hk : k < w.1) (ht : (ty0 j = .int ∧ qft ci j = 0) ∨ (ty0 j = .boolean ∧ qft ci j = 1 ∧ (x = 0 ∨ x = 1)))
    (kk : Go d M E N0 N1 F (pc + 3) loc rest (qpi w k j x)) : Go d M E N0 N1 F pc loc (.int x :: .ref (qb E + k) :: rest) w := by
  have hx : qi (qpi w k j x) k j = x := by simp [qi, qpi]
  rcases ht with ⟨t1, t2⟩ | ⟨t1, t2, t3⟩
  · exact g_putX (w' := qpi w k j x) hd hc hin hty hnm hj hT hfi hl hci hlay hk (by rw [t1]; rfl) (by rw [t1]; rfl) rfl (by rw [t2]; show _ = Value.int (qi (qpi w k j x) k j); rw [hx]) (fun i hi => ⟨by simp [qi, qpi, hi], rfl⟩) (fun a ha => qcell_pi ha) kk
  · exact g_putX (w' := qpi w k j x) hd hc hin hty hnm hj hT hfi hl hci hlay hk (by rw [t1]; rcases t3 with rfl | rfl <;> rfl) (by rw [t1]; rcases t3 with rfl | rfl <;> rfl) rfl (by rw [t2]; show _ = Value.int (qz (qi (qpi w k j x) k j)); rw [hx, qz_of t3]) (fun i hi => ⟨by simp [qi, qpi, hi], rfl⟩) (fun a ha => qcell_pi ha) kk
theorem n_putR {ci j n idx k c : Nat} {C ref nm ds : String} {T : u_T} {ty0 : Nat → FieldType} (hd : decode M.2.1 pc = .ok (.putfield idx, 3)) (hc : q_cls[ci]? = some (C, T, n)) (hin : ∀ w ∈ u_ws C T n, w ∈ qG) (hty : ∀ k, k < n → parseFieldDescriptor (T k).2.2.1 = some (ty0 k)) (hnm : ∀ a, a < n → ∀ b, b < n → a ≠ b → (T a).2.1 ≠ (T b).2.1) (hj : j < n) (hT : (T j).2.1 = nm ∧ (T j).2.2.1 = ds ∧ (T j).1 = ref) (hfi : (T j).2.2.2 = false ∨ (M.1.name = "<init>" ∧ ref = M.1.cls)) (hl : Cond.fieldLink M.1.cls idx ref nm ds ∈ qG) (hci : ci < 20) (hlay : qlay k = (ci, n)) (hk : k < w.1) (hn : narrow (ty0 j) (.ref (qb E + c)) = .ref (qb E + c)) (hf : fits (ty0 j) (.ref (qb E + c)) = true) (ht : qft ci j = 2)
    (kk : Go d M E N0 N1 F (pc + 3) loc rest (qpr w k j (c + 1))) : Go d M E N0 N1 F pc loc (.ref (qb E + c) :: .ref (qb E + k) :: rest) w := by
  have hx : qr (qpr w k j (c + 1)) k j = c + 1 := by simp [qr, qpr]
  exact g_putX (w' := qpr w k j (c + 1)) hd hc hin hty hnm hj hT hfi hl hci hlay hk hn hf rfl (by rw [ht]; show _ = qrv E (qr (qpr w k j (c + 1)) k j); rw [hx]; rfl) (fun i hi => ⟨rfl, by simp [qr, qpr, hi]⟩) (fun a ha => qcell_pr ha) kk
end CT
theorem z_max {d : Nat} {E : qE} {w : qW} (a b : Int32) : Ca d M_Jm_max [.int a, .int b] E w w.1 (fun w1 r => w1 = w ∧ r = some (.int (if a < b then b else a))) := by
  refine Ca.enter (by decide +kernel) (Nat.le_refl _) (Nat.le_of_ble_eq_true rfl) ?_
  refine g_iload_n 0 e_Jm_max_0 rfl rfl ?_
  refine g_iload_n 1 e_Jm_max_1 rfl rfl ?_
  refine g_icmp_lt 9 e_Jm_max_2 (by decide) ⟨fun z => ?_, fun z => ?_⟩
  · refine g_iload_n 1 e_Jm_max_9 rfl rfl ?_
    exact g_iret e_Jm_max_10 rfl ⟨rfl, rfl, by rw [if_pos z]⟩
  · refine g_iload_n 0 e_Jm_max_5 rfl rfl ?_
    refine g_goto 10 e_Jm_max_6 (by decide) ?_
    exact g_iret e_Jm_max_10 rfl ⟨rfl, rfl, by rw [if_neg z]⟩
def f_Ki (w : qW) (k : Nat) : qW :=
  let w1 := qnw w
  let w2 := qpr w1 k 0 (k + 1 + 1)
  let w3 := qnw w2
  let w4 := qpr w3 k 1 (k + 2 + 1)
  let w5 := qnw w4
  let w6 := qpr w5 k 2 (k + 3 + 1)
  let w7 := qpi w6 k 4 60
  w7
set_option maxHeartbeats 8000000 in
set_option maxRecDepth 20000 in
theorem i_Ki {d : Nat} {E : qE} {k : Nat} {w : qW} (hk : isKi k) (hs0 : w.1 = k + 1) : Ca (d + 1) M_Ki_init [.ref (qb E + k)] E w (k + 4) (fun w1 rv => rv = none ∧ w1 = f_Ki w k) := by
  refine Ca.enter rfl (by omega) (Nat.le_of_ble_eq_true rfl) ?_
  rw [hs0]
  have hbd := lt_Ki3 hk
  refine g_aload_n 0 e_Ki_init_0 rfl rfl ?_
  refine g_objInit e_Ki_init_1 km_Ki_3 (Nat.le_of_ble_eq_true rfl) ?_
  refine g_aload_n 0 e_Ki_init_4 rfl rfl ?_
  refine g_bipush (v := 100) e_Ki_init_5 (by decide) ?_
  refine n_newa (n0 := 100) (ac := 20) (k + 1) hs0 e_Ki_init_7 (Or.inl ⟨rfl, rfl⟩) q_arr_int (by decide) (by decide) (by decide) (lay_Ki1 hk) (by omega) (by omega) ?_
  generalize ew1 : qnw w = w1
  have hs1 : w1.1 = k + 2 := by rw [← ew1]; show w.1 + 1 = _; rw [hs0]
  refine n_putR (ci := 2) (j := 0) (n := 5) e_Ki_init_9 rfl q_in2 q_tok2 q_nm2 (by decide) ⟨rfl, rfl, rfl⟩ (Or.inr ⟨rfl, rfl⟩) kf_Ki_9 (by decide) (lay_Ki hk) (by omega) rfl rfl rfl ?_
  generalize ew2 : qpr w1 k 0 (k + 1 + 1) = w2
  have hs2 : w2.1 = k + 2 := by rw [← ew2]; exact hs1
  refine g_aload_n 0 e_Ki_init_12 rfl rfl ?_
  refine g_bipush (v := 100) e_Ki_init_13 (by decide) ?_
  refine n_newa (n0 := 100) (ac := 20) (k + 2) hs2 e_Ki_init_15 (Or.inl ⟨rfl, rfl⟩) q_arr_int (by decide) (by decide) (by decide) (lay_Ki2 hk) (by omega) (by omega) ?_
  generalize ew3 : qnw w2 = w3
  have hs3 : w3.1 = k + 3 := by rw [← ew3]; show w2.1 + 1 = _; rw [hs2]
  refine n_putR (ci := 2) (j := 1) (n := 5) e_Ki_init_17 rfl q_in2 q_tok2 q_nm2 (by decide) ⟨rfl, rfl, rfl⟩ (Or.inr ⟨rfl, rfl⟩) kf_Ki_15 (by decide) (lay_Ki hk) (by omega) rfl rfl rfl ?_
  generalize ew4 : qpr w3 k 1 (k + 2 + 1) = w4
  have hs4 : w4.1 = k + 3 := by rw [← ew4]; exact hs3
  refine g_aload_n 0 e_Ki_init_20 rfl rfl ?_
  refine g_bipush (v := 100) e_Ki_init_21 (by decide) ?_
  refine n_newa (n0 := 100) (ac := 20) (k + 3) hs4 e_Ki_init_23 (Or.inl ⟨rfl, rfl⟩) q_arr_int (by decide) (by decide) (by decide) (lay_Ki3 hk) (by omega) (by omega) ?_
  generalize ew5 : qnw w4 = w5
  have hs5 : w5.1 = k + 4 := by rw [← ew5]; show w4.1 + 1 = _; rw [hs4]
  refine n_putR (ci := 2) (j := 2) (n := 5) e_Ki_init_25 rfl q_in2 q_tok2 q_nm2 (by decide) ⟨rfl, rfl, rfl⟩ (Or.inr ⟨rfl, rfl⟩) kf_Ki_18 (by decide) (lay_Ki hk) (by omega) rfl rfl rfl ?_
  generalize ew6 : qpr w5 k 2 (k + 3 + 1) = w6
  have hs6 : w6.1 = k + 4 := by rw [← ew6]; exact hs5
  refine g_aload_n 0 e_Ki_init_28 rfl rfl ?_
  refine g_bipush (v := 60) e_Ki_init_29 (by decide) ?_
  refine n_putI (ci := 2) (j := 4) (n := 5) e_Ki_init_31 rfl q_in2 q_tok2 q_nm2 (by decide) ⟨rfl, rfl, rfl⟩ (Or.inl rfl) kf_Ki_21 (by decide) (lay_Ki hk) (by omega) (Or.inl ⟨rfl, rfl⟩) ?_
  generalize ew7 : qpi w6 k 4 60 = w7
  have hs7 : w7.1 = k + 4 := by rw [← ew7]; exact hs6
  refine g_vret e_Ki_init_34 rfl ⟨hs7, rfl, ?_⟩
  subst_vars
  rfl
theorem ro_e {x : Int32} {n : Nat} (hx : x = nI n) (hn : n ≤ 1000) (h0 : 0 < n) : (if 0 < x then x else 0) = nI n := by
  rw [hx, if_pos (by rw [← nI_0]; exact nI_lt h0 (by omega))]
theorem ro_a {x : Int32} {n : Nat} (hx : x = nI n) (hn : n ≤ 1000) (h0 : 0 < n) : ¬ (if 0 < x then x else 0) < 0 := by
  rw [ro_e hx hn h0]
  exact nI_pos (by omega)
theorem ro_b {x : Int32} {n : Nat} (hx : x = nI n) (hn : n ≤ 1000) (h0 : 0 < n) : (if 0 < x then x else 0 : Int32).toNatClampNeg = n := by
  rw [ro_e hx hn h0]
  exact nI_clamp (by omega)
def f_Ro (w : qW) (r : Nat) (n : Nat) (x : Int32) : qW :=
  let w1 := qnw w
  let w2 := qpr w1 r 0 (r + 1 + 1)
  let w3 := qnw w2
  let w4 := qpr w3 r 1 (r + 2 + 1)
  w4
set_option maxHeartbeats 8000000 in
set_option maxRecDepth 20000 in
theorem i_Ro {d : Nat} {E : qE} {r : Nat} {n : Nat} {x : Int32} {w : qW} (hr : isRo r n) (hx : x = nI n) (hn : n ≤ 1000) (h0 : 0 < n) (hs0 : w.1 = r + 1) : Ca (d + 1) M_Ro_init [.ref (qb E + r), .int x] E w (r + 3) (fun w1 rv => rv = none ∧ w1 = f_Ro w r n x) := by
  refine Ca.enter rfl (by omega) (Nat.le_of_ble_eq_true rfl) ?_
  rw [hs0]
  have hbd := lt_Ro2 hr
  refine g_aload_n 0 e_Ro_init_0 rfl rfl ?_
  refine g_objInit e_Ro_init_1 km_Ro_3 (Nat.le_of_ble_eq_true rfl) ?_
  refine g_iconst (v := 0) e_Ro_init_4 (by decide) ?_
  refine g_iload_n 1 e_Ro_init_5 rfl rfl ?_
  refine g_callS (As := [.int 0, .int x]) (rest := []) e_Ro_init_6 ok_Jm_max rfl km_Ro_9 ks_Jm_max rfl (Nat.le_of_ble_eq_true rfl) (by rw [hs0]; omega) (z_max 0 x) (fun wz vz hnz hF => ?_)
  obtain ⟨e9, rfl⟩ := hF
  rw [e9]
  refine g_istore_n (lv := [(2, .int (if 0 < x then x else 0)), (0, .ref (qb E + r)), (1, .int x)]) e_Ro_init_9 rfl (by decide) rfl ?_
  refine g_aload_n 1 e_Ro_init_10 rfl rfl ?_
  refine g_iload_n 0 e_Ro_init_11 rfl rfl ?_
  refine n_newa (n0 := n) (ac := 20) (r + 1) hs0 e_Ro_init_12 (Or.inl ⟨rfl, rfl⟩) q_arr_int (ro_a hx hn h0) (ro_b hx hn h0) hn (lay_Ro1 hr) (by omega) (by omega) ?_
  generalize ew1 : qnw w = w1
  have hs1 : w1.1 = r + 2 := by rw [← ew1]; show w.1 + 1 = _; rw [hs0]
  refine n_putR (ci := 5) (j := 0) (n := 3) e_Ro_init_14 rfl q_in5 q_tok5 q_nm5 (by decide) ⟨rfl, rfl, rfl⟩ (Or.inr ⟨rfl, rfl⟩) kf_Ro_15 (by decide) (lay_Ro hr) (by omega) rfl rfl rfl ?_
  generalize ew2 : qpr w1 r 0 (r + 1 + 1) = w2
  have hs2 : w2.1 = r + 2 := by rw [← ew2]; exact hs1
  refine g_aload_n 1 e_Ro_init_17 rfl rfl ?_
  refine g_iload_n 0 e_Ro_init_18 rfl rfl ?_
  refine n_newa (n0 := n) (ac := 20) (r + 2) hs2 e_Ro_init_19 (Or.inl ⟨rfl, rfl⟩) q_arr_int (ro_a hx hn h0) (ro_b hx hn h0) hn (lay_Ro2 hr) (by omega) (by omega) ?_
  generalize ew3 : qnw w2 = w3
  have hs3 : w3.1 = r + 3 := by rw [← ew3]; show w2.1 + 1 = _; rw [hs2]
  refine n_putR (ci := 5) (j := 1) (n := 3) e_Ro_init_21 rfl q_in5 q_tok5 q_nm5 (by decide) ⟨rfl, rfl, rfl⟩ (Or.inr ⟨rfl, rfl⟩) kf_Ro_21 (by decide) (lay_Ro hr) (by omega) rfl rfl rfl ?_
  generalize ew4 : qpr w3 r 1 (r + 2 + 1) = w4
  have hs4 : w4.1 = r + 3 := by rw [← ew4]; exact hs3
  refine g_vret e_Ro_init_24 rfl ⟨hs4, rfl, ?_⟩
  subst_vars
  rfl
def f_Th (w : qW) (t : Nat) (x : Int32) : qW :=
  let w1 := qnw w
  let w2 := qpr w1 t 7 (t + 1 + 1)
  let w3 := qpi w2 t 0 x
  w3
set_option maxHeartbeats 8000000 in
set_option maxRecDepth 20000 in
theorem i_Th {d : Nat} {E : qE} {t : Nat} {x : Int32} {w : qW} (ht : isTh t) (hs0 : w.1 = t + 1) : Ca (d + 1) M_Th_init [.ref (qb E + t), .int x] E w (t + 2) (fun w1 rv => rv = none ∧ w1 = f_Th w t x) := by
  refine Ca.enter rfl (by omega) (Nat.le_of_ble_eq_true rfl) ?_
  rw [hs0]
  have hbd := lt_Row ht
  refine g_aload_n 0 e_Th_init_0 rfl rfl ?_
  refine g_objInit e_Th_init_1 km_Th_3 (Nat.le_of_ble_eq_true rfl) ?_
  refine g_aload_n 0 e_Th_init_4 rfl rfl ?_
  refine g_iconst (v := 4) e_Th_init_5 (by decide) ?_
  refine n_newa (n0 := 4) (ac := 20) (t + 1) hs0 e_Th_init_6 (Or.inl ⟨rfl, rfl⟩) q_arr_int (by decide) (by decide) (by decide) (lay_Row ht) (by omega) (by omega) ?_
  generalize ew1 : qnw w = w1
  have hs1 : w1.1 = t + 2 := by rw [← ew1]; show w.1 + 1 = _; rw [hs0]
  refine n_putR (ci := 7) (j := 7) (n := 8) e_Th_init_8 rfl q_in7 q_tok7 q_nm7 (by decide) ⟨rfl, rfl, rfl⟩ (Or.inr ⟨rfl, rfl⟩) kf_Th_9 (by decide) (lay_Th ht) (by omega) rfl rfl rfl ?_
  generalize ew2 : qpr w1 t 7 (t + 1 + 1) = w2
  have hs2 : w2.1 = t + 2 := by rw [← ew2]; exact hs1
  refine g_aload_n 0 e_Th_init_11 rfl rfl ?_
  refine g_iload_n 1 e_Th_init_12 rfl rfl ?_
  refine n_putI (ci := 7) (j := 0) (n := 8) e_Th_init_13 rfl q_in7 q_tok7 q_nm7 (by decide) ⟨rfl, rfl, rfl⟩ (Or.inr ⟨rfl, rfl⟩) kf_Th_15 (by decide) (lay_Th ht) (by omega) (Or.inl ⟨rfl, rfl⟩) ?_
  generalize ew3 : qpi w2 t 0 x = w3
  have hs3 : w3.1 = t + 2 := by rw [← ew3]; exact hs2
  refine g_vret e_Th_init_16 rfl ⟨hs3, rfl, ?_⟩
  subst_vars
  rfl
def f_Ta (w : qW) (t : Nat) : qW :=
  let w1 := qpi w t 0 (-1)
  let w2 := qnw w1
  let w3 := qpr w2 t 2 (t + 1 + 1)
  w3
set_option maxHeartbeats 8000000 in
set_option maxRecDepth 20000 in
theorem i_Ta {d : Nat} {E : qE} {t : Nat} {w : qW} (ht : isTa t) (hs0 : w.1 = t + 1) : Ca (d + 1) M_Ta_init [.ref (qb E + t)] E w (t + 2) (fun w1 rv => rv = none ∧ w1 = f_Ta w t) := by
  refine Ca.enter rfl (by omega) (Nat.le_of_ble_eq_true rfl) ?_
  rw [hs0]
  have hbd := lt_Ta1 ht
  refine g_aload_n 0 e_Ta_init_0 rfl rfl ?_
  refine g_objInit e_Ta_init_1 km_Ta_3 (Nat.le_of_ble_eq_true rfl) ?_
  refine g_aload_n 0 e_Ta_init_4 rfl rfl ?_
  refine g_iconst (v := (-1)) e_Ta_init_5 (by decide) ?_
  refine n_putI (ci := 6) (j := 0) (n := 3) e_Ta_init_6 rfl q_in6 q_tok6 q_nm6 (by decide) ⟨rfl, rfl, rfl⟩ (Or.inl rfl) kf_Ta_9 (by decide) (lay_Ta ht) (by omega) (Or.inl ⟨rfl, rfl⟩) ?_
  generalize ew1 : qpi w t 0 (-1) = w1
  have hs1 : w1.1 = t + 1 := by rw [← ew1]; exact hs0
  refine g_aload_n 0 e_Ta_init_9 rfl rfl ?_
  refine g_bipush (v := 60) e_Ta_init_10 (by decide) ?_
  refine n_newa (n0 := 60) (ac := 21) (t + 1) hs1 e_Ta_init_12 (Or.inr (Or.inl ⟨rfl, rfl⟩)) q_arr_long (by decide) (by decide) (by decide) (lay_Ta1 ht) (by omega) (by omega) ?_
  generalize ew2 : qnw w1 = w2
  have hs2 : w2.1 = t + 2 := by rw [← ew2]; show w1.1 + 1 = _; rw [hs1]
  refine n_putR (ci := 6) (j := 2) (n := 3) e_Ta_init_14 rfl q_in6 q_tok6 q_nm6 (by decide) ⟨rfl, rfl, rfl⟩ (Or.inr ⟨rfl, rfl⟩) kf_Ta_15 (by decide) (lay_Ta ht) (by omega) rfl rfl rfl ?_
  generalize ew3 : qpr w2 t 2 (t + 1 + 1) = w3
  have hs3 : w3.1 = t + 2 := by rw [← ew3]; exact hs2
  refine g_vret e_Ta_init_17 rfl ⟨hs3, rfl, ?_⟩
  subst_vars
  rfl
def f_Re (w : qW) : qW :=
  let w1 := qnw w
  let w2 := qpr w1 73 0 (74 + 1)
  let w3 := qpr w2 73 3 (1 + 1)
  w3
set_option maxHeartbeats 8000000 in
set_option maxRecDepth 20000 in
theorem i_Re {d : Nat} {E : qE} {w : qW} (hs0 : w.1 = 74) : Ca (d + 1) M_Re_init [.ref (qb E + 73), .ref (qb E + 1)] E w (75) (fun w1 rv => rv = none ∧ w1 = f_Re w ) := by
  refine Ca.enter rfl (by omega) (Nat.le_of_ble_eq_true rfl) ?_
  rw [hs0]
  refine g_aload_n 0 e_Re_init_0 rfl rfl ?_
  refine g_objInit e_Re_init_1 km_Re_3 (Nat.le_of_ble_eq_true rfl) ?_
  refine g_aload_n 0 e_Re_init_4 rfl rfl ?_
  refine g_bipush (v := 100) e_Re_init_5 (by decide) ?_
  refine n_newa (n0 := 100) (ac := 20) (74) hs0 e_Re_init_7 (Or.inl ⟨rfl, rfl⟩) q_arr_int (by decide) (by decide) (by decide) (rfl : qlay 74 = (20, 100)) (by omega) (by omega) ?_
  generalize ew1 : qnw w = w1
  have hs1 : w1.1 = 75 := by rw [← ew1]; show w.1 + 1 = _; rw [hs0]
  refine n_putR (ci := 4) (j := 0) (n := 4) e_Re_init_9 rfl q_in4 q_tok4 q_nm4 (by decide) ⟨rfl, rfl, rfl⟩ (Or.inr ⟨rfl, rfl⟩) kf_Re_9 (by decide) (rfl : qlay 73 = (4, 4)) (by omega) rfl rfl rfl ?_
  generalize ew2 : qpr w1 73 0 (74 + 1) = w2
  have hs2 : w2.1 = 75 := by rw [← ew2]; exact hs1
  refine g_aload_n 0 e_Re_init_12 rfl rfl ?_
  refine g_aload_n 1 e_Re_init_13 rfl rfl ?_
  refine n_putR (ci := 4) (j := 3) (n := 4) e_Re_init_14 rfl q_in4 q_tok4 q_nm4 (by decide) ⟨rfl, rfl, rfl⟩ (Or.inl rfl) kf_Re_15 (by decide) (rfl : qlay 73 = (4, 4)) (by omega) rfl rfl rfl ?_
  generalize ew3 : qpr w2 73 3 (1 + 1) = w3
  have hs3 : w3.1 = 75 := by rw [← ew3]; exact hs2
  refine g_vret e_Re_init_17 rfl ⟨hs3, rfl, ?_⟩
  subst_vars
  rfl
def f_Ac (w : qW) : qW :=
  let w1 := qnw w
  let w2 := qpr w1 100 0 (101 + 1)
  w2
set_option maxHeartbeats 8000000 in
set_option maxRecDepth 20000 in
theorem i_Ac {d : Nat} {E : qE} {w : qW} (hs0 : w.1 = 101) : Ca (d + 1) M_Ac_init [.ref (qb E + 100)] E w (102) (fun w1 rv => rv = none ∧ w1 = f_Ac w ) := by
  refine Ca.enter rfl (by omega) (Nat.le_of_ble_eq_true rfl) ?_
  rw [hs0]
  refine g_aload_n 0 e_Ac_init_0 rfl rfl ?_
  refine g_objInit e_Ac_init_1 km_Ac_3 (Nat.le_of_ble_eq_true rfl) ?_
  refine g_aload_n 0 e_Ac_init_4 rfl rfl ?_
  refine g_bipush (v := 20) e_Ac_init_5 (by decide) ?_
  refine n_newa (n0 := 20) (ac := 20) (101) hs0 e_Ac_init_7 (Or.inl ⟨rfl, rfl⟩) q_arr_int (by decide) (by decide) (by decide) (rfl : qlay 101 = (20, 20)) (by omega) (by omega) ?_
  generalize ew1 : qnw w = w1
  have hs1 : w1.1 = 102 := by rw [← ew1]; show w.1 + 1 = _; rw [hs0]
  refine n_putR (ci := 0) (j := 0) (n := 5) e_Ac_init_9 rfl q_in0 q_tok0 q_nm0 (by decide) ⟨rfl, rfl, rfl⟩ (Or.inr ⟨rfl, rfl⟩) kf_Ac_9 (by decide) (rfl : qlay 100 = (0, 5)) (by omega) rfl rfl rfl ?_
  generalize ew2 : qpr w1 100 0 (101 + 1) = w2
  have hs2 : w2.1 = 102 := by rw [← ew2]; exact hs1
  refine g_vret e_Ac_init_12 rfl ⟨hs2, rfl, ?_⟩
  subst_vars
  rfl
def f_Pa15 (w : qW) : qW :=
  let w1 := qnw w
  let w2 := qpr w1 15 1 (16 + 1)
  let w3 := qpi w2 15 2 1
  let w4 := qnw w3
  let w5 := qpr w4 15 7 (17 + 1)
  let w6 := qpr w5 15 6 (1 + 1)
  let w7 := qnw w6
  let w8 := f_Th w7 18 0
  let w9 := qpr w8 16 (0 : Int32).toNatClampNeg (18 + 1)
  let w10 := qnw w9
  let w11 := f_Th w10 20 1
  let w12 := qpr w11 16 (1 : Int32).toNatClampNeg (20 + 1)
  let w13 := qnw w12
  let w14 := f_Th w13 22 2
  let w15 := qpr w14 16 (2 : Int32).toNatClampNeg (22 + 1)
  let w16 := qnw w15
  let w17 := f_Th w16 24 3
  let w18 := qpr w17 16 (3 : Int32).toNatClampNeg (24 + 1)
  let w19 := qnw w18
  let w20 := f_Th w19 26 4
  let w21 := qpr w20 16 (4 : Int32).toNatClampNeg (26 + 1)
  let w22 := qnw w21
  let w23 := f_Th w22 28 5
  let w24 := qpr w23 16 (5 : Int32).toNatClampNeg (28 + 1)
  w24
set_option maxHeartbeats 8000000 in
set_option maxRecDepth 20000 in
theorem i_Pa15 {d : Nat} {E : qE} {w : qW} (hs0 : w.1 = 16) : Ca (d + 2) M_Pa_init [.ref (qb E + 15), .ref (qb E + 1)] E w (30) (fun w1 rv => rv = none ∧ w1 = f_Pa15 w ) := by
  obtain ⟨n0, ai, al, ar⟩ := w
  replace hs0 : n0 = 16 := hs0
  subst hs0
  generalize ew0 : ((16, ai, al, ar) : qW) = w
  have hs0 : w.1 = 16 := by rw [← ew0]
  refine Ca.enter rfl (by omega) (Nat.le_of_ble_eq_true rfl) ?_
  rw [hs0]
  refine g_aload_n 0 e_Pa_init_0 rfl rfl ?_
  refine g_objInit e_Pa_init_1 km_Pa_3 (Nat.le_of_ble_eq_true rfl) ?_
  refine g_aload_n 0 e_Pa_init_4 rfl rfl ?_
  refine g_bipush (v := 6) e_Pa_init_5 (by decide) ?_
  refine n_newq (n0 := 6) (c0 := 23) (16) 3 hs0 e_Pa_init_7 kc_Pa_9 (fun _ _ h => h.2.2.2.2.2.2.2.1.1) (by decide) rfl (by decide) (by decide) (by decide) (rfl : qlay 16 = (23, 6)) (by omega) (by omega) ?_
  generalize ew1 : qnw w = w1
  have hs1 : w1.1 = 17 := by rw [← ew1]; show w.1 + 1 = _; rw [hs0]
  refine n_putR (ci := 3) (j := 1) (n := 8) e_Pa_init_10 rfl q_in3 q_tok3 q_nm3 (by decide) ⟨rfl, rfl, rfl⟩ (Or.inr ⟨rfl, rfl⟩) kf_Pa_11 (by decide) (rfl : qlay 15 = (3, 8)) (by omega) rfl rfl rfl ?_
  generalize ew2 : qpr w1 15 1 (16 + 1) = w2
  have hs2 : w2.1 = 17 := by rw [← ew2]; exact hs1
  refine g_aload_n 0 e_Pa_init_13 rfl rfl ?_
  refine g_iconst (v := 1) e_Pa_init_14 (by decide) ?_
  refine n_putI (ci := 3) (j := 2) (n := 8) e_Pa_init_15 rfl q_in3 q_tok3 q_nm3 (by decide) ⟨rfl, rfl, rfl⟩ (Or.inl rfl) kf_Pa_17 (by decide) (rfl : qlay 15 = (3, 8)) (by omega) (Or.inl ⟨rfl, rfl⟩) ?_
  generalize ew3 : qpi w2 15 2 1 = w3
  have hs3 : w3.1 = 17 := by rw [← ew3]; exact hs2
  refine g_aload_n 0 e_Pa_init_18 rfl rfl ?_
  refine g_bipush (v := 6) e_Pa_init_19 (by decide) ?_
  refine n_newa (n0 := 6) (ac := 20) (17) hs3 e_Pa_init_21 (Or.inl ⟨rfl, rfl⟩) q_arr_int (by decide) (by decide) (by decide) (rfl : qlay 17 = (20, 6)) (by omega) (by omega) ?_
  generalize ew4 : qnw w3 = w4
  have hs4 : w4.1 = 18 := by rw [← ew4]; show w3.1 + 1 = _; rw [hs3]
  refine n_putR (ci := 3) (j := 7) (n := 8) e_Pa_init_23 rfl q_in3 q_tok3 q_nm3 (by decide) ⟨rfl, rfl, rfl⟩ (Or.inr ⟨rfl, rfl⟩) kf_Pa_23 (by decide) (rfl : qlay 15 = (3, 8)) (by omega) rfl rfl rfl ?_
  generalize ew5 : qpr w4 15 7 (17 + 1) = w5
  have hs5 : w5.1 = 18 := by rw [← ew5]; exact hs4
  refine g_aload_n 0 e_Pa_init_26 rfl rfl ?_
  refine g_aload_n 1 e_Pa_init_27 rfl rfl ?_
  refine n_putR (ci := 3) (j := 6) (n := 8) e_Pa_init_28 rfl q_in3 q_tok3 q_nm3 (by decide) ⟨rfl, rfl, rfl⟩ (Or.inl rfl) kf_Pa_27 (by decide) (rfl : qlay 15 = (3, 8)) (by omega) rfl rfl rfl ?_
  generalize ew6 : qpr w5 15 6 (1 + 1) = w6
  have hs6 : w6.1 = 18 := by rw [← ew6]; exact hs5
  refine g_iconst (v := 0) e_Pa_init_31 (by decide) ?_
  refine g_istore_n (lv := [(2, .int 0), (0, .ref (qb E + 15)), (1, .ref (qb E + 1))]) e_Pa_init_32 rfl (by decide) rfl ?_
  refine g_iload_n 0 e_Pa_init_33 rfl rfl ?_
  refine g_bipush (v := 6) e_Pa_init_34 (by decide) ?_
  refine g_icmp_ge 59 e_Pa_init_36 (by decide) ⟨fun z => absurd z (by decide), fun _ => ?_⟩
  refine g_aload_n 1 e_Pa_init_39 rfl rfl ?_
  have hr6 : qr w6 15 1 = 16 + 1 := by subst_vars; rfl
  refine g_getf (ci := 3) (j := 1) (n := 8) (v := .ref (qb E + 16)) e_Pa_init_40 rfl q_in3 (by decide) ⟨rfl, rfl, rfl⟩ kf_Pa_11 (by decide) (rfl : qlay 15 = (3, 8)) (by omega) (by show qrv E (qr w6 15 1) = _; rw [hr6]; rfl) ?_
  refine g_iload_n 0 e_Pa_init_43 rfl rfl ?_
  refine n_new (ci := 7) (n := 8) (18) hs6 e_Pa_init_44 rfl (by decide) q_in7 q_tok7 kc_Pa_9 kn_Th ki_Th (by decide) (by decide) (rfl : qlay 18 = (7, 8)) (by omega) (by omega) ?_
  generalize ew7 : qnw w6 = w7
  have hs7 : w7.1 = 19 := by rw [← ew7]; show w6.1 + 1 = _; rw [hs6]
  refine g_dup e_Pa_init_47 rfl ?_
  refine g_iload_n 0 e_Pa_init_48 rfl rfl ?_
  refine g_init (As := [.int 0]) (rest := [.ref (qb E + 18), .int 0, .ref (qb E + 16)]) (k := 18) e_Pa_init_49 ok_Th_init rfl rfl km_Pa_31 kx_Th_init rfl rfl (Nat.le_of_ble_eq_true rfl) (by omega) (i_Th (t := 18) (x := 0) (isTh_of (q := 15) (i := 0) (Or.inl rfl) (by decide)) hs7) (fun w8 v9 hn9 ew8 => ?_)
  obtain ⟨rfl, ew8⟩ := ew8
  have hs8 : w8.1 = 20 := hn9
  refine g_aastore (r := ("QuinceEnd$Thing", q_T7, 8)) 3 e_Pa_init_52 (rfl : qlay 16 = (23, 6)) (by decide) rfl (by omega) (show vp_in 0 6 by unfold vp_in; decide) (rfl : qlay 18 = (7, 8)) (by omega) (by decide) rfl ?_
  generalize ew9 : qpr w8 16 (0 : Int32).toNatClampNeg (18 + 1) = w9
  have hs9 : w9.1 = 20 := by rw [← ew9]; exact hs8
  refine g_iinc (v := 1) (lv := [(2, .int 1), (0, .ref (qb E + 15)), (1, .ref (qb E + 1))]) 0 e_Pa_init_53 rfl (by decide) (by decide) rfl ?_
  refine g_goto 33 e_Pa_init_56 (by decide) ?_
  refine g_iload_n 0 e_Pa_init_33 rfl rfl ?_
  refine g_bipush (v := 6) e_Pa_init_34 (by decide) ?_
  refine g_icmp_ge 59 e_Pa_init_36 (by decide) ⟨fun z => absurd z (by decide), fun _ => ?_⟩
  refine g_aload_n 1 e_Pa_init_39 rfl rfl ?_
  have hr9 : qr w9 15 1 = 16 + 1 := by subst_vars; rfl
  refine g_getf (ci := 3) (j := 1) (n := 8) (v := .ref (qb E + 16)) e_Pa_init_40 rfl q_in3 (by decide) ⟨rfl, rfl, rfl⟩ kf_Pa_11 (by decide) (rfl : qlay 15 = (3, 8)) (by omega) (by show qrv E (qr w9 15 1) = _; rw [hr9]; rfl) ?_
  refine g_iload_n 0 e_Pa_init_43 rfl rfl ?_
  refine n_new (ci := 7) (n := 8) (20) hs9 e_Pa_init_44 rfl (by decide) q_in7 q_tok7 kc_Pa_9 kn_Th ki_Th (by decide) (by decide) (rfl : qlay 20 = (7, 8)) (by omega) (by omega) ?_
  generalize ew10 : qnw w9 = w10
  have hs10 : w10.1 = 21 := by rw [← ew10]; show w9.1 + 1 = _; rw [hs9]
  refine g_dup e_Pa_init_47 rfl ?_
  refine g_iload_n 0 e_Pa_init_48 rfl rfl ?_
  refine g_init (As := [.int 1]) (rest := [.ref (qb E + 20), .int 1, .ref (qb E + 16)]) (k := 20) e_Pa_init_49 ok_Th_init rfl rfl km_Pa_31 kx_Th_init rfl rfl (Nat.le_of_ble_eq_true rfl) (by omega) (i_Th (t := 20) (x := 1) (isTh_of (q := 15) (i := 1) (Or.inl rfl) (by decide)) hs10) (fun w11 v9 hn9 ew11 => ?_)
  obtain ⟨rfl, ew11⟩ := ew11
  have hs11 : w11.1 = 22 := hn9
  refine g_aastore (r := ("QuinceEnd$Thing", q_T7, 8)) 3 e_Pa_init_52 (rfl : qlay 16 = (23, 6)) (by decide) rfl (by omega) (show vp_in 1 6 by unfold vp_in; decide) (rfl : qlay 20 = (7, 8)) (by omega) (by decide) rfl ?_
  generalize ew12 : qpr w11 16 (1 : Int32).toNatClampNeg (20 + 1) = w12
  have hs12 : w12.1 = 22 := by rw [← ew12]; exact hs11
  refine g_iinc (v := 2) (lv := [(2, .int 2), (0, .ref (qb E + 15)), (1, .ref (qb E + 1))]) 0 e_Pa_init_53 rfl (by decide) (by decide) rfl ?_
  refine g_goto 33 e_Pa_init_56 (by decide) ?_
  refine g_iload_n 0 e_Pa_init_33 rfl rfl ?_
  refine g_bipush (v := 6) e_Pa_init_34 (by decide) ?_
  refine g_icmp_ge 59 e_Pa_init_36 (by decide) ⟨fun z => absurd z (by decide), fun _ => ?_⟩
  refine g_aload_n 1 e_Pa_init_39 rfl rfl ?_
  have hr12 : qr w12 15 1 = 16 + 1 := by subst_vars; rfl
  refine g_getf (ci := 3) (j := 1) (n := 8) (v := .ref (qb E + 16)) e_Pa_init_40 rfl q_in3 (by decide) ⟨rfl, rfl, rfl⟩ kf_Pa_11 (by decide) (rfl : qlay 15 = (3, 8)) (by omega) (by show qrv E (qr w12 15 1) = _; rw [hr12]; rfl) ?_
  refine g_iload_n 0 e_Pa_init_43 rfl rfl ?_
  refine n_new (ci := 7) (n := 8) (22) hs12 e_Pa_init_44 rfl (by decide) q_in7 q_tok7 kc_Pa_9 kn_Th ki_Th (by decide) (by decide) (rfl : qlay 22 = (7, 8)) (by omega) (by omega) ?_
  generalize ew13 : qnw w12 = w13
  have hs13 : w13.1 = 23 := by rw [← ew13]; show w12.1 + 1 = _; rw [hs12]
  refine g_dup e_Pa_init_47 rfl ?_
  refine g_iload_n 0 e_Pa_init_48 rfl rfl ?_
  refine g_init (As := [.int 2]) (rest := [.ref (qb E + 22), .int 2, .ref (qb E + 16)]) (k := 22) e_Pa_init_49 ok_Th_init rfl rfl km_Pa_31 kx_Th_init rfl rfl (Nat.le_of_ble_eq_true rfl) (by omega) (i_Th (t := 22) (x := 2) (isTh_of (q := 15) (i := 2) (Or.inl rfl) (by decide)) hs13) (fun w14 v9 hn9 ew14 => ?_)
  obtain ⟨rfl, ew14⟩ := ew14
  have hs14 : w14.1 = 24 := hn9
  refine g_aastore (r := ("QuinceEnd$Thing", q_T7, 8)) 3 e_Pa_init_52 (rfl : qlay 16 = (23, 6)) (by decide) rfl (by omega) (show vp_in 2 6 by unfold vp_in; decide) (rfl : qlay 22 = (7, 8)) (by omega) (by decide) rfl ?_
  generalize ew15 : qpr w14 16 (2 : Int32).toNatClampNeg (22 + 1) = w15
  have hs15 : w15.1 = 24 := by rw [← ew15]; exact hs14
  refine g_iinc (v := 3) (lv := [(2, .int 3), (0, .ref (qb E + 15)), (1, .ref (qb E + 1))]) 0 e_Pa_init_53 rfl (by decide) (by decide) rfl ?_
  refine g_goto 33 e_Pa_init_56 (by decide) ?_
  refine g_iload_n 0 e_Pa_init_33 rfl rfl ?_
  refine g_bipush (v := 6) e_Pa_init_34 (by decide) ?_
  refine g_icmp_ge 59 e_Pa_init_36 (by decide) ⟨fun z => absurd z (by decide), fun _ => ?_⟩
  refine g_aload_n 1 e_Pa_init_39 rfl rfl ?_
  have hr15 : qr w15 15 1 = 16 + 1 := by subst_vars; rfl
  refine g_getf (ci := 3) (j := 1) (n := 8) (v := .ref (qb E + 16)) e_Pa_init_40 rfl q_in3 (by decide) ⟨rfl, rfl, rfl⟩ kf_Pa_11 (by decide) (rfl : qlay 15 = (3, 8)) (by omega) (by show qrv E (qr w15 15 1) = _; rw [hr15]; rfl) ?_
  refine g_iload_n 0 e_Pa_init_43 rfl rfl ?_
  refine n_new (ci := 7) (n := 8) (24) hs15 e_Pa_init_44 rfl (by decide) q_in7 q_tok7 kc_Pa_9 kn_Th ki_Th (by decide) (by decide) (rfl : qlay 24 = (7, 8)) (by omega) (by omega) ?_
  generalize ew16 : qnw w15 = w16
  have hs16 : w16.1 = 25 := by rw [← ew16]; show w15.1 + 1 = _; rw [hs15]
  refine g_dup e_Pa_init_47 rfl ?_
  refine g_iload_n 0 e_Pa_init_48 rfl rfl ?_
  refine g_init (As := [.int 3]) (rest := [.ref (qb E + 24), .int 3, .ref (qb E + 16)]) (k := 24) e_Pa_init_49 ok_Th_init rfl rfl km_Pa_31 kx_Th_init rfl rfl (Nat.le_of_ble_eq_true rfl) (by omega) (i_Th (t := 24) (x := 3) (isTh_of (q := 15) (i := 3) (Or.inl rfl) (by decide)) hs16) (fun w17 v9 hn9 ew17 => ?_)
  obtain ⟨rfl, ew17⟩ := ew17
  have hs17 : w17.1 = 26 := hn9
  refine g_aastore (r := ("QuinceEnd$Thing", q_T7, 8)) 3 e_Pa_init_52 (rfl : qlay 16 = (23, 6)) (by decide) rfl (by omega) (show vp_in 3 6 by unfold vp_in; decide) (rfl : qlay 24 = (7, 8)) (by omega) (by decide) rfl ?_
  generalize ew18 : qpr w17 16 (3 : Int32).toNatClampNeg (24 + 1) = w18
  have hs18 : w18.1 = 26 := by rw [← ew18]; exact hs17
  refine g_iinc (v := 4) (lv := [(2, .int 4), (0, .ref (qb E + 15)), (1, .ref (qb E + 1))]) 0 e_Pa_init_53 rfl (by decide) (by decide) rfl ?_
  refine g_goto 33 e_Pa_init_56 (by decide) ?_
  refine g_iload_n 0 e_Pa_init_33 rfl rfl ?_
  refine g_bipush (v := 6) e_Pa_init_34 (by decide) ?_
  refine g_icmp_ge 59 e_Pa_init_36 (by decide) ⟨fun z => absurd z (by decide), fun _ => ?_⟩
  refine g_aload_n 1 e_Pa_init_39 rfl rfl ?_
  have hr18 : qr w18 15 1 = 16 + 1 := by subst_vars; rfl
  refine g_getf (ci := 3) (j := 1) (n := 8) (v := .ref (qb E + 16)) e_Pa_init_40 rfl q_in3 (by decide) ⟨rfl, rfl, rfl⟩ kf_Pa_11 (by decide) (rfl : qlay 15 = (3, 8)) (by omega) (by show qrv E (qr w18 15 1) = _; rw [hr18]; rfl) ?_
  refine g_iload_n 0 e_Pa_init_43 rfl rfl ?_
  refine n_new (ci := 7) (n := 8) (26) hs18 e_Pa_init_44 rfl (by decide) q_in7 q_tok7 kc_Pa_9 kn_Th ki_Th (by decide) (by decide) (rfl : qlay 26 = (7, 8)) (by omega) (by omega) ?_
  generalize ew19 : qnw w18 = w19
  have hs19 : w19.1 = 27 := by rw [← ew19]; show w18.1 + 1 = _; rw [hs18]
  refine g_dup e_Pa_init_47 rfl ?_
  refine g_iload_n 0 e_Pa_init_48 rfl rfl ?_
  refine g_init (As := [.int 4]) (rest := [.ref (qb E + 26), .int 4, .ref (qb E + 16)]) (k := 26) e_Pa_init_49 ok_Th_init rfl rfl km_Pa_31 kx_Th_init rfl rfl (Nat.le_of_ble_eq_true rfl) (by omega) (i_Th (t := 26) (x := 4) (isTh_of (q := 15) (i := 4) (Or.inl rfl) (by decide)) hs19) (fun w20 v9 hn9 ew20 => ?_)
  obtain ⟨rfl, ew20⟩ := ew20
  have hs20 : w20.1 = 28 := hn9
  refine g_aastore (r := ("QuinceEnd$Thing", q_T7, 8)) 3 e_Pa_init_52 (rfl : qlay 16 = (23, 6)) (by decide) rfl (by omega) (show vp_in 4 6 by unfold vp_in; decide) (rfl : qlay 26 = (7, 8)) (by omega) (by decide) rfl ?_
  generalize ew21 : qpr w20 16 (4 : Int32).toNatClampNeg (26 + 1) = w21
  have hs21 : w21.1 = 28 := by rw [← ew21]; exact hs20
  refine g_iinc (v := 5) (lv := [(2, .int 5), (0, .ref (qb E + 15)), (1, .ref (qb E + 1))]) 0 e_Pa_init_53 rfl (by decide) (by decide) rfl ?_
  refine g_goto 33 e_Pa_init_56 (by decide) ?_
  refine g_iload_n 0 e_Pa_init_33 rfl rfl ?_
  refine g_bipush (v := 6) e_Pa_init_34 (by decide) ?_
  refine g_icmp_ge 59 e_Pa_init_36 (by decide) ⟨fun z => absurd z (by decide), fun _ => ?_⟩
  refine g_aload_n 1 e_Pa_init_39 rfl rfl ?_
  have hr21 : qr w21 15 1 = 16 + 1 := by subst_vars; rfl
  refine g_getf (ci := 3) (j := 1) (n := 8) (v := .ref (qb E + 16)) e_Pa_init_40 rfl q_in3 (by decide) ⟨rfl, rfl, rfl⟩ kf_Pa_11 (by decide) (rfl : qlay 15 = (3, 8)) (by omega) (by show qrv E (qr w21 15 1) = _; rw [hr21]; rfl) ?_
  refine g_iload_n 0 e_Pa_init_43 rfl rfl ?_
  refine n_new (ci := 7) (n := 8) (28) hs21 e_Pa_init_44 rfl (by decide) q_in7 q_tok7 kc_Pa_9 kn_Th ki_Th (by decide) (by decide) (rfl : qlay 28 = (7, 8)) (by omega) (by omega) ?_
  generalize ew22 : qnw w21 = w22
  have hs22 : w22.1 = 29 := by rw [← ew22]; show w21.1 + 1 = _; rw [hs21]
  refine g_dup e_Pa_init_47 rfl ?_
  refine g_iload_n 0 e_Pa_init_48 rfl rfl ?_
  refine g_init (As := [.int 5]) (rest := [.ref (qb E + 28), .int 5, .ref (qb E + 16)]) (k := 28) e_Pa_init_49 ok_Th_init rfl rfl km_Pa_31 kx_Th_init rfl rfl (Nat.le_of_ble_eq_true rfl) (by omega) (i_Th (t := 28) (x := 5) (isTh_of (q := 15) (i := 5) (Or.inl rfl) (by decide)) hs22) (fun w23 v9 hn9 ew23 => ?_)
  obtain ⟨rfl, ew23⟩ := ew23
  have hs23 : w23.1 = 30 := hn9
  refine g_aastore (r := ("QuinceEnd$Thing", q_T7, 8)) 3 e_Pa_init_52 (rfl : qlay 16 = (23, 6)) (by decide) rfl (by omega) (show vp_in 5 6 by unfold vp_in; decide) (rfl : qlay 28 = (7, 8)) (by omega) (by decide) rfl ?_
  generalize ew24 : qpr w23 16 (5 : Int32).toNatClampNeg (28 + 1) = w24
  have hs24 : w24.1 = 30 := by rw [← ew24]; exact hs23
  refine g_iinc (v := 6) (lv := [(2, .int 6), (0, .ref (qb E + 15)), (1, .ref (qb E + 1))]) 0 e_Pa_init_53 rfl (by decide) (by decide) rfl ?_
  refine g_goto 33 e_Pa_init_56 (by decide) ?_
  refine g_iload_n 0 e_Pa_init_33 rfl rfl ?_
  refine g_bipush (v := 6) e_Pa_init_34 (by decide) ?_
  refine g_icmp_ge 59 e_Pa_init_36 (by decide) ⟨fun _ => ?_, fun z => absurd (by decide) z⟩
  refine g_vret e_Pa_init_59 rfl ⟨hs24, rfl, ?_⟩
  subst_vars
  rfl
def f_Pa40 (w : qW) : qW :=
  let w1 := qnw w
  let w2 := qpr w1 40 1 (41 + 1)
  let w3 := qpi w2 40 2 1
  let w4 := qnw w3
  let w5 := qpr w4 40 7 (42 + 1)
  let w6 := qpr w5 40 6 (1 + 1)
  let w7 := qnw w6
  let w8 := f_Th w7 43 0
  let w9 := qpr w8 41 (0 : Int32).toNatClampNeg (43 + 1)
  let w10 := qnw w9
  let w11 := f_Th w10 45 1
  let w12 := qpr w11 41 (1 : Int32).toNatClampNeg (45 + 1)
  let w13 := qnw w12
  let w14 := f_Th w13 47 2
  let w15 := qpr w14 41 (2 : Int32).toNatClampNeg (47 + 1)
  let w16 := qnw w15
  let w17 := f_Th w16 49 3
  let w18 := qpr w17 41 (3 : Int32).toNatClampNeg (49 + 1)
  let w19 := qnw w18
  let w20 := f_Th w19 51 4
  let w21 := qpr w20 41 (4 : Int32).toNatClampNeg (51 + 1)
  let w22 := qnw w21
  let w23 := f_Th w22 53 5
  let w24 := qpr w23 41 (5 : Int32).toNatClampNeg (53 + 1)
  w24
set_option maxHeartbeats 8000000 in
set_option maxRecDepth 20000 in
theorem i_Pa40 {d : Nat} {E : qE} {w : qW} (hs0 : w.1 = 41) : Ca (d + 2) M_Pa_init [.ref (qb E + 40), .ref (qb E + 1)] E w (55) (fun w1 rv => rv = none ∧ w1 = f_Pa40 w ) := by
  obtain ⟨n0, ai, al, ar⟩ := w
  replace hs0 : n0 = 41 := hs0
  subst hs0
  generalize ew0 : ((41, ai, al, ar) : qW) = w
  have hs0 : w.1 = 41 := by rw [← ew0]
  refine Ca.enter rfl (by omega) (Nat.le_of_ble_eq_true rfl) ?_
  rw [hs0]
  refine g_aload_n 0 e_Pa_init_0 rfl rfl ?_
  refine g_objInit e_Pa_init_1 km_Pa_3 (Nat.le_of_ble_eq_true rfl) ?_
  refine g_aload_n 0 e_Pa_init_4 rfl rfl ?_
  refine g_bipush (v := 6) e_Pa_init_5 (by decide) ?_
  refine n_newq (n0 := 6) (c0 := 23) (41) 3 hs0 e_Pa_init_7 kc_Pa_9 (fun _ _ h => h.2.2.2.2.2.2.2.1.1) (by decide) rfl (by decide) (by decide) (by decide) (rfl : qlay 41 = (23, 6)) (by omega) (by omega) ?_
  generalize ew1 : qnw w = w1
  have hs1 : w1.1 = 42 := by rw [← ew1]; show w.1 + 1 = _; rw [hs0]
  refine n_putR (ci := 3) (j := 1) (n := 8) e_Pa_init_10 rfl q_in3 q_tok3 q_nm3 (by decide) ⟨rfl, rfl, rfl⟩ (Or.inr ⟨rfl, rfl⟩) kf_Pa_11 (by decide) (rfl : qlay 40 = (3, 8)) (by omega) rfl rfl rfl ?_
  generalize ew2 : qpr w1 40 1 (41 + 1) = w2
  have hs2 : w2.1 = 42 := by rw [← ew2]; exact hs1
  refine g_aload_n 0 e_Pa_init_13 rfl rfl ?_
  refine g_iconst (v := 1) e_Pa_init_14 (by decide) ?_
  refine n_putI (ci := 3) (j := 2) (n := 8) e_Pa_init_15 rfl q_in3 q_tok3 q_nm3 (by decide) ⟨rfl, rfl, rfl⟩ (Or.inl rfl) kf_Pa_17 (by decide) (rfl : qlay 40 = (3, 8)) (by omega) (Or.inl ⟨rfl, rfl⟩) ?_
  generalize ew3 : qpi w2 40 2 1 = w3
  have hs3 : w3.1 = 42 := by rw [← ew3]; exact hs2
  refine g_aload_n 0 e_Pa_init_18 rfl rfl ?_
  refine g_bipush (v := 6) e_Pa_init_19 (by decide) ?_
  refine n_newa (n0 := 6) (ac := 20) (42) hs3 e_Pa_init_21 (Or.inl ⟨rfl, rfl⟩) q_arr_int (by decide) (by decide) (by decide) (rfl : qlay 42 = (20, 6)) (by omega) (by omega) ?_
  generalize ew4 : qnw w3 = w4
  have hs4 : w4.1 = 43 := by rw [← ew4]; show w3.1 + 1 = _; rw [hs3]
  refine n_putR (ci := 3) (j := 7) (n := 8) e_Pa_init_23 rfl q_in3 q_tok3 q_nm3 (by decide) ⟨rfl, rfl, rfl⟩ (Or.inr ⟨rfl, rfl⟩) kf_Pa_23 (by decide) (rfl : qlay 40 = (3, 8)) (by omega) rfl rfl rfl ?_
  generalize ew5 : qpr w4 40 7 (42 + 1) = w5
  have hs5 : w5.1 = 43 := by rw [← ew5]; exact hs4
  refine g_aload_n 0 e_Pa_init_26 rfl rfl ?_
  refine g_aload_n 1 e_Pa_init_27 rfl rfl ?_
  refine n_putR (ci := 3) (j := 6) (n := 8) e_Pa_init_28 rfl q_in3 q_tok3 q_nm3 (by decide) ⟨rfl, rfl, rfl⟩ (Or.inl rfl) kf_Pa_27 (by decide) (rfl : qlay 40 = (3, 8)) (by omega) rfl rfl rfl ?_
  generalize ew6 : qpr w5 40 6 (1 + 1) = w6
  have hs6 : w6.1 = 43 := by rw [← ew6]; exact hs5
  refine g_iconst (v := 0) e_Pa_init_31 (by decide) ?_
  refine g_istore_n (lv := [(2, .int 0), (0, .ref (qb E + 40)), (1, .ref (qb E + 1))]) e_Pa_init_32 rfl (by decide) rfl ?_
  refine g_iload_n 0 e_Pa_init_33 rfl rfl ?_
  refine g_bipush (v := 6) e_Pa_init_34 (by decide) ?_
  refine g_icmp_ge 59 e_Pa_init_36 (by decide) ⟨fun z => absurd z (by decide), fun _ => ?_⟩
  refine g_aload_n 1 e_Pa_init_39 rfl rfl ?_
  have hr6 : qr w6 40 1 = 41 + 1 := by subst_vars; rfl
  refine g_getf (ci := 3) (j := 1) (n := 8) (v := .ref (qb E + 41)) e_Pa_init_40 rfl q_in3 (by decide) ⟨rfl, rfl, rfl⟩ kf_Pa_11 (by decide) (rfl : qlay 40 = (3, 8)) (by omega) (by show qrv E (qr w6 40 1) = _; rw [hr6]; rfl) ?_
  refine g_iload_n 0 e_Pa_init_43 rfl rfl ?_
  refine n_new (ci := 7) (n := 8) (43) hs6 e_Pa_init_44 rfl (by decide) q_in7 q_tok7 kc_Pa_9 kn_Th ki_Th (by decide) (by decide) (rfl : qlay 43 = (7, 8)) (by omega) (by omega) ?_
  generalize ew7 : qnw w6 = w7
  have hs7 : w7.1 = 44 := by rw [← ew7]; show w6.1 + 1 = _; rw [hs6]
  refine g_dup e_Pa_init_47 rfl ?_
  refine g_iload_n 0 e_Pa_init_48 rfl rfl ?_
  refine g_init (As := [.int 0]) (rest := [.ref (qb E + 43), .int 0, .ref (qb E + 41)]) (k := 43) e_Pa_init_49 ok_Th_init rfl rfl km_Pa_31 kx_Th_init rfl rfl (Nat.le_of_ble_eq_true rfl) (by omega) (i_Th (t := 43) (x := 0) (isTh_of (q := 40) (i := 0) (Or.inr (Or.inl rfl)) (by decide)) hs7) (fun w8 v9 hn9 ew8 => ?_)
  obtain ⟨rfl, ew8⟩ := ew8
  have hs8 : w8.1 = 45 := hn9
  refine g_aastore (r := ("QuinceEnd$Thing", q_T7, 8)) 3 e_Pa_init_52 (rfl : qlay 41 = (23, 6)) (by decide) rfl (by omega) (show vp_in 0 6 by unfold vp_in; decide) (rfl : qlay 43 = (7, 8)) (by omega) (by decide) rfl ?_
  generalize ew9 : qpr w8 41 (0 : Int32).toNatClampNeg (43 + 1) = w9
  have hs9 : w9.1 = 45 := by rw [← ew9]; exact hs8
  refine g_iinc (v := 1) (lv := [(2, .int 1), (0, .ref (qb E + 40)), (1, .ref (qb E + 1))]) 0 e_Pa_init_53 rfl (by decide) (by decide) rfl ?_
  refine g_goto 33 e_Pa_init_56 (by decide) ?_
  refine g_iload_n 0 e_Pa_init_33 rfl rfl ?_
  refine g_bipush (v := 6) e_Pa_init_34 (by decide) ?_
  refine g_icmp_ge 59 e_Pa_init_36 (by decide) ⟨fun z => absurd z (by decide), fun _ => ?_⟩
  refine g_aload_n 1 e_Pa_init_39 rfl rfl ?_
  have hr9 : qr w9 40 1 = 41 + 1 := by subst_vars; rfl
  refine g_getf (ci := 3) (j := 1) (n := 8) (v := .ref (qb E + 41)) e_Pa_init_40 rfl q_in3 (by decide) ⟨rfl, rfl, rfl⟩ kf_Pa_11 (by decide) (rfl : qlay 40 = (3, 8)) (by omega) (by show qrv E (qr w9 40 1) = _; rw [hr9]; rfl) ?_
  refine g_iload_n 0 e_Pa_init_43 rfl rfl ?_
  refine n_new (ci := 7) (n := 8) (45) hs9 e_Pa_init_44 rfl (by decide) q_in7 q_tok7 kc_Pa_9 kn_Th ki_Th (by decide) (by decide) (rfl : qlay 45 = (7, 8)) (by omega) (by omega) ?_
  generalize ew10 : qnw w9 = w10
  have hs10 : w10.1 = 46 := by rw [← ew10]; show w9.1 + 1 = _; rw [hs9]
  refine g_dup e_Pa_init_47 rfl ?_
  refine g_iload_n 0 e_Pa_init_48 rfl rfl ?_
  refine g_init (As := [.int 1]) (rest := [.ref (qb E + 45), .int 1, .ref (qb E + 41)]) (k := 45) e_Pa_init_49 ok_Th_init rfl rfl km_Pa_31 kx_Th_init rfl rfl (Nat.le_of_ble_eq_true rfl) (by omega) (i_Th (t := 45) (x := 1) (isTh_of (q := 40) (i := 1) (Or.inr (Or.inl rfl)) (by decide)) hs10) (fun w11 v9 hn9 ew11 => ?_)
  obtain ⟨rfl, ew11⟩ := ew11
  have hs11 : w11.1 = 47 := hn9
  refine g_aastore (r := ("QuinceEnd$Thing", q_T7, 8)) 3 e_Pa_init_52 (rfl : qlay 41 = (23, 6)) (by decide) rfl (by omega) (show vp_in 1 6 by unfold vp_in; decide) (rfl : qlay 45 = (7, 8)) (by omega) (by decide) rfl ?_
  generalize ew12 : qpr w11 41 (1 : Int32).toNatClampNeg (45 + 1) = w12
  have hs12 : w12.1 = 47 := by rw [← ew12]; exact hs11
  refine g_iinc (v := 2) (lv := [(2, .int 2), (0, .ref (qb E + 40)), (1, .ref (qb E + 1))]) 0 e_Pa_init_53 rfl (by decide) (by decide) rfl ?_
  refine g_goto 33 e_Pa_init_56 (by decide) ?_
  refine g_iload_n 0 e_Pa_init_33 rfl rfl ?_
  refine g_bipush (v := 6) e_Pa_init_34 (by decide) ?_
  refine g_icmp_ge 59 e_Pa_init_36 (by decide) ⟨fun z => absurd z (by decide), fun _ => ?_⟩
  refine g_aload_n 1 e_Pa_init_39 rfl rfl ?_
  have hr12 : qr w12 40 1 = 41 + 1 := by subst_vars; rfl
  refine g_getf (ci := 3) (j := 1) (n := 8) (v := .ref (qb E + 41)) e_Pa_init_40 rfl q_in3 (by decide) ⟨rfl, rfl, rfl⟩ kf_Pa_11 (by decide) (rfl : qlay 40 = (3, 8)) (by omega) (by show qrv E (qr w12 40 1) = _; rw [hr12]; rfl) ?_
  refine g_iload_n 0 e_Pa_init_43 rfl rfl ?_
  refine n_new (ci := 7) (n := 8) (47) hs12 e_Pa_init_44 rfl (by decide) q_in7 q_tok7 kc_Pa_9 kn_Th ki_Th (by decide) (by decide) (rfl : qlay 47 = (7, 8)) (by omega) (by omega) ?_
  generalize ew13 : qnw w12 = w13
  have hs13 : w13.1 = 48 := by rw [← ew13]; show w12.1 + 1 = _; rw [hs12]
  refine g_dup e_Pa_init_47 rfl ?_
  refine g_iload_n 0 e_Pa_init_48 rfl rfl ?_
  refine g_init (As := [.int 2]) (rest := [.ref (qb E + 47), .int 2, .ref (qb E + 41)]) (k := 47) e_Pa_init_49 ok_Th_init rfl rfl km_Pa_31 kx_Th_init rfl rfl (Nat.le_of_ble_eq_true rfl) (by omega) (i_Th (t := 47) (x := 2) (isTh_of (q := 40) (i := 2) (Or.inr (Or.inl rfl)) (by decide)) hs13) (fun w14 v9 hn9 ew14 => ?_)
  obtain ⟨rfl, ew14⟩ := ew14
  have hs14 : w14.1 = 49 := hn9
  refine g_aastore (r := ("QuinceEnd$Thing", q_T7, 8)) 3 e_Pa_init_52 (rfl : qlay 41 = (23, 6)) (by decide) rfl (by omega) (show vp_in 2 6 by unfold vp_in; decide) (rfl : qlay 47 = (7, 8)) (by omega) (by decide) rfl ?_
  generalize ew15 : qpr w14 41 (2 : Int32).toNatClampNeg (47 + 1) = w15
  have hs15 : w15.1 = 49 := by rw [← ew15]; exact hs14
  refine g_iinc (v := 3) (lv := [(2, .int 3), (0, .ref (qb E + 40)), (1, .ref (qb E + 1))]) 0 e_Pa_init_53 rfl (by decide) (by decide) rfl ?_
  refine g_goto 33 e_Pa_init_56 (by decide) ?_
  refine g_iload_n 0 e_Pa_init_33 rfl rfl ?_
  refine g_bipush (v := 6) e_Pa_init_34 (by decide) ?_
  refine g_icmp_ge 59 e_Pa_init_36 (by decide) ⟨fun z => absurd z (by decide), fun _ => ?_⟩
  refine g_aload_n 1 e_Pa_init_39 rfl rfl ?_
  have hr15 : qr w15 40 1 = 41 + 1 := by subst_vars; rfl
  refine g_getf (ci := 3) (j := 1) (n := 8) (v := .ref (qb E + 41)) e_Pa_init_40 rfl q_in3 (by decide) ⟨rfl, rfl, rfl⟩ kf_Pa_11 (by decide) (rfl : qlay 40 = (3, 8)) (by omega) (by show qrv E (qr w15 40 1) = _; rw [hr15]; rfl) ?_
  refine g_iload_n 0 e_Pa_init_43 rfl rfl ?_
  refine n_new (ci := 7) (n := 8) (49) hs15 e_Pa_init_44 rfl (by decide) q_in7 q_tok7 kc_Pa_9 kn_Th ki_Th (by decide) (by decide) (rfl : qlay 49 = (7, 8)) (by omega) (by omega) ?_
  generalize ew16 : qnw w15 = w16
  have hs16 : w16.1 = 50 := by rw [← ew16]; show w15.1 + 1 = _; rw [hs15]
  refine g_dup e_Pa_init_47 rfl ?_
  refine g_iload_n 0 e_Pa_init_48 rfl rfl ?_
  refine g_init (As := [.int 3]) (rest := [.ref (qb E + 49), .int 3, .ref (qb E + 41)]) (k := 49) e_Pa_init_49 ok_Th_init rfl rfl km_Pa_31 kx_Th_init rfl rfl (Nat.le_of_ble_eq_true rfl) (by omega) (i_Th (t := 49) (x := 3) (isTh_of (q := 40) (i := 3) (Or.inr (Or.inl rfl)) (by decide)) hs16) (fun w17 v9 hn9 ew17 => ?_)
  obtain ⟨rfl, ew17⟩ := ew17
  have hs17 : w17.1 = 51 := hn9
  refine g_aastore (r := ("QuinceEnd$Thing", q_T7, 8)) 3 e_Pa_init_52 (rfl : qlay 41 = (23, 6)) (by decide) rfl (by omega) (show vp_in 3 6 by unfold vp_in; decide) (rfl : qlay 49 = (7, 8)) (by omega) (by decide) rfl ?_
  generalize ew18 : qpr w17 41 (3 : Int32).toNatClampNeg (49 + 1) = w18
  have hs18 : w18.1 = 51 := by rw [← ew18]; exact hs17
  refine g_iinc (v := 4) (lv := [(2, .int 4), (0, .ref (qb E + 40)), (1, .ref (qb E + 1))]) 0 e_Pa_init_53 rfl (by decide) (by decide) rfl ?_
  refine g_goto 33 e_Pa_init_56 (by decide) ?_
  refine g_iload_n 0 e_Pa_init_33 rfl rfl ?_
  refine g_bipush (v := 6) e_Pa_init_34 (by decide) ?_
  refine g_icmp_ge 59 e_Pa_init_36 (by decide) ⟨fun z => absurd z (by decide), fun _ => ?_⟩
  refine g_aload_n 1 e_Pa_init_39 rfl rfl ?_
  have hr18 : qr w18 40 1 = 41 + 1 := by subst_vars; rfl
  refine g_getf (ci := 3) (j := 1) (n := 8) (v := .ref (qb E + 41)) e_Pa_init_40 rfl q_in3 (by decide) ⟨rfl, rfl, rfl⟩ kf_Pa_11 (by decide) (rfl : qlay 40 = (3, 8)) (by omega) (by show qrv E (qr w18 40 1) = _; rw [hr18]; rfl) ?_
  refine g_iload_n 0 e_Pa_init_43 rfl rfl ?_
  refine n_new (ci := 7) (n := 8) (51) hs18 e_Pa_init_44 rfl (by decide) q_in7 q_tok7 kc_Pa_9 kn_Th ki_Th (by decide) (by decide) (rfl : qlay 51 = (7, 8)) (by omega) (by omega) ?_
  generalize ew19 : qnw w18 = w19
  have hs19 : w19.1 = 52 := by rw [← ew19]; show w18.1 + 1 = _; rw [hs18]
  refine g_dup e_Pa_init_47 rfl ?_
  refine g_iload_n 0 e_Pa_init_48 rfl rfl ?_
  refine g_init (As := [.int 4]) (rest := [.ref (qb E + 51), .int 4, .ref (qb E + 41)]) (k := 51) e_Pa_init_49 ok_Th_init rfl rfl km_Pa_31 kx_Th_init rfl rfl (Nat.le_of_ble_eq_true rfl) (by omega) (i_Th (t := 51) (x := 4) (isTh_of (q := 40) (i := 4) (Or.inr (Or.inl rfl)) (by decide)) hs19) (fun w20 v9 hn9 ew20 => ?_)
  obtain ⟨rfl, ew20⟩ := ew20
  have hs20 : w20.1 = 53 := hn9
  refine g_aastore (r := ("QuinceEnd$Thing", q_T7, 8)) 3 e_Pa_init_52 (rfl : qlay 41 = (23, 6)) (by decide) rfl (by omega) (show vp_in 4 6 by unfold vp_in; decide) (rfl : qlay 51 = (7, 8)) (by omega) (by decide) rfl ?_
  generalize ew21 : qpr w20 41 (4 : Int32).toNatClampNeg (51 + 1) = w21
  have hs21 : w21.1 = 53 := by rw [← ew21]; exact hs20
  refine g_iinc (v := 5) (lv := [(2, .int 5), (0, .ref (qb E + 40)), (1, .ref (qb E + 1))]) 0 e_Pa_init_53 rfl (by decide) (by decide) rfl ?_
  refine g_goto 33 e_Pa_init_56 (by decide) ?_
  refine g_iload_n 0 e_Pa_init_33 rfl rfl ?_
  refine g_bipush (v := 6) e_Pa_init_34 (by decide) ?_
  refine g_icmp_ge 59 e_Pa_init_36 (by decide) ⟨fun z => absurd z (by decide), fun _ => ?_⟩
  refine g_aload_n 1 e_Pa_init_39 rfl rfl ?_
  have hr21 : qr w21 40 1 = 41 + 1 := by subst_vars; rfl
  refine g_getf (ci := 3) (j := 1) (n := 8) (v := .ref (qb E + 41)) e_Pa_init_40 rfl q_in3 (by decide) ⟨rfl, rfl, rfl⟩ kf_Pa_11 (by decide) (rfl : qlay 40 = (3, 8)) (by omega) (by show qrv E (qr w21 40 1) = _; rw [hr21]; rfl) ?_
  refine g_iload_n 0 e_Pa_init_43 rfl rfl ?_
  refine n_new (ci := 7) (n := 8) (53) hs21 e_Pa_init_44 rfl (by decide) q_in7 q_tok7 kc_Pa_9 kn_Th ki_Th (by decide) (by decide) (rfl : qlay 53 = (7, 8)) (by omega) (by omega) ?_
  generalize ew22 : qnw w21 = w22
  have hs22 : w22.1 = 54 := by rw [← ew22]; show w21.1 + 1 = _; rw [hs21]
  refine g_dup e_Pa_init_47 rfl ?_
  refine g_iload_n 0 e_Pa_init_48 rfl rfl ?_
  refine g_init (As := [.int 5]) (rest := [.ref (qb E + 53), .int 5, .ref (qb E + 41)]) (k := 53) e_Pa_init_49 ok_Th_init rfl rfl km_Pa_31 kx_Th_init rfl rfl (Nat.le_of_ble_eq_true rfl) (by omega) (i_Th (t := 53) (x := 5) (isTh_of (q := 40) (i := 5) (Or.inr (Or.inl rfl)) (by decide)) hs22) (fun w23 v9 hn9 ew23 => ?_)
  obtain ⟨rfl, ew23⟩ := ew23
  have hs23 : w23.1 = 55 := hn9
  refine g_aastore (r := ("QuinceEnd$Thing", q_T7, 8)) 3 e_Pa_init_52 (rfl : qlay 41 = (23, 6)) (by decide) rfl (by omega) (show vp_in 5 6 by unfold vp_in; decide) (rfl : qlay 53 = (7, 8)) (by omega) (by decide) rfl ?_
  generalize ew24 : qpr w23 41 (5 : Int32).toNatClampNeg (53 + 1) = w24
  have hs24 : w24.1 = 55 := by rw [← ew24]; exact hs23
  refine g_iinc (v := 6) (lv := [(2, .int 6), (0, .ref (qb E + 40)), (1, .ref (qb E + 1))]) 0 e_Pa_init_53 rfl (by decide) (by decide) rfl ?_
  refine g_goto 33 e_Pa_init_56 (by decide) ?_
  refine g_iload_n 0 e_Pa_init_33 rfl rfl ?_
  refine g_bipush (v := 6) e_Pa_init_34 (by decide) ?_
  refine g_icmp_ge 59 e_Pa_init_36 (by decide) ⟨fun _ => ?_, fun z => absurd (by decide) z⟩
  refine g_vret e_Pa_init_59 rfl ⟨hs24, rfl, ?_⟩
  subst_vars
  rfl
def f_Pa58 (w : qW) : qW :=
  let w1 := qnw w
  let w2 := qpr w1 58 1 (59 + 1)
  let w3 := qpi w2 58 2 1
  let w4 := qnw w3
  let w5 := qpr w4 58 7 (60 + 1)
  let w6 := qpr w5 58 6 (1 + 1)
  let w7 := qnw w6
  let w8 := f_Th w7 61 0
  let w9 := qpr w8 59 (0 : Int32).toNatClampNeg (61 + 1)
  let w10 := qnw w9
  let w11 := f_Th w10 63 1
  let w12 := qpr w11 59 (1 : Int32).toNatClampNeg (63 + 1)
  let w13 := qnw w12
  let w14 := f_Th w13 65 2
  let w15 := qpr w14 59 (2 : Int32).toNatClampNeg (65 + 1)
  let w16 := qnw w15
  let w17 := f_Th w16 67 3
  let w18 := qpr w17 59 (3 : Int32).toNatClampNeg (67 + 1)
  let w19 := qnw w18
  let w20 := f_Th w19 69 4
  let w21 := qpr w20 59 (4 : Int32).toNatClampNeg (69 + 1)
  let w22 := qnw w21
  let w23 := f_Th w22 71 5
  let w24 := qpr w23 59 (5 : Int32).toNatClampNeg (71 + 1)
  w24
set_option maxHeartbeats 8000000 in
set_option maxRecDepth 20000 in
theorem i_Pa58 {d : Nat} {E : qE} {w : qW} (hs0 : w.1 = 59) : Ca (d + 2) M_Pa_init [.ref (qb E + 58), .ref (qb E + 1)] E w (73) (fun w1 rv => rv = none ∧ w1 = f_Pa58 w ) := by
  obtain ⟨n0, ai, al, ar⟩ := w
  replace hs0 : n0 = 59 := hs0
  subst hs0
  generalize ew0 : ((59, ai, al, ar) : qW) = w
  have hs0 : w.1 = 59 := by rw [← ew0]
  refine Ca.enter rfl (by omega) (Nat.le_of_ble_eq_true rfl) ?_
  rw [hs0]
  refine g_aload_n 0 e_Pa_init_0 rfl rfl ?_
  refine g_objInit e_Pa_init_1 km_Pa_3 (Nat.le_of_ble_eq_true rfl) ?_
  refine g_aload_n 0 e_Pa_init_4 rfl rfl ?_
  refine g_bipush (v := 6) e_Pa_init_5 (by decide) ?_
  refine n_newq (n0 := 6) (c0 := 23) (59) 3 hs0 e_Pa_init_7 kc_Pa_9 (fun _ _ h => h.2.2.2.2.2.2.2.1.1) (by decide) rfl (by decide) (by decide) (by decide) (rfl : qlay 59 = (23, 6)) (by omega) (by omega) ?_
  generalize ew1 : qnw w = w1
  have hs1 : w1.1 = 60 := by rw [← ew1]; show w.1 + 1 = _; rw [hs0]
  refine n_putR (ci := 3) (j := 1) (n := 8) e_Pa_init_10 rfl q_in3 q_tok3 q_nm3 (by decide) ⟨rfl, rfl, rfl⟩ (Or.inr ⟨rfl, rfl⟩) kf_Pa_11 (by decide) (rfl : qlay 58 = (3, 8)) (by omega) rfl rfl rfl ?_
  generalize ew2 : qpr w1 58 1 (59 + 1) = w2
  have hs2 : w2.1 = 60 := by rw [← ew2]; exact hs1
  refine g_aload_n 0 e_Pa_init_13 rfl rfl ?_
  refine g_iconst (v := 1) e_Pa_init_14 (by decide) ?_
  refine n_putI (ci := 3) (j := 2) (n := 8) e_Pa_init_15 rfl q_in3 q_tok3 q_nm3 (by decide) ⟨rfl, rfl, rfl⟩ (Or.inl rfl) kf_Pa_17 (by decide) (rfl : qlay 58 = (3, 8)) (by omega) (Or.inl ⟨rfl, rfl⟩) ?_
  generalize ew3 : qpi w2 58 2 1 = w3
  have hs3 : w3.1 = 60 := by rw [← ew3]; exact hs2
  refine g_aload_n 0 e_Pa_init_18 rfl rfl ?_
  refine g_bipush (v := 6) e_Pa_init_19 (by decide) ?_
  refine n_newa (n0 := 6) (ac := 20) (60) hs3 e_Pa_init_21 (Or.inl ⟨rfl, rfl⟩) q_arr_int (by decide) (by decide) (by decide) (rfl : qlay 60 = (20, 6)) (by omega) (by omega) ?_
  generalize ew4 : qnw w3 = w4
  have hs4 : w4.1 = 61 := by rw [← ew4]; show w3.1 + 1 = _; rw [hs3]
  refine n_putR (ci := 3) (j := 7) (n := 8) e_Pa_init_23 rfl q_in3 q_tok3 q_nm3 (by decide) ⟨rfl, rfl, rfl⟩ (Or.inr ⟨rfl, rfl⟩) kf_Pa_23 (by decide) (rfl : qlay 58 = (3, 8)) (by omega) rfl rfl rfl ?_
  generalize ew5 : qpr w4 58 7 (60 + 1) = w5
  have hs5 : w5.1 = 61 := by rw [← ew5]; exact hs4
  refine g_aload_n 0 e_Pa_init_26 rfl rfl ?_
  refine g_aload_n 1 e_Pa_init_27 rfl rfl ?_
  refine n_putR (ci := 3) (j := 6) (n := 8) e_Pa_init_28 rfl q_in3 q_tok3 q_nm3 (by decide) ⟨rfl, rfl, rfl⟩ (Or.inl rfl) kf_Pa_27 (by decide) (rfl : qlay 58 = (3, 8)) (by omega) rfl rfl rfl ?_
  generalize ew6 : qpr w5 58 6 (1 + 1) = w6
  have hs6 : w6.1 = 61 := by rw [← ew6]; exact hs5
  refine g_iconst (v := 0) e_Pa_init_31 (by decide) ?_
  refine g_istore_n (lv := [(2, .int 0), (0, .ref (qb E + 58)), (1, .ref (qb E + 1))]) e_Pa_init_32 rfl (by decide) rfl ?_
  refine g_iload_n 0 e_Pa_init_33 rfl rfl ?_
  refine g_bipush (v := 6) e_Pa_init_34 (by decide) ?_
  refine g_icmp_ge 59 e_Pa_init_36 (by decide) ⟨fun z => absurd z (by decide), fun _ => ?_⟩
  refine g_aload_n 1 e_Pa_init_39 rfl rfl ?_
  have hr6 : qr w6 58 1 = 59 + 1 := by subst_vars; rfl
  refine g_getf (ci := 3) (j := 1) (n := 8) (v := .ref (qb E + 59)) e_Pa_init_40 rfl q_in3 (by decide) ⟨rfl, rfl, rfl⟩ kf_Pa_11 (by decide) (rfl : qlay 58 = (3, 8)) (by omega) (by show qrv E (qr w6 58 1) = _; rw [hr6]; rfl) ?_
  refine g_iload_n 0 e_Pa_init_43 rfl rfl ?_
  refine n_new (ci := 7) (n := 8) (61) hs6 e_Pa_init_44 rfl (by decide) q_in7 q_tok7 kc_Pa_9 kn_Th ki_Th (by decide) (by decide) (rfl : qlay 61 = (7, 8)) (by omega) (by omega) ?_
  generalize ew7 : qnw w6 = w7
  have hs7 : w7.1 = 62 := by rw [← ew7]; show w6.1 + 1 = _; rw [hs6]
  refine g_dup e_Pa_init_47 rfl ?_
  refine g_iload_n 0 e_Pa_init_48 rfl rfl ?_
  refine g_init (As := [.int 0]) (rest := [.ref (qb E + 61), .int 0, .ref (qb E + 59)]) (k := 61) e_Pa_init_49 ok_Th_init rfl rfl km_Pa_31 kx_Th_init rfl rfl (Nat.le_of_ble_eq_true rfl) (by omega) (i_Th (t := 61) (x := 0) (isTh_of (q := 58) (i := 0) (Or.inr (Or.inr rfl)) (by decide)) hs7) (fun w8 v9 hn9 ew8 => ?_)
  obtain ⟨rfl, ew8⟩ := ew8
  have hs8 : w8.1 = 63 := hn9
  refine g_aastore (r := ("QuinceEnd$Thing", q_T7, 8)) 3 e_Pa_init_52 (rfl : qlay 59 = (23, 6)) (by decide) rfl (by omega) (show vp_in 0 6 by unfold vp_in; decide) (rfl : qlay 61 = (7, 8)) (by omega) (by decide) rfl ?_
  generalize ew9 : qpr w8 59 (0 : Int32).toNatClampNeg (61 + 1) = w9
  have hs9 : w9.1 = 63 := by rw [← ew9]; exact hs8
  refine g_iinc (v := 1) (lv := [(2, .int 1), (0, .ref (qb E + 58)), (1, .ref (qb E + 1))]) 0 e_Pa_init_53 rfl (by decide) (by decide) rfl ?_
  refine g_goto 33 e_Pa_init_56 (by decide) ?_
  refine g_iload_n 0 e_Pa_init_33 rfl rfl ?_
  refine g_bipush (v := 6) e_Pa_init_34 (by decide) ?_
  refine g_icmp_ge 59 e_Pa_init_36 (by decide) ⟨fun z => absurd z (by decide), fun _ => ?_⟩
  refine g_aload_n 1 e_Pa_init_39 rfl rfl ?_
  have hr9 : qr w9 58 1 = 59 + 1 := by subst_vars; rfl
  refine g_getf (ci := 3) (j := 1) (n := 8) (v := .ref (qb E + 59)) e_Pa_init_40 rfl q_in3 (by decide) ⟨rfl, rfl, rfl⟩ kf_Pa_11 (by decide) (rfl : qlay 58 = (3, 8)) (by omega) (by show qrv E (qr w9 58 1) = _; rw [hr9]; rfl) ?_
  refine g_iload_n 0 e_Pa_init_43 rfl rfl ?_
  refine n_new (ci := 7) (n := 8) (63) hs9 e_Pa_init_44 rfl (by decide) q_in7 q_tok7 kc_Pa_9 kn_Th ki_Th (by decide) (by decide) (rfl : qlay 63 = (7, 8)) (by omega) (by omega) ?_
  generalize ew10 : qnw w9 = w10
  have hs10 : w10.1 = 64 := by rw [← ew10]; show w9.1 + 1 = _; rw [hs9]
  refine g_dup e_Pa_init_47 rfl ?_
  refine g_iload_n 0 e_Pa_init_48 rfl rfl ?_
  refine g_init (As := [.int 1]) (rest := [.ref (qb E + 63), .int 1, .ref (qb E + 59)]) (k := 63) e_Pa_init_49 ok_Th_init rfl rfl km_Pa_31 kx_Th_init rfl rfl (Nat.le_of_ble_eq_true rfl) (by omega) (i_Th (t := 63) (x := 1) (isTh_of (q := 58) (i := 1) (Or.inr (Or.inr rfl)) (by decide)) hs10) (fun w11 v9 hn9 ew11 => ?_)
  obtain ⟨rfl, ew11⟩ := ew11
  have hs11 : w11.1 = 65 := hn9
  refine g_aastore (r := ("QuinceEnd$Thing", q_T7, 8)) 3 e_Pa_init_52 (rfl : qlay 59 = (23, 6)) (by decide) rfl (by omega) (show vp_in 1 6 by unfold vp_in; decide) (rfl : qlay 63 = (7, 8)) (by omega) (by decide) rfl ?_
  generalize ew12 : qpr w11 59 (1 : Int32).toNatClampNeg (63 + 1) = w12
  have hs12 : w12.1 = 65 := by rw [← ew12]; exact hs11
  refine g_iinc (v := 2) (lv := [(2, .int 2), (0, .ref (qb E + 58)), (1, .ref (qb E + 1))]) 0 e_Pa_init_53 rfl (by decide) (by decide) rfl ?_
  refine g_goto 33 e_Pa_init_56 (by decide) ?_
  refine g_iload_n 0 e_Pa_init_33 rfl rfl ?_
  refine g_bipush (v := 6) e_Pa_init_34 (by decide) ?_
  refine g_icmp_ge 59 e_Pa_init_36 (by decide) ⟨fun z => absurd z (by decide), fun _ => ?_⟩
  refine g_aload_n 1 e_Pa_init_39 rfl rfl ?_
  have hr12 : qr w12 58 1 = 59 + 1 := by subst_vars; rfl
  refine g_getf (ci := 3) (j := 1) (n := 8) (v := .ref (qb E + 59)) e_Pa_init_40 rfl q_in3 (by decide) ⟨rfl, rfl, rfl⟩ kf_Pa_11 (by decide) (rfl : qlay 58 = (3, 8)) (by omega) (by show qrv E (qr w12 58 1) = _; rw [hr12]; rfl) ?_
  refine g_iload_n 0 e_Pa_init_43 rfl rfl ?_
  refine n_new (ci := 7) (n := 8) (65) hs12 e_Pa_init_44 rfl (by decide) q_in7 q_tok7 kc_Pa_9 kn_Th ki_Th (by decide) (by decide) (rfl : qlay 65 = (7, 8)) (by omega) (by omega) ?_
  generalize ew13 : qnw w12 = w13
  have hs13 : w13.1 = 66 := by rw [← ew13]; show w12.1 + 1 = _; rw [hs12]
  refine g_dup e_Pa_init_47 rfl ?_
  refine g_iload_n 0 e_Pa_init_48 rfl rfl ?_
  refine g_init (As := [.int 2]) (rest := [.ref (qb E + 65), .int 2, .ref (qb E + 59)]) (k := 65) e_Pa_init_49 ok_Th_init rfl rfl km_Pa_31 kx_Th_init rfl rfl (Nat.le_of_ble_eq_true rfl) (by omega) (i_Th (t := 65) (x := 2) (isTh_of (q := 58) (i := 2) (Or.inr (Or.inr rfl)) (by decide)) hs13) (fun w14 v9 hn9 ew14 => ?_)
  obtain ⟨rfl, ew14⟩ := ew14
  have hs14 : w14.1 = 67 := hn9
  refine g_aastore (r := ("QuinceEnd$Thing", q_T7, 8)) 3 e_Pa_init_52 (rfl : qlay 59 = (23, 6)) (by decide) rfl (by omega) (show vp_in 2 6 by unfold vp_in; decide) (rfl : qlay 65 = (7, 8)) (by omega) (by decide) rfl ?_
  generalize ew15 : qpr w14 59 (2 : Int32).toNatClampNeg (65 + 1) = w15
  have hs15 : w15.1 = 67 := by rw [← ew15]; exact hs14
  refine g_iinc (v := 3) (lv := [(2, .int 3), (0, .ref (qb E + 58)), (1, .ref (qb E + 1))]) 0 e_Pa_init_53 rfl (by decide) (by decide) rfl ?_
  refine g_goto 33 e_Pa_init_56 (by decide) ?_
  refine g_iload_n 0 e_Pa_init_33 rfl rfl ?_
  refine g_bipush (v := 6) e_Pa_init_34 (by decide) ?_
  refine g_icmp_ge 59 e_Pa_init_36 (by decide) ⟨fun z => absurd z (by decide), fun _ => ?_⟩
  refine g_aload_n 1 e_Pa_init_39 rfl rfl ?_
  have hr15 : qr w15 58 1 = 59 + 1 := by subst_vars; rfl
  refine g_getf (ci := 3) (j := 1) (n := 8) (v := .ref (qb E + 59)) e_Pa_init_40 rfl q_in3 (by decide) ⟨rfl, rfl, rfl⟩ kf_Pa_11 (by decide) (rfl : qlay 58 = (3, 8)) (by omega) (by show qrv E (qr w15 58 1) = _; rw [hr15]; rfl) ?_
  refine g_iload_n 0 e_Pa_init_43 rfl rfl ?_
  refine n_new (ci := 7) (n := 8) (67) hs15 e_Pa_init_44 rfl (by decide) q_in7 q_tok7 kc_Pa_9 kn_Th ki_Th (by decide) (by decide) (rfl : qlay 67 = (7, 8)) (by omega) (by omega) ?_
  generalize ew16 : qnw w15 = w16
  have hs16 : w16.1 = 68 := by rw [← ew16]; show w15.1 + 1 = _; rw [hs15]
  refine g_dup e_Pa_init_47 rfl ?_
  refine g_iload_n 0 e_Pa_init_48 rfl rfl ?_
  refine g_init (As := [.int 3]) (rest := [.ref (qb E + 67), .int 3, .ref (qb E + 59)]) (k := 67) e_Pa_init_49 ok_Th_init rfl rfl km_Pa_31 kx_Th_init rfl rfl (Nat.le_of_ble_eq_true rfl) (by omega) (i_Th (t := 67) (x := 3) (isTh_of (q := 58) (i := 3) (Or.inr (Or.inr rfl)) (by decide)) hs16) (fun w17 v9 hn9 ew17 => ?_)
  obtain ⟨rfl, ew17⟩ := ew17
  have hs17 : w17.1 = 69 := hn9
  refine g_aastore (r := ("QuinceEnd$Thing", q_T7, 8)) 3 e_Pa_init_52 (rfl : qlay 59 = (23, 6)) (by decide) rfl (by omega) (show vp_in 3 6 by unfold vp_in; decide) (rfl : qlay 67 = (7, 8)) (by omega) (by decide) rfl ?_
  generalize ew18 : qpr w17 59 (3 : Int32).toNatClampNeg (67 + 1) = w18
  have hs18 : w18.1 = 69 := by rw [← ew18]; exact hs17
  refine g_iinc (v := 4) (lv := [(2, .int 4), (0, .ref (qb E + 58)), (1, .ref (qb E + 1))]) 0 e_Pa_init_53 rfl (by decide) (by decide) rfl ?_
  refine g_goto 33 e_Pa_init_56 (by decide) ?_
  refine g_iload_n 0 e_Pa_init_33 rfl rfl ?_
  refine g_bipush (v := 6) e_Pa_init_34 (by decide) ?_
  refine g_icmp_ge 59 e_Pa_init_36 (by decide) ⟨fun z => absurd z (by decide), fun _ => ?_⟩
  refine g_aload_n 1 e_Pa_init_39 rfl rfl ?_
  have hr18 : qr w18 58 1 = 59 + 1 := by subst_vars; rfl
  refine g_getf (ci := 3) (j := 1) (n := 8) (v := .ref (qb E + 59)) e_Pa_init_40 rfl q_in3 (by decide) ⟨rfl, rfl, rfl⟩ kf_Pa_11 (by decide) (rfl : qlay 58 = (3, 8)) (by omega) (by show qrv E (qr w18 58 1) = _; rw [hr18]; rfl) ?_
  refine g_iload_n 0 e_Pa_init_43 rfl rfl ?_
  refine n_new (ci := 7) (n := 8) (69) hs18 e_Pa_init_44 rfl (by decide) q_in7 q_tok7 kc_Pa_9 kn_Th ki_Th (by decide) (by decide) (rfl : qlay 69 = (7, 8)) (by omega) (by omega) ?_
  generalize ew19 : qnw w18 = w19
  have hs19 : w19.1 = 70 := by rw [← ew19]; show w18.1 + 1 = _; rw [hs18]
  refine g_dup e_Pa_init_47 rfl ?_
  refine g_iload_n 0 e_Pa_init_48 rfl rfl ?_
  refine g_init (As := [.int 4]) (rest := [.ref (qb E + 69), .int 4, .ref (qb E + 59)]) (k := 69) e_Pa_init_49 ok_Th_init rfl rfl km_Pa_31 kx_Th_init rfl rfl (Nat.le_of_ble_eq_true rfl) (by omega) (i_Th (t := 69) (x := 4) (isTh_of (q := 58) (i := 4) (Or.inr (Or.inr rfl)) (by decide)) hs19) (fun w20 v9 hn9 ew20 => ?_)
  obtain ⟨rfl, ew20⟩ := ew20
  have hs20 : w20.1 = 71 := hn9
  refine g_aastore (r := ("QuinceEnd$Thing", q_T7, 8)) 3 e_Pa_init_52 (rfl : qlay 59 = (23, 6)) (by decide) rfl (by omega) (show vp_in 4 6 by unfold vp_in; decide) (rfl : qlay 69 = (7, 8)) (by omega) (by decide) rfl ?_
  generalize ew21 : qpr w20 59 (4 : Int32).toNatClampNeg (69 + 1) = w21
  have hs21 : w21.1 = 71 := by rw [← ew21]; exact hs20
  refine g_iinc (v := 5) (lv := [(2, .int 5), (0, .ref (qb E + 58)), (1, .ref (qb E + 1))]) 0 e_Pa_init_53 rfl (by decide) (by decide) rfl ?_
  refine g_goto 33 e_Pa_init_56 (by decide) ?_
  refine g_iload_n 0 e_Pa_init_33 rfl rfl ?_
  refine g_bipush (v := 6) e_Pa_init_34 (by decide) ?_
  refine g_icmp_ge 59 e_Pa_init_36 (by decide) ⟨fun z => absurd z (by decide), fun _ => ?_⟩
  refine g_aload_n 1 e_Pa_init_39 rfl rfl ?_
  have hr21 : qr w21 58 1 = 59 + 1 := by subst_vars; rfl
  refine g_getf (ci := 3) (j := 1) (n := 8) (v := .ref (qb E + 59)) e_Pa_init_40 rfl q_in3 (by decide) ⟨rfl, rfl, rfl⟩ kf_Pa_11 (by decide) (rfl : qlay 58 = (3, 8)) (by omega) (by show qrv E (qr w21 58 1) = _; rw [hr21]; rfl) ?_
  refine g_iload_n 0 e_Pa_init_43 rfl rfl ?_
  refine n_new (ci := 7) (n := 8) (71) hs21 e_Pa_init_44 rfl (by decide) q_in7 q_tok7 kc_Pa_9 kn_Th ki_Th (by decide) (by decide) (rfl : qlay 71 = (7, 8)) (by omega) (by omega) ?_
  generalize ew22 : qnw w21 = w22
  have hs22 : w22.1 = 72 := by rw [← ew22]; show w21.1 + 1 = _; rw [hs21]
  refine g_dup e_Pa_init_47 rfl ?_
  refine g_iload_n 0 e_Pa_init_48 rfl rfl ?_
  refine g_init (As := [.int 5]) (rest := [.ref (qb E + 71), .int 5, .ref (qb E + 59)]) (k := 71) e_Pa_init_49 ok_Th_init rfl rfl km_Pa_31 kx_Th_init rfl rfl (Nat.le_of_ble_eq_true rfl) (by omega) (i_Th (t := 71) (x := 5) (isTh_of (q := 58) (i := 5) (Or.inr (Or.inr rfl)) (by decide)) hs22) (fun w23 v9 hn9 ew23 => ?_)
  obtain ⟨rfl, ew23⟩ := ew23
  have hs23 : w23.1 = 73 := hn9
  refine g_aastore (r := ("QuinceEnd$Thing", q_T7, 8)) 3 e_Pa_init_52 (rfl : qlay 59 = (23, 6)) (by decide) rfl (by omega) (show vp_in 5 6 by unfold vp_in; decide) (rfl : qlay 71 = (7, 8)) (by omega) (by decide) rfl ?_
  generalize ew24 : qpr w23 59 (5 : Int32).toNatClampNeg (71 + 1) = w24
  have hs24 : w24.1 = 73 := by rw [← ew24]; exact hs23
  refine g_iinc (v := 6) (lv := [(2, .int 6), (0, .ref (qb E + 58)), (1, .ref (qb E + 1))]) 0 e_Pa_init_53 rfl (by decide) (by decide) rfl ?_
  refine g_goto 33 e_Pa_init_56 (by decide) ?_
  refine g_iload_n 0 e_Pa_init_33 rfl rfl ?_
  refine g_bipush (v := 6) e_Pa_init_34 (by decide) ?_
  refine g_icmp_ge 59 e_Pa_init_36 (by decide) ⟨fun _ => ?_, fun z => absurd (by decide) z⟩
  refine g_vret e_Pa_init_59 rfl ⟨hs24, rfl, ?_⟩
  subst_vars
  rfl
def f_Wh5 (w : qW) : qW :=
  let w1 := qnw w
  let w2 := f_Ro w1 6 5 5
  let w3 := qpr w2 5 1 (6 + 1)
  let w4 := qnw w3
  let w5 := f_Ro w4 9 10 10
  let w6 := qpr w5 5 2 (9 + 1)
  let w7 := qnw w6
  let w8 := f_Ro w7 12 8 8
  let w9 := qpr w8 5 3 (12 + 1)
  let w10 := qnw w9
  let w11 := f_Pa15 w10 
  let w12 := qpr w11 5 0 (15 + 1)
  w12
set_option maxHeartbeats 8000000 in
set_option maxRecDepth 20000 in
theorem i_Wh5 {d : Nat} {E : qE} {w : qW} (hs0 : w.1 = 6) : Ca (d + 3) M_Wh_init [.ref (qb E + 5), .ref (qb E + 1)] E w (30) (fun w1 rv => rv = none ∧ w1 = f_Wh5 w ) := by
  refine Ca.enter rfl (by omega) (Nat.le_of_ble_eq_true rfl) ?_
  rw [hs0]
  refine g_aload_n 0 e_Wh_init_0 rfl rfl ?_
  refine g_objInit e_Wh_init_1 km_Wh_3 (Nat.le_of_ble_eq_true rfl) ?_
  refine g_aload_n 0 e_Wh_init_4 rfl rfl ?_
  refine n_new (ci := 5) (n := 3) (6) hs0 e_Wh_init_5 rfl (by decide) q_in5 q_tok5 kc_Wh_9 kn_Ro ki_Ro (by decide) (by decide) (rfl : qlay 6 = (5, 3)) (by omega) (by omega) ?_
  generalize ew1 : qnw w = w1
  have hs1 : w1.1 = 7 := by rw [← ew1]; show w.1 + 1 = _; rw [hs0]
  refine g_dup e_Wh_init_8 rfl ?_
  refine g_iconst (v := 5) e_Wh_init_9 (by decide) ?_
  refine g_init (As := [.int 5]) (rest := [.ref (qb E + 6), .ref (qb E + 5)]) (k := 6) e_Wh_init_10 ok_Ro_init rfl rfl km_Wh_11 kx_Ro_init rfl rfl (Nat.le_of_ble_eq_true rfl) (by omega) (i_Ro (r := 6) (n := 5) (x := 5) (isRo1 (q := 5) (Or.inl rfl)) (by decide) (by decide) (by decide) hs1) (fun w2 v9 hn9 ew2 => ?_)
  obtain ⟨rfl, ew2⟩ := ew2
  have hs2 : w2.1 = 9 := hn9
  refine n_putR (ci := 8) (j := 1) (n := 4) e_Wh_init_13 rfl q_in8 q_tok8 q_nm8 (by decide) ⟨rfl, rfl, rfl⟩ (Or.inr ⟨rfl, rfl⟩) kf_Wh_14 (by decide) (rfl : qlay 5 = (8, 4)) (by omega) rfl rfl rfl ?_
  generalize ew3 : qpr w2 5 1 (6 + 1) = w3
  have hs3 : w3.1 = 9 := by rw [← ew3]; exact hs2
  refine g_aload_n 0 e_Wh_init_16 rfl rfl ?_
  refine n_new (ci := 5) (n := 3) (9) hs3 e_Wh_init_17 rfl (by decide) q_in5 q_tok5 kc_Wh_9 kn_Ro ki_Ro (by decide) (by decide) (rfl : qlay 9 = (5, 3)) (by omega) (by omega) ?_
  generalize ew4 : qnw w3 = w4
  have hs4 : w4.1 = 10 := by rw [← ew4]; show w3.1 + 1 = _; rw [hs3]
  refine g_dup e_Wh_init_20 rfl ?_
  refine g_bipush (v := 10) e_Wh_init_21 (by decide) ?_
  refine g_init (As := [.int 10]) (rest := [.ref (qb E + 9), .ref (qb E + 5)]) (k := 9) e_Wh_init_23 ok_Ro_init rfl rfl km_Wh_11 kx_Ro_init rfl rfl (Nat.le_of_ble_eq_true rfl) (by omega) (i_Ro (r := 9) (n := 10) (x := 10) (isRo2 (q := 5) (Or.inl rfl)) (by decide) (by decide) (by decide) hs4) (fun w5 v9 hn9 ew5 => ?_)
  obtain ⟨rfl, ew5⟩ := ew5
  have hs5 : w5.1 = 12 := hn9
  refine n_putR (ci := 8) (j := 2) (n := 4) e_Wh_init_26 rfl q_in8 q_tok8 q_nm8 (by decide) ⟨rfl, rfl, rfl⟩ (Or.inr ⟨rfl, rfl⟩) kf_Wh_20 (by decide) (rfl : qlay 5 = (8, 4)) (by omega) rfl rfl rfl ?_
  generalize ew6 : qpr w5 5 2 (9 + 1) = w6
  have hs6 : w6.1 = 12 := by rw [← ew6]; exact hs5
  refine g_aload_n 0 e_Wh_init_29 rfl rfl ?_
  refine n_new (ci := 5) (n := 3) (12) hs6 e_Wh_init_30 rfl (by decide) q_in5 q_tok5 kc_Wh_9 kn_Ro ki_Ro (by decide) (by decide) (rfl : qlay 12 = (5, 3)) (by omega) (by omega) ?_
  generalize ew7 : qnw w6 = w7
  have hs7 : w7.1 = 13 := by rw [← ew7]; show w6.1 + 1 = _; rw [hs6]
  refine g_dup e_Wh_init_33 rfl ?_
  refine g_bipush (v := 8) e_Wh_init_34 (by decide) ?_
  refine g_init (As := [.int 8]) (rest := [.ref (qb E + 12), .ref (qb E + 5)]) (k := 12) e_Wh_init_36 ok_Ro_init rfl rfl km_Wh_11 kx_Ro_init rfl rfl (Nat.le_of_ble_eq_true rfl) (by omega) (i_Ro (r := 12) (n := 8) (x := 8) (isRo3 (q := 5) (Or.inl rfl)) (by decide) (by decide) (by decide) hs7) (fun w8 v9 hn9 ew8 => ?_)
  obtain ⟨rfl, ew8⟩ := ew8
  have hs8 : w8.1 = 15 := hn9
  refine n_putR (ci := 8) (j := 3) (n := 4) e_Wh_init_39 rfl q_in8 q_tok8 q_nm8 (by decide) ⟨rfl, rfl, rfl⟩ (Or.inr ⟨rfl, rfl⟩) kf_Wh_23 (by decide) (rfl : qlay 5 = (8, 4)) (by omega) rfl rfl rfl ?_
  generalize ew9 : qpr w8 5 3 (12 + 1) = w9
  have hs9 : w9.1 = 15 := by rw [← ew9]; exact hs8
  refine g_aload_n 0 e_Wh_init_42 rfl rfl ?_
  refine n_new (ci := 3) (n := 8) (15) hs9 e_Wh_init_43 rfl (by decide) q_in3 q_tok3 kc_Wh_26 kn_Pa ki_Pa (by decide) (by decide) (rfl : qlay 15 = (3, 8)) (by omega) (by omega) ?_
  generalize ew10 : qnw w9 = w10
  have hs10 : w10.1 = 16 := by rw [← ew10]; show w9.1 + 1 = _; rw [hs9]
  refine g_dup e_Wh_init_46 rfl ?_
  refine g_aload_n 1 e_Wh_init_47 rfl rfl ?_
  refine g_init (As := [.ref (qb E + 1)]) (rest := [.ref (qb E + 15), .ref (qb E + 5)]) (k := 15) e_Wh_init_48 ok_Pa_init rfl rfl km_Wh_28 kx_Pa_init rfl rfl (Nat.le_of_ble_eq_true rfl) (by omega) (i_Pa15 hs10) (fun w11 v9 hn9 ew11 => ?_)
  obtain ⟨rfl, ew11⟩ := ew11
  have hs11 : w11.1 = 30 := hn9
  refine n_putR (ci := 8) (j := 0) (n := 4) e_Wh_init_51 rfl q_in8 q_tok8 q_nm8 (by decide) ⟨rfl, rfl, rfl⟩ (Or.inr ⟨rfl, rfl⟩) kf_Wh_31 (by decide) (rfl : qlay 5 = (8, 4)) (by omega) rfl rfl rfl ?_
  generalize ew12 : qpr w11 5 0 (15 + 1) = w12
  have hs12 : w12.1 = 30 := by rw [← ew12]; exact hs11
  refine g_vret e_Wh_init_54 rfl ⟨hs12, rfl, ?_⟩
  subst_vars
  rfl
def f_Wh30 (w : qW) : qW :=
  let w1 := qnw w
  let w2 := f_Ro w1 31 5 5
  let w3 := qpr w2 30 1 (31 + 1)
  let w4 := qnw w3
  let w5 := f_Ro w4 34 10 10
  let w6 := qpr w5 30 2 (34 + 1)
  let w7 := qnw w6
  let w8 := f_Ro w7 37 8 8
  let w9 := qpr w8 30 3 (37 + 1)
  let w10 := qnw w9
  let w11 := f_Pa40 w10 
  let w12 := qpr w11 30 0 (40 + 1)
  w12
set_option maxHeartbeats 8000000 in
set_option maxRecDepth 20000 in
theorem i_Wh30 {d : Nat} {E : qE} {w : qW} (hs0 : w.1 = 31) : Ca (d + 3) M_Wh_init [.ref (qb E + 30), .ref (qb E + 1)] E w (55) (fun w1 rv => rv = none ∧ w1 = f_Wh30 w ) := by
  refine Ca.enter rfl (by omega) (Nat.le_of_ble_eq_true rfl) ?_
  rw [hs0]
  refine g_aload_n 0 e_Wh_init_0 rfl rfl ?_
  refine g_objInit e_Wh_init_1 km_Wh_3 (Nat.le_of_ble_eq_true rfl) ?_
  refine g_aload_n 0 e_Wh_init_4 rfl rfl ?_
  refine n_new (ci := 5) (n := 3) (31) hs0 e_Wh_init_5 rfl (by decide) q_in5 q_tok5 kc_Wh_9 kn_Ro ki_Ro (by decide) (by decide) (rfl : qlay 31 = (5, 3)) (by omega) (by omega) ?_
  generalize ew1 : qnw w = w1
  have hs1 : w1.1 = 32 := by rw [← ew1]; show w.1 + 1 = _; rw [hs0]
  refine g_dup e_Wh_init_8 rfl ?_
  refine g_iconst (v := 5) e_Wh_init_9 (by decide) ?_
  refine g_init (As := [.int 5]) (rest := [.ref (qb E + 31), .ref (qb E + 30)]) (k := 31) e_Wh_init_10 ok_Ro_init rfl rfl km_Wh_11 kx_Ro_init rfl rfl (Nat.le_of_ble_eq_true rfl) (by omega) (i_Ro (r := 31) (n := 5) (x := 5) (isRo1 (q := 30) (Or.inr rfl)) (by decide) (by decide) (by decide) hs1) (fun w2 v9 hn9 ew2 => ?_)
  obtain ⟨rfl, ew2⟩ := ew2
  have hs2 : w2.1 = 34 := hn9
  refine n_putR (ci := 8) (j := 1) (n := 4) e_Wh_init_13 rfl q_in8 q_tok8 q_nm8 (by decide) ⟨rfl, rfl, rfl⟩ (Or.inr ⟨rfl, rfl⟩) kf_Wh_14 (by decide) (rfl : qlay 30 = (8, 4)) (by omega) rfl rfl rfl ?_
  generalize ew3 : qpr w2 30 1 (31 + 1) = w3
  have hs3 : w3.1 = 34 := by rw [← ew3]; exact hs2
  refine g_aload_n 0 e_Wh_init_16 rfl rfl ?_
  refine n_new (ci := 5) (n := 3) (34) hs3 e_Wh_init_17 rfl (by decide) q_in5 q_tok5 kc_Wh_9 kn_Ro ki_Ro (by decide) (by decide) (rfl : qlay 34 = (5, 3)) (by omega) (by omega) ?_
  generalize ew4 : qnw w3 = w4
  have hs4 : w4.1 = 35 := by rw [← ew4]; show w3.1 + 1 = _; rw [hs3]
  refine g_dup e_Wh_init_20 rfl ?_
  refine g_bipush (v := 10) e_Wh_init_21 (by decide) ?_
  refine g_init (As := [.int 10]) (rest := [.ref (qb E + 34), .ref (qb E + 30)]) (k := 34) e_Wh_init_23 ok_Ro_init rfl rfl km_Wh_11 kx_Ro_init rfl rfl (Nat.le_of_ble_eq_true rfl) (by omega) (i_Ro (r := 34) (n := 10) (x := 10) (isRo2 (q := 30) (Or.inr rfl)) (by decide) (by decide) (by decide) hs4) (fun w5 v9 hn9 ew5 => ?_)
  obtain ⟨rfl, ew5⟩ := ew5
  have hs5 : w5.1 = 37 := hn9
  refine n_putR (ci := 8) (j := 2) (n := 4) e_Wh_init_26 rfl q_in8 q_tok8 q_nm8 (by decide) ⟨rfl, rfl, rfl⟩ (Or.inr ⟨rfl, rfl⟩) kf_Wh_20 (by decide) (rfl : qlay 30 = (8, 4)) (by omega) rfl rfl rfl ?_
  generalize ew6 : qpr w5 30 2 (34 + 1) = w6
  have hs6 : w6.1 = 37 := by rw [← ew6]; exact hs5
  refine g_aload_n 0 e_Wh_init_29 rfl rfl ?_
  refine n_new (ci := 5) (n := 3) (37) hs6 e_Wh_init_30 rfl (by decide) q_in5 q_tok5 kc_Wh_9 kn_Ro ki_Ro (by decide) (by decide) (rfl : qlay 37 = (5, 3)) (by omega) (by omega) ?_
  generalize ew7 : qnw w6 = w7
  have hs7 : w7.1 = 38 := by rw [← ew7]; show w6.1 + 1 = _; rw [hs6]
  refine g_dup e_Wh_init_33 rfl ?_
  refine g_bipush (v := 8) e_Wh_init_34 (by decide) ?_
  refine g_init (As := [.int 8]) (rest := [.ref (qb E + 37), .ref (qb E + 30)]) (k := 37) e_Wh_init_36 ok_Ro_init rfl rfl km_Wh_11 kx_Ro_init rfl rfl (Nat.le_of_ble_eq_true rfl) (by omega) (i_Ro (r := 37) (n := 8) (x := 8) (isRo3 (q := 30) (Or.inr rfl)) (by decide) (by decide) (by decide) hs7) (fun w8 v9 hn9 ew8 => ?_)
  obtain ⟨rfl, ew8⟩ := ew8
  have hs8 : w8.1 = 40 := hn9
  refine n_putR (ci := 8) (j := 3) (n := 4) e_Wh_init_39 rfl q_in8 q_tok8 q_nm8 (by decide) ⟨rfl, rfl, rfl⟩ (Or.inr ⟨rfl, rfl⟩) kf_Wh_23 (by decide) (rfl : qlay 30 = (8, 4)) (by omega) rfl rfl rfl ?_
  generalize ew9 : qpr w8 30 3 (37 + 1) = w9
  have hs9 : w9.1 = 40 := by rw [← ew9]; exact hs8
  refine g_aload_n 0 e_Wh_init_42 rfl rfl ?_
  refine n_new (ci := 3) (n := 8) (40) hs9 e_Wh_init_43 rfl (by decide) q_in3 q_tok3 kc_Wh_26 kn_Pa ki_Pa (by decide) (by decide) (rfl : qlay 40 = (3, 8)) (by omega) (by omega) ?_
  generalize ew10 : qnw w9 = w10
  have hs10 : w10.1 = 41 := by rw [← ew10]; show w9.1 + 1 = _; rw [hs9]
  refine g_dup e_Wh_init_46 rfl ?_
  refine g_aload_n 1 e_Wh_init_47 rfl rfl ?_
  refine g_init (As := [.ref (qb E + 1)]) (rest := [.ref (qb E + 40), .ref (qb E + 30)]) (k := 40) e_Wh_init_48 ok_Pa_init rfl rfl km_Wh_28 kx_Pa_init rfl rfl (Nat.le_of_ble_eq_true rfl) (by omega) (i_Pa40 hs10) (fun w11 v9 hn9 ew11 => ?_)
  obtain ⟨rfl, ew11⟩ := ew11
  have hs11 : w11.1 = 55 := hn9
  refine n_putR (ci := 8) (j := 0) (n := 4) e_Wh_init_51 rfl q_in8 q_tok8 q_nm8 (by decide) ⟨rfl, rfl, rfl⟩ (Or.inr ⟨rfl, rfl⟩) kf_Wh_31 (by decide) (rfl : qlay 30 = (8, 4)) (by omega) rfl rfl rfl ?_
  generalize ew12 : qpr w11 30 0 (40 + 1) = w12
  have hs12 : w12.1 = 55 := by rw [← ew12]; exact hs11
  refine g_vret e_Wh_init_54 rfl ⟨hs12, rfl, ?_⟩
  subst_vars
  rfl
def f_As (w : qW) : qW :=
  let w1 := qnw w
  let w2 := qpr w1 55 2 (56 + 1)
  let w3 := qnw w2
  let w4 := qpr w3 55 3 (57 + 1)
  let w5 := qpr w4 55 0 (5 + 1)
  let w6 := qnw w5
  let w7 := f_Pa58 w6 
  let w8 := qpr w7 55 1 (58 + 1)
  w8
set_option maxHeartbeats 8000000 in
set_option maxRecDepth 20000 in
theorem i_As {d : Nat} {E : qE} {w : qW} (hs0 : w.1 = 56) : Ca (d + 3) M_As_init [.ref (qb E + 55), .ref (qb E + 5), .ref (qb E + 1)] E w (73) (fun w1 rv => rv = none ∧ w1 = f_As w ) := by
  refine Ca.enter rfl (by omega) (Nat.le_of_ble_eq_true rfl) ?_
  rw [hs0]
  refine g_aload_n 0 e_As_init_0 rfl rfl ?_
  refine g_objInit e_As_init_1 km_As_3 (Nat.le_of_ble_eq_true rfl) ?_
  refine g_aload_n 0 e_As_init_4 rfl rfl ?_
  refine g_iconst (v := 3) e_As_init_5 (by decide) ?_
  refine n_newa (n0 := 3) (ac := 20) (56) hs0 e_As_init_6 (Or.inl ⟨rfl, rfl⟩) q_arr_int (by decide) (by decide) (by decide) (rfl : qlay 56 = (20, 3)) (by omega) (by omega) ?_
  generalize ew1 : qnw w = w1
  have hs1 : w1.1 = 57 := by rw [← ew1]; show w.1 + 1 = _; rw [hs0]
  refine n_putR (ci := 1) (j := 2) (n := 4) e_As_init_8 rfl q_in1 q_tok1 q_nm1 (by decide) ⟨rfl, rfl, rfl⟩ (Or.inr ⟨rfl, rfl⟩) kf_As_9 (by decide) (rfl : qlay 55 = (1, 4)) (by omega) rfl rfl rfl ?_
  generalize ew2 : qpr w1 55 2 (56 + 1) = w2
  have hs2 : w2.1 = 57 := by rw [← ew2]; exact hs1
  refine g_aload_n 0 e_As_init_11 rfl rfl ?_
  refine g_iconst (v := 3) e_As_init_12 (by decide) ?_
  refine n_newa (n0 := 3) (ac := 20) (57) hs2 e_As_init_13 (Or.inl ⟨rfl, rfl⟩) q_arr_int (by decide) (by decide) (by decide) (rfl : qlay 57 = (20, 3)) (by omega) (by omega) ?_
  generalize ew3 : qnw w2 = w3
  have hs3 : w3.1 = 58 := by rw [← ew3]; show w2.1 + 1 = _; rw [hs2]
  refine n_putR (ci := 1) (j := 3) (n := 4) e_As_init_15 rfl q_in1 q_tok1 q_nm1 (by decide) ⟨rfl, rfl, rfl⟩ (Or.inr ⟨rfl, rfl⟩) kf_As_15 (by decide) (rfl : qlay 55 = (1, 4)) (by omega) rfl rfl rfl ?_
  generalize ew4 : qpr w3 55 3 (57 + 1) = w4
  have hs4 : w4.1 = 58 := by rw [← ew4]; exact hs3
  refine g_aload_n 0 e_As_init_18 rfl rfl ?_
  refine g_aload_n 1 e_As_init_19 rfl rfl ?_
  refine n_putR (ci := 1) (j := 0) (n := 4) e_As_init_20 rfl q_in1 q_tok1 q_nm1 (by decide) ⟨rfl, rfl, rfl⟩ (Or.inr ⟨rfl, rfl⟩) kf_As_18 (by decide) (rfl : qlay 55 = (1, 4)) (by omega) rfl rfl rfl ?_
  generalize ew5 : qpr w4 55 0 (5 + 1) = w5
  have hs5 : w5.1 = 58 := by rw [← ew5]; exact hs4
  refine g_aload_n 0 e_As_init_23 rfl rfl ?_
  refine n_new (ci := 3) (n := 8) (58) hs5 e_As_init_24 rfl (by decide) q_in3 q_tok3 kc_As_22 kn_Pa ki_Pa (by decide) (by decide) (rfl : qlay 58 = (3, 8)) (by omega) (by omega) ?_
  generalize ew6 : qnw w5 = w6
  have hs6 : w6.1 = 59 := by rw [← ew6]; show w5.1 + 1 = _; rw [hs5]
  refine g_dup e_As_init_27 rfl ?_
  refine g_aload_n 2 e_As_init_28 rfl rfl ?_
  refine g_init (As := [.ref (qb E + 1)]) (rest := [.ref (qb E + 58), .ref (qb E + 55)]) (k := 58) e_As_init_29 ok_Pa_init rfl rfl km_As_24 kx_Pa_init rfl rfl (Nat.le_of_ble_eq_true rfl) (by omega) (i_Pa58 hs6) (fun w7 v9 hn9 ew7 => ?_)
  obtain ⟨rfl, ew7⟩ := ew7
  have hs7 : w7.1 = 73 := hn9
  refine n_putR (ci := 1) (j := 1) (n := 4) e_As_init_32 rfl q_in1 q_tok1 q_nm1 (by decide) ⟨rfl, rfl, rfl⟩ (Or.inr ⟨rfl, rfl⟩) kf_As_27 (by decide) (rfl : qlay 55 = (1, 4)) (by omega) rfl rfl rfl ?_
  generalize ew8 : qpr w7 55 1 (58 + 1) = w8
  have hs8 : w8.1 = 73 := by rw [← ew8]; exact hs7
  refine g_vret e_As_init_35 rfl ⟨hs8, rfl, ?_⟩
  subst_vars
  rfl
def f_Qu (w : qW) : qW :=
  let w1 := qnw w
  let w2 := f_Ki w1 1
  let w3 := qnw w2
  let w4 := f_Wh5 w3 
  let w5 := qpr w4 0 0 (5 + 1)
  let w6 := qnw w5
  let w7 := f_Wh30 w6 
  let w8 := qpr w7 0 1 (30 + 1)
  let w9 := qnw w8
  let w10 := f_As w9 
  let w11 := qpr w10 0 3 (55 + 1)
  let w12 := qnw w11
  let w13 := f_Re w12 
  let w14 := qpr w13 0 4 (73 + 1)
  let w15 := qnw w14
  let w16 := qpr w15 0 5 (75 + 1)
  let w17 := qnw w16
  let w18 := f_Ki w17 76
  let w19 := qpr w18 75 (0 : Int32).toNatClampNeg (76 + 1)
  let w20 := qnw w19
  let w21 := f_Ki w20 80
  let w22 := qpr w21 75 (1 : Int32).toNatClampNeg (80 + 1)
  let w23 := qnw w22
  let w24 := f_Ki w23 84
  let w25 := qpr w24 75 (2 : Int32).toNatClampNeg (84 + 1)
  let w26 := qnw w25
  let w27 := f_Ki w26 88
  let w28 := qpr w27 75 (3 : Int32).toNatClampNeg (88 + 1)
  let w29 := qnw w28
  let w30 := f_Ki w29 92
  let w31 := qpr w30 75 (4 : Int32).toNatClampNeg (92 + 1)
  let w32 := qnw w31
  let w33 := f_Ki w32 96
  let w34 := qpr w33 75 (5 : Int32).toNatClampNeg (96 + 1)
  let w35 := qnw w34
  let w36 := f_Ac w35 
  let w37 := qpr w36 0 7 (100 + 1)
  let w38 := qnw w37
  let w39 := qpr w38 0 8 (102 + 1)
  let w40 := qnw w39
  let w41 := f_Ta w40 103
  let w42 := qpr w41 102 (0 : Int32).toNatClampNeg (103 + 1)
  let w43 := qnw w42
  let w44 := f_Ta w43 105
  let w45 := qpr w44 102 (1 : Int32).toNatClampNeg (105 + 1)
  let w46 := qnw w45
  let w47 := f_Ta w46 107
  let w48 := qpr w47 102 (2 : Int32).toNatClampNeg (107 + 1)
  let w49 := qnw w48
  let w50 := f_Ta w49 109
  let w51 := qpr w50 102 (3 : Int32).toNatClampNeg (109 + 1)
  let w52 := qnw w51
  let w53 := f_Ta w52 111
  let w54 := qpr w53 102 (4 : Int32).toNatClampNeg (111 + 1)
  let w55 := qnw w54
  let w56 := f_Ta w55 113
  let w57 := qpr w56 102 (5 : Int32).toNatClampNeg (113 + 1)
  w57
set_option maxHeartbeats 8000000 in
set_option maxRecDepth 20000 in
theorem i_Qu {d : Nat} {E : qE} {w : qW} (hs0 : w.1 = 1) : Ca (d + 4) M_Qu_init [.ref (qb E + 0)] E w (115) (fun w1 rv => rv = none ∧ w1 = f_Qu w ) := by
  obtain ⟨n0, ai, al, ar⟩ := w
  replace hs0 : n0 = 1 := hs0
  subst hs0
  generalize ew0 : ((1, ai, al, ar) : qW) = w
  have hs0 : w.1 = 1 := by rw [← ew0]
  refine Ca.enter rfl (by omega) (Nat.le_of_ble_eq_true rfl) ?_
  rw [hs0]
  refine g_aload_n 0 e_Qu_init_0 rfl rfl ?_
  refine g_objInit e_Qu_init_1 km_Qu_3 (Nat.le_of_ble_eq_true rfl) ?_
  refine n_new (ci := 2) (n := 5) (1) hs0 e_Qu_init_4 rfl (by decide) q_in2 q_tok2 kc_Qu_9 kn_Ki ki_Ki (by decide) (by decide) (rfl : qlay 1 = (2, 5)) (by omega) (by omega) ?_
  generalize ew1 : qnw w = w1
  have hs1 : w1.1 = 2 := by rw [← ew1]; show w.1 + 1 = _; rw [hs0]
  refine g_dup e_Qu_init_7 rfl ?_
  refine g_initN (As := []) (rest := [.ref (qb E + 1)]) (host := "QuinceEnd") (k := 1) e_Qu_init_8 ok_Ki_init rfl rfl (fun _ _ h => h.2.2.2.2.2.2.1.2.2.1) kx_Ki_init rfl rfl (Nat.le_of_ble_eq_true rfl) (by omega) (i_Ki (k := 1) (Or.inl rfl) hs1) (fun w2 v9 hn9 ew2 => ?_)
  obtain ⟨rfl, ew2⟩ := ew2
  have hs2 : w2.1 = 5 := hn9
  refine g_astore_n (lv := [(1, .ref (qb E + 1)), (0, .ref (qb E + 0))]) e_Qu_init_11 rfl (by decide) rfl ?_
  refine g_aload_n 1 e_Qu_init_12 rfl rfl ?_
  refine n_new (ci := 8) (n := 4) (5) hs2 e_Qu_init_13 rfl (by decide) q_in8 q_tok8 kc_Qu_12 kn_Wh ki_Wh (by decide) (by decide) (rfl : qlay 5 = (8, 4)) (by omega) (by omega) ?_
  generalize ew3 : qnw w2 = w3
  have hs3 : w3.1 = 6 := by rw [← ew3]; show w2.1 + 1 = _; rw [hs2]
  refine g_dup e_Qu_init_16 rfl ?_
  refine g_aload_n 0 e_Qu_init_17 rfl rfl ?_
  refine g_init (As := [.ref (qb E + 1)]) (rest := [.ref (qb E + 5), .ref (qb E + 0)]) (k := 5) e_Qu_init_18 ok_Wh_init rfl rfl km_Qu_14 kx_Wh_init rfl rfl (Nat.le_of_ble_eq_true rfl) (by omega) (i_Wh5 hs3) (fun w4 v9 hn9 ew4 => ?_)
  obtain ⟨rfl, ew4⟩ := ew4
  have hs4 : w4.1 = 30 := hn9
  refine n_putR (ci := 9) (j := 0) (n := 9) e_Qu_init_21 rfl q_in9 q_tok9 q_nm9 (by decide) ⟨rfl, rfl, rfl⟩ (Or.inr ⟨rfl, rfl⟩) kf_Qu_17 (by decide) (rfl : qlay 0 = (9, 9)) (by omega) rfl rfl rfl ?_
  generalize ew5 : qpr w4 0 0 (5 + 1) = w5
  have hs5 : w5.1 = 30 := by rw [← ew5]; exact hs4
  refine g_aload_n 1 e_Qu_init_24 rfl rfl ?_
  refine n_new (ci := 8) (n := 4) (30) hs5 e_Qu_init_25 rfl (by decide) q_in8 q_tok8 kc_Qu_12 kn_Wh ki_Wh (by decide) (by decide) (rfl : qlay 30 = (8, 4)) (by omega) (by omega) ?_
  generalize ew6 : qnw w5 = w6
  have hs6 : w6.1 = 31 := by rw [← ew6]; show w5.1 + 1 = _; rw [hs5]
  refine g_dup e_Qu_init_28 rfl ?_
  refine g_aload_n 0 e_Qu_init_29 rfl rfl ?_
  refine g_init (As := [.ref (qb E + 1)]) (rest := [.ref (qb E + 30), .ref (qb E + 0)]) (k := 30) e_Qu_init_30 ok_Wh_init rfl rfl km_Qu_14 kx_Wh_init rfl rfl (Nat.le_of_ble_eq_true rfl) (by omega) (i_Wh30 hs6) (fun w7 v9 hn9 ew7 => ?_)
  obtain ⟨rfl, ew7⟩ := ew7
  have hs7 : w7.1 = 55 := hn9
  refine n_putR (ci := 9) (j := 1) (n := 9) e_Qu_init_33 rfl q_in9 q_tok9 q_nm9 (by decide) ⟨rfl, rfl, rfl⟩ (Or.inr ⟨rfl, rfl⟩) kf_Qu_23 (by decide) (rfl : qlay 0 = (9, 9)) (by omega) rfl rfl rfl ?_
  generalize ew8 : qpr w7 0 1 (30 + 1) = w8
  have hs8 : w8.1 = 55 := by rw [← ew8]; exact hs7
  refine g_aload_n 1 e_Qu_init_36 rfl rfl ?_
  refine n_new (ci := 1) (n := 4) (55) hs8 e_Qu_init_37 rfl (by decide) q_in1 q_tok1 kc_Qu_26 kn_As ki_As (by decide) (by decide) (rfl : qlay 55 = (1, 4)) (by omega) (by omega) ?_
  generalize ew9 : qnw w8 = w9
  have hs9 : w9.1 = 56 := by rw [← ew9]; show w8.1 + 1 = _; rw [hs8]
  refine g_dup e_Qu_init_40 rfl ?_
  refine g_aload_n 1 e_Qu_init_41 rfl rfl ?_
  have hr9 : qr w9 0 0 = 5 + 1 := by subst_vars; rfl
  refine g_getf (ci := 9) (j := 0) (n := 9) (v := .ref (qb E + 5)) e_Qu_init_42 rfl q_in9 (by decide) ⟨rfl, rfl, rfl⟩ kf_Qu_17 (by decide) (rfl : qlay 0 = (9, 9)) (by omega) (by show qrv E (qr w9 0 0) = _; rw [hr9]; rfl) ?_
  refine g_aload_n 0 e_Qu_init_45 rfl rfl ?_
  refine g_init (As := [.ref (qb E + 5), .ref (qb E + 1)]) (rest := [.ref (qb E + 55), .ref (qb E + 0)]) (k := 55) e_Qu_init_46 ok_As_init rfl rfl km_Qu_28 kx_As_init rfl rfl (Nat.le_of_ble_eq_true rfl) (by omega) (i_As hs9) (fun w10 v9 hn9 ew10 => ?_)
  obtain ⟨rfl, ew10⟩ := ew10
  have hs10 : w10.1 = 73 := hn9
  refine n_putR (ci := 9) (j := 3) (n := 9) e_Qu_init_49 rfl q_in9 q_tok9 q_nm9 (by decide) ⟨rfl, rfl, rfl⟩ (Or.inr ⟨rfl, rfl⟩) kf_Qu_31 (by decide) (rfl : qlay 0 = (9, 9)) (by omega) rfl rfl rfl ?_
  generalize ew11 : qpr w10 0 3 (55 + 1) = w11
  have hs11 : w11.1 = 73 := by rw [← ew11]; exact hs10
  refine g_aload_n 1 e_Qu_init_52 rfl rfl ?_
  refine n_new (ci := 4) (n := 4) (73) hs11 e_Qu_init_53 rfl (by decide) q_in4 q_tok4 kc_Qu_35 kn_Re ki_Re (by decide) (by decide) (rfl : qlay 73 = (4, 4)) (by omega) (by omega) ?_
  generalize ew12 : qnw w11 = w12
  have hs12 : w12.1 = 74 := by rw [← ew12]; show w11.1 + 1 = _; rw [hs11]
  refine g_dup e_Qu_init_56 rfl ?_
  refine g_aload_n 0 e_Qu_init_57 rfl rfl ?_
  refine g_init (As := [.ref (qb E + 1)]) (rest := [.ref (qb E + 73), .ref (qb E + 0)]) (k := 73) e_Qu_init_58 ok_Re_init rfl rfl km_Qu_37 kx_Re_init rfl rfl (Nat.le_of_ble_eq_true rfl) (by omega) (i_Re hs12) (fun w13 v9 hn9 ew13 => ?_)
  obtain ⟨rfl, ew13⟩ := ew13
  have hs13 : w13.1 = 75 := hn9
  refine n_putR (ci := 9) (j := 4) (n := 9) e_Qu_init_61 rfl q_in9 q_tok9 q_nm9 (by decide) ⟨rfl, rfl, rfl⟩ (Or.inr ⟨rfl, rfl⟩) kf_Qu_38 (by decide) (rfl : qlay 0 = (9, 9)) (by omega) rfl rfl rfl ?_
  generalize ew14 : qpr w13 0 4 (73 + 1) = w14
  have hs14 : w14.1 = 75 := by rw [← ew14]; exact hs13
  refine g_aload_n 1 e_Qu_init_64 rfl rfl ?_
  refine g_bipush (v := 6) e_Qu_init_65 (by decide) ?_
  refine n_newq (n0 := 6) (c0 := 24) (75) 4 hs14 e_Qu_init_67 kc_Qu_9 (fun _ _ h => h.2.2.2.2.2.2.2.1.2.1) (by decide) rfl (by decide) (by decide) (by decide) (rfl : qlay 75 = (24, 6)) (by omega) (by omega) ?_
  generalize ew15 : qnw w14 = w15
  have hs15 : w15.1 = 76 := by rw [← ew15]; show w14.1 + 1 = _; rw [hs14]
  refine n_putR (ci := 9) (j := 5) (n := 9) e_Qu_init_70 rfl q_in9 q_tok9 q_nm9 (by decide) ⟨rfl, rfl, rfl⟩ (Or.inr ⟨rfl, rfl⟩) kf_Qu_42 (by decide) (rfl : qlay 0 = (9, 9)) (by omega) rfl rfl rfl ?_
  generalize ew16 : qpr w15 0 5 (75 + 1) = w16
  have hs16 : w16.1 = 76 := by rw [← ew16]; exact hs15
  refine g_iconst (v := 0) e_Qu_init_73 (by decide) ?_
  refine g_istore_n (lv := [(2, .int 0), (1, .ref (qb E + 1)), (0, .ref (qb E + 0))]) e_Qu_init_74 rfl (by decide) rfl ?_
  refine g_iload_n 0 e_Qu_init_75 rfl rfl ?_
  refine g_bipush (v := 6) e_Qu_init_76 (by decide) ?_
  refine g_icmp_ge 100 e_Qu_init_78 (by decide) ⟨fun z => absurd z (by decide), fun _ => ?_⟩
  refine g_aload_n 2 e_Qu_init_81 rfl rfl ?_
  have hr16 : qr w16 0 5 = 75 + 1 := by subst_vars; rfl
  refine g_getf (ci := 9) (j := 5) (n := 9) (v := .ref (qb E + 75)) e_Qu_init_82 rfl q_in9 (by decide) ⟨rfl, rfl, rfl⟩ kf_Qu_42 (by decide) (rfl : qlay 0 = (9, 9)) (by omega) (by show qrv E (qr w16 0 5) = _; rw [hr16]; rfl) ?_
  refine g_iload_n 0 e_Qu_init_85 rfl rfl ?_
  refine n_new (ci := 2) (n := 5) (76) hs16 e_Qu_init_86 rfl (by decide) q_in2 q_tok2 kc_Qu_9 kn_Ki ki_Ki (by decide) (by decide) (rfl : qlay 76 = (2, 5)) (by omega) (by omega) ?_
  generalize ew17 : qnw w16 = w17
  have hs17 : w17.1 = 77 := by rw [← ew17]; show w16.1 + 1 = _; rw [hs16]
  refine g_dup e_Qu_init_89 rfl ?_
  refine g_initN (As := []) (rest := [.ref (qb E + 76), .int 0, .ref (qb E + 75)]) (host := "QuinceEnd") (k := 76) e_Qu_init_90 ok_Ki_init rfl rfl (fun _ _ h => h.2.2.2.2.2.2.1.2.2.1) kx_Ki_init rfl rfl (Nat.le_of_ble_eq_true rfl) (by omega) (i_Ki (k := 76) (isKi_of (i := 0) (by decide)) hs17) (fun w18 v9 hn9 ew18 => ?_)
  obtain ⟨rfl, ew18⟩ := ew18
  have hs18 : w18.1 = 80 := hn9
  refine g_aastore (r := ("QuinceEnd$Kitchen", q_T2, 5)) 4 e_Qu_init_93 (rfl : qlay 75 = (24, 6)) (by decide) rfl (by omega) (show vp_in 0 6 by unfold vp_in; decide) (rfl : qlay 76 = (2, 5)) (by omega) (by decide) rfl ?_
  generalize ew19 : qpr w18 75 (0 : Int32).toNatClampNeg (76 + 1) = w19
  have hs19 : w19.1 = 80 := by rw [← ew19]; exact hs18
  refine g_iinc (v := 1) (lv := [(2, .int 1), (1, .ref (qb E + 1)), (0, .ref (qb E + 0))]) 0 e_Qu_init_94 rfl (by decide) (by decide) rfl ?_
  refine g_goto 75 e_Qu_init_97 (by decide) ?_
  refine g_iload_n 0 e_Qu_init_75 rfl rfl ?_
  refine g_bipush (v := 6) e_Qu_init_76 (by decide) ?_
  refine g_icmp_ge 100 e_Qu_init_78 (by decide) ⟨fun z => absurd z (by decide), fun _ => ?_⟩
  refine g_aload_n 2 e_Qu_init_81 rfl rfl ?_
  have hr19 : qr w19 0 5 = 75 + 1 := by subst_vars; rfl
  refine g_getf (ci := 9) (j := 5) (n := 9) (v := .ref (qb E + 75)) e_Qu_init_82 rfl q_in9 (by decide) ⟨rfl, rfl, rfl⟩ kf_Qu_42 (by decide) (rfl : qlay 0 = (9, 9)) (by omega) (by show qrv E (qr w19 0 5) = _; rw [hr19]; rfl) ?_
  refine g_iload_n 0 e_Qu_init_85 rfl rfl ?_
  refine n_new (ci := 2) (n := 5) (80) hs19 e_Qu_init_86 rfl (by decide) q_in2 q_tok2 kc_Qu_9 kn_Ki ki_Ki (by decide) (by decide) (rfl : qlay 80 = (2, 5)) (by omega) (by omega) ?_
  generalize ew20 : qnw w19 = w20
  have hs20 : w20.1 = 81 := by rw [← ew20]; show w19.1 + 1 = _; rw [hs19]
  refine g_dup e_Qu_init_89 rfl ?_
  refine g_initN (As := []) (rest := [.ref (qb E + 80), .int 1, .ref (qb E + 75)]) (host := "QuinceEnd") (k := 80) e_Qu_init_90 ok_Ki_init rfl rfl (fun _ _ h => h.2.2.2.2.2.2.1.2.2.1) kx_Ki_init rfl rfl (Nat.le_of_ble_eq_true rfl) (by omega) (i_Ki (k := 80) (isKi_of (i := 1) (by decide)) hs20) (fun w21 v9 hn9 ew21 => ?_)
  obtain ⟨rfl, ew21⟩ := ew21
  have hs21 : w21.1 = 84 := hn9
  refine g_aastore (r := ("QuinceEnd$Kitchen", q_T2, 5)) 4 e_Qu_init_93 (rfl : qlay 75 = (24, 6)) (by decide) rfl (by omega) (show vp_in 1 6 by unfold vp_in; decide) (rfl : qlay 80 = (2, 5)) (by omega) (by decide) rfl ?_
  generalize ew22 : qpr w21 75 (1 : Int32).toNatClampNeg (80 + 1) = w22
  have hs22 : w22.1 = 84 := by rw [← ew22]; exact hs21
  refine g_iinc (v := 2) (lv := [(2, .int 2), (1, .ref (qb E + 1)), (0, .ref (qb E + 0))]) 0 e_Qu_init_94 rfl (by decide) (by decide) rfl ?_
  refine g_goto 75 e_Qu_init_97 (by decide) ?_
  refine g_iload_n 0 e_Qu_init_75 rfl rfl ?_
  refine g_bipush (v := 6) e_Qu_init_76 (by decide) ?_
  refine g_icmp_ge 100 e_Qu_init_78 (by decide) ⟨fun z => absurd z (by decide), fun _ => ?_⟩
  refine g_aload_n 2 e_Qu_init_81 rfl rfl ?_
  have hr22 : qr w22 0 5 = 75 + 1 := by subst_vars; rfl
  refine g_getf (ci := 9) (j := 5) (n := 9) (v := .ref (qb E + 75)) e_Qu_init_82 rfl q_in9 (by decide) ⟨rfl, rfl, rfl⟩ kf_Qu_42 (by decide) (rfl : qlay 0 = (9, 9)) (by omega) (by show qrv E (qr w22 0 5) = _; rw [hr22]; rfl) ?_
  refine g_iload_n 0 e_Qu_init_85 rfl rfl ?_
  refine n_new (ci := 2) (n := 5) (84) hs22 e_Qu_init_86 rfl (by decide) q_in2 q_tok2 kc_Qu_9 kn_Ki ki_Ki (by decide) (by decide) (rfl : qlay 84 = (2, 5)) (by omega) (by omega) ?_
  generalize ew23 : qnw w22 = w23
  have hs23 : w23.1 = 85 := by rw [← ew23]; show w22.1 + 1 = _; rw [hs22]
  refine g_dup e_Qu_init_89 rfl ?_
  refine g_initN (As := []) (rest := [.ref (qb E + 84), .int 2, .ref (qb E + 75)]) (host := "QuinceEnd") (k := 84) e_Qu_init_90 ok_Ki_init rfl rfl (fun _ _ h => h.2.2.2.2.2.2.1.2.2.1) kx_Ki_init rfl rfl (Nat.le_of_ble_eq_true rfl) (by omega) (i_Ki (k := 84) (isKi_of (i := 2) (by decide)) hs23) (fun w24 v9 hn9 ew24 => ?_)
  obtain ⟨rfl, ew24⟩ := ew24
  have hs24 : w24.1 = 88 := hn9
  refine g_aastore (r := ("QuinceEnd$Kitchen", q_T2, 5)) 4 e_Qu_init_93 (rfl : qlay 75 = (24, 6)) (by decide) rfl (by omega) (show vp_in 2 6 by unfold vp_in; decide) (rfl : qlay 84 = (2, 5)) (by omega) (by decide) rfl ?_
  generalize ew25 : qpr w24 75 (2 : Int32).toNatClampNeg (84 + 1) = w25
  have hs25 : w25.1 = 88 := by rw [← ew25]; exact hs24
  refine g_iinc (v := 3) (lv := [(2, .int 3), (1, .ref (qb E + 1)), (0, .ref (qb E + 0))]) 0 e_Qu_init_94 rfl (by decide) (by decide) rfl ?_
  refine g_goto 75 e_Qu_init_97 (by decide) ?_
  refine g_iload_n 0 e_Qu_init_75 rfl rfl ?_
  refine g_bipush (v := 6) e_Qu_init_76 (by decide) ?_
  refine g_icmp_ge 100 e_Qu_init_78 (by decide) ⟨fun z => absurd z (by decide), fun _ => ?_⟩
  refine g_aload_n 2 e_Qu_init_81 rfl rfl ?_
  have hr25 : qr w25 0 5 = 75 + 1 := by subst_vars; rfl
  refine g_getf (ci := 9) (j := 5) (n := 9) (v := .ref (qb E + 75)) e_Qu_init_82 rfl q_in9 (by decide) ⟨rfl, rfl, rfl⟩ kf_Qu_42 (by decide) (rfl : qlay 0 = (9, 9)) (by omega) (by show qrv E (qr w25 0 5) = _; rw [hr25]; rfl) ?_
  refine g_iload_n 0 e_Qu_init_85 rfl rfl ?_
  refine n_new (ci := 2) (n := 5) (88) hs25 e_Qu_init_86 rfl (by decide) q_in2 q_tok2 kc_Qu_9 kn_Ki ki_Ki (by decide) (by decide) (rfl : qlay 88 = (2, 5)) (by omega) (by omega) ?_
  generalize ew26 : qnw w25 = w26
  have hs26 : w26.1 = 89 := by rw [← ew26]; show w25.1 + 1 = _; rw [hs25]
  refine g_dup e_Qu_init_89 rfl ?_
  refine g_initN (As := []) (rest := [.ref (qb E + 88), .int 3, .ref (qb E + 75)]) (host := "QuinceEnd") (k := 88) e_Qu_init_90 ok_Ki_init rfl rfl (fun _ _ h => h.2.2.2.2.2.2.1.2.2.1) kx_Ki_init rfl rfl (Nat.le_of_ble_eq_true rfl) (by omega) (i_Ki (k := 88) (isKi_of (i := 3) (by decide)) hs26) (fun w27 v9 hn9 ew27 => ?_)
  obtain ⟨rfl, ew27⟩ := ew27
  have hs27 : w27.1 = 92 := hn9
  refine g_aastore (r := ("QuinceEnd$Kitchen", q_T2, 5)) 4 e_Qu_init_93 (rfl : qlay 75 = (24, 6)) (by decide) rfl (by omega) (show vp_in 3 6 by unfold vp_in; decide) (rfl : qlay 88 = (2, 5)) (by omega) (by decide) rfl ?_
  generalize ew28 : qpr w27 75 (3 : Int32).toNatClampNeg (88 + 1) = w28
  have hs28 : w28.1 = 92 := by rw [← ew28]; exact hs27
  refine g_iinc (v := 4) (lv := [(2, .int 4), (1, .ref (qb E + 1)), (0, .ref (qb E + 0))]) 0 e_Qu_init_94 rfl (by decide) (by decide) rfl ?_
  refine g_goto 75 e_Qu_init_97 (by decide) ?_
  refine g_iload_n 0 e_Qu_init_75 rfl rfl ?_
  refine g_bipush (v := 6) e_Qu_init_76 (by decide) ?_
  refine g_icmp_ge 100 e_Qu_init_78 (by decide) ⟨fun z => absurd z (by decide), fun _ => ?_⟩
  refine g_aload_n 2 e_Qu_init_81 rfl rfl ?_
  have hr28 : qr w28 0 5 = 75 + 1 := by subst_vars; rfl
  refine g_getf (ci := 9) (j := 5) (n := 9) (v := .ref (qb E + 75)) e_Qu_init_82 rfl q_in9 (by decide) ⟨rfl, rfl, rfl⟩ kf_Qu_42 (by decide) (rfl : qlay 0 = (9, 9)) (by omega) (by show qrv E (qr w28 0 5) = _; rw [hr28]; rfl) ?_
  refine g_iload_n 0 e_Qu_init_85 rfl rfl ?_
  refine n_new (ci := 2) (n := 5) (92) hs28 e_Qu_init_86 rfl (by decide) q_in2 q_tok2 kc_Qu_9 kn_Ki ki_Ki (by decide) (by decide) (rfl : qlay 92 = (2, 5)) (by omega) (by omega) ?_
  generalize ew29 : qnw w28 = w29
  have hs29 : w29.1 = 93 := by rw [← ew29]; show w28.1 + 1 = _; rw [hs28]
  refine g_dup e_Qu_init_89 rfl ?_
  refine g_initN (As := []) (rest := [.ref (qb E + 92), .int 4, .ref (qb E + 75)]) (host := "QuinceEnd") (k := 92) e_Qu_init_90 ok_Ki_init rfl rfl (fun _ _ h => h.2.2.2.2.2.2.1.2.2.1) kx_Ki_init rfl rfl (Nat.le_of_ble_eq_true rfl) (by omega) (i_Ki (k := 92) (isKi_of (i := 4) (by decide)) hs29) (fun w30 v9 hn9 ew30 => ?_)
  obtain ⟨rfl, ew30⟩ := ew30
  have hs30 : w30.1 = 96 := hn9
  refine g_aastore (r := ("QuinceEnd$Kitchen", q_T2, 5)) 4 e_Qu_init_93 (rfl : qlay 75 = (24, 6)) (by decide) rfl (by omega) (show vp_in 4 6 by unfold vp_in; decide) (rfl : qlay 92 = (2, 5)) (by omega) (by decide) rfl ?_
  generalize ew31 : qpr w30 75 (4 : Int32).toNatClampNeg (92 + 1) = w31
  have hs31 : w31.1 = 96 := by rw [← ew31]; exact hs30
  refine g_iinc (v := 5) (lv := [(2, .int 5), (1, .ref (qb E + 1)), (0, .ref (qb E + 0))]) 0 e_Qu_init_94 rfl (by decide) (by decide) rfl ?_
  refine g_goto 75 e_Qu_init_97 (by decide) ?_
  refine g_iload_n 0 e_Qu_init_75 rfl rfl ?_
  refine g_bipush (v := 6) e_Qu_init_76 (by decide) ?_
  refine g_icmp_ge 100 e_Qu_init_78 (by decide) ⟨fun z => absurd z (by decide), fun _ => ?_⟩
  refine g_aload_n 2 e_Qu_init_81 rfl rfl ?_
  have hr31 : qr w31 0 5 = 75 + 1 := by subst_vars; rfl
  refine g_getf (ci := 9) (j := 5) (n := 9) (v := .ref (qb E + 75)) e_Qu_init_82 rfl q_in9 (by decide) ⟨rfl, rfl, rfl⟩ kf_Qu_42 (by decide) (rfl : qlay 0 = (9, 9)) (by omega) (by show qrv E (qr w31 0 5) = _; rw [hr31]; rfl) ?_
  refine g_iload_n 0 e_Qu_init_85 rfl rfl ?_
  refine n_new (ci := 2) (n := 5) (96) hs31 e_Qu_init_86 rfl (by decide) q_in2 q_tok2 kc_Qu_9 kn_Ki ki_Ki (by decide) (by decide) (rfl : qlay 96 = (2, 5)) (by omega) (by omega) ?_
  generalize ew32 : qnw w31 = w32
  have hs32 : w32.1 = 97 := by rw [← ew32]; show w31.1 + 1 = _; rw [hs31]
  refine g_dup e_Qu_init_89 rfl ?_
  refine g_initN (As := []) (rest := [.ref (qb E + 96), .int 5, .ref (qb E + 75)]) (host := "QuinceEnd") (k := 96) e_Qu_init_90 ok_Ki_init rfl rfl (fun _ _ h => h.2.2.2.2.2.2.1.2.2.1) kx_Ki_init rfl rfl (Nat.le_of_ble_eq_true rfl) (by omega) (i_Ki (k := 96) (isKi_of (i := 5) (by decide)) hs32) (fun w33 v9 hn9 ew33 => ?_)
  obtain ⟨rfl, ew33⟩ := ew33
  have hs33 : w33.1 = 100 := hn9
  refine g_aastore (r := ("QuinceEnd$Kitchen", q_T2, 5)) 4 e_Qu_init_93 (rfl : qlay 75 = (24, 6)) (by decide) rfl (by omega) (show vp_in 5 6 by unfold vp_in; decide) (rfl : qlay 96 = (2, 5)) (by omega) (by decide) rfl ?_
  generalize ew34 : qpr w33 75 (5 : Int32).toNatClampNeg (96 + 1) = w34
  have hs34 : w34.1 = 100 := by rw [← ew34]; exact hs33
  refine g_iinc (v := 6) (lv := [(2, .int 6), (1, .ref (qb E + 1)), (0, .ref (qb E + 0))]) 0 e_Qu_init_94 rfl (by decide) (by decide) rfl ?_
  refine g_goto 75 e_Qu_init_97 (by decide) ?_
  refine g_iload_n 0 e_Qu_init_75 rfl rfl ?_
  refine g_bipush (v := 6) e_Qu_init_76 (by decide) ?_
  refine g_icmp_ge 100 e_Qu_init_78 (by decide) ⟨fun _ => ?_, fun z => absurd (by decide) z⟩
  refine g_aload_n 2 e_Qu_init_100 rfl rfl ?_
  refine n_new (ci := 0) (n := 5) (100) hs34 e_Qu_init_101 rfl (by decide) q_in0 q_tok0 kc_Qu_46 kn_Ac ki_Ac (by decide) (by decide) (rfl : qlay 100 = (0, 5)) (by omega) (by omega) ?_
  generalize ew35 : qnw w34 = w35
  have hs35 : w35.1 = 101 := by rw [← ew35]; show w34.1 + 1 = _; rw [hs34]
  refine g_dup e_Qu_init_104 rfl ?_
  refine g_initN (As := []) (rest := [.ref (qb E + 100), .ref (qb E + 0)]) (host := "QuinceEnd") (k := 100) e_Qu_init_105 ok_Ac_init rfl rfl (fun _ _ h => h.2.2.2.2.2.2.1.2.2.2.1) kx_Ac_init rfl rfl (Nat.le_of_ble_eq_true rfl) (by omega) (i_Ac hs35) (fun w36 v9 hn9 ew36 => ?_)
  obtain ⟨rfl, ew36⟩ := ew36
  have hs36 : w36.1 = 102 := hn9
  refine n_putR (ci := 9) (j := 7) (n := 9) e_Qu_init_108 rfl q_in9 q_tok9 q_nm9 (by decide) ⟨rfl, rfl, rfl⟩ (Or.inr ⟨rfl, rfl⟩) kf_Qu_49 (by decide) (rfl : qlay 0 = (9, 9)) (by omega) rfl rfl rfl ?_
  generalize ew37 : qpr w36 0 7 (100 + 1) = w37
  have hs37 : w37.1 = 102 := by rw [← ew37]; exact hs36
  refine g_aload_n 2 e_Qu_init_111 rfl rfl ?_
  refine g_bipush (v := 6) e_Qu_init_112 (by decide) ?_
  refine n_newq (n0 := 6) (c0 := 25) (102) 5 hs37 e_Qu_init_114 kc_Qu_53 (fun _ _ h => h.2.2.2.2.2.2.2.1.2.2) (by decide) rfl (by decide) (by decide) (by decide) (rfl : qlay 102 = (25, 6)) (by omega) (by omega) ?_
  generalize ew38 : qnw w37 = w38
  have hs38 : w38.1 = 103 := by rw [← ew38]; show w37.1 + 1 = _; rw [hs37]
  refine n_putR (ci := 9) (j := 8) (n := 9) e_Qu_init_117 rfl q_in9 q_tok9 q_nm9 (by decide) ⟨rfl, rfl, rfl⟩ (Or.inr ⟨rfl, rfl⟩) kf_Qu_55 (by decide) (rfl : qlay 0 = (9, 9)) (by omega) rfl rfl rfl ?_
  generalize ew39 : qpr w38 0 8 (102 + 1) = w39
  have hs39 : w39.1 = 103 := by rw [← ew39]; exact hs38
  refine g_iconst (v := 0) e_Qu_init_120 (by decide) ?_
  refine g_istore_n (lv := [(2, .int 0), (1, .ref (qb E + 1)), (0, .ref (qb E + 0))]) e_Qu_init_121 rfl (by decide) rfl ?_
  refine g_iload_n 0 e_Qu_init_122 rfl rfl ?_
  refine g_bipush (v := 6) e_Qu_init_123 (by decide) ?_
  refine g_icmp_ge 147 e_Qu_init_125 (by decide) ⟨fun z => absurd z (by decide), fun _ => ?_⟩
  refine g_aload_n 2 e_Qu_init_128 rfl rfl ?_
  have hr39 : qr w39 0 8 = 102 + 1 := by subst_vars; rfl
  refine g_getf (ci := 9) (j := 8) (n := 9) (v := .ref (qb E + 102)) e_Qu_init_129 rfl q_in9 (by decide) ⟨rfl, rfl, rfl⟩ kf_Qu_55 (by decide) (rfl : qlay 0 = (9, 9)) (by omega) (by show qrv E (qr w39 0 8) = _; rw [hr39]; rfl) ?_
  refine g_iload_n 0 e_Qu_init_132 rfl rfl ?_
  refine n_new (ci := 6) (n := 3) (103) hs39 e_Qu_init_133 rfl (by decide) q_in6 q_tok6 kc_Qu_53 kn_Ta ki_Ta (by decide) (by decide) (rfl : qlay 103 = (6, 3)) (by omega) (by omega) ?_
  generalize ew40 : qnw w39 = w40
  have hs40 : w40.1 = 104 := by rw [← ew40]; show w39.1 + 1 = _; rw [hs39]
  refine g_dup e_Qu_init_136 rfl ?_
  refine g_initN (As := []) (rest := [.ref (qb E + 103), .int 0, .ref (qb E + 102)]) (host := "QuinceEnd") (k := 103) e_Qu_init_137 ok_Ta_init rfl rfl (fun _ _ h => h.2.2.2.2.2.2.1.2.2.2.2) kx_Ta_init rfl rfl (Nat.le_of_ble_eq_true rfl) (by omega) (i_Ta (t := 103) (⟨0, by decide, rfl⟩) hs40) (fun w41 v9 hn9 ew41 => ?_)
  obtain ⟨rfl, ew41⟩ := ew41
  have hs41 : w41.1 = 105 := hn9
  refine g_aastore (r := ("QuinceEnd$Tape", q_T6, 3)) 5 e_Qu_init_140 (rfl : qlay 102 = (25, 6)) (by decide) rfl (by omega) (show vp_in 0 6 by unfold vp_in; decide) (rfl : qlay 103 = (6, 3)) (by omega) (by decide) rfl ?_
  generalize ew42 : qpr w41 102 (0 : Int32).toNatClampNeg (103 + 1) = w42
  have hs42 : w42.1 = 105 := by rw [← ew42]; exact hs41
  refine g_iinc (v := 1) (lv := [(2, .int 1), (1, .ref (qb E + 1)), (0, .ref (qb E + 0))]) 0 e_Qu_init_141 rfl (by decide) (by decide) rfl ?_
  refine g_goto 122 e_Qu_init_144 (by decide) ?_
  refine g_iload_n 0 e_Qu_init_122 rfl rfl ?_
  refine g_bipush (v := 6) e_Qu_init_123 (by decide) ?_
  refine g_icmp_ge 147 e_Qu_init_125 (by decide) ⟨fun z => absurd z (by decide), fun _ => ?_⟩
  refine g_aload_n 2 e_Qu_init_128 rfl rfl ?_
  have hr42 : qr w42 0 8 = 102 + 1 := by subst_vars; rfl
  refine g_getf (ci := 9) (j := 8) (n := 9) (v := .ref (qb E + 102)) e_Qu_init_129 rfl q_in9 (by decide) ⟨rfl, rfl, rfl⟩ kf_Qu_55 (by decide) (rfl : qlay 0 = (9, 9)) (by omega) (by show qrv E (qr w42 0 8) = _; rw [hr42]; rfl) ?_
  refine g_iload_n 0 e_Qu_init_132 rfl rfl ?_
  refine n_new (ci := 6) (n := 3) (105) hs42 e_Qu_init_133 rfl (by decide) q_in6 q_tok6 kc_Qu_53 kn_Ta ki_Ta (by decide) (by decide) (rfl : qlay 105 = (6, 3)) (by omega) (by omega) ?_
  generalize ew43 : qnw w42 = w43
  have hs43 : w43.1 = 106 := by rw [← ew43]; show w42.1 + 1 = _; rw [hs42]
  refine g_dup e_Qu_init_136 rfl ?_
  refine g_initN (As := []) (rest := [.ref (qb E + 105), .int 1, .ref (qb E + 102)]) (host := "QuinceEnd") (k := 105) e_Qu_init_137 ok_Ta_init rfl rfl (fun _ _ h => h.2.2.2.2.2.2.1.2.2.2.2) kx_Ta_init rfl rfl (Nat.le_of_ble_eq_true rfl) (by omega) (i_Ta (t := 105) (⟨1, by decide, rfl⟩) hs43) (fun w44 v9 hn9 ew44 => ?_)
  obtain ⟨rfl, ew44⟩ := ew44
  have hs44 : w44.1 = 107 := hn9
  refine g_aastore (r := ("QuinceEnd$Tape", q_T6, 3)) 5 e_Qu_init_140 (rfl : qlay 102 = (25, 6)) (by decide) rfl (by omega) (show vp_in 1 6 by unfold vp_in; decide) (rfl : qlay 105 = (6, 3)) (by omega) (by decide) rfl ?_
  generalize ew45 : qpr w44 102 (1 : Int32).toNatClampNeg (105 + 1) = w45
  have hs45 : w45.1 = 107 := by rw [← ew45]; exact hs44
  refine g_iinc (v := 2) (lv := [(2, .int 2), (1, .ref (qb E + 1)), (0, .ref (qb E + 0))]) 0 e_Qu_init_141 rfl (by decide) (by decide) rfl ?_
  refine g_goto 122 e_Qu_init_144 (by decide) ?_
  refine g_iload_n 0 e_Qu_init_122 rfl rfl ?_
  refine g_bipush (v := 6) e_Qu_init_123 (by decide) ?_
  refine g_icmp_ge 147 e_Qu_init_125 (by decide) ⟨fun z => absurd z (by decide), fun _ => ?_⟩
  refine g_aload_n 2 e_Qu_init_128 rfl rfl ?_
  have hr45 : qr w45 0 8 = 102 + 1 := by subst_vars; rfl
  refine g_getf (ci := 9) (j := 8) (n := 9) (v := .ref (qb E + 102)) e_Qu_init_129 rfl q_in9 (by decide) ⟨rfl, rfl, rfl⟩ kf_Qu_55 (by decide) (rfl : qlay 0 = (9, 9)) (by omega) (by show qrv E (qr w45 0 8) = _; rw [hr45]; rfl) ?_
  refine g_iload_n 0 e_Qu_init_132 rfl rfl ?_
  refine n_new (ci := 6) (n := 3) (107) hs45 e_Qu_init_133 rfl (by decide) q_in6 q_tok6 kc_Qu_53 kn_Ta ki_Ta (by decide) (by decide) (rfl : qlay 107 = (6, 3)) (by omega) (by omega) ?_
  generalize ew46 : qnw w45 = w46
  have hs46 : w46.1 = 108 := by rw [← ew46]; show w45.1 + 1 = _; rw [hs45]
  refine g_dup e_Qu_init_136 rfl ?_
  refine g_initN (As := []) (rest := [.ref (qb E + 107), .int 2, .ref (qb E + 102)]) (host := "QuinceEnd") (k := 107) e_Qu_init_137 ok_Ta_init rfl rfl (fun _ _ h => h.2.2.2.2.2.2.1.2.2.2.2) kx_Ta_init rfl rfl (Nat.le_of_ble_eq_true rfl) (by omega) (i_Ta (t := 107) (⟨2, by decide, rfl⟩) hs46) (fun w47 v9 hn9 ew47 => ?_)
  obtain ⟨rfl, ew47⟩ := ew47
  have hs47 : w47.1 = 109 := hn9
  refine g_aastore (r := ("QuinceEnd$Tape", q_T6, 3)) 5 e_Qu_init_140 (rfl : qlay 102 = (25, 6)) (by decide) rfl (by omega) (show vp_in 2 6 by unfold vp_in; decide) (rfl : qlay 107 = (6, 3)) (by omega) (by decide) rfl ?_
  generalize ew48 : qpr w47 102 (2 : Int32).toNatClampNeg (107 + 1) = w48
  have hs48 : w48.1 = 109 := by rw [← ew48]; exact hs47
  refine g_iinc (v := 3) (lv := [(2, .int 3), (1, .ref (qb E + 1)), (0, .ref (qb E + 0))]) 0 e_Qu_init_141 rfl (by decide) (by decide) rfl ?_
  refine g_goto 122 e_Qu_init_144 (by decide) ?_
  refine g_iload_n 0 e_Qu_init_122 rfl rfl ?_
  refine g_bipush (v := 6) e_Qu_init_123 (by decide) ?_
  refine g_icmp_ge 147 e_Qu_init_125 (by decide) ⟨fun z => absurd z (by decide), fun _ => ?_⟩
  refine g_aload_n 2 e_Qu_init_128 rfl rfl ?_
  have hr48 : qr w48 0 8 = 102 + 1 := by subst_vars; rfl
  refine g_getf (ci := 9) (j := 8) (n := 9) (v := .ref (qb E + 102)) e_Qu_init_129 rfl q_in9 (by decide) ⟨rfl, rfl, rfl⟩ kf_Qu_55 (by decide) (rfl : qlay 0 = (9, 9)) (by omega) (by show qrv E (qr w48 0 8) = _; rw [hr48]; rfl) ?_
  refine g_iload_n 0 e_Qu_init_132 rfl rfl ?_
  refine n_new (ci := 6) (n := 3) (109) hs48 e_Qu_init_133 rfl (by decide) q_in6 q_tok6 kc_Qu_53 kn_Ta ki_Ta (by decide) (by decide) (rfl : qlay 109 = (6, 3)) (by omega) (by omega) ?_
  generalize ew49 : qnw w48 = w49
  have hs49 : w49.1 = 110 := by rw [← ew49]; show w48.1 + 1 = _; rw [hs48]
  refine g_dup e_Qu_init_136 rfl ?_
  refine g_initN (As := []) (rest := [.ref (qb E + 109), .int 3, .ref (qb E + 102)]) (host := "QuinceEnd") (k := 109) e_Qu_init_137 ok_Ta_init rfl rfl (fun _ _ h => h.2.2.2.2.2.2.1.2.2.2.2) kx_Ta_init rfl rfl (Nat.le_of_ble_eq_true rfl) (by omega) (i_Ta (t := 109) (⟨3, by decide, rfl⟩) hs49) (fun w50 v9 hn9 ew50 => ?_)
  obtain ⟨rfl, ew50⟩ := ew50
  have hs50 : w50.1 = 111 := hn9
  refine g_aastore (r := ("QuinceEnd$Tape", q_T6, 3)) 5 e_Qu_init_140 (rfl : qlay 102 = (25, 6)) (by decide) rfl (by omega) (show vp_in 3 6 by unfold vp_in; decide) (rfl : qlay 109 = (6, 3)) (by omega) (by decide) rfl ?_
  generalize ew51 : qpr w50 102 (3 : Int32).toNatClampNeg (109 + 1) = w51
  have hs51 : w51.1 = 111 := by rw [← ew51]; exact hs50
  refine g_iinc (v := 4) (lv := [(2, .int 4), (1, .ref (qb E + 1)), (0, .ref (qb E + 0))]) 0 e_Qu_init_141 rfl (by decide) (by decide) rfl ?_
  refine g_goto 122 e_Qu_init_144 (by decide) ?_
  refine g_iload_n 0 e_Qu_init_122 rfl rfl ?_
  refine g_bipush (v := 6) e_Qu_init_123 (by decide) ?_
  refine g_icmp_ge 147 e_Qu_init_125 (by decide) ⟨fun z => absurd z (by decide), fun _ => ?_⟩
  refine g_aload_n 2 e_Qu_init_128 rfl rfl ?_
  have hr51 : qr w51 0 8 = 102 + 1 := by subst_vars; rfl
  refine g_getf (ci := 9) (j := 8) (n := 9) (v := .ref (qb E + 102)) e_Qu_init_129 rfl q_in9 (by decide) ⟨rfl, rfl, rfl⟩ kf_Qu_55 (by decide) (rfl : qlay 0 = (9, 9)) (by omega) (by show qrv E (qr w51 0 8) = _; rw [hr51]; rfl) ?_
  refine g_iload_n 0 e_Qu_init_132 rfl rfl ?_
  refine n_new (ci := 6) (n := 3) (111) hs51 e_Qu_init_133 rfl (by decide) q_in6 q_tok6 kc_Qu_53 kn_Ta ki_Ta (by decide) (by decide) (rfl : qlay 111 = (6, 3)) (by omega) (by omega) ?_
  generalize ew52 : qnw w51 = w52
  have hs52 : w52.1 = 112 := by rw [← ew52]; show w51.1 + 1 = _; rw [hs51]
  refine g_dup e_Qu_init_136 rfl ?_
  refine g_initN (As := []) (rest := [.ref (qb E + 111), .int 4, .ref (qb E + 102)]) (host := "QuinceEnd") (k := 111) e_Qu_init_137 ok_Ta_init rfl rfl (fun _ _ h => h.2.2.2.2.2.2.1.2.2.2.2) kx_Ta_init rfl rfl (Nat.le_of_ble_eq_true rfl) (by omega) (i_Ta (t := 111) (⟨4, by decide, rfl⟩) hs52) (fun w53 v9 hn9 ew53 => ?_)
  obtain ⟨rfl, ew53⟩ := ew53
  have hs53 : w53.1 = 113 := hn9
  refine g_aastore (r := ("QuinceEnd$Tape", q_T6, 3)) 5 e_Qu_init_140 (rfl : qlay 102 = (25, 6)) (by decide) rfl (by omega) (show vp_in 4 6 by unfold vp_in; decide) (rfl : qlay 111 = (6, 3)) (by omega) (by decide) rfl ?_
  generalize ew54 : qpr w53 102 (4 : Int32).toNatClampNeg (111 + 1) = w54
  have hs54 : w54.1 = 113 := by rw [← ew54]; exact hs53
  refine g_iinc (v := 5) (lv := [(2, .int 5), (1, .ref (qb E + 1)), (0, .ref (qb E + 0))]) 0 e_Qu_init_141 rfl (by decide) (by decide) rfl ?_
  refine g_goto 122 e_Qu_init_144 (by decide) ?_
  refine g_iload_n 0 e_Qu_init_122 rfl rfl ?_
  refine g_bipush (v := 6) e_Qu_init_123 (by decide) ?_
  refine g_icmp_ge 147 e_Qu_init_125 (by decide) ⟨fun z => absurd z (by decide), fun _ => ?_⟩
  refine g_aload_n 2 e_Qu_init_128 rfl rfl ?_
  have hr54 : qr w54 0 8 = 102 + 1 := by subst_vars; rfl
  refine g_getf (ci := 9) (j := 8) (n := 9) (v := .ref (qb E + 102)) e_Qu_init_129 rfl q_in9 (by decide) ⟨rfl, rfl, rfl⟩ kf_Qu_55 (by decide) (rfl : qlay 0 = (9, 9)) (by omega) (by show qrv E (qr w54 0 8) = _; rw [hr54]; rfl) ?_
  refine g_iload_n 0 e_Qu_init_132 rfl rfl ?_
  refine n_new (ci := 6) (n := 3) (113) hs54 e_Qu_init_133 rfl (by decide) q_in6 q_tok6 kc_Qu_53 kn_Ta ki_Ta (by decide) (by decide) (rfl : qlay 113 = (6, 3)) (by omega) (by omega) ?_
  generalize ew55 : qnw w54 = w55
  have hs55 : w55.1 = 114 := by rw [← ew55]; show w54.1 + 1 = _; rw [hs54]
  refine g_dup e_Qu_init_136 rfl ?_
  refine g_initN (As := []) (rest := [.ref (qb E + 113), .int 5, .ref (qb E + 102)]) (host := "QuinceEnd") (k := 113) e_Qu_init_137 ok_Ta_init rfl rfl (fun _ _ h => h.2.2.2.2.2.2.1.2.2.2.2) kx_Ta_init rfl rfl (Nat.le_of_ble_eq_true rfl) (by omega) (i_Ta (t := 113) (⟨5, by decide, rfl⟩) hs55) (fun w56 v9 hn9 ew56 => ?_)
  obtain ⟨rfl, ew56⟩ := ew56
  have hs56 : w56.1 = 115 := hn9
  refine g_aastore (r := ("QuinceEnd$Tape", q_T6, 3)) 5 e_Qu_init_140 (rfl : qlay 102 = (25, 6)) (by decide) rfl (by omega) (show vp_in 5 6 by unfold vp_in; decide) (rfl : qlay 113 = (6, 3)) (by omega) (by decide) rfl ?_
  generalize ew57 : qpr w56 102 (5 : Int32).toNatClampNeg (113 + 1) = w57
  have hs57 : w57.1 = 115 := by rw [← ew57]; exact hs56
  refine g_iinc (v := 6) (lv := [(2, .int 6), (1, .ref (qb E + 1)), (0, .ref (qb E + 0))]) 0 e_Qu_init_141 rfl (by decide) (by decide) rfl ?_
  refine g_goto 122 e_Qu_init_144 (by decide) ?_
  refine g_iload_n 0 e_Qu_init_122 rfl rfl ?_
  refine g_bipush (v := 6) e_Qu_init_123 (by decide) ?_
  refine g_icmp_ge 147 e_Qu_init_125 (by decide) ⟨fun _ => ?_, fun z => absurd (by decide) z⟩
  refine g_vret e_Qu_init_147 rfl ⟨hs57, rfl, ?_⟩
  subst_vars
  rfl
def f_Mo (w : qW) : qW :=
  let w1 := qpi w 115 0 0
  let w2 := qpi w1 115 1 1
  let w3 := qpi w2 115 2 0
  let w4 := qpi w3 115 3 0
  let w5 := qpi w4 115 4 0
  let w6 := qnw w5
  let w7 := qpr w6 115 5 (116 + 1)
  let w8 := qnw w7
  let w9 := qpr w8 115 6 (117 + 1)
  let w10 := qnw w9
  let w11 := qpr w10 115 7 (118 + 1)
  let w12 := qnw w11
  let w13 := qpr w12 115 8 (119 + 1)
  let w14 := qnw w13
  let w15 := qpr w14 115 9 (120 + 1)
  let w16 := qnw w15
  let w17 := qpr w16 115 10 (121 + 1)
  let w18 := qnw w17
  let w19 := qpr w18 115 11 (122 + 1)
  let w20 := qpi w19 115 12 0
  let w21 := qpi w20 115 13 (-1)
  let w22 := qpi w21 115 14 0
  let w23 := qpi w22 115 15 0
  let w24 := qpi w23 115 16 0
  let w25 := qnw w24
  let w26 := qpr w25 115 17 (123 + 1)
  let w27 := qnw w26
  let w28 := qpr w27 115 18 (124 + 1)
  let w29 := qnw w28
  let w30 := qpr w29 115 19 (125 + 1)
  let w31 := qnw w30
  let w32 := qpr w31 115 20 (126 + 1)
  let w33 := qnw w32
  let w34 := qpr w33 115 21 (127 + 1)
  let w35 := qnw w34
  let w36 := qpr w35 115 22 (128 + 1)
  let w37 := qnw w36
  let w38 := qpr w37 115 23 (129 + 1)
  let w39 := qnw w38
  let w40 := qpr w39 115 24 (130 + 1)
  let w41 := qpi w40 115 25 0
  let w42 := qpi w41 115 26 0
  let w43 := qpi w42 115 27 0
  let w44 := qnw w43
  let w45 := qpi w44 131 (0 : Int32).toNatClampNeg 100
  let w46 := qpi w45 131 (1 : Int32).toNatClampNeg 97
  let w47 := qpi w46 131 (2 : Int32).toNatClampNeg 114
  let w48 := qpi w47 131 (3 : Int32).toNatClampNeg 107
  let w49 := qpi w48 131 (4 : Int32).toNatClampNeg 99
  let w50 := qpi w49 131 (5 : Int32).toNatClampNeg 108
  let w51 := qpi w50 131 (6 : Int32).toNatClampNeg 101
  let w52 := qpi w51 131 (7 : Int32).toNatClampNeg 97
  let w53 := qpi w52 131 (8 : Int32).toNatClampNeg 114
  let w54 := qpi w53 131 (9 : Int32).toNatClampNeg 110
  let w55 := qpi w54 131 (10 : Int32).toNatClampNeg 101
  let w56 := qpi w55 131 (11 : Int32).toNatClampNeg 101
  let w57 := qpi w56 131 (12 : Int32).toNatClampNeg 100
  let w58 := qpr w57 115 28 (131 + 1)
  let w59 := qnw w58
  let w60 := qpr w59 115 29 (132 + 1)
  let w61 := qpi w60 115 30 9999
  let w62 := qpi w61 115 31 0
  let w63 := qpi w62 115 32 0
  let w64 := qpi w63 115 33 0
  let w65 := qpi w64 115 34 0
  let w66 := qnw w65
  let w67 := qpr w66 115 35 (133 + 1)
  let w68 := qnw w67
  let w69 := qpr w68 115 36 (134 + 1)
  let w70 := qnw w69
  let w71 := qpr w70 115 37 (135 + 1)
  let w72 := qnw w71
  let w73 := qpr w72 115 38 (136 + 1)
  let w74 := qpi w73 115 39 0
  let w75 := qnw w74
  let w76 := qpr w75 115 40 (137 + 1)
  let w77 := qnw w76
  let w78 := qpr w77 115 41 (138 + 1)
  let w79 := qpi w78 115 42 0
  let w80 := qpi w79 115 43 0
  let w81 := qnw w80
  let w82 := qpr w81 115 44 (139 + 1)
  let w83 := qnw w82
  let w84 := qpr w83 115 45 (140 + 1)
  let w85 := qnw w84
  let w86 := qpr w85 115 46 (141 + 1)
  let w87 := qnw w86
  let w88 := qpr w87 115 47 (142 + 1)
  let w89 := qpi w88 115 48 0
  let w90 := qpi w89 115 49 0
  let w91 := qpi w90 115 50 (-1)
  let w92 := qpi w91 115 51 0
  let w93 := qpi w92 115 52 0
  let w94 := qpi w93 115 53 0
  let w95 := qpi w94 115 54 0
  let w96 := qpi w95 115 55 0
  let w97 := qpi w96 115 56 0
  let w98 := qpi w97 115 57 0
  let w99 := qnw w98
  let w100 := qpr w99 115 58 (143 + 1)
  let w101 := qnw w100
  let w102 := qpr w101 115 59 (144 + 1)
  let w103 := qnw w102
  let w104 := qpr w103 115 60 (145 + 1)
  let w105 := qnw w104
  let w106 := qpr w105 115 61 (146 + 1)
  let w107 := qnw w106
  let w108 := qpr w107 115 62 (147 + 1)
  let w109 := qnw w108
  let w110 := qpr w109 115 63 (148 + 1)
  let w111 := qnw w110
  let w112 := qpr w111 115 64 (149 + 1)
  let w113 := qnw w112
  let w114 := qpr w113 115 65 (150 + 1)
  let w115 := qnw w114
  let w116 := qpr w115 115 66 (151 + 1)
  let w117 := qnw w116
  let w118 := qpr w117 115 67 (152 + 1)
  let w119 := qnw w118
  let w120 := qpr w119 115 68 (153 + 1)
  let w121 := qnw w120
  let w122 := qpr w121 115 69 (154 + 1)
  let w123 := qnw w122
  let w124 := qpr w123 115 70 (155 + 1)
  let w125 := qpi w124 115 71 0
  let w126 := qnw w125
  let w127 := qpr w126 115 72 (156 + 1)
  let w128 := qnw w127
  let w129 := qpi w128 157 (0 : Int32).toNatClampNeg (-1)
  let w130 := qpi w129 157 (1 : Int32).toNatClampNeg (-1)
  let w131 := qpi w130 157 (2 : Int32).toNatClampNeg (-1)
  let w132 := qpi w131 157 (3 : Int32).toNatClampNeg (-1)
  let w133 := qpi w132 157 (4 : Int32).toNatClampNeg (-1)
  let w134 := qpi w133 157 (5 : Int32).toNatClampNeg (-1)
  let w135 := qpr w134 115 73 (157 + 1)
  let w136 := qnw w135
  let w137 := qpr w136 115 74 (158 + 1)
  let w138 := qnw w137
  let w139 := qpr w138 115 75 (159 + 1)
  let w140 := qnw w139
  let w141 := qpr w140 115 76 (160 + 1)
  w141
set_option maxHeartbeats 8000000 in
set_option maxRecDepth 20000 in
theorem i_Mo {d : Nat} {E : qE} {w : qW} (hs0 : w.1 = 116) : Ca (d + 1) M_Mo_init [.ref (qb E + 115)] E w (161) (fun w1 rv => rv = none ∧ w1 = f_Mo w ) := by
  refine Ca.enter rfl (by omega) (Nat.le_of_ble_eq_true rfl) ?_
  rw [hs0]
  refine g_aload_n 0 e_Mo_init_0 rfl rfl ?_
  refine g_objInit e_Mo_init_1 km_Mo_1 (Nat.le_of_ble_eq_true rfl) ?_
  refine g_aload_n 0 e_Mo_init_4 rfl rfl ?_
  refine g_iconst (v := 0) e_Mo_init_5 (by decide) ?_
  refine n_putI (ci := 10) (j := 0) (n := 77) e_Mo_init_6 rfl q_in10 q_tok10 q_nm10 (by decide) ⟨rfl, rfl, rfl⟩ (Or.inl rfl) kf_Mo_7 (by decide) (rfl : qlay 115 = (10, 77)) (by omega) (Or.inl ⟨rfl, rfl⟩) ?_
  generalize ew1 : qpi w 115 0 0 = w1
  have hs1 : w1.1 = 116 := by rw [← ew1]; exact hs0
  refine g_aload_n 0 e_Mo_init_9 rfl rfl ?_
  refine g_iconst (v := 1) e_Mo_init_10 (by decide) ?_
  refine n_putI (ci := 10) (j := 1) (n := 77) e_Mo_init_11 rfl q_in10 q_tok10 q_nm10 (by decide) ⟨rfl, rfl, rfl⟩ (Or.inl rfl) kf_Mo_13 (by decide) (rfl : qlay 115 = (10, 77)) (by omega) (Or.inl ⟨rfl, rfl⟩) ?_
  generalize ew2 : qpi w1 115 1 1 = w2
  have hs2 : w2.1 = 116 := by rw [← ew2]; exact hs1
  refine g_aload_n 0 e_Mo_init_14 rfl rfl ?_
  refine g_iconst (v := 0) e_Mo_init_15 (by decide) ?_
  refine n_putI (ci := 10) (j := 2) (n := 77) e_Mo_init_16 rfl q_in10 q_tok10 q_nm10 (by decide) ⟨rfl, rfl, rfl⟩ (Or.inl rfl) kf_Mo_16 (by decide) (rfl : qlay 115 = (10, 77)) (by omega) (Or.inl ⟨rfl, rfl⟩) ?_
  generalize ew3 : qpi w2 115 2 0 = w3
  have hs3 : w3.1 = 116 := by rw [← ew3]; exact hs2
  refine g_aload_n 0 e_Mo_init_19 rfl rfl ?_
  refine g_iconst (v := 0) e_Mo_init_20 (by decide) ?_
  refine n_putI (ci := 10) (j := 3) (n := 77) e_Mo_init_21 rfl q_in10 q_tok10 q_nm10 (by decide) ⟨rfl, rfl, rfl⟩ (Or.inl rfl) kf_Mo_19 (by decide) (rfl : qlay 115 = (10, 77)) (by omega) (Or.inl ⟨rfl, rfl⟩) ?_
  generalize ew4 : qpi w3 115 3 0 = w4
  have hs4 : w4.1 = 116 := by rw [← ew4]; exact hs3
  refine g_aload_n 0 e_Mo_init_24 rfl rfl ?_
  refine g_iconst (v := 0) e_Mo_init_25 (by decide) ?_
  refine n_putI (ci := 10) (j := 4) (n := 77) e_Mo_init_26 rfl q_in10 q_tok10 q_nm10 (by decide) ⟨rfl, rfl, rfl⟩ (Or.inl rfl) kf_Mo_22 (by decide) (rfl : qlay 115 = (10, 77)) (by omega) (Or.inr ⟨rfl, rfl, by decide⟩) ?_
  generalize ew5 : qpi w4 115 4 0 = w5
  have hs5 : w5.1 = 116 := by rw [← ew5]; exact hs4
  refine g_aload_n 0 e_Mo_init_29 rfl rfl ?_
  refine g_bipush (v := 6) e_Mo_init_30 (by decide) ?_
  refine n_newa (n0 := 6) (ac := 20) (116) hs5 e_Mo_init_32 (Or.inl ⟨rfl, rfl⟩) q_arr_int (by decide) (by decide) (by decide) (rfl : qlay 116 = (20, 6)) (by omega) (by omega) ?_
  generalize ew6 : qnw w5 = w6
  have hs6 : w6.1 = 117 := by rw [← ew6]; show w5.1 + 1 = _; rw [hs5]
  refine n_putR (ci := 10) (j := 5) (n := 77) e_Mo_init_34 rfl q_in10 q_tok10 q_nm10 (by decide) ⟨rfl, rfl, rfl⟩ (Or.inr ⟨rfl, rfl⟩) kf_Mo_26 (by decide) (rfl : qlay 115 = (10, 77)) (by omega) rfl rfl rfl ?_
  generalize ew7 : qpr w6 115 5 (116 + 1) = w7
  have hs7 : w7.1 = 117 := by rw [← ew7]; exact hs6
  refine g_aload_n 0 e_Mo_init_37 rfl rfl ?_
  refine g_bipush (v := 6) e_Mo_init_38 (by decide) ?_
  refine n_newa (n0 := 6) (ac := 20) (117) hs7 e_Mo_init_40 (Or.inl ⟨rfl, rfl⟩) q_arr_int (by decide) (by decide) (by decide) (rfl : qlay 117 = (20, 6)) (by omega) (by omega) ?_
  generalize ew8 : qnw w7 = w8
  have hs8 : w8.1 = 118 := by rw [← ew8]; show w7.1 + 1 = _; rw [hs7]
  refine n_putR (ci := 10) (j := 6) (n := 77) e_Mo_init_42 rfl q_in10 q_tok10 q_nm10 (by decide) ⟨rfl, rfl, rfl⟩ (Or.inr ⟨rfl, rfl⟩) kf_Mo_30 (by decide) (rfl : qlay 115 = (10, 77)) (by omega) rfl rfl rfl ?_
  generalize ew9 : qpr w8 115 6 (117 + 1) = w9
  have hs9 : w9.1 = 118 := by rw [← ew9]; exact hs8
  refine g_aload_n 0 e_Mo_init_45 rfl rfl ?_
  refine g_bipush (v := 6) e_Mo_init_46 (by decide) ?_
  refine n_newa (n0 := 6) (ac := 20) (118) hs9 e_Mo_init_48 (Or.inl ⟨rfl, rfl⟩) q_arr_int (by decide) (by decide) (by decide) (rfl : qlay 118 = (20, 6)) (by omega) (by omega) ?_
  generalize ew10 : qnw w9 = w10
  have hs10 : w10.1 = 119 := by rw [← ew10]; show w9.1 + 1 = _; rw [hs9]
  refine n_putR (ci := 10) (j := 7) (n := 77) e_Mo_init_50 rfl q_in10 q_tok10 q_nm10 (by decide) ⟨rfl, rfl, rfl⟩ (Or.inr ⟨rfl, rfl⟩) kf_Mo_33 (by decide) (rfl : qlay 115 = (10, 77)) (by omega) rfl rfl rfl ?_
  generalize ew11 : qpr w10 115 7 (118 + 1) = w11
  have hs11 : w11.1 = 119 := by rw [← ew11]; exact hs10
  refine g_aload_n 0 e_Mo_init_53 rfl rfl ?_
  refine g_bipush (v := 6) e_Mo_init_54 (by decide) ?_
  refine n_newa (n0 := 6) (ac := 20) (119) hs11 e_Mo_init_56 (Or.inl ⟨rfl, rfl⟩) q_arr_int (by decide) (by decide) (by decide) (rfl : qlay 119 = (20, 6)) (by omega) (by omega) ?_
  generalize ew12 : qnw w11 = w12
  have hs12 : w12.1 = 120 := by rw [← ew12]; show w11.1 + 1 = _; rw [hs11]
  refine n_putR (ci := 10) (j := 8) (n := 77) e_Mo_init_58 rfl q_in10 q_tok10 q_nm10 (by decide) ⟨rfl, rfl, rfl⟩ (Or.inr ⟨rfl, rfl⟩) kf_Mo_36 (by decide) (rfl : qlay 115 = (10, 77)) (by omega) rfl rfl rfl ?_
  generalize ew13 : qpr w12 115 8 (119 + 1) = w13
  have hs13 : w13.1 = 120 := by rw [← ew13]; exact hs12
  refine g_aload_n 0 e_Mo_init_61 rfl rfl ?_
  refine g_bipush (v := 6) e_Mo_init_62 (by decide) ?_
  refine n_newa (n0 := 6) (ac := 20) (120) hs13 e_Mo_init_64 (Or.inl ⟨rfl, rfl⟩) q_arr_int (by decide) (by decide) (by decide) (rfl : qlay 120 = (20, 6)) (by omega) (by omega) ?_
  generalize ew14 : qnw w13 = w14
  have hs14 : w14.1 = 121 := by rw [← ew14]; show w13.1 + 1 = _; rw [hs13]
  refine n_putR (ci := 10) (j := 9) (n := 77) e_Mo_init_66 rfl q_in10 q_tok10 q_nm10 (by decide) ⟨rfl, rfl, rfl⟩ (Or.inr ⟨rfl, rfl⟩) kf_Mo_39 (by decide) (rfl : qlay 115 = (10, 77)) (by omega) rfl rfl rfl ?_
  generalize ew15 : qpr w14 115 9 (120 + 1) = w15
  have hs15 : w15.1 = 121 := by rw [← ew15]; exact hs14
  refine g_aload_n 0 e_Mo_init_69 rfl rfl ?_
  refine g_bipush (v := 6) e_Mo_init_70 (by decide) ?_
  refine n_newa (n0 := 6) (ac := 20) (121) hs15 e_Mo_init_72 (Or.inl ⟨rfl, rfl⟩) q_arr_int (by decide) (by decide) (by decide) (rfl : qlay 121 = (20, 6)) (by omega) (by omega) ?_
  generalize ew16 : qnw w15 = w16
  have hs16 : w16.1 = 122 := by rw [← ew16]; show w15.1 + 1 = _; rw [hs15]
  refine n_putR (ci := 10) (j := 10) (n := 77) e_Mo_init_74 rfl q_in10 q_tok10 q_nm10 (by decide) ⟨rfl, rfl, rfl⟩ (Or.inr ⟨rfl, rfl⟩) kf_Mo_42 (by decide) (rfl : qlay 115 = (10, 77)) (by omega) rfl rfl rfl ?_
  generalize ew17 : qpr w16 115 10 (121 + 1) = w17
  have hs17 : w17.1 = 122 := by rw [← ew17]; exact hs16
  refine g_aload_n 0 e_Mo_init_77 rfl rfl ?_
  refine g_bipush (v := 24) e_Mo_init_78 (by decide) ?_
  refine n_newa (n0 := 24) (ac := 20) (122) hs17 e_Mo_init_80 (Or.inl ⟨rfl, rfl⟩) q_arr_int (by decide) (by decide) (by decide) (rfl : qlay 122 = (20, 24)) (by omega) (by omega) ?_
  generalize ew18 : qnw w17 = w18
  have hs18 : w18.1 = 123 := by rw [← ew18]; show w17.1 + 1 = _; rw [hs17]
  refine n_putR (ci := 10) (j := 11) (n := 77) e_Mo_init_82 rfl q_in10 q_tok10 q_nm10 (by decide) ⟨rfl, rfl, rfl⟩ (Or.inr ⟨rfl, rfl⟩) kf_Mo_45 (by decide) (rfl : qlay 115 = (10, 77)) (by omega) rfl rfl rfl ?_
  generalize ew19 : qpr w18 115 11 (122 + 1) = w19
  have hs19 : w19.1 = 123 := by rw [← ew19]; exact hs18
  refine g_aload_n 0 e_Mo_init_85 rfl rfl ?_
  refine g_iconst (v := 0) e_Mo_init_86 (by decide) ?_
  refine n_putI (ci := 10) (j := 12) (n := 77) e_Mo_init_87 rfl q_in10 q_tok10 q_nm10 (by decide) ⟨rfl, rfl, rfl⟩ (Or.inl rfl) kf_Mo_48 (by decide) (rfl : qlay 115 = (10, 77)) (by omega) (Or.inl ⟨rfl, rfl⟩) ?_
  generalize ew20 : qpi w19 115 12 0 = w20
  have hs20 : w20.1 = 123 := by rw [← ew20]; exact hs19
  refine g_aload_n 0 e_Mo_init_90 rfl rfl ?_
  refine g_iconst (v := (-1)) e_Mo_init_91 (by decide) ?_
  refine n_putI (ci := 10) (j := 13) (n := 77) e_Mo_init_92 rfl q_in10 q_tok10 q_nm10 (by decide) ⟨rfl, rfl, rfl⟩ (Or.inl rfl) kf_Mo_51 (by decide) (rfl : qlay 115 = (10, 77)) (by omega) (Or.inl ⟨rfl, rfl⟩) ?_
  generalize ew21 : qpi w20 115 13 (-1) = w21
  have hs21 : w21.1 = 123 := by rw [← ew21]; exact hs20
  refine g_aload_n 0 e_Mo_init_95 rfl rfl ?_
  refine g_iconst (v := 0) e_Mo_init_96 (by decide) ?_
  refine n_putI (ci := 10) (j := 14) (n := 77) e_Mo_init_97 rfl q_in10 q_tok10 q_nm10 (by decide) ⟨rfl, rfl, rfl⟩ (Or.inl rfl) kf_Mo_54 (by decide) (rfl : qlay 115 = (10, 77)) (by omega) (Or.inl ⟨rfl, rfl⟩) ?_
  generalize ew22 : qpi w21 115 14 0 = w22
  have hs22 : w22.1 = 123 := by rw [← ew22]; exact hs21
  refine g_aload_n 0 e_Mo_init_100 rfl rfl ?_
  refine g_iconst (v := 0) e_Mo_init_101 (by decide) ?_
  refine n_putI (ci := 10) (j := 15) (n := 77) e_Mo_init_102 rfl q_in10 q_tok10 q_nm10 (by decide) ⟨rfl, rfl, rfl⟩ (Or.inl rfl) kf_Mo_57 (by decide) (rfl : qlay 115 = (10, 77)) (by omega) (Or.inl ⟨rfl, rfl⟩) ?_
  generalize ew23 : qpi w22 115 15 0 = w23
  have hs23 : w23.1 = 123 := by rw [← ew23]; exact hs22
  refine g_aload_n 0 e_Mo_init_105 rfl rfl ?_
  refine g_iconst (v := 0) e_Mo_init_106 (by decide) ?_
  refine n_putI (ci := 10) (j := 16) (n := 77) e_Mo_init_107 rfl q_in10 q_tok10 q_nm10 (by decide) ⟨rfl, rfl, rfl⟩ (Or.inl rfl) kf_Mo_60 (by decide) (rfl : qlay 115 = (10, 77)) (by omega) (Or.inl ⟨rfl, rfl⟩) ?_
  generalize ew24 : qpi w23 115 16 0 = w24
  have hs24 : w24.1 = 123 := by rw [← ew24]; exact hs23
  refine g_aload_n 0 e_Mo_init_110 rfl rfl ?_
  refine g_bipush (v := 100) e_Mo_init_111 (by decide) ?_
  refine n_newa (n0 := 100) (ac := 20) (123) hs24 e_Mo_init_113 (Or.inl ⟨rfl, rfl⟩) q_arr_int (by decide) (by decide) (by decide) (rfl : qlay 123 = (20, 100)) (by omega) (by omega) ?_
  generalize ew25 : qnw w24 = w25
  have hs25 : w25.1 = 124 := by rw [← ew25]; show w24.1 + 1 = _; rw [hs24]
  refine n_putR (ci := 10) (j := 17) (n := 77) e_Mo_init_115 rfl q_in10 q_tok10 q_nm10 (by decide) ⟨rfl, rfl, rfl⟩ (Or.inr ⟨rfl, rfl⟩) kf_Mo_63 (by decide) (rfl : qlay 115 = (10, 77)) (by omega) rfl rfl rfl ?_
  generalize ew26 : qpr w25 115 17 (123 + 1) = w26
  have hs26 : w26.1 = 124 := by rw [← ew26]; exact hs25
  refine g_aload_n 0 e_Mo_init_118 rfl rfl ?_
  refine g_bipush (v := 6) e_Mo_init_119 (by decide) ?_
  refine n_newa (n0 := 6) (ac := 20) (124) hs26 e_Mo_init_121 (Or.inl ⟨rfl, rfl⟩) q_arr_int (by decide) (by decide) (by decide) (rfl : qlay 124 = (20, 6)) (by omega) (by omega) ?_
  generalize ew27 : qnw w26 = w27
  have hs27 : w27.1 = 125 := by rw [← ew27]; show w26.1 + 1 = _; rw [hs26]
  refine n_putR (ci := 10) (j := 18) (n := 77) e_Mo_init_123 rfl q_in10 q_tok10 q_nm10 (by decide) ⟨rfl, rfl, rfl⟩ (Or.inr ⟨rfl, rfl⟩) kf_Mo_66 (by decide) (rfl : qlay 115 = (10, 77)) (by omega) rfl rfl rfl ?_
  generalize ew28 : qpr w27 115 18 (124 + 1) = w28
  have hs28 : w28.1 = 125 := by rw [← ew28]; exact hs27
  refine g_aload_n 0 e_Mo_init_126 rfl rfl ?_
  refine g_bipush (v := 60) e_Mo_init_127 (by decide) ?_
  refine n_newa (n0 := 60) (ac := 20) (125) hs28 e_Mo_init_129 (Or.inl ⟨rfl, rfl⟩) q_arr_int (by decide) (by decide) (by decide) (rfl : qlay 125 = (20, 60)) (by omega) (by omega) ?_
  generalize ew29 : qnw w28 = w29
  have hs29 : w29.1 = 126 := by rw [← ew29]; show w28.1 + 1 = _; rw [hs28]
  refine n_putR (ci := 10) (j := 19) (n := 77) e_Mo_init_131 rfl q_in10 q_tok10 q_nm10 (by decide) ⟨rfl, rfl, rfl⟩ (Or.inr ⟨rfl, rfl⟩) kf_Mo_69 (by decide) (rfl : qlay 115 = (10, 77)) (by omega) rfl rfl rfl ?_
  generalize ew30 : qpr w29 115 19 (125 + 1) = w30
  have hs30 : w30.1 = 126 := by rw [← ew30]; exact hs29
  refine g_aload_n 0 e_Mo_init_134 rfl rfl ?_
  refine g_bipush (v := 60) e_Mo_init_135 (by decide) ?_
  refine n_newa (n0 := 60) (ac := 20) (126) hs30 e_Mo_init_137 (Or.inl ⟨rfl, rfl⟩) q_arr_int (by decide) (by decide) (by decide) (rfl : qlay 126 = (20, 60)) (by omega) (by omega) ?_
  generalize ew31 : qnw w30 = w31
  have hs31 : w31.1 = 127 := by rw [← ew31]; show w30.1 + 1 = _; rw [hs30]
  refine n_putR (ci := 10) (j := 20) (n := 77) e_Mo_init_139 rfl q_in10 q_tok10 q_nm10 (by decide) ⟨rfl, rfl, rfl⟩ (Or.inr ⟨rfl, rfl⟩) kf_Mo_72 (by decide) (rfl : qlay 115 = (10, 77)) (by omega) rfl rfl rfl ?_
  generalize ew32 : qpr w31 115 20 (126 + 1) = w32
  have hs32 : w32.1 = 127 := by rw [← ew32]; exact hs31
  refine g_aload_n 0 e_Mo_init_142 rfl rfl ?_
  refine g_bipush (v := 60) e_Mo_init_143 (by decide) ?_
  refine n_newa (n0 := 60) (ac := 20) (127) hs32 e_Mo_init_145 (Or.inl ⟨rfl, rfl⟩) q_arr_int (by decide) (by decide) (by decide) (rfl : qlay 127 = (20, 60)) (by omega) (by omega) ?_
  generalize ew33 : qnw w32 = w33
  have hs33 : w33.1 = 128 := by rw [← ew33]; show w32.1 + 1 = _; rw [hs32]
  refine n_putR (ci := 10) (j := 21) (n := 77) e_Mo_init_147 rfl q_in10 q_tok10 q_nm10 (by decide) ⟨rfl, rfl, rfl⟩ (Or.inr ⟨rfl, rfl⟩) kf_Mo_75 (by decide) (rfl : qlay 115 = (10, 77)) (by omega) rfl rfl rfl ?_
  generalize ew34 : qpr w33 115 21 (127 + 1) = w34
  have hs34 : w34.1 = 128 := by rw [← ew34]; exact hs33
  refine g_aload_n 0 e_Mo_init_150 rfl rfl ?_
  refine g_bipush (v := 60) e_Mo_init_151 (by decide) ?_
  refine n_newa (n0 := 60) (ac := 20) (128) hs34 e_Mo_init_153 (Or.inl ⟨rfl, rfl⟩) q_arr_int (by decide) (by decide) (by decide) (rfl : qlay 128 = (20, 60)) (by omega) (by omega) ?_
  generalize ew35 : qnw w34 = w35
  have hs35 : w35.1 = 129 := by rw [← ew35]; show w34.1 + 1 = _; rw [hs34]
  refine n_putR (ci := 10) (j := 22) (n := 77) e_Mo_init_155 rfl q_in10 q_tok10 q_nm10 (by decide) ⟨rfl, rfl, rfl⟩ (Or.inr ⟨rfl, rfl⟩) kf_Mo_78 (by decide) (rfl : qlay 115 = (10, 77)) (by omega) rfl rfl rfl ?_
  generalize ew36 : qpr w35 115 22 (128 + 1) = w36
  have hs36 : w36.1 = 129 := by rw [← ew36]; exact hs35
  refine g_aload_n 0 e_Mo_init_158 rfl rfl ?_
  refine g_sipush (v := 600) e_Mo_init_159 (by decide) ?_
  refine n_newa (n0 := 600) (ac := 20) (129) hs36 e_Mo_init_162 (Or.inl ⟨rfl, rfl⟩) q_arr_int (by decide) (by decide) (by decide) (rfl : qlay 129 = (20, 600)) (by omega) (by omega) ?_
  generalize ew37 : qnw w36 = w37
  have hs37 : w37.1 = 130 := by rw [← ew37]; show w36.1 + 1 = _; rw [hs36]
  refine n_putR (ci := 10) (j := 23) (n := 77) e_Mo_init_164 rfl q_in10 q_tok10 q_nm10 (by decide) ⟨rfl, rfl, rfl⟩ (Or.inr ⟨rfl, rfl⟩) kf_Mo_81 (by decide) (rfl : qlay 115 = (10, 77)) (by omega) rfl rfl rfl ?_
  generalize ew38 : qpr w37 115 23 (129 + 1) = w38
  have hs38 : w38.1 = 130 := by rw [← ew38]; exact hs37
  refine g_aload_n 0 e_Mo_init_167 rfl rfl ?_
  refine g_bipush (v := 101) e_Mo_init_168 (by decide) ?_
  refine n_newa (n0 := 101) (ac := 20) (130) hs38 e_Mo_init_170 (Or.inl ⟨rfl, rfl⟩) q_arr_int (by decide) (by decide) (by decide) (rfl : qlay 130 = (20, 101)) (by omega) (by omega) ?_
  generalize ew39 : qnw w38 = w39
  have hs39 : w39.1 = 131 := by rw [← ew39]; show w38.1 + 1 = _; rw [hs38]
  refine n_putR (ci := 10) (j := 24) (n := 77) e_Mo_init_172 rfl q_in10 q_tok10 q_nm10 (by decide) ⟨rfl, rfl, rfl⟩ (Or.inr ⟨rfl, rfl⟩) kf_Mo_84 (by decide) (rfl : qlay 115 = (10, 77)) (by omega) rfl rfl rfl ?_
  generalize ew40 : qpr w39 115 24 (130 + 1) = w40
  have hs40 : w40.1 = 131 := by rw [← ew40]; exact hs39
  refine g_aload_n 0 e_Mo_init_175 rfl rfl ?_
  refine g_iconst (v := 0) e_Mo_init_176 (by decide) ?_
  refine n_putI (ci := 10) (j := 25) (n := 77) e_Mo_init_177 rfl q_in10 q_tok10 q_nm10 (by decide) ⟨rfl, rfl, rfl⟩ (Or.inl rfl) kf_Mo_87 (by decide) (rfl : qlay 115 = (10, 77)) (by omega) (Or.inl ⟨rfl, rfl⟩) ?_
  generalize ew41 : qpi w40 115 25 0 = w41
  have hs41 : w41.1 = 131 := by rw [← ew41]; exact hs40
  refine g_aload_n 0 e_Mo_init_180 rfl rfl ?_
  refine g_iconst (v := 0) e_Mo_init_181 (by decide) ?_
  refine n_putI (ci := 10) (j := 26) (n := 77) e_Mo_init_182 rfl q_in10 q_tok10 q_nm10 (by decide) ⟨rfl, rfl, rfl⟩ (Or.inl rfl) kf_Mo_90 (by decide) (rfl : qlay 115 = (10, 77)) (by omega) (Or.inl ⟨rfl, rfl⟩) ?_
  generalize ew42 : qpi w41 115 26 0 = w42
  have hs42 : w42.1 = 131 := by rw [← ew42]; exact hs41
  refine g_aload_n 0 e_Mo_init_185 rfl rfl ?_
  refine g_iconst (v := 0) e_Mo_init_186 (by decide) ?_
  refine n_putI (ci := 10) (j := 27) (n := 77) e_Mo_init_187 rfl q_in10 q_tok10 q_nm10 (by decide) ⟨rfl, rfl, rfl⟩ (Or.inl rfl) kf_Mo_93 (by decide) (rfl : qlay 115 = (10, 77)) (by omega) (Or.inl ⟨rfl, rfl⟩) ?_
  generalize ew43 : qpi w42 115 27 0 = w43
  have hs43 : w43.1 = 131 := by rw [← ew43]; exact hs42
  refine g_aload_n 0 e_Mo_init_190 rfl rfl ?_
  refine g_bipush (v := 13) e_Mo_init_191 (by decide) ?_
  refine n_newa (n0 := 13) (ac := 20) (131) hs43 e_Mo_init_193 (Or.inl ⟨rfl, rfl⟩) q_arr_int (by decide) (by decide) (by decide) (rfl : qlay 131 = (20, 13)) (by omega) (by omega) ?_
  generalize ew44 : qnw w43 = w44
  have hs44 : w44.1 = 132 := by rw [← ew44]; show w43.1 + 1 = _; rw [hs43]
  refine g_dup e_Mo_init_195 rfl ?_
  refine g_iconst (v := 0) e_Mo_init_196 (by decide) ?_
  refine g_bipush (v := 100) e_Mo_init_197 (by decide) ?_
  refine g_iastore e_Mo_init_199 (rfl : qlay 131 = (20, 13)) (by omega) (show vp_in 0 13 by unfold vp_in; decide) ?_
  generalize ew45 : qpi w44 131 (0 : Int32).toNatClampNeg 100 = w45
  have hs45 : w45.1 = 132 := by rw [← ew45]; exact hs44
  refine g_dup e_Mo_init_200 rfl ?_
  refine g_iconst (v := 1) e_Mo_init_201 (by decide) ?_
  refine g_bipush (v := 97) e_Mo_init_202 (by decide) ?_
  refine g_iastore e_Mo_init_204 (rfl : qlay 131 = (20, 13)) (by omega) (show vp_in 1 13 by unfold vp_in; decide) ?_
  generalize ew46 : qpi w45 131 (1 : Int32).toNatClampNeg 97 = w46
  have hs46 : w46.1 = 132 := by rw [← ew46]; exact hs45
  refine g_dup e_Mo_init_205 rfl ?_
  refine g_iconst (v := 2) e_Mo_init_206 (by decide) ?_
  refine g_bipush (v := 114) e_Mo_init_207 (by decide) ?_
  refine g_iastore e_Mo_init_209 (rfl : qlay 131 = (20, 13)) (by omega) (show vp_in 2 13 by unfold vp_in; decide) ?_
  generalize ew47 : qpi w46 131 (2 : Int32).toNatClampNeg 114 = w47
  have hs47 : w47.1 = 132 := by rw [← ew47]; exact hs46
  refine g_dup e_Mo_init_210 rfl ?_
  refine g_iconst (v := 3) e_Mo_init_211 (by decide) ?_
  refine g_bipush (v := 107) e_Mo_init_212 (by decide) ?_
  refine g_iastore e_Mo_init_214 (rfl : qlay 131 = (20, 13)) (by omega) (show vp_in 3 13 by unfold vp_in; decide) ?_
  generalize ew48 : qpi w47 131 (3 : Int32).toNatClampNeg 107 = w48
  have hs48 : w48.1 = 132 := by rw [← ew48]; exact hs47
  refine g_dup e_Mo_init_215 rfl ?_
  refine g_iconst (v := 4) e_Mo_init_216 (by decide) ?_
  refine g_bipush (v := 99) e_Mo_init_217 (by decide) ?_
  refine g_iastore e_Mo_init_219 (rfl : qlay 131 = (20, 13)) (by omega) (show vp_in 4 13 by unfold vp_in; decide) ?_
  generalize ew49 : qpi w48 131 (4 : Int32).toNatClampNeg 99 = w49
  have hs49 : w49.1 = 132 := by rw [← ew49]; exact hs48
  refine g_dup e_Mo_init_220 rfl ?_
  refine g_iconst (v := 5) e_Mo_init_221 (by decide) ?_
  refine g_bipush (v := 108) e_Mo_init_222 (by decide) ?_
  refine g_iastore e_Mo_init_224 (rfl : qlay 131 = (20, 13)) (by omega) (show vp_in 5 13 by unfold vp_in; decide) ?_
  generalize ew50 : qpi w49 131 (5 : Int32).toNatClampNeg 108 = w50
  have hs50 : w50.1 = 132 := by rw [← ew50]; exact hs49
  refine g_dup e_Mo_init_225 rfl ?_
  refine g_bipush (v := 6) e_Mo_init_226 (by decide) ?_
  refine g_bipush (v := 101) e_Mo_init_228 (by decide) ?_
  refine g_iastore e_Mo_init_230 (rfl : qlay 131 = (20, 13)) (by omega) (show vp_in 6 13 by unfold vp_in; decide) ?_
  generalize ew51 : qpi w50 131 (6 : Int32).toNatClampNeg 101 = w51
  have hs51 : w51.1 = 132 := by rw [← ew51]; exact hs50
  refine g_dup e_Mo_init_231 rfl ?_
  refine g_bipush (v := 7) e_Mo_init_232 (by decide) ?_
  refine g_bipush (v := 97) e_Mo_init_234 (by decide) ?_
  refine g_iastore e_Mo_init_236 (rfl : qlay 131 = (20, 13)) (by omega) (show vp_in 7 13 by unfold vp_in; decide) ?_
  generalize ew52 : qpi w51 131 (7 : Int32).toNatClampNeg 97 = w52
  have hs52 : w52.1 = 132 := by rw [← ew52]; exact hs51
  refine g_dup e_Mo_init_237 rfl ?_
  refine g_bipush (v := 8) e_Mo_init_238 (by decide) ?_
  refine g_bipush (v := 114) e_Mo_init_240 (by decide) ?_
  refine g_iastore e_Mo_init_242 (rfl : qlay 131 = (20, 13)) (by omega) (show vp_in 8 13 by unfold vp_in; decide) ?_
  generalize ew53 : qpi w52 131 (8 : Int32).toNatClampNeg 114 = w53
  have hs53 : w53.1 = 132 := by rw [← ew53]; exact hs52
  refine g_dup e_Mo_init_243 rfl ?_
  refine g_bipush (v := 9) e_Mo_init_244 (by decide) ?_
  refine g_bipush (v := 110) e_Mo_init_246 (by decide) ?_
  refine g_iastore e_Mo_init_248 (rfl : qlay 131 = (20, 13)) (by omega) (show vp_in 9 13 by unfold vp_in; decide) ?_
  generalize ew54 : qpi w53 131 (9 : Int32).toNatClampNeg 110 = w54
  have hs54 : w54.1 = 132 := by rw [← ew54]; exact hs53
  refine g_dup e_Mo_init_249 rfl ?_
  refine g_bipush (v := 10) e_Mo_init_250 (by decide) ?_
  refine g_bipush (v := 101) e_Mo_init_252 (by decide) ?_
  refine g_iastore e_Mo_init_254 (rfl : qlay 131 = (20, 13)) (by omega) (show vp_in 10 13 by unfold vp_in; decide) ?_
  generalize ew55 : qpi w54 131 (10 : Int32).toNatClampNeg 101 = w55
  have hs55 : w55.1 = 132 := by rw [← ew55]; exact hs54
  refine g_dup e_Mo_init_255 rfl ?_
  refine g_bipush (v := 11) e_Mo_init_256 (by decide) ?_
  refine g_bipush (v := 101) e_Mo_init_258 (by decide) ?_
  refine g_iastore e_Mo_init_260 (rfl : qlay 131 = (20, 13)) (by omega) (show vp_in 11 13 by unfold vp_in; decide) ?_
  generalize ew56 : qpi w55 131 (11 : Int32).toNatClampNeg 101 = w56
  have hs56 : w56.1 = 132 := by rw [← ew56]; exact hs55
  refine g_dup e_Mo_init_261 rfl ?_
  refine g_bipush (v := 12) e_Mo_init_262 (by decide) ?_
  refine g_bipush (v := 100) e_Mo_init_264 (by decide) ?_
  refine g_iastore e_Mo_init_266 (rfl : qlay 131 = (20, 13)) (by omega) (show vp_in 12 13 by unfold vp_in; decide) ?_
  generalize ew57 : qpi w56 131 (12 : Int32).toNatClampNeg 100 = w57
  have hs57 : w57.1 = 132 := by rw [← ew57]; exact hs56
  refine n_putR (ci := 10) (j := 28) (n := 77) e_Mo_init_267 rfl q_in10 q_tok10 q_nm10 (by decide) ⟨rfl, rfl, rfl⟩ (Or.inr ⟨rfl, rfl⟩) kf_Mo_96 (by decide) (rfl : qlay 115 = (10, 77)) (by omega) rfl rfl rfl ?_
  generalize ew58 : qpr w57 115 28 (131 + 1) = w58
  have hs58 : w58.1 = 132 := by rw [← ew58]; exact hs57
  refine g_aload_n 0 e_Mo_init_270 rfl rfl ?_
  refine g_bipush (v := 100) e_Mo_init_271 (by decide) ?_
  refine n_newa (n0 := 100) (ac := 22) (132) hs58 e_Mo_init_273 (Or.inr (Or.inr ⟨rfl, rfl⟩)) q_arr_boolean (by decide) (by decide) (by decide) (rfl : qlay 132 = (22, 100)) (by omega) (by omega) ?_
  generalize ew59 : qnw w58 = w59
  have hs59 : w59.1 = 133 := by rw [← ew59]; show w58.1 + 1 = _; rw [hs58]
  refine n_putR (ci := 10) (j := 29) (n := 77) e_Mo_init_275 rfl q_in10 q_tok10 q_nm10 (by decide) ⟨rfl, rfl, rfl⟩ (Or.inr ⟨rfl, rfl⟩) kf_Mo_99 (by decide) (rfl : qlay 115 = (10, 77)) (by omega) rfl rfl rfl ?_
  generalize ew60 : qpr w59 115 29 (132 + 1) = w60
  have hs60 : w60.1 = 133 := by rw [← ew60]; exact hs59
  refine g_aload_n 0 e_Mo_init_278 rfl rfl ?_
  refine g_sipush (v := 9999) e_Mo_init_279 (by decide) ?_
  refine n_putI (ci := 10) (j := 30) (n := 77) e_Mo_init_282 rfl q_in10 q_tok10 q_nm10 (by decide) ⟨rfl, rfl, rfl⟩ (Or.inl rfl) kf_Mo_103 (by decide) (rfl : qlay 115 = (10, 77)) (by omega) (Or.inl ⟨rfl, rfl⟩) ?_
  generalize ew61 : qpi w60 115 30 9999 = w61
  have hs61 : w61.1 = 133 := by rw [← ew61]; exact hs60
  refine g_aload_n 0 e_Mo_init_285 rfl rfl ?_
  refine g_iconst (v := 0) e_Mo_init_286 (by decide) ?_
  refine n_putI (ci := 10) (j := 31) (n := 77) e_Mo_init_287 rfl q_in10 q_tok10 q_nm10 (by decide) ⟨rfl, rfl, rfl⟩ (Or.inl rfl) kf_Mo_106 (by decide) (rfl : qlay 115 = (10, 77)) (by omega) (Or.inl ⟨rfl, rfl⟩) ?_
  generalize ew62 : qpi w61 115 31 0 = w62
  have hs62 : w62.1 = 133 := by rw [← ew62]; exact hs61
  refine g_aload_n 0 e_Mo_init_290 rfl rfl ?_
  refine g_iconst (v := 0) e_Mo_init_291 (by decide) ?_
  refine n_putI (ci := 10) (j := 32) (n := 77) e_Mo_init_292 rfl q_in10 q_tok10 q_nm10 (by decide) ⟨rfl, rfl, rfl⟩ (Or.inl rfl) kf_Mo_109 (by decide) (rfl : qlay 115 = (10, 77)) (by omega) (Or.inl ⟨rfl, rfl⟩) ?_
  generalize ew63 : qpi w62 115 32 0 = w63
  have hs63 : w63.1 = 133 := by rw [← ew63]; exact hs62
  refine g_aload_n 0 e_Mo_init_295 rfl rfl ?_
  refine g_iconst (v := 0) e_Mo_init_296 (by decide) ?_
  refine n_putI (ci := 10) (j := 33) (n := 77) e_Mo_init_297 rfl q_in10 q_tok10 q_nm10 (by decide) ⟨rfl, rfl, rfl⟩ (Or.inl rfl) kf_Mo_112 (by decide) (rfl : qlay 115 = (10, 77)) (by omega) (Or.inl ⟨rfl, rfl⟩) ?_
  generalize ew64 : qpi w63 115 33 0 = w64
  have hs64 : w64.1 = 133 := by rw [← ew64]; exact hs63
  refine g_aload_n 0 e_Mo_init_300 rfl rfl ?_
  refine g_iconst (v := 0) e_Mo_init_301 (by decide) ?_
  refine n_putI (ci := 10) (j := 34) (n := 77) e_Mo_init_302 rfl q_in10 q_tok10 q_nm10 (by decide) ⟨rfl, rfl, rfl⟩ (Or.inl rfl) kf_Mo_115 (by decide) (rfl : qlay 115 = (10, 77)) (by omega) (Or.inr ⟨rfl, rfl, by decide⟩) ?_
  generalize ew65 : qpi w64 115 34 0 = w65
  have hs65 : w65.1 = 133 := by rw [← ew65]; exact hs64
  refine g_aload_n 0 e_Mo_init_305 rfl rfl ?_
  refine g_bipush (v := 6) e_Mo_init_306 (by decide) ?_
  refine n_newa (n0 := 6) (ac := 20) (133) hs65 e_Mo_init_308 (Or.inl ⟨rfl, rfl⟩) q_arr_int (by decide) (by decide) (by decide) (rfl : qlay 133 = (20, 6)) (by omega) (by omega) ?_
  generalize ew66 : qnw w65 = w66
  have hs66 : w66.1 = 134 := by rw [← ew66]; show w65.1 + 1 = _; rw [hs65]
  refine n_putR (ci := 10) (j := 35) (n := 77) e_Mo_init_310 rfl q_in10 q_tok10 q_nm10 (by decide) ⟨rfl, rfl, rfl⟩ (Or.inr ⟨rfl, rfl⟩) kf_Mo_118 (by decide) (rfl : qlay 115 = (10, 77)) (by omega) rfl rfl rfl ?_
  generalize ew67 : qpr w66 115 35 (133 + 1) = w67
  have hs67 : w67.1 = 134 := by rw [← ew67]; exact hs66
  refine g_aload_n 0 e_Mo_init_313 rfl rfl ?_
  refine g_bipush (v := 6) e_Mo_init_314 (by decide) ?_
  refine n_newa (n0 := 6) (ac := 20) (134) hs67 e_Mo_init_316 (Or.inl ⟨rfl, rfl⟩) q_arr_int (by decide) (by decide) (by decide) (rfl : qlay 134 = (20, 6)) (by omega) (by omega) ?_
  generalize ew68 : qnw w67 = w68
  have hs68 : w68.1 = 135 := by rw [← ew68]; show w67.1 + 1 = _; rw [hs67]
  refine n_putR (ci := 10) (j := 36) (n := 77) e_Mo_init_318 rfl q_in10 q_tok10 q_nm10 (by decide) ⟨rfl, rfl, rfl⟩ (Or.inr ⟨rfl, rfl⟩) kf_Mo_121 (by decide) (rfl : qlay 115 = (10, 77)) (by omega) rfl rfl rfl ?_
  generalize ew69 : qpr w68 115 36 (134 + 1) = w69
  have hs69 : w69.1 = 135 := by rw [← ew69]; exact hs68
  refine g_aload_n 0 e_Mo_init_321 rfl rfl ?_
  refine g_iconst (v := 3) e_Mo_init_322 (by decide) ?_
  refine n_newa (n0 := 3) (ac := 20) (135) hs69 e_Mo_init_323 (Or.inl ⟨rfl, rfl⟩) q_arr_int (by decide) (by decide) (by decide) (rfl : qlay 135 = (20, 3)) (by omega) (by omega) ?_
  generalize ew70 : qnw w69 = w70
  have hs70 : w70.1 = 136 := by rw [← ew70]; show w69.1 + 1 = _; rw [hs69]
  refine n_putR (ci := 10) (j := 37) (n := 77) e_Mo_init_325 rfl q_in10 q_tok10 q_nm10 (by decide) ⟨rfl, rfl, rfl⟩ (Or.inr ⟨rfl, rfl⟩) kf_Mo_124 (by decide) (rfl : qlay 115 = (10, 77)) (by omega) rfl rfl rfl ?_
  generalize ew71 : qpr w70 115 37 (135 + 1) = w71
  have hs71 : w71.1 = 136 := by rw [← ew71]; exact hs70
  refine g_aload_n 0 e_Mo_init_328 rfl rfl ?_
  refine g_iconst (v := 3) e_Mo_init_329 (by decide) ?_
  refine n_newa (n0 := 3) (ac := 20) (136) hs71 e_Mo_init_330 (Or.inl ⟨rfl, rfl⟩) q_arr_int (by decide) (by decide) (by decide) (rfl : qlay 136 = (20, 3)) (by omega) (by omega) ?_
  generalize ew72 : qnw w71 = w72
  have hs72 : w72.1 = 137 := by rw [← ew72]; show w71.1 + 1 = _; rw [hs71]
  refine n_putR (ci := 10) (j := 38) (n := 77) e_Mo_init_332 rfl q_in10 q_tok10 q_nm10 (by decide) ⟨rfl, rfl, rfl⟩ (Or.inr ⟨rfl, rfl⟩) kf_Mo_127 (by decide) (rfl : qlay 115 = (10, 77)) (by omega) rfl rfl rfl ?_
  generalize ew73 : qpr w72 115 38 (136 + 1) = w73
  have hs73 : w73.1 = 137 := by rw [← ew73]; exact hs72
  refine g_aload_n 0 e_Mo_init_335 rfl rfl ?_
  refine g_iconst (v := 0) e_Mo_init_336 (by decide) ?_
  refine n_putI (ci := 10) (j := 39) (n := 77) e_Mo_init_337 rfl q_in10 q_tok10 q_nm10 (by decide) ⟨rfl, rfl, rfl⟩ (Or.inl rfl) kf_Mo_130 (by decide) (rfl : qlay 115 = (10, 77)) (by omega) (Or.inl ⟨rfl, rfl⟩) ?_
  generalize ew74 : qpi w73 115 39 0 = w74
  have hs74 : w74.1 = 137 := by rw [← ew74]; exact hs73
  refine g_aload_n 0 e_Mo_init_340 rfl rfl ?_
  refine g_iconst (v := 5) e_Mo_init_341 (by decide) ?_
  refine n_newa (n0 := 5) (ac := 20) (137) hs74 e_Mo_init_342 (Or.inl ⟨rfl, rfl⟩) q_arr_int (by decide) (by decide) (by decide) (rfl : qlay 137 = (20, 5)) (by omega) (by omega) ?_
  generalize ew75 : qnw w74 = w75
  have hs75 : w75.1 = 138 := by rw [← ew75]; show w74.1 + 1 = _; rw [hs74]
  refine n_putR (ci := 10) (j := 40) (n := 77) e_Mo_init_344 rfl q_in10 q_tok10 q_nm10 (by decide) ⟨rfl, rfl, rfl⟩ (Or.inr ⟨rfl, rfl⟩) kf_Mo_133 (by decide) (rfl : qlay 115 = (10, 77)) (by omega) rfl rfl rfl ?_
  generalize ew76 : qpr w75 115 40 (137 + 1) = w76
  have hs76 : w76.1 = 138 := by rw [← ew76]; exact hs75
  refine g_aload_n 0 e_Mo_init_347 rfl rfl ?_
  refine g_iconst (v := 5) e_Mo_init_348 (by decide) ?_
  refine n_newa (n0 := 5) (ac := 20) (138) hs76 e_Mo_init_349 (Or.inl ⟨rfl, rfl⟩) q_arr_int (by decide) (by decide) (by decide) (rfl : qlay 138 = (20, 5)) (by omega) (by omega) ?_
  generalize ew77 : qnw w76 = w77
  have hs77 : w77.1 = 139 := by rw [← ew77]; show w76.1 + 1 = _; rw [hs76]
  refine n_putR (ci := 10) (j := 41) (n := 77) e_Mo_init_351 rfl q_in10 q_tok10 q_nm10 (by decide) ⟨rfl, rfl, rfl⟩ (Or.inr ⟨rfl, rfl⟩) kf_Mo_136 (by decide) (rfl : qlay 115 = (10, 77)) (by omega) rfl rfl rfl ?_
  generalize ew78 : qpr w77 115 41 (138 + 1) = w78
  have hs78 : w78.1 = 139 := by rw [← ew78]; exact hs77
  refine g_aload_n 0 e_Mo_init_354 rfl rfl ?_
  refine g_iconst (v := 0) e_Mo_init_355 (by decide) ?_
  refine n_putI (ci := 10) (j := 42) (n := 77) e_Mo_init_356 rfl q_in10 q_tok10 q_nm10 (by decide) ⟨rfl, rfl, rfl⟩ (Or.inl rfl) kf_Mo_139 (by decide) (rfl : qlay 115 = (10, 77)) (by omega) (Or.inl ⟨rfl, rfl⟩) ?_
  generalize ew79 : qpi w78 115 42 0 = w79
  have hs79 : w79.1 = 139 := by rw [← ew79]; exact hs78
  refine g_aload_n 0 e_Mo_init_359 rfl rfl ?_
  refine g_iconst (v := 0) e_Mo_init_360 (by decide) ?_
  refine n_putI (ci := 10) (j := 43) (n := 77) e_Mo_init_361 rfl q_in10 q_tok10 q_nm10 (by decide) ⟨rfl, rfl, rfl⟩ (Or.inl rfl) kf_Mo_142 (by decide) (rfl : qlay 115 = (10, 77)) (by omega) (Or.inl ⟨rfl, rfl⟩) ?_
  generalize ew80 : qpi w79 115 43 0 = w80
  have hs80 : w80.1 = 139 := by rw [← ew80]; exact hs79
  refine g_aload_n 0 e_Mo_init_364 rfl rfl ?_
  refine g_bipush (v := 10) e_Mo_init_365 (by decide) ?_
  refine n_newa (n0 := 10) (ac := 20) (139) hs80 e_Mo_init_367 (Or.inl ⟨rfl, rfl⟩) q_arr_int (by decide) (by decide) (by decide) (rfl : qlay 139 = (20, 10)) (by omega) (by omega) ?_
  generalize ew81 : qnw w80 = w81
  have hs81 : w81.1 = 140 := by rw [← ew81]; show w80.1 + 1 = _; rw [hs80]
  refine n_putR (ci := 10) (j := 44) (n := 77) e_Mo_init_369 rfl q_in10 q_tok10 q_nm10 (by decide) ⟨rfl, rfl, rfl⟩ (Or.inr ⟨rfl, rfl⟩) kf_Mo_145 (by decide) (rfl : qlay 115 = (10, 77)) (by omega) rfl rfl rfl ?_
  generalize ew82 : qpr w81 115 44 (139 + 1) = w82
  have hs82 : w82.1 = 140 := by rw [← ew82]; exact hs81
  refine g_aload_n 0 e_Mo_init_372 rfl rfl ?_
  refine g_bipush (v := 10) e_Mo_init_373 (by decide) ?_
  refine n_newa (n0 := 10) (ac := 20) (140) hs82 e_Mo_init_375 (Or.inl ⟨rfl, rfl⟩) q_arr_int (by decide) (by decide) (by decide) (rfl : qlay 140 = (20, 10)) (by omega) (by omega) ?_
  generalize ew83 : qnw w82 = w83
  have hs83 : w83.1 = 141 := by rw [← ew83]; show w82.1 + 1 = _; rw [hs82]
  refine n_putR (ci := 10) (j := 45) (n := 77) e_Mo_init_377 rfl q_in10 q_tok10 q_nm10 (by decide) ⟨rfl, rfl, rfl⟩ (Or.inr ⟨rfl, rfl⟩) kf_Mo_148 (by decide) (rfl : qlay 115 = (10, 77)) (by omega) rfl rfl rfl ?_
  generalize ew84 : qpr w83 115 45 (140 + 1) = w84
  have hs84 : w84.1 = 141 := by rw [← ew84]; exact hs83
  refine g_aload_n 0 e_Mo_init_380 rfl rfl ?_
  refine g_bipush (v := 8) e_Mo_init_381 (by decide) ?_
  refine n_newa (n0 := 8) (ac := 20) (141) hs84 e_Mo_init_383 (Or.inl ⟨rfl, rfl⟩) q_arr_int (by decide) (by decide) (by decide) (rfl : qlay 141 = (20, 8)) (by omega) (by omega) ?_
  generalize ew85 : qnw w84 = w85
  have hs85 : w85.1 = 142 := by rw [← ew85]; show w84.1 + 1 = _; rw [hs84]
  refine n_putR (ci := 10) (j := 46) (n := 77) e_Mo_init_385 rfl q_in10 q_tok10 q_nm10 (by decide) ⟨rfl, rfl, rfl⟩ (Or.inr ⟨rfl, rfl⟩) kf_Mo_151 (by decide) (rfl : qlay 115 = (10, 77)) (by omega) rfl rfl rfl ?_
  generalize ew86 : qpr w85 115 46 (141 + 1) = w86
  have hs86 : w86.1 = 142 := by rw [← ew86]; exact hs85
  refine g_aload_n 0 e_Mo_init_388 rfl rfl ?_
  refine g_bipush (v := 8) e_Mo_init_389 (by decide) ?_
  refine n_newa (n0 := 8) (ac := 20) (142) hs86 e_Mo_init_391 (Or.inl ⟨rfl, rfl⟩) q_arr_int (by decide) (by decide) (by decide) (rfl : qlay 142 = (20, 8)) (by omega) (by omega) ?_
  generalize ew87 : qnw w86 = w87
  have hs87 : w87.1 = 143 := by rw [← ew87]; show w86.1 + 1 = _; rw [hs86]
  refine n_putR (ci := 10) (j := 47) (n := 77) e_Mo_init_393 rfl q_in10 q_tok10 q_nm10 (by decide) ⟨rfl, rfl, rfl⟩ (Or.inr ⟨rfl, rfl⟩) kf_Mo_154 (by decide) (rfl : qlay 115 = (10, 77)) (by omega) rfl rfl rfl ?_
  generalize ew88 : qpr w87 115 47 (142 + 1) = w88
  have hs88 : w88.1 = 143 := by rw [← ew88]; exact hs87
  refine g_aload_n 0 e_Mo_init_396 rfl rfl ?_
  refine g_iconst (v := 0) e_Mo_init_397 (by decide) ?_
  refine n_putI (ci := 10) (j := 48) (n := 77) e_Mo_init_398 rfl q_in10 q_tok10 q_nm10 (by decide) ⟨rfl, rfl, rfl⟩ (Or.inl rfl) kf_Mo_157 (by decide) (rfl : qlay 115 = (10, 77)) (by omega) (Or.inr ⟨rfl, rfl, by decide⟩) ?_
  generalize ew89 : qpi w88 115 48 0 = w89
  have hs89 : w89.1 = 143 := by rw [← ew89]; exact hs88
  refine g_aload_n 0 e_Mo_init_401 rfl rfl ?_
  refine g_iconst (v := 0) e_Mo_init_402 (by decide) ?_
  refine n_putI (ci := 10) (j := 49) (n := 77) e_Mo_init_403 rfl q_in10 q_tok10 q_nm10 (by decide) ⟨rfl, rfl, rfl⟩ (Or.inl rfl) kf_Mo_160 (by decide) (rfl : qlay 115 = (10, 77)) (by omega) (Or.inr ⟨rfl, rfl, by decide⟩) ?_
  generalize ew90 : qpi w89 115 49 0 = w90
  have hs90 : w90.1 = 143 := by rw [← ew90]; exact hs89
  refine g_aload_n 0 e_Mo_init_406 rfl rfl ?_
  refine g_iconst (v := (-1)) e_Mo_init_407 (by decide) ?_
  refine n_putI (ci := 10) (j := 50) (n := 77) e_Mo_init_408 rfl q_in10 q_tok10 q_nm10 (by decide) ⟨rfl, rfl, rfl⟩ (Or.inl rfl) kf_Mo_163 (by decide) (rfl : qlay 115 = (10, 77)) (by omega) (Or.inl ⟨rfl, rfl⟩) ?_
  generalize ew91 : qpi w90 115 50 (-1) = w91
  have hs91 : w91.1 = 143 := by rw [← ew91]; exact hs90
  refine g_aload_n 0 e_Mo_init_411 rfl rfl ?_
  refine g_iconst (v := 0) e_Mo_init_412 (by decide) ?_
  refine n_putI (ci := 10) (j := 51) (n := 77) e_Mo_init_413 rfl q_in10 q_tok10 q_nm10 (by decide) ⟨rfl, rfl, rfl⟩ (Or.inl rfl) kf_Mo_166 (by decide) (rfl : qlay 115 = (10, 77)) (by omega) (Or.inl ⟨rfl, rfl⟩) ?_
  generalize ew92 : qpi w91 115 51 0 = w92
  have hs92 : w92.1 = 143 := by rw [← ew92]; exact hs91
  refine g_aload_n 0 e_Mo_init_416 rfl rfl ?_
  refine g_iconst (v := 0) e_Mo_init_417 (by decide) ?_
  refine n_putI (ci := 10) (j := 52) (n := 77) e_Mo_init_418 rfl q_in10 q_tok10 q_nm10 (by decide) ⟨rfl, rfl, rfl⟩ (Or.inl rfl) kf_Mo_169 (by decide) (rfl : qlay 115 = (10, 77)) (by omega) (Or.inl ⟨rfl, rfl⟩) ?_
  generalize ew93 : qpi w92 115 52 0 = w93
  have hs93 : w93.1 = 143 := by rw [← ew93]; exact hs92
  refine g_aload_n 0 e_Mo_init_421 rfl rfl ?_
  refine g_iconst (v := 0) e_Mo_init_422 (by decide) ?_
  refine n_putI (ci := 10) (j := 53) (n := 77) e_Mo_init_423 rfl q_in10 q_tok10 q_nm10 (by decide) ⟨rfl, rfl, rfl⟩ (Or.inl rfl) kf_Mo_172 (by decide) (rfl : qlay 115 = (10, 77)) (by omega) (Or.inl ⟨rfl, rfl⟩) ?_
  generalize ew94 : qpi w93 115 53 0 = w94
  have hs94 : w94.1 = 143 := by rw [← ew94]; exact hs93
  refine g_aload_n 0 e_Mo_init_426 rfl rfl ?_
  refine g_iconst (v := 0) e_Mo_init_427 (by decide) ?_
  refine n_putI (ci := 10) (j := 54) (n := 77) e_Mo_init_428 rfl q_in10 q_tok10 q_nm10 (by decide) ⟨rfl, rfl, rfl⟩ (Or.inl rfl) kf_Mo_175 (by decide) (rfl : qlay 115 = (10, 77)) (by omega) (Or.inl ⟨rfl, rfl⟩) ?_
  generalize ew95 : qpi w94 115 54 0 = w95
  have hs95 : w95.1 = 143 := by rw [← ew95]; exact hs94
  refine g_aload_n 0 e_Mo_init_431 rfl rfl ?_
  refine g_iconst (v := 0) e_Mo_init_432 (by decide) ?_
  refine n_putI (ci := 10) (j := 55) (n := 77) e_Mo_init_433 rfl q_in10 q_tok10 q_nm10 (by decide) ⟨rfl, rfl, rfl⟩ (Or.inl rfl) kf_Mo_178 (by decide) (rfl : qlay 115 = (10, 77)) (by omega) (Or.inl ⟨rfl, rfl⟩) ?_
  generalize ew96 : qpi w95 115 55 0 = w96
  have hs96 : w96.1 = 143 := by rw [← ew96]; exact hs95
  refine g_aload_n 0 e_Mo_init_436 rfl rfl ?_
  refine g_iconst (v := 0) e_Mo_init_437 (by decide) ?_
  refine n_putI (ci := 10) (j := 56) (n := 77) e_Mo_init_438 rfl q_in10 q_tok10 q_nm10 (by decide) ⟨rfl, rfl, rfl⟩ (Or.inl rfl) kf_Mo_181 (by decide) (rfl : qlay 115 = (10, 77)) (by omega) (Or.inl ⟨rfl, rfl⟩) ?_
  generalize ew97 : qpi w96 115 56 0 = w97
  have hs97 : w97.1 = 143 := by rw [← ew97]; exact hs96
  refine g_aload_n 0 e_Mo_init_441 rfl rfl ?_
  refine g_iconst (v := 0) e_Mo_init_442 (by decide) ?_
  refine n_putI (ci := 10) (j := 57) (n := 77) e_Mo_init_443 rfl q_in10 q_tok10 q_nm10 (by decide) ⟨rfl, rfl, rfl⟩ (Or.inl rfl) kf_Mo_184 (by decide) (rfl : qlay 115 = (10, 77)) (by omega) (Or.inl ⟨rfl, rfl⟩) ?_
  generalize ew98 : qpi w97 115 57 0 = w98
  have hs98 : w98.1 = 143 := by rw [← ew98]; exact hs97
  refine g_aload_n 0 e_Mo_init_446 rfl rfl ?_
  refine g_bipush (v := 6) e_Mo_init_447 (by decide) ?_
  refine n_newa (n0 := 6) (ac := 20) (143) hs98 e_Mo_init_449 (Or.inl ⟨rfl, rfl⟩) q_arr_int (by decide) (by decide) (by decide) (rfl : qlay 143 = (20, 6)) (by omega) (by omega) ?_
  generalize ew99 : qnw w98 = w99
  have hs99 : w99.1 = 144 := by rw [← ew99]; show w98.1 + 1 = _; rw [hs98]
  refine n_putR (ci := 10) (j := 58) (n := 77) e_Mo_init_451 rfl q_in10 q_tok10 q_nm10 (by decide) ⟨rfl, rfl, rfl⟩ (Or.inr ⟨rfl, rfl⟩) kf_Mo_187 (by decide) (rfl : qlay 115 = (10, 77)) (by omega) rfl rfl rfl ?_
  generalize ew100 : qpr w99 115 58 (143 + 1) = w100
  have hs100 : w100.1 = 144 := by rw [← ew100]; exact hs99
  refine g_aload_n 0 e_Mo_init_454 rfl rfl ?_
  refine g_bipush (v := 6) e_Mo_init_455 (by decide) ?_
  refine n_newa (n0 := 6) (ac := 20) (144) hs100 e_Mo_init_457 (Or.inl ⟨rfl, rfl⟩) q_arr_int (by decide) (by decide) (by decide) (rfl : qlay 144 = (20, 6)) (by omega) (by omega) ?_
  generalize ew101 : qnw w100 = w101
  have hs101 : w101.1 = 145 := by rw [← ew101]; show w100.1 + 1 = _; rw [hs100]
  refine n_putR (ci := 10) (j := 59) (n := 77) e_Mo_init_459 rfl q_in10 q_tok10 q_nm10 (by decide) ⟨rfl, rfl, rfl⟩ (Or.inr ⟨rfl, rfl⟩) kf_Mo_190 (by decide) (rfl : qlay 115 = (10, 77)) (by omega) rfl rfl rfl ?_
  generalize ew102 : qpr w101 115 59 (144 + 1) = w102
  have hs102 : w102.1 = 145 := by rw [← ew102]; exact hs101
  refine g_aload_n 0 e_Mo_init_462 rfl rfl ?_
  refine g_bipush (v := 6) e_Mo_init_463 (by decide) ?_
  refine n_newa (n0 := 6) (ac := 20) (145) hs102 e_Mo_init_465 (Or.inl ⟨rfl, rfl⟩) q_arr_int (by decide) (by decide) (by decide) (rfl : qlay 145 = (20, 6)) (by omega) (by omega) ?_
  generalize ew103 : qnw w102 = w103
  have hs103 : w103.1 = 146 := by rw [← ew103]; show w102.1 + 1 = _; rw [hs102]
  refine n_putR (ci := 10) (j := 60) (n := 77) e_Mo_init_467 rfl q_in10 q_tok10 q_nm10 (by decide) ⟨rfl, rfl, rfl⟩ (Or.inr ⟨rfl, rfl⟩) kf_Mo_193 (by decide) (rfl : qlay 115 = (10, 77)) (by omega) rfl rfl rfl ?_
  generalize ew104 : qpr w103 115 60 (145 + 1) = w104
  have hs104 : w104.1 = 146 := by rw [← ew104]; exact hs103
  refine g_aload_n 0 e_Mo_init_470 rfl rfl ?_
  refine g_bipush (v := 6) e_Mo_init_471 (by decide) ?_
  refine n_newa (n0 := 6) (ac := 20) (146) hs104 e_Mo_init_473 (Or.inl ⟨rfl, rfl⟩) q_arr_int (by decide) (by decide) (by decide) (rfl : qlay 146 = (20, 6)) (by omega) (by omega) ?_
  generalize ew105 : qnw w104 = w105
  have hs105 : w105.1 = 147 := by rw [← ew105]; show w104.1 + 1 = _; rw [hs104]
  refine n_putR (ci := 10) (j := 61) (n := 77) e_Mo_init_475 rfl q_in10 q_tok10 q_nm10 (by decide) ⟨rfl, rfl, rfl⟩ (Or.inr ⟨rfl, rfl⟩) kf_Mo_196 (by decide) (rfl : qlay 115 = (10, 77)) (by omega) rfl rfl rfl ?_
  generalize ew106 : qpr w105 115 61 (146 + 1) = w106
  have hs106 : w106.1 = 147 := by rw [← ew106]; exact hs105
  refine g_aload_n 0 e_Mo_init_478 rfl rfl ?_
  refine g_bipush (v := 6) e_Mo_init_479 (by decide) ?_
  refine n_newa (n0 := 6) (ac := 20) (147) hs106 e_Mo_init_481 (Or.inl ⟨rfl, rfl⟩) q_arr_int (by decide) (by decide) (by decide) (rfl : qlay 147 = (20, 6)) (by omega) (by omega) ?_
  generalize ew107 : qnw w106 = w107
  have hs107 : w107.1 = 148 := by rw [← ew107]; show w106.1 + 1 = _; rw [hs106]
  refine n_putR (ci := 10) (j := 62) (n := 77) e_Mo_init_483 rfl q_in10 q_tok10 q_nm10 (by decide) ⟨rfl, rfl, rfl⟩ (Or.inr ⟨rfl, rfl⟩) kf_Mo_199 (by decide) (rfl : qlay 115 = (10, 77)) (by omega) rfl rfl rfl ?_
  generalize ew108 : qpr w107 115 62 (147 + 1) = w108
  have hs108 : w108.1 = 148 := by rw [← ew108]; exact hs107
  refine g_aload_n 0 e_Mo_init_486 rfl rfl ?_
  refine g_bipush (v := 6) e_Mo_init_487 (by decide) ?_
  refine n_newa (n0 := 6) (ac := 20) (148) hs108 e_Mo_init_489 (Or.inl ⟨rfl, rfl⟩) q_arr_int (by decide) (by decide) (by decide) (rfl : qlay 148 = (20, 6)) (by omega) (by omega) ?_
  generalize ew109 : qnw w108 = w109
  have hs109 : w109.1 = 149 := by rw [← ew109]; show w108.1 + 1 = _; rw [hs108]
  refine n_putR (ci := 10) (j := 63) (n := 77) e_Mo_init_491 rfl q_in10 q_tok10 q_nm10 (by decide) ⟨rfl, rfl, rfl⟩ (Or.inr ⟨rfl, rfl⟩) kf_Mo_202 (by decide) (rfl : qlay 115 = (10, 77)) (by omega) rfl rfl rfl ?_
  generalize ew110 : qpr w109 115 63 (148 + 1) = w110
  have hs110 : w110.1 = 149 := by rw [← ew110]; exact hs109
  refine g_aload_n 0 e_Mo_init_494 rfl rfl ?_
  refine g_bipush (v := 24) e_Mo_init_495 (by decide) ?_
  refine n_newa (n0 := 24) (ac := 20) (149) hs110 e_Mo_init_497 (Or.inl ⟨rfl, rfl⟩) q_arr_int (by decide) (by decide) (by decide) (rfl : qlay 149 = (20, 24)) (by omega) (by omega) ?_
  generalize ew111 : qnw w110 = w111
  have hs111 : w111.1 = 150 := by rw [← ew111]; show w110.1 + 1 = _; rw [hs110]
  refine n_putR (ci := 10) (j := 64) (n := 77) e_Mo_init_499 rfl q_in10 q_tok10 q_nm10 (by decide) ⟨rfl, rfl, rfl⟩ (Or.inr ⟨rfl, rfl⟩) kf_Mo_205 (by decide) (rfl : qlay 115 = (10, 77)) (by omega) rfl rfl rfl ?_
  generalize ew112 : qpr w111 115 64 (149 + 1) = w112
  have hs112 : w112.1 = 150 := by rw [← ew112]; exact hs111
  refine g_aload_n 0 e_Mo_init_502 rfl rfl ?_
  refine g_iconst (v := 5) e_Mo_init_503 (by decide) ?_
  refine n_newa (n0 := 5) (ac := 20) (150) hs112 e_Mo_init_504 (Or.inl ⟨rfl, rfl⟩) q_arr_int (by decide) (by decide) (by decide) (rfl : qlay 150 = (20, 5)) (by omega) (by omega) ?_
  generalize ew113 : qnw w112 = w113
  have hs113 : w113.1 = 151 := by rw [← ew113]; show w112.1 + 1 = _; rw [hs112]
  refine n_putR (ci := 10) (j := 65) (n := 77) e_Mo_init_506 rfl q_in10 q_tok10 q_nm10 (by decide) ⟨rfl, rfl, rfl⟩ (Or.inr ⟨rfl, rfl⟩) kf_Mo_208 (by decide) (rfl : qlay 115 = (10, 77)) (by omega) rfl rfl rfl ?_
  generalize ew114 : qpr w113 115 65 (150 + 1) = w114
  have hs114 : w114.1 = 151 := by rw [← ew114]; exact hs113
  refine g_aload_n 0 e_Mo_init_509 rfl rfl ?_
  refine g_iconst (v := 5) e_Mo_init_510 (by decide) ?_
  refine n_newa (n0 := 5) (ac := 20) (151) hs114 e_Mo_init_511 (Or.inl ⟨rfl, rfl⟩) q_arr_int (by decide) (by decide) (by decide) (rfl : qlay 151 = (20, 5)) (by omega) (by omega) ?_
  generalize ew115 : qnw w114 = w115
  have hs115 : w115.1 = 152 := by rw [← ew115]; show w114.1 + 1 = _; rw [hs114]
  refine n_putR (ci := 10) (j := 66) (n := 77) e_Mo_init_513 rfl q_in10 q_tok10 q_nm10 (by decide) ⟨rfl, rfl, rfl⟩ (Or.inr ⟨rfl, rfl⟩) kf_Mo_211 (by decide) (rfl : qlay 115 = (10, 77)) (by omega) rfl rfl rfl ?_
  generalize ew116 : qpr w115 115 66 (151 + 1) = w116
  have hs116 : w116.1 = 152 := by rw [← ew116]; exact hs115
  refine g_aload_n 0 e_Mo_init_516 rfl rfl ?_
  refine g_bipush (v := 10) e_Mo_init_517 (by decide) ?_
  refine n_newa (n0 := 10) (ac := 20) (152) hs116 e_Mo_init_519 (Or.inl ⟨rfl, rfl⟩) q_arr_int (by decide) (by decide) (by decide) (rfl : qlay 152 = (20, 10)) (by omega) (by omega) ?_
  generalize ew117 : qnw w116 = w117
  have hs117 : w117.1 = 153 := by rw [← ew117]; show w116.1 + 1 = _; rw [hs116]
  refine n_putR (ci := 10) (j := 67) (n := 77) e_Mo_init_521 rfl q_in10 q_tok10 q_nm10 (by decide) ⟨rfl, rfl, rfl⟩ (Or.inr ⟨rfl, rfl⟩) kf_Mo_214 (by decide) (rfl : qlay 115 = (10, 77)) (by omega) rfl rfl rfl ?_
  generalize ew118 : qpr w117 115 67 (152 + 1) = w118
  have hs118 : w118.1 = 153 := by rw [← ew118]; exact hs117
  refine g_aload_n 0 e_Mo_init_524 rfl rfl ?_
  refine g_bipush (v := 10) e_Mo_init_525 (by decide) ?_
  refine n_newa (n0 := 10) (ac := 20) (153) hs118 e_Mo_init_527 (Or.inl ⟨rfl, rfl⟩) q_arr_int (by decide) (by decide) (by decide) (rfl : qlay 153 = (20, 10)) (by omega) (by omega) ?_
  generalize ew119 : qnw w118 = w119
  have hs119 : w119.1 = 154 := by rw [← ew119]; show w118.1 + 1 = _; rw [hs118]
  refine n_putR (ci := 10) (j := 68) (n := 77) e_Mo_init_529 rfl q_in10 q_tok10 q_nm10 (by decide) ⟨rfl, rfl, rfl⟩ (Or.inr ⟨rfl, rfl⟩) kf_Mo_217 (by decide) (rfl : qlay 115 = (10, 77)) (by omega) rfl rfl rfl ?_
  generalize ew120 : qpr w119 115 68 (153 + 1) = w120
  have hs120 : w120.1 = 154 := by rw [← ew120]; exact hs119
  refine g_aload_n 0 e_Mo_init_532 rfl rfl ?_
  refine g_bipush (v := 8) e_Mo_init_533 (by decide) ?_
  refine n_newa (n0 := 8) (ac := 20) (154) hs120 e_Mo_init_535 (Or.inl ⟨rfl, rfl⟩) q_arr_int (by decide) (by decide) (by decide) (rfl : qlay 154 = (20, 8)) (by omega) (by omega) ?_
  generalize ew121 : qnw w120 = w121
  have hs121 : w121.1 = 155 := by rw [← ew121]; show w120.1 + 1 = _; rw [hs120]
  refine n_putR (ci := 10) (j := 69) (n := 77) e_Mo_init_537 rfl q_in10 q_tok10 q_nm10 (by decide) ⟨rfl, rfl, rfl⟩ (Or.inr ⟨rfl, rfl⟩) kf_Mo_220 (by decide) (rfl : qlay 115 = (10, 77)) (by omega) rfl rfl rfl ?_
  generalize ew122 : qpr w121 115 69 (154 + 1) = w122
  have hs122 : w122.1 = 155 := by rw [← ew122]; exact hs121
  refine g_aload_n 0 e_Mo_init_540 rfl rfl ?_
  refine g_bipush (v := 8) e_Mo_init_541 (by decide) ?_
  refine n_newa (n0 := 8) (ac := 20) (155) hs122 e_Mo_init_543 (Or.inl ⟨rfl, rfl⟩) q_arr_int (by decide) (by decide) (by decide) (rfl : qlay 155 = (20, 8)) (by omega) (by omega) ?_
  generalize ew123 : qnw w122 = w123
  have hs123 : w123.1 = 156 := by rw [← ew123]; show w122.1 + 1 = _; rw [hs122]
  refine n_putR (ci := 10) (j := 70) (n := 77) e_Mo_init_545 rfl q_in10 q_tok10 q_nm10 (by decide) ⟨rfl, rfl, rfl⟩ (Or.inr ⟨rfl, rfl⟩) kf_Mo_223 (by decide) (rfl : qlay 115 = (10, 77)) (by omega) rfl rfl rfl ?_
  generalize ew124 : qpr w123 115 70 (155 + 1) = w124
  have hs124 : w124.1 = 156 := by rw [← ew124]; exact hs123
  refine g_aload_n 0 e_Mo_init_548 rfl rfl ?_
  refine g_iconst (v := 0) e_Mo_init_549 (by decide) ?_
  refine n_putI (ci := 10) (j := 71) (n := 77) e_Mo_init_550 rfl q_in10 q_tok10 q_nm10 (by decide) ⟨rfl, rfl, rfl⟩ (Or.inl rfl) kf_Mo_226 (by decide) (rfl : qlay 115 = (10, 77)) (by omega) (Or.inl ⟨rfl, rfl⟩) ?_
  generalize ew125 : qpi w124 115 71 0 = w125
  have hs125 : w125.1 = 156 := by rw [← ew125]; exact hs124
  refine g_aload_n 0 e_Mo_init_553 rfl rfl ?_
  refine g_bipush (v := 20) e_Mo_init_554 (by decide) ?_
  refine n_newa (n0 := 20) (ac := 20) (156) hs125 e_Mo_init_556 (Or.inl ⟨rfl, rfl⟩) q_arr_int (by decide) (by decide) (by decide) (rfl : qlay 156 = (20, 20)) (by omega) (by omega) ?_
  generalize ew126 : qnw w125 = w126
  have hs126 : w126.1 = 157 := by rw [← ew126]; show w125.1 + 1 = _; rw [hs125]
  refine n_putR (ci := 10) (j := 72) (n := 77) e_Mo_init_558 rfl q_in10 q_tok10 q_nm10 (by decide) ⟨rfl, rfl, rfl⟩ (Or.inr ⟨rfl, rfl⟩) kf_Mo_229 (by decide) (rfl : qlay 115 = (10, 77)) (by omega) rfl rfl rfl ?_
  generalize ew127 : qpr w126 115 72 (156 + 1) = w127
  have hs127 : w127.1 = 157 := by rw [← ew127]; exact hs126
  refine g_aload_n 0 e_Mo_init_561 rfl rfl ?_
  refine g_bipush (v := 6) e_Mo_init_562 (by decide) ?_
  refine n_newa (n0 := 6) (ac := 20) (157) hs127 e_Mo_init_564 (Or.inl ⟨rfl, rfl⟩) q_arr_int (by decide) (by decide) (by decide) (rfl : qlay 157 = (20, 6)) (by omega) (by omega) ?_
  generalize ew128 : qnw w127 = w128
  have hs128 : w128.1 = 158 := by rw [← ew128]; show w127.1 + 1 = _; rw [hs127]
  refine g_dup e_Mo_init_566 rfl ?_
  refine g_iconst (v := 0) e_Mo_init_567 (by decide) ?_
  refine g_iconst (v := (-1)) e_Mo_init_568 (by decide) ?_
  refine g_iastore e_Mo_init_569 (rfl : qlay 157 = (20, 6)) (by omega) (show vp_in 0 6 by unfold vp_in; decide) ?_
  generalize ew129 : qpi w128 157 (0 : Int32).toNatClampNeg (-1) = w129
  have hs129 : w129.1 = 158 := by rw [← ew129]; exact hs128
  refine g_dup e_Mo_init_570 rfl ?_
  refine g_iconst (v := 1) e_Mo_init_571 (by decide) ?_
  refine g_iconst (v := (-1)) e_Mo_init_572 (by decide) ?_
  refine g_iastore e_Mo_init_573 (rfl : qlay 157 = (20, 6)) (by omega) (show vp_in 1 6 by unfold vp_in; decide) ?_
  generalize ew130 : qpi w129 157 (1 : Int32).toNatClampNeg (-1) = w130
  have hs130 : w130.1 = 158 := by rw [← ew130]; exact hs129
  refine g_dup e_Mo_init_574 rfl ?_
  refine g_iconst (v := 2) e_Mo_init_575 (by decide) ?_
  refine g_iconst (v := (-1)) e_Mo_init_576 (by decide) ?_
  refine g_iastore e_Mo_init_577 (rfl : qlay 157 = (20, 6)) (by omega) (show vp_in 2 6 by unfold vp_in; decide) ?_
  generalize ew131 : qpi w130 157 (2 : Int32).toNatClampNeg (-1) = w131
  have hs131 : w131.1 = 158 := by rw [← ew131]; exact hs130
  refine g_dup e_Mo_init_578 rfl ?_
  refine g_iconst (v := 3) e_Mo_init_579 (by decide) ?_
  refine g_iconst (v := (-1)) e_Mo_init_580 (by decide) ?_
  refine g_iastore e_Mo_init_581 (rfl : qlay 157 = (20, 6)) (by omega) (show vp_in 3 6 by unfold vp_in; decide) ?_
  generalize ew132 : qpi w131 157 (3 : Int32).toNatClampNeg (-1) = w132
  have hs132 : w132.1 = 158 := by rw [← ew132]; exact hs131
  refine g_dup e_Mo_init_582 rfl ?_
  refine g_iconst (v := 4) e_Mo_init_583 (by decide) ?_
  refine g_iconst (v := (-1)) e_Mo_init_584 (by decide) ?_
  refine g_iastore e_Mo_init_585 (rfl : qlay 157 = (20, 6)) (by omega) (show vp_in 4 6 by unfold vp_in; decide) ?_
  generalize ew133 : qpi w132 157 (4 : Int32).toNatClampNeg (-1) = w133
  have hs133 : w133.1 = 158 := by rw [← ew133]; exact hs132
  refine g_dup e_Mo_init_586 rfl ?_
  refine g_iconst (v := 5) e_Mo_init_587 (by decide) ?_
  refine g_iconst (v := (-1)) e_Mo_init_588 (by decide) ?_
  refine g_iastore e_Mo_init_589 (rfl : qlay 157 = (20, 6)) (by omega) (show vp_in 5 6 by unfold vp_in; decide) ?_
  generalize ew134 : qpi w133 157 (5 : Int32).toNatClampNeg (-1) = w134
  have hs134 : w134.1 = 158 := by rw [← ew134]; exact hs133
  refine n_putR (ci := 10) (j := 73) (n := 77) e_Mo_init_590 rfl q_in10 q_tok10 q_nm10 (by decide) ⟨rfl, rfl, rfl⟩ (Or.inr ⟨rfl, rfl⟩) kf_Mo_232 (by decide) (rfl : qlay 115 = (10, 77)) (by omega) rfl rfl rfl ?_
  generalize ew135 : qpr w134 115 73 (157 + 1) = w135
  have hs135 : w135.1 = 158 := by rw [← ew135]; exact hs134
  refine g_aload_n 0 e_Mo_init_593 rfl rfl ?_
  refine g_bipush (v := 6) e_Mo_init_594 (by decide) ?_
  refine n_newa (n0 := 6) (ac := 20) (158) hs135 e_Mo_init_596 (Or.inl ⟨rfl, rfl⟩) q_arr_int (by decide) (by decide) (by decide) (rfl : qlay 158 = (20, 6)) (by omega) (by omega) ?_
  generalize ew136 : qnw w135 = w136
  have hs136 : w136.1 = 159 := by rw [← ew136]; show w135.1 + 1 = _; rw [hs135]
  refine n_putR (ci := 10) (j := 74) (n := 77) e_Mo_init_598 rfl q_in10 q_tok10 q_nm10 (by decide) ⟨rfl, rfl, rfl⟩ (Or.inr ⟨rfl, rfl⟩) kf_Mo_235 (by decide) (rfl : qlay 115 = (10, 77)) (by omega) rfl rfl rfl ?_
  generalize ew137 : qpr w136 115 74 (158 + 1) = w137
  have hs137 : w137.1 = 159 := by rw [← ew137]; exact hs136
  refine g_aload_n 0 e_Mo_init_601 rfl rfl ?_
  refine g_sipush (v := 360) e_Mo_init_602 (by decide) ?_
  refine n_newa (n0 := 360) (ac := 21) (159) hs137 e_Mo_init_605 (Or.inr (Or.inl ⟨rfl, rfl⟩)) q_arr_long (by decide) (by decide) (by decide) (rfl : qlay 159 = (21, 360)) (by omega) (by omega) ?_
  generalize ew138 : qnw w137 = w138
  have hs138 : w138.1 = 160 := by rw [← ew138]; show w137.1 + 1 = _; rw [hs137]
  refine n_putR (ci := 10) (j := 75) (n := 77) e_Mo_init_607 rfl q_in10 q_tok10 q_nm10 (by decide) ⟨rfl, rfl, rfl⟩ (Or.inr ⟨rfl, rfl⟩) kf_Mo_238 (by decide) (rfl : qlay 115 = (10, 77)) (by omega) rfl rfl rfl ?_
  generalize ew139 : qpr w138 115 75 (159 + 1) = w139
  have hs139 : w139.1 = 160 := by rw [← ew139]; exact hs138
  refine g_aload_n 0 e_Mo_init_610 rfl rfl ?_
  refine g_bipush (v := 60) e_Mo_init_611 (by decide) ?_
  refine n_newa (n0 := 60) (ac := 21) (160) hs139 e_Mo_init_613 (Or.inr (Or.inl ⟨rfl, rfl⟩)) q_arr_long (by decide) (by decide) (by decide) (rfl : qlay 160 = (21, 60)) (by omega) (by omega) ?_
  generalize ew140 : qnw w139 = w140
  have hs140 : w140.1 = 161 := by rw [← ew140]; show w139.1 + 1 = _; rw [hs139]
  refine n_putR (ci := 10) (j := 76) (n := 77) e_Mo_init_615 rfl q_in10 q_tok10 q_nm10 (by decide) ⟨rfl, rfl, rfl⟩ (Or.inr ⟨rfl, rfl⟩) kf_Mo_242 (by decide) (rfl : qlay 115 = (10, 77)) (by omega) rfl rfl rfl ?_
  generalize ew141 : qpr w140 115 76 (160 + 1) = w141
  have hs141 : w141.1 = 161 := by rw [← ew141]; exact hs140
  refine g_vret e_Mo_init_618 rfl ⟨hs141, rfl, ?_⟩
  subst_vars
  rfl
