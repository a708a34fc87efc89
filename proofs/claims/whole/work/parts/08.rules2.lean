theorem q_native : Cond.native ⟨"java/lang/System", "arraycopy", "(Ljava/lang/Object;ILjava/lang/Object;II)V"⟩ ∈ qG := qG_t2 122 rfl rfl
theorem q_static : Cond.static ⟨"java/lang/System", "arraycopy", "(Ljava/lang/Object;ILjava/lang/Object;II)V"⟩ ∈ qG := qG_t2 121 rfl rfl
theorem q_objI : Cond.instanceMethod ⟨"java/lang/Object", "<init>", "()V"⟩ ∈ qG := qG_t1 25 rfl rfl
theorem q_objC : Cond.code Lib.objectInit ⟨#[0xb1]⟩ 1 none ∈ qG := qG_t1 26 rfl rfl
theorem q_arr_int : Cond.arrayClass .int ∈ qG := qG_t1 52 rfl rfl
theorem q_arr_long : Cond.arrayClass .long ∈ qG := qG_t2 38 rfl rfl
theorem q_arr_boolean : Cond.arrayClass .boolean ∈ qG := qG_t5 83 rfl rfl
section GR2
variable {d : Nat} {M : qM} {E : qE} {N0 N1 : Nat} {F : qW → Option Value → Prop} {pc : Nat} {loc : List (Nat × Value)} {rest : List Value} {w : qW}
theorem g_iaload {k n : Nat} {i : Int32} (hd : decode M.2.1 pc = .ok (.iaload, 1)) (hlay : qlay k = (20, n)) (hk : k < w.1) (hin : vp_in i n) (kk : Go d M E N0 N1 F (pc + 1) loc (.int (qi w k i.toNatClampNeg) :: rest) w) : Go d M E N0 N1 F pc loc (.int i :: .ref (qb E + k) :: rest) w := by
  intro p l e R s m args below meth c Z X H locs ls h1 h2 h3 h4 h5
  exact va_iald (tys := qtys E) X.1 X.2.1 X.2.2.2.2.2.2.1.1 h1.2 k 0 ((qLs_get hk).trans (by rw [qcell_i hlay])) rfl hin hd (kk p l e R s m args below meth c Z X H locs ls h1 h2 h3 h4 h5)
theorem g_laload {k n : Nat} {i : Int32} (hd : decode M.2.1 pc = .ok (.laload, 1)) (hlay : qlay k = (21, n)) (hk : k < w.1) (hin : vp_in i n) (kk : Go d M E N0 N1 F (pc + 1) loc (.long (ql w k i.toNatClampNeg) :: rest) w) : Go d M E N0 N1 F pc loc (.int i :: .ref (qb E + k) :: rest) w := by
  intro p l e R s m args below meth c Z X H locs ls h1 h2 h3 h4 h5
  exact va_lald (tys := qtys E) X.1 X.2.1 X.2.2.2.2.2.2.1.1 h1.2 k 1 ((qLs_get hk).trans (by rw [qcell_l hlay])) rfl hin hd (kk p l e R s m args below meth c Z X H locs ls h1 h2 h3 h4 h5)
theorem g_baload {k n : Nat} {i : Int32} (hd : decode M.2.1 pc = .ok (.baload, 1)) (hlay : qlay k = (22, n)) (hk : k < w.1) (hin : vp_in i n) (kk : Go d M E N0 N1 F (pc + 1) loc (.int (qz (qi w k i.toNatClampNeg)) :: rest) w) : Go d M E N0 N1 F pc loc (.int i :: .ref (qb E + k) :: rest) w := by
  intro p l e R s m args below meth c Z X H locs ls h1 h2 h3 h4 h5
  exact va_zald (tys := qtys E) X.1 X.2.1 X.2.2.2.2.2.2.1.1 h1.2 k 2 ((qLs_get hk).trans (by rw [qcell_z hlay])) rfl hin hd (kk p l e R s m args below meth c Z X H locs ls h1 h2 h3 h4 h5)
theorem g_aaload {k n c k0 : Nat} {i : Int32} (hd : decode M.2.1 pc = .ok (.aaload, 1)) (hlay : qlay k = (c, n)) (hc : c = 23 ∨ c = 24 ∨ c = 25) (hk : k < w.1) (hin : vp_in i n) (hr : qr w k i.toNatClampNeg = k0 + 1) (kk : Go d M E N0 N1 F (pc + 1) loc (.ref (qb E + k0) :: rest) w) : Go d M E N0 N1 F pc loc (.int i :: .ref (qb E + k) :: rest) w := by
  intro p l e R s m args below meth c Z X H locs ls h1 h2 h3 h4 h5
  have hv : va_rf (qro E (qr w k i.toNatClampNeg)) = .ref (qb E + k0) := by rw [hr]; rfl
  have kk' := kk p l e R s m args below meth c Z X H locs ls h1 h2 h3 h4 h5
  rw [← hv] at kk'
  rcases hc with rfl | rfl | rfl
  · exact va_aldq (tys := qtys E) X.1 X.2.1 X.2.2.2.2.2.2.1.1 h1.2 k 3 ((qLs_get hk).trans (by rw [qcell_q hlay (by decide)])) rfl hin hd kk'
  · exact va_aldq (tys := qtys E) X.1 X.2.1 X.2.2.2.2.2.2.1.1 h1.2 k 4 ((qLs_get hk).trans (by rw [qcell_q hlay (by decide)])) rfl hin hd kk'
  · exact va_aldq (tys := qtys E) X.1 X.2.1 X.2.2.2.2.2.2.1.1 h1.2 k 5 ((qLs_get hk).trans (by rw [qcell_q hlay (by decide)])) rfl hin hd kk'
theorem g_alen {k n c : Nat} (hd : decode M.2.1 pc = .ok (.arraylength, 1)) (hlay : qlay k = (c, n)) (hc : c = 20 ∨ c = 21 ∨ c = 22 ∨ c = 23 ∨ c = 24 ∨ c = 25) (hk : k < w.1) {v : Int32} (hv : Int32.ofNat n = v) (kk : Go d M E N0 N1 F (pc + 1) loc (.int v :: rest) w) : Go d M E N0 N1 F pc loc (.ref (qb E + k) :: rest) w := by
  intro p l e R s m args below meth c Z X H locs ls h1 h2 h3 h4 h5
  rcases hc with rfl | rfl | rfl | rfl | rfl | rfl
  · exact va_alen (tys := qtys E) X.1 X.2.1 X.2.2.2.2.2.2.1.1 h1.2 k 0 ((qLs_get hk).trans (by rw [qcell_i hlay])) rfl hv hd (kk p l e R s m args below meth c Z X H locs ls h1 h2 h3 h4 h5)
  · exact va_alen (tys := qtys E) X.1 X.2.1 X.2.2.2.2.2.2.1.1 h1.2 k 1 ((qLs_get hk).trans (by rw [qcell_l hlay])) rfl hv hd (kk p l e R s m args below meth c Z X H locs ls h1 h2 h3 h4 h5)
  · exact va_alen (tys := qtys E) X.1 X.2.1 X.2.2.2.2.2.2.1.1 h1.2 k 2 ((qLs_get hk).trans (by rw [qcell_z hlay])) rfl hv hd (kk p l e R s m args below meth c Z X H locs ls h1 h2 h3 h4 h5)
  · exact va_alen (tys := qtys E) X.1 X.2.1 X.2.2.2.2.2.2.1.1 h1.2 k 3 ((qLs_get hk).trans (by rw [qcell_q hlay (by decide)])) rfl hv hd (kk p l e R s m args below meth c Z X H locs ls h1 h2 h3 h4 h5)
  · exact va_alen (tys := qtys E) X.1 X.2.1 X.2.2.2.2.2.2.1.1 h1.2 k 4 ((qLs_get hk).trans (by rw [qcell_q hlay (by decide)])) rfl hv hd (kk p l e R s m args below meth c Z X H locs ls h1 h2 h3 h4 h5)
  · exact va_alen (tys := qtys E) X.1 X.2.1 X.2.2.2.2.2.2.1.1 h1.2 k 5 ((qLs_get hk).trans (by rw [qcell_q hlay (by decide)])) rfl hv hd (kk p l e R s m args below meth c Z X H locs ls h1 h2 h3 h4 h5)
theorem qupd_i {w : qW} {k j : Nat} {x : Int32} : qi (qpi w k j x) k = upd (qi w k) j x := by
  funext a
  by_cases h : a = j
  · subst h; simp [qi, qpi, upd]
  · simp [qi, qpi, upd, h]
theorem qupd_l {w : qW} {k j : Nat} {x : Int64} : ql (qpl w k j x) k = vp_updL (ql w k) j x := by
  funext a
  by_cases h : a = j
  · subst h; simp [ql, qpl, vp_updL]
  · simp [ql, qpl, vp_updL, h]
theorem g_iastore {k n : Nat} {i x : Int32} (hd : decode M.2.1 pc = .ok (.iastore, 1)) (hlay : qlay k = (20, n)) (hk : k < w.1) (hin : vp_in i n) (kk : Go d M E N0 N1 F (pc + 1) loc rest (qpi w k i.toNatClampNeg x)) : Go d M E N0 N1 F pc loc (.int x :: .int i :: .ref (qb E + k) :: rest) w := by
  intro p l e0 R s m args below meth c Z X H locs ls h1 h2 h3 h4 h5
  have he : (qLs E w)[k]? = some (qb E + k, .inl (qA E 0, n, .inl (qi w k))) := (qLs_get hk).trans (by rw [qcell_i hlay])
  refine W.iast X.1 X.2.1 (h1.2 k _ he) ((X.2.2.2.2.2.2.1.1.2 0 _ rfl).1 n (fun j => .int (qi w k j))) (fun q => by cases q) (by show ¬ (i < 0 ∨ (arrV _ _ _).slots.size ≤ _); rw [arrV_size]; exact hin) rfl rfl hd fun H1 e z oq => ?_
  have hP2 := h1.2.set qDs he (e := .inl (qA E 0, n, .inl (upd (qi w k) i.toNatClampNeg x))) (by
    show H1[qb E + k]? = some (vp_cell _ _)
    rw [e]
    rw [vp_cell_i, vp_cell_i, arrV_store]
    congr 2
    funext q
    by_cases hq : q = i.toNatClampNeg
    · subst hq
      simp [updV, upd]
    · simp [updV, upd, hq]) oq
  exact kk p l e0 R s m args below meth c Z X H1 _ ls (qset_wd h1 hk rfl z (by rw [qcell_i hlay, qupd_i]) (fun j hj => qcell_pi hj) hP2) h2 h3 (h4.put z oq (Nat.le_add_right _ _)) h5
theorem g_lastore {k n : Nat} {i : Int32} {x : Int64} (hd : decode M.2.1 pc = .ok (.lastore, 1)) (hlay : qlay k = (21, n)) (hk : k < w.1) (hin : vp_in i n) (kk : Go d M E N0 N1 F (pc + 1) loc rest (qpl w k i.toNatClampNeg x)) : Go d M E N0 N1 F pc loc (.long x :: .int i :: .ref (qb E + k) :: rest) w := by
  intro p l e0 R s m args below meth c Z X H locs ls h1 h2 h3 h4 h5
  have he : (qLs E w)[k]? = some (qb E + k, .inl (qA E 1, n, .inr (.inl (ql w k)))) := (qLs_get hk).trans (by rw [qcell_l hlay])
  refine W.last X.1 X.2.1 (h1.2 k _ he) ((X.2.2.2.2.2.2.1.1.2 1 _ rfl).1 n (fun j => .long (ql w k j))) (fun q => by cases q) (by show ¬ (i < 0 ∨ (arrV _ _ _).slots.size ≤ _); rw [arrV_size]; exact hin) rfl rfl hd fun H1 e z oq => ?_
  have hP2 := h1.2.set qDs he (e := .inl (qA E 1, n, .inr (.inl (vp_updL (ql w k) i.toNatClampNeg x)))) (by
    show H1[qb E + k]? = some (vp_cell _ _)
    rw [e]
    rw [vp_cell_l, vp_cell_l, arrV_store]
    congr 2
    funext q
    by_cases hq : q = i.toNatClampNeg
    · subst hq
      simp [updV, vp_updL]
    · simp [updV, vp_updL, hq]) oq
  exact kk p l e0 R s m args below meth c Z X H1 _ ls (qset_wd h1 hk rfl z (by rw [qcell_l hlay, qupd_l]) (fun j hj => qcell_pl hj) hP2) h2 h3 (h4.put z oq (Nat.le_add_right _ _)) h5
theorem g_bastore {k n : Nat} {i x : Int32} (hd : decode M.2.1 pc = .ok (.bastore, 1)) (hlay : qlay k = (22, n)) (hk : k < w.1) (hin : vp_in i n) (hx : x = 0 ∨ x = 1) (kk : Go d M E N0 N1 F (pc + 1) loc rest (qpi w k i.toNatClampNeg x)) : Go d M E N0 N1 F pc loc (.int x :: .int i :: .ref (qb E + k) :: rest) w := by
  intro p l e0 R s m args below meth c Z X H locs ls h1 h2 h3 h4 h5
  have he : (qLs E w)[k]? = some (qb E + k, .inl (qA E 2, n, .inl (fun j => qz (qi w k j)))) := (qLs_get hk).trans (by rw [qcell_z hlay])
  have hxz : vp_nar .boolean x = x := by rcases hx with rfl | rfl <;> rfl
  refine W.zast X.1 X.2.1 (h1.2 k _ he) ((X.2.2.2.2.2.2.1.1.2 2 _ rfl).1 n (fun j => .int (qz (qi w k j)))) (fun q => by cases q) (by show ¬ (i < 0 ∨ (arrV _ _ _).slots.size ≤ _); rw [arrV_size]; exact hin) rfl rfl hd fun H1 e z oq => ?_
  have hP2 := h1.2.set qDs he (e := .inl (qA E 2, n, .inl (upd (fun j => qz (qi w k j)) i.toNatClampNeg x))) (by
    show H1[qb E + k]? = some (vp_cell _ _)
    rw [e]
    rw [vp_cell_i, vp_cell_i, arrV_store]
    congr 2
    funext q
    by_cases hq : q = i.toNatClampNeg
    · subst hq
      rcases hx with rfl | rfl <;> simp [updV, upd] <;> rfl
    · simp [updV, upd, hq]) oq
  refine kk p l e0 R s m args below meth c Z X H1 _ ls (qset_wd h1 hk rfl z ?_ (fun j hj => qcell_pi hj) hP2) h2 h3 (h4.put z oq (Nat.le_add_right _ _)) h5
  have e2 : upd (fun j => qz (qi w k j)) i.toNatClampNeg x = fun j => qz (upd (qi w k) i.toNatClampNeg x j) := by
    funext q
    by_cases hq : q = i.toNatClampNeg
    · subst hq
      simp [upd, qz_of hx]
    · simp [upd, hq]
  rw [qcell_z hlay, qupd_i, e2]
theorem qupd_r {w : qW} {k j k0 : Nat} : (fun a => qro E (qr (qpr w k j (k0 + 1)) k a)) = va_up (fun a => qro E (qr w k a)) j (some (qb E + k0)) := by
  funext a
  by_cases h : a = j
  · subst h; simp [qr, qpr, va_up, qro]
  · simp [qr, qpr, va_up, h]
theorem g_aastore {k n c k0 ci n0 : Nat} {i : Int32} {r : vw_C} (t0 : Nat) (hd : decode M.2.1 pc = .ok (.aastore, 1)) (hlay : qlay k = (c, n)) (hc0 : 22 < c) (ht0 : (qtys E)[t0]? = some (qA E (c - 20), .object r.1)) (hk : k < w.1) (hin : vp_in i n) (hlay0 : qlay k0 = (ci, n0)) (hk0 : k0 < w.1) (hci : ci < 20) (hr : q_cls[ci]? = some r) (kk : Go d M E N0 N1 F (pc + 1) loc rest (qpr w k i.toNatClampNeg (k0 + 1))) : Go d M E N0 N1 F pc loc (.ref (qb E + k0) :: .int i :: .ref (qb E + k) :: rest) w := by
  intro p l e0 R s m args below meth c9 Z X H locs ls h1 h2 h3 h4 h5
  have he : (qLs E w)[k]? = some (qb E + k, .inl (qA E (c - 20), n, .inr (.inr (.inr (.inr (fun j => qro E (qr w k j))))))) := (qLs_get hk).trans (by rw [qcell_q hlay hc0])
  have he0 : (qLs E w)[k0]? = some (qb E + k0, .inr (ci, qobj E w k0 ci n0)) := (qLs_get hk0).trans (by rw [qcell_obj hlay0 hci])
  have hK := X.2.2.2.2.2.2.1.1
  have hlt : i.toNatClampNeg < n := Nat.not_le.mp fun q => hin (Or.inr q)
  have hp0 : ¬ i < 0 := fun q => hin (Or.inl q)
  obtain ⟨r', hr', cellV, g1, g2, g3, -⟩ := h1.2 k0 _ he0
  have hcls := (hK.1 ci r hr).2
  obtain ⟨kA, comp, k1, k2, k3, -⟩ := (hK.2 t0 _ ht0).2
  have hcomp : comp = (qD E).1 ci := Option.some.inj (k3.symm.trans hcls.1)
  subst hcomp
  obtain ⟨kC, hkC, -⟩ := hcls.2
  refine W.aast X.1 X.2.1 (h1.2 k _ he) (fun q h => by cases h) (fun h => by cases h) k1 k2 rfl hkC ⟨hp0, by show _ < (arrV _ _ _).slots.size; rw [arrV_size]; exact hlt⟩ g1 (fun q h => by rw [g3] at h; cases h) (by rw [g2]; exact hkC) (by rw [g2]; exact va_assign hcls) rfl rfl hd fun H1 e z oq => ?_
  have hP2 := h1.2.set qDs he (e := .inl (qA E (c - 20), n, .inr (.inr (.inr (.inr (va_up (fun a => qro E (qr w k a)) i.toNatClampNeg (some (qb E + k0)))))))) (by
    show H1[qb E + k]? = some (vp_cell _ _)
    rw [e]
    rw [vp_cell_q, vp_cell_q, arrV_store]
    congr 2
    funext q
    by_cases hq : q = i.toNatClampNeg
    · subst hq
      simp [updV, va_up, va_rf]
    · simp [updV, va_up, hq]) oq
  exact kk p l e0 R s m args below meth c9 Z X H1 _ ls (qset_wd h1 hk rfl z (by rw [qcell_q hlay hc0, qupd_r]) (fun j hj => qcell_pr hj) hP2) h2 h3 (h4.put z oq (Nat.le_add_right _ _)) h5

/-- System.arraycopy of a row of ints, once all cells stand -/
theorem g_copy {k i0 k2 : Nat} {n0 n2 idx : Nat} {sp dp n : Int32} (hd : decode M.2.1 pc = .ok (.invokestatic idx, 3)) (hl : Cond.methodLink M.1.cls idx arraycopyName ∈ qG) (hlay : qlay k = (20, n0)) (hlay2 : qlay k2 = (20, n2)) (hk : k < w.1) (hk2 : k2 < w.1) (hN : w.1 = 161) (a1 : ¬ sp < 0) (a2 : ¬ dp < 0) (a3 : ¬ n < 0) (a4 : sp.toNatClampNeg + n.toNatClampNeg ≤ n0) (a5 : dp.toNatClampNeg + n.toNatClampNeg ≤ n2) (hrest : (rest.map fun v => v.category).sum ≤ 8)
    (kk : Go (d + 1) M E N0 N1 F (pc + 3) loc rest (qcp w k sp.toNatClampNeg k2 dp.toNatClampNeg n.toNatClampNeg)) : Go (d + 1) M E N0 N1 F pc loc (.int n :: .int dp :: .ref (qb E + k2) :: .int sp :: .ref (qb E + k) :: rest) w := by
  intro p l e R s m args below meth c Z X H locs ls h1 h2 h3 h4 h5
  have hts := X.2.2.2.2.1
  obtain ⟨r1, r2, -, -⟩ := X.2.2.2.2.2.1
  have hnf : nativeFrameWords "java/lang/System" "arraycopy" 5 ≤ 40 := by decide
  refine va_copyi (tys := qtys E) X.1 X.2.1 (X.2.2.1.trans h5.1.symm) X.2.2.2.1 (hts _ hl) (hts _ q_native) (hts _ q_static) (hts _ ki_Jy) X.2.2.2.2.2.2.1.1 h1.2 qDs h4 k k2 0 0 ((qLs_get hk).trans (by rw [qcell_i hlay])) ((qLs_get hk2).trans (by rw [qcell_i hlay2])) rfl rfl rfl a1 a2 a3 a4 a5 (fun _ _ => rfl) (by omega) (by omega) hd (fun H1 locs1 hP hD hS => ?_)
  refine kk p l e R s m args below meth c Z X H1 locs1 ls ⟨fun q => absurd q (by show ¬ w.1 < 161; omega), ?_⟩ h2 h3 hS h5
  rw [qLs_set (w' := qcp w k sp.toNatClampNeg k2 dp.toNatClampNeg n.toNatClampNeg) hk2 rfl ?_ (fun j hj => qcell_cp hj)] at hP
  · exact hP
  · have e2 : va_cpy (qi w k) (qi w k2) sp.toNatClampNeg dp.toNatClampNeg n.toNatClampNeg = qi (qcp w k sp.toNatClampNeg k2 dp.toNatClampNeg n.toNatClampNeg) k2 := by
      funext j
      by_cases h : dp.toNatClampNeg ≤ j ∧ j < dp.toNatClampNeg + n.toNatClampNeg
      · rw [pk_cpy_in h.1 h.2]
        simp [qi, qcp, h]
      · rw [pk_cpy_out (by omega)]
        simp [qi, qcp, h]
    rw [qcell_i hlay2, e2]
theorem g_copyl {k i0 k2 : Nat} {n0 n2 idx : Nat} {sp dp n : Int32} (hd : decode M.2.1 pc = .ok (.invokestatic idx, 3)) (hl : Cond.methodLink M.1.cls idx arraycopyName ∈ qG) (hlay : qlay k = (21, n0)) (hlay2 : qlay k2 = (21, n2)) (hk : k < w.1) (hk2 : k2 < w.1) (hN : w.1 = 161) (a1 : ¬ sp < 0) (a2 : ¬ dp < 0) (a3 : ¬ n < 0) (a4 : sp.toNatClampNeg + n.toNatClampNeg ≤ n0) (a5 : dp.toNatClampNeg + n.toNatClampNeg ≤ n2) (hrest : (rest.map fun v => v.category).sum ≤ 8)
    (kk : Go (d + 1) M E N0 N1 F (pc + 3) loc rest (qcl w k sp.toNatClampNeg k2 dp.toNatClampNeg n.toNatClampNeg)) : Go (d + 1) M E N0 N1 F pc loc (.int n :: .int dp :: .ref (qb E + k2) :: .int sp :: .ref (qb E + k) :: rest) w := by
  intro p l e R s m args below meth c Z X H locs ls h1 h2 h3 h4 h5
  have hts := X.2.2.2.2.1
  obtain ⟨r1, r2, -, -⟩ := X.2.2.2.2.2.1
  have hnf : nativeFrameWords "java/lang/System" "arraycopy" 5 ≤ 40 := by decide
  refine va_copyl (tys := qtys E) X.1 X.2.1 (X.2.2.1.trans h5.1.symm) X.2.2.2.1 (hts _ hl) (hts _ q_native) (hts _ q_static) (hts _ ki_Jy) X.2.2.2.2.2.2.1.1 h1.2 qDs h4 k k2 1 1 ((qLs_get hk).trans (by rw [qcell_l hlay])) ((qLs_get hk2).trans (by rw [qcell_l hlay2])) rfl rfl rfl a1 a2 a3 a4 a5 (fun _ _ => rfl) (by omega) (by omega) hd (fun H1 locs1 hP hD hS => ?_)
  refine kk p l e R s m args below meth c Z X H1 locs1 ls ⟨fun q => absurd q (by show ¬ w.1 < 161; omega), ?_⟩ h2 h3 hS h5
  rw [qLs_set (w' := qcl w k sp.toNatClampNeg k2 dp.toNatClampNeg n.toNatClampNeg) hk2 rfl ?_ (fun j hj => qcell_cl hj)] at hP
  · exact hP
  · have e2 : va_cpy (ql w k) (ql w k2) sp.toNatClampNeg dp.toNatClampNeg n.toNatClampNeg = ql (qcl w k sp.toNatClampNeg k2 dp.toNatClampNeg n.toNatClampNeg) k2 := by
      funext j
      by_cases h : dp.toNatClampNeg ≤ j ∧ j < dp.toNatClampNeg + n.toNatClampNeg
      · rw [pk_cpy_in h.1 h.2]
        simp [ql, qcl, h]
      · rw [pk_cpy_out (by omega)]
        simp [ql, qcl, h]
    rw [qcell_l hlay2, e2]


theorem g_aboveA (hM : M.1.cls = "QuinceEnd$Acting") (hd : decode M.2.1 pc = .ok (.getstatic 37, 3)) (kk : Go d M E N0 N1 F (pc + 3) loc (.ref (qc E 0) :: rest) w) : Go d M E N0 N1 F pc loc rest w := by
  intro p l e R s m args below meth c Z X H locs ls h1 h2 h3 h4 h5
  have hK := X.2.2.2.2.2.2.1
  exact va_getsN X.1 X.2.1 hK.2.1.1 h4 (hM ▸ X.2.2.2.1) (va_Nw.use rfl hK.2.2.2.2.2.2.1.1) (fun _ h => h) hd (kk p l e R s m args below meth c Z X H locs ls h1 h2 h3 h4 h5)
theorem g_aboveT (hM : M.1.cls = "QuinceEnd$Thing") (hd : decode M.2.1 pc = .ok (.getstatic 43, 3)) (kk : Go d M E N0 N1 F (pc + 3) loc (.ref (qc E 0) :: rest) w) : Go d M E N0 N1 F pc loc rest w := by
  intro p l e R s m args below meth c Z X H locs ls h1 h2 h3 h4 h5
  have hK := X.2.2.2.2.2.2.1
  exact va_getsN X.1 X.2.1 hK.2.1.1 h4 (hM ▸ X.2.2.2.1) (va_Nw.use rfl hK.2.2.2.2.2.2.1.2.1) (fun _ h => h) hd (kk p l e R s m args below meth c Z X H locs ls h1 h2 h3 h4 h5)
theorem g_bodies (hM : M.1.cls = "QuinceEnd$Acting") (hd : decode M.2.1 pc = .ok (.getstatic 40, 3)) (kk : Go d M E N0 N1 F (pc + 3) loc (.ref (qc E 1) :: rest) w) : Go d M E N0 N1 F pc loc rest w := by
  intro p l e R s m args below meth c Z X H locs ls h1 h2 h3 h4 h5
  have hK := X.2.2.2.2.2.2.1
  exact va_gets X.1 X.2.1 hK.2.2.1.1 h4 (hM ▸ X.2.2.2.1) (X.2.2.2.2.1 _ kf_Ac_40) (fun _ h => h) hd (kk p l e R s m args below meth c Z X H locs ls h1 h2 h3 h4 h5)
theorem g_t0ld {i : Int32} (hd : decode M.2.1 pc = .ok (.iaload, 1)) (hin : vp_in i 7) (kk : Go d M E N0 N1 F (pc + 1) loc (.int (qAbove i.toNatClampNeg) :: rest) w) : Go d M E N0 N1 F pc loc (.int i :: .ref (qc E 0) :: rest) w := by
  intro p l e R s m args below meth c Z X H locs ls h1 h2 h3 h4 h5
  exact va_ti X.1 X.2.1 X.2.2.2.2.2.2.1.2.1.2 h4 hin rfl hd (kk p l e R s m args below meth c Z X H locs ls h1 h2 h3 h4 h5)
theorem g_t1ld {i : Int32} (hd : decode M.2.1 pc = .ok (.iaload, 1)) (hin : vp_in i 21) (kk : Go d M E N0 N1 F (pc + 1) loc (.int (qBodies i.toNatClampNeg) :: rest) w) : Go d M E N0 N1 F pc loc (.int i :: .ref (qc E 1) :: rest) w := by
  intro p l e R s m args below meth c Z X H locs ls h1 h2 h3 h4 h5
  exact va_ti X.1 X.2.1 X.2.2.2.2.2.2.1.2.2.1.2 h4 hin rfl hd (kk p l e R s m args below meth c Z X H locs ls h1 h2 h3 h4 h5)
theorem g_t0len (hd : decode M.2.1 pc = .ok (.arraylength, 1)) (kk : Go d M E N0 N1 F (pc + 1) loc (.int 7 :: rest) w) : Go d M E N0 N1 F pc loc (.ref (qc E 0) :: rest) w := by
  intro p l e R s m args below meth c Z X H locs ls h1 h2 h3 h4 h5
  exact va_tlen X.1 X.2.1 X.2.2.2.2.2.2.1.2.1.2 h4 rfl hd (kk p l e R s m args below meth c Z X H locs ls h1 h2 h3 h4 h5)
theorem g_t1len (hd : decode M.2.1 pc = .ok (.arraylength, 1)) (kk : Go d M E N0 N1 F (pc + 1) loc (.int 21 :: rest) w) : Go d M E N0 N1 F pc loc (.ref (qc E 1) :: rest) w := by
  intro p l e R s m args below meth c Z X H locs ls h1 h2 h3 h4 h5
  exact va_tlen X.1 X.2.1 X.2.2.2.2.2.2.1.2.2.1.2 h4 rfl hd (kk p l e R s m args below meth c Z X H locs ls h1 h2 h3 h4 h5)
/-- the script -/
theorem qK_scr {s : State} {H : Heap} (h : qK E s H) : va_X (qc E 2) (qL E) (qxs E) s H ∧ qc E 2 < H.size ∧ ¬ qAr E (qc E 2) := by
  obtain ⟨-, -, -, -, -, -, -, -, h1, h2, h3⟩ := h
  exact ⟨h1, h2, fun z => by unfold qAr at z; omega⟩
theorem g_sld {i : Int32} (hd : decode M.2.1 pc = .ok (.iaload, 1)) (hin : vp_in i (qL E)) (kk : Go d M E N0 N1 F (pc + 1) loc (.int (qxs E i.toNatClampNeg) :: rest) w) : Go d M E N0 N1 F pc loc (.int i :: .ref (qc E 2) :: rest) w := by
  intro p l e R s m args below meth c Z X H locs ls h1 h2 h3 h4 h5
  obtain ⟨a, b, c9⟩ := qK_scr X.2.2.2.2.2.2.1
  exact va_sld X.1 X.2.1 a b c9 h4 hin hd (kk p l e R s m args below meth c Z X H locs ls h1 h2 h3 h4 h5)
theorem g_slen (hd : decode M.2.1 pc = .ok (.arraylength, 1)) (kk : Go d M E N0 N1 F (pc + 1) loc (.int (Int32.ofNat (qL E)) :: rest) w) : Go d M E N0 N1 F pc loc (.ref (qc E 2) :: rest) w := by
  intro p l e R s m args below meth c Z X H locs ls h1 h2 h3 h4 h5
  obtain ⟨a, b, c9⟩ := qK_scr X.2.2.2.2.2.2.1
  exact va_slen X.1 X.2.1 a b c9 h4 hd (kk p l e R s m args below meth c Z X H locs ls h1 h2 h3 h4 h5)
/-- texts -/
theorem qK_str {s : State} {H : Heap} (h : qK E s H) : vk_S 5 qlen qbyt (fun i => qc E (10 + i)) (fun i => qc E (20 + i)) (qAr E) s H := h.2.2.2.2.1
theorem g_strval {i : Nat} (hi : i < 5) (hM : M.1.cls = "java/lang/String") (hd : decode M.2.1 pc = .ok (.getfield 9, 3)) (kk : Go d M E N0 N1 F (pc + 3) loc (.ref (qc E (20 + i)) :: rest) w) : Go d M E N0 N1 F pc loc (.ref (qc E (10 + i)) :: rest) w := by
  intro p l e R s m args below meth c Z X H locs ls h1 h2 h3 h4 h5
  exact vk_getf X.1 X.2.1 ((qK_str X.2.2.2.2.2.2.1).1 i hi).2.2.1 h4 (hM ▸ X.2.2.2.1) (X.2.2.2.2.1 _ kf_Js_9) (fun _ h => h) hd (kk p l e R s m args below meth c Z X H locs ls h1 h2 h3 h4 h5)
theorem g_strcod {i : Nat} (hi : i < 5) (hM : M.1.cls = "java/lang/String") (hd : decode M.2.1 pc = .ok (.getfield 15, 3)) (kk : Go d M E N0 N1 F (pc + 3) loc (.int 0 :: rest) w) : Go d M E N0 N1 F pc loc (.ref (qc E (10 + i)) :: rest) w := by
  intro p l e R s m args below meth c Z X H locs ls h1 h2 h3 h4 h5
  exact vk_getf X.1 X.2.1 ((qK_str X.2.2.2.2.2.2.1).1 i hi).2.1 h4 (hM ▸ X.2.2.2.1) (X.2.2.2.2.1 _ kf_Js_15) (fun _ h => h) hd (kk p l e R s m args below meth c Z X H locs ls h1 h2 h3 h4 h5)
theorem g_compact (hM : M.1.cls = "java/lang/String") (hd : decode M.2.1 pc = .ok (.getstatic 38, 3)) (kk : Go d M E N0 N1 F (pc + 3) loc (.int 1 :: rest) w) : Go d M E N0 N1 F pc loc rest w := by
  intro p l e R s m args below meth c Z X H locs ls h1 h2 h3 h4 h5
  exact va_gets X.1 X.2.1 X.2.2.2.2.2.2.1.2.2.2.1.1 h4 (hM ▸ X.2.2.2.1) (X.2.2.2.2.1 _ kf_Js_38) (fun _ h => h) hd (kk p l e R s m args below meth c Z X H locs ls h1 h2 h3 h4 h5)
theorem g_formatter (hM : M.1.cls = "java/lang/String") (hd : decode M.2.1 pc = .ok (.getstatic 1053, 3)) (kk : (Go d M E N0 N1 F (pc + 3) loc (.null :: rest) w) ∧ ∀ t, Go d M E N0 N1 F (pc + 3) loc (.ref t :: rest) w) : Go d M E N0 N1 F pc loc rest w := by
  intro p l e R s m args below meth c Z X H locs ls h1 h2 h3 h4 h5
  rcases X.2.2.2.2.2.2.1.2.2.2.1.2 with hz | ⟨t, hz⟩
  · exact va_gets X.1 X.2.1 hz h4 (hM ▸ X.2.2.2.1) (X.2.2.2.2.1 _ kf_Js_1053) (fun _ h => h) hd (kk.1 p l e R s m args below meth c Z X H locs ls h1 h2 h3 h4 h5)
  · exact va_gets X.1 X.2.1 hz h4 (hM ▸ X.2.2.2.1) (X.2.2.2.2.1 _ kf_Js_1053) (fun _ h => h) hd (kk.2 t p l e R s m args below meth c Z X H locs ls h1 h2 h3 h4 h5)
theorem g_strlen {i : Nat} (hi : i < 5) (hd : decode M.2.1 pc = .ok (.arraylength, 1)) (kk : Go d M E N0 N1 F (pc + 1) loc (.int (Int32.ofNat (qlen.getD i 0)) :: rest) w) : Go d M E N0 N1 F pc loc (.ref (qc E (20 + i)) :: rest) w := by
  intro p l e R s m args below meth c Z X H locs ls h1 h2 h3 h4 h5
  exact va_tlen X.1 X.2.1 ((qK_str X.2.2.2.2.2.2.1).1 i hi).2.2.2 h4 rfl hd (kk p l e R s m args below meth c Z X H locs ls h1 h2 h3 h4 h5)
theorem g_strld {i : Nat} {j : Int32} (hi : i < 5) (hd : decode M.2.1 pc = .ok (.baload, 1)) (hin : vp_in j (qlen.getD i 0)) (kk : Go d M E N0 N1 F (pc + 1) loc (.int ((qbyt.getD i []).getD j.toNatClampNeg 0) :: rest) w) : Go d M E N0 N1 F pc loc (.int j :: .ref (qc E (20 + i)) :: rest) w := by
  intro p l e R s m args below meth c Z X H locs ls h1 h2 h3 h4 h5
  exact va_tb X.1 X.2.1 ((qK_str X.2.2.2.2.2.2.1).1 i hi).2.2.2 h4 hin rfl hd (kk p l e R s m args below meth c Z X H locs ls h1 h2 h3 h4 h5)

theorem g_ldc64 (hM : M.1.cls = "QuinceEnd$Reading") (hd : decode M.2.1 pc = .ok (.ldc 64, 2)) (kk : Go d M E N0 N1 F (pc + 2) loc (.ref (qc E 10) :: rest) w) : Go d M E N0 N1 F pc loc rest w := by
  intro p l e R s m args below meth c Z X H locs ls h1 h2 h3 h4 h5
  exact va_ldcS X.1 X.2.1 (hM ▸ X.2.2.2.1) X.2.2.2.2.2.2.1.2.2.2.2.2.1.1 hd (kk p l e R s m args below meth c Z X H locs ls h1 h2 h3 h4 h5)
theorem g_ldc46 (hM : M.1.cls = "QuinceEnd$Reading") (hd : decode M.2.1 pc = .ok (.ldc 46, 2)) (kk : Go d M E N0 N1 F (pc + 2) loc (.ref (qc E 11) :: rest) w) : Go d M E N0 N1 F pc loc rest w := by
  intro p l e R s m args below meth c Z X H locs ls h1 h2 h3 h4 h5
  exact va_ldcS X.1 X.2.1 (hM ▸ X.2.2.2.1) X.2.2.2.2.2.2.1.2.2.2.2.2.1.2.1 hd (kk p l e R s m args below meth c Z X H locs ls h1 h2 h3 h4 h5)
theorem g_ldc48 (hM : M.1.cls = "QuinceEnd$Reading") (hd : decode M.2.1 pc = .ok (.ldc 48, 2)) (kk : Go d M E N0 N1 F (pc + 2) loc (.ref (qc E 12) :: rest) w) : Go d M E N0 N1 F pc loc rest w := by
  intro p l e R s m args below meth c Z X H locs ls h1 h2 h3 h4 h5
  exact va_ldcS X.1 X.2.1 (hM ▸ X.2.2.2.1) X.2.2.2.2.2.2.1.2.2.2.2.2.1.2.2.1 hd (kk p l e R s m args below meth c Z X H locs ls h1 h2 h3 h4 h5)
theorem g_ldc72 (hM : M.1.cls = "QuinceEnd$Reading") (hd : decode M.2.1 pc = .ok (.ldc 72, 2)) (kk : Go d M E N0 N1 F (pc + 2) loc (.ref (qc E 13) :: rest) w) : Go d M E N0 N1 F pc loc rest w := by
  intro p l e R s m args below meth c Z X H locs ls h1 h2 h3 h4 h5
  exact va_ldcS X.1 X.2.1 (hM ▸ X.2.2.2.1) X.2.2.2.2.2.2.1.2.2.2.2.2.1.2.2.2.1 hd (kk p l e R s m args below meth c Z X H locs ls h1 h2 h3 h4 h5)
theorem g_ldc78 (hM : M.1.cls = "QuinceEnd$Reading") (hd : decode M.2.1 pc = .ok (.ldc 78, 2)) (kk : Go d M E N0 N1 F (pc + 2) loc (.ref (qc E 14) :: rest) w) : Go d M E N0 N1 F pc loc rest w := by
  intro p l e R s m args below meth c Z X H locs ls h1 h2 h3 h4 h5
  exact va_ldcS X.1 X.2.1 (hM ▸ X.2.2.2.1) X.2.2.2.2.2.2.1.2.2.2.2.2.1.2.2.2.2 hd (kk p l e R s m args below meth c Z X H locs ls h1 h2 h3 h4 h5)
/-- calls -/
theorem qPre_blind {av : List Value} : FrameBlind (va_Pc av (qPre E w)) := fun a U g mk h => ⟨h.1, qK.same (u := U) rfl h.2.1, h.2.2⟩
theorem qPre_at {s U : State} {H H0 : Heap} {locs : List Loc} (hK : qK E s s.heap) (hb : qb E ≤ s.heap.size) (hS : va_S (qAr E) s.heap H locs) (h1 : qWd E w H) (hU : U.heap = H) (hW : s.WarmedH U.vm) : qPre E w U := by
  refine ⟨?_, ?_, ?_⟩
  · rw [hU]
    exact (hK.kept hS.1 hS.2.1).warm hW
  · rw [hU]
    exact Nat.le_trans hb hS.1
  · rw [hU]
    exact h1
/-- behind a call -/
theorem g_back {N2 : Nat} {F2 : qW → Option Value → Prop} {p : Program} {l : Launch} {e : Env} {R : Room} {s : State} {m : MethodId} {args : Array Value} {below : List Frame} {meth : Method} {c : Code} {Z : State → Prop} {H : Heap} {locs : List Loc} {ls : Array Slot} {stk : List Value} {a : Array Value}
    (X : qCx d M E N0 N1 F p l e R s m args below meth c Z) (h2 : N0 ≤ w.1) (h4 : va_S (qAr E) s.heap H locs) (h5 : lv_has ls M.2.2.1 loc) (hN : w.1 ≤ N2) (hN1 : N2 ≤ N1)
    (hr : va_Run p l e R s m args below meth c H locs (w.1 - N0) (qss w.1 - qss N0) (N2 - w.1) (qss N2 - qss w.1) (F0 m pc ls stk) rest (qPost E N2 F2 a) (qAr E))
    (kk : ∀ (w1 : qW) (v : Option Value), w1.1 = N2 → F2 w1 v → Go d M E N0 N1 F (pc + 3) loc (v.toList ++ rest) w1) : W p l e R s m args below meth c H locs (w.1 - N0) (qss w.1 - qss N0) Z (F0 m pc ls stk) := by
  intro T hT X'
  obtain ⟨v, st₀, t, T', L, a0, X', hL, e1, e2, ⟨⟨w1, v', hv, hF, hw1, hwd⟩, hz, hkp⟩, st⟩ := hr T hT X'
  cases hv
  rw [a0] at hz hkp
  have m1 := qss_mono h2
  have m2 := qss_mono hN
  rw [show w.1 - N0 + (N2 - w.1) = w1.1 - N0 by omega, show qss w.1 - qss N0 + (qss N2 - qss w.1) = qss w1.1 - qss N0 by rw [hw1]; omega] at X'
  obtain ⟨t2, a1, b1⟩ := kk w1 v hw1 hF p l e R s m args below meth c Z X T'.heap (locs ++ L) ls (by rw [e1]; exact hwd) (by omega) (by omega)
    ⟨Nat.le_trans h4.1 (by rw [e1]; exact hz), fun q g1 g2 => by rw [e1, hkp q (Nat.lt_of_lt_of_le g1 h4.1) g2]; exact h4.2.1 q g1 g2, fun q hq => by
      rcases List.mem_append.mp hq with h | h
      · exact h4.2.2 q h
      · exact hL q h⟩ h5 T' rfl X'
  exact ⟨t2, st t2 a1, b1⟩
/-- what a program decides of a method that is called -/
def qOk (M : qM) (n : Nat) : Prop := (M.1.cls ≠ "java/lang/invoke/MethodHandle" ∧ M.1.cls ≠ "java/lang/invoke/VarHandle" ∧ (parseMethodDescriptor M.1.desc).map (fun d => d.parameters.length) = some n) ∧ M.2.2.1 ≤ 40 ∧ Cond.code M.1 M.2.1 M.2.2.1 M.2.2.2 ∈ qG ∧ Cond.initialized M.1.cls ∈ qG
theorem qws_good {M' : qM} {n : Nat} (h : qOk M' n) (l : List Cond) (hl : ∀ w ∈ l, w ∈ qG) : GoodIn qG (l ++ qws M') := by
  intro w hw
  rcases List.mem_append.mp hw with q | q
  · exact qG_good _ (hl _ q)
  · rcases List.mem_cons.mp q with q | q
    · rw [q]
      exact qG_good _ h.2.2.1
    · exact qG_good _ q
theorem g_callV {M' : qM} {n ci idx k nn : Nat} {T : u_T} {As stk : List Value} {N2 : Nat} {F2 : qW → Option Value → Prop} (hd : decode M.2.1 pc = .ok (.invokevirtual idx, 3)) (ho : qOk M' n) (hn : As.length = n) (hl : Cond.methodLink M.1.cls idx M'.1 ∈ qG) (hx : Cond.instanceMethod M'.1 ∈ qG) (hv : Cond.selects M'.1.cls M'.1 M'.1 ∈ qG) (hc : q_cls[ci]? = some (M'.1.cls, T, nn)) (hci : ci < 20) (hlay : qlay k = (ci, nn)) (hk : k < w.1) (hst : stk = As.reverse ++ .ref (qb E + k) :: rest) (hrest : (rest.map fun v => v.category).sum ≤ 8) (hN1 : N2 ≤ N1)
    (K : Ca d M' (.ref (qb E + k) :: As) E w N2 F2) (kk : ∀ (w1 : qW) (v : Option Value), w1.1 = N2 → F2 w1 v → Go (d + 1) M E N0 N1 F (pc + 3) loc (v.toList ++ rest) w1) : Go (d + 1) M E N0 N1 F pc loc stk w := by
  intro p l e R s m args below meth c Z X H locs ls h1 h2 h3 h4 h5
  obtain ⟨r1, r2, r3, r4⟩ := X.2.2.2.2.2.1
  have hts := X.2.2.2.2.1
  have m2 := qss_mono K.1
  have m3 := qss_mono hN1
  have m1 := qss_mono h2
  have hcls := va_recv (tys := qtys E) X.2.2.2.2.2.2.1.1 h1.2 hc ((qLs_get hk).trans (by rw [qcell_obj hlay hci]))
  refine g_back X h2 h4 h5 K.1 hN1 (va_runV (As := As) ⟨X.1, X.2.1, rfl, X.2.2.2.1, hts⟩ (K.2 l) (cwV (C := M'.1.cls) n hts (qws_good ho _ (fun w hw => ?_)) rfl rfl rfl ⟨rfl, ho.1⟩ ⟨?_, ?_⟩) ⟨qPre_blind, hcls, fun U hU hW => ⟨rfl, qPre_at (H0 := H) X.2.2.2.2.2.2.1 X.2.2.2.2.2.2.2.2.1 h4 h1 hU hW⟩⟩ rfl hn (h5.1.trans X.2.2.1.symm) hst (lv_room (m := m) (ls := ls) (rest := rest) (pc := pc) hrest) hd ⟨?_, ?_⟩) kk
  · simp only [List.mem_cons, List.not_mem_nil, or_false] at hw
    rcases hw with rfl | rfl | rfl | rfl
    · exact hl
    · exact hx
    · exact hv
    · exact ho.2.2.2
  · exact r1
  · have := ho.2.1
    show 8 + (_ + 11) + 60 * d ≤ _
    omega
  · have := K.1
    omega
  · have := K.1
    omega
theorem g_callS {M' : qM} {n idx : Nat} {As stk : List Value} {N2 : Nat} {F2 : qW → Option Value → Prop} (hd : decode M.2.1 pc = .ok (.invokestatic idx, 3)) (ho : qOk M' n) (hn : As.length = n) (hl : Cond.methodLink M.1.cls idx M'.1 ∈ qG) (hx : Cond.static M'.1 ∈ qG) (hst : stk = As.reverse ++ rest) (hrest : (rest.map fun v => v.category).sum ≤ 8) (hN1 : N2 ≤ N1)
    (K : Ca d M' As E w N2 F2) (kk : ∀ (w1 : qW) (v : Option Value), w1.1 = N2 → F2 w1 v → Go (d + 1) M E N0 N1 F (pc + 3) loc (v.toList ++ rest) w1) : Go (d + 1) M E N0 N1 F pc loc stk w := by
  intro p l e R s m args below meth c Z X H locs ls h1 h2 h3 h4 h5
  obtain ⟨r1, r2, r3, r4⟩ := X.2.2.2.2.2.1
  have hts := X.2.2.2.2.1
  have m2 := qss_mono K.1
  have m3 := qss_mono hN1
  have m1 := qss_mono h2
  refine g_back X h2 h4 h5 K.1 hN1 (va_runS (As := As) ⟨X.1, X.2.1, rfl, X.2.2.2.1, hts⟩ (K.2 l) (va_cwS n hts (qws_good ho _ (fun w hw => ?_)) rfl rfl rfl ho.1 ⟨?_, ?_⟩) ⟨qPre_blind, fun U hU hW => ⟨rfl, qPre_at (H0 := H) X.2.2.2.2.2.2.1 X.2.2.2.2.2.2.2.2.1 h4 h1 hU hW⟩⟩ rfl hn (h5.1.trans X.2.2.1.symm) hst (lv_room (m := m) (ls := ls) (rest := rest) (pc := pc) hrest) hd ⟨?_, ?_⟩) kk
  · simp only [List.mem_cons, List.not_mem_nil, or_false] at hw
    rcases hw with rfl | rfl | rfl
    · exact hl
    · exact hx
    · exact ho.2.2.2
  · exact r1
  · have := ho.2.1
    show 8 + (_ + 11) + 60 * d ≤ _
    omega
  · have := K.1
    omega
  · have := K.1
    omega
theorem g_init {M' : qM} {n idx k : Nat} {As stk : List Value} {N2 : Nat} {F2 : qW → Option Value → Prop} (hd : decode M.2.1 pc = .ok (.invokespecial idx, 3)) (ho : qOk M' n) (hret : M'.2.2.2 = none) (hn : As.length = n) (hl : Cond.methodLink M.1.cls idx M'.1 ∈ qG) (hx : Cond.instanceMethod M'.1 ∈ qG) (hnm : M'.1.name = "<init>") (hst : stk = As.reverse ++ .ref (qb E + k) :: rest) (hrest : (rest.map fun v => v.category).sum ≤ 8) (hN1 : N2 ≤ N1)
    (K : Ca d M' (.ref (qb E + k) :: As) E w N2 F2) (kk : ∀ (w1 : qW) (v : Option Value), w1.1 = N2 → F2 w1 v → Go (d + 1) M E N0 N1 F (pc + 3) loc (v.toList ++ rest) w1) : Go (d + 1) M E N0 N1 F pc loc stk w := by
  intro p l e R s m args below meth c Z X H locs ls h1 h2 h3 h4 h5
  obtain ⟨r1, r2, r3, r4⟩ := X.2.2.2.2.2.1
  have hts := X.2.2.2.2.1
  have m2 := qss_mono K.1
  have m3 := qss_mono hN1
  have m1 := qss_mono h2
  refine g_back X h2 h4 h5 K.1 hN1 (va_runI (As := As) ⟨X.1, X.2.1, rfl, X.2.2.2.1, hts⟩ (K.2 l) (cwI (bytes := M'.2.1) (maxL := M'.2.2.1) n hts (qws_good ho [] (fun w hw => absurd hw List.not_mem_nil)) (by rw [← hret]; rfl) rfl rfl (hts _ ho.2.2.2) (hts _ hl) (hts _ hx) hnm ho.1 ⟨?_, ?_⟩) ⟨qPre_blind, fun U hU hW => ⟨rfl, qPre_at (H0 := H) X.2.2.2.2.2.2.1 X.2.2.2.2.2.2.2.2.1 h4 h1 hU hW⟩⟩ rfl hn (h5.1.trans X.2.2.1.symm) hst (lv_room (m := m) (ls := ls) (rest := rest) (pc := pc) hrest) hd ⟨?_, ?_⟩) kk
  · exact r1
  · have := ho.2.1
    show 8 + (_ + 11) + 60 * d ≤ _
    omega
  · have := K.1
    omega
  · have := K.1
    omega
theorem g_initN {M' : qM} {n idx k : Nat} {host : String} {As stk : List Value} {N2 : Nat} {F2 : qW → Option Value → Prop} (hd : decode M.2.1 pc = .ok (.invokespecial idx, 3)) (ho : qOk M' n) (hret : M'.2.2.2 = none) (hn : As.length = n) (hl : ∀ s H, qK E s H → va_Nw (.methodLinkNest M.1.cls idx M'.1 host) s) (hx : Cond.instanceMethod M'.1 ∈ qG) (hnm : M'.1.name = "<init>") (hst : stk = As.reverse ++ .ref (qb E + k) :: rest) (hrest : (rest.map fun v => v.category).sum ≤ 8) (hN1 : N2 ≤ N1)
    (K : Ca d M' (.ref (qb E + k) :: As) E w N2 F2) (kk : ∀ (w1 : qW) (v : Option Value), w1.1 = N2 → F2 w1 v → Go (d + 1) M E N0 N1 F (pc + 3) loc (v.toList ++ rest) w1) : Go (d + 1) M E N0 N1 F pc loc stk w := by
  intro p l e R s m args below meth c Z X H locs ls h1 h2 h3 h4 h5
  obtain ⟨r1, r2, r3, r4⟩ := X.2.2.2.2.2.1
  have hts := X.2.2.2.2.1
  have m2 := qss_mono K.1
  have m3 := qss_mono hN1
  have m1 := qss_mono h2
  refine g_back X h2 h4 h5 K.1 hN1 (va_runIN (As := As) (host := host) ⟨X.1, X.2.1, rfl, X.2.2.2.1, hts⟩ (K.2 l) ⟨va_cnB (bytes := M'.2.1) (maxL := M'.2.2.1) (ret := none) n hts (qws_good ho [] (fun w hw => absurd hw List.not_mem_nil)) (by rw [← hret]; rfl) rfl rfl (hl _ _ X.2.2.2.2.2.2.1) (hts _ ho.2.2.2) ho.1 ⟨?_, ?_⟩, hnm, hts _ hx⟩ ⟨qPre_blind, fun U hU hW => ⟨rfl, qPre_at (H0 := H) X.2.2.2.2.2.2.1 X.2.2.2.2.2.2.2.2.1 h4 h1 hU hW⟩⟩ rfl hn (h5.1.trans X.2.2.1.symm) hst (lv_room (m := m) (ls := ls) (rest := rest) (pc := pc) hrest) hd ⟨?_, ?_⟩) kk
  · exact r1
  · have := ho.2.1
    show 8 + (_ + 11) + 60 * d ≤ _
    omega
  · have := K.1
    omega
  · have := K.1
    omega
theorem g_objInit {idx a : Nat} (hd : decode M.2.1 pc = .ok (.invokespecial idx, 3)) (hl : Cond.methodLink M.1.cls idx Lib.objectInit ∈ qG) (hrest : (rest.map fun v => v.category).sum ≤ 8) (kk : Go (d + 1) M E N0 N1 F (pc + 3) loc rest w) : Go (d + 1) M E N0 N1 F pc loc (.ref a :: rest) w := by
  intro p l e R s m args below meth c Z X H locs ls h1 h2 h3 h4 h5
  obtain ⟨r1, r2, r3, r4⟩ := X.2.2.2.2.2.1
  have hts := X.2.2.2.2.1
  refine W.objInit X.1 X.2.1 X.2.2.2.1 (hts _ hl) (hts _ q_objI) (hts _ q_objC) rfl (h5.1.trans X.2.2.1.symm) rfl hd (by omega) (by show 2 * 0 + _ + 12 ≤ _; omega) ?_
  exact kk p l e R s m args below meth c Z X H locs ls h1 h2 h3 h4 h5

/-- a new cell -/
theorem qLs_new {w : qW} {e : va_E} (he : e = qcell E (qnw w) w.1) : qLs E w ++ [(qb E + w.1, e)] = qLs E (qnw w) := by
  apply List.ext_getElem?
  intro j
  have hlen : (qLs E w).length = w.1 := by simp [qLs]
  rcases Nat.lt_trichotomy j w.1 with q | q | q
  · rw [List.getElem?_append_left (by omega), qLs_get q, qLs_get (show j < w.1 + 1 by omega)]
    rw [qcell_eq (w := w) (w' := qnw w) (k := j) (fun i => ?_)]
    refine ⟨?_, ?_, ?_⟩
    · simp [qi, qnw, Nat.ne_of_lt q]
    · simp [ql, qnw, Nat.ne_of_lt q]
    · simp [qr, qnw, Nat.ne_of_lt q]
  · subst q
    rw [List.getElem?_append_right (by omega), hlen, Nat.sub_self, qLs_get (show w.1 < w.1 + 1 by omega), he]
    rfl
  · rw [List.getElem?_eq_none (by simp; omega), List.getElem?_eq_none (by simp [qLs, qnw]; omega)]
theorem g_new {ci n idx : Nat} {C : String} {T : u_T} {ty : Nat → FieldType} (hd : decode M.2.1 pc = .ok (.new idx, 3)) (hc : q_cls[ci]? = some (C, T, n)) (hci : ci < 20) (hin : ∀ w ∈ u_ws C T n, w ∈ qG) (hty : ∀ k, k < n → parseFieldDescriptor (T k).2.2.1 = some (ty k)) (hcl : Cond.classLink M.1.cls idx C ∈ qG) (hinst : Cond.instantiable C n ∈ qG) (hini : Cond.initialized C ∈ qG) (hfs : ∀ j, j < n → defaultValue (ty j) = if qft ci j = 2 then .null else .int 0) (hft : ∀ j, j < n → qft ci j = 0 ∨ qft ci j = 1 ∨ qft ci j = 2) (hlay : qlay w.1 = (ci, n)) (hN : w.1 < 161) (hN1 : w.1 + 1 ≤ N1)
    (kk : Go d M E N0 N1 F (pc + 3) loc (.ref (qb E + w.1) :: rest) (qnw w)) : Go d M E N0 N1 F pc loc rest w := by
  intro p l e R s m args below meth c Z X H locs ls h1 h2 h3 h4 h5
  obtain ⟨r1, r2, r3, r4⟩ := X.2.2.2.2.2.1
  have hts := X.2.2.2.2.1
  have hK := X.2.2.2.2.2.2.1.1
  have hKn := hK.1 ci _ hc
  have hz := h1.1 hN
  have m1 := qss_mono h2
  have m2 := qss_mono hN1
  have es : qss (w.1 + 1) = qss w.1 + n := by show qss w.1 + (qlay w.1).2 = _; rw [hlay]
  refine W.newcK X.1 X.2.1 X.2.2.2.1 (hts _ hcl) (hts _ hinst) (hts _ hini) rfl hd (by omega) (by omega) hKn.2.1 hz fun H1 kC hkC e1 z1 o1 => ?_
  have hk : ∀ (k : Nat) (x : Nat × va_E), (qLs E w)[k]? = some x → H1[x.1]? = H[x.1]? := fun k x hx => o1 x.1 (by rw [← hz]; exact (h1.2 k x hx).lt)
  have hP := (h1.2.kept hk).app (w2 := [(qb E + w.1, .inr (ci, qobj E (qnw w) w.1 ci n))]) (fun k x hx => by
    have hz : k < 1 := (List.getElem?_eq_some_iff.mp hx).1
    rw [show k = 0 by omega] at hx
    cases hx
    refine ⟨_, hc, (u_born ty hts hin hKn hkC e1 hty).to (fun j hj => ?_)⟩
    rw [hfs j hj]
    unfold vp_V
    rw [List.getD_eq_getElem?_getD, qobj_get hj]
    have i0 : qi (qnw w) w.1 j = 0 := by simp [qi, qnw]
    have i1 : qr (qnw w) w.1 j = 0 := by simp [qr, qnw]
    rcases hft j hj with q | q | q
    · rw [q]; simp [qfv, i0]
    · rw [q]; simp [qfv, i0, qz]
    · rw [q]; simp [qfv, i1, qrv, qro, va_rf])
  rw [qLs_new (by rw [qcell_obj hlay hci])] at hP
  have := kk p l e R s m args below meth c Z X H1 locs ls ⟨fun _ => by rw [z1]; rfl, hP⟩ (show N0 ≤ w.1 + 1 by omega) hN1 ⟨Nat.le_trans h4.1 (by omega), fun x g1 g2 => (o1 x (by rw [← hz]; exact Nat.lt_of_lt_of_le g1 h4.1)).trans (h4.2.1 x g1 g2), h4.2.2⟩ h5
  rw [show (qnw w).1 - N0 = w.1 - N0 + 1 by show w.1 + 1 - N0 = _; omega, show qss (qnw w).1 - qss N0 = qss w.1 - qss N0 + n by show qss (w.1 + 1) - _ = _; omega] at this
  exact this
theorem g_newa {n0 ac : Nat} {atype : ArrayType} {n : Int32} (hd : decode M.2.1 pc = .ok (.newarray atype, 2)) (hat : (atype = .int ∧ ac = 20) ∨ (atype = .long ∧ ac = 21) ∨ (atype = .boolean ∧ ac = 22)) (harr : Cond.arrayClass (newarray.typeOf atype) ∈ qG) (hn : ¬ n < 0) (hN' : n.toNatClampNeg = n0) (hsm : n0 ≤ 1000) (hlay : qlay w.1 = (ac, n0)) (hN : w.1 < 161) (hN1 : w.1 + 1 ≤ N1)
    (kk : Go d M E N0 N1 F (pc + 2) loc (.ref (qb E + w.1) :: rest) (qnw w)) : Go d M E N0 N1 F pc loc (.int n :: rest) w := by
  intro p l e R s m args below meth c Z X H locs ls h1 h2 h3 h4 h5
  obtain ⟨r1, r2, r3, r4⟩ := X.2.2.2.2.2.1
  have hts := X.2.2.2.2.1
  have hK := X.2.2.2.2.2.2.1.1
  have hz := h1.1 hN
  have m1 := qss_mono h2
  have m2 := qss_mono hN1
  have es : qss (w.1 + 1) = qss w.1 + n0 := by show qss w.1 + (qlay w.1).2 = _; rw [hlay]
  refine va_newaK X.1 X.2.1 (hts _ harr) rfl hd rfl hn hN' ?_ (by omega) (by omega) hz fun H1 cA e1 z1 o1 hAr hNm => ?_
  · rcases hat with ⟨rfl, -⟩ | ⟨rfl, -⟩ | ⟨rfl, -⟩ <;> simp [newarray.typeOf, componentBytes] <;> omega
  have hk : ∀ (k : Nat) (x : Nat × va_E), (qLs E w)[k]? = some x → H1[x.1]? = H[x.1]? := fun k x hx => o1 x.1 (by rw [← hz]; exact (h1.2 k x hx).lt)
  have i0 : ∀ j, qi (qnw w) w.1 j = 0 := fun j => by simp [qi, qnw]
  have i1 : ∀ j, ql (qnw w) w.1 j = 0 := fun j => by simp [ql, qnw]
  have hP := (h1.2.kept hk).app (w2 := [(qb E + w.1, qcell E (qnw w) w.1)]) (fun k x hx => by
    have hz : k < 1 := (List.getElem?_eq_some_iff.mp hx).1
    rw [show k = 0 by omega] at hx
    cases hx
    rcases hat with ⟨rfl, rfl⟩ | ⟨rfl, rfl⟩ | ⟨rfl, rfl⟩
    · have hca : cA = qA E 0 := Option.some.inj (hNm.symm.trans (hK.2 0 _ rfl).2)
      rw [qcell_i hlay]
      show H1[qb E + w.1]? = some (vp_cell _ _)
      rw [e1, vp_cell_i, hca, funext i0]
      rfl
    · have hca : cA = qA E 1 := Option.some.inj (hNm.symm.trans (hK.2 1 _ rfl).2)
      rw [qcell_l hlay]
      show H1[qb E + w.1]? = some (vp_cell _ _)
      rw [e1, vp_cell_l, hca, funext i1]
      rfl
    · have hca : cA = qA E 2 := Option.some.inj (hNm.symm.trans (hK.2 2 _ rfl).2)
      rw [qcell_z hlay]
      show H1[qb E + w.1]? = some (vp_cell _ _)
      rw [e1, vp_cell_i, hca]
      simp only [i0]
      rfl)
  rw [qLs_new rfl] at hP
  have := kk p l e R s m args below meth c Z X H1 locs ls ⟨fun _ => by rw [z1]; rfl, hP⟩ (show N0 ≤ w.1 + 1 by omega) hN1 ⟨Nat.le_trans h4.1 (by omega), fun x g1 g2 => (o1 x (by rw [← hz]; exact Nat.lt_of_lt_of_le g1 h4.1)).trans (h4.2.1 x g1 g2), h4.2.2⟩ h5
  rw [show (qnw w).1 - N0 = w.1 - N0 + 1 by show w.1 + 1 - N0 = _; omega, show qss (qnw w).1 - qss N0 = qss w.1 - qss N0 + n0 by show qss (w.1 + 1) - _ = _; omega] at this
  exact this
theorem g_newq {n0 c0 idx : Nat} {C : String} {n : Int32} (t0 : Nat) (hd : decode M.2.1 pc = .ok (.anewarray idx, 3)) (hcl : Cond.classLink M.1.cls idx C ∈ qG) (hao : ∀ s H, qK E s H → va_AO C s) (hc0 : 22 < c0) (ht0 : (qtys E)[t0]? = some (qA E (c0 - 20), .object C)) (hn : ¬ n < 0) (hN' : n.toNatClampNeg = n0) (hsm : n0 ≤ 1000) (hlay : qlay w.1 = (c0, n0)) (hN : w.1 < 161) (hN1 : w.1 + 1 ≤ N1)
    (kk : Go d M E N0 N1 F (pc + 3) loc (.ref (qb E + w.1) :: rest) (qnw w)) : Go d M E N0 N1 F pc loc (.int n :: rest) w := by
  intro p l e R s m args below meth c Z X H locs ls h1 h2 h3 h4 h5
  obtain ⟨r1, r2, r3, r4⟩ := X.2.2.2.2.2.1
  have hts := X.2.2.2.2.1
  have hK := X.2.2.2.2.2.2.1.1
  have hz := h1.1 hN
  have m1 := qss_mono h2
  have m2 := qss_mono hN1
  have es : qss (w.1 + 1) = qss w.1 + n0 := by show qss w.1 + (qlay w.1).2 = _; rw [hlay]
  subst hN'
  refine W.anew X.1 X.2.1 X.2.2.2.1 (hts _ hcl) (va_AO.use (hao _ _ X.2.2.2.2.2.2.1)) rfl hd rfl hn (by omega) (by omega) (by omega) fun cA kA comp f1 f2 f3 f4 => ?_
  have hca : cA = qA E (c0 - 20) := by
    obtain ⟨kA', comp', k1, k2, k3, k4⟩ := (hK.2 t0 _ ht0).2
    exact Option.some.inj (f1.symm.trans k4)
  generalize hH1 : H.push ({ cls := cA, slots := Array.replicate n.toNatClampNeg .null, vm := .none } : Cell) = H1
  have z1 : H1.size = H.size + 1 := by rw [← hH1, Array.size_push]
  have e1 : H1[H.size]? = some (arrV cA n.toNatClampNeg (fun _ => .null)) := by rw [← hH1, Array.getElem?_push_size, ← arrV_new]
  have o1 : ∀ q : Nat, q < H.size → H1[q]? = H[q]? := fun q hq => by rw [← hH1, Array.getElem?_push, if_neg (Nat.ne_of_lt hq)]
  have hk : ∀ (k : Nat) (x : Nat × va_E), (qLs E w)[k]? = some x → H1[x.1]? = H[x.1]? := fun k x hx => o1 x.1 ((h1.2 k x hx).lt)
  have i1 : ∀ j, qr (qnw w) w.1 j = 0 := fun j => by simp [qr, qnw]
  rw [hz] at e1 z1 o1
  have hP := (h1.2.kept hk).app (w2 := [(qb E + w.1, qcell E (qnw w) w.1)]) (fun k x hx => by
    have hz : k < 1 := (List.getElem?_eq_some_iff.mp hx).1
    rw [show k = 0 by omega] at hx
    cases hx
    rw [qcell_q hlay hc0]
    show H1[qb E + w.1]? = some (vp_cell _ _)
    rw [e1, vp_cell_q, hca]
    simp only [i1]
    rfl)
  rw [qLs_new rfl] at hP
  have := kk p l e R s m args below meth c Z X H1 locs ls ⟨fun _ => by rw [z1]; rfl, hP⟩ (show N0 ≤ w.1 + 1 by omega) hN1 ⟨Nat.le_trans h4.1 (by omega), fun x g1 g2 => (o1 x (by rw [← hz]; exact Nat.lt_of_lt_of_le g1 h4.1)).trans (h4.2.1 x g1 g2), h4.2.2⟩ h5
  rw [show (qnw w).1 - N0 = w.1 - N0 + 1 by show w.1 + 1 - N0 = _; omega, show qss (qnw w).1 - qss N0 = qss w.1 - qss N0 + n.toNatClampNeg by show qss (w.1 + 1) - _ = _; omega] at this
  rw [hz]
  exact this
end GR2
