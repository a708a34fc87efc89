def w00 : qW := (0, fun _ _ => 0, fun _ _ => 0, fun _ _ => 0)
def wX0 : qW := f_Qu (qnw w00)
/-- the cells as the two constructors leave them -/
def wI0 : qW := f_Mo (qnw wX0)
def qSl : List (Nat × Nat) := (List.range 161).flatMap (fun k => ((List.range (qSt.getD k []).length).filter (fun j => decide (qS k j ≠ 0))).map (fun j => (k, j)))
theorem qSl_in {k j : Nat} (h : qS k j ≠ 0) : (k, j) ∈ qSl := by
  have hk : k < 161 := by
    rcases Nat.lt_or_ge k 161 with q | q
    · exact q
    · refine absurd ?_ h
      have hl : qSt.length = 161 := by decide +kernel
      have e : qSt.getD k [] = [] := by
        rw [List.getD_eq_getElem?_getD, List.getElem?_eq_none (by omega)]
        rfl
      show (qSt.getD k []).getD j 0 = 0
      rw [e]
      rfl
  have hj : j < (qSt.getD k []).length := by
    rcases Nat.lt_or_ge j (qSt.getD k []).length with q | q
    · exact q
    · refine absurd ?_ h
      show (qSt.getD k []).getD j 0 = 0
      generalize qSt.getD k [] = l at q ⊢
      rw [List.getD_eq_getElem?_getD, List.getElem?_eq_none q]
      rfl
  refine List.mem_flatMap.mpr ⟨k, List.mem_range.mpr hk, List.mem_map.mpr ⟨j, List.mem_filter.mpr ⟨List.mem_range.mpr hj, by simpa using h⟩, rfl⟩⟩
set_option maxRecDepth 100000 in
theorem sh_I0a : ∀ p ∈ qSl, qr wI0 p.1 p.2 = qS p.1 p.2 := by decide +kernel
theorem sh_I0 : Sh wI0 := ⟨by decide +kernel, fun k j h => sh_I0a _ (qSl_in h)⟩
set_option maxHeartbeats 4000000 in
set_option maxRecDepth 100000 in
theorem whole_of {I : qE → qW → Prop} (hp : ∀ E, qPairs E (I E)) (h0 : ∀ E, I E wI0) {p : Program} {e : Env} {s : State} {m : MethodId} {below : List Frame} {meth : Method} {c : Code} (l : Launch) {b L : Nat} {xs : Nat → Int32} (hL : L ≤ 3072) (C0 : lw_At p s m meth c b L xs) : W p l e room_1 s m #[Value.ref b] below meth c s.heap [] 0 0 (lw_Z below #[Value.ref b] s) (entryFrame m ([Value.ref b] : List Value).toArray 4) := by
  obtain ⟨hx, hb, hr, hml, hown, hts, hX, hbl, hlocks, hgv⟩ := C0
  obtain ⟨E, e1, e2, e3, e4, hK⟩ := q_env hts hX hbl hgv
  have hgo : Go 44 M_La_law E 0 161 (qFI (fun _ r => r = 1)) 0 [(0, .ref (qc E 2))] [] w00 := by
    refine n_new (ci := 9) (n := 9) 0 rfl e_La_law_0 rfl (by decide) q_in9 q_tok9 kc_La_7 kn_Qu ki_Qu (by decide) (by decide) rfl (by omega) (by omega) ?_
    refine g_dup e_La_law_3 rfl ?_
    refine g_init (d := 43) (As := []) (rest := [.ref (qb E + 0)]) (k := 0) e_La_law_4 ok_Qu_init rfl rfl km_La_9 kx_Qu_init rfl rfl (Nat.le_of_ble_eq_true rfl) (by omega) (i_Qu (d := 39) rfl) (fun w1 v1 hn1 ew1 => ?_)
    obtain ⟨rfl, ew1⟩ := ew1
    refine g_astore_n (lv := [(1, .ref (qb E + 0)), (0, .ref (qc E 2))]) e_La_law_7 rfl (by decide) rfl ?_
    refine n_new (ci := 10) (n := 77) 115 hn1 e_La_law_8 rfl (by decide) q_in10 q_tok10 kc_La_10 kn_Mo ki_Mo (by decide) (by decide) rfl (by omega) (by omega) ?_
    refine g_dup e_La_law_11 rfl ?_
    refine g_init (d := 43) (As := []) (rest := [.ref (qb E + 115)]) (k := 115) e_La_law_12 ok_Mo_init rfl rfl km_La_12 kx_Mo_init rfl rfl (Nat.le_of_ble_eq_true rfl) (by omega) (i_Mo (d := 42) (show w1.1 + 1 = 116 by rw [hn1])) (fun w2 v2 hn2 ew2 => ?_)
    obtain ⟨rfl, ew2⟩ := ew2
    have ew3 : w2 = wI0 := by rw [ew2, ew1]; rfl
    rw [ew3]
    refine g_astore_n (lv := [(2, .ref (qb E + 115)), (1, .ref (qb E + 0)), (0, .ref (qc E 2))]) e_La_law_15 rfl (by decide) rfl ?_
    refine g_iconst (v := 0) e_La_law_16 (by decide) ?_
    refine g_istore_n (lv := [(3, .int 0), (2, .ref (qb E + 115)), (1, .ref (qb E + 0)), (0, .ref (qc E 2))]) e_La_law_17 rfl (by decide) rfl ?_
    refine g_loc [3, 2, 1, 0] rfl ?_
    exact law_loop (d := 0) (hp E) (by rw [e2]; exact hL) 3073 0 wI0 (by omega) (by omega) sh_I0 (h0 E)
  have hl := lv_entry ([.ref b]) (n := 4) (Nat.le_of_ble_eq_true rfl)
  have h := hgo p l e room_1 s m #[Value.ref b] below meth c (lw_Z below #[Value.ref b] s)
    ⟨hx, hb, hml, hown, fun w hw => hts w (q_sub hw), ⟨by decide, by decide, by decide, by decide +kernel⟩, hK, fun h => absurd h (by decide), by rw [e1]; exact Nat.le_refl _, ?_⟩
    s.heap [] _ ⟨fun _ => by rw [e1]; rfl, fun k q hk => by simp [qLs, w00] at hk⟩ (Nat.zero_le _) (by decide) va_S.rf (by rw [e4]; exact hl)
  · rw [lg_entry_eq]
    exact h
  · intro H locs w v pc ls h1 h2 h3 h4 h5
    obtain ⟨x, rfl, -, rfl⟩ := h4
    rcases h5 with ⟨x, ty, -, g1, g2, g3⟩ | ⟨x, g1, -⟩ | ⟨g1, -⟩ | ⟨x, C, g1, g2, g3, -⟩
    · refine va_forget (fun q hq => by have := h3.2.2 q hq; rw [← e1]; exact this) ?_
      refine W.widen (k := 600000) (n := 7302249) (by decide) (by decide +kernel) ?_
      exact lw_ret hx hb hr hlocks g3
    · cases g1
    · cases g1
    · cases g3
