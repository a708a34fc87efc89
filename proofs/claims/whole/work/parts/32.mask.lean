/-! the model: what is asked is gone on with and put back -/
section MA
variable {d : Nat} {E : qE} {w : qW} {k : List Cl}
theorem PM_e {w1 : qW} (h0 : ∀ j, (j < 5 ∨ j = 13) → qi w1 115 j = qi w 115 j) (h : ∀ k j : Nat, 116 ≤ k → k ≤ 122 → qi w1 k j = qi w k j) : PM w1 = PM w := by
  have ea : aM w1 = aM w := by
    funext i a
    unfold aM
    by_cases a1 : a < 6
    · rw [h (116 + a) i (by omega) (by omega), h 122 _ (by omega) (by omega)]
    · by_cases a2 : i < 6
      · rw [if_pos a2, if_pos a2, if_neg a1, if_neg a1, h 122 _ (by omega) (by omega)]
      · rw [if_neg a2, if_neg a2]
  unfold PM
  rw [ea, h0 0 (by omega), h0 1 (by omega), h0 2 (by omega), h0 4 (by omega), h0 3 (by omega), h0 13 (by omega)]
theorem aM_115 {j : Nat} {x : Int32} : aM (qpi w 115 j x) = aM w := by
  funext i a
  unfold aM
  rw [qi_k (by omega), qi_k (by omega)]
theorem aM_p {i a : Nat} {x : Int32} (hi : i < 6) (ha : a < 6) : aM (qpi w (116 + a) i x) = upA (aM w) i a x := by
  funext i' a'
  exact aM_pi hi ha
theorem aM_w {i b : Nat} {x : Int32} (hi : i < 6) (hb : b < 4) : aM (qpi w 122 (4 * i + b) x) = upA (aM w) i (6 + b) x := by
  funext i' a'
  unfold upA aM
  by_cases h1 : i' < 6
  · rw [if_pos h1, if_pos h1]
    by_cases h2 : a' < 6
    · rw [if_pos h2, if_pos h2, qi_k (by omega), if_neg (fun z => by omega)]
    · rw [if_neg h2, if_neg h2]
      by_cases h4 : a' < 10
      · rw [if_pos h4, if_pos h4, qi_ite]
        by_cases h3 : i' = i ∧ a' = 6 + b
        · obtain ⟨rfl, rfl⟩ := h3
          rw [if_pos ⟨rfl, by omega⟩, if_pos ⟨rfl, rfl⟩]
        · rw [if_neg h3, if_neg (c := (122 : Nat) = 122 ∧ 4 * i' + (a' - 6) = 4 * i + b) (fun z => h3 ⟨by omega, by omega⟩)]
      · rw [if_neg h4, if_neg h4, if_neg (c := i' = i ∧ a' = 6 + b) (fun z => by omega)]
  · rw [if_neg h1, if_neg h1, if_neg (fun z => h1 (by omega))]
theorem PM_F {x : Int32} : PM (qpi w 115 1 x) = sF (PM w) x := by
  unfold PM
  rw [aM_115, qi_j (by decide), qi_eq rfl rfl, qi_j (by decide), qi_j (by decide), qi_j (by decide), qi_j (by decide)]
  rfl
theorem PM_K {x : Int32} : PM (qpi w 115 2 x) = sK (PM w) x := by
  unfold PM
  rw [aM_115, qi_j (by decide), qi_j (by decide), qi_eq rfl rfl, qi_j (by decide), qi_j (by decide), qi_j (by decide)]
  rfl
theorem PM_t {i a : Nat} {x : Int32} (hi : i < 6) (ha : a < 6) : PM (qpi w (116 + a) i x) = sA (PM w) i a x := by
  unfold PM
  rw [aM_p hi ha, qi_k (by omega), qi_k (by omega), qi_k (by omega), qi_k (by omega), qi_k (by omega), qi_k (by omega)]
  rfl
theorem PM_w {i b : Nat} {x : Int32} (hi : i < 6) (hb : b < 4) : PM (qpi w 122 (4 * i + b) x) = sA (PM w) i (6 + b) x := by
  unfold PM
  rw [aM_w hi hb, qi_k (by omega), qi_k (by omega), qi_k (by omega), qi_k (by omega), qi_k (by omega), qi_k (by omega)]
  rfl
def jAm (k j : Nat) : Prop := k = 120 ∨ k = 121 ∨ (132 ≤ k ∧ k ≤ 134) ∨ (k = 115 ∧ ((1 ≤ j ∧ j ≤ 4) ∨ (30 ≤ j ∧ j ≤ 34)))
def MC (k : List Cl) (w : qW) : Prop := okR 9999 9999 (PM w) ∧ KC w k ∧ qi w 115 30 = 9999
/-- at rest -/
def MA (k : List Cl) (w0 w : qW) : Prop := Sh w ∧ Fr jAm w0 w ∧ MC k w ∧ PM w = PM w0
/-- gone on -/
def MB (k : List Cl) (w0 w : qW) : Prop := Sh w ∧ Fr jAm w0 w ∧ (qi w 115 31 = pf (PM w0) ∧ qi w 115 32 = pk (PM w0) ∧ qi w 115 33 = pm (PM w0) ∧ qz (qi w 115 34) = ps (PM w0)) ∧ (∀ i, i < 6 → qi w 133 i = pa (PM w0) i 4 ∧ qi w 134 i = pa (PM w0) i 5) ∧ qi w 115 30 = 2000000000 ∧ KC w k ∧ okR 9999 9999 (PM w0)
def TM (M : Nat) (w : qW) (p : Pn) : Prop := okR M M (PM w) ∧ nmP (PM w) = p
theorem KC.am {w1 : qW} (h : KC w k) (hf : Fr jAm w w1) : KC w1 k := h.fr (fun k j _ _ => (hf k j (by unfold jAm; omega)).1) (hf 115 13 (by unfold jAm; omega)).1
variable {w0 : qW} {p : Pn} {M : Nat}
theorem MA.self (hw : Sh w) (h : MC k w) : MA k w w := ⟨hw, Fr.rf, h, rfl⟩
theorem MA.tr {w1 : qW} (h : MA k w0 w) (h1 : MA k w w1) : MA k w0 w1 := ⟨h1.1, h.2.1.tr h1.2.1, h1.2.2.1, h1.2.2.2.trans h.2.2.2⟩
theorem h_save {Q : qW → Prop} (h : MA k w0 w) (hQ : ∀ w1, MB k w0 w1 → TM 9999 w1 (nmP (PM w0)) → Q w1) :
    ∀ (n i : Nat) (w1 : qW), i + n = 6 → Sh w1 → Fr (fun k j => k = 133 ∨ k = 134 ∨ (k = 115 ∧ 30 ≤ j ∧ j ≤ 34)) w w1 → (qi w1 115 31 = pf (PM w) ∧ qi w1 115 32 = pk (PM w) ∧ qi w1 115 33 = pm (PM w) ∧ qz (qi w1 115 34) = ps (PM w)) → qi w1 115 30 = 2000000000 → (∀ j, j < i → qi w1 133 j = pa (PM w) j 4 ∧ qi w1 134 j = pa (PM w) j 5) → c_Mo_save_41 d E Q (nI i) w1 := by
  intro n
  induction n with
  | zero =>
    intro i w1 hi hw1 hf h1 h2 h3
    have : i = 6 := by omega
    subst this
    refine s_Mo_save_41 hw1 (pk_le 6 6 (fun _ => hQ w1 ?_ ?_) (fun z => by omega))
    · have hf' : Fr jAm w w1 := hf.mono (fun k j q => by unfold jAm; omega)
      rw [h.2.2.2] at h1 h3
      obtain ⟨m1, m2, m3⟩ := h.2.2.1
      exact ⟨hw1, h.2.1.tr hf', h1, h3, h2, m2.am hf', by rw [← h.2.2.2]; exact m1⟩
    · have e : PM w1 = PM w := PM_e (fun j hj => (hf 115 j (by omega)).1) (fun k j a b => (hf k j (by omega)).1)
      exact ⟨by rw [e]; exact h.2.2.1.1, by rw [e, h.2.2.2]⟩
  | succ n ih =>
    intro i w1 hi hw1 hf h1 h2 h3
    have hin : vp_in (nI i) 6 := nvp (by omega) (by omega)
    have e4 : qi w1 120 i = pa (PM w) i 4 := ((hf 120 i (by omega)).1).trans (aM_6 (a := 4) (by omega) (by omega)).symm
    have e5 : qi w1 121 i = pa (PM w) i 5 := ((hf 121 i (by omega)).1).trans (aM_6 (a := 5) (by omega) (by omega)).symm
    refine s_Mo_save_41 hw1 (pk_le 6 i (fun z => by omega) (fun _ => ⟨hin, hin, hin, hin, ?_⟩))
    rw [ncl (a := i) (by omega), n1, qi_k (a := 121) (by decide), e4, e5]
    refine ih (i + 1) _ (by omega) hw1 ((hf.pi (Or.inl rfl)).pi (Or.inr (Or.inl rfl))) h1 h2 (fun j hj => ?_)
    by_cases q : j = i
    · rw [q, qi_k (by decide), qi_eq rfl rfl, qi_eq rfl rfl]
      exact ⟨rfl, rfl⟩
    · rw [qi_k (by decide), qi_j q, qi_j q, qi_k (by decide)]
      exact h3 j (by omega)
theorem b_save {Q : qW → Prop} (h : MA k w0 w) (hQ : ∀ w1, MB k w0 w1 → TM 9999 w1 (nmP (PM w0)) → Q w1) : CaV d M_Mo_save [.ref (qb E + 115)] E w Q := by
  refine en_Mo_save h.1 (s_Mo_save_0 h.1 ?_)
  simp (disch := omega) only [qi_j]
  refine h_save h hQ 6 0 _ (by omega) h.1 ?_ ⟨?_, ?_, ?_, ?_⟩ ?_ (fun j hj => by omega)
  · have pp : ∀ {w2 : qW} (j : Nat) (x : Int32), 30 ≤ j → j ≤ 34 → Fr (fun k j => k = 133 ∨ k = 134 ∨ (k = 115 ∧ 30 ≤ j ∧ j ≤ 34)) w w2 → Fr (fun k j => k = 133 ∨ k = 134 ∨ (k = 115 ∧ 30 ≤ j ∧ j ≤ 34)) w (qpi w2 115 j x) := fun j x a b h => h.pi (Or.inr (Or.inr ⟨rfl, a, b⟩))
    exact pp _ _ (by decide) (by decide) (pp _ _ (by decide) (by decide) (pp _ _ (by decide) (by decide) (pp _ _ (by decide) (by decide) (pp _ _ (by decide) (by decide) Fr.rf))))
  · simp (disch := omega) only [qi_j, qi_eq]; rfl
  · simp (disch := omega) only [qi_j, qi_eq]; rfl
  · simp (disch := omega) only [qi_j, qi_eq]; rfl
  · simp (disch := omega) only [qi_j, qi_eq]; rw [qzz]; rfl
  · simp (disch := omega) only [qi_j, qi_eq]
theorem h_back {Q : qW → Prop} (h : MB k w0 w) (hQ : ∀ w1, MA k w0 w1 → Q w1) :
    ∀ (n i : Nat) (w1 : qW), i + n = 6 → Sh w1 → Fr (fun k j => k = 120 ∨ k = 121 ∨ (k = 115 ∧ ((1 ≤ j ∧ j ≤ 4) ∨ j = 30))) w w1 → (qi w1 115 1 = pf (PM w0) ∧ qi w1 115 2 = pk (PM w0) ∧ qi w1 115 3 = pm (PM w0) ∧ qz (qi w1 115 4) = ps (PM w0)) → qi w1 115 30 = 9999 → (∀ j, j < i → qi w1 120 j = pa (PM w0) j 4 ∧ qi w1 121 j = pa (PM w0) j 5) → c_Mo_putBack_41 d E Q (nI i) w1 := by
  intro n
  induction n with
  | zero =>
    intro i w1 hi hw1 hf h1 h2 h3
    have : i = 6 := by omega
    subst this
    obtain ⟨b1, b2, b3, b4, b5, b6, b7⟩ := h
    have hf' : Fr jAm w w1 := hf.mono (fun k j q => by unfold jAm; omega)
    have hf0 := b2.tr hf'
    have ea : aM w1 = aM w0 := by
      funext i a
      by_cases hi6 : i < 6
      · by_cases a4 : a = 4
        · rw [a4]
          exact (aM_6 (w := w1) (a := 4) hi6 (by omega)).trans (h3 i hi6).1
        · by_cases a5 : a = 5
          · rw [a5]
            exact (aM_6 (w := w1) (a := 5) hi6 (by omega)).trans (h3 i hi6).2
          · unfold aM
            rw [if_pos hi6, if_pos hi6]
            by_cases a6 : a < 6
            · rw [if_pos a6, if_pos a6]
              exact (hf0 _ _ (by unfold jAm; omega)).1
            · rw [if_neg a6, if_neg a6, (hf0 122 _ (by unfold jAm; omega)).1]
      · unfold aM
        rw [if_neg hi6, if_neg hi6]
    have e : PM w1 = PM w0 := by
      have e0 : PM w1 = (qi w1 115 0, qi w1 115 1, qi w1 115 2, qz (qi w1 115 4), qi w1 115 3, (if qi w1 115 13 < 0 then 2 else 77 + 4 * (qi w1 115 13).toNatClampNeg), aM w1) := rfl
      rw [e0, ea, h1.1, h1.2.1, h1.2.2.1, h1.2.2.2, (hf0 115 0 (by unfold jAm; omega)).1, (hf0 115 13 (by unfold jAm; omega)).1]
      rfl
    exact s_Mo_putBack_41 hw1 (pk_le 6 6 (fun _ => hQ w1 ⟨hw1, hf0, ⟨by rw [e]; exact b7, b6.am hf', h2⟩, e⟩) (fun z => by omega))
  | succ n ih =>
    intro i w1 hi hw1 hf h1 h2 h3
    have hin : vp_in (nI i) 6 := nvp (by omega) (by omega)
    obtain ⟨e4, e5⟩ := h.2.2.2.1 i (by omega)
    rw [← (hf 133 i (by omega)).1] at e4
    rw [← (hf 134 i (by omega)).1] at e5
    refine s_Mo_putBack_41 hw1 (pk_le 6 i (fun z => by omega) (fun _ => ⟨hin, hin, hin, hin, ?_⟩))
    rw [ncl (a := i) (by omega), n1, qi_k (a := 134) (by decide), e4, e5]
    refine ih (i + 1) _ (by omega) hw1 ((hf.pi (Or.inl rfl)).pi (Or.inr (Or.inl rfl))) h1 h2 (fun j hj => ?_)
    by_cases q : j = i
    · rw [q, qi_k (by decide), qi_eq rfl rfl, qi_eq rfl rfl]
      exact ⟨rfl, rfl⟩
    · rw [qi_k (by decide), qi_j q, qi_j q, qi_k (by decide)]
      exact h3 j (by omega)
theorem b_back {Q : qW → Prop} (h : MB k w0 w) (hQ : ∀ w1, MA k w0 w1 → Q w1) : CaV d M_Mo_putBack [.ref (qb E + 115)] E w Q := by
  refine en_Mo_putBack h.1 (s_Mo_putBack_0 h.1 ?_)
  simp (disch := omega) only [qi_j]
  obtain ⟨e1, e2, e3, e4⟩ := h.2.2.1
  refine h_back h hQ 6 0 _ (by omega) h.1 ?_ ⟨?_, ?_, ?_, ?_⟩ ?_ (fun j hj => by omega)
  · have pp : ∀ {w2 : qW} (j : Nat) (x : Int32), ((1 ≤ j ∧ j ≤ 4) ∨ j = 30) → Fr (fun k j => k = 120 ∨ k = 121 ∨ (k = 115 ∧ ((1 ≤ j ∧ j ≤ 4) ∨ j = 30))) w w2 → Fr (fun k j => k = 120 ∨ k = 121 ∨ (k = 115 ∧ ((1 ≤ j ∧ j ≤ 4) ∨ j = 30))) w (qpi w2 115 j x) := fun j x a h => h.pi (Or.inr (Or.inr ⟨rfl, a⟩))
    exact pp _ _ (by decide) (pp _ _ (by decide) (pp _ _ (by decide) (pp _ _ (by decide) (pp _ _ (by decide) Fr.rf))))
  · simp (disch := omega) only [qi_j, qi_eq]; exact e1
  · simp (disch := omega) only [qi_j, qi_eq]; exact e2
  · simp (disch := omega) only [qi_j, qi_eq]; exact e3
  · simp (disch := omega) only [qi_j, qi_eq]; rw [qzz]; exact e4
  · simp (disch := omega) only [qi_j, qi_eq]
/-- a change while gone on -/
theorem MB.go {w1 : qW} (h : MB k w0 w) (hw1 : Sh w1) (hf : Fr (fun k j => k = 120 ∨ k = 121 ∨ k = 132 ∨ (k = 115 ∧ 1 ≤ j ∧ j ≤ 4)) w w1) : MB k w0 w1 := by
  obtain ⟨b1, b2, ⟨k1, k2, k3, k4⟩, b4, b5, b6, b7⟩ := h
  have hf' : Fr jAm w w1 := hf.mono (fun k j q => by unfold jAm; omega)
  refine ⟨hw1, b2.tr hf', ⟨(hf 115 31 (by omega)).1.trans k1, (hf 115 32 (by omega)).1.trans k2, (hf 115 33 (by omega)).1.trans k3, by rw [(hf 115 34 (by omega)).1]; exact k4⟩, fun i hi => ⟨(hf 133 i (by omega)).1.trans (b4 i hi).1, (hf 134 i (by omega)).1.trans (b4 i hi).2⟩, (hf 115 30 (by omega)).1.trans b5, b6.am hf', b7⟩
theorem b_min {Q : qW → Prop} (h : MB k w0 w) (ht : TM M w p) (hM : M ≤ 19999) (hQ : ∀ w1, MB k w0 w1 → TM (M + 1) w1 (mi k p) → Q w1) : CaV (d + 5) M_Mo_goMinute [.ref (qb E + 115)] E w Q := by
  obtain ⟨t1, t2⟩ := ht
  obtain ⟨c, c1, c2, c3⟩ := t1.c
  obtain ⟨m, m1, m2⟩ := t1.2.2.2.2.1
  refine p_Mo_goMinute (k := k) (c := c) (m := m) h.1 c1 c2 (by omega) m2 h.2.2.2.2.2.1 (fun w1 hw1 hf he => ?_)
  rw [h.2.2.2.2.1] at he
  have ho : okR (M + 1) (M + 1) (PM w1) := by rw [he]; exact okR_mi (C := 2000000000) t1 rfl (by omega) (by omega) (by omega) (by omega)
  refine hQ w1 (h.go hw1 (hf.mono (fun k j q => by unfold jMi at q; omega))) ⟨ho, ?_⟩
  rw [he, nm_mi (cap := 2000000000) (C := 2000000000) t1 (by omega) rfl (by omega) (by omega), t2]
  rfl
theorem h_bmins {Q : qW → Prop} {N : Nat} (hN : N ≤ 20000) (hQ : ∀ w1, MB k w0 w1 → TM (M + N) w1 (it k N p) → Q w1) :
    ∀ (n i : Nat) (w : qW), i + n = N → M + N ≤ 20000 → MB k w0 w → TM (M + i) w (it k i p) → c_Mo_goMinutes_2 d E Q (nI N) (nI i) w := by
  intro n
  induction n with
  | zero =>
    intro i w hi hM h ht
    have : i = N := by omega
    subst this
    exact s_Mo_goMinutes_2 h.1 (pk_le i i (fun _ => hQ w h ht) (fun z => by omega))
  | succ n ih =>
    intro i w hi hM h ht
    refine s_Mo_goMinutes_2 h.1 (pk_le N i (fun z => by omega) (fun _ => b_min h ht (by omega) (fun w1 h1 t1 => ?_)))
    rw [n1]
    rw [← it_s] at t1
    exact ih (i + 1) w1 (by omega) hM h1 t1
theorem b_mins {Q : qW → Prop} {N : Nat} (h : MB k w0 w) (ht : TM M w p) (hM : M + N ≤ 20000) (hQ : ∀ w1, MB k w0 w1 → TM (M + N) w1 (it k N p) → Q w1) : CaV (d + 6) M_Mo_goMinutes [.ref (qb E + 115), .int (nI N)] E w Q :=
  en_Mo_goMinutes h.1 (s_Mo_goMinutes_0 h.1 (h_bmins (by omega) hQ N 0 w (by omega) hM h ht))
theorem b_put {Q : qW → Prop} {i : Nat} (h : MB k w0 w) (ht : TM M w p) (hi : i < 6) (hQ : ∀ w1, MB k w0 w1 → TM M w1 (puP i p) → Q w1) : CaV d M_Mo_puts [.ref (qb E + 115), .int (nI i)] E w Q := by
  refine en_Mo_puts h.1 (s_Mo_puts_0 h.1 ⟨nvp hi (by omega), nvp hi (by omega), ?_⟩)
  rw [ncl (by omega)]
  have e : PM (qpi (qpi w 120 i 1) 121 i 0) = puP i (PM w) := by
    rw [show (121 : Nat) = 116 + 5 from rfl, PM_t hi (by omega), show (120 : Nat) = 116 + 4 from rfl, PM_t hi (by omega)]
    rfl
  exact hQ _ (h.go h.1 ((Fr.rf.pi (Or.inl rfl)).pi (Or.inr (Or.inl rfl)))) ⟨by rw [e]; exact okR_pu ht.1, by rw [e, nm_pu, ht.2]⟩
/-- saying, at rest too -/
theorem p_Mo_says {Q : qW → Prop} {i M T : Nat} (hw : Sh w) (ho : okR M T (PM w)) (hi : i < 6) (hQ : ∀ w1, Sh w1 → Fr (fun k j => k = 120 ∨ (k = 115 ∧ j = 2)) w w1 → PM w1 = spP i (PM w) → Q w1) : CaV d M_Mo_says [.ref (qb E + 115), .int (nI i)] E w Q := by
  have hin : vp_in (nI i) 6 := nvp hi (by omega)
  have e2 : qi w 118 i = pa (PM w) i 2 := (aM_6 (a := 2) hi (by omega)).symm
  have e1 : PM (qpi w 120 i 2) = sA (PM w) i 4 2 := by rw [show (120 : Nat) = 116 + 4 from rfl, PM_t hi (by omega)]
  have f1 : Fr (fun k j => k = 120 ∨ (k = 115 ∧ j = 2)) w (qpi w 120 i 2) := Fr.rf.pi (Or.inl rfl)
  refine en_Mo_says hw (s_Mo_says_0 hw ⟨hin, ?_⟩)
  rw [ncl (by omega), qi_k (a := 115) (c := 4) (by decide), qi_k (a := 115) (c := 2) (by decide), qi_k (a := 118) (by decide), e2]
  obtain ⟨kk, h3, h3'⟩ := ho.2.2.1
  obtain ⟨a, a1, a2⟩ := ten_w (ho.2.2.2.2.2 i hi).2.2.1
  have h3'' : qi w 115 2 = nI kk := h3'
  refine ⟨fun z => hQ _ hw f1 ?_, fun z => ⟨hin, ?_⟩⟩
  · have z' : ¬ ps (PM w) = 0 := z
    rw [e1]
    unfold spP coS
    rw [if_neg z']
    rfl
  · have z' : ps (PM w) = 0 := z
    have sp : spP i (PM w) = sK (sA (PM w) i 4 2) (if nI kk < nI (10 * a) then 0 else nI kk - nI (10 * a)) := by
      unfold spP coS
      rw [if_pos z', a2, h3']
    rw [a2, h3'']
    refine pk_le (10 * a) kk (fun y => ⟨hin, hQ _ hw (f1.pi (Or.inr ⟨rfl, rfl⟩)) ?_⟩) (fun y => hQ _ hw (f1.pi (Or.inr ⟨rfl, rfl⟩)) ?_)
    · rw [PM_K, e1, sp, if_neg (nI_nlt y (by omega))]
    · rw [PM_K, e1, sp, if_pos (nI_lt y (by omega))]
theorem b_sp {Q : qW → Prop} {i : Nat} (h : MB k w0 w) (ht : TM M w p) (hi : i < 6) (hQ : ∀ w1, MB k w0 w1 → TM M w1 (spP i p) → Q w1) : CaV d M_Mo_says [.ref (qb E + 115), .int (nI i)] E w Q :=
  p_Mo_says h.1 ht.1 hi (fun w1 hw1 hf he => hQ w1 (h.go hw1 (hf.mono (fun k j q => by omega))) ⟨by rw [he]; exact okR_sp ht.1 hi, by rw [he, nm_sp, ht.2]⟩)
theorem b_fire {x : Int32} (h : MB k w0 w) (ht : TM M w p) (hx : rg x 9) : MB k w0 (qpi w 115 1 x) ∧ TM M (qpi w 115 1 x) (sF p x) :=
  ⟨h.go h.1 (Fr.rf.pi (Or.inr (Or.inr (Or.inr ⟨rfl, by decide, by decide⟩)))), by rw [PM_F]; exact okR_F ht.1 hx, by rw [PM_F, nm_F, ht.2]⟩
theorem TM.set (h : TM M w p) : qz (qi w 115 4) = ps p := by rw [← h.2]; rfl
theorem TM.col (h : TM M w p) : qi w 115 2 = pk p := by rw [← h.2]; rfl
theorem TM.st {i : Nat} (h : TM M w p) (hi : i < 6) : qi w 120 i = pa p i 4 := by
  rw [← h.2, nm_a (by omega)]
  exact (aM_6 (a := 4) hi (by omega)).symm
theorem TM.cn (h : TM M w p) : ∃ c, c ≤ 6 ∧ qi w 115 0 = nI c ∧ cN p = c := by
  obtain ⟨c, c1, c2, c3⟩ := h.1.c
  exact ⟨c, c1, c2, by rw [← h.2]; exact c3⟩
theorem MA.tm (h : MA k w0 w) : TM 9999 w (nmP (PM w0)) := ⟨h.2.2.1.1, by rw [h.2.2.2]⟩
theorem nm_ok {T : Nat} {p : Pn} (h : okR M T p) (hT : T ≤ 100000) : okR M T (nmP p) := by
  obtain ⟨h1, h2, h3, h4, h5, h6⟩ := h
  refine ⟨h1, h2, h3, h4, h5, fun i hi => ?_⟩
  obtain ⟨a0, a1, a2, a3, a4, ⟨t, a5, a5'⟩, a6, a7⟩ := h6 i hi
  refine ⟨by rw [nm_a (by omega)]; exact a0, by rw [nm_a (by omega)]; exact a1, by rw [nm_a (by omega)]; exact a2, by rw [nm_a (by omega)]; exact a3, by rw [nm_a (by omega)]; exact a4, ?_, fun b hb => by rw [nm_a (by omega)]; exact a6 b hb, by rw [nm_a (by omega)]; exact a7⟩
  rw [nm_5, a5', m9_nI (by omega)]
  exact ⟨min t 9, by omega, rfl⟩
theorem MA.ok (h : MA k w0 w) : okR 9999 9999 (nmP (PM w0)) := by
  have := h.2.2.1.1
  rw [h.2.2.2] at this
  exact nm_ok this (by omega)
end MA
