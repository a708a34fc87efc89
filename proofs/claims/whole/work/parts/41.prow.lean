/-! the pairs: what is told by hand -/
section PR2
variable {d : Nat} {E : qE} {w w1 w2 : qW} {kk : Nat → List Cl} {n : Nat}
def R1 (w : qW) : Prop := ∃ n, n ≤ 5 ∧ qi w 6 2 = nI n ∧ qi w 115 39 = nI n ∧ (∀ j, j < 5 → qi w 7 j = qi w 137 j ∧ qi w 8 j = qi w 138 j) ∧ ∀ j, j < n → rg (qi w 137 j) 12
def R2 (w : qW) (c : Nat) : Prop := ∃ n, n ≤ 10 ∧ qi w 9 2 = nI n ∧ qi w 115 42 = nI n ∧ (∀ j, j < 10 → qi w 10 j = qi w 139 j ∧ (¬ qi w 139 j = 0 → qi w 11 j = qi w 140 j)) ∧ ∀ j, j < n → okPl c (qi w 139 j) (qi w 140 j)
def R3 (w : qW) (c : Nat) : Prop := ∃ n, n ≤ 8 ∧ qi w 12 2 = nI n ∧ qi w 115 43 = nI n ∧ (∀ j, j < 8 → qi w 13 j = qi w 141 j ∧ qi w 14 j = qi w 142 j) ∧ ∀ j, j < n → ∃ i, i < c ∧ qi w 141 j = nI i
theorem RWs.spl {c : Nat} (h : RWs w 6 39 42 43 137 c) : R1 w ∧ R2 w c ∧ R3 w c := h
theorem RWs.mk1 {c : Nat} (h1 : R1 w) (h2 : R2 w c) (h3 : R3 w c) : RWs w 6 39 42 43 137 c := ⟨h1, h2, h3⟩
theorem R1.fr (h : R1 w) (g : ∀ k j, (6 ≤ k ∧ k ≤ 8) ∨ k = 137 ∨ k = 138 ∨ (k = 115 ∧ j = 39) → qi w1 k j = qi w k j) : R1 w1 := by
  obtain ⟨n, a1, a2, a3, a4, a5⟩ := h
  refine ⟨n, a1, by rw [g _ _ (by omega)]; exact a2, by rw [g _ _ (by omega)]; exact a3, fun j hj => ?_, fun j hj => by rw [g _ _ (by omega)]; exact a5 j hj⟩
  rw [g 7 _ (by omega), g 8 _ (by omega), g 137 _ (by omega), g 138 _ (by omega)]
  exact a4 j hj
theorem R2.fr {c : Nat} (h : R2 w c) (g : ∀ k j, (9 ≤ k ∧ k ≤ 11) ∨ k = 139 ∨ k = 140 ∨ (k = 115 ∧ j = 42) → qi w1 k j = qi w k j) : R2 w1 c := by
  obtain ⟨n, a1, a2, a3, a4, a5⟩ := h
  refine ⟨n, a1, by rw [g _ _ (by omega)]; exact a2, by rw [g _ _ (by omega)]; exact a3, fun j hj => ?_, fun j hj => by rw [g 139 _ (by omega), g 140 _ (by omega)]; exact a5 j hj⟩
  rw [g 10 _ (by omega), g 11 _ (by omega), g 139 _ (by omega), g 140 _ (by omega)]
  exact a4 j hj
theorem R3.fr {c : Nat} (h : R3 w c) (g : ∀ k j, (12 ≤ k ∧ k ≤ 14) ∨ k = 141 ∨ k = 142 ∨ (k = 115 ∧ j = 43) → qi w1 k j = qi w k j) : R3 w1 c := by
  obtain ⟨n, a1, a2, a3, a4, a5⟩ := h
  refine ⟨n, a1, by rw [g _ _ (by omega)]; exact a2, by rw [g _ _ (by omega)]; exact a3, fun j hj => ?_, fun j hj => by rw [g 141 _ (by omega)]; exact a5 j hj⟩
  rw [g 13 _ (by omega), g 14 _ (by omega), g 141 _ (by omega), g 142 _ (by omega)]
  exact a4 j hj
/-- a row told, on both sides -/
def wX (w : qW) (r m : Nat) (x1 x2 : Int32) : qW := qpi (qpi (qpi w (r + 1) m x1) (r + 2) m x2) r 2 (nI (m + 1))
def wM (w : qW) (a s m : Nat) (x1 x2 : Int32) : qW := qpi (qpi (qpi w a m x1) (a + 1) m x2) 115 s (nI (m + 1))
theorem qi_sel {w : qW} {k m j : Nat} {x : Int32} : qi (qpi w k m x) k j = if j = m then x else qi w k j := by
  by_cases h : j = m
  · rw [if_pos h, qi_eq rfl h]
  · rw [if_neg h, qi_j h]
theorem wX_f {r m : Nat} {x1 x2 : Int32} : qi (wX w r m x1 x2) r 2 = nI (m + 1) ∧ (∀ j, qi (wX w r m x1 x2) (r + 1) j = if j = m then x1 else qi w (r + 1) j) ∧ (∀ j, qi (wX w r m x1 x2) (r + 2) j = if j = m then x2 else qi w (r + 2) j) ∧ Fr (fun k _ => r ≤ k ∧ k ≤ r + 2) w (wX w r m x1 x2) := by
  unfold wX
  refine ⟨qi_eq rfl rfl, fun j => ?_, fun j => ?_, ((Fr.rf.pi (by omega)).pi (by omega)).pi (by omega)⟩
  · rw [qi_k (by omega), qi_k (by omega), qi_sel]
  · rw [qi_k (by omega), qi_sel, qi_k (by omega)]
theorem wM_f {a s m : Nat} {x1 x2 : Int32} (ha : 137 ≤ a) : qi (wM w a s m x1 x2) 115 s = nI (m + 1) ∧ (∀ j, qi (wM w a s m x1 x2) a j = if j = m then x1 else qi w a j) ∧ (∀ j, qi (wM w a s m x1 x2) (a + 1) j = if j = m then x2 else qi w (a + 1) j) ∧ Fr (fun k j => k = a ∨ k = a + 1 ∨ (k = 115 ∧ j = s)) w (wM w a s m x1 x2) := by
  unfold wM
  refine ⟨qi_eq rfl rfl, fun j => ?_, fun j => ?_, ((Fr.rf.pi (by omega)).pi (by omega)).pi (by omega)⟩
  · rw [qi_k (by omega), qi_k (by omega), qi_sel]
  · rw [qi_k (by omega), qi_sel, qi_k (by omega)]
theorem p_add {Q : qW → Int32 → Prop} {r N m : Nat} {x1 x2 : Int32} (hw : Sh w) (hr : isRo r N) (hm : m ≤ N) (hcn : qi w r 2 = nI m) (hF : m = N → Q w (-4)) (hQ : m < N → Sh (wX w r m x1 x2) → Q (wX w r m x1 x2) (nI (m + 1))) : CaI d M_Ro_add [.ref (qb E + r), .int x1, .int x2] E w Q := by
  have hN := hr.le
  refine en_Ro_add hw (s_Ro_add_0 hw hr ?_)
  rw [hcn]
  refine ⟨fun z => absurd z (nI_pos (by omega)), fun _ => ⟨fun z => hF ?_, fun z => ⟨fun _ => ?_, fun y => absurd ?_ y⟩⟩⟩
  · have := (nle (a := N) (b := m) (by omega) (by omega)).mp z
    omega
  · have hlt : m < N := Nat.not_le.mp (fun q => z ((nle (a := N) (b := m) (by omega) (by omega)).mpr q))
    rw [ncl (by omega), qi_k (a := r) (by omega), hcn, ncl (by omega), qi_k (a := r) (by omega), qi_k (a := r) (by omega), hcn, qi_eq rfl rfl, n1]
    exact ⟨nvp hlt (by omega), nvp hlt (by omega), hQ hlt hw⟩
  · exact (nlt (a := m) (b := N) (by omega) (by omega)).mpr (Nat.not_le.mp (fun q => z ((nle (a := N) (b := m) (by omega) (by omega)).mpr q)))
theorem p_emp {Q : qW → Int32 → Prop} {r N : Nat} (hw : Sh w) (hr : isRo r N) (hQ : Sh (qpi w r 2 0) → Q (qpi w r 2 0) 0) : CaI d M_Ro_empty [.ref (qb E + r)] E w Q := en_Ro_empty hw (s_Ro_empty_0 hw hr (hQ hw))
def jRo (k j : Nat) : Prop := (6 ≤ k ∧ k ≤ 14) ∨ (k = 115 ∧ (j = 39 ∨ j = 42 ∨ j = 43)) ∨ (137 ≤ k ∧ k ≤ 142)
theorem J.row (h : J kk n w) (hf : Fr jRo w w1) (b : RWs w1 6 39 42 43 137 (cN (PM w))) : J kk n w1 := by
  have g : ∀ k j, ¬ jRo k j → qi w1 k j = qi w k j := fun k j q => (hf k j q).1
  exact h.out (hf.mono (fun k j q => by unfold jRo at q; unfold jOut; omega)) b (h.2.2.2.1.fr (fun a j q => g a j (by unfold jRo; omega))) (h.2.2.2.2.2.1.fr (fun a j q => g a j (by unfold jRo; omega))) (h.2.2.2.2.2.2.1.fr (fun a j q => ⟨g a j (by unfold jRo; omega), (hf a j (by unfold jRo; omega)).2.1⟩))
theorem ne1 {m : Nat} (h : m < 1000000) : ¬ nI m = -1 := ni_ne h _ (by decide)
theorem out1 {x : Int32} {b : Nat} (h : x = -1) (hb : b < 1000000) : x < nI 0 ∨ nI b < x := Or.inl (by rw [h]; decide)
theorem wh5 : isWh 5 := Or.inl rfl
theorem pr_see : pair_see E (I E) := by
  intro d w a1 a2 hw hI
  obtain ⟨kk, n, hJ⟩ := id hI
  obtain ⟨S1, S2, S3⟩ := hJ.2.1.spl
  obtain ⟨m, b1, b2, b3, b4, b5⟩ := id S1
  refine en_Qu_see hw (s_Qu_see_0 hw ⟨fun z => ?_, fun z => ?_⟩)
  · rcases rng (x := a1) 0 12 (by omega) (by omega) with h1 | ⟨t, -, h1, rfl⟩
    · exact p_wo hw h1 (f2 (en_Mo_see hw (s_Mo_see_0 hw ⟨fun _ => p_mo hw h1 (f2 ⟨rfl, hI⟩), fun y => absurd y z⟩)))
    refine p_wi (a := 0) (b := 12) hw (by omega) h1 (t2 ?_)
    rcases rng (x := a2) 0 9999 (by omega) (by omega) with h2 | ⟨q, -, h2, rfl⟩
    · exact p_wo hw h2 (f1 (en_Mo_see hw (s_Mo_see_0 hw ⟨fun _ => p_mi (a := 0) (b := 12) hw (by omega) h1 (t2 (p_mo hw h2 (f1 ⟨rfl, hI⟩))), fun y => absurd y z⟩)))
    refine p_wi (a := 0) (b := 9999) hw (by omega) h2 (t1 ?_)
    refine p_add hw (isRo1 wh5) b1 b2 (fun hm => ?_) (fun hm hw1 => ?_)
    · refine en_Mo_see hw (s_Mo_see_0 hw ⟨fun _ => p_mi (a := 0) (b := 12) hw (by omega) h1 (t2 (p_mi (a := 0) (b := 9999) hw (by omega) h2 (t1 ⟨fun y => absurd ?_ y, fun _ => ⟨rfl, hI⟩⟩))), fun y => absurd y z⟩)
      rw [b3, hm]
      rfl
    · have e6 : wX w (5 + 1) m (nI t) (nI q) = wX w 6 m (nI t) (nI q) := rfl
      rw [e6] at hw1 ⊢
      obtain ⟨u1, u2, u3, u4⟩ := wX_f (w := w) (r := 6) (m := m) (x1 := nI t) (x2 := nI q)
      generalize wX w 6 m (nI t) (nI q) = W at hw1 u1 u2 u3 u4
      have gW : ∀ k j, ¬ (6 ≤ k ∧ k ≤ 8) → qi W k j = qi w k j := fun k j q => (u4 k j q).1
      have b3' : qi W 115 39 = nI m := (gW _ _ (by omega)).trans b3
      refine en_Mo_see hw1 (s_Mo_see_0 hw1 ⟨fun _ => p_mi (a := 0) (b := 12) hw1 (by omega) h1 (t2 (p_mi (a := 0) (b := 9999) hw1 (by omega) h2 (t1 ?_))), fun y => absurd y z⟩)
      have hcv : vp_in (nI m) 5 := nvp hm (by omega)
      simp (disch := omega) only [qi_k, b3', ncl, n1, qi_eq]
      refine ⟨fun _ => ⟨hcv, hcv, ?_, ?_⟩, fun y => absurd ((neq (b := 5) (by omega) (by omega)).mp y) (by omega)⟩
      · first | rfl | trivial
      show I E (wM W 137 39 m (nI t) (nI q))
      obtain ⟨v1, v2, v3, v4⟩ := wM_f (w := W) (a := 137) (s := 39) (m := m) (x1 := nI t) (x2 := nI q) (by omega)
      generalize wM W 137 39 m (nI t) (nI q) = V at v1 v2 v3 v4
      have gV : ∀ k j, ¬ (k = 137 ∨ k = 137 + 1 ∨ (k = 115 ∧ j = 39)) → qi V k j = qi W k j := fun k j q => (v4 k j q).1
      have gg : ∀ k j, ¬ (6 ≤ k ∧ k ≤ 8) → ¬ (k = 137 ∨ k = 137 + 1 ∨ (k = 115 ∧ j = 39)) → qi V k j = qi w k j := fun k j a b => (gV k j b).trans (gW k j a)
      refine ⟨kk, n, hJ.row ((u4.mono (fun k j q => by unfold jRo; omega)).tr (v4.mono (fun k j q => by unfold jRo; omega))) (RWs.mk1 ⟨m + 1, by omega, (gV 6 2 (by omega)).trans u1, v1, fun j hj => ⟨?_, ?_⟩, fun j hj => ?_⟩ (S2.fr (fun k j q => gg k j (by omega) (by omega))) (S3.fr (fun k j q => gg k j (by omega) (by omega))))⟩
      · rw [gV 7 j (by omega), v2, gW 137 j (by omega)]
        have := u2 j
        rw [show qi W 7 j = qi W (6 + 1) j from rfl, this]
        by_cases hjm : j = m
        · rw [if_pos hjm, if_pos hjm]
        · rw [if_neg hjm, if_neg hjm]; exact (b4 j hj).1
      · rw [gV 8 j (by omega), show qi V 138 j = qi V (137 + 1) j from rfl, v3, gW (137 + 1) j (by omega)]
        have := u3 j
        rw [show qi W 8 j = qi W (6 + 2) j from rfl, this]
        by_cases hjm : j = m
        · rw [if_pos hjm, if_pos hjm]
        · rw [if_neg hjm, if_neg hjm]; exact (b4 j hj).2
      · rw [v2, gW 137 j (by omega)]
        by_cases hjm : j = m
        · rw [if_pos hjm]; exact ⟨t, h1, rfl⟩
        · rw [if_neg hjm]; exact b5 j (by omega)
  · refine p_emp hw (isRo1 wh5) (fun hw1 => en_Mo_see hw1 (s_Mo_see_0 hw1 ⟨fun y => absurd z y, fun _ => ⟨rfl, kk, n, ?_⟩⟩))
    show J kk n (qpi (qpi w 6 2 0) 115 39 0)
    have hf : Fr (fun k j => k = 6 ∨ (k = 115 ∧ j = 39)) w (qpi (qpi w 6 2 0) 115 39 0) := (Fr.rf.pi (Or.inl rfl)).pi (Or.inr ⟨rfl, rfl⟩)
    have v1 : qi (qpi (qpi w 6 2 0) 115 39 0) 115 39 = 0 := qi_eq rfl rfl
    have v2 : qi (qpi (qpi w 6 2 0) 115 39 0) 6 2 = 0 := (qi_k (by omega)).trans (qi_eq rfl rfl)
    generalize qpi (qpi w 6 2 0) 115 39 0 = V at hf v1 v2
    have g : ∀ k j, ¬ (k = 6 ∨ (k = 115 ∧ j = 39)) → qi V k j = qi w k j := fun k j q => (hf k j q).1
    refine hJ.row (hf.mono (fun k j q => by unfold jRo; omega)) (RWs.mk1 ⟨0, by omega, v2, v1, fun j hj => ?_, fun j hj => by omega⟩ (S2.fr (fun k j q => g k j (by omega))) (S3.fr (fun k j q => g k j (by omega))))
    rw [g 7 j (by omega), g 8 j (by omega), g 137 j (by omega), g 138 j (by omega)]
    exact b4 j hj
theorem pr_book : pair_book E (I E) := by
  intro d w a1 a2 hw hI
  obtain ⟨kk, n, hJ⟩ := id hI
  obtain ⟨c, c1, c2, c3, c4⟩ := hJ.cn
  obtain ⟨S1, S2, S3⟩ := hJ.2.1.spl
  obtain ⟨m, b1, b2, b3, b4, b5⟩ := id S3
  refine en_Qu_book hw (s_Qu_book_0 hw ⟨fun z => ?_, fun z => ?_⟩)
  · rcases thg (x := a1) c c1 with h1 | ⟨t, h1, rfl⟩
    · exact p_find_n hw pan15 c2 h1 (Or.inl ⟨rfl, en_Mo_book hw (s_Mo_book_0 hw ⟨fun _ => p_thg0 hw c1 c3 h1 (f1 ⟨rfl, hI⟩), fun y => absurd y z⟩)⟩)
    refine p_find_s hw pan15 c1 c2 h1 (Or.inr ⟨t, by omega, rfl, ?_⟩)
    rcases rng (x := a2) 0 20 (by omega) (by omega) with h2 | ⟨q, -, h2, rfl⟩
    · exact p_wo hw h2 (f1 (en_Mo_book hw (s_Mo_book_0 hw ⟨fun _ => p_thg1 hw c1 c3 h1 (t1 (p_wgt0 hw h2 (f1 ⟨rfl, hI⟩))), fun y => absurd y z⟩)))
    refine p_wi (a := 0) (b := 20) hw (by omega) h2 (t1 ?_)
    refine p_add hw (isRo3 wh5) b1 b2 (fun hm => ?_) (fun hm hw1 => ?_)
    · refine en_Mo_book hw (s_Mo_book_0 hw ⟨fun _ => p_thg1 hw c1 c3 h1 (t1 (p_wgt1 hw h2 (t1 ⟨fun y => absurd ?_ y, fun _ => ⟨rfl, hI⟩⟩))), fun y => absurd y z⟩)
      rw [b3, hm]
      rfl
    · have e6 : wX w (5 + 7) m (nI t) (nI q) = wX w 12 m (nI t) (nI q) := rfl
      rw [e6] at hw1 ⊢
      obtain ⟨u1, u2, u3, u4⟩ := wX_f (w := w) (r := 12) (m := m) (x1 := nI t) (x2 := nI q)
      generalize wX w 12 m (nI t) (nI q) = W at hw1 u1 u2 u3 u4
      have gW : ∀ k j, ¬ (12 ≤ k ∧ k ≤ 14) → qi W k j = qi w k j := fun k j q => (u4 k j q).1
      have b3' : qi W 115 43 = nI m := (gW _ _ (by omega)).trans b3
      have c3' : qi W 115 0 = nI c := (gW _ _ (by omega)).trans c3
      refine en_Mo_book hw1 (s_Mo_book_0 hw1 ⟨fun _ => p_thg1 hw1 c1 c3' h1 (t1 (p_wgt1 hw1 h2 (t1 ?_))), fun y => absurd y z⟩)
      have hcv : vp_in (nI m) 8 := nvp hm (by omega)
      simp (disch := omega) only [qi_k, b3', ncl, n1, qi_eq]
      refine ⟨fun _ => ⟨hcv, hcv, ?_, ?_⟩, fun y => absurd ((neq (b := 8) (by omega) (by omega)).mp y) (by omega)⟩
      · first | rfl | trivial
      show I E (wM W 141 43 m (nI t) (nI q))
      obtain ⟨v1, v2, v3, v4⟩ := wM_f (w := W) (a := 141) (s := 43) (m := m) (x1 := nI t) (x2 := nI q) (by omega)
      generalize wM W 141 43 m (nI t) (nI q) = V at v1 v2 v3 v4
      have gV : ∀ k j, ¬ (k = 141 ∨ k = 141 + 1 ∨ (k = 115 ∧ j = 43)) → qi V k j = qi W k j := fun k j q => (v4 k j q).1
      have gg : ∀ k j, ¬ (12 ≤ k ∧ k ≤ 14) → ¬ (k = 141 ∨ k = 141 + 1 ∨ (k = 115 ∧ j = 43)) → qi V k j = qi w k j := fun k j a b => (gV k j b).trans (gW k j a)
      refine ⟨kk, n, hJ.row ((u4.mono (fun k j q => by unfold jRo; omega)).tr (v4.mono (fun k j q => by unfold jRo; omega))) (RWs.mk1 (S1.fr (fun k j q => gg k j (by omega) (by omega))) (S2.fr (fun k j q => gg k j (by omega) (by omega))) ⟨m + 1, by omega, (gV 12 2 (by omega)).trans u1, v1, fun j hj => ⟨?_, ?_⟩, fun j hj => ?_⟩)⟩
      · rw [gV 13 j (by omega), v2, gW 141 j (by omega)]
        have := u2 j
        rw [show qi W 13 j = qi W (12 + 1) j from rfl, this]
        by_cases hjm : j = m
        · rw [if_pos hjm, if_pos hjm]
        · rw [if_neg hjm, if_neg hjm]; exact (b4 j hj).1
      · rw [gV 14 j (by omega), show qi V 142 j = qi V (141 + 1) j from rfl, v3, gW (141 + 1) j (by omega)]
        have := u3 j
        rw [show qi W 14 j = qi W (12 + 2) j from rfl, this]
        by_cases hjm : j = m
        · rw [if_pos hjm, if_pos hjm]
        · rw [if_neg hjm, if_neg hjm]; exact (b4 j hj).2
      · rw [v2, gW 141 j (by omega)]
        by_cases hjm : j = m
        · rw [if_pos hjm]; exact ⟨t, by omega, rfl⟩
        · rw [if_neg hjm]; exact b5 j (by omega)
  · refine p_emp hw (isRo3 wh5) (fun hw1 => en_Mo_book hw1 (s_Mo_book_0 hw1 ⟨fun y => absurd z y, fun _ => ⟨rfl, kk, n, ?_⟩⟩))
    show J kk n (qpi (qpi w 12 2 0) 115 43 0)
    have hf : Fr (fun k j => k = 12 ∨ (k = 115 ∧ j = 43)) w (qpi (qpi w 12 2 0) 115 43 0) := (Fr.rf.pi (Or.inl rfl)).pi (Or.inr ⟨rfl, rfl⟩)
    have v1 : qi (qpi (qpi w 12 2 0) 115 43 0) 115 43 = 0 := qi_eq rfl rfl
    have v2 : qi (qpi (qpi w 12 2 0) 115 43 0) 12 2 = 0 := (qi_k (by omega)).trans (qi_eq rfl rfl)
    generalize qpi (qpi w 12 2 0) 115 43 0 = V at hf v1 v2
    have g : ∀ k j, ¬ (k = 12 ∨ (k = 115 ∧ j = 43)) → qi V k j = qi w k j := fun k j q => (hf k j q).1
    refine hJ.row (hf.mono (fun k j q => by unfold jRo; omega)) (RWs.mk1 (S1.fr (fun k j q => g k j (by omega))) (S2.fr (fun k j q => g k j (by omega))) ⟨0, by omega, v2, v1, fun j hj => ?_, fun j hj => by omega⟩)
    rw [g 13 j (by omega), g 14 j (by omega), g 141 j (by omega), g 142 j (by omega)]
    exact b4 j hj
theorem plJ {x1 y y' : Int32} {m : Nat} (hJ : J kk n w) (S1 : R1 w) (S3 : R3 w (cN (PM w))) (b4 : ∀ j, j < 10 → qi w 10 j = qi w 139 j ∧ (¬ qi w 139 j = 0 → qi w 11 j = qi w 140 j)) (b5 : ∀ j, j < m → okPl (cN (PM w)) (qi w 139 j) (qi w 140 j)) (hm : m < 10) (ok : okPl (cN (PM w)) x1 y') (hy : ¬ x1 = 0 → y = y') : J kk n (wM (wX w 9 m x1 y) 139 42 m x1 y') := by
  obtain ⟨u1, u2, u3, u4⟩ := wX_f (w := w) (r := 9) (m := m) (x1 := x1) (x2 := y)
  generalize wX w 9 m x1 y = W at u1 u2 u3 u4
  have gW : ∀ k j, ¬ (9 ≤ k ∧ k ≤ 11) → qi W k j = qi w k j := fun k j q => (u4 k j q).1
  obtain ⟨v1, v2, v3, v4⟩ := wM_f (w := W) (a := 139) (s := 42) (m := m) (x1 := x1) (x2 := y') (by omega)
  generalize wM W 139 42 m x1 y' = V at v1 v2 v3 v4
  have gV : ∀ k j, ¬ (k = 139 ∨ k = 139 + 1 ∨ (k = 115 ∧ j = 42)) → qi V k j = qi W k j := fun k j q => (v4 k j q).1
  have gg : ∀ k j, ¬ (9 ≤ k ∧ k ≤ 11) → ¬ (k = 139 ∨ k = 139 + 1 ∨ (k = 115 ∧ j = 42)) → qi V k j = qi w k j := fun k j a b => (gV k j b).trans (gW k j a)
  have e10 : ∀ j, qi V 10 j = if j = m then x1 else qi w 10 j := fun j => (gV 10 j (by omega)).trans (u2 j)
  have e11 : ∀ j, qi V 11 j = if j = m then y else qi w 11 j := fun j => (gV 11 j (by omega)).trans (u3 j)
  have e139 : ∀ j, qi V 139 j = if j = m then x1 else qi w 139 j := fun j => by rw [v2, gW 139 j (by omega)]
  have e140 : ∀ j, qi V 140 j = if j = m then y' else qi w 140 j := fun j => (v3 j).trans (by rw [gW (139 + 1) j (by omega)])
  refine hJ.row ((u4.mono (fun k j q => by unfold jRo; omega)).tr (v4.mono (fun k j q => by unfold jRo; omega))) (RWs.mk1 (S1.fr (fun k j q => gg k j (by omega) (by omega))) ⟨m + 1, by omega, (gV 9 2 (by omega)).trans u1, v1, fun j hj => ⟨?_, fun z => ?_⟩, fun j hj => ?_⟩ (S3.fr (fun k j q => gg k j (by omega) (by omega))))
  · rw [e10, e139]
    by_cases hjm : j = m
    · rw [if_pos hjm, if_pos hjm]
    · rw [if_neg hjm, if_neg hjm]; exact (b4 j hj).1
  · rw [e139] at z
    rw [e11, e140]
    by_cases hjm : j = m
    · rw [if_pos hjm] at z
      rw [if_pos hjm, if_pos hjm]; exact hy z
    · rw [if_neg hjm] at z
      rw [if_neg hjm, if_neg hjm]; exact (b4 j hj).2 z
  · rw [e139, e140]
    by_cases hjm : j = m
    · rw [if_pos hjm, if_pos hjm]; exact ok
    · rw [if_neg hjm, if_neg hjm]; exact b5 j (by omega)
theorem pr_plan : pair_plan E (I E) := by
  intro d w a1 a2 hw hI
  obtain ⟨kk, n, hJ⟩ := id hI
  obtain ⟨c, c1, c2, c3, c4⟩ := hJ.cn
  obtain ⟨S1, S2, S3⟩ := hJ.2.1.spl
  obtain ⟨m, b1, b2, b3, b4, b5⟩ := id S2
  refine en_Qu_plan hw (s_Qu_plan_0 hw ⟨fun z => ?_, fun z => ?_⟩)
  · rcases rng (x := a1) 0 3 (by omega) (by omega) with h0 | ⟨t, -, ht, rfl⟩
    · exact p_wo hw h0 (f1 (en_Mo_plan hw (s_Mo_plan_0 hw ⟨fun _ => p_mo hw h0 (f2 ⟨rfl, hI⟩), fun y => absurd y z⟩)))
    refine p_wi (a := 0) (b := 3) hw (by omega) ht (t1 ?_)
    rcases (show t = 0 ∨ t = 1 ∨ t = 2 ∨ t = 3 by omega) with rfl | rfl | rfl | rfl
    · refine ⟨fun z => absurd z (by decide), fun _ => ⟨fun _ => ⟨fun _ => ?_, fun z => absurd z (by decide)⟩, fun z => absurd z (by decide)⟩⟩
      refine p_add hw (isRo2 wh5) b1 b2 (fun hm => ?_) (fun hm hw1 => ?_)
      · refine en_Mo_plan hw (s_Mo_plan_0 hw ⟨fun _ => p_mi (a := 0) (b := 3) hw (by omega) (by omega) (t2 (p_mo hw (Or.inl (by decide)) (f2 ⟨fun _ => ⟨fun y => absurd ?_ y, fun _ => ⟨rfl, hI⟩⟩, fun y => absurd y (by decide)⟩))), fun y => absurd y (by decide)⟩)
        rw [b3, hm]
        rfl
      · have e6 : wX w (5 + 4) m (nI 0) a2 = wX w 9 m (nI 0) a2 := rfl
        rw [e6] at hw1 ⊢
        have hF := plJ (y := a2) (y' := 0) (x1 := nI 0) hJ S1 S3 b4 b5 (by omega : m < 10) (by rw [c4]; exact ⟨⟨0, by omega, rfl⟩, fun y => absurd y (by decide), fun y => absurd y (by decide)⟩) (fun y => absurd rfl y)
        obtain ⟨u1, u2, u3, u4⟩ := wX_f (w := w) (r := 9) (m := m) (x1 := nI 0) (x2 := a2)
        generalize wX w 9 m (nI 0) a2 = W at hw1 hF u1 u2 u3 u4
        have gW : ∀ k j, ¬ (9 ≤ k ∧ k ≤ 11) → qi W k j = qi w k j := fun k j q => (u4 k j q).1
        have b3' : qi W 115 42 = nI m := (gW _ _ (by omega)).trans b3
        have c3' : qi W 115 0 = nI c := (gW _ _ (by omega)).trans c3
        refine en_Mo_plan hw1 (s_Mo_plan_0 hw1 ⟨fun _ => p_mi (a := 0) (b := 3) hw1 (by omega) (by omega) (t2 (p_mo hw1 (Or.inl (by decide)) (f2 ⟨fun _ => ?_, fun y => absurd y (by decide)⟩))), fun y => absurd y (by decide)⟩)
        have hcv : vp_in (nI m) 10 := nvp hm (by omega)
        simp (disch := omega) only [qi_k, b3', ncl, n1, qi_eq]
        refine ⟨fun _ => ⟨hcv, ⟨fun _ => ⟨hcv, ?_, ?_⟩, fun y => absurd y (by decide)⟩⟩, fun y => absurd ((neq (b := 10) (by omega) (by omega)).mp y) (by omega)⟩
        · first | rfl | trivial
        exact ⟨kk, n, hF⟩
    · refine ⟨fun _ => ?_, fun z => absurd rfl z⟩
      rcases thg (x := a2) c c1 with h1 | ⟨i, h1, rfl⟩
      · exact p_find_n hw pan15 c2 h1 (Or.inl ⟨rfl, en_Mo_plan hw (s_Mo_plan_0 hw ⟨fun _ => p_mi (a := 0) (b := 3) hw (by omega) (by omega) (t2 (p_mi (a := 1) (b := 2) hw (by omega) (by omega) (t2 (p_thg0 hw c1 c3 h1 (f1 ⟨rfl, hI⟩))))), fun y => absurd y (by decide)⟩)⟩)
      refine p_find_s hw pan15 c1 c2 h1 (Or.inr ⟨i, by omega, rfl, ⟨fun _ => ?_, fun z => absurd z (by decide)⟩⟩)
      refine p_add hw (isRo2 wh5) b1 b2 (fun hm => ?_) (fun hm hw1 => ?_)
      · refine en_Mo_plan hw (s_Mo_plan_0 hw ⟨fun _ => p_mi (a := 0) (b := 3) hw (by omega) (by omega) (t2 (p_mi (a := 1) (b := 2) hw (by omega) (by omega) (t2 (p_thg1 hw c1 c3 h1 (t1 ⟨fun _ => ⟨fun y => absurd ?_ y, fun _ => ⟨rfl, hI⟩⟩, fun y => absurd y (by decide)⟩))))), fun y => absurd y (by decide)⟩)
        rw [b3, hm]
        rfl
      · have e6 : wX w (5 + 4) m (nI 1) (nI i) = wX w 9 m (nI 1) (nI i) := rfl
        rw [e6] at hw1 ⊢
        have hF := plJ (y := (nI i)) (y' := (nI i)) (x1 := nI 1) hJ S1 S3 b4 b5 (by omega : m < 10) (by rw [c4]; exact ⟨⟨1, by omega, rfl⟩, fun _ => ⟨i, by omega, rfl⟩, fun y => absurd y (by decide)⟩) (fun _ => rfl)
        obtain ⟨u1, u2, u3, u4⟩ := wX_f (w := w) (r := 9) (m := m) (x1 := nI 1) (x2 := (nI i))
        generalize wX w 9 m (nI 1) (nI i) = W at hw1 hF u1 u2 u3 u4
        have gW : ∀ k j, ¬ (9 ≤ k ∧ k ≤ 11) → qi W k j = qi w k j := fun k j q => (u4 k j q).1
        have b3' : qi W 115 42 = nI m := (gW _ _ (by omega)).trans b3
        have c3' : qi W 115 0 = nI c := (gW _ _ (by omega)).trans c3
        refine en_Mo_plan hw1 (s_Mo_plan_0 hw1 ⟨fun _ => p_mi (a := 0) (b := 3) hw1 (by omega) (by omega) (t2 (p_mi (a := 1) (b := 2) hw1 (by omega) (by omega) (t2 (p_thg1 hw1 c1 c3' h1 (t1 ⟨fun _ => ?_, fun y => absurd y (by decide)⟩))))), fun y => absurd y (by decide)⟩)
        have hcv : vp_in (nI m) 10 := nvp hm (by omega)
        simp (disch := omega) only [qi_k, b3', ncl, n1, qi_eq]
        refine ⟨fun _ => ⟨hcv, ⟨fun y => absurd y (by decide), fun _ => ⟨hcv, ?_, ?_⟩⟩⟩, fun y => absurd ((neq (b := 10) (by omega) (by omega)).mp y) (by omega)⟩
        · first | rfl | trivial
        exact ⟨kk, n, hF⟩
    · refine ⟨fun z => absurd z (by decide), fun _ => ⟨fun z => absurd rfl z, fun _ => ?_⟩⟩
      rcases thg (x := a2) c c1 with h1 | ⟨i, h1, rfl⟩
      · exact p_find_n hw pan15 c2 h1 (Or.inl ⟨rfl, en_Mo_plan hw (s_Mo_plan_0 hw ⟨fun _ => p_mi (a := 0) (b := 3) hw (by omega) (by omega) (t2 (p_mi (a := 1) (b := 2) hw (by omega) (by omega) (t2 (p_thg0 hw c1 c3 h1 (f1 ⟨rfl, hI⟩))))), fun y => absurd y (by decide)⟩)⟩)
      refine p_find_s hw pan15 c1 c2 h1 (Or.inr ⟨i, by omega, rfl, ⟨fun _ => ?_, fun z => absurd z (by decide)⟩⟩)
      refine p_add hw (isRo2 wh5) b1 b2 (fun hm => ?_) (fun hm hw1 => ?_)
      · refine en_Mo_plan hw (s_Mo_plan_0 hw ⟨fun _ => p_mi (a := 0) (b := 3) hw (by omega) (by omega) (t2 (p_mi (a := 1) (b := 2) hw (by omega) (by omega) (t2 (p_thg1 hw c1 c3 h1 (t1 ⟨fun _ => ⟨fun y => absurd ?_ y, fun _ => ⟨rfl, hI⟩⟩, fun y => absurd y (by decide)⟩))))), fun y => absurd y (by decide)⟩)
        rw [b3, hm]
        rfl
      · have e6 : wX w (5 + 4) m (nI 2) (nI i) = wX w 9 m (nI 2) (nI i) := rfl
        rw [e6] at hw1 ⊢
        have hF := plJ (y := (nI i)) (y' := (nI i)) (x1 := nI 2) hJ S1 S3 b4 b5 (by omega : m < 10) (by rw [c4]; exact ⟨⟨2, by omega, rfl⟩, fun _ => ⟨i, by omega, rfl⟩, fun y => absurd y (by decide)⟩) (fun _ => rfl)
        obtain ⟨u1, u2, u3, u4⟩ := wX_f (w := w) (r := 9) (m := m) (x1 := nI 2) (x2 := (nI i))
        generalize wX w 9 m (nI 2) (nI i) = W at hw1 hF u1 u2 u3 u4
        have gW : ∀ k j, ¬ (9 ≤ k ∧ k ≤ 11) → qi W k j = qi w k j := fun k j q => (u4 k j q).1
        have b3' : qi W 115 42 = nI m := (gW _ _ (by omega)).trans b3
        have c3' : qi W 115 0 = nI c := (gW _ _ (by omega)).trans c3
        refine en_Mo_plan hw1 (s_Mo_plan_0 hw1 ⟨fun _ => p_mi (a := 0) (b := 3) hw1 (by omega) (by omega) (t2 (p_mi (a := 1) (b := 2) hw1 (by omega) (by omega) (t2 (p_thg1 hw1 c1 c3' h1 (t1 ⟨fun _ => ?_, fun y => absurd y (by decide)⟩))))), fun y => absurd y (by decide)⟩)
        have hcv : vp_in (nI m) 10 := nvp hm (by omega)
        simp (disch := omega) only [qi_k, b3', ncl, n1, qi_eq]
        refine ⟨fun _ => ⟨hcv, ⟨fun y => absurd y (by decide), fun _ => ⟨hcv, ?_, ?_⟩⟩⟩, fun y => absurd ((neq (b := 10) (by omega) (by omega)).mp y) (by omega)⟩
        · first | rfl | trivial
        exact ⟨kk, n, hF⟩
    · refine ⟨fun z => absurd z (by decide), fun _ => ⟨fun _ => ⟨fun z => absurd rfl z, fun _ => ?_⟩, fun z => absurd z (by decide)⟩⟩
      rcases rng (x := a2) 0 9 (by omega) (by omega) with h2 | ⟨q, -, h2, rfl⟩
      · exact p_wo hw h2 (f1 (en_Mo_plan hw (s_Mo_plan_0 hw ⟨fun _ => p_mi (a := 0) (b := 3) hw (by omega) (by omega) (t2 (p_mo hw (Or.inr (by decide)) (f2 ⟨fun y => absurd rfl y, fun _ => p_mo hw h2 (f1 ⟨rfl, hI⟩)⟩))), fun y => absurd y (by decide)⟩)))
      refine p_wi (a := 0) (b := 9) hw (by omega) h2 (t1 ?_)
      refine p_add hw (isRo2 wh5) b1 b2 (fun hm => ?_) (fun hm hw1 => ?_)
      · refine en_Mo_plan hw (s_Mo_plan_0 hw ⟨fun _ => p_mi (a := 0) (b := 3) hw (by omega) (by omega) (t2 (p_mo hw (Or.inr (by decide)) (f2 ⟨fun y => absurd rfl y, fun _ => p_mi (a := 0) (b := 9) hw (by omega) h2 (t1 ⟨fun y => absurd ?_ y, fun _ => ⟨rfl, hI⟩⟩)⟩))), fun y => absurd y (by decide)⟩)
        rw [b3, hm]
        rfl
      · have e6 : wX w (5 + 4) m (nI 3) (nI q) = wX w 9 m (nI 3) (nI q) := rfl
        rw [e6] at hw1 ⊢
        have hF := plJ (y := (nI q)) (y' := (nI q)) (x1 := nI 3) hJ S1 S3 b4 b5 (by omega : m < 10) (by rw [c4]; exact ⟨⟨3, by omega, rfl⟩, fun y => absurd y (by decide), fun _ => ⟨q, h2, rfl⟩⟩) (fun _ => rfl)
        obtain ⟨u1, u2, u3, u4⟩ := wX_f (w := w) (r := 9) (m := m) (x1 := nI 3) (x2 := (nI q))
        generalize wX w 9 m (nI 3) (nI q) = W at hw1 hF u1 u2 u3 u4
        have gW : ∀ k j, ¬ (9 ≤ k ∧ k ≤ 11) → qi W k j = qi w k j := fun k j q => (u4 k j q).1
        have b3' : qi W 115 42 = nI m := (gW _ _ (by omega)).trans b3
        have c3' : qi W 115 0 = nI c := (gW _ _ (by omega)).trans c3
        refine en_Mo_plan hw1 (s_Mo_plan_0 hw1 ⟨fun _ => p_mi (a := 0) (b := 3) hw1 (by omega) (by omega) (t2 (p_mo hw1 (Or.inr (by decide)) (f2 ⟨fun y => absurd rfl y, fun _ => p_mi (a := 0) (b := 9) hw1 (by omega) h2 (t1 ?_)⟩))), fun y => absurd y (by decide)⟩)
        have hcv : vp_in (nI m) 10 := nvp hm (by omega)
        simp (disch := omega) only [qi_k, b3', ncl, n1, qi_eq]
        refine ⟨fun _ => ⟨hcv, ⟨fun y => absurd y (by decide), fun _ => ⟨hcv, ?_, ?_⟩⟩⟩, fun y => absurd ((neq (b := 10) (by omega) (by omega)).mp y) (by omega)⟩
        · first | rfl | trivial
        exact ⟨kk, n, hF⟩
  · refine p_emp hw (isRo2 wh5) (fun hw1 => en_Mo_plan hw1 (s_Mo_plan_0 hw1 ⟨fun y => absurd z y, fun _ => ⟨rfl, kk, n, ?_⟩⟩))
    show J kk n (qpi (qpi w 9 2 0) 115 42 0)
    have hf : Fr (fun k j => (k = 9 ∧ j = 2) ∨ (k = 115 ∧ j = 42)) w (qpi (qpi w 9 2 0) 115 42 0) := (Fr.rf.pi (Or.inl ⟨rfl, rfl⟩)).pi (Or.inr ⟨rfl, rfl⟩)
    have v1 : qi (qpi (qpi w 9 2 0) 115 42 0) 115 42 = 0 := qi_eq rfl rfl
    have v2 : qi (qpi (qpi w 9 2 0) 115 42 0) 9 2 = 0 := (qi_k (by omega)).trans (qi_eq rfl rfl)
    generalize qpi (qpi w 9 2 0) 115 42 0 = V at hf v1 v2
    have g : ∀ k j, ¬ ((k = 9 ∧ j = 2) ∨ (k = 115 ∧ j = 42)) → qi V k j = qi w k j := fun k j q => (hf k j q).1
    refine hJ.row (hf.mono (fun k j q => by unfold jRo; omega)) (RWs.mk1 (S1.fr (fun k j q => g k j (by omega))) ⟨0, by omega, v2, v1, fun j hj => ?_, fun j hj => by omega⟩ (S3.fr (fun k j q => g k j (by omega))))
    rw [g 10 j (by omega), g 11 j (by omega), g 139 j (by omega), g 140 j (by omega)]
    exact b4 j hj
def lkF (w : qW) : Nat → Nat → Int32
  | 0, _ => -5
  | k + 1, i => if qi w 118 (qi w 141 i).toNatClampNeg = qi w 142 i then lkF w k (i + 1) else nI i
theorem h_xlook {Q : qW → Int32 → Prop} {c m : Nat} (hw : Sh w) (hJ : J kk n w) (c1 : c ≤ 6) (c2 : qi w 15 0 = nI c) (hm : m ≤ 8) (b2 : qi w 12 2 = nI m) (b4 : ∀ j, j < 8 → qi w 13 j = qi w 141 j ∧ qi w 14 j = qi w 142 j) (b5 : ∀ j, j < m → ∃ i, i < c ∧ qi w 141 j = nI i) :
    ∀ (k i : Nat), i + k = m → Q w (lkF w k i) → c_Qu_looked_2 d E Q (nI i) w := by
  intro k
  induction k with
  | zero =>
    intro i hi hQ
    exact s_Qu_looked_2 hw (pk_le m i (fun _ => hQ) (fun z => by omega) b2)
  | succ k ih =>
    intro i hi hQ
    obtain ⟨t, ht, e⟩ := b5 i (by omega)
    obtain ⟨e1, e2⟩ := b4 i (by omega)
    have hQ' : Q w (if qi w 118 (qi w 141 i).toNatClampNeg = qi w 142 i then lkF w k (i + 1) else nI i) := hQ
    rw [e, ncl (by omega)] at hQ'
    refine s_Qu_looked_2 hw (pk_le m i (fun z => by omega) (fun _ => p_first hw (isRo3 wh5) (by omega) ?_) b2)
    rw [show qi w (5 + 7 + 1) i = qi w 13 i from rfl, e1, e]
    refine p_find_s hw pan15 c1 c2 ht (Or.inr ⟨t, by omega, rfl, p_second hw (isRo3 wh5) (by omega) ?_⟩)
    rw [show qi w (5 + 7 + 2) i = qi w 14 i from rfl, e2, show qi w (15 + 3 + 2 * t) 3 = qi w 118 t from x6 (a := 2) (by omega) (by omega) hJ, n1]
    exact ⟨fun z => ih (i + 1) (by omega) (by rw [if_pos z] at hQ'; exact hQ'), fun z => by rw [if_neg z] at hQ'; exact hQ'⟩
theorem h_mlook {Q : qW → Int32 → Prop} {c m : Nat} (hw : Sh w) (c1 : c ≤ 6) (hm : m ≤ 8) (b3 : qi w 115 43 = nI m) (b5 : ∀ j, j < m → ∃ i, i < c ∧ qi w 141 j = nI i) :
    ∀ (k i : Nat), i + k = m → Q w (lkF w k i) → c_Mo_looked_2 d E Q (nI i) w := by
  intro k
  induction k with
  | zero =>
    intro i hi hQ
    exact s_Mo_looked_2 hw (pk_le m i (fun _ => hQ) (fun z => by omega) b3)
  | succ k ih =>
    intro i hi hQ
    obtain ⟨t, ht, e⟩ := b5 i (by omega)
    have hQ' : Q w (if qi w 118 (qi w 141 i).toNatClampNeg = qi w 142 i then lkF w k (i + 1) else nI i) := hQ
    have hin : vp_in (nI i) 8 := nvp (by omega) (by omega)
    refine s_Mo_looked_2 hw (pk_le m i (fun z => by omega) (fun _ => ⟨hin, ?_⟩) b3)
    rw [ncl (a := i) (by omega), n1]
    refine ⟨by rw [e]; exact nvp (by omega) (by omega), hin, fun z => ih (i + 1) (by omega) (by rw [if_pos z] at hQ'; exact hQ'), fun z => by rw [if_neg z] at hQ'; exact hQ'⟩
theorem pr_looked : pair_looked E (I E) := by
  intro d w hw hI
  obtain ⟨kk, n, hJ⟩ := id hI
  obtain ⟨c, c1, c2, c3, c4⟩ := hJ.cn
  obtain ⟨S1, S2, S3⟩ := hJ.2.1.spl
  obtain ⟨m, b1, b2, b3, b4, b5⟩ := id S3
  rw [c4] at b5
  exact en_Qu_looked hw (s_Qu_looked_0 hw (h_xlook hw hJ c1 c2 b1 b2 b4 b5 m 0 (by omega) (en_Mo_looked hw (s_Mo_looked_0 hw (h_mlook hw c1 b1 b3 b5 m 0 (by omega) ⟨rfl, hI⟩)))))
end PR2
