/-! the pairs: tapes -/
section PTp
variable {d : Nat} {E : qE} {w w1 w2 : qW} {kk : Nat → List Cl} {n : Nat}
def jTp (k _ : Nat) : Prop := (103 ≤ k ∧ k ≤ 114) ∨ (157 ≤ k ∧ k ≤ 160)
theorem J.tap (h : J kk n w) (hf : Fr jTp w w1) (t : TAP w1) : J kk n w1 := by
  have g : ∀ k j, ¬ jTp k j → qi w1 k j = qi w k j := fun k j q => (hf k j q).1
  exact h.out (hf.mono (fun k j q => by unfold jTp at q; unfold jOut; omega)) (h.2.1.fr (Nat.le_refl _) (fun a j q => g a j (by unfold jTp; omega))) (h.2.2.2.1.fr (fun a j q => g a j (by unfold jTp; omega))) (h.2.2.2.2.2.1.fr (fun a j q => g a j (by unfold jTp; omega))) t
theorem TAP.at {t : Nat} (h : TAP w) (ht : t < 6) : ∃ L, L ≤ 60 ∧ qi w (103 + 2 * t) 1 = nI L ∧ qi w 158 t = nI L ∧ qi w (103 + 2 * t) 0 = qi w 157 t ∧ ((qi w 157 t = -1 ∧ L = 0) ∨ ∃ s, s ≤ 4 ∧ qi w 157 t = nI s) := by
  obtain ⟨h1, h2, h3, h4⟩ := h t ht
  rcases h4 with ⟨a, b⟩ | ⟨⟨s, s1, s2⟩, L, l1, l2⟩
  · exact ⟨0, by omega, h2.trans b, b, h1, Or.inl ⟨a, rfl⟩⟩
  · exact ⟨L, l1, h2.trans l2, l2, h1, Or.inr ⟨s, s1, s2⟩⟩
theorem ta_t {t : Nat} (ht : t < 6) : isTa (103 + 2 * t) := ⟨t, ht, rfl⟩
theorem p_has1 {Q : qW → Int32 → Prop} {tt L i : Nat} (hw : Sh w) (ht : isTa tt) (hL : qi w tt 1 = nI L) (hl : L ≤ 60) (hi : i < L) (hQ : Q w 1) : CaI d M_Ta_has [.ref (qb E + tt), .int (nI i)] E w Q :=
  en_Ta_has hw (s_Ta_has_0 hw ht ⟨fun z => absurd z (nI_pos (by omega)), fun _ => pk_le L i (fun z => by omega) (fun _ => ⟨fun z => absurd z (by rw [show (60 : Int32) = nI 60 from rfl, nle (by omega) (by omega)]; omega), fun _ => hQ⟩) hL⟩)
theorem p_has0 {Q : qW → Int32 → Prop} {tt L : Nat} {x : Int32} (hw : Sh w) (ht : isTa tt) (hL : qi w tt 1 = nI L) (hx : x < 0 ∨ nI L ≤ x) (hQ : Q w 0) : CaI d M_Ta_has [.ref (qb E + tt), .int x] E w Q :=
  en_Ta_has hw (s_Ta_has_0 hw ht ⟨fun _ => hQ, fun z => ⟨fun _ => hQ, fun y => absurd hx (fun q => q.elim z (fun u => y (by rw [hL]; exact u)))⟩⟩)
theorem p_inL1 {Q : qW → Int32 → Prop} {L i : Nat} (hw : Sh w) (hl : L ≤ 60) (hi : i < L) (hQ : Q w 1) : CaI d M_Mo_in [.ref (qb E + 115), .int (nI i), .int 0, .int (nI L - 1)] E w Q := by
  have e : nI L - 1 = nI (L - 1) := pk_sub (b := 1) (by omega)
  rw [e]
  exact p_mi (a := 0) (b := L - 1) hw (by omega) (by omega) hQ
theorem p_inL0 {Q : qW → Int32 → Prop} {L : Nat} {x : Int32} (hw : Sh w) (hl : L ≤ 60) (hx : x < 0 ∨ nI L ≤ x) (hQ : Q w 0) : CaI d M_Mo_in [.ref (qb E + 115), .int x, .int 0, .int (nI L - 1)] E w Q := by
  refine p_mo hw ?_ hQ
  rcases hx with h | h
  · exact Or.inl h
  · refine Or.inr ?_
    rw [Int32.lt_iff_toInt_lt]
    have e1 : (nI L - 1).toInt = (L : Int) - 1 := pk_sub_toInt (a := L) (b := 1) (by omega) (by omega)
    rw [Int32.le_iff_toInt_le, nI_toInt (by omega)] at h
    rw [e1]
    omega
theorem ixL {x : Int32} (L : Nat) (hl : L ≤ 60) : (x < 0 ∨ nI L ≤ x) ∨ ∃ i, i < L ∧ x = nI i := by
  rcases pk_ix x (n := L) (by omega) with h | h | h
  · exact Or.inl (Or.inl h)
  · exact Or.inl (Or.inr h)
  · exact Or.inr h
theorem p_isT1 {Q : qW → Int32 → Prop} {t : Nat} (hw : Sh w) (ht : t < 6) (h : Q w 1) : CaI (d + 1) M_Mo_isTape [.ref (qb E + 115), .int (nI t)] E w Q :=
  en_Mo_isTape hw (s_Mo_isTape_0 hw (p_mi (a := 0) (b := 5) hw (by omega) (by omega) ⟨Or.inr rfl, h⟩))
theorem p_isT0 {Q : qW → Int32 → Prop} {x : Int32} (hw : Sh w) (hx : x < nI 0 ∨ nI 5 < x) (h : Q w 0) : CaI (d + 1) M_Mo_isTape [.ref (qb E + 115), .int x] E w Q :=
  en_Mo_isTape hw (s_Mo_isTape_0 hw (p_mo hw hx ⟨Or.inl rfl, h⟩))
theorem at60 (t i : Nat) : 60 * nI t + nI i = nI (60 * t + i) := by rw [show (60 : Int32) = nI 60 from rfl, pk_mul, nI_add]
theorem neg1 : ¬ (0 : Int32) ≤ -1 := by decide
theorem pr_read : pair_read E (I E) := by
  intro d w a1 a2 hw hI
  obtain ⟨kk, n, hJ⟩ := id hI
  refine en_Qu_read hw (s_Qu_read_0 hw ?_)
  rcases rng (x := a1) 0 5 (by omega) (by omega) with h1 | ⟨t, -, h1, rfl⟩
  · exact p_wo hw h1 (f2 (en_Mo_read hw (s_Mo_read_0 hw (p_isT0 hw h1 (f2 ⟨rfl, hI⟩)))))
  have ht : t < 6 := by omega
  obtain ⟨L, l1, l2, l3, l4, l5⟩ := hJ.2.2.2.2.2.2.1.at ht
  have hq := (hJ.2.2.2.2.2.2.1 t ht).2.2.1
  have hin : vp_in (nI t) 6 := nvp ht (by omega)
  refine p_wi (a := 0) (b := 5) hw (by omega) h1 (t2 ⟨hin, ?_⟩)
  rw [ncl (by omega)]
  rcases ixL (x := a2) L l1 with h2 | ⟨i, h2, rfl⟩
  · refine p_has0 hw (ta_t ht) l2 h2 (f1 (en_Mo_read hw (s_Mo_read_0 hw (p_isT1 hw ht (t2 ⟨hin, fun _ => ⟨rfl, hI⟩, fun _ => ⟨hin, ?_⟩⟩)))))
    rw [ncl (by omega), l3]
    exact p_inL0 hw l1 h2 (f1 ⟨rfl, hI⟩)
  · refine p_has1 hw (ta_t ht) l2 l1 h2 (t1 ⟨hin, nvp (by omega) (by omega), en_Mo_read hw (s_Mo_read_0 hw (p_isT1 hw ht (t2 ⟨hin, ?_⟩)))⟩)
    rw [ncl (a := t) (by omega), l3, at60, ncl (a := i) (by omega), ncl (by omega)]
    refine ⟨fun z => ?_, fun _ => ⟨hin, p_inL1 hw l1 h2 (t1 ⟨nvp (by omega) (by omega), ?_, hI⟩)⟩⟩
    · rcases l5 with ⟨-, l5⟩ | ⟨s, s1, s2⟩
      · omega
      · rw [s2] at z
        exact absurd z (nI_pos (by omega))
    · have := hq i (by omega)
      rw [show 103 + 2 * t + 1 = 104 + 2 * t by omega]
      exact this
def fitF (s : Nat) (v : Int64) : Int64 := if s = 0 then (((v.toInt32 : Int32).toInt8.toInt32 : Int32).toInt64) else if s = 1 then (((v.toInt32 : Int32).toInt16.toInt32 : Int32).toInt64) else if s = 2 then ((v.toInt32 : Int32).toInt64) else if s = 4 then (if lg_cmp v 0 = 0 then 0 else 1) else v
theorem p_fit {Q : qW → Int64 → Prop} {tt s : Nat} {v : Int64} (hw : Sh w) (ht : isTa tt) (hs : qi w tt 0 = nI s) (h4 : s ≤ 4) (hQ : Q w (fitF s v)) : CaL d M_Ta_fitted [.ref (qb E + tt), .long v] E w Q := by
  refine en_Ta_fitted hw (s_Ta_fitted_0 hw ht ?_)
  rw [hs]
  rcases (show s = 0 ∨ s = 1 ∨ s = 2 ∨ s = 3 ∨ s = 4 by omega) with rfl | rfl | rfl | rfl | rfl
  · exact ⟨fun _ => hQ, fun z => absurd z (by decide), fun z => absurd z (by decide), fun z => absurd z (by decide), fun z => absurd z (by decide), fun z => absurd z (by decide)⟩
  · exact ⟨fun z => absurd z (by decide), fun _ => hQ, fun z => absurd z (by decide), fun z => absurd z (by decide), fun z => absurd z (by decide), fun z => absurd z (by decide)⟩
  · exact ⟨fun z => absurd z (by decide), fun z => absurd z (by decide), fun _ => hQ, fun z => absurd z (by decide), fun z => absurd z (by decide), fun z => absurd z (by decide)⟩
  · exact ⟨fun z => absurd z (by decide), fun z => absurd z (by decide), fun z => absurd z (by decide), fun _ => hQ, fun z => absurd z (by decide), fun z => absurd z (by decide)⟩
  · have hQ' : Q w (if lg_cmp v 0 = 0 then 0 else 1) := hQ
    exact ⟨fun z => absurd z (by decide), fun z => absurd z (by decide), fun z => absurd z (by decide), fun z => absurd z (by decide), fun _ => ⟨fun z => by rw [if_pos z] at hQ'; exact hQ', fun z => by rw [if_neg z] at hQ'; exact hQ'⟩, fun z => absurd z (by decide)⟩
theorem p_nar {Q : qW → Int64 → Prop} {s : Nat} {v : Int64} (hw : Sh w) (h4 : s ≤ 4) (hQ : Q w (fitF s v)) : CaL d M_Mo_narrow [.ref (qb E + 115), .int (nI s), .long v] E w Q := by
  refine en_Mo_narrow hw (s_Mo_narrow_0 hw ?_)
  rcases (show s = 0 ∨ s = 1 ∨ s = 2 ∨ s = 3 ∨ s = 4 by omega) with rfl | rfl | rfl | rfl | rfl
  · exact ⟨fun z => absurd rfl z, fun _ => hQ⟩
  · exact ⟨fun _ => ⟨fun z => absurd rfl z, fun _ => hQ⟩, fun z => absurd z (by decide)⟩
  · exact ⟨fun _ => ⟨fun _ => ⟨fun z => absurd rfl z, fun _ => hQ⟩, fun z => absurd z (by decide)⟩, fun z => absurd z (by decide)⟩
  · exact ⟨fun _ => ⟨fun _ => ⟨fun _ => ⟨fun _ => hQ, fun z => absurd z (by decide)⟩, fun z => absurd z (by decide)⟩, fun z => absurd z (by decide)⟩, fun z => absurd z (by decide)⟩
  · have hQ' : Q w (if lg_cmp v 0 = 0 then 0 else 1) := hQ
    exact ⟨fun _ => ⟨fun _ => ⟨fun _ => ⟨fun z => absurd rfl z, fun _ => ⟨fun z => by rw [if_pos z] at hQ'; exact hQ', fun z => by rw [if_neg z] at hQ'; exact hQ'⟩⟩, fun z => absurd z (by decide)⟩, fun z => absurd z (by decide)⟩, fun z => absurd z (by decide)⟩
theorem ql_sel {w : qW} {k m j : Nat} {x : Int64} : ql (qpl w k m x) k j = if j = m then x else ql w k j := by
  by_cases h : j = m
  · rw [if_pos h, ql_eq rfl h]
  · rw [if_neg h, ql_j h]
theorem pr_item : pair_item E (I E) := by
  intro d w a1 a2 v hw hI
  obtain ⟨kk, n, hJ⟩ := id hI
  refine en_Qu_item hw (s_Qu_item_0 hw ?_)
  rcases rng (x := a1) 0 5 (by omega) (by omega) with h1 | ⟨t, -, h1, rfl⟩
  · exact p_wo hw h1 (f1 (en_Mo_item hw (s_Mo_item_0 hw (p_isT0 hw h1 (f1 ⟨rfl, hI⟩)))))
  have ht : t < 6 := by omega
  obtain ⟨L, l1, l2, l3, l4, l5⟩ := hJ.2.2.2.2.2.2.1.at ht
  have hin : vp_in (nI t) 6 := nvp ht (by omega)
  refine p_wi (a := 0) (b := 5) hw (by omega) h1 (t1 ⟨hin, ?_⟩)
  rw [ncl (by omega), l4]
  rcases l5 with ⟨e, l5⟩ | ⟨s, s1, s2⟩
  · refine ⟨fun z => absurd e z, fun _ => en_Mo_item hw (s_Mo_item_0 hw (p_isT1 hw ht (t1 ⟨hin, ?_⟩)))⟩
    rw [ncl (by omega), e]
    exact ⟨fun z => absurd z neg1, fun _ => ⟨rfl, hI⟩⟩
  have hs : qi w (103 + 2 * t) 0 = nI s := l4.trans s2
  have h0 : 0 ≤ nI s := nI_pos' (by omega)
  rw [s2]
  refine ⟨fun _ => ?_, fun z => absurd z (ne1 (by omega))⟩
  rcases ixL (x := a2) L l1 with h2 | ⟨i, h2, rfl⟩
  · refine p_has0 hw (ta_t ht) l2 h2 (f1 (en_Mo_item hw (s_Mo_item_0 hw (p_isT1 hw ht (t1 ⟨hin, ?_⟩)))))
    rw [ncl (by omega), s2, l3]
    exact ⟨fun _ => ⟨hin, p_inL0 hw l1 h2 (f1 ⟨rfl, hI⟩)⟩, fun z => absurd h0 z⟩
  · refine p_has1 hw (ta_t ht) l2 l1 h2 (t1 (p_fit hw (ta_t ht) hs s1 ⟨nvp (by omega) (by omega), ?_⟩))
    rw [ncl (by omega), show 103 + 2 * t + 1 = 104 + 2 * t by omega]
    have hw1 : Sh (qpl w (104 + 2 * t) i (fitF s v)) := hw
    have s2' : qi (qpl w (104 + 2 * t) i (fitF s v)) 157 t = nI s := s2
    have l3' : qi (qpl w (104 + 2 * t) i (fitF s v)) 158 t = nI L := l3
    refine en_Mo_item hw1 (s_Mo_item_0 hw1 (p_isT1 hw1 ht (t1 ⟨hin, ?_⟩)))
    rw [ncl (a := t) (by omega), s2', l3']
    refine ⟨fun _ => ⟨hin, p_inL1 hw1 l1 h2 (t1 ⟨hin, ?_⟩)⟩, fun z => absurd h0 z⟩
    rw [s2', at60]
    refine p_nar hw1 s1 ⟨nvp (by omega) (by omega), rfl, kk, n, ?_⟩
    rw [ncl (by omega)]
    refine hJ.tap ((Fr.rf.pl (by unfold jTp; omega)).pl (by unfold jTp; omega)) (fun t2 ht2 => ?_)
    obtain ⟨q1, q2, q3, q4⟩ := hJ.2.2.2.2.2.2.1 t2 ht2
    refine ⟨q1, q2, fun j hj => ?_, q4⟩
    rw [ql_k (by omega)]
    by_cases e : t2 = t
    · rw [e, ql_sel, ql_sel, ql_k (by omega)]
      by_cases ej : j = i
      · rw [if_pos ej, if_pos (by omega)]
      · rw [if_neg ej, if_neg (by omega), ← e]
        exact q3 j hj
    · rw [ql_k (by omega), ql_sel, if_neg (by omega), ql_k (by omega)]
      exact q3 j hj
/-- a tape anew -/
theorem h_become {Q : qW → Prop} {t : Nat} (ht : t < 6) (hQ : ∀ w1, Sh w1 → (∀ k j, qi w1 k j = qi w k j) → Fr (fun k _ => k = 104 + 2 * t) w w1 → (∀ j, j < 60 → ql w1 (104 + 2 * t) j = 0) → Q w1) :
    ∀ (k i : Nat) (w1 : qW), i + k = 60 → Sh w1 → (∀ k j, qi w1 k j = qi w k j) → Fr (fun k _ => k = 104 + 2 * t) w w1 → (∀ j, j < i → ql w1 (104 + 2 * t) j = 0) → c_Ta_become_12 d E Q (103 + 2 * t) (nI i) w1 := by
  intro k
  induction k with
  | zero =>
    intro i w1 hi hw1 hq hf hz
    have : i = 60 := by omega
    subst this
    exact s_Ta_become_12 hw1 (ta_t ht) ⟨fun _ => hQ w1 hw1 hq hf hz, fun z => absurd (by decide) z⟩
  | succ k ih =>
    intro i w1 hi hw1 hq hf hz
    refine s_Ta_become_12 hw1 (ta_t ht) ⟨fun z => absurd z (by rw [show (60 : Int32) = nI 60 from rfl, nle (by omega) (by omega)]; omega), fun _ => ⟨nvp (by omega) (by omega), ?_⟩⟩
    rw [ncl (by omega), n1, show 103 + 2 * t + 1 = 104 + 2 * t by omega]
    refine ih (i + 1) _ (by omega) hw1 hq (hf.pl rfl) (fun j hj => ?_)
    rw [ql_sel]
    by_cases e : j = i
    · rw [if_pos e]
    · rw [if_neg e]; exact hz j (by omega)
theorem p_become {Q : qW → Prop} {t : Nat} {x y : Int32} (hw : Sh w) (ht : t < 6) (hQ : ∀ w1, Sh w1 → Fr (fun k _ => k = 103 + 2 * t ∨ k = 104 + 2 * t) w w1 → qi w1 (103 + 2 * t) 0 = x → qi w1 (103 + 2 * t) 1 = y → (∀ j, j < 60 → ql w1 (104 + 2 * t) j = 0) → Q w1) : CaV d M_Ta_become [.ref (qb E + (103 + 2 * t)), .int x, .int y] E w Q := by
  refine en_Ta_become hw (s_Ta_become_0 hw (ta_t ht) ?_)
  refine h_become (w := qpi (qpi w (103 + 2 * t) 0 x) (103 + 2 * t) 1 y) ht (fun w1 hw1 hq hf hz => hQ w1 hw1 (((Fr.rf.pi (Or.inl rfl)).pi (Or.inl rfl)).tr (hf.mono (fun k j q => Or.inr q))) ?_ ?_ hz) 60 0 _ (by omega) hw (fun _ _ => rfl) Fr.rf (fun j hj => by omega)
  · rw [hq, qi_j (by decide), qi_eq rfl rfl]
  · rw [hq, qi_eq rfl rfl]
theorem h_mtape {Q : qW → Int32 → Prop} {t : Nat} (ht : t < 6) (hQ : ∀ w1, Sh w1 → (∀ k j, qi w1 k j = qi w k j) → (∀ k j, ¬ k = 159 → ql w1 k j = ql w k j) → (∀ k j, qr w1 k j = qr w k j) → (∀ j, j < 60 → ql w1 159 (60 * t + j) = 0) → (∀ j, (j < 60 * t ∨ 60 * t + 60 ≤ j) → ql w1 159 j = ql w 159 j) → Q w1 1) :
    ∀ (k i : Nat) (w1 : qW), i + k = 60 → Sh w1 → (∀ k j, qi w1 k j = qi w k j) → (∀ k j, ¬ k = 159 → ql w1 k j = ql w k j) → (∀ k j, qr w1 k j = qr w k j) → (∀ j, j < i → ql w1 159 (60 * t + j) = 0) → (∀ j, (j < 60 * t ∨ 60 * t + 60 ≤ j) → ql w1 159 j = ql w 159 j) → c_Mo_tape_69 d E Q (nI t) (nI i) w1 := by
  intro k
  induction k with
  | zero =>
    intro i w1 hi hw1 a b c hz ho
    have : i = 60 := by omega
    subst this
    exact s_Mo_tape_69 hw1 ⟨fun _ => hQ w1 hw1 a b c hz ho, fun z => absurd (by decide) z⟩
  | succ k ih =>
    intro i w1 hi hw1 a b c hz ho
    refine s_Mo_tape_69 hw1 ⟨fun z => absurd z (by rw [show (60 : Int32) = nI 60 from rfl, nle (by omega) (by omega)]; omega), fun _ => ?_⟩
    rw [at60, ncl (by omega), n1]
    refine ⟨nvp (by omega) (by omega), ih (i + 1) _ (by omega) hw1 a (fun k j q => (ql_k q).trans (b k j q)) c (fun j hj => ?_) (fun j hj => ?_)⟩
    · rw [ql_sel]
      by_cases e : j = i
      · rw [if_pos (by omega)]
      · rw [if_neg (by omega)]; exact hz j (by omega)
    · rw [ql_sel, if_neg (by omega)]
      exact ho j hj
theorem J.tape2 {t : Nat} {x y : Int32} {W V : qW} (hJ : J kk n w) (ht : t < 6) (hf : Fr (fun k _ => k = 103 + 2 * t ∨ k = 104 + 2 * t) w W) (b1 : qi W (103 + 2 * t) 0 = x) (b2 : qi W (103 + 2 * t) 1 = y) (b3 : ∀ j, j < 60 → ql W (104 + 2 * t) j = 0) (v1 : ∀ k j, qi V k j = qi (qpi (qpi W 157 t x) 158 t y) k j) (v2 : ∀ k j, ¬ k = 159 → ql V k j = ql (qpi (qpi W 157 t x) 158 t y) k j) (v3 : ∀ k j, qr V k j = qr (qpi (qpi W 157 t x) 158 t y) k j) (v4 : ∀ j, j < 60 → ql V 159 (60 * t + j) = 0) (v5 : ∀ j, (j < 60 * t ∨ 60 * t + 60 ≤ j) → ql V 159 j = ql (qpi (qpi W 157 t x) 158 t y) 159 j) (ok : (x = -1 ∧ y = 0) ∨ (rg x 4 ∧ rg y 60)) : J kk n V := by
  have hV : Fr (fun k j => k = 157 ∨ k = 158 ∨ k = 159) W V := fun k j q => ⟨(v1 k j).trans ((qi_k (by omega)).trans (qi_k (by omega))), (v2 k j (by omega)).trans rfl, (v3 k j).trans rfl⟩
  refine hJ.tap ((hf.mono (fun k j q => by unfold jTp; omega)).tr (hV.mono (fun k j q => by unfold jTp; omega))) (fun t2 ht2 => ?_)
  obtain ⟨q1, q2, q3, q4⟩ := hJ.2.2.2.2.2.2.1 t2 ht2
  have e157 : qi V 157 t2 = if t2 = t then x else qi w 157 t2 := by
    rw [v1, qi_k (by omega), qi_sel, (hf 157 t2 (by omega)).1]
  have e158 : qi V 158 t2 = if t2 = t then y else qi w 158 t2 := by
    rw [v1, qi_sel, qi_k (by omega), (hf 158 t2 (by omega)).1]
  rw [e157, e158]
  by_cases e : t2 = t
  · rw [if_pos e, if_pos e, e]
    refine ⟨(hV _ _ (by omega)).1.trans b1, (hV _ _ (by omega)).1.trans b2, fun j hj => ?_, ok⟩
    rw [(hV _ _ (by omega)).2.1, b3 j hj, v4 j hj]
  · rw [if_neg e, if_neg e]
    refine ⟨((hV _ _ (by omega)).1.trans (hf _ _ (by omega)).1).trans q1, ((hV _ _ (by omega)).1.trans (hf _ _ (by omega)).1).trans q2, fun j hj => ?_, q4⟩
    rw [(hV _ _ (by omega)).2.1, (hf _ _ (by omega)).2.1, q3 j hj, v5 _ (by omega)]
    exact ((hf 159 _ (by omega)).2.1).symm
theorem pr_tape : pair_tape E (I E) := by
  intro d w a1 a2 a3 hw hI
  obtain ⟨kk, n, hJ⟩ := id hI
  refine en_Qu_tape hw (s_Qu_tape_0 hw ?_)
  rcases rng (x := a1) 0 5 (by omega) (by omega) with h1 | ⟨t, -, h1, rfl⟩
  · exact p_wo hw h1 (f1 (en_Mo_tape hw (s_Mo_tape_0 hw (p_isT0 hw h1 (f1 ⟨rfl, hI⟩)))))
  have ht : t < 6 := by omega
  have hin : vp_in (nI t) 6 := nvp ht (by omega)
  refine p_wi (a := 0) (b := 5) hw (by omega) h1 (t1 ⟨fun z => ?_, fun z => ⟨hin, ?_⟩⟩)
  · rcases rng (x := a2) 0 4 (by omega) (by omega) with h2 | ⟨s, -, h2, rfl⟩
    · refine p_wo hw h2 (f2 (en_Mo_tape hw (s_Mo_tape_0 hw (p_isT1 hw ht (t1 (p_mo hw ?_ (f2 ⟨rfl, hI⟩)))))))
      rcases h2 with h | h
      · refine Or.inl ?_
        rw [Int32.lt_iff_toInt_lt] at h ⊢
        have e1 : (nI 0).toInt = 0 := rfl
        have e2 : (-1 : Int32).toInt = -1 := rfl
        have e3 : ¬ a2.toInt = -1 := fun q => z (Int32.toInt_inj.mp (q.trans e2.symm))
        omega
      · exact Or.inr h
    have m1 : ∀ {d : Nat} {w : qW} {Q : qW → Int32 → Prop}, Sh w → Q w 1 → CaI d M_Mo_in [.ref (qb E + 115), .int (nI s), .int (-1), .int 4] E w Q := by
      intro d w Q hw h
      refine p_Mo_in hw (fun _ _ => h) (fun q => ?_)
      rcases q with q | q
      · rw [Int32.lt_iff_toInt_lt, nI_toInt (by omega)] at q
        have e2 : (-1 : Int32).toInt = -1 := rfl
        omega
      · rw [n4, nlt (by omega) (by omega)] at q
        omega
    have hs0 : ¬ nI s < 0 := nI_pos (by omega)
    have hs1 : 0 ≤ nI s := nI_pos' (by omega)
    refine p_wi (a := 0) (b := 4) hw (by omega) h2 (t2 ⟨fun y => ⟨fun x => ⟨hin, ?_⟩, fun x => ?_⟩, fun y => ?_⟩)
    · rw [ncl (by omega)]
      obtain ⟨L, hL0, rfl⟩ := nI_of (Int32.not_lt.mpr x)
      have hL : L ≤ 60 := by
        rw [show (60 : Int32) = nI 60 from rfl] at y
        have := (nI_leI hL0 (by omega)).mp y
        omega
      refine p_become hw ht (fun w1 hw1 hf b1 b2 b3 => en_Mo_tape hw1 (s_Mo_tape_0 hw1 (p_isT1 hw1 ht (t1 (m1 hw1 (t2 ⟨fun q => absurd q hs0, fun _ => ⟨fun _ => ⟨fun q => absurd q hs0, fun _ => ⟨fun _ => ⟨hin, fun _ => ⟨hin, ?_⟩, fun q => absurd hs1 q⟩, fun q => absurd x q⟩⟩, fun q => absurd y q⟩⟩))))))
      rw [ncl (a := t) (by omega)]
      refine h_mtape (w := qpi (qpi w1 157 t (nI s)) 158 t (nI L)) ht (fun V hV v1 v2 v3 v4 v5 => ⟨rfl, kk, n, hJ.tape2 ht hf b1 b2 b3 v1 v2 v3 v4 v5 (Or.inr ⟨⟨s, h2, rfl⟩, ⟨L, hL, rfl⟩⟩)⟩) 60 0 _ (by omega) hw1 (fun _ _ => rfl) (fun _ _ _ => rfl) (fun _ _ => rfl) (fun j hj => by omega) (fun _ _ => rfl)
    · exact en_Mo_tape hw (s_Mo_tape_0 hw (p_isT1 hw ht (t1 (m1 hw (t2 ⟨fun q => absurd q hs0, fun _ => ⟨fun _ => ⟨fun q => absurd q hs0, fun _ => ⟨fun q => absurd q x, fun _ => ⟨rfl, hI⟩⟩⟩, fun q => absurd y q⟩⟩)))))
    · exact en_Mo_tape hw (s_Mo_tape_0 hw (p_isT1 hw ht (t1 (m1 hw (t2 ⟨fun q => absurd q hs0, fun _ => ⟨fun q => absurd q y, fun _ => ⟨rfl, hI⟩⟩⟩)))))
  · subst z
    rw [ncl (by omega)]
    refine p_become hw ht (fun w1 hw1 hf b1 b2 b3 => en_Mo_tape hw1 (s_Mo_tape_0 hw1 (p_isT1 hw1 ht (t1 (p_Mo_in hw1 (fun _ _ => t2 ⟨fun _ => ⟨fun _ => ⟨hin, fun q => absurd q neg1, fun _ => ⟨hin, ?_⟩⟩, fun q => absurd (by decide) q⟩, fun q => absurd (by decide) q⟩) (fun q => absurd q (by decide)))))))
    rw [ncl (a := t) (by omega)]
    exact h_mtape (w := qpi (qpi w1 157 t (-1)) 158 t 0) ht (fun V hV v1 v2 v3 v4 v5 => ⟨rfl, kk, n, hJ.tape2 ht hf b1 b2 b3 v1 v2 v3 v4 v5 (Or.inl ⟨rfl, rfl⟩)⟩) 60 0 _ (by omega) hw1 (fun _ _ => rfl) (fun _ _ _ => rfl) (fun _ _ => rfl) (fun j hj => by omega) (fun _ _ => rfl)
theorem ql_cl {w : qW} {k i k2 j n a c : Nat} : ql (qcl w k i k2 j n) a c = if a = k2 ∧ j ≤ c ∧ c < j + n then ql w k (i + (c - j)) else ql w a c := rfl
theorem at3 (t i x : Nat) : 60 * nI t + nI i + nI x = nI (60 * t + i + x) := by rw [at60, nI_add]
theorem h_sh1 {Q : qW → Int32 → Prop} {W : qW} {t i u j N : Nat} (ht : t < 6) (hi : i + N ≤ 60) (hQ : ∀ w1, Sh w1 → (∀ k y, qi w1 k y = qi W k y) → (∀ k y, ¬ k = 160 → ql w1 k y = ql W k y) → (∀ k y, qr w1 k y = qr W k y) → (∀ x, x < N → ql w1 160 x = ql W 159 (60 * t + i + x)) → c_Mo_shift_141 d E Q (nI u) (nI j) (nI N) 0 w1) :
    ∀ (m x : Nat) (w1 : qW), x + m = N → Sh w1 → (∀ k y, qi w1 k y = qi W k y) → (∀ k y, ¬ k = 160 → ql w1 k y = ql W k y) → (∀ k y, qr w1 k y = qr W k y) → (∀ y, y < x → ql w1 160 y = ql W 159 (60 * t + i + y)) → c_Mo_shift_104 d E Q (nI t) (nI i) (nI u) (nI j) (nI N) (nI x) w1 := by
  intro m
  induction m with
  | zero =>
    intro x w1 hx hw1 a b c hz
    have : x = N := by omega
    subst this
    exact s_Mo_shift_104 hw1 (pk_le x x (fun _ => hQ w1 hw1 a b c hz) (fun z => by omega))
  | succ m ih =>
    intro x w1 hx hw1 a b c hz
    refine s_Mo_shift_104 hw1 (pk_le N x (fun z => by omega) (fun _ => ?_))
    rw [at3, ncl (a := x) (by omega), ncl (by omega), n1]
    refine ⟨nvp (by omega) (by omega), nvp (by omega) (by omega), ih (x + 1) _ (by omega) hw1 a (fun k y q => (ql_k q).trans (b k y q)) c (fun y hy => ?_)⟩
    rw [ql_sel]
    by_cases e : y = x
    · rw [if_pos e, b 159 _ (by omega), e]
    · rw [if_neg e]; exact hz y (by omega)
theorem h_sh2 {Q : qW → Int32 → Prop} {W : qW} {u j N : Nat} (hu : u < 6) (hj : j + N ≤ 60) (hQ : ∀ w1, Sh w1 → (∀ k y, qi w1 k y = qi W k y) → (∀ k y, ¬ k = 159 → ql w1 k y = ql W k y) → (∀ k y, qr w1 k y = qr W k y) → (∀ y, ql w1 159 y = if 60 * u + j ≤ y ∧ y < 60 * u + j + N then ql W 160 (y - (60 * u + j)) else ql W 159 y) → Q w1 (nI N)) :
    ∀ (m x : Nat) (w1 : qW), x + m = N → Sh w1 → (∀ k y, qi w1 k y = qi W k y) → (∀ k y, ¬ k = 159 → ql w1 k y = ql W k y) → (∀ k y, qr w1 k y = qr W k y) → (∀ y, ql w1 159 y = if 60 * u + j ≤ y ∧ y < 60 * u + j + x then ql W 160 (y - (60 * u + j)) else ql W 159 y) → c_Mo_shift_141 d E Q (nI u) (nI j) (nI N) (nI x) w1 := by
  intro m
  induction m with
  | zero =>
    intro x w1 hx hw1 a b c hz
    have : x = N := by omega
    subst this
    exact s_Mo_shift_141 hw1 (pk_le x x (fun _ => hQ w1 hw1 a b c hz) (fun z => by omega))
  | succ m ih =>
    intro x w1 hx hw1 a b c hz
    refine s_Mo_shift_141 hw1 (pk_le N x (fun z => by omega) (fun _ => ?_))
    rw [at3, ncl (a := x) (by omega), ncl (by omega), n1]
    refine ⟨nvp (by omega) (by omega), nvp (by omega) (by omega), ih (x + 1) _ (by omega) hw1 a (fun k y q => (ql_k q).trans (b k y q)) c (fun y => ?_)⟩
    rw [ql_sel, b 160 _ (by omega), hz]
    by_cases e : y = 60 * u + j + x
    · rw [if_pos e, if_pos (by omega), e]
      congr 1
      omega
    · rw [if_neg e]
      by_cases e2 : 60 * u + j ≤ y ∧ y < 60 * u + j + x
      · rw [if_pos e2, if_pos (by omega)]
      · rw [if_neg e2, if_neg (by omega)]
def runOK (L : Nat) (i m : Int32) : Prop := ¬ m < 0 ∧ ¬ i < 0 ∧ ¬ nI L - m < i
theorem p_run1 {Q : qW → Int32 → Prop} {tt L : Nat} {i m : Int32} (hw : Sh w) (ht : isTa tt) (hL : qi w tt 1 = nI L) (hl : L ≤ 60) (hr : runOK L i m) (hQ : Q w 1) : CaI d M_Ta_hasRun [.ref (qb E + tt), .int i, .int m] E w Q := by
  refine en_Ta_hasRun hw (s_Ta_hasRun_0 hw ht ?_)
  rw [hL]
  exact ⟨fun z => absurd z hr.1, fun _ => ⟨fun z => absurd z hr.2.1, fun _ => ⟨fun z => absurd z (by rw [show (60 : Int32) = nI 60 from rfl, nlt (by omega) (by omega)]; omega), fun _ => ⟨fun z => absurd z hr.2.2, fun _ => hQ⟩⟩⟩⟩
theorem p_run0 {Q : qW → Int32 → Prop} {tt L : Nat} {i m : Int32} (hw : Sh w) (ht : isTa tt) (hL : qi w tt 1 = nI L) (hr : ¬ runOK L i m) (hQ : Q w 0) : CaI d M_Ta_hasRun [.ref (qb E + tt), .int i, .int m] E w Q := by
  refine en_Ta_hasRun hw (s_Ta_hasRun_0 hw ht ?_)
  rw [hL]
  exact ⟨fun _ => hQ, fun x => ⟨fun _ => hQ, fun y => ⟨fun _ => hQ, fun _ => ⟨fun _ => hQ, fun z => absurd ⟨x, y, z⟩ hr⟩⟩⟩⟩
theorem run_nat {L : Nat} {i m : Int32} (hl : L ≤ 60) (hr : runOK L i m) : ∃ a b : Nat, i = nI a ∧ m = nI b ∧ a + b ≤ L := by
  obtain ⟨h1, h2, h3⟩ := hr
  obtain ⟨b, hb, rfl⟩ := nI_of h1
  obtain ⟨a, ha, rfl⟩ := nI_of h2
  refine ⟨a, b, rfl, rfl, ?_⟩
  rw [Int32.lt_iff_toInt_lt, Int32.toInt_sub, nI_toInt (by omega), nI_toInt (by omega), nI_toInt (by omega), bm (by omega) (by omega)] at h3
  omega
theorem pr_shift : pair_shift E (I E) := by
  intro d w a1 a2 a3 a4 a5 hw hI
  obtain ⟨kk, n, hJ⟩ := id hI
  have hT := hJ.2.2.2.2.2.2.1
  refine en_Qu_shift hw (s_Qu_shift_0 hw ?_)
  rcases rng (x := a1) 0 5 (by omega) (by omega) with h1 | ⟨t, -, h1, rfl⟩
  · exact p_wo hw h1 (f2 (en_Mo_shift hw (s_Mo_shift_0 hw (p_isT0 hw h1 (f2 ⟨rfl, hI⟩)))))
  have ht : t < 6 := by omega
  have hin : vp_in (nI t) 6 := nvp ht (by omega)
  refine p_wi (a := 0) (b := 5) hw (by omega) h1 (t2 ?_)
  rcases rng (x := a3) 0 5 (by omega) (by omega) with h3 | ⟨u, -, h3, rfl⟩
  · exact p_wo hw h3 (f1 (en_Mo_shift hw (s_Mo_shift_0 hw (p_isT1 hw ht (t2 (p_isT0 hw h3 (f1 ⟨rfl, hI⟩)))))))
  have hu : u < 6 := by omega
  have hiu : vp_in (nI u) 6 := nvp hu (by omega)
  obtain ⟨L, l1, l2, l3, l4, l5⟩ := hT.at ht
  obtain ⟨P, p1, p2, p3, p4, p5⟩ := hT.at hu
  refine p_wi (a := 0) (b := 5) hw (by omega) h3 (t1 ⟨hin, hiu, ?_⟩)
  rw [ncl (a := t) (by omega), ncl (a := u) (by omega), l4, p4]
  have enM : ∀ {W : qW} {x : Int32}, Sh W → ((qi W 157 t < 0 → x = -11 ∧ I E W) ∧ (¬ qi W 157 t < 0 → vp_in (nI u) 6 ∧ ((0 ≤ qi W 157 u → vp_in (nI t) 6 ∧ vp_in (nI u) 6 ∧ ((qi W 157 t = qi W 157 u → ((a5 < 0 → x = -13 ∧ I E W) ∧ (¬ a5 < 0 → ((a2 < 0 → x = -13 ∧ I E W) ∧ (¬ a2 < 0 → ((a4 < 0 → x = -13 ∧ I E W) ∧ (¬ a4 < 0 → vp_in (nI t) 6 ∧ ((qi W 158 t - a5 < a2 → x = -13 ∧ I E W) ∧ (¬ qi W 158 t - a5 < a2 → vp_in (nI u) 6 ∧ ((a4 ≤ qi W 158 u - a5 → c_Mo_shift_104 (d + 41) E (fun w4 y => x = y ∧ I E w4) (nI t) a2 (nI u) a4 a5 0 W) ∧ (¬ a4 ≤ qi W 158 u - a5 → x = -13 ∧ I E W))))))))))) ∧ (¬ qi W 157 t = qi W 157 u → x = -12 ∧ I E W))) ∧ (¬ 0 ≤ qi W 157 u → x = -11 ∧ I E W)))) → CaI (d + 43) M_Mo_shift [.ref (qb E + 115), .int (nI t), .int a2, .int (nI u), .int a4, .int a5] E W (fun w4 y => x = y ∧ I E w4) := by
    intro W x hW h
    refine en_Mo_shift hW (s_Mo_shift_0 hW (p_isT1 hW ht (t2 (p_isT1 hW hu (t1 ⟨hin, ?_⟩)))))
    rw [ncl (a := t) (by omega), ncl (a := u) (by omega)]
    exact h
  rcases l5 with ⟨e, l5⟩ | ⟨s, s1, s2⟩
  · refine ⟨fun _ => enM hw ⟨fun _ => ⟨rfl, hI⟩, fun z => absurd ?_ z⟩, fun z => absurd e z⟩
    rw [e]
    decide
  have s0 : ¬ qi w 157 t < 0 := by rw [s2]; exact nI_pos (by omega)
  refine ⟨fun z => absurd (s2.symm.trans z) (ne1 (by omega)), fun _ => ?_⟩
  rcases p5 with ⟨e, p5⟩ | ⟨r, r1, r2⟩
  · refine ⟨fun z => absurd e z, fun _ => enM hw ⟨fun z => absurd z s0, fun _ => ⟨hiu, fun z => absurd z ?_, fun _ => ⟨rfl, hI⟩⟩⟩⟩
    rw [e]
    exact neg1
  have r0 : 0 ≤ qi w 157 u := by rw [r2]; exact nI_pos' (by omega)
  refine ⟨fun _ => ⟨fun hsr => ?_, fun hsr => enM hw ⟨fun z => absurd z s0, fun _ => ⟨hiu, fun _ => ⟨hin, hiu, fun z => absurd z hsr, fun _ => ⟨rfl, hI⟩⟩, fun z => absurd r0 z⟩⟩⟩, fun z => absurd (r2.symm.trans z) (ne1 (by omega))⟩
  have ni : ∀ {x y : Int32}, ¬ x < y → y ≤ x := fun h => Int32.not_lt.mp h
  have li : ∀ {x y : Int32}, ¬ x ≤ y → y < x := fun h => Int32.not_le.mp h
  by_cases q1 : runOK L a2 a5
  · refine p_run1 hw (ta_t ht) l2 l1 q1 (t2 ?_)
    by_cases q2 : runOK P a4 a5
    · refine p_run1 hw (ta_t hu) p2 p1 q2 (t1 ?_)
      obtain ⟨i, N, rfl, rfl, hiN⟩ := run_nat l1 q1
      obtain ⟨j, N', rfl, hN', hjN⟩ := run_nat p1 q2
      refine ⟨q1.2.1, q2.2.1, q1.1, ?_⟩
      have hN2 : N' = N := by
        have hh := hN'
        rw [nI_eq (by omega) (by omega)] at hh
        exact hh.symm
      subst hN2
      rw [ncl (a := i) (by omega), ncl (a := j) (by omega), ncl (a := N') (by omega), show 103 + 2 * t + 1 = 104 + 2 * t by omega, show 103 + 2 * u + 1 = 104 + 2 * u by omega]
      refine ⟨by omega, by omega, ?_⟩
      have hw1 : Sh (qcl w (104 + 2 * t) i (104 + 2 * u) j N') := hw
      have g1 : ∀ k y, qi (qcl w (104 + 2 * t) i (104 + 2 * u) j N') k y = qi w k y := fun _ _ => rfl
      have g2 : ∀ k y, qr (qcl w (104 + 2 * t) i (104 + 2 * u) j N') k y = qr w k y := fun _ _ => rfl
      have g3 : ∀ k y, ql (qcl w (104 + 2 * t) i (104 + 2 * u) j N') k y = if k = 104 + 2 * u ∧ j ≤ y ∧ y < j + N' then ql w (104 + 2 * t) (i + (y - j)) else ql w k y := fun _ _ => rfl
      generalize qcl w (104 + 2 * t) i (104 + 2 * u) j N' = W at hw1 g1 g2 g3
      refine enM hw1 ?_
      rw [g1, g1, g1, g1, l3, p3]
      refine ⟨fun z => absurd z s0, fun _ => ⟨hiu, fun _ => ⟨hin, hiu, fun _ => ⟨fun z => absurd z q1.1, fun _ => ⟨fun z => absurd z q1.2.1, fun _ => ⟨fun z => absurd z q2.2.1, fun _ => ⟨hin, fun z => absurd z q1.2.2, fun _ => ⟨hiu, fun _ => ?_, fun z => absurd (ni q2.2.2) z⟩⟩⟩⟩⟩, fun z => absurd hsr z⟩, fun z => absurd r0 z⟩⟩
      refine h_sh1 (W := W) ht (by omega) (fun w3 hw3 a b c h160 => ?_) N' 0 W (by omega) hw1 (fun _ _ => rfl) (fun _ _ _ => rfl) (fun _ _ => rfl) (fun y hy => by omega)
      refine h_sh2 (W := w3) hu (by omega) (fun V hV a' b' c' h159 => ⟨rfl, kk, n, ?_⟩) N' 0 w3 (by omega) hw3 (fun _ _ => rfl) (fun _ _ _ => rfl) (fun _ _ => rfl) (fun y => by rw [if_neg (by omega)])
      have e1 : ∀ k y, qi V k y = qi w k y := fun k y => (a' k y).trans ((a k y).trans (g1 k y))
      have e2 : ∀ k y, qr V k y = qr w k y := fun k y => (c' k y).trans ((c k y).trans (g2 k y))
      have e3 : ∀ k y, ¬ k = 159 → ¬ k = 160 → ql V k y = ql W k y := fun k y z1 z2 => (b' k y z1).trans (b k y z2)
      have e4 : ∀ y, ql V 159 y = if 60 * u + j ≤ y ∧ y < 60 * u + j + N' then ql w 159 (60 * t + i + (y - (60 * u + j))) else ql w 159 y := fun y => by
        rw [h159]
        by_cases z : 60 * u + j ≤ y ∧ y < 60 * u + j + N'
        · rw [if_pos z, if_pos z, h160 _ (by omega), g3, if_neg (by omega)]
        · rw [if_neg z, if_neg z, b 159 y (by omega), g3, if_neg (by omega)]
      refine hJ.tap (fun k y z => ⟨e1 k y, ?_, e2 k y⟩) (fun t2 ht2 => ?_)
      · unfold jTp at z
        rw [e3 k y (by omega) (by omega), g3, if_neg (by omega)]
      · obtain ⟨x1, x2, x3, x4⟩ := hT t2 ht2
        refine ⟨by rw [e1, e1]; exact x1, by rw [e1, e1]; exact x2, fun y hy => ?_, by rw [e1, e1]; exact x4⟩
        rw [e3 _ _ (by omega) (by omega), g3, e4]
        by_cases z : t2 = u ∧ j ≤ y ∧ y < j + N'
        · rw [if_pos (by omega), if_pos (by omega), (hT t ht).2.2.1 _ (by omega), z.1]
          congr 1
          omega
        · rw [if_neg (by omega), if_neg (by omega)]
          exact x3 y hy
    · refine p_run0 hw (ta_t hu) p2 q2 (f1 (enM hw ?_))
      rw [l3, p3]
      exact ⟨fun z => absurd z s0, fun _ => ⟨hiu, fun _ => ⟨hin, hiu, fun _ => ⟨fun z => absurd z q1.1, fun x => ⟨fun z => absurd z q1.2.1, fun _ => ⟨fun _ => ⟨rfl, hI⟩, fun y => ⟨hin, fun z => absurd z q1.2.2, fun _ => ⟨hiu, fun z => absurd ⟨x, y, Int32.not_lt.mpr z⟩ q2, fun _ => ⟨rfl, hI⟩⟩⟩⟩⟩⟩, fun z => absurd hsr z⟩, fun z => absurd r0 z⟩⟩
  · refine p_run0 hw (ta_t ht) l2 q1 (f2 (enM hw ?_))
    rw [l3, p3]
    exact ⟨fun z => absurd z s0, fun _ => ⟨hiu, fun _ => ⟨hin, hiu, fun _ => ⟨fun _ => ⟨rfl, hI⟩, fun x => ⟨fun _ => ⟨rfl, hI⟩, fun y => ⟨fun _ => ⟨rfl, hI⟩, fun _ => ⟨hin, fun _ => ⟨rfl, hI⟩, fun z => absurd ⟨x, y, z⟩ q1⟩⟩⟩⟩, fun z => absurd hsr z⟩, fun z => absurd r0 z⟩⟩
/-- times judged -/
def jdF (w : qW) (t L p : Nat) : Nat → Nat → Int32
  | 0, _ => -5
  | k + 1, i => if p + i < L then (if lg_cmp (ql w 159 (60 * t + (p + i))) ((qi w 121 i : Int32).toInt64) = 0 then jdF w t L p k (i + 1) else nI i) else 100 + nI i
theorem h_xjd {Q : qW → Int32 → Prop} {t L p c : Nat} (hw : Sh w) (hJ : J kk n w) (ht : t < 6) (hL : qi w (103 + 2 * t) 1 = nI L) (hl : L ≤ 60) (hp : p < L) (c1 : c ≤ 6) (c2 : qi w 15 0 = nI c) :
    ∀ (k i : Nat), i + k = c → Q w (jdF w t L p k i) → c_Pa_judgeTimes_5 d E Q 15 (103 + 2 * t) (nI (p + i)) (nI i) w := by
  intro k
  induction k with
  | zero =>
    intro i hi hQ
    exact s_Pa_judgeTimes_5 hw pan15 (ta_t ht) (pk_le c i (fun _ => hQ) (fun z => by omega) c2)
  | succ k ih =>
    intro i hi hQ
    have hQ' : Q w (if p + i < L then (if lg_cmp (ql w 159 (60 * t + (p + i))) ((qi w 121 i : Int32).toInt64) = 0 then jdF w t L p k (i + 1) else nI i) else 100 + nI i) := hQ
    refine s_Pa_judgeTimes_5 hw pan15 (ta_t ht) (pk_le c i (fun z => by omega) (fun _ => ⟨fun z => absurd z (by rw [n6, nle (by omega) (by omega)]; omega), fun _ => ?_⟩) c2)
    by_cases hpi : p + i < L
    · rw [if_pos hpi] at hQ'
      refine p_has1 hw (ta_t ht) hL hl hpi (t1 ⟨nvp (by omega) (by omega), nvp (by omega) (by omega), ?_⟩)
      rw [ncl (a := p + i) (by omega), ncl (a := i) (by omega), show qi w (15 + 3 + 2 * i) 6 = qi w 121 i from x6 (a := 5) (by omega) (by omega) hJ, show 103 + 2 * t + 1 = 104 + 2 * t by omega, (hJ.2.2.2.2.2.2.1 t ht).2.2.1 (p + i) (by omega), n1, n1]
      exact ⟨fun z => ih (i + 1) (by omega) (by rw [if_pos z] at hQ'; exact hQ'), fun z => by rw [if_neg z] at hQ'; exact hQ'⟩
    · rw [if_neg hpi] at hQ'
      exact p_has0 hw (ta_t ht) hL (Or.inr ((nle (by omega) (by omega)).mpr (by omega))) (f1 hQ')
theorem h_mjd {Q : qW → Int32 → Prop} {t L p c : Nat} (hw : Sh w) (ht : t < 6) (h0 : ¬ qi w 157 t < 0) (hL : qi w 158 t = nI L) (hl : L ≤ 60) (hp : p < L) (c1 : c ≤ 6) (c3 : qi w 115 0 = nI c) :
    ∀ (k i : Nat), i + k = c → Q w (jdF w t L p k i) → c_Mo_judge_34 d E Q (nI t) (nI p) (nI i) w := by
  intro k
  induction k with
  | zero =>
    intro i hi hQ
    exact s_Mo_judge_34 hw (pk_le c i (fun _ => hQ) (fun z => by omega) c3)
  | succ k ih =>
    intro i hi hQ
    have hQ' : Q w (if p + i < L then (if lg_cmp (ql w 159 (60 * t + (p + i))) ((qi w 121 i : Int32).toInt64) = 0 then jdF w t L p k (i + 1) else nI i) else 100 + nI i) := hQ
    have hin : vp_in (nI t) 6 := nvp ht (by omega)
    have el : (nI L - nI i - 1).toInt = (L : Int) - i - 1 := by
      have e1 : (1 : Int32).toInt = 1 := rfl
      rw [Int32.toInt_sub, Int32.toInt_sub, nI_toInt (by omega), nI_toInt (by omega), e1, bm (z := (L : Int) - i) (by omega) (by omega), bm (by omega) (by omega)]
    have hle : nI p ≤ nI L - nI i - 1 ↔ p + i < L := by
      rw [Int32.le_iff_toInt_le, el, nI_toInt (by omega)]
      omega
    refine s_Mo_judge_34 hw (pk_le c i (fun z => by omega) (fun _ => ⟨hin, ?_⟩) c3)
    rw [ncl (a := t) (by omega), hL, at3, ncl (a := i) (by omega), n1]
    refine ⟨fun z => absurd z h0, fun _ => ⟨fun z => absurd z (nI_pos (by omega)), fun _ => ⟨hin, fun z => ?_, fun z => ?_⟩⟩⟩
    · have hpi := hle.mp z
      rw [if_pos hpi] at hQ'
      rw [ncl (by omega), show 60 * t + p + i = 60 * t + (p + i) by omega]
      exact ⟨nvp (by omega) (by omega), nvp (by omega) (by omega), fun z => ih (i + 1) (by omega) (by rw [if_pos z] at hQ'; exact hQ'), fun z => by rw [if_neg z] at hQ'; exact hQ'⟩
    · rw [if_neg (fun q => z (hle.mpr q))] at hQ'
      exact hQ'
theorem pr_judge : pair_judge E (I E) := by
  intro d w a1 a2 hw hI
  obtain ⟨kk, n, hJ⟩ := id hI
  obtain ⟨c, c1, c2, c3, c4⟩ := hJ.cn
  refine en_Qu_judge hw (s_Qu_judge_0 hw ?_)
  rcases rng (x := a1) 0 5 (by omega) (by omega) with h1 | ⟨t, -, h1, rfl⟩
  · exact p_wo hw h1 (f1 (en_Mo_judge hw (s_Mo_judge_0 hw (p_isT0 hw h1 (f1 ⟨rfl, hI⟩)))))
  have ht : t < 6 := by omega
  have hin : vp_in (nI t) 6 := nvp ht (by omega)
  obtain ⟨L, l1, l2, l3, l4, l5⟩ := hJ.2.2.2.2.2.2.1.at ht
  refine p_wi (a := 0) (b := 5) hw (by omega) h1 (t1 ⟨hin, ?_⟩)
  rw [ncl (by omega), l4]
  have enM : ∀ {x : Int32}, ((qi w 157 t < 0 → c_Mo_judge_34 (d + 41) E (fun w4 y => x = y ∧ I E w4) (nI t) a2 0 w) ∧ (¬ qi w 157 t < 0 → vp_in (nI t) 6 ∧ ((qi w 157 t = 3 → c_Mo_judge_34 (d + 41) E (fun w4 y => x = y ∧ I E w4) (nI t) a2 0 w) ∧ (¬ qi w 157 t = 3 → x = -12 ∧ I E w)))) → CaI (d + 43) M_Mo_judge [.ref (qb E + 115), .int (nI t), .int a2] E w (fun w4 y => x = y ∧ I E w4) := by
    intro x h
    refine en_Mo_judge hw (s_Mo_judge_0 hw (p_isT1 hw ht (t1 ⟨hin, ?_⟩)))
    rw [ncl (by omega)]
    exact h
  have bad : (a2 < 0 ∨ nI L ≤ a2) → ∀ {d1 : Nat} {Q1 : qW → Int32 → Prop}, Q1 w (if c = 0 then -5 else 100 + nI 0) → c_Pa_judgeTimes_5 d1 E Q1 15 (103 + 2 * t) a2 0 w := by
    intro h d1 Q1 hQ
    refine s_Pa_judgeTimes_5 hw pan15 (ta_t ht) (pk_le c 0 (fun z => ?_) (fun z => ⟨fun y => absurd y (by decide), fun _ => ?_⟩) c2)
    · rw [if_pos (by omega)] at hQ
      exact hQ
    · rw [if_neg (by omega)] at hQ
      exact p_has0 hw (ta_t ht) l2 h (f1 hQ)
  have bam : (a2 < 0 ∨ nI L ≤ a2) → ∀ {d1 : Nat} {Q1 : qW → Int32 → Prop}, Q1 w (if c = 0 then -5 else 100 + nI 0) → c_Mo_judge_34 d1 E Q1 (nI t) a2 0 w := by
    intro h d1 Q1 hQ
    refine s_Mo_judge_34 hw (pk_le c 0 (fun z => ?_) (fun z => ⟨hin, ?_⟩) c3)
    · rw [if_pos (by omega)] at hQ
      exact hQ
    · rw [if_neg (by omega)] at hQ
      rw [ncl (a := t) (by omega), l3]
      refine ⟨fun _ => hQ, fun _ => ⟨fun _ => hQ, fun y => ⟨hin, fun x => absurd x ?_, fun _ => hQ⟩⟩⟩
      have h' := h.resolve_left y
      rw [Int32.le_iff_toInt_le, nI_toInt (by omega)] at h'
      have e0 : (0 : Int32).toInt = 0 := rfl
      have e1 : (1 : Int32).toInt = 1 := rfl
      rw [Int32.le_iff_toInt_le, Int32.toInt_sub, Int32.toInt_sub, nI_toInt (by omega), e0, e1, bm (z := (L : Int) - 0) (by omega) (by omega), bm (by omega) (by omega)]
      omega
  have go3 : (qi w 157 t = 3 ∨ qi w 157 t = -1) → ∀ {d1 : Nat}, c_Pa_judgeTimes_5 d1 E (fun w2 x => CaI (d + 43) M_Mo_judge [.ref (qb E + 115), .int (nI t), .int a2] E w2 (fun w4 y => x = y ∧ I E w4)) 15 (103 + 2 * t) a2 0 w := by
    intro hs d1
    rcases ixL (x := a2) L l1 with h2 | ⟨p, h2, rfl⟩
    · refine bad h2 (enM ⟨fun _ => bam h2 ⟨rfl, hI⟩, fun z => ⟨hin, fun _ => bam h2 ⟨rfl, hI⟩, fun y => ?_⟩⟩)
      rcases hs with hs | hs
      · exact absurd hs y
      · rw [hs] at z
        exact absurd (by decide) z
    · have hs0 : ¬ qi w 157 t < 0 := by
        rcases l5 with ⟨-, l5⟩ | ⟨s, s1, s2⟩
        · omega
        · rw [s2]
          exact nI_pos (by omega)
      have hs3 : qi w 157 t = 3 := by
        rcases hs with hs | hs
        · exact hs
        · rw [hs] at hs0
          exact absurd (by decide) hs0
      refine h_xjd (p := p) hw hJ ht l2 l1 h2 c1 c2 c 0 (by omega) (enM ⟨fun z => absurd z hs0, fun _ => ⟨hin, fun _ => h_mjd hw ht hs0 l3 l1 h2 c1 c3 c 0 (by omega) ⟨rfl, hI⟩, fun z => absurd hs3 z⟩⟩)
  refine ⟨fun z => en_Pa_judgeTimes hw (s_Pa_judgeTimes_0 hw pan15 (ta_t ht) (go3 (Or.inl z))), fun z => ⟨fun y => en_Pa_judgeTimes hw (s_Pa_judgeTimes_0 hw pan15 (ta_t ht) (go3 (Or.inr y))), fun y => enM ⟨fun x => ?_, fun x => ⟨hin, fun v => absurd v z, fun _ => ⟨rfl, hI⟩⟩⟩⟩⟩
  rcases l5 with ⟨e, l5⟩ | ⟨s, s1, s2⟩
  · exact absurd e y
  · rw [s2] at x
    exact absurd x (nI_pos (by omega))
end PTp
