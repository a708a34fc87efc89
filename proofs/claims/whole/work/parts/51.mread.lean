/-! the model reads: signs, words, numbers -/
section RM
variable {d : Nat} {E : qE} {S : Nat → Nat} {L p q : Nat} {w w0 w1 : qW}
/-- the text lies before the model -/
def rdM (S : Nat → Nat) (L : Nat) (w : qW) : Prop := L ≤ 100 ∧ (∀ j, S j ≤ 127) ∧ (∀ j, L ≤ j → S j = 0) ∧ qi w 115 14 = nI L ∧ (∀ j, j < L → qi w 123 j = nI (S j)) ∧ LET w
/-- what reading changes -/
def jMr (k j : Nat) : Prop := (k = 115 ∧ (j = 15 ∨ j = 16 ∨ (25 ≤ j ∧ j ≤ 27))) ∨ (124 ≤ k ∧ k ≤ 130)
theorem rdM.fr (h : rdM S L w) (hf : Fr jMr w w1) : rdM S L w1 := by
  obtain ⟨h2, h3, h4, h5, h6, h7⟩ := h
  exact ⟨h2, h3, h4, (hf 115 14 (by unfold jMr; omega)).1.trans h5, fun j hj => (hf 123 j (by unfold jMr; omega)).1.trans (h6 j hj), h7.fr (fun j => (hf 131 j (by unfold jMr; omega)).1)⟩
/-- only the place and the digits have moved -/
def MvM (w w1 : qW) (q : Nat) : Prop := Sh w1 ∧ Fr (fun k j => k = 115 ∧ (j = 15 ∨ j = 16)) w w1 ∧ qi w1 115 15 = nI q
theorem MvM.rd (h : MvM w w1 q) (hr : rdM S L w) : rdM S L w1 := hr.fr (h.2.1.mono (fun k j z => by unfold jMr; omega))
theorem MvM.to {w2 : qW} (h : MvM w w1 p) (h2 : MvM w1 w2 q) : MvM w w2 q := ⟨h2.1, h.2.1.tr h2.2.1, h2.2.2⟩
theorem m_next {Q : qW → Int32 → Prop} (hw : Sh w) (hr : rdM S L w) (hp : qi w 115 15 = nI p) (hl : p ≤ L) (hQ : Q w (sgI S L p)) : CaI d M_Mo_next [.ref (qb E + 115)] E w Q := by
  obtain ⟨h2, h3, h4, h5, h6, h7⟩ := hr
  refine en_Mo_next hw (s_Mo_next_0 hw ?_)
  rw [hp, h5]
  unfold sgI at hQ
  refine pk_le L p (fun z => ?_) (fun z => ⟨nvp (by omega) (by omega), ?_⟩)
  · rw [if_neg (by omega)] at hQ
    exact hQ
  · rw [if_pos z] at hQ
    rw [ncl (by omega), h6 p z]
    exact hQ
theorem m_takes {Q : qW → Int32 → Prop} {c : Nat} (hw : Sh w) (hr : rdM S L w) (hp : qi w 115 15 = nI p) (hl : p ≤ L) (h0 : 0 < c) (hc : c < 1000) (h1 : S p = c → ∀ w1, MvM w w1 (p + 1) → Q w1 1) (h2 : ¬ S p = c → Q w 0) : CaI (d + 1) M_Mo_takes [.ref (qb E + 115), .int (nI c)] E w Q := by
  refine en_Mo_takes hw (s_Mo_takes_0 hw (m_next hw hr hp hl ?_))
  rw [sg_eq hr.2.1 hr.2.2.1 h0 hc, hp, n1]
  exact ⟨fun z => h1 z _ ⟨hw, Fr.rf.pi ⟨rfl, Or.inl rfl⟩, qi_eq rfl rfl⟩, h2⟩
theorem m_isDigit {Q : qW → Int32 → Prop} (hw : Sh w) (hr : rdM S L w) (hp : qi w 115 15 = nI p) (hl : p ≤ L) (h1 : isD (S p) = true → Q w 1) (h0 : ¬ isD (S p) = true → Q w 0) : CaI (d + 1) M_Mo_isDigit [.ref (qb E + 115)] E w Q := by
  refine en_Mo_isDigit hw (s_Mo_isDigit_0 hw (m_next hw hr hp hl ?_))
  by_cases h : isD (S p) = true
  · have h' : 48 ≤ S p ∧ S p ≤ 57 := of_decide_eq_true h
    have hp' := lt_L hr.2.2.1 (p := p) (by omega)
    have e : sgI S L p = nI (S p) := by
      unfold sgI
      rw [if_pos hp']
    rw [e]
    exact p_mi (a := 48) (b := 57) hw h'.1 h'.2 ⟨Or.inr rfl, h1 h⟩
  · refine p_mo hw ?_ ⟨Or.inl rfl, h0 h⟩
    have h' : ¬ (48 ≤ S p ∧ S p ≤ 57) := fun z => h (decide_eq_true z)
    have := hr.2.1 p
    unfold sgI
    by_cases hp' : p < L
    · rw [if_pos hp', show (48 : Int32) = nI 48 from rfl, show (57 : Int32) = nI 57 from rfl, nlt (by omega) (by omega), nlt (by omega) (by omega)]
      omega
    · rw [if_neg hp']
      exact Or.inl (by decide)
theorem m_num {Q : qW → Int32 → Prop} (hw : Sh w) (hr : rdM S L w) (hp : qi w 115 15 = nI p) (hl : p ≤ L) (hQ : hN (numP S p) (fun _ => Q w 0) (fun n q => ∀ w1, MvM w w1 q → qi w1 115 16 = nI n → Q w1 1)) : CaI (d + 2) M_Mo_takesNumber [.ref (qb E + 115)] E w Q := by
  have hS := hr.2.1
  have hL := hr.2.2.1
  have val : ∀ (a p : Nat), isD (S p) = true → 10 * nI a + sgI S L p - 48 = nI (10 * a + (S p - 48)) := fun a p h => by
    rw [Int32.sub_eq_add_neg, Int32.add_assoc, ← Int32.sub_eq_add_neg, (dig_1 hS hL h).1, show (10 : Int32) = nI 10 from rfl, pk_mul, nI_add]
  unfold numP at hQ
  refine en_Mo_takesNumber hw (s_Mo_takesNumber_0 hw (m_isDigit hw hr hp hl (fun h1 => ?_) (fun h1 => ?_)))
  · obtain ⟨-, b1, l1⟩ := dig_1 hS hL h1
    rw [if_pos h1] at hQ
    refine ⟨fun _ => ?_, fun y => absurd y (by decide)⟩
    have m0 : MvM w (qpi w 115 16 0) p := ⟨hw, Fr.rf.pi ⟨rfl, Or.inr rfl⟩, by rw [qi_j (by decide)]; exact hp⟩
    have v0 : qi (qpi w 115 16 0) 115 16 = nI 0 := qi_eq rfl rfl
    generalize qpi w 115 16 0 = W at m0 v0
    refine s_Mo_takesNumber_16 m0.1 ⟨fun z => absurd z (by decide), fun _ => m_isDigit m0.1 (m0.rd hr) m0.2.2 hl (fun _ => ⟨fun y => absurd y (by decide), fun _ => m_next m0.1 (m0.rd hr) m0.2.2 hl ?_⟩) (fun z => absurd h1 z)⟩
    rw [v0, val 0 p h1, Nat.mul_zero, Nat.zero_add, qi_j (by decide), m0.2.2, n1]
    have m1 : MvM w (qpi (qpi W 115 16 (nI (S p - 48))) 115 15 (nI (p + 1))) (p + 1) := ⟨m0.1, (m0.2.1.pi ⟨rfl, Or.inr rfl⟩).pi ⟨rfl, Or.inl rfl⟩, qi_eq rfl rfl⟩
    have v1 : qi (qpi (qpi W 115 16 (nI (S p - 48))) 115 15 (nI (p + 1))) 115 16 = nI (S p - 48) := by rw [qi_j (by decide), qi_eq rfl rfl]
    generalize qpi (qpi W 115 16 (nI (S p - 48))) 115 15 (nI (p + 1)) = V at m1 v1
    refine s_Mo_takesNumber_16 m1.1 ⟨fun z => absurd z (by decide), fun _ => m_isDigit m1.1 (m1.rd hr) m1.2.2 (by omega) (fun h2 => ⟨fun y => absurd y (by decide), fun _ => m_next m1.1 (m1.rd hr) m1.2.2 (by omega) ?_⟩) (fun h2 => ⟨fun _ => ?_, fun y => absurd rfl y⟩)⟩
    · rw [if_pos h2] at hQ
      rw [v1, val (S p - 48) (p + 1) h2, qi_j (by decide), m1.2.2, n1]
      have m2 : MvM w (qpi (qpi V 115 16 (nI (10 * (S p - 48) + (S (p + 1) - 48)))) 115 15 (nI (p + 1 + 1))) (p + 1 + 1) := ⟨m1.1, (m1.2.1.pi ⟨rfl, Or.inr rfl⟩).pi ⟨rfl, Or.inl rfl⟩, qi_eq rfl rfl⟩
      have v2 : qi (qpi (qpi V 115 16 (nI (10 * (S p - 48) + (S (p + 1) - 48)))) 115 15 (nI (p + 1 + 1))) 115 16 = nI (10 * (S p - 48) + (S (p + 1) - 48)) := by rw [qi_j (by decide), qi_eq rfl rfl]
      exact s_Mo_takesNumber_16 m2.1 ⟨fun _ => hQ _ m2 v2, fun z => absurd (by decide) z⟩
    · rw [if_neg h2] at hQ
      exact hQ _ m1 v1
  · rw [if_neg h1] at hQ
    exact ⟨fun y => absurd rfl y, fun _ => hQ⟩
/-- the words in the model's letters -/
def frO (i : Nat) : Nat := if i = 0 then 9 else if i = 1 then 0 else 4
def mnO (i : Nat) : Nat := if i = 2 then 5 else 4
def lcO (i l : Nat) : Nat := (lets.getD (frO i + l) 0).toNatClampNeg
theorem mw_ck : ∀ i, i < 3 → (wdS i).length = mnO i + 1 ∧ frO i + mnO i ≤ 13 ∧ mnO i ≤ 5 ∧ (wdS i)[mnO i]? = some 32 ∧ ∀ l, l < mnO i → (wdS i)[l]? = some (lcO i l) ∧ lets.getD (frO i + l) 0 = nI (lcO i l) ∧ 0 < lcO i l ∧ lcO i l < 1000 := by decide +kernel
theorem h_mwordL {Q : qW → Int32 → Prop} {i : Nat} (hi : i < 3) (hr : rdM S L w) :
    ∀ (r : List Nat) (l p : Nat) (w1 : qW), l + r.length = mnO i + 1 → (∀ j, r[j]? = (wdS i)[l + j]?) → l ≤ mnO i → p ≤ L → MvM w w1 p → hB (wdP S r p) (fun q => ∀ w1, MvM w w1 q → Q w1 0) (fun q => ∀ w1, MvM w w1 q → Q w1 1) → c_Mo_takesWord_2 d E Q (nI (frO i)) (nI (mnO i)) (nI l) w1 := by
  obtain ⟨k1, k2, k3, k4, k5⟩ := mw_ck i hi
  intro r
  induction r with
  | nil =>
    intro l p w1 hl hj hm hp h hQ
    have hl : l = mnO i + 1 := hl
    omega
  | cons c r ih =>
    intro l p w1 hl hj hm hp h hQ
    simp only [List.length_cons] at hl
    have hQ' : hB (if S p = c then wdP S r (p + 1) else (false, p)) (fun q => ∀ w1, MvM w w1 q → Q w1 0) (fun q => ∀ w1, MvM w w1 q → Q w1 1) := hQ
    have e1 : some c = (wdS i)[l]? := by
      have := hj 0
      rw [Nat.add_zero] at this
      exact this
    have hL := hr.2.2.1
    refine s_Mo_takesWord_2 h.1 (pk_le (mnO i) l (fun z => ?_) (fun z => ⟨?_, ?_⟩))
    · have hl2 : l = mnO i := by omega
      have hr0 : r = [] := List.eq_nil_of_length_eq_zero (by omega)
      subst hr0
      rw [hl2, k4] at e1
      have hc : c = 32 := Option.some.inj e1
      subst hc
      refine m_takes (c := 32) h.1 (h.rd hr) h.2.2 hp (by omega) (by omega) (fun z w2 m2 => ⟨Or.inr rfl, ?_⟩) (fun z => ⟨Or.inl rfl, ?_⟩)
      · rw [if_pos z] at hQ'
        exact hQ' w2 (h.to m2)
      · rw [if_neg z] at hQ'
        exact hQ' w1 h
    · rw [nI_add]
      exact nvp (by omega) (by omega)
    · obtain ⟨a1, a2, a3, a4⟩ := k5 l z
      rw [a1] at e1
      have hc : c = lcO i l := Option.some.inj e1
      have hLE := (h.rd hr).2.2.2.2.2 (frO i + l) (by omega)
      rw [nI_add, ncl (by omega), hLE, a2, ← hc, n1]
      refine m_takes h.1 (h.rd hr) h.2.2 hp (by omega) (by omega) (fun z w2 m2 => ⟨fun _ => ?_, fun y => absurd y (by decide)⟩) (fun z => ⟨fun y => absurd rfl y, fun _ => ?_⟩)
      · rw [if_pos z] at hQ'
        have lp := lt_L hL (p := p) (by omega)
        exact ih (l + 1) (p + 1) w2 (by omega) (fun j => by rw [show l + 1 + j = l + (j + 1) by omega, ← hj]; rfl) (by omega) (by omega) (h.to m2) hQ'
      · rw [if_neg z] at hQ'
        exact hQ' w1 h
theorem m_word {Q : qW → Int32 → Prop} {i : Nat} {a b : Int32} (hi : i < 3) (ha : a = nI (frO i)) (hb : b = nI (mnO i)) (hw : Sh w) (hr : rdM S L w) (hp : qi w 115 15 = nI p) (hl : p ≤ L) (hQ : hB (wdP S (wdS i) p) (fun q => ∀ w1, MvM w w1 q → Q w1 0) (fun q => ∀ w1, MvM w w1 q → Q w1 1)) : CaI (d + 2) M_Mo_takesWord [.ref (qb E + 115), .int a, .int b] E w Q := by
  subst ha
  subst hb
  refine en_Mo_takesWord hw (s_Mo_takesWord_0 hw ?_)
  exact h_mwordL hi hr (wdS i) 0 p w (by rw [Nat.zero_add]; exact (mw_ck i hi).1) (fun j => by rw [Nat.zero_add]) (Nat.zero_le _) hl ⟨hw, Fr.rf, hp⟩ hQ
/-- the letter of a test -/
def plI (c : Nat) : Int32 := if letN c = 6 then -1 else nI (letN c)
theorem m_place {Q : qW → Int32 → Prop} (hw : Sh w) (hr : rdM S L w) (hQ : Q w (plI (S p))) : CaI d M_Mo_place [.ref (qb E + 115), .int (sgI S L p)] E w Q := by
  have hS := hr.2.1
  have hL := hr.2.2.1
  refine en_Mo_place hw (s_Mo_place_0 hw ?_)
  have key : ∀ v : Nat, 0 < v → v < 1000 → sgI S L p = nI v → Q w (plI v) := fun v h0 h1 h => by
    rw [← (sg_eq hS hL h0 h1).mp h]
    exact hQ
  refine ⟨key 107 (by omega) (by omega), key 108 (by omega) (by omega), key 109 (by omega) (by omega), key 110 (by omega) (by omega), key 111 (by omega) (by omega), key 112 (by omega) (by omega), key 113 (by omega) (by omega), key 114 (by omega) (by omega), key 115 (by omega) (by omega), key 116 (by omega) (by omega), key 117 (by omega) (by omega), key 118 (by omega) (by omega), key 119 (by omega) (by omega), fun z => ?_⟩
  have h6 : letN (S p) = 6 := by
    unfold sgI at z
    by_cases hp : p < L
    · rw [if_pos hp, nI_toInt (by have := hS p; omega)] at z
      unfold letN
      rw [if_neg (by omega), if_neg (by omega), if_neg (by omega), if_neg (by omega), if_neg (by omega), if_neg (by omega)]
    · rw [hL p (by omega)]
      rfl
  unfold plI at hQ
  rw [if_pos h6] at hQ
  exact hQ
end RM
