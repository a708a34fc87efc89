/-! the class reads: signs, words, numbers, steps -/
section RX
variable {d : Nat} {E : qE} {S : Nat → Nat} {L K p q : Nat} {w w0 w1 : qW} {e : List Tk} {nd : Int32}
def sgI (S : Nat → Nat) (L p : Nat) : Int32 := if p < L then nI (S p) else -1
/-- the text lies before the class, its kitchen is K -/
def rdX (S : Nat → Nat) (L K : Nat) (w : qW) : Prop := isKi K ∧ L ≤ 100 ∧ (∀ j, S j ≤ 127) ∧ (∀ j, L ≤ j → S j = 0) ∧ qi w 73 1 = nI L ∧ (∀ j, j < L → qi w 74 j = nI (S j)) ∧ qr w 73 3 = K + 1
def jRd (K k j : Nat) : Prop := (k = 73 ∧ j = 2) ∨ (K ≤ k ∧ k ≤ K + 3)
theorem rdX.fr (h : rdX S L K w) (hf : Fr (jRd K) w w1) : rdX S L K w1 := by
  obtain ⟨h1, h2, h3, h4, h5, h6, h7⟩ := h
  have := h1.c
  exact ⟨h1, h2, h3, h4, (hf 73 1 (by unfold jRd; omega)).1.trans h5, fun j hj => (hf 74 j (by unfold jRd; omega)).1.trans (h6 j hj), (hf 73 3 (by unfold jRd; omega)).2.2.trans h7⟩
theorem sg_eq (hS : ∀ j, S j ≤ 127) (hL : ∀ j, L ≤ j → S j = 0) {c : Nat} (h0 : 0 < c) (hc : c < 1000) : sgI S L p = nI c ↔ S p = c := by
  unfold sgI
  have := hS p
  by_cases h : p < L
  · rw [if_pos h]
    exact neq (by omega) (by omega)
  · rw [if_neg h, hL p (by omega)]
    exact ⟨fun z => absurd z.symm (ni_ne (by omega) _ (by decide)), fun z => by omega⟩
/-- only the place has moved -/
def Mv (w w1 : qW) (q : Nat) : Prop := Sh w1 ∧ Fr (fun k j => k = 73 ∧ j = 2) w w1 ∧ qi w1 73 2 = nI q
theorem Mv.go {q' : Nat} (h : Mv w w1 q) : Mv w (qpi w1 73 2 (nI q')) q' := ⟨h.1, h.2.1.pi ⟨rfl, rfl⟩, qi_eq rfl rfl⟩
theorem Mv.rdX (h : Mv w w1 q) (hr : rdX S L K w) : rdX S L K w1 := hr.fr (h.2.1.mono (fun k j z => Or.inl z))
theorem p_sign {Q : qW → Int32 → Prop} (hw : Sh w) (hr : rdX S L K w) (hp : qi w 73 2 = nI p) (hl : p ≤ L) (hQ : Q w (sgI S L p)) : CaI d M_Re_sign [.ref (qb E + 73)] E w Q := by
  obtain ⟨h1, h2, h3, h4, h5, h6, h7⟩ := hr
  refine en_Re_sign hw (s_Re_sign_0 hw ?_)
  rw [hp, h5]
  unfold sgI at hQ
  refine ⟨fun z => absurd z (nI_pos (by omega)), fun _ => pk_le L p (fun z => ?_) (fun z => ⟨fun y => absurd y (by rw [show (100 : Int32) = nI 100 from rfl, nle (by omega) (by omega)]; omega), fun _ => ⟨nvp (by omega) (by omega), ?_⟩⟩)⟩
  · rw [if_neg (by omega)] at hQ
    exact hQ
  · rw [if_pos z] at hQ
    rw [ncl (by omega), h6 p z]
    exact hQ
theorem p_take {Q : qW → Int32 → Prop} {c : Nat} (hw : Sh w) (hr : rdX S L K w) (hp : qi w 73 2 = nI p) (hl : p ≤ L) (h0 : 0 < c) (hc : c < 1000) (h1 : S p = c → ∀ w1, Mv w w1 (p + 1) → Q w1 1) (h2 : ¬ S p = c → Q w 0) : CaI (d + 1) M_Re_take [.ref (qb E + 73), .int (nI c)] E w Q := by
  refine en_Re_take hw (s_Re_take_0 hw (p_sign hw hr hp hl ?_))
  rw [sg_eq hr.2.2.1 hr.2.2.2.1 h0 hc, hp, n1]
  exact ⟨fun z => h1 z _ ⟨hw, Fr.rf.pi ⟨rfl, rfl⟩, qi_eq rfl rfl⟩, h2⟩
theorem dig_1 (hS : ∀ j, S j ≤ 127) (hL : ∀ j, L ≤ j → S j = 0) (h : isD (S p) = true) : sgI S L p - 48 = nI (S p - 48) ∧ S p - 48 ≤ 9 ∧ p < L := by
  have h' : 48 ≤ S p ∧ S p ≤ 57 := of_decide_eq_true h
  have hp := lt_L hL (p := p) (by omega)
  unfold sgI
  rw [if_pos hp]
  exact ⟨pk_sub (b := 48) h'.1, by omega, hp⟩
theorem dig_0 (hS : ∀ j, S j ≤ 127) (hL : ∀ j, L ≤ j → S j = 0) (h : ¬ isD (S p) = true) : sgI S L p - 48 < 0 ∨ ¬ sgI S L p - 48 ≤ 9 := by
  have h' : ¬ (48 ≤ S p ∧ S p ≤ 57) := fun z => h (decide_eq_true z)
  have := hS p
  unfold sgI
  by_cases hp : p < L
  · rw [if_pos hp]
    by_cases h1 : S p < 48
    · exact Or.inl (pk_sneg (b := 48) (by omega) h1)
    · refine Or.inr ?_
      rw [show nI (S p) - 48 = nI (S p - 48) from pk_sub (b := 48) (by omega), show (9 : Int32) = nI 9 from rfl, nle (by omega) (by omega)]
      omega
  · rw [if_neg hp]
    exact Or.inl (by decide)
theorem p_num {Q : qW → Int32 → Prop} (hw : Sh w) (hr : rdX S L K w) (hp : qi w 73 2 = nI p) (hl : p ≤ L) (hQ : hN (numP S p) (fun _ => Q w (-1)) (fun n q => ∀ w1, Mv w w1 q → Q w1 (nI n))) : CaI (d + 1) M_Re_takeNumber [.ref (qb E + 73)] E w Q := by
  have hS := hr.2.2.1
  have hL := hr.2.2.2.1
  have two : (2 : Int32) = nI 2 := rfl
  unfold numP at hQ
  refine en_Re_takeNumber hw (s_Re_takeNumber_0 hw (s_Re_takeNumber_4 hw ⟨fun z => absurd z (by decide), fun _ => p_sign hw hr hp hl ?_⟩))
  by_cases h1 : isD (S p) = true
  · obtain ⟨e1, b1, l1⟩ := dig_1 hS hL h1
    rw [if_pos h1] at hQ
    rw [e1, hp, n1]
    refine ⟨fun z => absurd z (nI_pos (by omega)), fun _ => ⟨fun _ => ⟨fun z => absurd rfl z, fun _ => ?_⟩, fun z => absurd ?_ z⟩⟩
    · have m1 : Mv w (qpi w 73 2 (nI (p + 1))) (p + 1) := ⟨hw, Fr.rf.pi ⟨rfl, rfl⟩, qi_eq rfl rfl⟩
      generalize qpi w 73 2 (nI (p + 1)) = W at m1
      refine s_Re_takeNumber_4 m1.1 ⟨fun z => absurd z (by decide), fun _ => p_sign m1.1 (m1.rdX hr) m1.2.2 (by omega) ?_⟩
      by_cases h2 : isD (S (p + 1)) = true
      · obtain ⟨e2, b2, l2⟩ := dig_1 hS hL h2
        rw [if_pos h2] at hQ
        rw [e2, m1.2.2, n1]
        refine ⟨fun z => absurd z (nI_pos (by omega)), fun _ => ⟨fun _ => ⟨fun _ => ?_, fun z => absurd z (by decide)⟩, fun z => absurd ?_ z⟩⟩
        · have m2 : Mv w (qpi W 73 2 (nI (p + 1 + 1))) (p + 1 + 1) := m1.go
          refine s_Re_takeNumber_4 m2.1 ⟨fun _ => ?_, fun z => absurd (by decide) z⟩
          rw [show (10 : Int32) = nI 10 from rfl, pk_mul, nI_add]
          exact hQ _ m2
        · rw [show (9 : Int32) = nI 9 from rfl, nle (by omega) (by omega)]
          exact b2
      · rw [if_neg h2] at hQ
        rcases dig_0 hS hL h2 with z | z
        · exact ⟨fun _ => hQ _ m1, fun y => absurd z y⟩
        · exact ⟨fun _ => hQ _ m1, fun _ => ⟨fun y => absurd y z, fun _ => hQ _ m1⟩⟩
    · rw [show (9 : Int32) = nI 9 from rfl, nle (by omega) (by omega)]
      exact b1
  · rw [if_neg h1] at hQ
    rcases dig_0 hS hL h1 with z | z
    · exact ⟨fun _ => hQ, fun y => absurd z y⟩
    · exact ⟨fun _ => hQ, fun _ => ⟨fun y => absurd y z, fun _ => hQ⟩⟩
/-- the words in the program -/
def chr (i l : Nat) : Nat := ((qbyt.getD i []).getD l 0).toNatClampNeg
theorem chr_ck : ∀ i, i < 5 → ∀ l, l < qlen.getD i 0 → ((((((qbyt.getD i []).getD l 0) &&& 255) : Int32).toUInt32 % 65536).toInt32) = nI (chr i l) ∧ chr i l < 128 ∧ 0 < chr i l := by decide +kernel
theorem len_ck : ∀ i, i < 5 → (Int32.ofNat (qlen.getD i 0)) >>> ((0 : Int32) &&& 31) = nI (qlen.getD i 0) ∧ qlen.getD i 0 ≤ 6 := by decide +kernel
theorem p_len {Q : qW → Int32 → Prop} {i : Nat} (hw : Sh w) (hi : i < 5) (hQ : Q w (nI (qlen.getD i 0))) : CaI (d + 1) M_Js_length [.ref (qc E (10 + i))] E w Q := by
  refine en_Js_length hw (s_Js_length_0 hw hi (en_Js_coder hw (s_Js_coder_0 hw hi ⟨fun z => absurd z (by decide), fun _ => ⟨rfl, ?_⟩⟩)))
  rw [(len_ck i hi).1]
  exact hQ
theorem p_chr {Q : qW → Int32 → Prop} {i l : Nat} (hw : Sh w) (hi : i < 5) (hl : l < qlen.getD i 0) (hQ : Q w (nI (chr i l))) : CaI (d + 4) M_Js_charAt [.ref (qc E (10 + i)), .int (nI l)] E w Q := by
  obtain ⟨c1, c2, c3⟩ := chr_ck i hi l hl
  have h6 := (len_ck i hi).2
  have nc : narrow .char (.int (nI (chr i l))) = .int (nI (chr i l)) := (pk_charN (by omega)).1
  refine en_Js_charAt hw (s_Js_charAt_0 hw hi (en_Js_isLatin1 hw (s_Js_isLatin1_0 hw hi ⟨fun z => absurd z (by decide), fun _ => ⟨fun z => absurd rfl z, fun _ => ?_⟩⟩)))
  refine ⟨fun z => absurd z (by decide), fun _ => en_Jl_charAt hw (s_Jl_charAt_0 hw hi (en_Js_checkIndex hw (s_Js_checkIndex_0 hw ?_)))⟩
  have hlt : nI l < Int32.ofNat (qlen.getD i 0) := nI_lt hl (by omega)
  have fin : vp_in (nI l) (qlen.getD i 0) ∧ (narrow .char (.int ((((((qbyt.getD i []).getD (nI l).toNatClampNeg 0) &&& 255) : Int32).toUInt32 % 65536).toInt32)) = .int ((((((qbyt.getD i []).getD (nI l).toNatClampNeg 0) &&& 255) : Int32).toUInt32 % 65536).toInt32) ∧ (narrow .char (.int ((((((qbyt.getD i []).getD (nI l).toNatClampNeg 0) &&& 255) : Int32).toUInt32 % 65536).toInt32)) = .int ((((((qbyt.getD i []).getD (nI l).toNatClampNeg 0) &&& 255) : Int32).toUInt32 % 65536).toInt32) ∧ Q w ((((((qbyt.getD i []).getD (nI l).toNatClampNeg 0) &&& 255) : Int32).toUInt32 % 65536).toInt32))) := by
    rw [ncl (by omega), c1]
    exact ⟨nvp hl (by omega), nc, nc, hQ⟩
  exact ⟨en_Jp_checkIndex hw rfl (s_Jp_checkIndex_0 hw rfl ⟨fun z => absurd z (nI_pos (by omega)), fun _ => ⟨fun _ => fin, fun z => absurd hlt z⟩⟩), fun t9 => en_Jp_checkIndex hw rfl (s_Jp_checkIndex_0 hw rfl ⟨fun z => absurd z (nI_pos (by omega)), fun _ => ⟨fun _ => fin, fun z => absurd hlt z⟩⟩)⟩
def wdP (S : Nat → Nat) : List Nat → Nat → Bool × Nat
  | [], p => (true, p)
  | c :: r, p => if S p = c then wdP S r (p + 1) else (false, p)
def hB (r : Bool × Nat) (no ok : Nat → Prop) : Prop := match r with
  | (false, q) => no q
  | (true, q) => ok q
def wdS (i : Nat) : List Nat := if i = 0 then [110, 101, 101, 100, 32] else if i = 1 then [100, 97, 114, 107, 32] else [99, 108, 101, 97, 114, 32]
theorem wd_ck : ∀ i, i < 3 → (wdS i).length = qlen.getD i 0 ∧ ∀ l, l < 7 → (wdS i)[l]? = if l < qlen.getD i 0 then some (chr i l) else none := by decide +kernel
theorem h_word2 {Q : qW → Int32 → Prop} {i : Nat} (hi : i < 3) (hr : rdX S L K w) :
    ∀ (r : List Nat) (l p : Nat) (w1 : qW), l + r.length = qlen.getD i 0 → (∀ j, r[j]? = (wdS i)[l + j]?) → p ≤ L → Mv w w1 p → hB (wdP S r p) (fun q => ∀ w1, Mv w w1 q → Q w1 0) (fun q => ∀ w1, Mv w w1 q → Q w1 1) → c_Re_takeWord_2 d E Q i (nI l) w1 := by
  have h6 := (len_ck i (by omega)).2
  intro r
  induction r with
  | nil =>
    intro l p w1 hl hj hp hm hQ
    have hQ' : ∀ w1, Mv w w1 p → Q w1 1 := hQ
    refine s_Re_takeWord_2 hm.1 (by omega) (p_len hm.1 (by omega) (pk_le (qlen.getD i 0) l (fun _ => hQ' w1 hm) (fun z => ?_)))
    have hl' : l = qlen.getD i 0 := hl
    omega
  | cons c r ih =>
    intro l p w1 hl hj hp hm hQ
    simp only [List.length_cons] at hl
    have hc : c = chr i l := by
      have e1 := hj 0
      rw [Nat.add_zero, (wd_ck i hi).2 l (by omega), if_pos (by omega)] at e1
      exact Option.some.inj e1
    obtain ⟨-, k2, k3⟩ := chr_ck i (by omega) l (by omega)
    have hQ' : hB (if S p = c then wdP S r (p + 1) else (false, p)) (fun q => ∀ w1, Mv w w1 q → Q w1 0) (fun q => ∀ w1, Mv w w1 q → Q w1 1) := hQ
    refine s_Re_takeWord_2 hm.1 (by omega) (p_len hm.1 (by omega) (pk_le (qlen.getD i 0) l (fun z => by omega) (fun _ => p_chr hm.1 (by omega) (by omega) ?_)))
    rw [← hc, n1]
    refine p_take hm.1 (hm.rdX hr) hm.2.2 hp (by omega) (by omega) (fun z w2 hm2 => ⟨fun _ => ?_, fun y => absurd y (by decide)⟩) (fun z => ⟨fun y => absurd rfl y, fun _ => ?_⟩)
    · rw [if_pos z] at hQ'
      have lp := lt_L hr.2.2.2.1 (p := p) (by omega)
      exact ih (l + 1) (p + 1) w2 (by omega) (fun j => by rw [show l + 1 + j = l + (j + 1) by omega, ← hj]; rfl) (by omega) ⟨hm2.1, hm.2.1.tr hm2.2.1, hm2.2.2⟩ hQ'
    · rw [if_neg z] at hQ'
      exact hQ' w1 hm
theorem p_word2 {Q : qW → Int32 → Prop} {i : Nat} (hi : i < 3) (hw : Sh w) (hr : rdX S L K w) (hp : qi w 73 2 = nI p) (hl : p ≤ L) (hQ : hB (wdP S (wdS i) p) (fun q => ∀ w1, Mv w w1 q → Q w1 0) (fun q => ∀ w1, Mv w w1 q → Q w1 1)) : CaI (d + 5) M_Re_takeWord [.ref (qb E + 73), .ref (qc E (10 + i))] E w Q :=
  en_Re_takeWord hw (s_Re_takeWord_0 hw (by omega) (h_word2 hi hr (wdS i) 0 p w ((Nat.zero_add _).trans (wd_ck i hi).1) (fun j => by rw [Nat.zero_add]) hl ⟨hw, Fr.rf, hp⟩ hQ))
/-- one of a few -/
theorem h_one {Q : qW → Int32 → Prop} {i l : Nat} (hi : i < 5) (hw : Sh w) (hr : rdX S L K w) (hp : qi w 73 2 = nI p) (hl : p ≤ L) (hll : l < qlen.getD i 0) (h1 : S p = chr i l → ∀ w1, Mv w w1 (p + 1) → Q w1 (nI l)) (h2 : ¬ S p = chr i l → c_Re_takeOneOf_2 d E Q i (nI (l + 1)) w) : c_Re_takeOneOf_2 d E Q i (nI l) w := by
  have h6 := (len_ck i hi).2
  obtain ⟨-, k2, k3⟩ := chr_ck i hi l hll
  refine s_Re_takeOneOf_2 hw hi (p_len hw hi (pk_le (qlen.getD i 0) l (fun z => by omega) (fun _ => p_sign hw hr hp hl (p_chr hw hi hll ?_))))
  rw [sg_eq hr.2.2.1 hr.2.2.2.1 k3 (by omega), hp, n1, n1]
  exact ⟨h2, fun z => h1 z _ ⟨hw, Fr.rf.pi ⟨rfl, rfl⟩, qi_eq rfl rfl⟩⟩
theorem h_one0 {Q : qW → Int32 → Prop} {i : Nat} (hi : i < 5) (hw : Sh w) (hQ : Q w (-1)) : c_Re_takeOneOf_2 d E Q i (nI (qlen.getD i 0)) w := by
  have h6 := (len_ck i hi).2
  exact s_Re_takeOneOf_2 hw hi (p_len hw hi (pk_le (qlen.getD i 0) (qlen.getD i 0) (fun _ => hQ) (fun z => by omega)))
theorem p_let {Q : qW → Int32 → Prop} (hw : Sh w) (hr : rdX S L K w) (hp : qi w 73 2 = nI p) (hl : p ≤ L) (h1 : ¬ letN (S p) = 6 → ∀ w1, Mv w w1 (p + 1) → Q w1 (nI (letN (S p)))) (h0 : letN (S p) = 6 → Q w (-1)) : CaI (d + 5) M_Re_takeOneOf [.ref (qb E + 73), .ref (qc E 13)] E w Q := by
  refine en_Re_takeOneOf (i1 := 3) hw (s_Re_takeOneOf_0 hw (by omega) ?_)
  have st : ∀ l, l < 6 → letN (chr 3 l) = l := by decide +kernel
  have tk : ∀ l, l < 6 → S p = chr 3 l → ∀ w1, Mv w w1 (p + 1) → Q w1 (nI l) := fun l hl2 z w1 hm => by
    have e : letN (S p) = l := by rw [z]; exact st l hl2
    have := h1 (by omega) w1 hm
    rw [e] at this
    exact this
  have q6 : qlen.getD 3 0 = 6 := rfl
  refine h_one (l := 0) (by omega) hw hr hp hl (by decide) (tk 0 (by omega)) (fun z0 => ?_)
  refine h_one (l := 1) (by omega) hw hr hp hl (by decide) (tk 1 (by omega)) (fun z1 => ?_)
  refine h_one (l := 2) (by omega) hw hr hp hl (by decide) (tk 2 (by omega)) (fun z2 => ?_)
  refine h_one (l := 3) (by omega) hw hr hp hl (by decide) (tk 3 (by omega)) (fun z3 => ?_)
  refine h_one (l := 4) (by omega) hw hr hp hl (by decide) (tk 4 (by omega)) (fun z4 => ?_)
  refine h_one (l := 5) (by omega) hw hr hp hl (by decide) (tk 5 (by omega)) (fun z5 => ?_)
  refine h_one0 (i := 3) (by omega) hw (h0 ?_)
  have e0 : chr 3 0 = 112 := by decide +kernel
  have e1 : chr 3 1 = 107 := by decide +kernel
  have e2 : chr 3 2 = 118 := by decide +kernel
  have e3 : chr 3 3 = 119 := by decide +kernel
  have e4 : chr 3 4 = 111 := by decide +kernel
  have e5 : chr 3 5 = 109 := by decide +kernel
  unfold letN
  rw [if_neg (by omega), if_neg (by omega), if_neg (by omega), if_neg (by omega), if_neg (by omega), if_neg (by omega)]
theorem p_rel {Q : qW → Int32 → Prop} (hw : Sh w) (hr : rdX S L K w) (hp : qi w 73 2 = nI p) (hl : p ≤ L) (h1 : ¬ relN (S p) = 3 → ∀ w1, Mv w w1 (p + 1) → Q w1 (nI (relN (S p)))) (h0 : relN (S p) = 3 → Q w (-1)) : CaI (d + 5) M_Re_takeOneOf [.ref (qb E + 73), .ref (qc E 14)] E w Q := by
  refine en_Re_takeOneOf (i1 := 4) hw (s_Re_takeOneOf_0 hw (by omega) ?_)
  have st : ∀ l, l < 3 → relN (chr 4 l) = l := by decide +kernel
  have tk : ∀ l, l < 3 → S p = chr 4 l → ∀ w1, Mv w w1 (p + 1) → Q w1 (nI l) := fun l hl2 z w1 hm => by
    have e : relN (S p) = l := by rw [z]; exact st l hl2
    have := h1 (by omega) w1 hm
    rw [e] at this
    exact this
  refine h_one (l := 0) (by omega) hw hr hp hl (by decide) (tk 0 (by omega)) (fun z0 => ?_)
  refine h_one (l := 1) (by omega) hw hr hp hl (by decide) (tk 1 (by omega)) (fun z1 => ?_)
  refine h_one (l := 2) (by omega) hw hr hp hl (by decide) (tk 2 (by omega)) (fun z2 => ?_)
  refine h_one0 (i := 4) (by omega) hw (h0 ?_)
  have e0 : chr 4 0 = 60 := by decide +kernel
  have e1 : chr 4 1 = 61 := by decide +kernel
  have e2 : chr 4 2 = 62 := by decide +kernel
  unfold relN
  rw [if_neg (by omega), if_neg (by omega), if_neg (by omega)]
/-- where the class stands -/
def XJ (w0 : qW) (K : Nat) (w : qW) (q : Nat) : Prop := Sh w ∧ Fr (jRd K) w0 w ∧ qi w 73 2 = nI q
def XP (w0 : qW) (K : Nat) (w : qW) (p : Nat) (e : List Tk) (nd : Int32) : Prop := XJ w0 K w p ∧ qi w K 3 = nI e.length ∧ qi w K 4 = nd ∧ ∀ j t, e[j]? = some t → qi w (K + 1) j = nI t.1 ∧ qi w (K + 2) j = nI t.2.1 ∧ qi w (K + 3) j = nI t.2.2
theorem XP.mv (hK : isKi K) (h : XP w0 K w p e nd) (hm : Mv w w1 q) : XP w0 K w1 q e nd := by
  have := hK.c
  obtain ⟨⟨h1, h2, h3⟩, h4, h5, h6⟩ := h
  refine ⟨⟨hm.1, h2.tr (hm.2.1.mono (fun k j z => Or.inl z)), hm.2.2⟩, ?_, ?_, fun j t ht => ?_⟩
  · rw [(hm.2.1 _ _ (by omega)).1]; exact h4
  · rw [(hm.2.1 _ _ (by omega)).1]; exact h5
  · rw [(hm.2.1 _ _ (by omega)).1, (hm.2.1 (K + 2) _ (by omega)).1, (hm.2.1 (K + 3) _ (by omega)).1]; exact h6 j t ht
theorem XP.rd (h : XP w0 K w p e nd) (hr : rdX S L K w0) : rdX S L K w := hr.fr h.1.2.1
theorem XP.kr (h : XP w0 K w p e nd) (hr : rdX S L K w0) : qr w 73 3 = K + 1 := (h.rd hr).2.2.2.2.2.2
theorem getl {α : Type} {e : List α} {t t' : α} {j : Nat} (h : (e ++ [t])[j]? = some t') : (j = e.length ∧ t' = t) ∨ (j < e.length ∧ e[j]? = some t') := by
  rcases Nat.lt_or_ge j e.length with hj | hj
  · rw [List.getElem?_append_left hj] at h
    exact Or.inr ⟨hj, h⟩
  · rw [List.getElem?_append_right hj] at h
    rcases Nat.eq_zero_or_pos (j - e.length) with z | z
    · rw [z] at h
      exact Or.inl ⟨by omega, (Option.some.inj h).symm⟩
    · rw [List.getElem?_eq_none (by simp; omega)] at h
      exact absurd h (by simp)
theorem p_step {Q : qW → Prop} {t : Tk} (hK : isKi K) (h : XP w0 K w p e nd) (he : e.length < 100) (hQ : ∀ w1, XP w0 K w1 p (e ++ [t]) nd → Q w1) : CaV d M_Ki_addStep [.ref (qb E + K), .int (nI t.1), .int (nI t.2.1), .int (nI t.2.2)] E w Q := by
  have hc := hK.c
  obtain ⟨⟨h1, h2, h3⟩, h4, h5, h6⟩ := h
  refine en_Ki_addStep h1 (s_Ki_addStep_0 h1 hK ?_)
  rw [h4]
  have hin : vp_in (nI e.length) 100 := nvp he (by omega)
  simp (disch := omega) only [qi_k, h4, ncl, n1]
  refine ⟨fun z => absurd z (nI_pos (by omega)), fun _ => ⟨fun z => absurd z (by rw [show (100 : Int32) = nI 100 from rfl, nle (by omega) (by omega)]; omega), fun _ => ⟨hin, hin, hin, hQ _ ?_⟩⟩⟩
  refine ⟨⟨h1, (((h2.pi (by unfold jRd; omega)).pi (by unfold jRd; omega)).pi (by unfold jRd; omega)).pi (by unfold jRd; omega), ?_⟩, ?_, ?_, fun j t' ht => ?_⟩
  · simp (disch := omega) only [qi_k]
    exact h3
  · rw [qi_eq rfl rfl, List.length_append]
    rfl
  · rw [qi_j (by decide)]
    simp (disch := omega) only [qi_k]
    exact h5
  · rcases getl ht with ⟨e1, e2⟩ | ⟨e1, e2⟩
    · subst e1
      subst e2
      simp (disch := omega) only [qi_k, qi_eq]
      refine ⟨?_, ?_, ?_⟩ <;> first | rfl | trivial
    · simp (disch := omega) only [qi_k, qi_j]
      exact h6 j t' e2
theorem x_test {Q : qW → Int32 → Prop} (hr : rdX S L K w0) (h : XP w0 K w p e nd) (hl : p ≤ L) (he : e.length ≤ p) (hQ : hR (tstP S p) (fun q => ∀ w1, XJ w0 K w1 q → Q w1 0) (fun t q => ∀ w1, XP w0 K w1 q (e ++ t) nd → Q w1 1)) : CaI (d + 5) M_Re_takeOneOf [.ref (qb E + 73), .ref (qc E 13)] E w (fun w6 x6 => ((0 ≤ x6) → (CaI (d + 5) M_Re_takeOneOf [.ref (qb E + 73), .ref (qc E 14)] E w6 (fun w8 x8 => ((0 ≤ x8) → (CaI (d + 5) M_Re_takeNumber [.ref (qb E + 73)] E w8 (fun w10 x10 => ((0 ≤ x10) → (∃ K12, isKi K12 ∧ qr w10 73 3 = K12 + 1 ∧ (CaV (d + 5) M_Ki_addStep [.ref (qb E + K12), .int x6, .int x8, .int x10] E w10 (fun w13 => Q w13 1)))) ∧ ((¬ 0 ≤ x10) → (Q w10 0))))) ∧ ((¬ 0 ≤ x8) → (((0 ≤ ((-1) : Int32)) → (∃ K15, isKi K15 ∧ qr w8 73 3 = K15 + 1 ∧ (CaV (d + 5) M_Ki_addStep [.ref (qb E + K15), .int x6, .int x8, .int (-1)] E w8 (fun w16 => Q w16 1)))) ∧ ((¬ 0 ≤ ((-1) : Int32)) → (Q w8 0))))))) ∧ ((¬ 0 ≤ x6) → (((0 ≤ ((-1) : Int32)) → (CaI (d + 5) M_Re_takeNumber [.ref (qb E + 73)] E w6 (fun w18 x18 => ((0 ≤ x18) → (∃ K20, isKi K20 ∧ qr w18 73 3 = K20 + 1 ∧ (CaV (d + 5) M_Ki_addStep [.ref (qb E + K20), .int x6, .int (-1), .int x18] E w18 (fun w21 => Q w21 1)))) ∧ ((¬ 0 ≤ x18) → (Q w18 0))))) ∧ ((¬ 0 ≤ ((-1) : Int32)) → (((0 ≤ ((-1) : Int32)) → (∃ K23, isKi K23 ∧ qr w6 73 3 = K23 + 1 ∧ (CaV (d + 5) M_Ki_addStep [.ref (qb E + K23), .int x6, .int (-1), .int (-1)] E w6 (fun w24 => Q w24 1)))) ∧ ((¬ 0 ≤ ((-1) : Int32)) → (Q w6 0))))))) := by
  have hK := hr.1
  have hw := h.1.1
  have hL := hr.2.2.2.1
  unfold tstP at hQ
  refine p_let hw (h.rd hr) h.1.2.2 hl (fun z1 w1 m1 => ⟨fun _ => ?_, fun z => absurd (nI_pos' (by have := (let_ok _ z1).1; omega)) z⟩) (fun z1 => ⟨fun z => absurd z neg1, fun _ => ⟨fun z => absurd z neg1, fun _ => ⟨fun z => absurd z neg1, fun _ => ?_⟩⟩⟩)
  rotate_left
  · rw [if_pos z1] at hQ
    exact hQ w h.1
  obtain ⟨b1, b2⟩ := let_ok _ z1
  have lp := lt_L hL b2
  rw [if_neg z1] at hQ
  have h1 := h.mv hK m1
  refine p_rel m1.1 (h1.rd hr) m1.2.2 (by omega) (fun z2 w2 m2 => ⟨fun _ => ?_, fun z => absurd (nI_pos' (by have := (rel_ok _ z2).1; omega)) z⟩) (fun z2 => ⟨fun z => absurd z neg1, fun _ => ⟨fun z => absurd z neg1, fun _ => ?_⟩⟩)
  rotate_left
  · rw [if_pos z2] at hQ
    exact hQ w1 h1.1
  obtain ⟨b3, b4⟩ := rel_ok _ z2
  have lp2 := lt_L hL b4
  rw [if_neg z2, hR_mN] at hQ
  have h2 := h1.mv hK m2
  refine p_num m2.1 (h2.rd hr) m2.2.2 (by omega) ?_
  have e2 : p + 1 + 1 = p + 2 := rfl
  rw [e2] at h2 ⊢
  rcases en : numP S (p + 2) with ⟨_ | v, q⟩
  · rw [en] at hQ
    have hQ' : ∀ w1, XJ w0 K w1 q → Q w1 0 := hQ
    have eq : q = p + 2 := by
      unfold numP at en
      by_cases c1 : isD (S (p + 2)) = true
      · rw [if_pos c1] at en
        by_cases c2 : isD (S (p + 2 + 1)) = true
        · rw [if_pos c2] at en
          exact absurd (congrArg Prod.fst en) (by simp)
        · rw [if_neg c2] at en
          exact absurd (congrArg Prod.fst en) (by simp)
      · rw [if_neg c1] at en
        exact (congrArg Prod.snd en).symm
    subst eq
    exact ⟨fun z => absurd z neg1, fun _ => hQ' w2 h2.1⟩
  · obtain ⟨n1', n2', n3'⟩ := num_pos hL en
    have hL2 := hr.2.1
    rw [en] at hQ
    intro w3 m3
    have h3 := h2.mv hK m3
    refine ⟨fun _ => ⟨K, hK, h3.kr hr, ?_⟩, fun z => absurd (nI_pos' (by omega)) z⟩
    exact p_step (t := (letN (S p), relN (S (p + 1)), v)) hK h3 (by omega) (fun w4 h4 => hQ w4 h4)
end RX
