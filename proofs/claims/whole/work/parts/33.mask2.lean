/-! the model's askings -/
section MB
variable {d : Nat} {E : qE} {w w0 : qW} {k : List Cl} {p : Pn} {M : Nat}
theorem p_has {Q : qW → Int32 → Prop} {b i : Nat} (hw : Sh w) (hi : i < 6) (hb : b < 64) (hQ : Q w (bI (bt b i))) : CaI d M_Mo_has [.ref (qb E + 115), .int (nI b), .int (nI i)] E w Q := by
  have hk := bit_ck i hi b hb
  refine en_Mo_has hw (s_Mo_has_0 hw ⟨fun z => ?_, fun z => ?_⟩)
  · have : bt b i = false := by rw [← Bool.not_eq_true]; exact fun q => z (hk.mpr q)
    rw [this] at hQ
    exact hQ
  · rw [hk.mp z] at hQ
    exact hQ
def pA (b : Nat) : Nat → Nat
  | 0 => 0
  | i + 1 => pA b i + (if bt b i = true then 1 else 0)
theorem pA_6 : ∀ b, b < 64 → pA b 6 = pop b := by decide +kernel
theorem h_bits {Q : qW → Int32 → Prop} {b : Nat} (hw : Sh w) (hb : b < 64) (hQ : Q w (nI (pop b))) :
    ∀ (n i : Nat), i + n = 6 → c_Mo_bits_4 d E Q (nI b) (nI (pA b i)) (nI i) w := by
  intro n
  induction n with
  | zero =>
    intro i hi
    have : i = 6 := by omega
    subst this
    refine s_Mo_bits_4 hw (pk_le 6 6 (fun _ => ?_) (fun z => by omega))
    rw [pA_6 b hb]
    exact hQ
  | succ n ih =>
    intro i hi
    refine s_Mo_bits_4 hw (pk_le 6 i (fun z => by omega) (fun _ => p_has hw (by omega) hb ?_))
    have e : pA b (i + 1) = pA b i + (if bt b i = true then 1 else 0) := rfl
    have := ih (i + 1) (by omega)
    rw [e] at this
    rw [n1, n1, Int32.add_zero]
    refine ⟨fun z => ?_, fun z => ?_⟩
    · rw [if_neg (by rw [(q01 _).1.mp z]; decide)] at this
      exact this
    · rw [if_pos ((q01 _).2.mp z)] at this
      exact this
theorem p_bits {Q : qW → Int32 → Prop} {b : Nat} (hw : Sh w) (hb : b < 64) (hQ : Q w (nI (pop b))) : CaI (d + 1) M_Mo_bits [.ref (qb E + 115), .int (nI b)] E w Q :=
  en_Mo_bits hw (s_Mo_bits_0 hw (h_bits hw hb hQ 6 0 (by omega)))
theorem h_setOf {Q : qW → Int32 → Prop} {c : Nat} {st : Int32} (hw : Sh w) (hc : c ≤ 6) (hcn : qi w 115 0 = nI c) (hQ : Q w (nI (stN (PM w) st c))) :
    ∀ (n i : Nat), i + n = c → c_Mo_setOf_4 d E Q st (nI (stN (PM w) st i)) (nI i) w := by
  intro n
  induction n with
  | zero =>
    intro i hi
    have : i = c := by omega
    subst this
    exact s_Mo_setOf_4 hw (pk_le i i (fun _ => hQ) (fun h => by omega) hcn)
  | succ n ih =>
    intro i hi
    have e4 : qi w 120 i = pa (PM w) i 4 := (aM_6 (a := 4) (by omega) (by omega)).symm
    refine s_Mo_setOf_4 hw (pk_le c i (fun h => by omega) (fun h => ⟨nvp (by omega) (by omega), ?_⟩) hcn)
    rw [ncl (a := i) (by omega), e4, n1, ni_or0]
    refine ⟨fun z => ?_, fun z => ?_⟩
    · rw [← stN_n z]
      exact ih (i + 1) (by omega)
    · rw [stN_i (by omega) z]
      exact ih (i + 1) (by omega)
theorem p_setOf {Q : qW → Int32 → Prop} {M T : Nat} {st : Int32} (hw : Sh w) (ho : okR M T (PM w)) (hQ : Q w (nI (bsP (PM w) st))) : CaI d M_Mo_setOf [.ref (qb E + 115), .int st] E w Q := by
  obtain ⟨c, hc, hcn, hcw⟩ := ho.c
  unfold bsP at hQ
  rw [hcw] at hQ
  exact en_Mo_setOf hw (s_Mo_setOf_0 hw (h_setOf hw hc hcn hQ c 0 (by omega)))
theorem h_setsIf {Q : qW → Int32 → Prop} {N : Nat} (hQ : ∀ w1, MA k w0 w1 → Q w1 (nI N)) :
    ∀ (n i M : Nat) (w : qW) (p : Pn), i + n = 61 → M + n ≤ 20000 → MB k w0 w → TM M w p → N = i + fMin k n p → c_Mo_setsIf_15 d E Q (nI i) w := by
  intro n
  induction n with
  | zero =>
    intro i M w p hi hM h ht hN
    have e : N = 61 := by
      have : fMin k 0 p = 0 := rfl
      omega
    subst e
    have : i = 61 := by omega
    subst this
    exact s_Mo_setsIf_15 h.1 (pk_le 61 61 (fun _ => b_back h (fun w1 h1 => hQ w1 h1)) (fun z => by omega))
  | succ n ih =>
    intro i M w p hi hM h ht hN
    have e : fMin k (n + 1) p = if ps p = 0 then 1 + fMin k n (mi k p) else 0 := rfl
    refine s_Mo_setsIf_15 h.1 (pk_le 61 i (fun z => by omega) (fun _ => ?_))
    rw [ht.set, n1]
    refine ⟨fun z => ?_, fun z => b_min h ht (by omega) (fun w1 h1 t1 => ih (i + 1) (M + 1) w1 _ (by omega) (by omega) h1 t1 ?_)⟩
    · rw [if_neg z] at e
      rw [show i = N by omega]
      exact b_back h (fun w1 h1 => hQ w1 h1)
    · rw [if_pos z] at e
      omega
theorem y_setsN {Q : qW → Int32 → Prop} (h : MA k w0 w) (hQ : ∀ w1, MA k w0 w1 → Q w1 (nI (fMin k 61 (nmP (PM w0))))) : CaI (d + 6) M_Mo_setsIf [.ref (qb E + 115), .int (-1)] E w Q :=
  en_Mo_setsIf h.1 (s_Mo_setsIf_0 h.1 (b_save h (fun w1 h1 t1 => ⟨fun _ => h_setsIf hQ 61 0 9999 w1 _ (by omega) (by omega) h1 t1 (by omega), fun z => absurd (by decide) z⟩)))
theorem y_setsI {Q : qW → Int32 → Prop} {i : Nat} (h : MA k w0 w) (hi : i < 6) (hQ : ∀ w1, MA k w0 w1 → Q w1 (nI (fMin k 61 (spP i (nmP (PM w0)))))) : CaI (d + 6) M_Mo_setsIf [.ref (qb E + 115), .int (nI i)] E w Q :=
  en_Mo_setsIf h.1 (s_Mo_setsIf_0 h.1 (b_save h (fun w1 h1 t1 => ⟨fun z => absurd z (nI_pos (by omega)), fun _ => b_sp h1 t1 hi (fun w2 h2 t2 => h_setsIf hQ 61 0 9999 w2 _ (by omega) (by omega) h2 t2 (by omega))⟩)))
theorem y_sets {Q : qW → Int32 → Prop} (h : MA k w0 w) (hQ : ∀ w1, MA k w0 w1 → Q w1 (if fMin k 61 (nmP (PM w0)) = 61 then -5 else nI (fMin k 61 (nmP (PM w0))))) : CaI (d + 7) M_Mo_sets [.ref (qb E + 115)] E w Q := by
  have hl := fMin_le (k := k) 61 (nmP (PM w0))
  have e : nI (fMin k 61 (nmP (PM w0))) = 61 ↔ fMin k 61 (nmP (PM w0)) = 61 := neq (b := 61) (by omega) (by omega)
  refine en_Mo_sets h.1 (s_Mo_sets_0 h.1 (y_setsN h (fun w1 h1 => ⟨fun z => y_setsN h1 (fun w2 h2 => ?_), fun z => ?_⟩)))
  · have hq := hQ w2 h2
    rw [if_neg (fun y => z (e.mpr y))] at hq; exact hq
  · have hq := hQ w1 h1
    rw [if_pos (e.mp z)] at hq; exact hq
theorem h_mword {Q : qW → Int32 → Prop} (hQ : ∀ w1, MA k w0 w1 → Q w1 (wdF k (nmP (PM w0)) (cN (nmP (PM w0)))).2) :
    ∀ (n i : Nat) (w : qW), i + n = cN (nmP (PM w0)) → MA k w0 w → c_Mo_wordOf_11 d E Q (wdF k (nmP (PM w0)) i).2 (nI (wdF k (nmP (PM w0)) i).1) (nI i) w := by
  intro n
  induction n with
  | zero =>
    intro i w hi h
    obtain ⟨c, c1, c2, c3⟩ := h.tm.cn
    refine s_Mo_wordOf_11 h.1 (pk_le c i (fun _ => ?_) (fun z => by omega) c2)
    rw [show i = cN (nmP (PM w0)) by omega]
    exact hQ w h
  | succ n ih =>
    intro i w hi h
    obtain ⟨c, c1, c2, c3⟩ := h.tm.cn
    refine s_Mo_wordOf_11 h.1 (pk_le c i (fun z => by omega) (fun _ => ⟨nvp (by omega) (by omega), ?_⟩) c2)
    rw [ncl (a := i) (by omega), h.tm.st (by omega), n1]
    refine ⟨fun z => y_setsI h (by omega) (fun w1 h1 => ?_), fun z => ?_⟩
    · have e := wdF_s (k := k) (p := nmP (PM w0)) (i := i) ⟨by omega, z⟩
      have hl := fMin_le (k := k) 61 (spP i (nmP (PM w0)))
      have hl2 := wdF_61 (k := k) (nmP (PM w0)) i
      have := ih (i + 1) w1 (by omega) h1
      refine pk_lt (wdF k (nmP (PM w0)) i).1 (fMin k 61 (spP i (nmP (PM w0)))) (fun y => ?_) (fun y => ?_)
      · rw [if_neg (by omega)] at e
        rw [e] at this
        exact this
      · rw [if_pos (by omega)] at e
        rw [e] at this
        exact this
    · have := ih (i + 1) w (by omega) h
      rw [wdF_n (fun y => y.2 z)] at this
      exact this
theorem y_word {Q : qW → Int32 → Prop} (h : MA k w0 w) (hQ : ∀ w1, MA k w0 w1 → Q w1 (wdF k (nmP (PM w0)) 6).2) : CaI (d + 7) M_Mo_wordOf [.ref (qb E + 115)] E w Q := by
  obtain ⟨c, c1, c2, c3⟩ := h.tm.cn
  rw [wdF_c (show cN (nmP (PM w0)) ≤ 6 by omega)] at hQ
  exact en_Mo_wordOf h.1 (s_Mo_wordOf_0 h.1 (y_setsN h (fun w1 h1 => h_mword hQ _ 0 w1 (Nat.zero_add _) h1)))
theorem h_isSetBy {Q : qW → Int32 → Prop} {N b : Nat} (hN : N ≤ 60) (hb : b < 64) (hQ : ∀ w1, MA k w0 w1 → Q w1 (setsF k b N (nmP (PM w0)))) :
    ∀ (n i : Nat) (w : qW), i + n = cN (nmP (PM w0)) → MB k w0 w → TM 9999 w (putS b (cN (nmP (PM w0))) (nmP (PM w0)) i) → c_Mo_isSetBy_6 d E Q (nI b) (nI N) (nI i) w := by
  intro n
  induction n with
  | zero =>
    intro i w hi h ht
    obtain ⟨c, c1, c2, c3⟩ := ht.cn
    rw [putS_cN] at c3
    refine s_Mo_isSetBy_6 h.1 (pk_le c i (fun _ => b_mins h ht (by omega) (fun w1 h1 t1 => b_back h1 (fun w2 h2 => ?_))) (fun z => by omega) c2)
    have hq := hQ w2 h2
    unfold setsF at hq
    rw [putS_c (show cN (nmP (PM w0)) ≤ 6 by omega), ← show i = cN (nmP (PM w0)) by omega] at hq
    rw [t1.set]
    rw [← show i = cN (nmP (PM w0)) by omega]
    exact hq
  | succ n ih =>
    intro i w hi h ht
    obtain ⟨c, c1, c2, c3⟩ := ht.cn
    rw [putS_cN] at c3
    refine s_Mo_isSetBy_6 h.1 (pk_le c i (fun z => by omega) (fun _ => p_has h.1 (by omega) hb ?_) c2)
    rw [n1]
    refine ⟨fun z => ih (i + 1) w (by omega) h ?_, fun z => b_put h ht (by omega) (fun w1 h1 t1 => ih (i + 1) w1 (by omega) h1 ?_)⟩
    · rw [putS_n (by rw [(q01 _).1.mp z]; exact fun q => absurd q.2 (by decide))]
      exact ht
    · rw [putS_s ⟨by omega, (q01 _).2.mp z⟩]
      exact t1
theorem y_isSetBy {Q : qW → Int32 → Prop} {N b : Nat} (h : MA k w0 w) (hN : N ≤ 60) (hb : b < 64) (hQ : ∀ w1, MA k w0 w1 → Q w1 (setsF k b N (nmP (PM w0)))) : CaI (d + 7) M_Mo_isSetBy [.ref (qb E + 115), .int (nI b), .int (nI N)] E w Q :=
  en_Mo_isSetBy h.1 (s_Mo_isSetBy_0 h.1 (b_save h (fun w1 h1 t1 => h_isSetBy hN hb hQ _ 0 w1 (Nat.zero_add _) h1 t1)))
theorem seenB_pre {A C : Nat → Int32} {n m : Nat} (h : seenB k p A C n = false) (hm : n ≤ m) : seenB k p A C m = false := by
  rw [← Bool.not_eq_true] at h ⊢
  exact fun q => h (seenB_iff.mpr (fun j hj => seenB_iff.mp q j (by omega)))
theorem h_isSeen {Q : qW → Int32 → Prop} {cnt : Nat} (hc : cnt ≤ 5) (hcn : qi w0 115 39 = nI cnt) (hA : ∀ j, j < cnt → rg (qi w0 137 j) 12) (hQ : ∀ w1, MA k w0 w1 → Q w1 (bI (seenB k (nmP (PM w0)) (qi w0 137) (qi w0 138) cnt))) :
    ∀ (n i : Nat) (w : qW), i + n = cnt → MA k w0 w → c_Mo_isSeen_4 d E Q (bI (seenB k (nmP (PM w0)) (qi w0 137) (qi w0 138) i)) (nI i) w := by
  have b01 : ∀ b : Bool, bI b = 0 ∨ bI b = 1 := fun b => by cases b <;> simp [bI]
  intro n
  induction n with
  | zero =>
    intro i w hi h
    have : i = cnt := by omega
    subst this
    exact s_Mo_isSeen_4 h.1 (pk_le i i (fun _ => ⟨b01 _, hQ w h⟩) (fun z => by omega) ((h.2.1 115 39 (by unfold jAm; omega)).1.trans hcn))
  | succ n ih =>
    intro i w hi h
    obtain ⟨a, a1, a2⟩ := hA i (by omega)
    have hin : vp_in (nI i) 5 := nvp (by omega) (by omega)
    refine s_Mo_isSeen_4 h.1 (pk_le cnt i (fun z => by omega) (fun _ => ⟨fun z => ⟨b01 _, ?_⟩, fun z => ?_⟩) ((h.2.1 115 39 (by unfold jAm; omega)).1.trans hcn))
    · have hq := hQ w h
      have e := (q01 _).1.mp z
      rw [seenB_pre e (show i ≤ cnt by omega)] at hq
      rw [e]
      exact hq
    · rw [n1]
      refine b_save h (fun w1 h1 t1 => ⟨hin, ?_⟩)
      have g : ∀ {w2 : qW}, MB k w0 w2 → ∀ a j, 137 ≤ a → qi w2 a j = qi w0 a j := fun h2 a j ha => (h2.2.1 a j (by unfold jAm; omega)).1
      rw [ncl (a := i) (by omega), g h1 137 i (by omega), a2]
      refine b_mins h1 t1 (by omega) (fun w2 h2 t2 => ⟨hin, ?_⟩)
      rw [g h2 138 i (by omega), t2.col]
      have e : seenB k (nmP (PM w0)) (qi w0 137) (qi w0 138) (i + 1) = decide (pk (it k a (nmP (PM w0))) = qi w0 138 i) := by
        show (seenB k (nmP (PM w0)) (qi w0 137) (qi w0 138) i && _) = _
        rw [(q01 _).2.mp z, Bool.true_and, a2, ncl (by omega)]
      refine ⟨fun y => b_back h2 (fun w3 h3 => ?_), fun y => b_back h2 (fun w3 h3 => ?_)⟩
      · have := ih (i + 1) w3 (by omega) h3
        rw [e, decide_eq_false y] at this
        exact this
      · have := ih (i + 1) w3 (by omega) h3
        rw [e, decide_eq_true y] at this
        exact this
theorem y_isSeen {Q : qW → Int32 → Prop} {cnt : Nat} (h : MA k w0 w) (hc : cnt ≤ 5) (hcn : qi w0 115 39 = nI cnt) (hA : ∀ j, j < cnt → rg (qi w0 137 j) 12) (hQ : ∀ w1, MA k w0 w1 → Q w1 (bI (seenB k (nmP (PM w0)) (qi w0 137) (qi w0 138) cnt))) : CaI (d + 7) M_Mo_isSeen [.ref (qb E + 115)] E w Q :=
  en_Mo_isSeen h.1 (s_Mo_isSeen_0 h.1 (h_isSeen hc hcn hA hQ cnt 0 w (by omega) h))
def jZm (k j : Nat) : Prop := jAm k j ∨ k = 117 ∨ k = 118 ∨ k = 135 ∨ k = 136
/-- at rest, more of it touched -/
def ZA (k : List Cl) (w0 w : qW) : Prop := Sh w ∧ Fr jZm w0 w ∧ MC k w ∧ PM w = PM w0
theorem MA.za (h : MA k w0 w) : ZA k w0 w := ⟨h.1, h.2.1.mono (fun _ _ q => Or.inl q), h.2.2⟩
theorem ZA.ma (h : ZA k w0 w) : MA k w w := ⟨h.1, Fr.rf, h.2.2.1, rfl⟩
theorem ZA.tr {w1 : qW} (h : ZA k w0 w) (h1 : ZA k w w1) : ZA k w0 w1 := ⟨h1.1, h.2.1.tr h1.2.1, h1.2.2.1, h1.2.2.2.trans h.2.2.2⟩
theorem sA_sA {p : Pn} {i a : Nat} {x y : Int32} : sA (sA p i a x) i a y = sA p i a y := by
  have : upA (upA (pa p) i a x) i a y = upA (pa p) i a y := by
    funext j b
    unfold upA
    by_cases h : j = i ∧ b = a
    · rw [if_pos h, if_pos h]
    · rw [if_neg h, if_neg h, if_neg h]
  show (pc p, pf p, pk p, ps p, pm p, pr p, upA (upA (pa p) i a x) i a y) = _
  rw [this]
  rfl
theorem sA_id {p : Pn} {i a : Nat} : sA p i a (pa p i a) = p := by
  have : upA (pa p) i a (pa p i a) = pa p := by
    funext j b
    unfold upA
    by_cases h : j = i ∧ b = a
    · rw [if_pos h, h.1, h.2]
    · rw [if_neg h]
  show (pc p, pf p, pk p, ps p, pm p, pr p, upA (pa p) i a (pa p i a)) = _
  rw [this]
  rfl
/-- tried with one number changed: a = 1 the v, a = 2 the weight -/
def MW (k : List Cl) (w0 w : qW) (i a : Nat) : Prop := Sh w ∧ Fr jZm w0 w ∧ KC w k ∧ qi w 115 30 = 9999 ∧ okR 9999 9999 (PM w0) ∧ ∃ x, PM w = sA (PM w0) i a x
theorem KC.zm {w1 : qW} (h : KC w k) (hf : Fr jZm w w1) : KC w1 k := h.fr (fun k j _ _ => (hf k j (by unfold jZm jAm; omega)).1) (hf 115 13 (by unfold jZm jAm; omega)).1
theorem MW.set {i a n : Nat} (h : MW k w0 w i a) (hi : i < 6) (ha : (a = 1 ∧ n ≤ 9) ∨ (a = 2 ∧ n ≤ 20)) : MA k (qpi w (116 + a) i (nI n)) (qpi w (116 + a) i (nI n)) ∧ PM (qpi w (116 + a) i (nI n)) = sA (PM w0) i a (nI n) ∧ Fr jZm w0 (qpi w (116 + a) i (nI n)) := by
  obtain ⟨h1, h2, h3, h4, h5, x, h6⟩ := h
  have e : PM (qpi w (116 + a) i (nI n)) = sA (PM w0) i a (nI n) := by rw [PM_t hi (by omega), h6, sA_sA]
  have hf : Fr jZm w (qpi w (116 + a) i (nI n)) := Fr.rf.pi (by unfold jZm; omega)
  refine ⟨MA.self h1 ⟨?_, h3.zm hf, (qi_k (by omega)).trans h4⟩, e, h2.tr hf⟩
  rw [e]
  rcases ha with ⟨rfl, hn⟩ | ⟨rfl, hn⟩
  · exact okR_v h5 hn
  · exact okR_w h5 hn
theorem MW.next {w1 w2 : qW} {i a n : Nat} (h : MW k w0 w i a) (e : PM w1 = sA (PM w0) i a (nI n)) (hf : Fr jZm w0 w1) (h2 : MA k w1 w2) : MW k w0 w2 i a :=
  ⟨h2.1, hf.tr (h2.2.1.mono (fun _ _ q => Or.inl q)), h2.2.2.1.2.1, h2.2.2.1.2.2, h.2.2.2.2.1, nI n, h2.2.2.2.trans e⟩
theorem MW.back {i a : Nat} (h : MW k w0 w i a) (hi : i < 6) (ha : a = 1 ∨ a = 2) : ZA k w0 (qpi w (116 + a) i (qi w0 (116 + a) i)) := by
  obtain ⟨h1, h2, h3, h4, h5, x, h6⟩ := h
  have e : PM (qpi w (116 + a) i (qi w0 (116 + a) i)) = PM w0 := by
    rw [PM_t hi (by omega), h6, sA_sA, ← aM_6 (w := w0) (i := i) (a := a) hi (by omega)]
    exact sA_id
  have hf : Fr jZm w (qpi w (116 + a) i (qi w0 (116 + a) i)) := Fr.rf.pi (by unfold jZm; omega)
  exact ⟨h1, h2.tr hf, ⟨by rw [e]; exact h5, h3.zm hf, (qi_k (by omega)).trans h4⟩, e⟩
theorem h_mweights {Q : qW → Int32 → Prop} {cnt i : Nat} (hc : cnt ≤ 5) (hcn : qi w0 115 39 = nI cnt) (hA : ∀ j, j < cnt → rg (qi w0 137 j) 12) (hi : i < 6) (hQ : ∀ w1, ZA k w0 w1 → Q w1 (wtI (fun n => seenB k (sA (nmP (PM w0)) i 2 (nI n)) (qi w0 137) (qi w0 138) cnt) 21)) :
    ∀ (m n : Nat) (w : qW), n + m = 21 → MW k w0 w i 2 → c_Mo_weights_12 d E Q (nI i) (qi w0 118 i) (wtI (fun n => seenB k (sA (nmP (PM w0)) i 2 (nI n)) (qi w0 137) (qi w0 138) cnt) n) (nI n) w := by
  have hin : vp_in (nI i) 6 := nvp hi (by omega)
  intro m
  induction m with
  | zero =>
    intro n w hn h
    have : n = 21 := by omega
    subst this
    refine s_Mo_weights_12 h.1 (pk_le 21 21 (fun _ => ⟨hin, ?_⟩) (fun z => by omega))
    rw [ncl (by omega)]
    exact hQ _ (h.back hi (Or.inr rfl))
  | succ m ih =>
    intro n w hn h
    refine s_Mo_weights_12 h.1 (pk_le 21 n (fun z => by omega) (fun _ => ⟨hin, ?_⟩))
    rw [ncl (a := i) (by omega), n1]
    obtain ⟨h2, e2, f2⟩ := h.set (n := n) hi (Or.inr ⟨rfl, by omega⟩)
    have g : ∀ a j, 137 ≤ a → qi (qpi w (116 + 2) i (nI n)) a j = qi w0 a j := fun a j ha => (f2 a j (by unfold jZm jAm; omega)).1
    have g0 : qi (qpi w (116 + 2) i (nI n)) 115 39 = qi w0 115 39 := (f2 115 39 (by unfold jZm jAm; omega)).1
    refine y_isSeen h2 hc (g0.trans hcn) (fun j hj => by rw [g 137 j (by omega)]; exact hA j hj) (fun w3 h3 => ?_)
    have eA : qi (qpi w (116 + 2) i (nI n)) 137 = qi w0 137 := funext fun j => g 137 j (by omega)
    have eC : qi (qpi w (116 + 2) i (nI n)) 138 = qi w0 138 := funext fun j => g 138 j (by omega)
    rw [eA, eC, e2, nm_sA (by omega)]
    have e : wtI (fun n => seenB k (sA (nmP (PM w0)) i 2 (nI n)) (qi w0 137) (qi w0 138) cnt) (n + 1) = wtI (fun n => seenB k (sA (nmP (PM w0)) i 2 (nI n)) (qi w0 137) (qi w0 138) cnt) n ||| (if seenB k (sA (nmP (PM w0)) i 2 (nI n)) (qi w0 137) (qi w0 138) cnt = true then 1 <<< (nI n &&& 31) else 0) := rfl
    have := ih (n + 1) w3 (by omega) (h.next e2 f2 h3)
    rw [e] at this
    refine ⟨fun z => ?_, fun z => ?_⟩
    · rw [if_neg (by rw [(q01 _).1.mp z]; decide)] at this
      exact this
    · rw [if_pos ((q01 _).2.mp z)] at this
      exact this
theorem MA.mw {i a : Nat} (h : MA k w0 w) : MW k w0 w i a := by
  obtain ⟨h1, h2, ⟨m1, m2, m3⟩, h4⟩ := h
  exact ⟨h1, h2.mono (fun _ _ q => Or.inl q), m2, m3, by rw [← h4]; exact m1, pa (PM w0) i a, by rw [h4, sA_id]⟩
theorem y_weights {Q : qW → Int32 → Prop} {cnt i : Nat} (h : MC k w) (hw : Sh w) (hc : cnt ≤ 5) (hcn : qi w 115 39 = nI cnt) (hA : ∀ j, j < cnt → rg (qi w 137 j) 12) (hi : i < 6) (hQ : ∀ w1, ZA k w w1 → Q w1 (wtI (fun n => seenB k (sA (nmP (PM w)) i 2 (nI n)) (qi w 137) (qi w 138) cnt) 21)) : CaI (d + 8) M_Mo_weights [.ref (qb E + 115), .int (nI i)] E w Q := by
  refine en_Mo_weights hw (s_Mo_weights_0 hw ⟨nvp hi (by omega), ?_⟩)
  rw [ncl (by omega)]
  exact h_mweights hc hcn hA hi hQ 21 0 w (by omega) (MA.self hw h).mw
theorem h_mcan {Q : qW → Int32 → Prop} {cnt i : Nat} {a : Int32} (hc : cnt ≤ 5) (hcn : qi w0 115 39 = nI cnt) (hA : ∀ j, j < cnt → rg (qi w0 137 j) 12) (hi : i < 6) (hQ : ∀ w1, ZA k w0 w1 → Q w1 (if a = 0 then nI (fmF (fun n => seenB k (sA (nmP (PM w0)) i 1 (nI n)) (qi w0 137) (qi w0 138) cnt) 10).1 else (fmF (fun n => seenB k (sA (nmP (PM w0)) i 1 (nI n)) (qi w0 137) (qi w0 138) cnt) 10).2)) :
    ∀ (n m : Nat) (w : qW) (x : Int32), m + n = 10 → (n = 0 → x = -1) → (0 < n → x = nI (n - 1)) → MW k w0 w i 1 → c_Mo_can_38 d E Q (nI i) a (qi w0 117 i) (nI (fmF (fun n => seenB k (sA (nmP (PM w0)) i 1 (nI n)) (qi w0 137) (qi w0 138) cnt) m).1) (fmF (fun n => seenB k (sA (nmP (PM w0)) i 1 (nI n)) (qi w0 137) (qi w0 138) cnt) m).2 x w := by
  have hin : vp_in (nI i) 6 := nvp hi (by omega)
  intro n
  induction n with
  | zero =>
    intro m w x hm hx _ h
    have : m = 10 := by omega
    subst this
    rw [hx rfl]
    have hq := hQ _ (h.back hi (Or.inl rfl))
    refine s_Mo_can_38 h.1 ⟨fun _ => ⟨hin, ?_⟩, fun z => absurd (by decide) z⟩
    rw [ncl (by omega)]
    refine ⟨fun z => ?_, fun z => ?_⟩
    · rw [if_neg z] at hq; exact hq
    · rw [if_pos z] at hq; exact hq
  | succ n ih =>
    intro m w x hm _ hx h
    rw [hx (by omega), show n + 1 - 1 = n by omega]
    refine s_Mo_can_38 h.1 ⟨fun z => absurd z (nI_pos (by omega)), fun _ => ⟨hin, ?_⟩⟩
    rw [ncl (a := i) (by omega)]
    obtain ⟨h2, e2, f2⟩ := h.set (n := n) hi (Or.inl ⟨rfl, by omega⟩)
    have g : ∀ a j, 137 ≤ a → qi (qpi w (116 + 1) i (nI n)) a j = qi w0 a j := fun a j ha => (f2 a j (by unfold jZm jAm; omega)).1
    have g0 : qi (qpi w (116 + 1) i (nI n)) 115 39 = qi w0 115 39 := (f2 115 39 (by unfold jZm jAm; omega)).1
    refine y_isSeen h2 hc (g0.trans hcn) (fun j hj => by rw [g 137 j (by omega)]; exact hA j hj) (fun w3 h3 => ?_)
    have eA : qi (qpi w (116 + 1) i (nI n)) 137 = qi w0 137 := funext fun j => g 137 j (by omega)
    have eC : qi (qpi w (116 + 1) i (nI n)) 138 = qi w0 138 := funext fun j => g 138 j (by omega)
    rw [eA, eC, e2, nm_sA (by omega)]
    have := ih (m + 1) w3 (nI n + -1) (by omega) (fun z => by rw [z]; rfl) (fun z => by
      obtain ⟨n', rfl⟩ : ∃ n', n = n' + 1 := ⟨n - 1, by omega⟩
      exact pk_m1 n') (h.next e2 f2 h3)
    have e9 : 9 - m = n := by omega
    refine ⟨fun z => ?_, fun z => ?_⟩
    · rw [fmF_s (by rw [e9]; exact (q01 _).2.mp z), e9] at this
      rw [n1]
      exact this
    · rw [fmF_n (by rw [e9, (q01 _).1.mp z]; decide)] at this
      exact this
end MB
