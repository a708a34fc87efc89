/-! the class's pan: a minute, finding, putting in, saying -/
section XQ
variable {d : Nat} {E : qE} {w : qW} {k : List Cl}
def jPn (q k _ : Nat) : Prop := q ≤ k ∧ k ≤ q + 14
theorem aX_q {q j : Nat} {x : Int32} : aX (qpi w q j x) q = aX w q := by
  funext i a
  unfold aX
  rw [qi_k (by omega), qi_k (by omega), qi_k (by omega)]
theorem aX_t {q i a : Nat} {x : Int32} (hi : i < 6) (ha : a < 6) : aX (qpi w (q + 3 + 2 * i) (a + 1) x) q = upA (aX w q) i a x := by
  funext i' a'
  unfold upA aX
  by_cases h1 : i' < 6
  · rw [if_pos h1, if_pos h1]
    rw [qi_k (a := q + 4 + 2 * i') (by omega), qi_j (a := q + 3 + 2 * i') (c := 0) (by omega), qi_ite]
    by_cases h3 : i' = i ∧ a' = a
    · obtain ⟨rfl, rfl⟩ := h3
      rw [if_pos ha, if_pos ⟨rfl, rfl⟩, if_pos ⟨rfl, rfl⟩]
    · rw [if_neg h3, if_neg (c := q + 3 + 2 * i' = q + 3 + 2 * i ∧ a' + 1 = a + 1) (fun z => h3 ⟨by omega, by omega⟩)]
  · rw [if_neg h1, if_neg h1, if_neg (fun z => h1 (by omega))]
theorem aX_w {q i b : Nat} {x : Int32} (hi : i < 6) (hb : b < 4) : aX (qpi w (q + 4 + 2 * i) b x) q = upA (aX w q) i (6 + b) x := by
  funext i' a'
  unfold upA aX
  by_cases h1 : i' < 6
  · rw [if_pos h1, if_pos h1]
    rw [qi_k (a := q + 3 + 2 * i') (by omega), qi_k (a := q + 3 + 2 * i') (by omega)]
    by_cases h2 : a' < 6
    · rw [if_pos h2, if_pos h2, if_neg (fun z => by omega)]
    · rw [if_neg h2, if_neg h2]
      by_cases h4 : a' < 10
      · rw [if_pos h4, if_pos h4, qi_ite]
        by_cases h3 : i' = i ∧ a' = 6 + b
        · obtain ⟨rfl, rfl⟩ := h3
          rw [if_pos ⟨rfl, by omega⟩, if_pos ⟨rfl, rfl⟩]
        · rw [if_neg h3, if_neg (c := q + 4 + 2 * i' = q + 4 + 2 * i ∧ a' - 6 = b) (fun z => h3 ⟨by omega, by omega⟩)]
      · rw [if_neg h4, if_neg h4, if_neg (c := i' = i ∧ a' = 6 + b) (fun z => by omega)]
  · rw [if_neg h1, if_neg h1, if_neg (fun z => h1 (by omega))]
theorem PX_F {q : Nat} {x : Int32} : PX q (qpi w q 2 x) = sF (PX q w) x := by
  unfold PX
  rw [aX_q, qi_j (by decide), qi_eq rfl rfl, qi_j (by decide), qi_j (by decide), qi_j (by decide), qr_pi]
  rfl
theorem PX_K {q : Nat} {x : Int32} : PX q (qpi w q 3 x) = sK (PX q w) x := by
  unfold PX
  rw [aX_q, qi_j (by decide), qi_j (by decide), qi_eq rfl rfl, qi_j (by decide), qi_j (by decide), qr_pi]
  rfl
theorem PX_t {q i a : Nat} {x : Int32} (hi : i < 6) (ha : a < 6) : PX q (qpi w (q + 3 + 2 * i) (a + 1) x) = sA (PX q w) i a x := by
  unfold PX
  rw [aX_t hi ha, qi_k (by omega), qi_k (by omega), qi_k (by omega), qi_k (by omega), qi_k (by omega), qr_pi]
  rfl
theorem PX_w {q i b : Nat} {x : Int32} (hi : i < 6) (hb : b < 4) : PX q (qpi w (q + 4 + 2 * i) b x) = sA (PX q w) i (6 + b) x := by
  unfold PX
  rw [aX_w hi hb, qi_k (by omega), qi_k (by omega), qi_k (by omega), qi_k (by omega), qi_k (by omega), qr_pi]
  rfl
theorem okR.num {M T q : Nat} (h : okR M T (PX q w)) : NUM q w := fun i hi => by
  obtain ⟨-, -, -, -, -, -, -, a7⟩ := h.2.2.2.2.2 i hi
  rw [← aX_n hi]
  exact a7
theorem KX.pn {K q : Nat} {w1 : qW} (hq : isPan q) (h : KX w K k) (hf : Fr (jPn q) w w1) : KX w1 K k := by
  have h1 := hq.c
  have h2 := h.1.c
  exact h.fr (fun a j _ _ => (hf a j (by unfold jPn; omega)).1)
theorem h_together {Q : qW → Int32 → Prop} {q c m K : Nat} (hq : isPan q) (hc : c ≤ 6) (hcn : qi w q 0 = nI c) (hm : m ≤ 20000) (hmn : qi w q 5 = nI m) (hk : KX w K k) (hr : qr w q 6 = K + 1) (hnum : NUM q w) (hQ : ∀ w1 x, Sh w1 → Fr (jFac q) w w1 → x = alP (adK k) (PX q w) c → Q w1 x) :
    ∀ (n i : Nat) (w1 : qW), i + n = c → Sh w1 → Fr (jFac q) w w1 → c_Pa_together_4 d E Q q (alP (adK k) (PX q w) i) (nI i) w1 := by
  intro n
  induction n with
  | zero =>
    intro i w1 hi hw1 hf
    refine s_Pa_together_4 hw1 hq (pk_le c i (fun _ => hQ w1 _ hw1 hf (by rw [show i = c by omega])) (fun h => by omega) ?_)
    rw [(hf q 0 (by unfold jFac; omega)).1, hcn]
  | succ n ih =>
    intro i w1 hi hw1 hf
    have g : ∀ a j : Nat, a ≠ q + 2 → qi w1 a j = qi w a j := fun a j h => (hf a j (by unfold jFac; omega)).1
    have e4 : qi w1 (q + 3 + 2 * i) 5 = pa (PX q w) i 4 := (g _ _ (by omega)).trans (aX_6 (a := 4) (by omega) (by omega)).symm
    refine s_Pa_together_4 hw1 hq (pk_le c i (fun h => by omega) (fun h => pk_le 6 i (fun h => by omega) (fun h => ⟨nvp (by omega) (by omega), ?_⟩)) ((g q 0 (by omega)).trans hcn))
    rw [ncl (a := i) (by omega), e4, n1]
    refine ⟨fun z => ?_, fun z => ⟨nvp (by omega) (by omega), ?_⟩⟩
    · have e : alP (adK k) (PX q w) (i + 1) = alP (adK k) (PX q w) i := by
        show _ + (if pa (PX q w) i 4 = 1 then _ else 0) = _
        rw [if_neg z, Int32.add_zero]
      rw [← e]
      exact ih (i + 1) w1 (by omega) hw1 hf
    · refine p_Pa_gives (k := k) (c := c) (m := m) (K := K) hw1 hq (by omega) hc ((g _ _ (by omega)).trans hcn) hm ((g _ _ (by omega)).trans hmn) (hk.fac hq hf) ((hf q 6 (by unfold jFac; omega)).2.2.trans hr) (hnum.fac hf) (fun w2 x hw2 hf2 hx => ?_)
      have e : alP (adK k) (PX q w) i + x = alP (adK k) (PX q w) (i + 1) := by
        show _ = _ + (if pa (PX q w) i 4 = 1 then _ else 0)
        rw [if_pos z, hx, PX_fac hf]
      rw [e]
      exact ih (i + 1) w2 (by omega) hw2 (hf.tr hf2)
theorem p_Pa_together {Q : qW → Int32 → Prop} {q K M T : Nat} (hw : Sh w) (hq : isPan q) (ho : okR M T (PX q w)) (hM : M ≤ 20000) (hk : KX w K k) (hr : qr w q 6 = K + 1) (hQ : ∀ w1 x, Sh w1 → Fr (jFac q) w w1 → x = alP (adK k) (PX q w) (cN (PX q w)) → Q w1 x) : CaI (d + 2) M_Pa_together [.ref (qb E + q)] E w Q := by
  obtain ⟨c, hc, hcn, hcw⟩ := ho.c
  obtain ⟨m, hm, hmn⟩ := ho.2.2.2.2.1
  rw [hcw] at hQ
  exact en_Pa_together hw (s_Pa_together_0 hw hq (h_together hq hc hcn (by omega) hmn hk hr ho.num hQ c 0 w (by omega) hw Fr.rf))
/-- what a minute changes of the class's pan -/
def jMx (q k j : Nat) : Prop := (k = q ∧ 3 ≤ j ∧ j ≤ 5) ∨ k = q + 2 ∨ (q + 3 ≤ k ∧ k ≤ q + 14)
theorem i32_mn (cap x : Int32) : (if x + 1 < cap then x + 1 else cap) = mnc cap x := by
  unfold mnc
  by_cases h : x + 1 < cap
  · rw [if_pos h, if_neg (Int32.not_le.mpr h)]
  · rw [if_neg h, if_pos (Int32.not_lt.mp h)]
theorem h_xMin {Q : qW → Prop} {q c : Nat} {p : Pn} (hq : isPan q) (hc : c ≤ 6) (hQ : ∀ w1, Sh w1 → Fr (jMx q) w w1 → aX w1 q = tmP 9999 p c → qi w1 q 5 = pm p + 1 → qi w1 q 3 = qi w q 3 → qi w1 q 4 = qi w q 4 → Q w1) :
    ∀ (n i : Nat) (w1 : qW), i + n = c → Sh w1 → Fr (jMx q) w w1 → qi w1 q 0 = nI c → qi w1 q 5 = pm p → qi w1 q 3 = qi w q 3 → qi w1 q 4 = qi w q 4 → aX w1 q = tmP 9999 p i → c_Pa_goMinute_61 d E Q q (nI i) w1 := by
  intro n
  induction n with
  | zero =>
    intro i w1 hi hw1 hf h0 h5 h3 h4 ha
    have fin : Q (qpi w1 q 5 (qi w1 q 5 + 1)) := by
      rw [h5]
      refine hQ _ hw1 (hf.pi (Or.inl ⟨rfl, by omega, by omega⟩)) ?_ (qi_eq rfl rfl) ((qi_j (by decide)).trans h3) ((qi_j (by decide)).trans h4)
      rw [aX_q, ha, show i = c by omega]
    exact s_Pa_goMinute_61 hw1 hq (pk_le c i (fun _ => fin) (fun h => by omega) h0)
  | succ n ih =>
    intro i w1 hi hw1 hf h0 h5 h3 h4 ha
    have e4 : qi w1 (q + 3 + 2 * i) 5 = pa p i 4 := by
      have := congrFun (congrFun ha i) 4
      rw [tm_get, if_neg (by omega)] at this
      rw [← this]
      exact (aX_6 (a := 4) (by omega) (by omega)).symm
    have e5 : qi w1 (q + 3 + 2 * i) 6 = pa p i 5 := by
      have := congrFun (congrFun ha i) 5
      rw [tm_get, if_neg (by omega)] at this
      rw [← this]
      exact (aX_6 (a := 5) (by omega) (by omega)).symm
    have hin : vp_in (nI i) 6 := nvp (by omega) (by omega)
    refine s_Pa_goMinute_61 hw1 hq (pk_le c i (fun h => by omega) (fun h => pk_le 6 i (fun h => by omega) (fun h => ⟨hin, ?_⟩)) h0)
    rw [ncl (a := i) (by omega), e4, e5, n1]
    refine ⟨fun z => ?_, fun z => ⟨hin, hin, p_min hw1 ?_⟩⟩
    · refine ih (i + 1) w1 (by omega) hw1 hf h0 h5 h3 h4 ?_
      rw [ha]
      show _ = if pa p i 4 = 1 then _ else _
      rw [if_neg z]
    · rw [i32_mn]
      refine ih (i + 1) _ (by omega) hw1 (hf.pi (Or.inr (Or.inr ⟨by omega, by omega⟩))) ((qi_k (by omega)).trans h0) ((qi_k (by omega)).trans h5) ((qi_k (by omega)).trans h3) ((qi_k (by omega)).trans h4) ?_
      rw [show (6 : Nat) = 5 + 1 from rfl, aX_t (by omega) (by omega), ha]
      have e : tmP 9999 p (i + 1) = upA (tmP 9999 p i) i 5 (mnc 9999 (pa p i 5)) := by
        show (if pa p i 4 = 1 then _ else _) = _
        rw [if_pos z]
        rfl
      rw [e]
theorem i32_clamp (n : Int32) : (if (if 0 < n then n else 0) < 99999 then (if 0 < n then n else 0) else 99999) = if 0 ≤ n then (if 99999 ≤ n then 99999 else n) else 0 := by
  by_cases h0 : 0 < n
  · rw [if_pos h0, if_pos (Int32.le_of_lt h0)]
    by_cases h1 : n < 99999
    · rw [if_pos h1, if_neg (Int32.not_le.mpr h1)]
    · rw [if_neg h1, if_pos (Int32.not_lt.mp h1)]
  · rw [if_neg h0, if_pos (by decide)]
    by_cases h1 : 0 ≤ n
    · have e : n = 0 := Int32.le_antisymm (Int32.not_lt.mp h0) h1
      rw [if_pos h1, e]
      rfl
    · rw [if_neg h1]
theorem p_Pa_goMinute {Q : qW → Prop} {q K M T : Nat} (hw : Sh w) (hq : isPan q) (ho : okR M T (PX q w)) (hM : M ≤ 20000) (hk : KX w K k) (hr : qr w q 6 = K + 1) (hQ : ∀ w1, Sh w1 → Fr (jMx q) w w1 → PX q w1 = miP 9999 (adK k) (ndK k) (PX q w) → Q w1) : CaV (d + 3) M_Pa_goMinute [.ref (qb E + q)] E w Q := by
  obtain ⟨c, hc, hcn, hcw⟩ := ho.c
  have hqc := hq.c
  have hKc := hk.1.c
  have fin : ∀ (w2 : qW), Sh w2 → Fr (jMx q) w w2 → qi w2 q 3 = coP (adK k) (PX q w) → qz (qi w2 q 4) = seP (adK k) (ndK k) (PX q w) → qi w2 q 5 = pm (PX q w) → aX w2 q = pa (PX q w) → c_Pa_goMinute_61 d E Q q 0 w2 := by
    intro w2 hw2 hf2 h2 h4 h3 ha
    refine h_xMin (w := w2) (c := c) (p := PX q w) hq hc (fun w3 hw3 hf3 a3 b3 c3 d3 => hQ w3 hw3 (hf2.tr hf3) ?_) c 0 w2 (by omega) hw2 Fr.rf ?_ h3 rfl rfl ha
    · have g3 : ∀ j : Nat, j < 3 → qi w3 q j = qi w q j := fun j a => ((hf2.tr hf3) q j (by unfold jMx; omega)).1
      unfold PX miP
      rw [a3, b3, c3, d3, h2, h4, g3 0 (by omega), g3 2 (by omega), ((hf2.tr hf3) q 6 (by unfold jMx; omega)).2.2]
      rw [show c = cN (PX q w) from hcw.symm]
      rfl
    · exact (hf2 q 0 (by unfold jMx; omega)).1.trans hcn
  refine en_Pa_goMinute hw (s_Pa_goMinute_0 hw hq ⟨fun z => ?_, fun z => ?_⟩)
  · have z' : ¬ ps (PX q w) = 0 := z
    refine fin w hw Fr.rf ?_ ?_ rfl rfl
    · unfold coP
      rw [if_pos z']
      rfl
    · unfold seP
      rw [if_pos z']
      rfl
  · refine p_Pa_together hw hq ho hM hk hr (fun w1 x hw1 hf hx => p_max hw1 (p_min hw1 ?_))
    have hps : ¬ ¬ ps (PX q w) = 0 := fun u => u z
    have hf' : Fr (jMx q) w w1 := hf.mono (fun _ _ h => Or.inr (Or.inl h))
    have g : ∀ a j : Nat, a ≠ q + 2 → qi w1 a j = qi w a j := fun a j h => (hf a j (by unfold jFac; omega)).1
    have hn : qi w q 3 + qi w q 2 * x = pk (PX q w) + pf (PX q w) * alP (adK k) (PX q w) (cN (PX q w)) := by rw [hx]; rfl
    have hco : coP (adK k) (PX q w) = if 0 ≤ qi w q 3 + qi w q 2 * x then (if 99999 ≤ qi w q 3 + qi w q 2 * x then 99999 else qi w q 3 + qi w q 2 * x) else 0 := by
      unfold coP
      rw [if_neg hps, hn]
    rw [i32_clamp, ← hco]
    refine ⟨K, hk.1, ((hf q 6 (by unfold jFac; omega)).2.2).trans hr, ?_⟩
    have hneed : qi (qpi w1 q 3 (coP (adK k) (PX q w))) K 4 = ndK k := by
      rw [qi_k (by omega), g _ _ (by omega)]
      exact hk.2.2.2.2
    have haw : ∀ v2 : Int32, aX (qpi (qpi w1 q 3 (coP (adK k) (PX q w))) q 4 v2) q = pa (PX q w) := by
      intro v2
      rw [aX_q, aX_q]
      have : pa (PX q w) = aX w1 q := by rw [← PX_fac hf]; rfl
      rw [this]
    have fr2 : ∀ v2 : Int32, Fr (jMx q) w (qpi (qpi w1 q 3 (coP (adK k) (PX q w))) q 4 v2) := fun v2 => (hf'.pi (Or.inl ⟨rfl, by omega, by omega⟩)).pi (Or.inl ⟨rfl, by omega, by omega⟩)
    rw [hneed, qi_eq rfl rfl]
    refine ⟨fun y => fin _ hw1 (fr2 0) ((qi_j (by decide)).trans (qi_eq rfl rfl)) ?_ ((qi_j (by decide)).trans ((qi_j (by decide)).trans (g q 5 (by omega)))) (haw _), fun y => fin _ hw1 (fr2 1) ((qi_j (by decide)).trans (qi_eq rfl rfl)) ?_ ((qi_j (by decide)).trans ((qi_j (by decide)).trans (g q 5 (by omega)))) (haw _)⟩
    · rw [qi_eq rfl rfl]
      unfold seP
      rw [if_neg hps, if_pos y]
      rfl
    · rw [qi_eq rfl rfl]
      unfold seP
      rw [if_neg hps, if_neg y]
      rfl
theorem p_find_s {Q : qW → Option Nat → Prop} {q c i : Nat} (hw : Sh w) (hq : isPan q) (hc : c ≤ 6) (hcn : qi w q 0 = nI c) (hi : i < c) (h : Q w (some (q + 3 + 2 * i))) : CaR d M_Pa_find [.ref (qb E + q), .int (nI i)] E w Q := by
  refine en_Pa_find hw (s_Pa_find_0 hw hq ⟨fun z => absurd z (nI_pos (by omega)), fun _ => pk_le c i (fun z => by omega) (fun _ => pk_le 6 i (fun z => by omega) (fun _ => ⟨nvp (by omega) (by omega), ?_⟩)) hcn⟩)
  rw [ncl (by omega)]
  exact h
theorem p_find_n {Q : qW → Option Nat → Prop} {q c : Nat} {x : Int32} (hw : Sh w) (hq : isPan q) (hcn : qi w q 0 = nI c) (hi : x < 0 ∨ nI c ≤ x) (h : Q w none) : CaR d M_Pa_find [.ref (qb E + q), .int x] E w Q := by
  refine en_Pa_find hw (s_Pa_find_0 hw hq ⟨fun _ => h, fun z => ⟨fun _ => h, fun y => absurd hi ?_⟩⟩)
  rw [← hcn]
  exact fun u => u.elim z y
/-- bits as a number -/
def stN (p : Pn) (st : Int32) : Nat → Nat
  | 0 => 0
  | i + 1 => if pa p i 4 = st then stN p st i + 2 ^ i else stN p st i
theorem stN_lt (p : Pn) (st : Int32) (n : Nat) : stN p st n < 2 ^ n := by
  induction n with
  | zero => exact Nat.one_pos
  | succ n ih =>
    show (if pa p n 4 = st then stN p st n + 2 ^ n else stN p st n) < 2 ^ (n + 1)
    rw [Nat.pow_succ]
    split <;> omega
theorem or_bit : ∀ i, i < 6 → ∀ n, n < 2 ^ i → nI n ||| (1 <<< (nI i &&& 31)) = nI (n + 2 ^ i) := by decide +kernel
theorem stN_i {p : Pn} {st : Int32} {i : Nat} (hi : i < 6) (h : pa p i 4 = st) : nI (stN p st i) ||| (1 <<< (nI i &&& 31)) = nI (stN p st (i + 1)) := by
  rw [or_bit i hi _ (stN_lt p st i)]
  show _ = nI (if pa p i 4 = st then _ else _)
  rw [if_pos h]
theorem stN_n {p : Pn} {st : Int32} {i : Nat} (h : ¬ pa p i 4 = st) : stN p st (i + 1) = stN p st i := by
  show (if pa p i 4 = st then _ else _) = _
  rw [if_neg h]
theorem h_bitsOf {Q : qW → Int32 → Prop} {q c : Nat} {st : Int32} (hw : Sh w) (hq : isPan q) (hc : c ≤ 6) (hcn : qi w q 0 = nI c) (hQ : Q w (nI (stN (PX q w) st c))) :
    ∀ (n i : Nat), i + n = c → c_Pa_bitsOf_4 d E Q q st (nI (stN (PX q w) st i)) (nI i) w := by
  intro n
  induction n with
  | zero =>
    intro i hi
    have : i = c := by omega
    subst this
    exact s_Pa_bitsOf_4 hw hq (pk_le i i (fun _ => hQ) (fun h => by omega) hcn)
  | succ n ih =>
    intro i hi
    have e4 : qi w (q + 3 + 2 * i) 5 = pa (PX q w) i 4 := (aX_6 (a := 4) (by omega) (by omega)).symm
    refine s_Pa_bitsOf_4 hw hq (pk_le c i (fun h => by omega) (fun h => pk_le 6 i (fun h => by omega) (fun h => ⟨nvp (by omega) (by omega), ?_⟩)) hcn)
    rw [ncl (a := i) (by omega), e4, n1]
    refine ⟨fun z => ?_, fun z => ?_⟩
    · rw [← stN_n z]
      exact ih (i + 1) (by omega)
    · rw [stN_i (by omega) z]
      exact ih (i + 1) (by omega)
def bsP (p : Pn) (st : Int32) : Nat := stN p st (cN p)
theorem bsP_lt {M T : Nat} {p : Pn} (st : Int32) (h : okR M T p) : bsP p st < 64 := by
  obtain ⟨c, hc, -, hcw⟩ := h.c
  have := stN_lt p st c
  unfold bsP
  rw [hcw]
  exact Nat.lt_of_lt_of_le this (Nat.pow_le_pow_right (by decide) hc)
theorem p_Pa_bitsOf {Q : qW → Int32 → Prop} {q M T : Nat} {st : Int32} (hw : Sh w) (hq : isPan q) (ho : okR M T (PX q w)) (hQ : Q w (nI (bsP (PX q w) st))) : CaI d M_Pa_bitsOf [.ref (qb E + q), .int st] E w Q := by
  obtain ⟨c, hc, hcn, hcw⟩ := ho.c
  unfold bsP at hQ
  rw [hcw] at hQ
  exact en_Pa_bitsOf hw (s_Pa_bitsOf_0 hw hq (h_bitsOf hw hq hc hcn hQ c 0 (by omega)))
/-- how many bits -/
def pop (n : Nat) : Nat := n % 2 + n / 2 % 2 + n / 4 % 2 + n / 8 % 2 + n / 16 % 2 + n / 32 % 2
theorem pop_6 (n : Nat) : pop n ≤ 6 := by unfold pop; omega
def bcF (a0 : Int32) : Int32 := ((((((((a0 - ((((a0).toUInt32 >>> ((1 : Int32).toUInt32 &&& Int32.toUInt32 31)).toInt32) &&& 1431655765)) &&& 858993459) + (((((a0 - ((((a0).toUInt32 >>> ((1 : Int32).toUInt32 &&& Int32.toUInt32 31)).toInt32) &&& 1431655765))).toUInt32 >>> ((2 : Int32).toUInt32 &&& Int32.toUInt32 31)).toInt32) &&& 858993459)) + ((((((a0 - ((((a0).toUInt32 >>> ((1 : Int32).toUInt32 &&& Int32.toUInt32 31)).toInt32) &&& 1431655765)) &&& 858993459) + (((((a0 - ((((a0).toUInt32 >>> ((1 : Int32).toUInt32 &&& Int32.toUInt32 31)).toInt32) &&& 1431655765))).toUInt32 >>> ((2 : Int32).toUInt32 &&& Int32.toUInt32 31)).toInt32) &&& 858993459))).toUInt32 >>> ((4 : Int32).toUInt32 &&& Int32.toUInt32 31)).toInt32)) &&& 252645135) + ((((((((a0 - ((((a0).toUInt32 >>> ((1 : Int32).toUInt32 &&& Int32.toUInt32 31)).toInt32) &&& 1431655765)) &&& 858993459) + (((((a0 - ((((a0).toUInt32 >>> ((1 : Int32).toUInt32 &&& Int32.toUInt32 31)).toInt32) &&& 1431655765))).toUInt32 >>> ((2 : Int32).toUInt32 &&& Int32.toUInt32 31)).toInt32) &&& 858993459)) + ((((((a0 - ((((a0).toUInt32 >>> ((1 : Int32).toUInt32 &&& Int32.toUInt32 31)).toInt32) &&& 1431655765)) &&& 858993459) + (((((a0 - ((((a0).toUInt32 >>> ((1 : Int32).toUInt32 &&& Int32.toUInt32 31)).toInt32) &&& 1431655765))).toUInt32 >>> ((2 : Int32).toUInt32 &&& Int32.toUInt32 31)).toInt32) &&& 858993459))).toUInt32 >>> ((4 : Int32).toUInt32 &&& Int32.toUInt32 31)).toInt32)) &&& 252645135)).toUInt32 >>> ((8 : Int32).toUInt32 &&& Int32.toUInt32 31)).toInt32)) + (((((((((a0 - ((((a0).toUInt32 >>> ((1 : Int32).toUInt32 &&& Int32.toUInt32 31)).toInt32) &&& 1431655765)) &&& 858993459) + (((((a0 - ((((a0).toUInt32 >>> ((1 : Int32).toUInt32 &&& Int32.toUInt32 31)).toInt32) &&& 1431655765))).toUInt32 >>> ((2 : Int32).toUInt32 &&& Int32.toUInt32 31)).toInt32) &&& 858993459)) + ((((((a0 - ((((a0).toUInt32 >>> ((1 : Int32).toUInt32 &&& Int32.toUInt32 31)).toInt32) &&& 1431655765)) &&& 858993459) + (((((a0 - ((((a0).toUInt32 >>> ((1 : Int32).toUInt32 &&& Int32.toUInt32 31)).toInt32) &&& 1431655765))).toUInt32 >>> ((2 : Int32).toUInt32 &&& Int32.toUInt32 31)).toInt32) &&& 858993459))).toUInt32 >>> ((4 : Int32).toUInt32 &&& Int32.toUInt32 31)).toInt32)) &&& 252645135) + ((((((((a0 - ((((a0).toUInt32 >>> ((1 : Int32).toUInt32 &&& Int32.toUInt32 31)).toInt32) &&& 1431655765)) &&& 858993459) + (((((a0 - ((((a0).toUInt32 >>> ((1 : Int32).toUInt32 &&& Int32.toUInt32 31)).toInt32) &&& 1431655765))).toUInt32 >>> ((2 : Int32).toUInt32 &&& Int32.toUInt32 31)).toInt32) &&& 858993459)) + ((((((a0 - ((((a0).toUInt32 >>> ((1 : Int32).toUInt32 &&& Int32.toUInt32 31)).toInt32) &&& 1431655765)) &&& 858993459) + (((((a0 - ((((a0).toUInt32 >>> ((1 : Int32).toUInt32 &&& Int32.toUInt32 31)).toInt32) &&& 1431655765))).toUInt32 >>> ((2 : Int32).toUInt32 &&& Int32.toUInt32 31)).toInt32) &&& 858993459))).toUInt32 >>> ((4 : Int32).toUInt32 &&& Int32.toUInt32 31)).toInt32)) &&& 252645135)).toUInt32 >>> ((8 : Int32).toUInt32 &&& Int32.toUInt32 31)).toInt32))).toUInt32 >>> ((16 : Int32).toUInt32 &&& Int32.toUInt32 31)).toInt32)) &&& 63)
theorem bc_pop : ∀ n, n < 64 → bcF (nI n) = nI (pop n) := by decide +kernel
theorem p_bitCount {Q : qW → Int32 → Prop} {n : Nat} (hw : Sh w) (hn : n < 64) (hQ : Q w (nI (pop n))) : CaI d M_Ji_bitCount [.int (nI n)] E w Q := by
  refine en_Ji_bitCount hw (s_Ji_bitCount_0 hw ?_)
  show Q w (bcF (nI n))
  rw [bc_pop n hn]
  exact hQ
theorem p_Pa_howMany {Q : qW → Int32 → Prop} {q M T : Nat} {st : Int32} (hw : Sh w) (hq : isPan q) (ho : okR M T (PX q w)) (hQ : Q w (nI (pop (bsP (PX q w) st)))) : CaI (d + 1) M_Pa_howMany [.ref (qb E + q), .int st] E w Q :=
  en_Pa_howMany hw (s_Pa_howMany_0 hw hq (p_Pa_bitsOf hw hq ho (p_bitCount hw (bsP_lt st ho) hQ)))
def jTh (q i k j : Nat) : Prop := k = q + 3 + 2 * i ∧ (j = 5 ∨ j = 6)
theorem p_putIn {Q : qW → Prop} {q i : Nat} (hw : Sh w) (hq : isPan q) (hi : i < 6) (hQ : ∀ w1, Sh w1 → Fr (jPn q) w w1 → PX q w1 = puP i (PX q w) → Q w1) : CaV d M_Th_putIn [.ref (qb E + (q + 3 + 2 * i))] E w Q := by
  refine en_Th_putIn hw (s_Th_putIn_0 hw (isTh_of hq hi) (hQ _ hw ((Fr.rf.pi ⟨by omega, by omega⟩).pi ⟨by omega, by omega⟩) ?_))
  rw [show (6 : Nat) = 5 + 1 from rfl, PX_t hi (by omega), PX_t (a := 4) hi (by omega)]
  rfl
theorem p_speak {Q : qW → Prop} {q i M T : Nat} (hw : Sh w) (hq : isPan q) (hi : i < 6) (ho : okR M T (PX q w)) (hQ : ∀ w1, Sh w1 → Fr (jPn q) w w1 → PX q w1 = spP i (PX q w) → Q w1) : CaV (d + 1) M_Pa_speak [.ref (qb E + q), .ref (qb E + (q + 3 + 2 * i))] E w Q := by
  have e2 : qi w (q + 3 + 2 * i) 3 = pa (PX q w) i 2 := (aX_6 (a := 2) (by omega) (by omega)).symm
  have f1 : Fr (jPn q) w (qpi w (q + 3 + 2 * i) 5 2) := Fr.rf.pi ⟨by omega, by omega⟩
  have p1 : PX q (qpi w (q + 3 + 2 * i) 5 2) = sA (PX q w) i 4 2 := PX_t (a := 4) hi (by omega)
  refine en_Pa_speak hw (s_Pa_speak_0 hw hq (isTh_of hq hi) ?_)
  rw [qi_k (a := q) (c := 4) (by omega), qi_k (a := q) (c := 3) (by omega), qi_j (c := 3) (by decide), e2]
  refine ⟨fun z => hQ _ hw f1 ?_, fun z => p_max hw (hQ _ hw (f1.pi ⟨by omega, by omega⟩) ?_)⟩
  · rw [p1]
    have : ¬ ps (PX q w) = 0 := z
    unfold spP coS
    rw [if_neg this]
    rfl
  · rw [PX_K, p1]
    have z' : ps (PX q w) = 0 := z
    unfold spP coS
    rw [if_pos z']
    congr 1
    obtain ⟨k, h3, h3'⟩ := ho.2.2.1
    obtain ⟨a, e1, e2⟩ := ten_w (ho.2.2.2.2.2 i hi).2.2.1
    show (if 0 < pk (PX q w) - 10 * pa (PX q w) i 2 then pk (PX q w) - 10 * pa (PX q w) i 2 else 0) = _
    rw [e2, h3']
    by_cases hlt : k < 10 * a
    · rw [if_pos ((nlt (by omega) (by omega)).mpr hlt), if_neg]
      exact Int32.not_lt.mpr (Int32.le_of_lt (pk_sneg (by omega) hlt))
    · rw [if_neg (fun u => hlt ((nlt (by omega) (by omega)).mp u)), pk_sub (by omega)]
      by_cases hz : k - 10 * a = 0
      · rw [hz]; rfl
      · rw [if_pos (show (0 : Int32) < nI (k - 10 * a) from nI_lt (a := 0) (by omega) (by omega))]
end XQ
