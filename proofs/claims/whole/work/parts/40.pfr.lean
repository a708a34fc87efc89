/-! the pairs: odds, means -/
section PF
theorem bm {z : Int} (h1 : -2147483648 ≤ z) (h2 : z < 2147483648) : z.bmod (2 ^ 32) = z := by
  rw [Int.bmod_eq_of_le (by omega) (by omega)]
/-- x lies within n of 0 -/
def bd (x : Int32) (n : Nat) : Prop := -(n : Int) ≤ x.toInt ∧ x.toInt ≤ (n : Int)
theorem bd.mono {x : Int32} {n m : Nat} (h : bd x n) (hm : n ≤ m) : bd x m := ⟨by have := h.1; omega, by have := h.2; omega⟩
theorem bd.nat {a n : Nat} (h : a ≤ n) (hn : n < 1000000) : bd (nI a) n := by
  unfold bd
  rw [nI_toInt (by omega)]
  omega
theorem bd.rg {x : Int32} {n : Nat} (h : rg x n) (hn : n < 1000000) : bd x n := by
  obtain ⟨a, ha, rfl⟩ := h
  exact bd.nat ha hn
theorem bd.add {x y : Int32} {n m : Nat} (hx : bd x n) (hy : bd y m) (h : n + m < 1000000000) : bd (x + y) (n + m) := by
  obtain ⟨a1, a2⟩ := hx
  obtain ⟨b1, b2⟩ := hy
  unfold bd
  rw [Int32.toInt_add, bm (by omega) (by omega)]
  omega
theorem bd.neg {x : Int32} {n : Nat} (hx : bd x n) (h : n < 1000000000) : bd (-x) n := by
  obtain ⟨a1, a2⟩ := hx
  unfold bd
  rw [Int32.toInt_neg, bm (by omega) (by omega)]
  omega
theorem bd.dbl {x : Int32} {n : Nat} (hx : bd x n) (h : n < 500000000) : bd (2 * x) (2 * n) := by
  obtain ⟨a1, a2⟩ := hx
  unfold bd
  have e : (2 : Int32).toInt = 2 := rfl
  rw [Int32.toInt_mul, e, bm (by omega) (by omega)]
  omega
theorem bd.half {x : Int32} {n : Nat} (hx : bd x n) : bd (x / 2) n := by
  obtain ⟨a1, a2⟩ := hx
  unfold bd
  have e : (2 : Int32).toInt = 2 := rfl
  rw [Int32.toInt_div_of_ne_right _ _ (by decide), e]
  rcases Int.le_total 0 x.toInt with h | h
  · rw [Int.tdiv_eq_ediv_of_nonneg h]
    omega
  · have e2 : x.toInt.tdiv 2 = -((-x.toInt).tdiv 2) := by rw [Int.neg_tdiv, Int.neg_neg]
    rw [e2, Int.tdiv_eq_ediv_of_nonneg (by omega)]
    omega
theorem vC_bd (c : Cl) (hc : okC c) (fa : Nat → Int32) : bd (vC c fa) 99 := by
  have h : bd (nI c.2.1) 99 := bd.nat hc.2.1 (by omega)
  unfold vC
  by_cases h1 : c.1 = 2
  · rw [if_pos h1]
    exact bd.nat (a := 0) (by omega) (by omega)
  · rw [if_neg h1]
    by_cases h2 : evB fa c.2.2 = true
    · rw [if_pos h2]
      by_cases h3 : c.1 = 0
      · rw [if_pos h3]; exact h
      · rw [if_neg h3]; exact h.neg (by omega)
    · rw [if_neg h2]
      exact bd.nat (a := 0) (by omega) (by omega)
theorem adK_bd (fa : Nat → Int32) : ∀ (k : List Cl), (∀ c ∈ k, okC c) → k.length ≤ 1000 → bd (adK k fa) (99 * k.length) := by
  intro k
  induction k with
  | nil => intro _ _; exact bd.nat (a := 0) (by omega) (by simp)
  | cons c k ih =>
    intro h hl
    simp only [List.length_cons] at hl ⊢
    have := (vC_bd c (h c (List.mem_cons_self ..)) fa).add (ih (fun c hc => h c (List.mem_cons_of_mem _ hc)) (by omega)) (by omega)
    rw [show 99 * (k.length + 1) = 99 + 99 * k.length by omega]
    exact this
theorem gv_bd {k : List Cl} {p : Pn} {M T i : Nat} (h : okR M T p) (hM : M ≤ 9999) (hT : T ≤ 9999) (hi : i < 6) (hk : ∀ c ∈ k, okC c) (hl : k.length ≤ 10) : bd (gvP (adK k) p i) 3000 := by
  obtain ⟨b0, b1, b2, b3, b4, b5, b6, b7⟩ := h.2.2.2.2.2 i hi
  have hs : bd (pa p i 2 + adK k (fcP p i)) 1010 := ((bd.rg b2 (by omega)).add ((adK_bd (fcP p i) k hk (by omega)).mono (show 99 * k.length ≤ 990 by omega)) (by omega))
  have hz : bd 0 1010 := bd.nat (a := 0) (by omega) (by omega)
  have hv : bd (pa p i 1) 9 := bd.rg b1 (by omega)
  have hsv : bd (pa p i 2 + adK k (fcP p i) + pa p i 1) 1019 := hs.add hv (by omega)
  have hn : bd (if saidB p i (cN p) = true then 0 else pa p i 2 + adK k (fcP p i)) 1010 := by
    split
    · exact hz
    · exact hs
  unfold gvP
  by_cases h1 : pa p i 0 = 1
  · rw [if_pos h1]; exact hsv.mono (by omega)
  rw [if_neg h1]
  by_cases h2 : pa p i 0 = 2
  · rw [if_pos h2]; exact hs.half.mono (by omega)
  rw [if_neg h2]
  by_cases h3 : pa p i 0 = 3
  · rw [if_pos h3]; exact hn.mono (by omega)
  rw [if_neg h3]
  by_cases h4 : pa p i 0 = 4
  · rw [if_pos h4]
    split
    · exact hsv.mono (by omega)
    · exact (hsv.dbl (by omega)).mono (by omega)
  rw [if_neg h4]
  by_cases h5 : pa p i 0 = 5
  · rw [if_pos h5]
    refine (hs.half.add (m := 9) ?_ (by omega)).mono (by omega)
    obtain ⟨t, t1', t2'⟩ := b5
    rw [t2']
    have e := m9_nI (t := t) (by omega)
    unfold m9 at e
    rw [e]
    exact bd.nat (by omega) (by omega)
  rw [if_neg h5]
  by_cases h6 : pa p i 0 = 6
  · rw [if_pos h6]
    refine (hn.add (m := 9) ?_ (by omega)).mono (by omega)
    obtain ⟨m, mm, me⟩ := h.2.2.2.2.1
    rw [me, show (4 : Int32) = nI 4 from rfl, pk_rem (by omega) (by omega) (by omega), ncl (by omega)]
    exact bd.rg (b6 _ (by omega)) (by omega)
  rw [if_neg h6]
  exact hs.mono (by omega)
theorem al_bd {k : List Cl} {p : Pn} {M T : Nat} (h : okR M T p) (hM : M ≤ 9999) (hT : T ≤ 9999) (hk : ∀ c ∈ k, okC c) (hl : k.length ≤ 10) : ∀ c, c ≤ 6 → bd (alP (adK k) p c) (3000 * c) := by
  intro c
  induction c with
  | zero => intro _; exact bd.nat (a := 0) (by omega) (by omega)
  | succ c ih =>
    intro hc
    show bd (alP (adK k) p c + (if pa p c 4 = 1 then gvP (adK k) p c else 0)) (3000 * (c + 1))
    rw [show 3000 * (c + 1) = 3000 * c + 3000 by omega]
    refine (ih (by omega)).add ?_ (by omega)
    split
    · exact gv_bd h hM hT (by omega) hk hl
    · exact bd.nat (a := 0) (by omega) (by omega)
/-- common divisors -/
def gcF : Nat → Nat → Nat → Nat
  | 0, a, _ => a
  | f + 1, a, b => if b = 0 then a else gcF f b (a % b)
theorem gcF_pos : ∀ (f a b : Nat), (0 < a ∨ 0 < b) → b < f → 0 < gcF f a b := by
  intro f
  induction f with
  | zero => intro a b _ h; omega
  | succ f ih =>
    intro a b h hb
    show 0 < if b = 0 then a else gcF f b (a % b)
    by_cases z : b = 0
    · rw [if_pos z]; omega
    · rw [if_neg z]
      have := Nat.mod_lt a (show 0 < b by omega)
      exact ih b (a % b) (Or.inl (by omega)) (by omega)
theorem gcF_lt : ∀ (f a b B : Nat), a < B → b < B → gcF f a b < B := by
  intro f
  induction f with
  | zero => intro a b B h _; exact h
  | succ f ih =>
    intro a b B h hb
    show (if b = 0 then a else gcF f b (a % b)) < B
    by_cases z : b = 0
    · rw [if_pos z]; exact h
    · rw [if_neg z]
      have := Nat.mod_lt a (show 0 < b by omega)
      exact ih b (a % b) B hb (by omega)
variable {d : Nat} {E : qE} {w w1 w2 : qW} {kk : Nat → List Cl} {n : Nat}
theorem h_cd {Q : qW → Int32 → Prop} (hw : Sh w) : ∀ (f a b s : Nat), b < f → s + f ≤ 100 → a < 1000000 → b < 1000000 → Q w (nI (gcF f a b)) → c_Qu_commonDivisor_7 d E Q (nI a) (nI b) (nI s) w := by
  intro f
  induction f with
  | zero => intro a b s h; omega
  | succ f ih =>
    intro a b s hb hs ha hb2 hQ
    have hQ' : Q w (nI (if b = 0 then a else gcF f b (a % b))) := hQ
    refine s_Qu_commonDivisor_7 hw ⟨fun z => absurd z (by rw [show (100 : Int32) = nI 100 from rfl, nle (by omega) (by omega)]; omega), fun _ => ⟨fun z => ?_, fun z => ?_⟩⟩
    · have : b = 0 := by
        have := (nle (a := b) (b := 0) hb2 (by omega)).mp z
        omega
      rw [if_pos this] at hQ'
      exact hQ'
    · have hb0 : ¬ b = 0 := fun q => z (by rw [q]; decide)
      have := Nat.mod_lt a (show 0 < b by omega)
      rw [if_neg hb0] at hQ'
      rw [pk_rem (by omega) (by omega) (by omega), n1]
      exact ⟨fun q => hb0 ((neq (b := 0) hb2 (by omega)).mp q), ih b (a % b) (s + 1) (by omega) (by omega) hb2 (by omega) hQ'⟩
theorem h_md {Q : qW → Int32 → Prop} (hw : Sh w) : ∀ (f a b : Nat), b < f → a < 1000000 → b < 1000000 → Q w (nI (gcF f a b)) → c_Mo_divisor_14 d E Q (nI a) (nI b) w := by
  intro f
  induction f with
  | zero => intro a b h; omega
  | succ f ih =>
    intro a b hb ha hb2 hQ
    have hQ' : Q w (nI (if b = 0 then a else gcF f b (a % b))) := hQ
    have eb : nI b = 0 ↔ b = 0 := neq (b := 0) hb2 (by omega)
    refine s_Mo_divisor_14 hw ⟨fun z => ?_, fun z => ?_⟩
    · rw [if_pos (eb.mp z)] at hQ'
      exact hQ'
    · have hb0 : ¬ b = 0 := fun q => z (eb.mpr q)
      have := Nat.mod_lt a (show 0 < b by omega)
      rw [if_neg hb0] at hQ'
      rw [pk_rem (by omega) (by omega) (by omega)]
      exact ⟨z, ih b (a % b) (by omega) hb2 (by omega) hQ'⟩
/-- how far from 0 -/
def awy (x : Int32) : Nat := x.toInt.natAbs
theorem awy_p {x : Int32} {n : Nat} (h : bd x n) (hn : n < 1000000) (h0 : 0 ≤ x) : x = nI (awy x) := by
  refine Int32.toInt_inj.mp ?_
  obtain ⟨a1, a2⟩ := h
  rw [Int32.le_iff_toInt_le] at h0
  have e0 : (0 : Int32).toInt = 0 := rfl
  unfold awy
  rw [nI_toInt (by omega)]
  omega
theorem awy_n {x : Int32} {n : Nat} (h : bd x n) (hn : n < 1000000) (h0 : ¬ 0 ≤ x) : -x = nI (awy x) := by
  refine Int32.toInt_inj.mp ?_
  obtain ⟨a1, a2⟩ := h
  rw [Int32.le_iff_toInt_le] at h0
  have e0 : (0 : Int32).toInt = 0 := rfl
  unfold awy
  rw [Int32.toInt_neg, bm (by omega) (by omega), nI_toInt (by omega)]
  omega
theorem awy_lt {x : Int32} {n : Nat} (h : bd x n) : awy x ≤ n := by
  obtain ⟨a1, a2⟩ := h
  unfold awy
  omega
def frF (x : Int32) (b part : Nat) : Int64 := if part = 0 then ((x / nI (gcF 7 (awy x) b)) : Int32).toInt64 else ((nI b / nI (gcF 7 (awy x) b)) : Int32).toInt64
theorem gc_ne {x : Int32} {n b : Nat} (hx : bd x n) (hn : n < 1000000) (hb : 1 ≤ b) (hb6 : b ≤ 6) : ¬ nI (gcF 7 (awy x) b) = 0 := by
  have h1 := gcF_pos 7 (awy x) b (Or.inr (by omega)) (by omega)
  have h2 := awy_lt hx
  have h3 := gcF_lt 7 (awy x) b 1000000 (by omega) (by omega)
  intro q
  have := (neq (b := 0) h3 (by omega)).mp q
  omega
theorem p_frac {Q : qW → Int64 → Prop} {x : Int32} {n b part : Nat} (hw : Sh w) (hx : bd x n) (hn : n < 1000000) (hb : 1 ≤ b) (hb6 : b ≤ 6) (hp : part ≤ 1) (hQ : Q w (frF x b part)) : CaL (d + 1) M_Qu_fraction [.int x, .int (nI b), .int (nI part)] E w Q := by
  have hne := gc_ne hx hn hb hb6
  have ha := awy_lt hx
  have ep : nI part = 0 ↔ part = 0 := neq (b := 0) (by omega) (by omega)
  have fin : (¬ nI (gcF 7 (awy x) b) = 0 → (((¬ nI part = 0) → ((¬ nI (gcF 7 (awy x) b) = 0) ∧ (Q w (((nI b / nI (gcF 7 (awy x) b)) : Int32).toInt64)))) ∧ ((nI part = 0) → ((¬ nI (gcF 7 (awy x) b) = 0) ∧ (Q w (((x / nI (gcF 7 (awy x) b)) : Int32).toInt64)))))) ∧ (nI (gcF 7 (awy x) b) = 0 → (Q w (-9223372036854775808))) := by
    unfold frF at hQ
    refine ⟨fun _ => ⟨fun z => ⟨hne, ?_⟩, fun z => ⟨hne, ?_⟩⟩, fun z => absurd z hne⟩
    · rw [if_neg (fun q => z (ep.mpr q))] at hQ
      exact hQ
    · rw [if_pos (ep.mp z)] at hQ
      exact hQ
  refine en_Qu_fraction hw (s_Qu_fraction_0 hw (en_Jm_abs hw (s_Jm_abs_0 hw ⟨fun z => ?_, fun z => ?_⟩)))
  · refine en_Qu_commonDivisor hw (s_Qu_commonDivisor_0 hw ?_)
    have e := awy_p hx hn z
    have := h_cd (d := d) (E := E) (Q := fun w2 x2 => (¬ x2 = 0 → (((¬ nI part = 0) → ((¬ x2 = 0) ∧ (Q w2 (((nI b / x2) : Int32).toInt64)))) ∧ ((nI part = 0) → ((¬ x2 = 0) ∧ (Q w2 (((x / x2) : Int32).toInt64)))))) ∧ (x2 = 0 → (Q w2 (-9223372036854775808)))) hw 7 (awy x) b 0 (by omega) (by omega) (by omega) (by omega) fin
    rw [← e] at this
    exact this
  · refine en_Qu_commonDivisor hw (s_Qu_commonDivisor_0 hw ?_)
    rw [awy_n hx hn z]
    exact h_cd hw 7 (awy x) b 0 (by omega) (by omega) (by omega) (by omega) fin
theorem p_lowest {Q : qW → Int64 → Prop} {x : Int32} {n b part : Nat} (hw : Sh w) (hx : bd x n) (hn : n < 1000000) (hb : 1 ≤ b) (hb6 : b ≤ 6) (hp : part ≤ 1) (hQ : Q w (frF x b part)) : CaL (d + 1) M_Mo_lowest [.ref (qb E + 115), .int x, .int (nI b), .int (nI part)] E w Q := by
  have hne := gc_ne hx hn hb hb6
  have ha := awy_lt hx
  have ep : nI part = 0 ↔ part = 0 := neq (b := 0) (by omega) (by omega)
  have fin : ((¬ nI part = 0) → ((¬ nI (gcF 7 (awy x) b) = 0) ∧ (Q w (((nI b / nI (gcF 7 (awy x) b)) : Int32).toInt64)))) ∧ ((nI part = 0) → ((¬ nI (gcF 7 (awy x) b) = 0) ∧ (Q w (((x / nI (gcF 7 (awy x) b)) : Int32).toInt64)))) := by
    unfold frF at hQ
    refine ⟨fun z => ⟨hne, ?_⟩, fun z => ⟨hne, ?_⟩⟩
    · rw [if_neg (fun q => z (ep.mpr q))] at hQ
      exact hQ
    · rw [if_pos (ep.mp z)] at hQ
      exact hQ
  refine en_Mo_lowest hw (s_Mo_lowest_0 hw (en_Mo_divisor hw (s_Mo_divisor_0 hw ⟨fun z => ?_, fun z => ?_⟩)))
  · have e := awy_p hx hn z
    have := h_md (d := d) (E := E) (Q := fun w1 x1 => ((¬ nI part = 0) → ((¬ x1 = 0) ∧ (Q w1 (((nI b / x1) : Int32).toInt64)))) ∧ ((nI part = 0) → ((¬ x1 = 0) ∧ (Q w1 (((x / x1) : Int32).toInt64))))) hw 7 (awy x) b (by omega) (by omega) (by omega) fin
    rw [← e] at this
    exact this
  · rw [awy_n hx hn z]
    exact h_md hw 7 (awy x) b (by omega) (by omega) (by omega) fin
theorem J.okc (h : J kk n w) : (∀ c ∈ kc kk w, okC c) ∧ (kc kk w).length ≤ 10 := by
  obtain ⟨kc1, K, kx, kr⟩ := h.kcs
  exact ⟨kx.2.1, kc1.bg.1⟩
theorem pr_mean : pair_mean E (I E) := by
  intro d w a1 hw hI
  obtain ⟨kk, n, hJ⟩ := id hI
  obtain ⟨c, c1, c2, c3, c4⟩ := hJ.cn
  have hP : PX 15 w = PM w := hJ.1.1
  have h6 := pop_6 (bsP (PM w) 1)
  have e0 : nI (pop (bsP (PM w) 1)) = 0 ↔ pop (bsP (PM w) 1) = 0 := neq (b := 0) (by omega) (by omega)
  refine en_Qu_mean hw (s_Qu_mean_0 hw (p_Pa_howMany hw pan15 hJ.xo ?_))
  rw [hP]
  rcases rng (x := a1) 0 1 (by omega) (by omega) with h1 | ⟨m, -, h1, rfl⟩
  · exact p_wo hw h1 (f2 (en_Mo_mean hw (s_Mo_mean_0 hw (p_setOf hw hJ.1.2.1 (p_bits hw (bsP_lt 1 hJ.1.2.1) (p_mo hw h1 (f2 ⟨rfl, hI⟩)))))))
  refine p_wi (a := 0) (b := 1) hw (by omega) h1 (t2 ⟨fun z => ?_, fun z => ?_⟩)
  · obtain ⟨kc1, K, kx, kr⟩ := hJ.kcs
    obtain ⟨okc, okl⟩ := hJ.okc
    have hb : 1 ≤ pop (bsP (PM w) 1) := by
      rcases Nat.eq_zero_or_pos (pop (bsP (PM w) 1)) with q | q
      · exact absurd (e0.mpr q) z
      · exact q
    refine p_Pa_together hw pan15 hJ.xo (by omega) kx kr (fun w1 x hw1 hf1 hx => ?_)
    have hxb : bd x 18000 := by
      rw [hx, hP, c4]
      exact (al_bd hJ.1.2.1 (Nat.le_refl _) (Nat.le_refl _) okc okl c c1).mono (by omega)
    refine p_frac hw1 hxb (by omega) hb h6 h1 ?_
    obtain ⟨hJ1, eP⟩ := hJ.fac hf1
    obtain ⟨c', c1', c2', c3', c4'⟩ := hJ1.cn
    obtain ⟨t, ht, htn⟩ := hJ1.1.2.1.2.2.2.2.1
    have htn' : qi w1 115 3 = nI t := htn
    have ek : kc kk w1 = kc kk w := by unfold kc; rw [(hf1 115 13 (by unfold jFac; omega)).1]
    refine en_Mo_mean hw1 (s_Mo_mean_0 hw1 (p_setOf hw1 hJ1.1.2.1 (p_bits hw1 (bsP_lt 1 hJ1.1.2.1) (p_mi (a := 0) (b := 1) hw1 (by omega) h1 (t2 ?_)))))
    rw [eP, hP]
    refine ⟨fun y => absurd y ?_, fun _ => p_Mo_allGive hw1 c1' c3' (by omega) htn' hJ1.kcs.1 (fun w2 y hw2 hf2 hy => ?_)⟩
    · rw [show (0 : Int32) = nI 0 from rfl, nle (by omega) (by omega)]
      omega
    have exy : y = x := by rw [hx, hy, ek, ← c4', eP]
    rw [exy]
    exact p_lowest hw2 hxb (by omega) hb h6 h1 ⟨rfl, kk, n, hJ1.pl hf2⟩
  · refine en_Mo_mean hw (s_Mo_mean_0 hw (p_setOf hw hJ.1.2.1 (p_bits hw (bsP_lt 1 hJ.1.2.1) (p_mi (a := 0) (b := 1) hw (by omega) h1 (t2 ⟨fun _ => ⟨rfl, hI⟩, fun y => absurd ?_ y⟩)))))
    rw [z]
    decide
theorem y_odds {Q : qW → Int64 → Prop} {k : List Cl} {w0 : qW} {N : Nat} {b : Int32} (h : MA k w0 w) (hN : N ≤ 60) (hQ : ∀ w1, MA k w0 w1 → (pop (bsP (nmP (PM w0)) 0) = 0 → Q w1 (-9223372036854775808)) ∧ (¬ pop (bsP (nmP (PM w0)) 0) = 0 → CaL (d + 7) M_Mo_lowest [.ref (qb E + 115), .int (nI (chF (bsP (nmP (PM w0)) 0) (SB k N (nmP (PM w0))) 6)), .int (nI (pop (bsP (nmP (PM w0)) 0))), .int b] E w1 Q)) : c_Mo_odds_33 d E Q (nI N) b 0 0 0 w := by
  have h0 := h_odds (d := d) (E := E) (Q := Q) (b := b) hN hQ (cN (nmP (PM w0))) 0 w (by omega) h
  rw [show nI (chF (bsP (nmP (PM w0)) 0) (SB k N (nmP (PM w0))) 0) = 0 from rfl, show nI (pop (stN (nmP (PM w0)) 0 0)) = 0 from (by show nI (pop 0) = 0; decide)] at h0
  exact h0
theorem pr_odds : pair_odds E (I E) := by
  intro d w a1 a2 hw hI
  obtain ⟨kk, n, hJ⟩ := id hI
  obtain ⟨c, c1, c2, c3, c4⟩ := hJ.cn
  have hP : PX 15 w = PM w := hJ.1.1
  have h6 := pop_6 (bsP (PM w) 0)
  have e0 : nI (pop (bsP (PM w) 0)) = 0 ↔ pop (bsP (PM w) 0) = 0 := neq (b := 0) (by omega) (by omega)
  refine en_Qu_odds hw (s_Qu_odds_0 hw (p_Pa_howMany hw pan15 hJ.xo ?_))
  rw [hP]
  rcases rng (x := a1) 0 20 (by omega) (by omega) with h1 | ⟨N, -, h1, rfl⟩
  · exact p_wo hw h1 (f2 (en_Mo_odds hw (s_Mo_odds_0 hw (p_mo hw h1 (f2 ⟨rfl, hI⟩)))))
  refine p_wi (a := 0) (b := 20) hw (by omega) h1 (t2 ?_)
  rcases rng (x := a2) 0 1 (by omega) (by omega) with h2 | ⟨m, -, h2, rfl⟩
  · exact p_wo hw h2 (f2 (en_Mo_odds hw (s_Mo_odds_0 hw (p_mi (a := 0) (b := 20) hw (by omega) h1 (t2 (p_mo hw h2 (f1 ⟨rfl, hI⟩)))))))
  refine p_wi (a := 0) (b := 1) hw (by omega) h2 (t2 ?_)
  refine ⟨fun z => x_chances (hJ.xa hw) (by omega) (fun w1 h3 => ?_), fun z => ?_⟩
  · have hb : 1 ≤ pop (bsP (PM w) 0) := by
      rcases Nat.eq_zero_or_pos (pop (bsP (PM w) 0)) with q | q
      · exact absurd (e0.mpr q) z
      · exact q
    have hx : ∀ (u : Nat) (S : Nat → Bool), bd (nI (chF u S 6)) 6 := fun u S => bd.nat (chF_le u S 6) (by omega)
    refine p_frac h3.1 (hx _ _) (by omega) hb h6 h2 ?_
    obtain ⟨hJ1, eP, mc⟩ := hJ.ya h3.ya
    refine en_Mo_odds h3.1 (s_Mo_odds_0 h3.1 (p_mi (a := 0) (b := 20) h3.1 (by omega) h1 (t2 (p_mi (a := 0) (b := 1) h3.1 (by omega) h2 (t1 ?_)))))
    refine y_odds (N := N) (k := kc kk w) (w0 := w1) (MA.self h3.1 mc) (by omega) (fun w4 h4 => ⟨fun q => ?_, fun q => ?_⟩)
    · rw [nm_bsP, eP, hP] at q
      omega
    · rw [eP, nm_bsP]
      refine p_lowest h4.1 (hx _ _) (by omega) (by rw [hP]; exact hb) (by rw [hP]; exact h6) h2 ⟨?_, kk, n, hJ1.za h4.za⟩
      rw [hP]
  · refine en_Mo_odds hw (s_Mo_odds_0 hw (p_mi (a := 0) (b := 20) hw (by omega) h1 (t2 (p_mi (a := 0) (b := 1) hw (by omega) h2 (t1 ?_)))))
    refine y_odds (N := N) (k := kc kk w) (w0 := w) (hJ.ma hw) (by omega) (fun w4 h4 => ⟨fun _ => ⟨rfl, kk, n, hJ.za h4.za⟩, fun q => absurd (e0.mp z) ?_⟩)
    rw [nm_bsP] at q
    exact q
end PF
