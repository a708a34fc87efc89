/-! pans: changes, ranges, times cut at 9 -/
section P2
def sA (p : Pn) (i a : Nat) (x : Int32) : Pn := (pc p, pf p, pk p, ps p, pm p, pr p, upA (pa p) i a x)
def sF (p : Pn) (x : Int32) : Pn := (pc p, x, pk p, ps p, pm p, pr p, pa p)
def sK (p : Pn) (x : Int32) : Pn := (pc p, pf p, x, ps p, pm p, pr p, pa p)
/-- put in; said -/
def puP (i : Nat) (p : Pn) : Pn := sA (sA p i 4 1) i 5 0
def coS (p : Pn) (i : Nat) : Int32 := if ps p = 0 then (if pk p < 10 * pa p i 2 then 0 else pk p - 10 * pa p i 2) else pk p
def spP (i : Nat) (p : Pn) : Pn := sK (sA p i 4 2) (coS p i)
def rg (x : Int32) (n : Nat) : Prop := ∃ a : Nat, a ≤ n ∧ x = nI a
theorem rg.mono {x : Int32} {n m : Nat} (h : rg x n) (hm : n ≤ m) : rg x m := by
  obtain ⟨a, h1, h2⟩ := h
  exact ⟨a, by omega, h2⟩
theorem rg.lit (n : Nat) : rg (nI n) n := ⟨n, Nat.le_refl _, rfl⟩
def okT6 (T : Nat) (f : Nat → Int32) (i : Nat) : Prop := rg (f 0) 6 ∧ rg (f 1) 9 ∧ rg (f 2) 20 ∧ rg (f 3) 1 ∧ rg (f 4) 2 ∧ rg (f 5) T ∧ (∀ b, b < 4 → rg (f (6 + b)) 9) ∧ f 10 = nI i
def okR (M T : Nat) (p : Pn) : Prop := rg (pc p) 6 ∧ rg (pf p) 9 ∧ rg (pk p) 99999 ∧ (ps p = 0 ∨ ps p = 1) ∧ rg (pm p) M ∧ ∀ i, i < 6 → okT6 T (pa p i) i
theorem okR.mono {M T M' T' : Nat} {p : Pn} (h : okR M T p) (hM : M ≤ M') (hT : T ≤ T') : okR M' T' p := by
  obtain ⟨h1, h2, h3, h4, h5, h6⟩ := h
  refine ⟨h1, h2, h3, h4, h5.mono hM, fun i hi => ?_⟩
  obtain ⟨a0, a1, a2, a3, a4, a5, a6, a7⟩ := h6 i hi
  exact ⟨a0, a1, a2, a3, a4, a5.mono hT, a6, a7⟩
theorem okR.c {M T : Nat} {p : Pn} (h : okR M T p) : ∃ c, c ≤ 6 ∧ pc p = nI c ∧ cN p = c := by
  obtain ⟨a, h1, h2⟩ := h.1
  exact ⟨a, h1, h2, by unfold cN; rw [h2, ncl (by omega)]⟩
theorem upA_eq {f : Nat → Nat → Int32} {i a : Nat} {x : Int32} : upA f i a x i a = x := by simp [upA]
theorem upA_a {f : Nat → Nat → Int32} {i a j b : Nat} {x : Int32} (h : b ≠ a) : upA f i a x j b = f j b := by simp [upA, h]
theorem upA_i {f : Nat → Nat → Int32} {i a j b : Nat} {x : Int32} (h : j ≠ i) : upA f i a x j b = f j b := by simp [upA, h]
theorem okT6_up {T : Nat} {f : Nat → Nat → Int32} {i a : Nat} {x : Int32} (h : ∀ j, j < 6 → okT6 T (f j) j) (hx : ∀ (b : Nat), b = a → (b = 0 → rg x 6) ∧ (b = 1 → rg x 9) ∧ (b = 2 → rg x 20) ∧ (b = 3 → rg x 1) ∧ (b = 4 → rg x 2) ∧ (b = 5 → rg x T) ∧ (6 ≤ b → rg x 9) ∧ b ≠ 10) : ∀ j, j < 6 → okT6 T (upA f i a x j) j := by
  intro j hj
  obtain ⟨a0, a1, a2, a3, a4, a5, a6, a7⟩ := h j hj
  obtain ⟨x0, x1, x2, x3, x4, x5, x6, x7⟩ := hx a rfl
  have key : ∀ (b n : Nat), rg (f j b) n → (b = a → rg x n) → rg (upA f i a x j b) n := by
    intro b n hb hq
    unfold upA
    split
    · rename_i z; exact hq z.2
    · exact hb
  exact ⟨key 0 6 a0 (fun z => x0 z.symm), key 1 9 a1 (fun z => x1 z.symm), key 2 20 a2 (fun z => x2 z.symm), key 3 1 a3 (fun z => x3 z.symm), key 4 2 a4 (fun z => x4 z.symm), key 5 T a5 (fun z => x5 z.symm), fun b hb => key (6 + b) 9 (a6 b hb) (fun z => x6 (by omega)), by rw [upA_a (Ne.symm x7)]; exact a7⟩
theorem okR_sA {M T : Nat} {p : Pn} {i a : Nat} {x : Int32} (h : okR M T p) (hx : ∀ (b : Nat), b = a → (b = 0 → rg x 6) ∧ (b = 1 → rg x 9) ∧ (b = 2 → rg x 20) ∧ (b = 3 → rg x 1) ∧ (b = 4 → rg x 2) ∧ (b = 5 → rg x T) ∧ (6 ≤ b → rg x 9) ∧ b ≠ 10) : okR M T (sA p i a x) :=
  ⟨h.1, h.2.1, h.2.2.1, h.2.2.2.1, h.2.2.2.2.1, okT6_up h.2.2.2.2.2 hx⟩
theorem okR_pu {M T : Nat} {p : Pn} {i : Nat} (h : okR M T p) : okR M T (puP i p) :=
  okR_sA (okR_sA h (fun b hb => by subst hb; refine ⟨?_, ?_, ?_, ?_, ?_, ?_, ?_, ?_⟩ <;> intro z <;> first | omega | exact ⟨1, by omega, rfl⟩)) (fun b hb => by subst hb; refine ⟨?_, ?_, ?_, ?_, ?_, ?_, ?_, ?_⟩ <;> intro z <;> first | omega | exact ⟨0, by omega, rfl⟩)
theorem okR_w {M T : Nat} {p : Pn} {i n : Nat} (h : okR M T p) (hn : n ≤ 20) : okR M T (sA p i 2 (nI n)) :=
  okR_sA h (fun b hb => by subst hb; refine ⟨?_, ?_, ?_, ?_, ?_, ?_, ?_, ?_⟩ <;> intro z <;> first | omega | exact ⟨n, by omega, rfl⟩)
theorem okR_v {M T : Nat} {p : Pn} {i n : Nat} (h : okR M T p) (hn : n ≤ 9) : okR M T (sA p i 1 (nI n)) :=
  okR_sA h (fun b hb => by subst hb; refine ⟨?_, ?_, ?_, ?_, ?_, ?_, ?_, ?_⟩ <;> intro z <;> first | omega | exact ⟨n, by omega, rfl⟩)
theorem okR_F {M T : Nat} {p : Pn} {x : Int32} (h : okR M T p) (hx : rg x 9) : okR M T (sF p x) := ⟨h.1, hx, h.2.2.1, h.2.2.2.1, h.2.2.2.2.1, h.2.2.2.2.2⟩
theorem okR_K {M T : Nat} {p : Pn} {x : Int32} (h : okR M T p) (hx : rg x 99999) : okR M T (sK p x) := ⟨h.1, h.2.1, hx, h.2.2.2.1, h.2.2.2.2.1, h.2.2.2.2.2⟩
theorem ten_w {x : Int32} (h : rg x 20) : ∃ a : Nat, a ≤ 20 ∧ 10 * x = nI (10 * a) := by
  obtain ⟨a, h1, rfl⟩ := h
  exact ⟨a, h1, pk_mul 10 a⟩
theorem coS_rg {M T : Nat} {p : Pn} {i : Nat} (h : okR M T p) (hi : i < 6) : rg (coS p i) 99999 := by
  obtain ⟨h1, h2, ⟨k, h3, h3'⟩, h4, h5, h6⟩ := h
  unfold coS
  split
  · obtain ⟨a, e1, e2⟩ := ten_w (h6 i hi).2.2.1
    rw [e2, h3']
    split
    · exact ⟨0, by omega, rfl⟩
    · rename_i z
      rw [nlt (by omega) (by omega)] at z
      rw [pk_sub (by omega)]
      exact ⟨k - 10 * a, by omega, rfl⟩
  · exact ⟨k, h3, h3'⟩
theorem okR_sp {M T : Nat} {p : Pn} {i : Nat} (h : okR M T p) (hi : i < 6) : okR M T (spP i p) :=
  okR_K (okR_sA h (fun b hb => by subst hb; refine ⟨?_, ?_, ?_, ?_, ?_, ?_, ?_, ?_⟩ <;> intro z <;> first | omega | exact ⟨2, by omega, rfl⟩)) (coS_rg h hi)
def mnc (cap x : Int32) : Int32 := if cap ≤ x + 1 then cap else x + 1
theorem tm_get (cap : Int32) (p : Pn) (i a : Nat) : ∀ n, tmP cap p n i a = if a = 5 ∧ i < n ∧ pa p i 4 = 1 then mnc cap (pa p i 5) else pa p i a := by
  intro n
  induction n with
  | zero => rw [if_neg (by omega)]; rfl
  | succ n ih =>
    show (if pa p n 4 = 1 then upA (tmP cap p n) n 5 (mnc cap (pa p n 5)) else tmP cap p n) i a = _
    by_cases hq : pa p n 4 = 1
    · rw [if_pos hq]
      unfold upA
      by_cases hz : i = n ∧ a = 5
      · obtain ⟨rfl, rfl⟩ := hz
        rw [if_pos ⟨rfl, rfl⟩, if_pos ⟨rfl, by omega, hq⟩]
      · rw [if_neg hz, ih]
        by_cases hy : a = 5 ∧ i < n ∧ pa p i 4 = 1
        · rw [if_pos hy, if_pos ⟨hy.1, by omega, hy.2.2⟩]
        · rw [if_neg hy, if_neg (fun y => by
            by_cases hin : i = n
            · exact hz ⟨hin, y.1⟩
            · exact hy ⟨y.1, by omega, y.2.2⟩)]
    · rw [if_neg hq, ih]
      by_cases hy : a = 5 ∧ i < n ∧ pa p i 4 = 1
      · rw [if_pos hy, if_pos ⟨hy.1, by omega, hy.2.2⟩]
      · rw [if_neg hy, if_neg (fun y => by
          by_cases hin : i = n
          · rw [hin] at y; exact hq y.2.2
          · exact hy ⟨y.1, by omega, y.2.2⟩)]
theorem co_rg {M T : Nat} {p : Pn} {ad : (Nat → Int32) → Int32} (h : okR M T p) : rg (coP ad p) 99999 := by
  unfold coP
  split
  · exact h.2.2.1
  · split
    · rename_i h0
      split
      · exact ⟨99999, by omega, rfl⟩
      · rename_i h1
        obtain ⟨j, hj, e⟩ := nI_of (Int32.not_lt.mpr h0)
        rw [e] at h1 ⊢
        rw [show (99999 : Int32) = nI 99999 from rfl, nI_leI (by omega) (by omega)] at h1
        exact ⟨j, by omega, rfl⟩
    · exact ⟨0, by omega, rfl⟩
theorem okR_mi {M T T' C : Nat} {p : Pn} {cap nd : Int32} {ad : (Nat → Int32) → Int32} (h : okR M T p) (hcap : cap = nI C) (hC : C < 2 ^ 31) (hT : T ≤ T') (hT' : T + 1 ≤ T' ∨ C ≤ T') (hTb : T ≤ 100000) : okR (M + 1) T' (miP cap ad nd p) := by
  have hco := co_rg (ad := ad) h
  obtain ⟨h1, h2, h3, h4, ⟨m, h5, h5'⟩, h6⟩ := h
  refine ⟨h1, h2, hco, ?_, ⟨m + 1, by omega, by show pm p + 1 = _; rw [h5', n1]⟩, fun i hi => ?_⟩
  · show seP ad nd p = 0 ∨ seP ad nd p = 1
    unfold seP
    split
    · exact h4
    · split
      · exact Or.inl rfl
      · exact Or.inr rfl
  · obtain ⟨a0, a1, a2, a3, a4, ⟨t, a5, a5'⟩, a6, a7⟩ := h6 i hi
    have e : ∀ a, a ≠ 5 → pa (miP cap ad nd p) i a = pa p i a := fun a ha => by
      show tmP cap p (cN p) i a = _
      rw [tm_get, if_neg (fun z => ha z.1)]
    refine ⟨by rw [e 0 (by omega)]; exact a0, by rw [e 1 (by omega)]; exact a1, by rw [e 2 (by omega)]; exact a2, by rw [e 3 (by omega)]; exact a3, by rw [e 4 (by omega)]; exact a4, ?_, fun b hb => by rw [e _ (by omega)]; exact a6 b hb, by rw [e 10 (by omega)]; exact a7⟩
    show rg (tmP cap p (cN p) i 5) T'
    rw [tm_get]
    split
    · rw [a5', hcap]
      unfold mnc
      rw [n1]
      split
      · rename_i hz
        rw [nI_leI (by omega) (by omega)] at hz
        exact ⟨C, by omega, rfl⟩
      · rename_i hz
        rw [nI_leI (by omega) (by omega)] at hz
        exact ⟨t + 1, by omega, rfl⟩
    · exact ⟨t, by omega, a5'⟩
/-- times cut at 9 -/
def m9 (x : Int32) : Int32 := if 9 ≤ x then 9 else x
def nmP (p : Pn) : Pn := (pc p, pf p, pk p, ps p, pm p, pr p, fun i a => if a = 5 then m9 (pa p i 5) else pa p i a)
theorem nm_a {p : Pn} {i a : Nat} (h : a ≠ 5) : pa (nmP p) i a = pa p i a := by
  show (if a = 5 then _ else _) = _
  rw [if_neg h]
theorem nm_5 {p : Pn} {i : Nat} : pa (nmP p) i 5 = m9 (pa p i 5) := rfl
theorem m9_nI {t : Nat} (h : t < 2 ^ 31) : m9 (nI t) = nI (min t 9) := by
  unfold m9
  have e : (9 : Int32) ≤ nI t ↔ 9 ≤ t := nI_leI (a := 9) (by omega) h
  by_cases h2 : 9 ≤ t
  · rw [if_pos (e.mpr h2), Nat.min_eq_right h2]; rfl
  · rw [if_neg (fun z => h2 (e.mp z)), Nat.min_eq_left (by omega)]
theorem m9_m9 (x : Int32) : m9 (m9 x) = m9 x := by
  unfold m9
  by_cases h : 9 ≤ x
  · rw [if_pos h]; rfl
  · rw [if_neg h, if_neg h]
theorem nm_saidB (p : Pn) (i : Nat) : ∀ n, saidB (nmP p) i n = saidB p i n := by
  intro n
  induction n with
  | zero => rfl
  | succ n ih =>
    show (saidB (nmP p) i n || _) = (saidB p i n || _)
    rw [ih, nm_a (by omega), nm_a (by omega), nm_a (by omega)]
theorem nm_fcP (p : Pn) (i : Nat) : fcP (nmP p) i = fcP p i := by
  funext f
  unfold fcP
  rw [nm_a (by omega), nm_a (by omega), nm_a (by omega), nm_a (by omega)]
  rfl
theorem nm_gvP (ad : (Nat → Int32) → Int32) (p : Pn) (i : Nat) : gvP ad (nmP p) i = gvP ad p i := by
  unfold gvP
  rw [nm_fcP, nm_a (i := i) (a := 0) (by omega), nm_a (i := i) (a := 1) (by omega), nm_a (i := i) (a := 2) (by omega), nm_5, show cN (nmP p) = cN p from rfl, nm_saidB, show pf (nmP p) = pf p from rfl, show pm (nmP p) = pm p from rfl, nm_a (i := i) (a := 6 + (pm p - pm p / 4 * 4).toNatClampNeg) (by omega)]
  have e : (if 9 ≤ m9 (pa p i 5) then 9 else m9 (pa p i 5)) = if 9 ≤ pa p i 5 then 9 else pa p i 5 := m9_m9 _
  rw [e]
theorem nm_alP (ad : (Nat → Int32) → Int32) (p : Pn) : ∀ n, alP ad (nmP p) n = alP ad p n := by
  intro n
  induction n with
  | zero => rfl
  | succ n ih =>
    show alP ad (nmP p) n + _ = alP ad p n + _
    rw [ih, nm_gvP, nm_a (by omega)]
theorem nm_coP (ad : (Nat → Int32) → Int32) (p : Pn) : coP ad (nmP p) = coP ad p := by
  unfold coP
  rw [nm_alP]
  rfl
theorem nm_seP (ad : (Nat → Int32) → Int32) (nd : Int32) (p : Pn) : seP ad nd (nmP p) = seP ad nd p := by
  unfold seP
  rw [nm_coP]
  rfl
theorem m9_cap {t C : Nat} (ht : t ≤ 100000) (hC : 9 ≤ C) (hC2 : C < 2 ^ 31) : m9 (mnc (nI C) (nI t)) = mnc 9 (m9 (nI t)) := by
  unfold mnc
  rw [n1, m9_nI (t := t) (by omega), n1]
  have e1 : nI C ≤ nI (t + 1) ↔ C ≤ t + 1 := nI_leI hC2 (by omega)
  have e2 : (9 : Int32) ≤ nI (min t 9 + 1) ↔ 9 ≤ min t 9 + 1 := nI_leI (a := 9) (by omega) (by omega)
  by_cases h : C ≤ t + 1
  · rw [if_pos (e1.mpr h), m9_nI hC2, Nat.min_eq_right hC]
    by_cases h2 : 9 ≤ min t 9 + 1
    · rw [if_pos (e2.mpr h2)]; rfl
    · exfalso; omega
  · rw [if_neg (fun z => h (e1.mp z)), m9_nI (by omega)]
    by_cases h2 : 9 ≤ min t 9 + 1
    · rw [if_pos (e2.mpr h2), show min (t + 1) 9 = 9 by omega]; rfl
    · rw [if_neg (fun z => h2 (e2.mp z))]; congr 1; omega
theorem nm_mi {M T C : Nat} {p : Pn} {cap nd : Int32} {ad : (Nat → Int32) → Int32} (h : okR M T p) (hT : T ≤ 100000) (hcap : cap = nI C) (hC : 9 ≤ C) (hC2 : C < 2 ^ 31) : nmP (miP cap ad nd p) = miP 9 ad nd (nmP p) := by
  obtain ⟨c, hc, -, hc'⟩ := h.c
  have h6 := h.2.2.2.2.2
  have e1 : coP ad (nmP p) = coP ad p := nm_coP ad p
  have e2 : seP ad nd (nmP p) = seP ad nd p := nm_seP ad nd p
  have e3 : pa (nmP (miP cap ad nd p)) = tmP 9 (nmP p) (cN p) := by
    funext i a
    rw [tm_get, nm_a (i := i) (a := 4) (by omega), nm_5]
    by_cases ha : a = 5
    · subst ha
      rw [nm_5]
      show m9 (tmP cap p (cN p) i 5) = _
      rw [tm_get]
      by_cases hy : i < cN p ∧ pa p i 4 = 1
      · rw [if_pos ⟨rfl, hy⟩, if_pos ⟨rfl, hy⟩]
        obtain ⟨t, a5, a5'⟩ := (h6 i (by omega)).2.2.2.2.2.1
        rw [a5', hcap]
        exact m9_cap (by omega) hC hC2
      · rw [if_neg (fun z => hy z.2), if_neg (fun z => hy z.2), nm_5]
    · rw [nm_a ha, if_neg (fun z => ha z.1), nm_a ha]
      show tmP cap p (cN p) i a = _
      rw [tm_get, if_neg (fun z => ha z.1)]
  show (pc p, pf p, coP ad p, seP ad nd p, pm p + 1, pr p, pa (nmP (miP cap ad nd p))) = (pc p, pf p, coP ad (nmP p), seP ad nd (nmP p), pm p + 1, pr p, tmP 9 (nmP p) (cN p))
  rw [e1, e2, e3]
theorem nm_pu {p : Pn} {i : Nat} : nmP (puP i p) = puP i (nmP p) := by
  have e : pa (nmP (puP i p)) = pa (puP i (nmP p)) := by
    funext j a
    show (if a = 5 then m9 (upA (upA (pa p) i 4 1) i 5 0 j 5) else upA (upA (pa p) i 4 1) i 5 0 j a) = upA (upA (pa (nmP p)) i 4 1) i 5 0 j a
    by_cases ha : a = 5
    · subst ha
      rw [if_pos rfl]
      by_cases hj : j = i
      · subst hj
        rw [upA_eq, upA_eq]
        rfl
      · rw [upA_i hj, upA_i hj, upA_i hj, upA_i hj]
        rfl
    · rw [if_neg ha, upA_a ha, upA_a ha]
      unfold upA
      rw [nm_a ha]
  show (pc p, pf p, pk p, ps p, pm p, pr p, pa (nmP (puP i p))) = (pc p, pf p, pk p, ps p, pm p, pr p, pa (puP i (nmP p)))
  rw [e]
theorem nm_sA {p : Pn} {i a : Nat} {x : Int32} (h : a ≠ 5) : nmP (sA p i a x) = sA (nmP p) i a x := by
  have e : pa (nmP (sA p i a x)) = pa (sA (nmP p) i a x) := by
    funext j b
    show (if b = 5 then m9 (upA (pa p) i a x j 5) else upA (pa p) i a x j b) = upA (pa (nmP p)) i a x j b
    by_cases hb : b = 5
    · subst hb
      rw [if_pos rfl, upA_a (Ne.symm h), upA_a (Ne.symm h)]
      rfl
    · rw [if_neg hb]
      unfold upA
      rw [nm_a hb]
  show (pc p, pf p, pk p, ps p, pm p, pr p, pa (nmP (sA p i a x))) = (pc p, pf p, pk p, ps p, pm p, pr p, pa (sA (nmP p) i a x))
  rw [e]
theorem nm_sp {p : Pn} {i : Nat} : nmP (spP i p) = spP i (nmP p) := by
  have e : coS (nmP p) i = coS p i := by
    unfold coS
    rw [nm_a (by omega)]
    rfl
  show nmP (sK (sA p i 4 2) (coS p i)) = sK (sA (nmP p) i 4 2) (coS (nmP p) i)
  rw [e, ← nm_sA (by omega)]
  rfl
theorem nm_F {p : Pn} {x : Int32} : nmP (sF p x) = sF (nmP p) x := rfl
/-- a minute as it is asked -/
def mi (k : List Cl) (p : Pn) : Pn := miP 9 (adK k) (ndK k) p
def it (k : List Cl) : Nat → Pn → Pn
  | 0, p => p
  | n + 1, p => it k n (mi k p)
theorem it_s (k : List Cl) (n : Nat) (p : Pn) : it k (n + 1) p = mi k (it k n p) := by
  induction n generalizing p with
  | zero => rfl
  | succ n ih => exact ih (mi k p)
theorem it_add (k : List Cl) (n m : Nat) (p : Pn) : it k (n + m) p = it k m (it k n p) := by
  induction n generalizing p with
  | zero => rw [Nat.zero_add]; rfl
  | succ n ih => rw [show n + 1 + m = (n + m) + 1 by omega]; exact ih (mi k p)
end P2
