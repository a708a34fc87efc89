/-! the model's pan: what all give, a minute -/
section MP
/-- a clause: 0 dark, 1 clear, 2 need; its number; its tokens -/
abbrev Cl : Type := Nat × Nat × List Tk
def okC (c : Cl) : Prop := c.1 ≤ 2 ∧ c.2.1 ≤ 99 ∧ (c.1 ≠ 2 → c.2.2.length ≤ 100 ∧ (∀ t ∈ c.2.2, okT t) ∧ ∀ fa, ∃ b, evT fa c.2.2 [] = some [b])
def evB (fa : Nat → Int32) (tk : List Tk) : Bool := match evT fa tk [] with | some (b :: _) => b | _ => false
def vC (c : Cl) (fa : Nat → Int32) : Int32 := if c.1 = 2 then 0 else if evB fa c.2.2 = true then (if c.1 = 0 then nI c.2.1 else -nI c.2.1) else 0
def adK : List Cl → (Nat → Int32) → Int32
  | [], _ => 0
  | c :: r, fa => vC c fa + adK r fa
def ndL : Int32 → List Cl → Int32
  | a, [] => a
  | a, c :: r => ndL (if c.1 = 2 then 10 * nI c.2.1 else a) r
def ndK (k : List Cl) : Int32 := ndL 60 k
/-- clause c of the model stands in place n -/
def CM (w : qW) (n : Nat) (c : Cl) : Prop := okC c ∧ qi w 125 n = nI c.1 ∧ qi w 126 n = nI c.2.1 ∧ (c.1 ≠ 2 → ∃ x, x + c.2.2.length ≤ 600 ∧ qi w 127 n = nI x ∧ qi w 128 n = nI (x + c.2.2.length) ∧ ∀ j t, c.2.2[j]? = some t → qi w 129 (x + j) = mcT t)
/-- kitchen f of the model -/
def KM (w : qW) (f : Nat) (k : List Cl) : Prop := f < 6 ∧ k.length ≤ 10 ∧ qi w 124 f = nI k.length ∧ ∀ n c, k[n]? = some c → CM w (10 * f + n) c
/-- the kitchen that holds -/
def KC (w : qW) (k : List Cl) : Prop := (qi w 115 13 = -1 ∧ k = []) ∨ ∃ f, qi w 115 13 = nI f ∧ KM w f k
theorem CM.fr {w w1 : qW} {n : Nat} {c : Cl} (g : ∀ k j : Nat, 124 ≤ k → k ≤ 129 → qi w1 k j = qi w k j) (h : CM w n c) : CM w1 n c := by
  obtain ⟨h1, h2, h3, h4⟩ := h
  refine ⟨h1, by rw [g _ _ (by omega) (by omega)]; exact h2, by rw [g _ _ (by omega) (by omega)]; exact h3, fun q => ?_⟩
  obtain ⟨x, a1, a2, a3, a4⟩ := h4 q
  exact ⟨x, a1, by rw [g _ _ (by omega) (by omega)]; exact a2, by rw [g _ _ (by omega) (by omega)]; exact a3, fun j t q => by rw [g _ _ (by omega) (by omega)]; exact a4 j t q⟩
theorem KM.fr {w w1 : qW} {f : Nat} {k : List Cl} (g : ∀ k j : Nat, 124 ≤ k → k ≤ 129 → qi w1 k j = qi w k j) (h : KM w f k) : KM w1 f k :=
  ⟨h.1, h.2.1, by rw [g _ _ (by omega) (by omega)]; exact h.2.2.1, fun n c q => (h.2.2.2 n c q).fr g⟩
theorem KC.fr {w w1 : qW} {k : List Cl} (g : ∀ k j : Nat, 124 ≤ k → k ≤ 129 → qi w1 k j = qi w k j) (e : qi w1 115 13 = qi w 115 13) (h : KC w k) : KC w1 k := by
  rcases h with ⟨h1, h2⟩ | ⟨f, h1, h2⟩
  · exact Or.inl ⟨e.trans h1, h2⟩
  · exact Or.inr ⟨f, e.trans h1, h2.fr g⟩
theorem KC.jpl {w w1 : qW} {k : List Cl} (h : KC w k) (f : Fr jPl w w1) : KC w1 k := h.fr (fun k j _ _ => (f k j (by unfold jPl; omega)).1) (f 115 13 (by unfold jPl; omega)).1
variable {d : Nat} {E : qE} {w : qW} {k : List Cl}
/-- where its clauses begin -/
def bgK (w : qW) : Nat := if 0 ≤ qi w 115 13 then 10 * (qi w 115 13).toNatClampNeg else 0
theorem KC.bg (h : KC w k) : k.length ≤ 10 ∧ bgK w + k.length ≤ 60 ∧ ∀ n c, k[n]? = some c → CM w (bgK w + n) c := by
  rcases h with ⟨h1, rfl⟩ | ⟨f, h1, h2, h3, h4, h5⟩
  · unfold bgK
    rw [h1]
    exact ⟨by simp, by decide, fun n c q => by simp at q⟩
  · have e : bgK w = 10 * f := by
      unfold bgK
      rw [h1, if_pos (nI_pos' (by omega)), ncl (by omega)]
    rw [e]
    exact ⟨h3, by omega, h5⟩
theorem p_Mo_begin {Q : qW → Int32 → Prop} (hw : Sh w) (hk : KC w k) (h : Q w (nI (bgK w))) : CaI d M_Mo_begin [.ref (qb E + 115)] E w Q := by
  refine en_Mo_begin hw (s_Mo_begin_0 hw ?_)
  rcases hk with ⟨h1, rfl⟩ | ⟨f, h1, h2, -⟩
  · unfold bgK at h
    rw [h1] at h ⊢
    exact ⟨fun z => absurd z (by decide), fun _ => h⟩
  · unfold bgK at h
    rw [h1, if_pos (nI_pos' (by omega)), ncl (by omega), ← pk_mul] at h
    rw [h1]
    exact ⟨fun _ => h, fun z => absurd (nI_pos' (by omega)) z⟩
theorem p_Mo_behind {Q : qW → Int32 → Prop} (hw : Sh w) (hk : KC w k) (h : Q w (nI (bgK w + k.length))) : CaI d M_Mo_behind [.ref (qb E + 115)] E w Q := by
  refine en_Mo_behind hw (s_Mo_behind_0 hw ?_)
  rcases hk with ⟨h1, rfl⟩ | ⟨f, h1, h2, h3, h4, -⟩
  · unfold bgK at h
    rw [h1] at h ⊢
    exact ⟨fun z => absurd z (by decide), fun _ => h⟩
  · unfold bgK at h
    rw [h1, if_pos (nI_pos' (by omega)), ncl (by omega), ← nI_add, ← pk_mul] at h
    rw [h1, ncl (by omega), h4]
    exact ⟨fun _ => ⟨nvp h2 (by omega), h⟩, fun z => absurd (nI_pos' (by omega)) z⟩
theorem evB_of {fa : Nat → Int32} {tk : List Tk} {b : Bool} (h : evT fa tk [] = some [b]) : evB fa tk = b := by unfold evB; rw [h]
theorem adK_acc (k : List Cl) (fa : Nat → Int32) (a : Int32) : a + adK k fa = a + adK k fa := rfl
theorem h_sum {Q : qW → Int32 → Prop} {i : Nat} (hi : i < 6) (hk : KC w k) (hQ : ∀ w1 x, Sh w1 → Fr jPl w w1 → x = pa (PM w) i 2 + adK k (fcP (PM w) i) → Q w1 x) :
    ∀ (r : List Cl) (n : Nat) (a : Int32) (w1 : qW), Sh w1 → Fr jPl w w1 → n + r.length = k.length → (∀ j, r[j]? = k[n + j]?) → a + adK r (fcP (PM w) i) = pa (PM w) i 2 + adK k (fcP (PM w) i) → c_Mo_sum_12 d E Q (nI i) a (nI (bgK w + n)) w1 := by
  obtain ⟨k1, k2, k3⟩ := hk.bg
  have ebg : ∀ {w1 : qW}, Fr jPl w w1 → bgK w1 = bgK w := fun hf => by unfold bgK; rw [(hf 115 13 (by unfold jPl; omega)).1]
  intro r
  induction r with
  | nil =>
    intro n a w1 hw1 hf hn hr ha
    refine s_Mo_sum_12 hw1 (p_Mo_behind hw1 (hk.jpl hf) ?_)
    rw [ebg hf]
    simp at hn
    refine ⟨fun _ => hQ w1 a hw1 hf ?_, fun z => absurd ?_ z⟩
    · rw [← ha]; simp [adK]
    · rw [nle (by omega) (by omega)]; omega
  | cons c r ih =>
    intro n a w1 hw1 hf hn hr ha
    simp only [List.length_cons] at hn
    have hc : k[n]? = some c := (hr 0).symm
    obtain ⟨⟨o1, o2, o3⟩, c1, c2, c3⟩ := k3 n c hc
    have g : ∀ {w2 : qW}, Fr jPl w w2 → ∀ a j : Nat, a ≠ 132 → qi w2 a j = qi w a j := fun hf a j h => (hf a j (by unfold jPl; omega)).1
    have hr' : ∀ j, r[j]? = k[n + 1 + j]? := fun j => by rw [show n + 1 + j = n + (j + 1) by omega, ← hr]; rfl
    have hin : vp_in (nI (bgK w + n)) 60 := nvp (by omega) (by omega)
    refine s_Mo_sum_12 hw1 (p_Mo_behind hw1 (hk.jpl hf) ?_)
    rw [ebg hf, ncl (by omega), g hf 125 _ (by omega), c1, n1]
    have next : ∀ (a' : Int32) (w2 : qW), Sh w2 → Fr jPl w w2 → a' = a + vC c (fcP (PM w) i) → c_Mo_sum_12 d E Q (nI i) a' (nI (bgK w + n + 1)) w2 := by
      intro a' w2 hw2 hf2 e
      refine ih (n + 1) a' w2 hw2 hf2 (by omega) hr' ?_
      rw [← ha, e]
      simp only [adK]
      rw [Int32.add_assoc]
    refine ⟨fun z => absurd z ?_, fun _ => ⟨hin, fun z => ?_, fun z => ?_⟩⟩
    · rw [nle (by omega) (by omega)]; omega
    · have e : c.1 = 2 := by
        have := (nlt (a := 1) (b := c.1) (by omega) (by omega)).mp z
        omega
      refine next a w1 hw1 hf ?_
      simp [vC, e]
    · have e : ¬ c.1 = 2 := fun q => z (by rw [q]; decide)
      obtain ⟨q1, q2, q3⟩ := o3 e
      obtain ⟨b, hb⟩ := q3 (fcP (PM w) i)
      obtain ⟨x, x1, x2, x3, x4⟩ := c3 e
      refine p_Mo_holds (b := b) (r := c.2.2) (x := x) hw1 (by omega) hi x1 q1 (by rw [g hf _ _ (by omega)]; exact x2) (by rw [g hf _ _ (by omega)]; exact x3) (fun j t hj => ⟨by rw [g hf _ _ (by omega)]; exact x4 j t hj, q2 t (List.mem_of_getElem? hj)⟩) (by rw [PM_of hf]; exact hb) (fun w2 hw2 hf2 => ?_)
      have hf3 := hf.tr hf2
      have hv : vC c (fcP (PM w) i) = if b = true then (if c.1 = 0 then nI c.2.1 else -nI c.2.1) else 0 := by
        unfold vC
        rw [if_neg e, evB_of hb]
      rw [g hf3 125 _ (by omega), g hf3 126 _ (by omega), c1, c2]
      refine ⟨fun y => ⟨hin, fun u => ⟨hin, next _ w2 hw2 hf3 ?_⟩, fun u => ⟨hin, next _ w2 hw2 hf3 ?_⟩⟩, fun y => next _ w2 hw2 hf3 ?_⟩
      · have hb2 : b = true := by cases b; exact absurd rfl y; rfl
        have h0 : ¬ c.1 = 0 := fun q => u (by rw [q]; rfl)
        rw [hv, if_pos hb2, if_neg h0]
      · have hb2 : b = true := by cases b; exact absurd rfl y; rfl
        have h0 : c.1 = 0 := (neq (a := c.1) (b := 0) (by omega) (by omega)).mp u
        rw [hv, if_pos hb2, if_pos h0]
      · have hb2 : ¬ b = true := by cases b; decide; exact absurd y (by decide)
        rw [hv, if_neg hb2, Int32.add_zero]
theorem p_Mo_sum {Q : qW → Int32 → Prop} {i : Nat} (hw : Sh w) (hi : i < 6) (hk : KC w k) (hQ : ∀ w1 x, Sh w1 → Fr jPl w w1 → x = pa (PM w) i 2 + adK k (fcP (PM w) i) → Q w1 x) : CaI (d + 2) M_Mo_sum [.ref (qb E + 115), .int (nI i)] E w Q := by
  refine en_Mo_sum hw (s_Mo_sum_0 hw ⟨nvp hi (by omega), p_Mo_begin hw hk ?_⟩)
  rw [ncl (by omega)]
  refine h_sum hi hk hQ k 0 _ w hw Fr.rf (by omega) (fun j => by rw [Nat.zero_add]) ?_
  have e : pa (PM w) i 2 = qi w 118 i := by
    show (if i < 6 then _ else _) = _
    rw [if_pos hi]
    rfl
  rw [e]
theorem h_need {Q : qW → Int32 → Prop} (hw : Sh w) (hk : KC w k) (hQ : Q w (ndK k)) :
    ∀ (r : List Cl) (n : Nat) (a : Int32), n + r.length = k.length → (∀ j, r[j]? = k[n + j]?) → ndL a r = ndK k → c_Mo_need_8 d E Q a (nI (bgK w + n)) w := by
  obtain ⟨k1, k2, k3⟩ := hk.bg
  intro r
  induction r with
  | nil =>
    intro n a hn hr ha
    refine s_Mo_need_8 hw (p_Mo_behind hw hk ?_)
    simp at hn
    refine ⟨fun _ => ?_, fun z => absurd ?_ z⟩
    · have : a = ndK k := ha
      rw [this]; exact hQ
    · rw [nle (by omega) (by omega)]; omega
  | cons c r ih =>
    intro n a hn hr ha
    simp only [List.length_cons] at hn
    have hc : k[n]? = some c := (hr 0).symm
    obtain ⟨⟨o1, o2, o3⟩, c1, c2, c3⟩ := k3 n c hc
    have hr' : ∀ j, r[j]? = k[n + 1 + j]? := fun j => by rw [show n + 1 + j = n + (j + 1) by omega, ← hr]; rfl
    have hin : vp_in (nI (bgK w + n)) 60 := nvp (by omega) (by omega)
    have ha' : ndL (if c.1 = 2 then 10 * nI c.2.1 else a) r = ndK k := ha
    refine s_Mo_need_8 hw (p_Mo_behind hw hk ?_)
    rw [ncl (by omega), c1, c2, n1]
    have e2 : nI c.1 = 2 ↔ c.1 = 2 := neq (a := c.1) (b := 2) (by omega) (by omega)
    refine ⟨fun z => absurd z ?_, fun _ => ⟨hin, fun z => ?_, fun z => ⟨hin, ?_⟩⟩⟩
    · rw [nle (by omega) (by omega)]; omega
    · rw [if_neg (fun q => z (e2.mpr q))] at ha'
      exact ih (n + 1) a (by omega) hr' ha'
    · rw [if_pos (e2.mp z)] at ha'
      exact ih (n + 1) _ (by omega) hr' ha'
theorem p_Mo_need {Q : qW → Int32 → Prop} (hw : Sh w) (hk : KC w k) (hQ : Q w (ndK k)) : CaI (d + 1) M_Mo_need [.ref (qb E + 115)] E w Q :=
  en_Mo_need hw (s_Mo_need_0 hw (p_Mo_begin hw hk (h_need hw hk hQ k 0 60 (by omega) (fun j => by rw [Nat.zero_add]) rfl)))
theorem saidB_mono {p : Pn} {i o : Nat} (h : saidB p i o = true) : ∀ c, o ≤ c → saidB p i c = true := by
  intro c hc
  induction c with
  | zero => rw [Nat.le_zero.mp hc] at h; exact h
  | succ c ih =>
    rcases Nat.lt_or_ge o (c + 1) with q | q
    · show (saidB p i c || _) = true
      rw [ih (by omega)]; rfl
    · rw [Nat.le_antisymm q hc]; exact h
theorem aM_6 {i a : Nat} (hi : i < 6) (ha : a < 6) : pa (PM w) i a = qi w (116 + a) i := by
  show (if i < 6 then (if a < 6 then _ else _) else _) = _
  rw [if_pos hi, if_pos ha]
theorem h_beside {Q : qW → Int32 → Prop} {i c : Nat} (hw : Sh w) (hi : i < 6) (hc : c ≤ 6) (hcn : qi w 115 0 = nI c) (hQ : Q w (bI (saidB (PM w) i c))) :
    ∀ (n o : Nat), o + n = c → saidB (PM w) i o = false → c_Mo_isSaidBeside_2 d E Q (nI i) (nI o) w := by
  intro n
  induction n with
  | zero =>
    intro o ho hs
    refine s_Mo_isSaidBeside_2 hw ⟨fun _ => ?_, fun z => absurd ?_ z⟩
    · rw [show o = c by omega] at hs
      rw [hs] at hQ
      exact hQ
    · rw [hcn, nle (by omega) (by omega)]; omega
  | succ n ih =>
    intro o ho hs
    have hin : vp_in (nI o) 6 := nvp (by omega) (by omega)
    have hin2 : vp_in (nI i) 6 := nvp (by omega) (by omega)
    have e3 := aM_6 (w := w) (i := o) (a := 3) (by omega) (by omega)
    have e3i := aM_6 (w := w) (i := i) (a := 3) (by omega) (by omega)
    have e4 := aM_6 (w := w) (i := o) (a := 4) (by omega) (by omega)
    have step : saidB (PM w) i (o + 1) = (decide (o ≠ i) && decide (qi w 119 o = qi w 119 i) && decide (qi w 120 o = 2)) := by
      show (saidB (PM w) i o || _) = _
      rw [hs, Bool.false_or, e3, e3i, e4]
    refine s_Mo_isSaidBeside_2 hw ⟨fun z => absurd z ?_, fun _ => ?_⟩
    · rw [hcn, nle (by omega) (by omega)]; omega
    rw [ncl (a := o) (by omega), ncl (a := i) (by omega), n1]
    refine ⟨fun z => ?_, fun z => ⟨hin, hin2, fun y => ?_, fun y => ⟨hin, fun u => ?_, fun u => ?_⟩⟩⟩
    · refine ih (o + 1) (by omega) ?_
      rw [step]
      have : o = i := (neq (by omega) (by omega)).mp z
      simp [this]
    · refine ih (o + 1) (by omega) ?_
      rw [step]
      simp [y]
    · refine ih (o + 1) (by omega) ?_
      rw [step]
      simp [u]
    · have h1 : saidB (PM w) i (o + 1) = true := by
        rw [step]
        have : ¬ o = i := fun q => z (by rw [q])
        simp [this, y, u]
      rw [saidB_mono h1 c (by omega)] at hQ
      exact hQ
theorem p_Mo_isSaidBeside {Q : qW → Int32 → Prop} {i c : Nat} (hw : Sh w) (hi : i < 6) (hc : c ≤ 6) (hcn : qi w 115 0 = nI c) (hQ : Q w (bI (saidB (PM w) i c))) : CaI d M_Mo_isSaidBeside [.ref (qb E + 115), .int (nI i)] E w Q :=
  en_Mo_isSaidBeside hw (s_Mo_isSaidBeside_0 hw (h_beside hw hi hc hcn hQ c 0 (by omega) rfl))
end MP
