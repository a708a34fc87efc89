/-! what is asked: told by numbers; the class's askings -/
section AQ
variable {k : List Cl}
/-- minutes till it is set; fuel -/
def fMin (k : List Cl) : Nat → Pn → Nat
  | 0, _ => 0
  | n + 1, p => if ps p = 0 then 1 + fMin k n (mi k p) else 0
theorem fMin_le (n : Nat) (p : Pn) : fMin k n p ≤ n := by
  induction n generalizing p with
  | zero => exact Nat.le_refl _
  | succ n ih =>
    show (if ps p = 0 then 1 + fMin k n (mi k p) else 0) ≤ n + 1
    have := ih (mi k p)
    split <;> omega
def wdF (k : List Cl) (p : Pn) : Nat → Nat × Int32
  | 0 => (fMin k 61 p, -5)
  | i + 1 => if i < cN p ∧ ¬ pa p i 4 = 2 then (if fMin k 61 (spP i p) ≤ (wdF k p i).1 then wdF k p i else (fMin k 61 (spP i p), nI i)) else wdF k p i
theorem wdF_n {p : Pn} {i : Nat} (h : ¬ (i < cN p ∧ ¬ pa p i 4 = 2)) : wdF k p (i + 1) = wdF k p i := by
  show (if _ then _ else _) = _
  rw [if_neg h]
theorem wdF_s {p : Pn} {i : Nat} (h : i < cN p ∧ ¬ pa p i 4 = 2) : wdF k p (i + 1) = if fMin k 61 (spP i p) ≤ (wdF k p i).1 then wdF k p i else (fMin k 61 (spP i p), nI i) := by
  show (if i < cN p ∧ ¬ pa p i 4 = 2 then _ else _) = _
  rw [if_pos h]
theorem wdF_c {p : Pn} {i : Nat} (h : cN p ≤ i) : wdF k p i = wdF k p (cN p) := by
  induction i with
  | zero => rw [show cN p = 0 by omega]
  | succ i ih =>
    by_cases hc : cN p = i + 1
    · rw [hc]
    · rw [wdF_n (by omega), ih (by omega)]
theorem wdF_61 (p : Pn) (i : Nat) : (wdF k p i).1 ≤ 61 := by
  induction i with
  | zero => exact fMin_le _ _
  | succ i ih =>
    by_cases h : i < cN p ∧ ¬ pa p i 4 = 2
    · rw [wdF_s h]
      split
      · exact ih
      · exact fMin_le _ _
    · rw [wdF_n h]; exact ih
/-- all that is seen is so -/
def seenB (k : List Cl) (p : Pn) (A C : Nat → Int32) : Nat → Bool
  | 0 => true
  | j + 1 => seenB k p A C j && decide (pk (it k (A j).toNatClampNeg p) = C j)
theorem seenB_iff {p : Pn} {A C : Nat → Int32} {n : Nat} : seenB k p A C n = true ↔ ∀ j, j < n → pk (it k (A j).toNatClampNeg p) = C j := by
  induction n with
  | zero => exact ⟨fun _ j hj => by omega, fun _ => rfl⟩
  | succ n ih =>
    show (seenB k p A C n && _) = true ↔ _
    rw [Bool.and_eq_true, ih, decide_eq_true_iff]
    exact ⟨fun h j hj => by
      by_cases e : j = n
      · rw [e]; exact h.2
      · exact h.1 j (by omega), fun h => ⟨fun j hj => h j (by omega), h n (by omega)⟩⟩
def cntP (P : Nat → Bool) : Nat → Nat
  | 0 => 0
  | m + 1 => cntP P m + (if P m = true then 1 else 0)
theorem cntP_le (P : Nat → Bool) (m : Nat) : cntP P m ≤ m := by
  induction m with
  | zero => exact Nat.le_refl _
  | succ m ih =>
    show cntP P m + (if P m = true then 1 else 0) ≤ m + 1
    split <;> omega
theorem cntP_all {P : Nat → Bool} {m : Nat} (h : m ≤ cntP P m) : ∀ j, j < m → P j = true := by
  induction m with
  | zero => intro j hj; omega
  | succ m ih =>
    have h1 : m + 1 ≤ cntP P m + (if P m = true then 1 else 0) := h
    have h2 := cntP_le P m
    intro j hj
    by_cases hp : P m = true
    · rw [if_pos hp] at h1
      by_cases e : j = m
      · rw [e]; exact hp
      · exact ih (by omega) j (by omega)
    · rw [if_neg hp] at h1
      omega
theorem cntP_ext {P P' : Nat → Bool} {m : Nat} (h : ∀ j, j < m → P' j = P j) : cntP P' m = cntP P m := by
  induction m with
  | zero => rfl
  | succ m ih =>
    show cntP P' m + (if P' m = true then 1 else 0) = cntP P m + (if P m = true then 1 else 0)
    rw [ih (fun j hj => h j (by omega)), h m (by omega)]
theorem cntP_one {P P' : Nat → Bool} {m i : Nat} (hi : i < m) (h0 : P i = false) (h1 : P' i = true) (h : ∀ j, j < m → j ≠ i → P' j = P j) : cntP P' m = cntP P m + 1 := by
  induction m with
  | zero => omega
  | succ m ih =>
    show cntP P' m + (if P' m = true then 1 else 0) = cntP P m + (if P m = true then 1 else 0) + 1
    by_cases e : i = m
    · subst e
      rw [cntP_ext (fun j hj => h j (by omega) (by omega)), h0, h1]
      rfl
    · rw [ih (by omega) (fun j hj => h j (by omega)), h m (by omega) (Ne.symm e)]
      omega
/-- a set put in -/
def bt (b i : Nat) : Bool := decide (b / 2 ^ i % 2 = 1)
def putS (b c : Nat) (p : Pn) : Nat → Pn
  | 0 => p
  | i + 1 => if i < c ∧ bt b i = true then puP i (putS b c p i) else putS b c p i
theorem putS_s {b c i : Nat} {p : Pn} (h : i < c ∧ bt b i = true) : putS b c p (i + 1) = puP i (putS b c p i) := by
  show (if _ then _ else _) = _
  rw [if_pos h]
theorem putS_n {b c i : Nat} {p : Pn} (h : ¬ (i < c ∧ bt b i = true)) : putS b c p (i + 1) = putS b c p i := by
  show (if _ then _ else _) = _
  rw [if_neg h]
theorem putS_c {b c i : Nat} {p : Pn} (h : c ≤ i) : putS b c p i = putS b c p c := by
  induction i with
  | zero => rw [show c = 0 by omega]
  | succ i ih =>
    by_cases hc : c = i + 1
    · rw [hc]
    · rw [putS_n (by omega), ih (by omega)]
theorem putS_cN {b c i : Nat} {p : Pn} : cN (putS b c p i) = cN p := by
  induction i with
  | zero => rfl
  | succ i ih =>
    by_cases h : i < c ∧ bt b i = true
    · rw [putS_s h]; exact ih
    · rw [putS_n h]; exact ih
def setsF (k : List Cl) (b n : Nat) (p : Pn) : Int32 := ps (it k n (putS b (cN p) p 6))
theorem bit_ck : ∀ i, i < 6 → ∀ b, b < 64 → ((((nI b) >>> (nI i &&& 31)) &&& 1 = 1) ↔ bt b i = true) := by decide +kernel
theorem bit_1 : ∀ i, i < 6 → (1 : Int32) <<< (nI i &&& 31) = nI (2 ^ i) := by decide +kernel
theorem mi_set {p : Pn} (h : ¬ ps p = 0) : ps (mi k p) = ps p := by
  show seP _ _ p = _
  unfold seP
  rw [if_pos h]
theorem it_set {p : Pn} (h : ¬ ps p = 0) (n : Nat) : ps (it k n p) = ps p := by
  induction n generalizing p with
  | zero => rfl
  | succ n ih =>
    show ps (it k n (mi k p)) = _
    rw [ih (by rw [mi_set h]; exact h), mi_set h]
def subU (u b : Nat) : Bool := decide (b &&& u = b)
theorem sub_ck : ∀ b, b < 64 → ∀ u, u < 64 → ((nI b &&& (nI u ^^^ (-1)) = 0) ↔ subU u b = true) := by decide +kernel
/-- the fewest: how many, which -/
def enF (U S : Nat → Bool) : Nat → Nat × Int32
  | 0 => (7, -5)
  | b + 1 => if U b = true ∧ pop b < (enF U S b).1 ∧ S b = true then (pop b, nI b) else enF U S b
theorem enF_s {U S : Nat → Bool} {b : Nat} (h : U b = true ∧ pop b < (enF U S b).1 ∧ S b = true) : enF U S (b + 1) = (pop b, nI b) := by
  show (if _ then _ else _) = _
  rw [if_pos h]
theorem enF_n {U S : Nat → Bool} {b : Nat} (h : ¬ (U b = true ∧ pop b < (enF U S b).1 ∧ S b = true)) : enF U S (b + 1) = enF U S b := by
  show (if _ then _ else _) = _
  rw [if_neg h]
theorem enF_7 (U S : Nat → Bool) (b : Nat) : (enF U S b).1 ≤ 7 := by
  induction b with
  | zero => exact Nat.le_refl _
  | succ b ih =>
    by_cases h : U b = true ∧ pop b < (enF U S b).1 ∧ S b = true
    · rw [enF_s h]; exact Nat.le_trans (pop_6 b) (by decide)
    · rw [enF_n h]; exact ih
def chF (u : Nat) (S : Nat → Bool) : Nat → Nat
  | 0 => 0
  | i + 1 => if bt u i = true ∧ S (2 ^ i) = true then chF u S i + 1 else chF u S i
theorem chF_le (u : Nat) (S : Nat → Bool) (i : Nat) : chF u S i ≤ i := by
  induction i with
  | zero => exact Nat.le_refl _
  | succ i ih =>
    show (if bt u i = true ∧ S (2 ^ i) = true then chF u S i + 1 else chF u S i) ≤ i + 1
    split <;> omega
def dst (a b : Nat) : Nat := if a < b then b - a else a - b
/-- the nearest fire: how far, which; behind those from i on -/
def flF (D : Nat → Nat) (m0 : Nat) : Nat → Nat × Nat
  | 0 => (m0, 0)
  | f + 1 => if (flF D m0 f).1 ≤ D f then flF D m0 f else (D f, f)
theorem flF_s {D : Nat → Nat} {m0 f : Nat} (h : ¬ (flF D m0 f).1 ≤ D f) : flF D m0 (f + 1) = (D f, f) := by
  show (if _ then _ else _) = _
  rw [if_neg h]
theorem flF_n {D : Nat → Nat} {m0 f : Nat} (h : (flF D m0 f).1 ≤ D f) : flF D m0 (f + 1) = flF D m0 f := by
  show (if _ then _ else _) = _
  rw [if_pos h]
theorem flF_m {D : Nat → Nat} {m0 m1 : Nat} (h0 : D 0 < m0) (h1 : D 0 < m1) (f : Nat) : flF D m0 (f + 1) = flF D m1 (f + 1) := by
  induction f with
  | zero => rw [flF_s (show ¬ m0 ≤ D 0 by omega), flF_s (show ¬ m1 ≤ D 0 by omega)]
  | succ f ih =>
    by_cases h : (flF D m0 (f + 1)).1 ≤ D (f + 1)
    · rw [flF_n (f := f + 1) h, flF_n (f := f + 1) (by rw [← ih]; exact h), ih]
    · rw [flF_s (f := f + 1) h, flF_s (f := f + 1) (by rw [← ih]; exact h)]
theorem flF_le {D : Nat → Nat} {m0 B : Nat} (hm : m0 ≤ B) (hD : ∀ f, D f ≤ B) (f : Nat) : (flF D m0 f).1 ≤ B := by
  induction f with
  | zero => exact hm
  | succ f ih =>
    by_cases h : (flF D m0 f).1 ≤ D f
    · rw [flF_n h]; exact ih
    · rw [flF_s h]; exact hD f
def dkF (k : List Cl) (n q : Nat) (p : Pn) (f : Nat) : Nat := dst (pk (it k n (sF p (nI f)))).toNatClampNeg q
/-- weights, as bits -/
def wtI (S : Nat → Bool) : Nat → Int32
  | 0 => 0
  | n + 1 => wtI S n ||| (if S n = true then 1 <<< (nI n &&& 31) else 0)
/-- numbers v from 9 down: how many, the least -/
def fmF (S : Nat → Bool) : Nat → Nat × Int32
  | 0 => (0, -5)
  | m + 1 => if S (9 - m) = true then ((fmF S m).1 + 1, nI (9 - m)) else fmF S m
theorem fmF_s {S : Nat → Bool} {m : Nat} (h : S (9 - m) = true) : fmF S (m + 1) = ((fmF S m).1 + 1, nI (9 - m)) := by
  show (if _ then _ else _) = _
  rw [if_pos h]
theorem fmF_n {S : Nat → Bool} {m : Nat} (h : ¬ S (9 - m) = true) : fmF S (m + 1) = fmF S m := by
  show (if _ then _ else _) = _
  rw [if_neg h]
theorem fmF_le (S : Nat → Bool) (m : Nat) : (fmF S m).1 ≤ m := by
  induction m with
  | zero => exact Nat.le_refl _
  | succ m ih =>
    by_cases h : S (9 - m) = true
    · rw [fmF_s h]; exact Nat.succ_le_succ ih
    · rw [fmF_n h]; omega
/-- a plan -/
def folP (k : List Cl) (x y : Int32) (p : Pn) : Pn :=
  if x = 0 then mi k p else if x = 3 then sF p y
  else if x = 1 then (if pa p y.toNatClampNeg 4 = 0 then puP y.toNatClampNeg p else p)
  else if x = 2 then (if pa p y.toNatClampNeg 4 = 2 then p else spP y.toNatClampNeg p)
  else p
def plF (k : List Cl) (A B : Nat → Int32) (p : Pn) : Nat → Pn
  | 0 => p
  | j + 1 => folP k (A j) (B j) (plF k A B p j)
def okPl (c : Nat) (x y : Int32) : Prop := rg x 3 ∧ ((x = 1 ∨ x = 2) → ∃ i, i < c ∧ y = nI i) ∧ (x = 3 → rg y 9)
/-- a line of things -/
def dgt (n r j : Nat) : Nat := r / 6 ^ (n - 1 - j) % 6
def lnP (k : List Cl) (D : Nat → Nat) (p : Pn) : Nat → Option Pn
  | 0 => some p
  | j + 1 => match lnP k D p j with
    | none => none
    | some q => if D j < cN q ∧ pa q (D j) 4 = 0 then some (mi k (puP (D j) q)) else none
theorem lnP_no {D : Nat → Nat} {p : Pn} {j : Nat} (h : lnP k D p j = none) : ∀ n, j ≤ n → lnP k D p n = none := by
  intro n hn
  induction n with
  | zero => rw [show j = 0 by omega] at h; exact h
  | succ n ih =>
    by_cases e : j = n + 1
    · rw [← e]; exact h
    · show (match lnP k D p n with | none => none | some q => _) = none
      rw [ih (by omega)]
theorem lnP_s {D : Nat → Nat} {p q : Pn} {j : Nat} (h : lnP k D p j = some q) : lnP k D p (j + 1) = if D j < cN q ∧ pa q (D j) 4 = 0 then some (mi k (puP (D j) q)) else none := by
  show (match lnP k D p j with | none => none | some q => _) = _
  rw [h]
def coO : Option Pn → Int32
  | none => -5
  | some q => pk q
def rowC (k : List Cl) (p : Pn) (n r : Nat) : Int32 := coO (lnP k (dgt n r) p n)
def bsF (k : List Cl) (p : Pn) (n : Nat) : Nat → Int32 × Nat
  | 0 => (-5, 0)
  | r + 1 => if rowC k p n r ≤ (bsF k p n r).1 then bsF k p n r else (rowC k p n r, r)
theorem bsF_n {p : Pn} {n r : Nat} (h : rowC k p n r ≤ (bsF k p n r).1) : bsF k p n (r + 1) = bsF k p n r := by
  show (if _ then _ else _) = _
  rw [if_pos h]
theorem bsF_s {p : Pn} {n r : Nat} (h : ¬ rowC k p n r ≤ (bsF k p n r).1) : bsF k p n (r + 1) = (rowC k p n r, r) := by
  show (if _ then _ else _) = _
  rw [if_neg h]
end AQ
section AX
variable {d : Nat} {E : qE} {w w0 : qW} {k : List Cl} {p : Pn} {M : Nat}
theorem TX.s01 (h : TX k M w p) : ps p = 0 ∨ ps p = 1 := h.ok.2.2.2.1
theorem x_behind {Q : qW → Int32 → Prop} {n : Nat} {a : Int32} (h : XA k w0 w) (hn : n ≤ 60) (hQ : ∀ w1, XA k w0 w1 → Q w1 (if a = 0 then ps (it k n (nmP (PX 15 w0))) else pk (it k n (nmP (PX 15 w0))))) : CaI (d + 5) M_As_behind [.ref (qb E + 55), .int (nI n), .int a] E w Q := by
  refine en_As_behind h.1 (s_As_behind_0 h.1 (a_copy (d := d + 2) h (fun w1 h1 t1 => a_mins (d := d) h1 t1 (by omega) (fun w2 h2 t2 => ?_))))
  have hq := hQ w2 h2
  rw [t2.set, t2.col]
  refine ⟨fun z => ?_, fun z => ?_⟩
  · rw [if_pos z] at hq
    refine ⟨fun y => ?_, fun y => ?_⟩
    · rw [y] at hq; exact hq
    · rw [t2.s01.resolve_left y] at hq; exact hq
  · rw [if_neg z] at hq
    exact hq
theorem h_mts {Q : qW → Int32 → Prop} {N : Nat} (hQ : ∀ w1, XA k w0 w1 → Q w1 (nI N)) :
    ∀ (n i M : Nat) (w : qW) (p : Pn), i + n = 61 → M + n ≤ 20000 → XA k w0 w → TX k M w p → N = i + fMin k n p → c_As_minutesToSet_2 d E Q (nI i) w := by
  intro n
  induction n with
  | zero =>
    intro i M w p hi hM h ht hN
    have e : N = 61 := by
      have : fMin k 0 p = 0 := rfl
      omega
    subst e
    exact s_As_minutesToSet_2 h.1 (pk_lt 60 i (fun _ => hQ w h) (fun z => by omega))
  | succ n ih =>
    intro i M w p hi hM h ht hN
    have e : fMin k (n + 1) p = if ps p = 0 then 1 + fMin k n (mi k p) else 0 := rfl
    refine s_As_minutesToSet_2 h.1 (pk_lt 60 i (fun z => by omega) (fun _ => ?_))
    rw [ht.set, n1]
    refine ⟨fun z => a_min h ht (by omega) (fun w1 h1 t1 => ih (i + 1) (M + 1) w1 _ (by omega) (by omega) h1 t1 ?_), fun z => ?_⟩
    · rw [if_pos z] at e
      omega
    · rw [if_neg z] at e
      rw [show i = N by omega]
      exact hQ w h
theorem x_mts {Q : qW → Int32 → Prop} (h : XA k w0 w) (ht : TX k M w p) (hM : M ≤ 10000) (hQ : ∀ w1, XA k w0 w1 → Q w1 (nI (fMin k 61 p))) : CaI (d + 4) M_As_minutesToSet [.ref (qb E + 55)] E w Q :=
  en_As_minutesToSet h.1 (s_As_minutesToSet_0 h.1 (h_mts hQ 61 0 M w p (by omega) (by omega) h ht (by omega)))
theorem x_sets {Q : qW → Int32 → Prop} (h : XA k w0 w) (hQ : ∀ w1, XA k w0 w1 → Q w1 (if fMin k 61 (nmP (PX 15 w0)) = 61 then -5 else nI (fMin k 61 (nmP (PX 15 w0))))) : CaI (d + 5) M_As_sets [.ref (qb E + 55)] E w Q := by
  refine en_As_sets h.1 (s_As_sets_0 h.1 (a_copy (d := d + 2) h (fun w1 h1 t1 => x_mts (d := d) h1 t1 (by omega) (fun w2 h2 => ?_))))
  have hq := hQ w2 h2
  have hl := fMin_le (k := k) 61 (nmP (PX 15 w0))
  have e : nI (fMin k 61 (nmP (PX 15 w0))) = 61 ↔ fMin k 61 (nmP (PX 15 w0)) = 61 := neq (b := 61) (by omega) (by omega)
  refine ⟨fun z => ?_, fun z => ?_⟩
  · rw [if_neg (fun y => z (e.mpr y))] at hq; exact hq
  · rw [if_pos (e.mp z)] at hq; exact hq
theorem h_word {Q : qW → Int32 → Prop} (hQ : ∀ w1, XA k w0 w1 → Q w1 (wdF k (nmP (PX 15 w0)) 6).2) :
    ∀ (n i : Nat) (w : qW), i + n = 6 → XA k w0 w → c_As_word_24 d E Q (nI (wdF k (nmP (PX 15 w0)) i).1) (wdF k (nmP (PX 15 w0)) i).2 (nI i) w := by
  intro n
  induction n with
  | zero =>
    intro i w hi h
    have : i = 6 := by omega
    subst this
    exact s_As_word_24 h.1 (pk_le 6 6 (fun _ => hQ w h) (fun z => by omega))
  | succ n ih =>
    intro i w hi h
    refine s_As_word_24 h.1 (pk_le 6 i (fun z => by omega) (fun _ => ?_))
    rw [n1]
    refine a_copy (d := d + 2) h (fun w1 h1 t1 => a_find h1 t1 (by omega) (fun hc => Or.inr ⟨i, by omega, rfl, ?_⟩) (fun hc => Or.inl ⟨rfl, ?_⟩))
    · rw [t1.st (by omega)]
      refine ⟨fun z => ?_, fun z => a_sp (d := d + 3) h1 t1 (by omega) (fun w2 h2 t2 => x_mts (d := d) h2 t2 (by omega) (fun w3 h3 => ?_))⟩
      · rw [← wdF_n (k := k) (i := i) (fun y => y.2 z)]
        exact ih (i + 1) w1 (by omega) h1
      · have e := wdF_s (k := k) (p := nmP (PX 15 w0)) (i := i) ⟨hc, z⟩
        have hl := fMin_le (k := k) 61 (spP i (nmP (PX 15 w0)))
        have hl2 := wdF_61 (k := k) (nmP (PX 15 w0)) i
        refine pk_le _ _ (fun y => ?_) (fun y => ?_)
        · rw [if_pos y] at e
          rw [← e]
          exact ih (i + 1) w3 (by omega) h3
        · rw [if_neg (by omega)] at e
          have := ih (i + 1) w3 (by omega) h3
          rw [e] at this
          exact this
    · rw [← wdF_n (k := k) (i := i) (by omega)]
      exact ih (i + 1) w1 (by omega) h1
theorem x_word {Q : qW → Int32 → Prop} (h : XA k w0 w) (hQ : ∀ w1, XA k w0 w1 → Q w1 (wdF k (nmP (PX 15 w0)) 6).2) : CaI (d + 5) M_As_word [.ref (qb E + 55)] E w Q :=
  en_As_word h.1 (s_As_word_0 h.1 (a_copy (d := d + 2) h (fun w1 h1 t1 => x_mts (d := d) h1 t1 (by omega) (fun w2 h2 => h_word hQ 6 0 w2 (by omega) h2))))
end AX
