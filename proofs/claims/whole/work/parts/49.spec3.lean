/-! how clauses and texts are read -/
section SC
def hC (r : Option Cl × Nat) (no : Nat → Prop) (ok : Cl → Nat → Prop) : Prop := match r with
  | (none, q) => no q
  | (some c, q) => ok c q
def hT (r : Option (List Cl) × Nat) (no : Nat → Prop) (ok : List Cl → Nat → Prop) : Prop := match r with
  | (none, q) => no q
  | (some c, q) => ok c q
/-- behind a word: a number, then what comes -/
def nC (r : Option Nat × Nat) (f : Nat → Nat → Option Cl × Nat) : Option Cl × Nat := match r with
  | (none, q) => (none, q)
  | (some v, q) => f v q
def mC (r : Bool × Nat) (S : Nat → Nat) (f : Nat → Nat → Option Cl × Nat) : Option Cl × Nat := match r with
  | (false, q) => (none, q)
  | (true, q) => nC (numP S q) f
def eC (r : Rp) (i v : Nat) : Option Cl × Nat := match r with
  | (none, q) => (none, q)
  | (some t, q) => (some (i, v, t), q)
def tlC (S : Nat → Nat) (n i v q : Nat) : Option Cl × Nat := if S q = 32 then eC (pE S n false false 0 (q + 1)) i v else (none, q)
def clP (S : Nat → Nat) (n p : Nat) : Option Cl × Nat :=
  if S p = 110 then mC (wdP S (wdS 0) p) S (fun v q => (some (2, v, []), q))
  else if S p = 100 then mC (wdP S (wdS 1) p) S (tlC S n 0)
  else mC (wdP S (wdS 2) p) S (tlC S n 1)
def cT (r : Option (List Cl) × Nat) (c : Cl) : Option (List Cl) × Nat := match r with
  | (none, q) => (none, q)
  | (some k, q) => (some (c :: k), q)
def stT2 (S : Nat → Nat) (L r : Nat) (X : Nat → Option (List Cl) × Nat) (a : Option Cl × Nat) : Option (List Cl) × Nat := match a with
  | (none, q) => (none, q)
  | (some c, q) => if q = L then (some [c], q) else if r = 0 then (none, q) else if S q = 59 then cT (X (q + 1)) c else (none, q)
def txP (S : Nat → Nat) (L n : Nat) : Nat → Nat → Option (List Cl) × Nat
  | 0, p => (none, p)
  | r + 1, p => stT2 S L r (txP S L n r) (clP S n p)
variable {S : Nat → Nat} {L : Nat}
theorem no_c {p q : Nat} {c : Cl} {A : Prop} (h : ((none, p) : Option Cl × Nat) = (some c, q)) : A := absurd (congrArg Prod.fst h) (by simp)
theorem no_t {p q : Nat} {k : List Cl} {A : Prop} (h : ((none, p) : Option (List Cl) × Nat) = (some k, q)) : A := absurd (congrArg Prod.fst h) (by simp)
theorem wd_ok (hS : ∀ j, L ≤ j → S j = 0) : ∀ (r : List Nat) (p : Nat), (∀ x ∈ r, x ≠ 0) → p ≤ L → (wdP S r p).2 ≤ L ∧ ((wdP S r p).1 = true → (wdP S r p).2 = p + r.length) := by
  intro r
  induction r with
  | nil => intro p _ hp; exact ⟨hp, fun _ => rfl⟩
  | cons c r ih =>
    intro p h0 hp
    show (if S p = c then wdP S r (p + 1) else (false, p)).2 ≤ L ∧ ((if S p = c then wdP S r (p + 1) else (false, p)).1 = true → (if S p = c then wdP S r (p + 1) else (false, p)).2 = p + (r.length + 1))
    by_cases h : S p = c
    · have lp := lt_L hS (p := p) (by rw [h]; exact h0 c List.mem_cons_self)
      rw [if_pos h]
      obtain ⟨a1, a2⟩ := ih (p + 1) (fun x hx => h0 x (List.mem_cons_of_mem _ hx)) (by omega)
      exact ⟨a1, fun z => by rw [a2 z]; omega⟩
    · rw [if_neg h]
      exact ⟨hp, fun z => absurd z (by simp)⟩
theorem wdS_0 : ∀ i, i < 3 → (∀ x ∈ wdS i, x ≠ 0) ∧ 5 ≤ (wdS i).length := by decide
theorem num_no {p q : Nat} (h : numP S p = (none, q)) : q = p := by
  unfold numP at h
  by_cases c1 : isD (S p) = true
  · rw [if_pos c1] at h
    by_cases c2 : isD (S (p + 1)) = true
    · rw [if_pos c2] at h
      exact absurd (congrArg Prod.fst h) (by simp)
    · rw [if_neg c2] at h
      exact absurd (congrArg Prod.fst h) (by simp)
  · rw [if_neg c1] at h
    exact (congrArg Prod.snd h).symm
/-- where it goes wrong lies in the text -/
theorem tst_no (hS : ∀ j, L ≤ j → S j = 0) {p q : Nat} (hp : p ≤ L) (h : tstP S p = (none, q)) : q ≤ L := by
  unfold tstP at h
  by_cases h1 : letN (S p) = 6
  · rw [if_pos h1] at h
    have := congrArg Prod.snd h
    simp only at this
    omega
  rw [if_neg h1] at h
  have l1 := lt_L hS (let_ok _ h1).2
  by_cases h2 : relN (S (p + 1)) = 3
  · rw [if_pos h2] at h
    have := congrArg Prod.snd h
    simp only at this
    omega
  rw [if_neg h2] at h
  have l2 := lt_L hS (rel_ok _ h2).2
  rcases e : numP S (p + 2) with ⟨_ | n, q'⟩
  · rw [e] at h
    have := num_no e
    have h' : q' = q := congrArg Prod.snd h
    omega
  · rw [e] at h
    exact absurd (congrArg Prod.fst h) (by simp [mN])
theorem n_all (hS : ∀ j, L ≤ j → S j = 0) : ∀ n, (∀ o p q, p ≤ L → pF S n o p = (none, q) → q ≤ L) ∧ (∀ a b o p q, p ≤ L → pE S n a b o p = (none, q) → q ≤ L) := by
  intro n
  induction n with
  | zero =>
    refine ⟨fun o p q hp h => ?_, fun a b o p q hp h => ?_⟩
    · have : p = q := congrArg Prod.snd h
      omega
    · have : p = q := congrArg Prod.snd h
      omega
  | succ n ih =>
    obtain ⟨iF, iE⟩ := ih
    constructor
    · intro o p q hp h
      have h : stF S (pF S n) (pE S n) o p = (none, q) := h
      unfold stF at h
      by_cases c1 : S p = 40
      · have lp := lt_L hS (p := p) (by omega)
        rw [if_pos c1] at h
        by_cases c2 : 4 ≤ o
        · rw [if_pos c2] at h
          have : p = q := congrArg Prod.snd h
          omega
        rw [if_neg c2] at h
        rcases e : pE S n false false (o + 1) (p + 1) with ⟨_ | t, q'⟩
        · rw [e] at h
          have : q' = q := congrArg Prod.snd h
          have := iE _ _ _ _ _ (by omega) e
          omega
        · rw [e] at h
          have h : (if S q' = 41 then ((some t, q' + 1) : Rp) else (none, q')) = (none, q) := h
          have := ((g_all hS n).2 _ _ _ _ _ _ e).2.1
          by_cases c3 : S q' = 41
          · rw [if_pos c3] at h
            exact absurd (congrArg Prod.fst h) (by simp)
          · rw [if_neg c3] at h
            have : q' = q := congrArg Prod.snd h
            omega
      rw [if_neg c1] at h
      by_cases c2 : S p = 33
      · have lp := lt_L hS (p := p) (by omega)
        rw [if_pos c2] at h
        by_cases c3 : 4 ≤ o
        · rw [if_pos c3] at h
          have : p = q := congrArg Prod.snd h
          omega
        rw [if_neg c3] at h
        rcases e : pF S n (o + 1) (p + 1) with ⟨_ | t, q'⟩
        · rw [e] at h
          have : q' = q := congrArg Prod.snd h
          have := iF _ _ _ (by omega) e
          omega
        · rw [e] at h
          exact absurd (congrArg Prod.fst h) (by simp [mR])
      rw [if_neg c2] at h
      exact tst_no hS hp h
    · intro a b o p q hp h
      have h : stE S (pF S n) (pE S n) a b o p = (none, q) := h
      unfold stE at h
      rcases e : pF S n o p with ⟨_ | t, q1⟩
      · rw [e] at h
        have : q1 = q := congrArg Prod.snd h
        have := iF _ _ _ hp e
        omega
      rw [e] at h
      have h : (if S q1 = 38 then mR (pE S n true b o (q1 + 1)) (fun t' q' => (some (t ++ flT a false ++ t'), q')) else if S q1 = 124 then mR (pE S n false true o (q1 + 1)) (fun t' q' => (some (t ++ flT a b ++ t'), q')) else (some (t ++ flT a b), q1)) = (none, q) := h
      by_cases c1 : S q1 = 38
      · have l1 := lt_L hS (p := q1) (by omega)
        rw [if_pos c1] at h
        rcases e2 : pE S n true b o (q1 + 1) with ⟨_ | t', q2⟩
        · rw [e2] at h
          have : q2 = q := congrArg Prod.snd h
          have := iE _ _ _ _ _ (by omega) e2
          omega
        · rw [e2] at h
          exact absurd (congrArg Prod.fst h) (by simp [mR])
      rw [if_neg c1] at h
      by_cases c2 : S q1 = 124
      · have l1 := lt_L hS (p := q1) (by omega)
        rw [if_pos c2] at h
        rcases e2 : pE S n false true o (q1 + 1) with ⟨_ | t', q2⟩
        · rw [e2] at h
          have : q2 = q := congrArg Prod.snd h
          have := iE _ _ _ _ _ (by omega) e2
          omega
        · rw [e2] at h
          exact absurd (congrArg Prod.fst h) (by simp [mR])
      rw [if_neg c2] at h
      exact absurd (congrArg Prod.fst h) (by simp)
/-- what a clause that was read is -/
theorem tl_ok (hS : ∀ j, L ≤ j → S j = 0) (hL : L ≤ 100) {n i v q : Nat} (hi : i ≤ 1) (hv : v < 100) (hq : q ≤ L) : hC (tlC S n i v q) (fun q' => q' ≤ L) (fun c q' => q < q' ∧ q' ≤ L ∧ okC c ∧ (flC c).length ≤ q' - q ∧ ∀ r, bdT r 0 → bdT (flC c ++ r) 0) := by
  unfold tlC
  by_cases h : S q = 32
  · have lq := lt_L hS (p := q) (by omega)
    rw [if_pos h]
    rcases e : pE S n false false 0 (q + 1) with ⟨_ | t, q'⟩
    · show q' ≤ L
      exact (n_all hS n).2 _ _ _ _ _ (by omega) e
    · obtain ⟨g1, g2, g3, g4, g5, g6⟩ := (g_all hS n).2 _ _ _ _ _ _ e
      simp only [Bool.toNat_false, Nat.add_zero] at g3 g6
      show q < q' ∧ q' ≤ L ∧ okC (i, v, t) ∧ (flC (i, v, t)).length ≤ q' - q ∧ ∀ r, bdT r 0 → bdT (flC (i, v, t) ++ r) 0
      have ef : flC (i, v, t) = t ++ [(9 + i, 0, v)] := by
        unfold flC
        rw [if_neg (show ¬ i = 2 by omega)]
      refine ⟨by omega, g2, ⟨by show i ≤ 2; omega, by show v ≤ 99; omega, fun _ => ⟨by show t.length ≤ 100; omega, g4, fun fa => g5 fa [] true true⟩⟩, ?_, fun r hr => ?_⟩
      · rw [ef, List.length_append]
        show t.length + 1 ≤ q' - q
        omega
      · rw [ef, List.append_assoc]
        refine g6 (by omega) _ 0 (by omega) ?_
        show bdT ((9 + i, 0, v) :: r) (0 + 1)
        unfold bdT
        rw [if_neg (show ¬ (9 + i = 6 ∨ 9 + i = 7) by omega), if_neg (show ¬ 9 + i = 8 by omega), if_neg (show ¬ 9 + i < 6 by omega)]
        exact hr
  · rw [if_neg h]
    exact hq
theorem mC_ok (hS : ∀ j, L ≤ j → S j = 0) {p i : Nat} (hi : i < 3) (hp : p ≤ L) {f : Nat → Nat → Option Cl × Nat} {no : Nat → Prop} {ok : Cl → Nat → Prop} (hn : ∀ q, q ≤ L → no q) (hf : ∀ v q, v < 100 → p < q → q ≤ L → hC (f v q) no ok) : hC (mC (wdP S (wdS i) p) S f) no ok := by
  obtain ⟨a0, a5⟩ := wdS_0 i hi
  obtain ⟨a1, a2⟩ := wd_ok hS (wdS i) p a0 hp
  rcases e : wdP S (wdS i) p with ⟨_ | _, q⟩
  · rw [e] at a1
    exact hn q a1
  · rw [e] at a1 a2
    have a3 : q = p + (wdS i).length := a2 rfl
    rcases e2 : numP S q with ⟨_ | v, q'⟩
    · have := num_no e2
      show hC (nC (numP S q) f) no ok
      rw [e2]
      exact hn q' (by rw [this]; exact a1)
    · obtain ⟨b1, b2, b3⟩ := num_pos hS e2
      show hC (nC (numP S q) f) no ok
      rw [e2]
      exact hf v q' b3 (by omega) b2
theorem hC.mono {r : Option Cl × Nat} {no no' : Nat → Prop} {ok ok' : Cl → Nat → Prop} (h : hC r no ok) (h1 : ∀ q, no q → no' q) (h2 : ∀ c q, ok c q → ok' c q) : hC r no' ok' := by
  rcases r with ⟨_ | t, q⟩
  · exact h1 q h
  · exact h2 t q h
/-- what a clause that was read is -/
def gC (L p : Nat) (c : Cl) (q : Nat) : Prop := p < q ∧ q ≤ L ∧ okC c ∧ (flC c).length ≤ q - p ∧ ∀ r, bdT r 0 → bdT (flC c ++ r) 0
theorem cl_ok (hS : ∀ j, L ≤ j → S j = 0) (hL : L ≤ 100) {n p : Nat} (hp : p ≤ L) : hC (clP S n p) (fun q => q ≤ L) (gC L p) := by
  unfold clP
  by_cases h1 : S p = 110
  · rw [if_pos h1]
    refine mC_ok hS (by omega) hp (fun q h => h) (fun v q hv hq hl => ?_)
    show p < q ∧ q ≤ L ∧ okC (2, v, []) ∧ (flC (2, v, [])).length ≤ q - p ∧ ∀ r, bdT r 0 → bdT (flC (2, v, []) ++ r) 0
    exact ⟨hq, hl, ⟨Nat.le_refl 2, by show v ≤ 99; omega, fun z => absurd rfl z⟩, Nat.zero_le _, fun r hr => hr⟩
  rw [if_neg h1]
  by_cases h2 : S p = 100
  · rw [if_pos h2]
    refine mC_ok hS (by omega) hp (fun q h => h) (fun v q hv hq hl => (tl_ok hS hL (by omega) hv hl).mono (fun q h => h) (fun c q' h => ?_))
    obtain ⟨z1, z2, z3, z4, z5⟩ := h
    exact ⟨by omega, z2, z3, by omega, z5⟩
  · rw [if_neg h2]
    refine mC_ok hS (by omega) hp (fun q h => h) (fun v q hv hq hl => (tl_ok hS hL (by omega) hv hl).mono (fun q h => h) (fun c q' h => ?_))
    obtain ⟨z1, z2, z3, z4, z5⟩ := h
    exact ⟨by omega, z2, z3, by omega, z5⟩
theorem fl_app (k k' : List Cl) : flK (k ++ k') = flK k ++ flK k' := by
  unfold flK
  exact List.flatMap_append
theorem fl_1 (c : Cl) : flK [c] = flC c := by
  show flC c ++ [] = flC c
  exact List.append_nil _
theorem nd_app (c : Cl) : ∀ (k : List Cl) (a : Int32), ndL a (k ++ [c]) = if c.1 = 2 then 10 * nI c.2.1 else ndL a k := by
  intro k
  induction k with
  | nil => intro a; rfl
  | cons c' k ih => intro a; exact ih _
/-- what a text that was read is -/
def gT (L r p : Nat) (k : List Cl) (q : Nat) : Prop := k.length ≤ r ∧ p ≤ q ∧ q ≤ L ∧ (∀ c ∈ k, okC c) ∧ (flK k).length ≤ q - p ∧ bdT (flK k) 0
theorem tx_ok (hS : ∀ j, L ≤ j → S j = 0) (hL : L ≤ 100) {n : Nat} : ∀ r p, p ≤ L → hT (txP S L n r p) (fun q => q ≤ L) (gT L r p) := by
  intro r
  induction r with
  | zero => intro p hp; exact hp
  | succ r ih =>
    intro p hp
    show hT (stT2 S L r (txP S L n r) (clP S n p)) (fun q => q ≤ L) (gT L (r + 1) p)
    have hc := cl_ok hS hL (n := n) hp
    rcases e : clP S n p with ⟨_ | c, q⟩
    · rw [e] at hc
      exact hc
    rw [e] at hc
    obtain ⟨c1, c2, c3, c4, c5⟩ : gC L p c q := hc
    show hT (if q = L then (some [c], q) else if r = 0 then (none, q) else if S q = 59 then cT (txP S L n r (q + 1)) c else (none, q)) (fun q => q ≤ L) (gT L (r + 1) p)
    by_cases h1 : q = L
    · rw [if_pos h1]
      show gT L (r + 1) p [c] q
      refine ⟨by show 1 ≤ r + 1; omega, by omega, c2, fun x hx => ?_, ?_, ?_⟩
      · have : x = c := by simpa using hx
        rw [this]
        exact c3
      · rw [fl_1]
        exact c4
      · rw [fl_1]
        have := c5 [] trivial
        rw [List.append_nil] at this
        exact this
    rw [if_neg h1]
    by_cases h2 : r = 0
    · rw [if_pos h2]
      exact c2
    rw [if_neg h2]
    by_cases h3 : S q = 59
    · have lq := lt_L hS (p := q) (by omega)
      rw [if_pos h3]
      have hr := ih (q + 1) (by omega)
      rcases e2 : txP S L n r (q + 1) with ⟨_ | k, q'⟩
      · rw [e2] at hr
        exact hr
      · rw [e2] at hr
        obtain ⟨d1, d2, d3, d4, d5, d6⟩ : gT L r (q + 1) k q' := hr
        show gT L (r + 1) p (c :: k) q'
        refine ⟨by show k.length + 1 ≤ r + 1; omega, by omega, d3, fun x hx => ?_, ?_, ?_⟩
        · rcases List.mem_cons.mp hx with z | z
          · rw [z]; exact c3
          · exact d4 x z
        · show (flC c ++ flK k).length ≤ q' - p
          rw [List.length_append]
          omega
        · exact c5 _ d6
    · rw [if_neg h3]
      exact c2
theorem okS_fl {k : List Cl} (h : ∀ c ∈ k, okC c) : ∀ t ∈ flK k, okS t := by
  intro t ht
  obtain ⟨c, hc, ht⟩ := List.mem_flatMap.mp ht
  obtain ⟨o1, o2, o3⟩ := h c hc
  unfold flC at ht
  by_cases e : c.1 = 2
  · rw [if_pos e] at ht
    exact absurd ht (by simp)
  · rw [if_neg e, List.mem_append] at ht
    rcases ht with ht | ht
    · exact Or.inl ((o3 e).2.1 t ht)
    · have e2 : t = (9 + c.1, 0, c.2.1) := by simpa using ht
      rw [e2]
      refine Or.inr ⟨?_, by show c.2.1 < 100; omega⟩
      show 9 + c.1 = 9 ∨ 9 + c.1 = 10
      omega
end SC
