/-! how a text is read: what both sides do -/
section SP
abbrev Rp : Type := Option (List Tk) × Nat
def isD (c : Nat) : Bool := decide (48 ≤ c ∧ c ≤ 57)
def numP (S : Nat → Nat) (p : Nat) : Option Nat × Nat := if isD (S p) = true then (if isD (S (p + 1)) = true then (some (10 * (S p - 48) + (S (p + 1) - 48)), p + 2) else (some (S p - 48), p + 1)) else (none, p)
def letN (c : Nat) : Nat := if c = 112 then 0 else if c = 107 then 1 else if c = 118 then 2 else if c = 119 then 3 else if c = 111 then 4 else if c = 109 then 5 else 6
def relN (c : Nat) : Nat := if c = 60 then 0 else if c = 61 then 1 else if c = 62 then 2 else 3
/-- what follows a result -/
def hR (r : Rp) (no : Nat → Prop) (ok : List Tk → Nat → Prop) : Prop := match r with
  | (none, q) => no q
  | (some t, q) => ok t q
def hN (r : Option Nat × Nat) (no : Nat → Prop) (ok : Nat → Nat → Prop) : Prop := match r with
  | (none, q) => no q
  | (some t, q) => ok t q
def mN (r : Option Nat × Nat) (f : Nat → Nat → Rp) : Rp := match r with
  | (none, q) => (none, q)
  | (some t, q) => f t q
def mR (r : Rp) (f : List Tk → Nat → Rp) : Rp := match r with
  | (none, q) => (none, q)
  | (some t, q) => f t q
theorem hR_mR {r : Rp} {f : List Tk → Nat → Rp} {no : Nat → Prop} {ok : List Tk → Nat → Prop} : hR (mR r f) no ok ↔ hR r no (fun t q => hR (f t q) no ok) := by
  rcases r with ⟨_ | t, q⟩ <;> exact Iff.rfl
theorem hR_mN {r : Option Nat × Nat} {f : Nat → Nat → Rp} {no : Nat → Prop} {ok : List Tk → Nat → Prop} : hR (mN r f) no ok ↔ hN r no (fun t q => hR (f t q) no ok) := by
  rcases r with ⟨_ | t, q⟩ <;> exact Iff.rfl
theorem hR.mono {r : Rp} {no no' : Nat → Prop} {ok ok' : List Tk → Nat → Prop} (h : hR r no ok) (h1 : ∀ q, no q → no' q) (h2 : ∀ t q, r = (some t, q) → ok t q → ok' t q) : hR r no' ok' := by
  rcases r with ⟨_ | t, q⟩
  · exact h1 q h
  · exact h2 t q rfl h
def tstP (S : Nat → Nat) (p : Nat) : Rp := if letN (S p) = 6 then (none, p) else if relN (S (p + 1)) = 3 then (none, p + 1) else mN (numP S (p + 2)) (fun n q => (some [(letN (S p), relN (S (p + 1)), n)], q))
def flT (a b : Bool) : List Tk := (if a = true then [(6, 0, 0)] else []) ++ (if b = true then [(7, 0, 0)] else [])
def stF (S : Nat → Nat) (F : Nat → Nat → Rp) (X : Bool → Bool → Nat → Nat → Rp) (o p : Nat) : Rp :=
  if S p = 40 then (if 4 ≤ o then (none, p) else mR (X false false (o + 1) (p + 1)) (fun t q => if S q = 41 then (some t, q + 1) else (none, q)))
  else if S p = 33 then (if 4 ≤ o then (none, p) else mR (F (o + 1) (p + 1)) (fun t q => (some (t ++ [(8, 0, 0)]), q)))
  else tstP S p
def stE (S : Nat → Nat) (F : Nat → Nat → Rp) (X : Bool → Bool → Nat → Nat → Rp) (a b : Bool) (o p : Nat) : Rp :=
  mR (F o p) (fun t q => if S q = 38 then mR (X true b o (q + 1)) (fun t' q' => (some (t ++ flT a false ++ t'), q')) else if S q = 124 then mR (X false true o (q + 1)) (fun t' q' => (some (t ++ flT a b ++ t'), q')) else (some (t ++ flT a b), q))
def pFE (S : Nat → Nat) : Nat → (Nat → Nat → Rp) × (Bool → Bool → Nat → Nat → Rp)
  | 0 => (fun _ p => (none, p), fun _ _ _ p => (none, p))
  | n + 1 => (stF S (pFE S n).1 (pFE S n).2, stE S (pFE S n).1 (pFE S n).2)
def pF (S : Nat → Nat) (n : Nat) : Nat → Nat → Rp := (pFE S n).1
def pE (S : Nat → Nat) (n : Nat) : Bool → Bool → Nat → Nat → Rp := (pFE S n).2
variable {S : Nat → Nat} {L : Nat}
theorem flT_l (a b : Bool) : (flT a b).length = a.toNat + b.toNat := by cases a <;> cases b <;> rfl
theorem lt_L (hS : ∀ j, L ≤ j → S j = 0) {p : Nat} (h : S p ≠ 0) : p < L := Nat.not_le.mp (fun q => h (hS p q))
theorem num_pos (hS : ∀ j, L ≤ j → S j = 0) {p n q : Nat} (h : numP S p = (some n, q)) : p < q ∧ q ≤ L ∧ n < 100 := by
  unfold numP isD at h
  by_cases h1 : decide (48 ≤ S p ∧ S p ≤ 57) = true
  · have e1 := of_decide_eq_true h1
    have l1 := lt_L hS (p := p) (by omega)
    rw [if_pos h1] at h
    by_cases h2 : decide (48 ≤ S (p + 1) ∧ S (p + 1) ≤ 57) = true
    · have e2 := of_decide_eq_true h2
      have l2 := lt_L hS (p := p + 1) (by omega)
      rw [if_pos h2] at h
      simp only [Prod.mk.injEq, Option.some.injEq] at h
      omega
    · rw [if_neg h2] at h
      simp only [Prod.mk.injEq, Option.some.injEq] at h
      omega
  · rw [if_neg h1] at h
    exact absurd (congrArg Prod.fst h) (by simp)
theorem let_ok (c : Nat) (h : ¬ letN c = 6) : letN c < 6 ∧ c ≠ 0 := by
  unfold letN at h ⊢
  split at h <;> (try split at h) <;> (try split at h) <;> (try split at h) <;> (try split at h) <;> (try split at h) <;> simp_all
theorem rel_ok (c : Nat) (h : ¬ relN c = 3) : relN c < 3 ∧ c ≠ 0 := by
  unfold relN at h ⊢
  split at h <;> (try split at h) <;> (try split at h) <;> simp_all
theorem tst_inv {p q : Nat} {t : List Tk} (h : tstP S p = (some t, q)) : ¬ letN (S p) = 6 ∧ ¬ relN (S (p + 1)) = 3 ∧ ∃ n, numP S (p + 2) = (some n, q) ∧ t = [(letN (S p), relN (S (p + 1)), n)] := by
  unfold tstP at h
  by_cases h1 : letN (S p) = 6
  · rw [if_pos h1] at h
    exact absurd (congrArg Prod.fst h) (by simp)
  rw [if_neg h1] at h
  by_cases h2 : relN (S (p + 1)) = 3
  · rw [if_pos h2] at h
    exact absurd (congrArg Prod.fst h) (by simp)
  rw [if_neg h2] at h
  rcases e : numP S (p + 2) with ⟨_ | n, q'⟩
  · rw [e] at h
    exact absurd (congrArg Prod.fst h) (by simp [mN])
  · rw [e] at h
    have h' : ((some [(letN (S p), relN (S (p + 1)), n)], q') : Rp) = (some t, q) := h
    simp only [Prod.mk.injEq, Option.some.injEq] at h'
    exact ⟨h1, h2, n, by rw [h'.2], h'.1.symm⟩
theorem mR_some {r : Rp} {f : List Tk → Nat → Rp} {t : List Tk} {q : Nat} (h : mR r f = (some t, q)) : ∃ t' q', r = (some t', q') ∧ f t' q' = (some t, q) := by
  rcases r with ⟨_ | t', q'⟩
  · exact absurd (congrArg Prod.fst h) (by simp [mR])
  · exact ⟨t', q', rfl, h⟩
theorem no_some {p q : Nat} {t : List Tk} {A : Prop} (h : ((none, p) : Rp) = (some t, q)) : A := absurd (congrArg Prod.fst h) (by simp)
end SP
