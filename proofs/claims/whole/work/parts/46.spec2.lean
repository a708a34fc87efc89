/-! what is read is in order -/
section SQ
variable {S : Nat → Nat} {L : Nat}
theorem evT_app (fa : Nat → Int32) (a b : List Tk) : ∀ s, evT fa (a ++ b) s = (evT fa a s).bind (evT fa b) := by
  induction a with
  | nil => intro s; rfl
  | cons t a ih =>
    intro s
    show (stT fa t s).bind (evT fa (a ++ b)) = ((stT fa t s).bind (evT fa a)).bind (evT fa b)
    rcases stT fa t s with _ | s'
    · rfl
    · exact ih s'
def pnd (a b : Bool) (x y : Bool) (s : List Bool) : List Bool := (if a = true then [x] else []) ++ ((if b = true then [y] else []) ++ s)
theorem ev_fl (fa : Nat → Int32) (a b v x y : Bool) (s : List Bool) : ∃ v', evT fa (flT a b) (v :: pnd a b x y s) = some (v' :: s) := by
  cases a <;> cases b <;> exact ⟨_, rfl⟩
theorem ev_fa (fa : Nat → Int32) (a b v x y : Bool) (s : List Bool) : ∃ v', evT fa (flT a false) (v :: pnd a b x y s) = some (pnd true b v' y s) := by
  cases a <;> cases b <;> exact ⟨_, rfl⟩
theorem ev_or (fa : Nat → Int32) (a b v x y : Bool) (s : List Bool) : ∃ v', evT fa (flT a b) (v :: pnd a b x y s) = some (pnd false true true v' s) := by
  cases a <;> cases b <;> exact ⟨_, rfl⟩
theorem bd_fl {a b : Bool} {r : List Tk} {m : Nat} (h : bdT r (m + 1)) : bdT (flT a b ++ r) (m + a.toNat + b.toNat + 1) := by
  cases a <;> cases b
  · exact h
  · exact h
  · exact h
  · exact h
theorem okT_fl (a b : Bool) : ∀ x ∈ flT a b, okT x := by
  intro x hx
  unfold flT at hx
  rw [List.mem_append] at hx
  rcases hx with h | h
  · cases a
    · exact absurd h (by simp)
    · have : x = (6, 0, 0) := by simpa using h
      rw [this]
      exact Or.inr (Or.inl rfl)
  · cases b
    · exact absurd h (by simp)
    · have : x = (7, 0, 0) := by simpa using h
      rw [this]
      exact Or.inr (Or.inr (Or.inl rfl))
def gF (L o p : Nat) (t : List Tk) (q : Nat) : Prop := p < q ∧ q ≤ L ∧ t.length ≤ q - p ∧ (∀ x ∈ t, okT x) ∧ (∀ fa s, ∃ v, evT fa t s = some (v :: s)) ∧ (o ≤ 4 → ∀ r m, m ≤ 3 * o + 2 → bdT r (m + 1) → bdT (t ++ r) m)
def gE (L : Nat) (a b : Bool) (o p : Nat) (t : List Tk) (q : Nat) : Prop := p < q ∧ q ≤ L ∧ t.length ≤ q - p + a.toNat + b.toNat ∧ (∀ x ∈ t, okT x) ∧ (∀ fa s x y, ∃ v, evT fa t (pnd a b x y s) = some (v :: s)) ∧ (o ≤ 4 → ∀ r m, m ≤ 3 * o → bdT r (m + 1) → bdT (t ++ r) (m + a.toNat + b.toNat))
theorem g_tst (hS : ∀ j, L ≤ j → S j = 0) {o p q : Nat} {t : List Tk} (h : tstP S p = (some t, q)) : gF L o p t q := by
  obtain ⟨h1, h2, n, h3, rfl⟩ := tst_inv h
  obtain ⟨n1', n2', n3'⟩ := num_pos hS h3
  obtain ⟨l1, l2⟩ := let_ok _ h1
  obtain ⟨r1, r2⟩ := rel_ok _ h2
  refine ⟨by omega, n2', by show 1 ≤ q - p; omega, fun x hx => ?_, fun fa s => ?_, fun ho r m hm hb => ?_⟩
  · have : x = (letN (S p), relN (S (p + 1)), n) := by simpa using hx
    rw [this]
    exact Or.inl ⟨l1, r1, n3'⟩
  · refine ⟨tsT fa (letN (S p), relN (S (p + 1)), n), ?_⟩
    show (stT fa (letN (S p), relN (S (p + 1)), n) s).bind (evT fa []) = _
    unfold stT
    rw [if_neg (show ¬ letN (S p) = 6 by omega), if_neg (show ¬ letN (S p) = 7 by omega), if_neg (show ¬ letN (S p) = 8 by omega)]
    rfl
  · show bdT ((letN (S p), relN (S (p + 1)), n) :: r) m
    unfold bdT
    rw [if_neg (show ¬ (letN (S p) = 6 ∨ letN (S p) = 7) by omega), if_neg (show ¬ letN (S p) = 8 by omega), if_pos (show letN (S p) < 6 from l1)]
    exact ⟨by omega, hb⟩
theorem g_all (hS : ∀ j, L ≤ j → S j = 0) : ∀ n, (∀ o p t q, pF S n o p = (some t, q) → gF L o p t q) ∧ (∀ a b o p t q, pE S n a b o p = (some t, q) → gE L a b o p t q) := by
  intro n
  induction n with
  | zero => exact ⟨fun o p t q h => no_some h, fun a b o p t q h => no_some h⟩
  | succ n ih =>
    obtain ⟨iF, iE⟩ := ih
    constructor
    · intro o p t q h
      have h : stF S (pF S n) (pE S n) o p = (some t, q) := h
      unfold stF at h
      by_cases c1 : S p = 40
      · have lp := lt_L hS (p := p) (by omega)
        rw [if_pos c1] at h
        by_cases c2 : 4 ≤ o
        · rw [if_pos c2] at h
          exact no_some h
        rw [if_neg c2] at h
        obtain ⟨t', q', e1, e2⟩ := mR_some h
        by_cases c3 : S q' = 41
        · have lq := lt_L hS (p := q') (by omega)
          rw [if_pos c3] at e2
          simp only [Prod.mk.injEq, Option.some.injEq] at e2
          obtain ⟨g1, g2, g3, g4, g5, g6⟩ := iE false false (o + 1) (p + 1) t' q' e1
          rw [← e2.1, ← e2.2]
          simp only [Bool.toNat_false, Nat.add_zero] at g3 g6
          refine ⟨by omega, by omega, by omega, g4, fun fa s => g5 fa s true true, fun ho r m hm hb => g6 (by omega) r m (by omega) hb⟩
        · rw [if_neg c3] at e2
          exact no_some e2
      rw [if_neg c1] at h
      by_cases c2 : S p = 33
      · have lp := lt_L hS (p := p) (by omega)
        rw [if_pos c2] at h
        by_cases c3 : 4 ≤ o
        · rw [if_pos c3] at h
          exact no_some h
        rw [if_neg c3] at h
        obtain ⟨t', q', e1, e2⟩ := mR_some h
        simp only [Prod.mk.injEq, Option.some.injEq] at e2
        obtain ⟨g1, g2, g3, g4, g5, g6⟩ := iF (o + 1) (p + 1) t' q' e1
        rw [← e2.1, ← e2.2]
        refine ⟨by omega, g2, ?_, fun x hx => ?_, fun fa s => ?_, fun ho r m hm hb => ?_⟩
        · rw [List.length_append]
          show t'.length + 1 ≤ _
          omega
        · rw [List.mem_append] at hx
          rcases hx with hx | hx
          · exact g4 x hx
          · have : x = (8, 0, 0) := by simpa using hx
            rw [this]
            exact Or.inr (Or.inr (Or.inr rfl))
        · obtain ⟨v, hv⟩ := g5 fa s
          refine ⟨!v, ?_⟩
          rw [evT_app, hv]
          rfl
        · rw [List.append_assoc]
          refine g6 (by omega) _ m (by omega) ?_
          exact hb
      rw [if_neg c2] at h
      exact g_tst hS h
    · intro a b o p t q h
      have h : stE S (pF S n) (pE S n) a b o p = (some t, q) := h
      unfold stE at h
      obtain ⟨t1', q1, e1, e2⟩ := mR_some h
      obtain ⟨g1, g2, g3, g4, g5, g6⟩ := iF o p t1' q1 e1
      by_cases c1 : S q1 = 38
      · rw [if_pos c1] at e2
        obtain ⟨t2', q2, e3, e4⟩ := mR_some e2
        simp only [Prod.mk.injEq, Option.some.injEq] at e4
        obtain ⟨k1, k2, k3, k4, k5, k6⟩ := iE true b o (q1 + 1) t2' q2 e3
        rw [← e4.1, ← e4.2]
        have hfl := flT_l a false
        simp only [Bool.toNat_false, Bool.toNat_true, Nat.add_zero] at hfl k3 k6
        refine ⟨by omega, k2, ?_, fun x hx => ?_, fun fa s x y => ?_, fun ho r m hm hb => ?_⟩
        · rw [List.length_append, List.length_append, hfl]
          omega
        · rw [List.mem_append, List.mem_append] at hx
          rcases hx with (hx | hx) | hx
          · exact g4 x hx
          · exact okT_fl _ _ x hx
          · exact k4 x hx
        · obtain ⟨v, hv⟩ := g5 fa (pnd a b x y s)
          obtain ⟨v', hv'⟩ := ev_fa fa a b v x y s
          rw [evT_app, evT_app, hv, Option.bind_some, hv', Option.bind_some]
          exact k5 fa s v' y
        · rw [List.append_assoc, List.append_assoc]
          refine g6 ho _ _ (by cases a <;> cases b <;> simp <;> omega) ?_
          have := bd_fl (a := a) (b := false) (r := t2' ++ r) (m := m + b.toNat) (by have := k6 ho r m hm hb; rw [show m + b.toNat + 1 = m + 1 + b.toNat by omega]; exact this)
          simp only [Bool.toNat_false, Nat.add_zero] at this
          rw [show m + a.toNat + b.toNat + 1 = m + b.toNat + a.toNat + 1 by omega]
          exact this
      rw [if_neg c1] at e2
      by_cases c2 : S q1 = 124
      · rw [if_pos c2] at e2
        obtain ⟨t2', q2, e3, e4⟩ := mR_some e2
        simp only [Prod.mk.injEq, Option.some.injEq] at e4
        obtain ⟨k1, k2, k3, k4, k5, k6⟩ := iE false true o (q1 + 1) t2' q2 e3
        rw [← e4.1, ← e4.2]
        have hfl := flT_l a b
        simp only [Bool.toNat_false, Bool.toNat_true, Nat.add_zero] at k3 k6
        refine ⟨by omega, k2, ?_, fun x hx => ?_, fun fa s x y => ?_, fun ho r m hm hb => ?_⟩
        · rw [List.length_append, List.length_append, hfl]
          omega
        · rw [List.mem_append, List.mem_append] at hx
          rcases hx with (hx | hx) | hx
          · exact g4 x hx
          · exact okT_fl _ _ x hx
          · exact k4 x hx
        · obtain ⟨v, hv⟩ := g5 fa (pnd a b x y s)
          obtain ⟨v', hv'⟩ := ev_or fa a b v x y s
          rw [evT_app, evT_app, hv, Option.bind_some, hv', Option.bind_some]
          exact k5 fa s true v'
        · rw [List.append_assoc, List.append_assoc]
          refine g6 ho _ _ (by cases a <;> cases b <;> simp <;> omega) ?_
          exact bd_fl (k6 ho r m hm hb)
      rw [if_neg c2] at e2
      simp only [Prod.mk.injEq, Option.some.injEq] at e2
      rw [← e2.1, ← e2.2]
      have hfl := flT_l a b
      refine ⟨g1, g2, ?_, fun x hx => ?_, fun fa s x y => ?_, fun ho r m hm hb => ?_⟩
      · rw [List.length_append, hfl]
        omega
      · rw [List.mem_append] at hx
        rcases hx with hx | hx
        · exact g4 x hx
        · exact okT_fl _ _ x hx
      · obtain ⟨v, hv⟩ := g5 fa (pnd a b x y s)
        obtain ⟨v', hv'⟩ := ev_fl fa a b v x y s
        refine ⟨v', ?_⟩
        rw [evT_app, hv, Option.bind_some, hv']
      · rw [List.append_assoc]
        refine g6 ho _ _ (by cases a <;> cases b <;> simp <;> omega) ?_
        exact bd_fl hb
end SQ
