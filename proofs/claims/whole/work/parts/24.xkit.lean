/-! the class: what a kitchen adds -/
section XK
variable {d : Nat} {E : qE} {w : qW}
/-- the stack as bits, the top lowest -/
def BN : List Bool → Nat
  | [] => 0
  | b :: r => 2 * BN r + (if b = true then 1 else 0)
theorem BN_lt (s : List Bool) : BN s < 2 ^ s.length := by
  induction s with
  | nil => decide
  | cons b r ih =>
    show 2 * BN r + (if b = true then 1 else 0) < 2 ^ (r.length + 1)
    rw [Nat.pow_succ]
    split <;> omega
theorem BN_30 {s : List Bool} (h : s.length ≤ 30) : BN s < 2 ^ 30 := Nat.lt_of_lt_of_le (BN_lt s) (Nat.pow_le_pow_right (by decide) h)
theorem ni_or0 (x : Int32) : x ||| 0 = x := by
  apply Int32.toBitVec_inj.mp
  rw [Int32.toBitVec_or]
  exact BitVec.or_zero
theorem ni_or1 {n : Nat} (h : n < 2 ^ 30) : nI (2 * n) ||| 1 = nI (2 * n + 1) := by
  apply Int32.toBitVec_inj.mp
  apply BitVec.eq_of_toNat_eq
  rw [Int32.toBitVec_or, BitVec.toNat_or, pk_tn (by omega), pk_tn (by omega)]
  show 2 * n ||| 1 = 2 * n + 1
  have := Nat.two_pow_add_eq_or_of_lt (i := 1) (b := 1) (by decide) n
  rw [show 2 ^ 1 * n = 2 * n by omega] at this
  exact this.symm
theorem ni_shl1 {n : Nat} (h : n < 2 ^ 30) : nI n <<< ((1 : Int32) &&& 31) = nI (2 * n) := by
  rw [show (1 : Int32) &&& 31 = 1 from rfl, pk_shlN 1 1 (by decide) (by omega), Nat.mul_comm]
theorem ni_shr1 {n : Nat} (h : n < 2 ^ 31) : nI n >>> ((1 : Int32) &&& 31) = nI (n / 2) := by
  rw [show (1 : Int32) &&& 31 = 1 from rfl, pk_shrN h 1 1 (by decide)]
theorem ni_and1 {n : Nat} (h : n < 2 ^ 31) : nI n &&& 1 = nI (n % 2) := pk_andN (by omega) 1 (by decide)
theorem BN_and1 {b : Bool} {s : List Bool} (h : (b :: s).length ≤ 30) : nI (BN (b :: s)) &&& 1 = bI b := by
  have := BN_30 h
  rw [ni_and1 (by omega)]
  show nI ((2 * BN s + (if b = true then 1 else 0)) % 2) = _
  cases b
  · rw [show (2 * BN s + (if false = true then 1 else 0)) % 2 = 0 by simp]; rfl
  · rw [show (2 * BN s + (if true = true then 1 else 0)) % 2 = 1 by simp]; rfl
theorem BN_shr {b : Bool} {s : List Bool} (h : (b :: s).length ≤ 30) : nI (BN (b :: s)) >>> ((1 : Int32) &&& 31) = nI (BN s) := by
  have := BN_30 h
  rw [ni_shr1 (by omega)]
  congr 1
  show (2 * BN s + (if b = true then 1 else 0)) / 2 = _
  cases b <;> simp <;> omega
theorem BN_push {s : List Bool} (h : s.length ≤ 29) (b : Bool) : nI (BN s) <<< ((1 : Int32) &&& 31) ||| bI b = nI (BN (b :: s)) := by
  have := BN_30 (s := s) (by omega)
  rw [ni_shl1 this]
  cases b
  · exact ni_or0 _
  · exact ni_or1 this
theorem BN_xor {b : Bool} {s : List Bool} (h : (b :: s).length ≤ 30) : nI (BN (b :: s)) ^^^ 1 = nI (BN ((!b) :: s)) := by
  have h1 := BN_30 h
  have h2 := BN_30 (s := (!b) :: s) (by simpa using h)
  apply Int32.toBitVec_inj.mp
  apply BitVec.eq_of_toNat_eq
  rw [Int32.toBitVec_xor, BitVec.toNat_xor, pk_tn (by omega), pk_tn (by omega)]
  show BN (b :: s) ^^^ 1 = BN ((!b) :: s)
  apply Nat.eq_of_testBit_eq
  intro i
  rw [Nat.testBit_xor]
  cases b
  · show (Nat.testBit (2 * BN s + 0) i ^^ Nat.testBit 1 i) = Nat.testBit (2 * BN s + 1) i
    cases i with
    | zero => simp
    | succ i => simp [Nat.testBit_succ, Nat.mul_add_div]
  · show (Nat.testBit (2 * BN s + 1) i ^^ Nat.testBit 1 i) = Nat.testBit (2 * BN s + 0) i
    cases i with
    | zero => simp
    | succ i => simp [Nat.testBit_succ, Nat.mul_add_div]
theorem ni_or {a b : Nat} (ha : a < 2 ^ 31) (hb : b < 2 ^ 31) : nI a ||| nI b = nI (a ||| b) := by
  have hab : a ||| b < 2 ^ 31 := Nat.or_lt_two_pow ha hb
  apply Int32.toBitVec_inj.mp
  apply BitVec.eq_of_toNat_eq
  rw [Int32.toBitVec_or, BitVec.toNat_or, pk_tn (by omega), pk_tn (by omega), pk_tn (by omega)]
theorem BN_or {b a : Bool} {s : List Bool} (h : (b :: a :: s).length ≤ 30) : (nI (BN (b :: a :: s)) >>> ((1 : Int32) &&& 31)) ||| (nI (BN (b :: a :: s)) &&& 1) = nI (BN ((a || b) :: s)) := by
  have h1 := BN_30 (s := a :: s) (by simp at h ⊢; omega)
  have h0 := BN_30 (s := s) (by simp at h ⊢; omega)
  rw [BN_shr h, BN_and1 h]
  cases b
  · rw [Bool.or_false]; exact ni_or0 _
  · rw [Bool.or_true]
    cases a
    · exact ni_or1 h0
    · show nI (2 * BN s + 1) ||| nI 1 = nI (2 * BN s + 1)
      rw [ni_or (by omega) (by omega)]
      congr 1
      apply Nat.eq_of_testBit_eq
      intro i
      rw [Nat.testBit_or]
      cases i with
      | zero => simp
      | succ i => simp [Nat.testBit_succ]
theorem BN_and {b a : Bool} {s : List Bool} (h : (b :: a :: s).length ≤ 30) : (nI (BN (b :: a :: s)) >>> ((1 : Int32) &&& 31)) &&& ((nI (BN (b :: a :: s)) &&& 1) ||| (-2)) = nI (BN ((a && b) :: s)) := by
  have h1 := BN_30 (s := a :: s) (by simp at h ⊢; omega)
  have h0 := BN_30 (s := s) (by simp at h ⊢; omega)
  rw [BN_shr h, BN_and1 h]
  cases b
  · rw [Bool.and_false]
    show nI (BN (a :: s)) &&& ((0 : Int32) ||| (-2)) = nI (2 * BN s + 0)
    apply Int32.toBitVec_inj.mp
    apply BitVec.eq_of_getLsbD_eq
    intro i hi
    rw [Int32.toBitVec_and, BitVec.getLsbD_and]
    have e1 : (nI (BN (a :: s))).toBitVec.getLsbD i = (BN (a :: s)).testBit i := by
      rw [← BitVec.testBit_toNat, pk_tn (by omega)]
    have e2 : (nI (2 * BN s + 0)).toBitVec.getLsbD i = (2 * BN s).testBit i := by
      rw [← BitVec.testBit_toNat, pk_tn (by omega)]
      rfl
    have e3 : ∀ j, j < 32 → ((0 : Int32) ||| (-2)).toBitVec.getLsbD j = decide (j ≠ 0) := by decide
    rw [e1, e2, e3 i hi]
    show ((2 * BN s + (if a = true then 1 else 0)).testBit i && decide (i ≠ 0)) = _
    cases i with
    | zero => simp
    | succ i => cases a <;> simp [Nat.testBit_succ, Nat.mul_add_div]
  · rw [Bool.and_true]
    show nI (BN (a :: s)) &&& ((1 : Int32) ||| (-2)) = nI (BN (a :: s))
    rw [show ((1 : Int32) ||| (-2)) = -1 from by decide]
    apply Int32.toBitVec_inj.mp
    rw [Int32.toBitVec_and]
    show _ &&& BitVec.allOnes 32 = _
    exact BitVec.and_allOnes
/-- steps: tokens, and 9 dark, 10 clear, with its number -/
def okS (t : Tk) : Prop := okT t ∨ ((t.1 = 9 ∨ t.1 = 10) ∧ t.2.2 < 100)
/-- the depth of the stack never passes 30 -/
def bdT : List Tk → Nat → Prop
  | [], _ => True
  | t :: r, n => if t.1 = 6 ∨ t.1 = 7 then bdT r (n - 1) else if t.1 = 8 then bdT r n else if t.1 < 6 then n ≤ 29 ∧ bdT r (n + 1) else bdT r 0
def exS (fa : Nat → Int32) : List Tk → Int32 → List Bool → Option Int32
  | [], a, _ => some a
  | t :: r, a, s =>
    if t.1 = 9 then (match s with | b :: _ => exS fa r (a + bI b * nI t.2.2) [] | [] => none)
    else if t.1 = 10 then (match s with | b :: _ => exS fa r (a - bI b * nI t.2.2) [] | [] => none)
    else (stT fa t s).bind (fun s' => exS fa r a s')
def KS (w : qW) (K : Nat) (l : List Tk) : Prop := l.length ≤ 100 ∧ qi w K 3 = nI l.length ∧ ∀ j t, l[j]? = some t → okS t ∧ qi w (K + 1) j = nI t.1 ∧ qi w (K + 2) j = nI t.2.1 ∧ qi w (K + 3) j = nI t.2.2
set_option maxHeartbeats 4000000 in
theorem h_adds {Q : qW → Int32 → Prop} {K q : Nat} {l : List Tk} {v : Int32} {fa : Nat → Int32} (hw : Sh w) (hK : isKi K) (hq : isPan q) (hl : KS w K l) (hfa : ∀ j, j < 6 → qi w (q + 2) j = fa j) (hQ : Q w v) :
    ∀ (r : List Tk) (x : Nat) (a : Int32) (s : List Bool), x + r.length = l.length → (∀ j, r[j]? = l[x + j]?) → bdT r s.length → s.length ≤ 30 → exS fa r a s = some v → c_Ki_adds_7 d E Q K q a (nI (BN s)) (nI x) w := by
  obtain ⟨l1, l2, l3⟩ := hl
  intro r
  induction r with
  | nil =>
    intro x a s hx hr hb hs hv
    simp at hx
    refine s_Ki_adds_7 hw hK hq ⟨fun _ => ?_, fun z => absurd ?_ z⟩
    · have : a = v := Option.some.inj hv
      rw [this]; exact hQ
    · rw [l2, nle (by omega) (by omega)]; omega
  | cons t r ih =>
    intro x a s hx hr hb hs hv
    simp only [List.length_cons] at hx
    obtain ⟨ok, c1, c2, c3⟩ := l3 x t (hr 0).symm
    have hr' : ∀ j, r[j]? = l[x + 1 + j]? := fun j => by rw [show x + 1 + j = x + (j + 1) by omega, ← hr]; rfl
    have hin : vp_in (nI x) 100 := nvp (by omega) (by omega)
    refine s_Ki_adds_7 hw hK hq ⟨fun z => absurd z ?_, fun _ => ⟨fun z => absurd z ?_, fun _ => ⟨hin, hin, ?_⟩⟩⟩
    · rw [l2, nle (by omega) (by omega)]; omega
    · rw [show (100 : Int32) = nI 100 from rfl, nle (by omega) (by omega)]; omega
    rw [ncl (a := x) (by omega), c1, c2, c3, n1]
    obtain ⟨k, rl, n⟩ := t
    have hk : k ≤ 10 := by rcases ok with (⟨h, -⟩ | h | h | h) | ⟨h | h, -⟩ <;> simp only at h <;> omega
    have kk : ∀ c : Nat, c < 1000 → (nI k = nI c ↔ k = c) := fun c hc => neq (by omega) (by omega)
    refine ⟨fun z => ?_, fun z => ?_, fun z => ?_, fun z => ?_, fun z => ?_, fun z => ?_⟩
    · have e : k = 6 := (kk 6 (by omega)).mp z
      subst e
      match s, hb, hs, hv with
      | b :: a' :: s, hb, hs, hv =>
        rw [BN_and hs]
        exact ih (x + 1) a ((a' && b) :: s) (by omega) hr' hb (by simp at hs ⊢; omega) hv
      | [], hb, hs, hv => exact absurd hv (by simp [exS, stT])
      | [_], hb, hs, hv => exact absurd hv (by simp [exS, stT])
    · have e : k = 7 := (kk 7 (by omega)).mp z
      subst e
      match s, hb, hs, hv with
      | b :: a' :: s, hb, hs, hv =>
        rw [BN_or hs]
        exact ih (x + 1) a ((a' || b) :: s) (by omega) hr' hb (by simp at hs ⊢; omega) hv
      | [], hb, hs, hv => exact absurd hv (by simp [exS, stT])
      | [_], hb, hs, hv => exact absurd hv (by simp [exS, stT])
    · have e : k = 8 := (kk 8 (by omega)).mp z
      subst e
      match s, hb, hs, hv with
      | b :: s, hb, hs, hv =>
        rw [BN_xor hs]
        exact ih (x + 1) a ((!b) :: s) (by omega) hr' hb (by simpa using hs) hv
      | [], hb, hs, hv => exact absurd hv (by simp [exS, stT])
    · have e : k = 9 := (kk 9 (by omega)).mp z
      subst e
      match s, hb, hs, hv with
      | b :: s, hb, hs, hv =>
        rw [BN_and1 hs]
        exact ih (x + 1) _ [] (by omega) hr' hb (by simp) hv
      | [], hb, hs, hv => exact absurd hv (by simp [exS])
    · have e : k = 10 := (kk 10 (by omega)).mp z
      subst e
      match s, hb, hs, hv with
      | b :: s, hb, hs, hv =>
        rw [BN_and1 hs]
        exact ih (x + 1) _ [] (by omega) hr' hb (by simp) hv
      | [], hb, hs, hv => exact absurd hv (by simp [exS])
    · rw [nI_toInt (by omega)] at z
      have k6 : k < 6 := by omega
      obtain ⟨-, r3, n99⟩ : k < 6 ∧ rl < 3 ∧ n < 100 := by
        rcases ok with (h | h | h | h) | ⟨h | h, -⟩
        · exact h
        all_goals (simp only at h; omega)
      have hb' : s.length ≤ 29 ∧ bdT r (s.length + 1) := by
        have : (if k = 6 ∨ k = 7 then bdT r (s.length - 1) else if k = 8 then bdT r s.length else if k < 6 then s.length ≤ 29 ∧ bdT r (s.length + 1) else bdT r 0) := hb
        rw [if_neg (by omega), if_neg (by omega), if_pos k6] at this
        exact this
      have hv' : exS fa r a (tsT fa (k, rl, n) :: s) = some v := by
        have h9 : exS fa ((k, rl, n) :: r) a s = (stT fa (k, rl, n) s).bind (fun s' => exS fa r a s') := by
          show (if k = 9 then _ else if k = 10 then _ else _) = _
          rw [if_neg (by omega), if_neg (by omega)]
        have h8 : stT fa (k, rl, n) s = some (tsT fa (k, rl, n) :: s) := by
          show (if k = 6 then _ else if k = 7 then _ else if k = 8 then _ else _) = _
          rw [if_neg (by omega), if_neg (by omega), if_neg (by omega)]
        rw [h9, h8] at hv
        exact hv
      have go : ∀ b : Int32, b = bI (tsT fa (k, rl, n)) → c_Ki_adds_7 d E Q K q a ((nI (BN s) <<< (1 &&& 31)) ||| b) (nI (x + 1)) w := by
        intro b hb2
        rw [hb2, BN_push hb'.1]
        exact ih (x + 1) a _ (by omega) hr' hb'.2 (by simp; omega) hv'
      have rr : ∀ c : Nat, c < 1000 → (nI c = nI rl ↔ c = rl) := fun c hc => neq (by omega) (by omega)
      refine ⟨fun y => absurd y (nI_pos (by omega)), fun _ => ⟨fun y => absurd y ?_, fun _ => ⟨nvp k6 (by omega), ?_⟩⟩⟩
      · rw [n6, nle (by omega) (by omega)]; omega
      rw [ncl (a := k) (by omega), hfa k k6]
      have g2 : ∀ c : Nat, (c = 0 ∨ c = 1 ∨ c = 2) → ((c = rl) ↔ tsT fa (k, rl, n) = true) → (vp_in (nI x) 100 ∧ ((¬ nI c = nI rl → c_Ki_adds_7 d E Q K q a ((nI (BN s) <<< (1 &&& 31)) ||| 0) (nI (x + 1)) w) ∧ (nI c = nI rl → c_Ki_adds_7 d E Q K q a ((nI (BN s) <<< (1 &&& 31)) ||| 1) (nI (x + 1)) w))) := by
        intro c hc he
        refine ⟨hin, fun y => go _ ?_, fun y => go _ ?_⟩
        · have : ¬ tsT fa (k, rl, n) = true := fun q => y ((rr c (by omega)).mpr (he.mpr q))
          unfold bI; rw [if_neg this]
        · have : tsT fa (k, rl, n) = true := he.mp ((rr c (by omega)).mp y)
          unfold bI; rw [if_pos this]
      have r3' : rl = 0 ∨ rl = 1 ∨ rl = 2 := by omega
      refine ⟨fun y => ⟨fun u => g2 1 (by omega) ?_, fun u => g2 2 (by omega) ?_⟩, fun y => g2 0 (by omega) ?_⟩
      · have e : fa k = nI n := Int32.le_antisymm u y
        rcases r3' with rfl | rfl | rfl <;> simp [tsT, e]
      · have e1 : nI n < fa k := Int32.not_le.mp u
        have e2 : ¬ fa k < nI n := Int32.not_lt.mpr y
        have e3 : ¬ fa k = nI n := fun q => u (by rw [q]; exact Int32.le_refl _)
        rcases r3' with rfl | rfl | rfl <;> simp [tsT, e1, e2, e3]
      · have e1 : fa k < nI n := Int32.not_le.mp y
        have e2 : ¬ nI n < fa k := Int32.not_lt.mpr (Int32.le_of_lt e1)
        have e3 : ¬ fa k = nI n := fun q => y (by rw [q]; exact Int32.le_refl _)
        rcases r3' with rfl | rfl | rfl <;> simp [tsT, e1, e2, e3]
/-- the steps of a kitchen's clauses -/
def flC (c : Cl) : List Tk := if c.1 = 2 then [] else c.2.2 ++ [(9 + c.1, 0, c.2.1)]
def flK (k : List Cl) : List Tk := k.flatMap flC
theorem exS_tok {fa : Nat → Int32} (l : List Tk) : ∀ (tk : List Tk) (a : Int32) (s s' : List Bool), (∀ t ∈ tk, okT t) → evT fa tk s = some s' → exS fa (tk ++ l) a s = exS fa l a s' := by
  intro tk
  induction tk with
  | nil => intro a s s' _ h; have : s = s' := Option.some.inj h; rw [this]; rfl
  | cons t r ih =>
    intro a s s' ho h
    have hk : ¬ t.1 = 9 ∧ ¬ t.1 = 10 := by
      rcases ho t List.mem_cons_self with ⟨h, -⟩ | h | h | h <;> omega
    have h' : (stT fa t s).bind (evT fa r) = some s' := h
    show (if t.1 = 9 then _ else if t.1 = 10 then _ else (stT fa t s).bind (fun s' => exS fa (r ++ l) a s')) = _
    rw [if_neg hk.1, if_neg hk.2]
    cases hs : stT fa t s with
    | none => rw [hs] at h'; cases h'
    | some s1 =>
      rw [hs] at h'
      exact ih a s1 s' (fun t ht => ho t (List.mem_cons_of_mem _ ht)) h'
theorem exS_kit (fa : Nat → Int32) : ∀ (k : List Cl) (a : Int32), (∀ c ∈ k, okC c) → exS fa (flK k) a [] = some (a + adK k fa) := by
  intro k
  induction k with
  | nil => intro a _; show some a = some (a + 0); rw [Int32.add_zero]
  | cons c r ih =>
    intro a ho
    have ho' : ∀ c ∈ r, okC c := fun c h => ho c (List.mem_cons_of_mem _ h)
    obtain ⟨o1, o2, o3⟩ := ho c List.mem_cons_self
    show exS fa (flC c ++ flK r) a [] = some (a + (vC c fa + adK r fa))
    rw [← Int32.add_assoc]
    by_cases e : c.1 = 2
    · have e1 : flC c = [] := by unfold flC; rw [if_pos e]
      have e2 : vC c fa = 0 := by unfold vC; rw [if_pos e]
      rw [e1, e2, Int32.add_zero]
      exact ih a ho'
    · obtain ⟨q1, q2, q3⟩ := o3 e
      obtain ⟨b, hb⟩ := q3 fa
      have e1 : flC c ++ flK r = c.2.2 ++ ((9 + c.1, 0, c.2.1) :: flK r) := by unfold flC; rw [if_neg e, List.append_assoc]; rfl
      have e2 : vC c fa = if b = true then (if c.1 = 0 then nI c.2.1 else -nI c.2.1) else 0 := by
        unfold vC
        rw [if_neg e, evB_of hb]
      rw [e1, exS_tok _ _ _ _ _ q2 hb, e2]
      by_cases z : c.1 = 0
      · show (if 9 + c.1 = 9 then exS fa (flK r) (a + bI b * nI c.2.1) [] else _) = _
        rw [if_pos (by omega), if_pos z, ih _ ho']
        cases b <;> simp [bI]
      · show (if 9 + c.1 = 9 then _ else if 9 + c.1 = 10 then exS fa (flK r) (a - bI b * nI c.2.1) [] else _) = _
        rw [if_neg (by omega), if_pos (by omega), if_neg z, ih _ ho']
        cases b
        · simp [bI]
        · simp [bI, Int32.sub_eq_add_neg]
/-- kitchen K of the class -/
def KX (w : qW) (K : Nat) (k : List Cl) : Prop := isKi K ∧ (∀ c ∈ k, okC c) ∧ KS w K (flK k) ∧ bdT (flK k) 0 ∧ qi w K 4 = ndK k
theorem p_Ki_adds {Q : qW → Int32 → Prop} {K q : Nat} {k : List Cl} {fa : Nat → Int32} (hw : Sh w) (hk : KX w K k) (hq : isPan q) (hfa : ∀ j, j < 6 → qi w (q + 2) j = fa j) (hQ : Q w (adK k fa)) : CaI d M_Ki_adds [.ref (qb E + K), .ref (qb E + (q + 2))] E w Q := by
  obtain ⟨h1, h2, h3, h4, -⟩ := hk
  refine en_Ki_adds hw (s_Ki_adds_0 hw h1 hq ?_)
  refine h_adds (v := adK k fa) (fa := fa) hw h1 hq h3 hfa hQ (flK k) 0 0 [] (by omega) (fun j => by rw [Nat.zero_add]) h4 (by simp) ?_
  rw [exS_kit fa k 0 h2, Int32.zero_add]
end XK
