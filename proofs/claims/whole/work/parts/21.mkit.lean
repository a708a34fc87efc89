/-! the model: small methods; what a kitchen's tokens say -/
section MK
variable {d : Nat} {E : qE} {w : qW}
theorem p_Mo_in {Q : qW → Int32 → Prop} {x lo hi : Int32} (hw : Sh w) (h1 : ¬ x < lo → ¬ hi < x → Q w 1) (h0 : (x < lo ∨ hi < x) → Q w 0) : CaI d M_Mo_in [.ref (qb E + 115), .int x, .int lo, .int hi] E w Q :=
  en_Mo_in hw (s_Mo_in_0 hw ⟨fun z => h0 (Or.inl z), fun z => ⟨fun y => h0 (Or.inr y), fun y => h1 z y⟩⟩)
theorem p_Mo_least {Q : qW → Int32 → Prop} {x y : Int32} (hw : Sh w) (h : Q w (if y ≤ x then y else x)) : CaI d M_Mo_least [.ref (qb E + 115), .int x, .int y] E w Q :=
  en_Mo_least hw (s_Mo_least_0 hw ⟨fun z => by rw [if_pos z] at h; exact h, fun z => by rw [if_neg z] at h; exact h⟩)
/-- a token: 0 to 5 a test (fact, relation, number), 6 and, 7 or, 8 not -/
abbrev Tk : Type := Nat × Nat × Nat
def okT (t : Tk) : Prop := (t.1 < 6 ∧ t.2.1 < 3 ∧ t.2.2 < 100) ∨ t.1 = 6 ∨ t.1 = 7 ∨ t.1 = 8
def mcT (t : Tk) : Int32 := if t.1 = 6 then -38 else if t.1 = 7 then -124 else if t.1 = 8 then -33 else nI (1000 * t.1 + 100 * t.2.1 + t.2.2)
def tsT (fa : Nat → Int32) (t : Tk) : Bool := if t.2.1 = 0 then decide (fa t.1 < nI t.2.2) else if t.2.1 = 1 then decide (fa t.1 = nI t.2.2) else decide (nI t.2.2 < fa t.1)
def stT (fa : Nat → Int32) (t : Tk) (s : List Bool) : Option (List Bool) :=
  if t.1 = 6 then (match s with | b :: a :: r => some ((a && b) :: r) | _ => none)
  else if t.1 = 7 then (match s with | b :: a :: r => some ((a || b) :: r) | _ => none)
  else if t.1 = 8 then (match s with | b :: r => some ((!b) :: r) | _ => none)
  else some (tsT fa t :: s)
def evT (fa : Nat → Int32) : List Tk → List Bool → Option (List Bool)
  | [], s => some s
  | t :: r, s => (stT fa t s).bind (evT fa r)
def bI (b : Bool) : Int32 := if b = true then 1 else 0
theorem qz_bI (b : Bool) : qz (bI b) = bI b := by cases b <;> rfl
theorem ni_ne {v : Nat} (hv : v < 1000000) (k : Int32) (hk : k.toInt < 0) : ¬ nI v = k := by
  intro h
  have := congrArg Int32.toInt h
  rw [nI_toInt (by omega)] at this
  omega
theorem mc_t {k r n : Nat} (hk : k < 6) : mcT (k, r, n) = nI (1000 * k + 100 * r + n) := by
  show (if k = 6 then _ else if k = 7 then _ else if k = 8 then _ else _) = _
  rw [if_neg (by omega), if_neg (by omega), if_neg (by omega)]
theorem mc_1 {k r n : Nat} (hk : k < 6) (hr : r < 3) (hn : n < 100) : nI (1000 * k + 100 * r + n) / 1000 = nI k := by
  rw [show (1000 : Int32) = nI 1000 from rfl, pk_div (by omega) (by omega) (by omega), show (1000 * k + 100 * r + n) / 1000 = k by omega]
theorem mc_2 {k r n : Nat} (hk : k < 6) (hr : r < 3) (hn : n < 100) : nI (1000 * k + 100 * r + n) / 100 - nI (1000 * k + 100 * r + n) / 100 / 10 * 10 = nI r := by
  rw [show (100 : Int32) = nI 100 from rfl, pk_div (by omega) (by omega) (by omega), show (10 : Int32) = nI 10 from rfl, pk_rem (by omega) (by omega) (by omega), show (1000 * k + 100 * r + n) / 100 % 10 = r by omega]
theorem mc_3 {k r n : Nat} (hk : k < 6) (hr : r < 3) (hn : n < 100) : nI (1000 * k + 100 * r + n) - nI (1000 * k + 100 * r + n) / 100 * 100 = nI n := by
  rw [show (100 : Int32) = nI 100 from rfl, pk_rem (by omega) (by omega) (by omega), show (1000 * k + 100 * r + n) % 100 = n by omega]
theorem p_Mo_factOf {Q : qW → Int32 → Prop} {k i : Nat} (hw : Sh w) (hk : k < 6) (hi : i < 6) (h : Q w (fcP (PM w) i k)) : CaI d M_Mo_factOf [.ref (qb E + 115), .int (nI k), .int (nI i)] E w Q := by
  have hv : vp_in (nI i) 6 := nvp hi (by omega)
  have hc : (nI i).toNatClampNeg = i := ncl (by omega)
  have ha : ∀ a, a < 6 → pa (PM w) i a = qi w (116 + a) i := fun a h => by
    show (if i < 6 then (if a < 6 then _ else _) else _) = _
    rw [if_pos hi, if_pos h]
  refine en_Mo_factOf hw (s_Mo_factOf_0 hw ?_)
  have key : ∀ j : Nat, j < 6 → (nI k = nI j ↔ k = j) := fun j hj => neq (by omega) (by omega)
  refine ⟨fun z => ?_, fun z => ⟨hv, ?_⟩, fun z => ⟨hv, ?_⟩, fun z => ⟨hv, ?_⟩, fun z => ⟨hv, ?_⟩, fun z => ?_⟩
  · have e : k = 0 := (key 0 (by omega)).mp z
    subst e
    exact h
  · have e : k = 1 := (key 1 (by omega)).mp z
    subst e
    rw [hc, ← ha 0 (by omega)]
    exact h
  · have e : k = 2 := (key 2 (by omega)).mp z
    subst e
    rw [hc, ← ha 1 (by omega)]
    exact h
  · have e : k = 3 := (key 3 (by omega)).mp z
    subst e
    rw [hc, ← ha 2 (by omega)]
    exact h
  · have e : k = 4 := (key 4 (by omega)).mp z
    subst e
    rw [hc, ← ha 3 (by omega)]
    exact h
  · rw [nI_toInt (by omega)] at z
    have e : k = 5 := by omega
    subst e
    exact h
/-- the pile holds the stack, its top last -/
def PL (w : qW) (s : List Bool) : Prop := ∀ x, x < s.length → qi w 132 x = bI (s.getD (s.length - 1 - x) false)
theorem PL.top {b : Bool} {s : List Bool} (h : PL w (b :: s)) : qi w 132 s.length = bI b := by
  have := h s.length (by simp)
  simpa using this
theorem PL.pop {b : Bool} {s : List Bool} (h : PL w (b :: s)) : PL w s := by
  intro x hx
  have := h x (by simp; omega)
  rw [this]
  congr 1
  rw [show (b :: s).length - 1 - x = (s.length - 1 - x) + 1 by simp; omega, List.getD_cons_succ]
theorem PL.push {s : List Bool} (b : Bool) (h : PL w s) : PL (qpi w 132 s.length (bI b)) (b :: s) := by
  intro x hx
  by_cases e : x = s.length
  · subst e
    rw [qi_eq rfl rfl]
    simp
  · have hx : x < s.length := by simp at hx; omega
    rw [qi_j e, h x hx]
    congr 1
    rw [show (b :: s).length - 1 - x = (s.length - 1 - x) + 1 by simp; omega, List.getD_cons_succ]
def jPl (k _ : Nat) : Prop := k = 132
theorem PM_of {w1 : qW} (h : Fr jPl w w1) : PM w1 = PM w := by
  have g : ∀ k j : Nat, k ≠ 132 → qi w1 k j = qi w k j := fun k j n => (h k j n).1
  have ea : aM w1 = aM w := by
    funext i a
    unfold aM
    by_cases a1 : a < 6
    · rw [g (116 + a) i (by omega), g 122 _ (by omega)]
    · by_cases a2 : i < 6
      · rw [if_pos a2, if_pos a2, if_neg a1, if_neg a1, g 122 _ (by omega)]
      · rw [if_neg a2, if_neg a2]
  unfold PM
  rw [ea, g 115 0 (by omega), g 115 1 (by omega), g 115 2 (by omega), g 115 4 (by omega), g 115 3 (by omega), g 115 13 (by omega)]
set_option maxHeartbeats 2000000 in
theorem h_holds {Q : qW → Int32 → Prop} {c i e : Nat} {b : Bool} (hc : c < 60) (hi : i < 6) (he : e ≤ 600) (hto : qi w 128 c = nI e) (hQ : ∀ w1, Sh w1 → Fr jPl w w1 → Q w1 (bI b)) :
    ∀ (r : List Tk) (s : List Bool) (x : Nat) (w1 : qW), Sh w1 → Fr jPl w w1 → PL w1 s → s.length + r.length ≤ 100 → x + r.length = e → (∀ j t, r[j]? = some t → qi w 129 (x + j) = mcT t ∧ okT t) → evT (fcP (PM w) i) r s = some [b] → c_Mo_holds_10 d E Q (nI c) (nI i) (nI s.length) (nI x) w1 := by
  intro r
  induction r with
  | nil =>
    intro s x w1 hw1 hf hp hl hx hr hv
    have hs : s = [b] := Option.some.inj hv
    subst hs
    refine s_Mo_holds_10 hw1 ⟨nvp hc (by omega), fun _ => ?_, fun z => ?_⟩
    · rw [show (0 : Nat) = ([] : List Bool).length from rfl, hp.top, qz_bI]
      exact hQ w1 hw1 hf
    · refine absurd ?_ z
      rw [ncl (by omega), (hf 128 c (by unfold jPl; omega)).1, hto, nle (by omega) (by omega)]
      simp at hx
      omega
  | cons t r ih =>
    intro s x w1 hw1 hf hp hl hx hr hv
    simp only [List.length_cons] at hl hx
    obtain ⟨hcode, hok⟩ := hr 0 t rfl
    have hcode : qi w1 129 (nI x).toNatClampNeg = mcT t := by
      rw [ncl (by omega), (hf 129 x (by unfold jPl; omega)).1]
      exact hcode
    have hr' : ∀ j t, r[j]? = some t → qi w 129 (x + 1 + j) = mcT t ∧ okT t := fun j t' h => by
      have := hr (j + 1) t' h
      rw [show x + 1 + j = x + (j + 1) by omega]
      exact this
    have fpi : ∀ {w2 : qW} (y : Nat) (v : Int32), Fr jPl w w2 → Fr jPl w (qpi w2 132 y v) := fun y v h => h.pi rfl
    refine s_Mo_holds_10 hw1 ⟨nvp hc (by omega), fun z => ?_, fun _ => ⟨nvp (by omega) (by omega), ?_⟩⟩
    · refine absurd z ?_
      rw [ncl (by omega), (hf 128 c (by unfold jPl; omega)).1, hto, nle (by omega) (by omega)]
      omega
    rw [hcode, n1 x]
    have hv' : (stT (fcP (PM w) i) t s).bind (evT (fcP (PM w) i) r) = some [b] := hv
    obtain ⟨k, rl, n⟩ := t
    rcases hok with ⟨k1, k2, k3⟩ | rfl | rfl | rfl
    · -- a test
      rw [mc_t k1]
      refine ⟨fun _ => ⟨fun _ => ?_, fun z => absurd (nI_pos' (n := 1000 * k + 100 * rl + n) (by simp only at *; omega)) z⟩, fun z => absurd z (ni_ne (by simp only at *; omega) _ (by decide))⟩
      rw [mc_1 k1 k2 k3, mc_2 k1 k2 k3, mc_3 k1 k2 k3]
      refine p_Mo_factOf hw1 k1 hi ?_
      rw [PM_of hf]
      have hin : vp_in (nI s.length) 100 := nvp (by omega) (by omega)
      have hst : stT (fcP (PM w) i) (k, rl, n) s = some (tsT (fcP (PM w) i) (k, rl, n) :: s) := by
        simp only at k1
        show (if k = 6 then _ else if k = 7 then _ else if k = 8 then _ else _) = _
        rw [if_neg (by omega), if_neg (by omega), if_neg (by omega)]
      rw [hst] at hv'
      have go : ∀ v : Int32, v = bI (tsT (fcP (PM w) i) (k, rl, n)) → c_Mo_holds_10 d E Q (nI c) (nI i) (nI s.length + 1) (nI (x + 1)) (qpi w1 132 (nI s.length).toNatClampNeg v) := by
        intro v hv2
        rw [hv2, ncl (by omega), n1]
        exact ih (_ :: s) (x + 1) _ hw1 (fpi _ _ hf) (hp.push _) (by simp; omega) (by omega) hr' hv'
      have r0 : nI rl = 0 ↔ rl = 0 := neq (a := rl) (b := 0) (by simp only at *; omega) (by omega)
      have r1 : nI rl = 1 ↔ rl = 1 := neq (a := rl) (b := 1) (by simp only at *; omega) (by omega)
      refine ⟨fun z0 => ⟨fun z1 => ⟨fun z => ⟨hin, go _ ?_⟩, fun z => ⟨hin, go _ ?_⟩⟩, fun z1 => ⟨fun z => ⟨hin, go _ ?_⟩, fun z => ⟨hin, go _ ?_⟩⟩⟩, fun z0 => ⟨fun z => ⟨hin, go _ ?_⟩, fun z => ⟨hin, go _ ?_⟩⟩⟩
      · have a0 : ¬ rl = 0 := fun q => z0 (r0.mpr q)
        have a1 : ¬ rl = 1 := fun q => z1 (r1.mpr q)
        simp [tsT, a0, a1, bI, Int32.not_lt.mpr z]
      · have a0 : ¬ rl = 0 := fun q => z0 (r0.mpr q)
        have a1 : ¬ rl = 1 := fun q => z1 (r1.mpr q)
        simp [tsT, a0, a1, bI, Int32.not_le.mp z]
      · have a1 : rl = 1 := r1.mp z1
        simp [tsT, a1, bI, z]
      · have a1 : rl = 1 := r1.mp z1
        simp [tsT, a1, bI, z]
      · have a0 : rl = 0 := r0.mp z0
        simp [tsT, a0, bI, Int32.not_lt.mpr z]
      · have a0 : rl = 0 := r0.mp z0
        simp [tsT, a0, bI, Int32.not_le.mp z]
    · -- and
      match s, hp, hl, hv' with
      | b1 :: b2 :: s, hp, hl, hv' =>
        have e1 : nI (b1 :: b2 :: s).length + (-1) = nI (s.length + 1) := pk_m1 (s.length + 1)
        have e2 : nI (s.length + 1) - 1 = nI s.length := nI_pred s.length
        simp only [List.length_cons] at hl
        have g1 := hp.top
        have g2 := hp.pop.top
        rw [show mcT (6, rl, n) = -38 from rfl, e1, e2, ncl (a := s.length) (by omega), ncl (a := s.length + 1) (by omega), g2, show qi w1 132 (s.length + 1) = bI b1 from g1, qz_bI, qz_bI]
        have go : ∀ v : Int32, v = bI (b2 && b1) → c_Mo_holds_10 d E Q (nI c) (nI i) (nI (s.length + 1)) (nI (x + 1)) (qpi w1 132 s.length v) := by
          intro v hv2
          rw [hv2]
          exact ih ((b2 && b1) :: s) (x + 1) _ hw1 (fpi _ _ hf) (hp.pop.pop.push _) (by simp; omega) (by omega) hr' hv'
        have hin : vp_in (nI s.length) 100 := nvp (by omega) (by omega)
        have hin1 : vp_in (nI (s.length + 1)) 100 := nvp (by omega) (by omega)
        refine ⟨fun _ => ⟨fun z => absurd z (by decide), fun _ => ⟨fun z => absurd rfl z, fun _ => ⟨hin, fun z => ⟨hin, go _ ?_⟩, fun z => ⟨hin1, fun y => ⟨hin, go _ ?_⟩, fun y => ⟨hin, go _ ?_⟩⟩⟩⟩⟩, fun z => absurd z (by decide)⟩
        · cases b2 <;> simp [bI] at z ⊢
        · cases b1 <;> simp [bI] at y ⊢
        · cases b1 <;> cases b2 <;> simp [bI] at y z ⊢
      | [], hp, hl, hv' => exact absurd hv' (by simp [stT])
      | [_], hp, hl, hv' => exact absurd hv' (by simp [stT])
    · -- or
      match s, hp, hl, hv' with
      | b1 :: b2 :: s, hp, hl, hv' =>
        have e1 : nI (b1 :: b2 :: s).length + (-1) = nI (s.length + 1) := pk_m1 (s.length + 1)
        have e2 : nI (s.length + 1) - 1 = nI s.length := nI_pred s.length
        simp only [List.length_cons] at hl
        have g1 := hp.top
        have g2 := hp.pop.top
        rw [show mcT (7, rl, n) = -124 from rfl, e1, e2, ncl (a := s.length) (by omega), ncl (a := s.length + 1) (by omega), g2, show qi w1 132 (s.length + 1) = bI b1 from g1, qz_bI, qz_bI]
        have go : ∀ v : Int32, v = bI (b2 || b1) → c_Mo_holds_10 d E Q (nI c) (nI i) (nI (s.length + 1)) (nI (x + 1)) (qpi w1 132 s.length v) := by
          intro v hv2
          rw [hv2]
          exact ih ((b2 || b1) :: s) (x + 1) _ hw1 (fpi _ _ hf) (hp.pop.pop.push _) (by simp; omega) (by omega) hr' hv'
        have hin : vp_in (nI s.length) 100 := nvp (by omega) (by omega)
        have hin1 : vp_in (nI (s.length + 1)) 100 := nvp (by omega) (by omega)
        refine ⟨fun _ => ⟨fun z => absurd z (by decide), fun _ => ⟨fun _ => ⟨hin, fun z => ⟨hin, go _ ?_⟩, fun z => ⟨hin1, fun y => ⟨hin, go _ ?_⟩, fun y => ⟨hin, go _ ?_⟩⟩⟩, fun z => absurd z (by decide)⟩⟩, fun z => absurd z (by decide)⟩
        · cases b2 <;> simp [bI] at z ⊢
        · cases b1 <;> cases b2 <;> simp [bI] at y z ⊢
        · cases b1 <;> cases b2 <;> simp [bI] at y z ⊢
      | [], hp, hl, hv' => exact absurd hv' (by simp [stT])
      | [_], hp, hl, hv' => exact absurd hv' (by simp [stT])
    · -- not
      match s, hp, hl, hv' with
      | b1 :: s, hp, hl, hv' =>
        have e2 : nI (b1 :: s).length - 1 = nI s.length := nI_pred s.length
        simp only [List.length_cons] at hl
        have g1 := hp.top
        rw [show mcT (8, rl, n) = -33 from rfl, e2, ncl (a := s.length) (by omega), g1, qz_bI]
        have go : ∀ v : Int32, v = bI (!b1) → c_Mo_holds_10 d E Q (nI c) (nI i) (nI (b1 :: s).length) (nI (x + 1)) (qpi w1 132 s.length v) := by
          intro v hv2
          rw [hv2]
          exact ih ((!b1) :: s) (x + 1) _ hw1 (fpi _ _ hf) (hp.pop.push _) (by simp; omega) (by omega) hr' hv'
        have hin : vp_in (nI s.length) 100 := nvp (by omega) (by omega)
        refine ⟨fun z => absurd rfl z, fun _ => ⟨hin, fun z => ⟨hin, go _ ?_⟩, fun z => ⟨hin, go _ ?_⟩⟩⟩
        · cases b1 <;> simp [bI] at z ⊢
        · cases b1 <;> simp [bI] at z ⊢
      | [], hp, hl, hv' => exact absurd hv' (by simp [stT])
theorem p_Mo_holds {Q : qW → Int32 → Prop} {c i x : Nat} {b : Bool} {r : List Tk} (hw : Sh w) (hc : c < 60) (hi : i < 6) (he : x + r.length ≤ 600) (hl : r.length ≤ 100) (hfrom : qi w 127 c = nI x) (hto : qi w 128 c = nI (x + r.length)) (hr : ∀ j t, r[j]? = some t → qi w 129 (x + j) = mcT t ∧ okT t) (hv : evT (fcP (PM w) i) r [] = some [b]) (hQ : ∀ w1, Sh w1 → Fr jPl w w1 → Q w1 (bI b)) : CaI (d + 1) M_Mo_holds [.ref (qb E + 115), .int (nI c), .int (nI i)] E w Q := by
  refine en_Mo_holds hw (s_Mo_holds_0 hw ⟨nvp hc (by omega), ?_⟩)
  rw [ncl (by omega), hfrom]
  exact h_holds (b := b) hc hi he hto hQ r [] x w hw Fr.rf (fun x hx => by simp at hx) (by simpa using hl) rfl hr hv
end MK
