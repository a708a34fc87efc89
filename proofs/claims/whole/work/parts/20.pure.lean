/-! numbers, cells read behind changes, the abstract pan -/
section PU
theorem nle {a b : Nat} (ha : a < 1000000) (hb : b < 1000000) : nI a ≤ nI b ↔ a ≤ b := nI_leI (by omega) (by omega)
theorem nlt {a b : Nat} (ha : a < 1000000) (hb : b < 1000000) : nI a < nI b ↔ a < b := nI_ltI (by omega) (by omega)
theorem neq {a b : Nat} (ha : a < 1000000) (hb : b < 1000000) : nI a = nI b ↔ a = b := nI_eq (by omega) (by omega)
theorem ncl {a : Nat} (ha : a < 1000000) : (nI a).toNatClampNeg = a := nI_clamp (by omega)
theorem nvp {a n : Nat} (h : a < n) (hn : n < 1000000) : vp_in (nI a) n := vp_in_nI h (by omega)
theorem n6 : (6 : Int32) = nI 6 := rfl
theorem n4 : (4 : Int32) = nI 4 := rfl
theorem n1 (a : Nat) : nI a + 1 = nI (a + 1) := nI_1 a
variable {w : qW} {k j a c v n : Nat} {x : Int32} {y : Int64}
theorem qi_eq (h1 : a = k) (h2 : c = j) : qi (qpi w k j x) a c = x := by subst h1; subst h2; simp [qi, qpi]
theorem qi_k (h : a ≠ k) : qi (qpi w k j x) a c = qi w a c := by simp [qi, qpi, h]
theorem qi_j (h : c ≠ j) : qi (qpi w k j x) a c = qi w a c := by simp [qi, qpi, h]
theorem qi_ite : qi (qpi w k j x) a c = if a = k ∧ c = j then x else qi w a c := rfl
theorem ql_eq (h1 : a = k) (h2 : c = j) : ql (qpl w k j y) a c = y := by subst h1; subst h2; simp [ql, qpl]
theorem ql_k (h : a ≠ k) : ql (qpl w k j y) a c = ql w a c := by simp [ql, qpl, h]
theorem ql_j (h : c ≠ j) : ql (qpl w k j y) a c = ql w a c := by simp [ql, qpl, h]
theorem qr_eq (h1 : a = k) (h2 : c = j) : qr (qpr w k j v) a c = v := by subst h1; subst h2; simp [qr, qpr]
theorem qr_k (h : a ≠ k) : qr (qpr w k j v) a c = qr w a c := by simp [qr, qpr, h]
theorem qr_j (h : c ≠ j) : qr (qpr w k j v) a c = qr w a c := by simp [qr, qpr, h]
theorem qi_pl : qi (qpl w k j y) a c = qi w a c := rfl
theorem qi_pr : qi (qpr w k j v) a c = qi w a c := rfl
theorem ql_pi : ql (qpi w k j x) a c = ql w a c := rfl
theorem ql_pr : ql (qpr w k j v) a c = ql w a c := rfl
theorem qr_pi : qr (qpi w k j x) a c = qr w a c := rfl
theorem qr_pl : qr (qpl w k j y) a c = qr w a c := rfl
theorem qz0 : qz 0 = 0 := rfl
theorem qz1 : qz 1 = 1 := rfl
theorem qzz (x : Int32) : qz (qz x) = qz x := qz_of (qz_01 x)
theorem qz_ne {x : Int32} (h : ¬ qz x = 0) : qz x = 1 := (qz_01 x).resolve_left h
/-- the cells outside S are the same -/
def Fr (S : Nat → Nat → Prop) (w w1 : qW) : Prop := ∀ k j : Nat, ¬ S k j → qi w1 k j = qi w k j ∧ ql w1 k j = ql w k j ∧ qr w1 k j = qr w k j
theorem Fr.rf {S : Nat → Nat → Prop} {w : qW} : Fr S w w := fun _ _ _ => ⟨rfl, rfl, rfl⟩
theorem Fr.tr {S : Nat → Nat → Prop} {w w1 w2 : qW} (h : Fr S w w1) (h2 : Fr S w1 w2) : Fr S w w2 := fun k j n => ⟨(h2 k j n).1.trans (h k j n).1, (h2 k j n).2.1.trans (h k j n).2.1, (h2 k j n).2.2.trans (h k j n).2.2⟩
theorem Fr.mono {S S' : Nat → Nat → Prop} {w w1 : qW} (h : Fr S w w1) (hs : ∀ k j, S k j → S' k j) : Fr S' w w1 := fun k j n => h k j (fun q => n (hs k j q))
theorem Fr.pi {S : Nat → Nat → Prop} {w w1 : qW} {k j : Nat} {x : Int32} (h : Fr S w w1) (hs : S k j) : Fr S w (qpi w1 k j x) := fun a c n => by
  have : ¬ (a = k ∧ c = j) := fun q => n (by rw [q.1, q.2]; exact hs)
  exact ⟨by rw [qi_ite, if_neg this]; exact (h a c n).1, (h a c n).2.1, (h a c n).2.2⟩
theorem Fr.pl {S : Nat → Nat → Prop} {w w1 : qW} {k j : Nat} {x : Int64} (h : Fr S w w1) (hs : S k j) : Fr S w (qpl w1 k j x) := fun a c n => by
  have : ¬ (a = k ∧ c = j) := fun q => n (by rw [q.1, q.2]; exact hs)
  exact ⟨(h a c n).1, by show (if a = k ∧ c = j then x else ql w1 a c) = _; rw [if_neg this]; exact (h a c n).2.1, (h a c n).2.2⟩
theorem Fr.pr {S : Nat → Nat → Prop} {w w1 : qW} {k j x : Nat} (h : Fr S w w1) (hs : S k j) : Fr S w (qpr w1 k j x) := fun a c n => by
  have : ¬ (a = k ∧ c = j) := fun q => n (by rw [q.1, q.2]; exact hs)
  exact ⟨(h a c n).1, (h a c n).2.1, by show (if a = k ∧ c = j then x else qr w1 a c) = _; rw [if_neg this]; exact (h a c n).2.2⟩
/-- a pan: how many things, fire, colour, set, minute, its kitchen (cell and 1), of thing i: 0 kind, 1 v, 2 weight, 3 whose, 4 state, 5 time, 6 to 9 row, 10 number -/
abbrev Pn : Type := Int32 × Int32 × Int32 × Int32 × Int32 × Nat × (Nat → Nat → Int32)
def pc (p : Pn) : Int32 := p.1
def pf (p : Pn) : Int32 := p.2.1
def pk (p : Pn) : Int32 := p.2.2.1
def ps (p : Pn) : Int32 := p.2.2.2.1
def pm (p : Pn) : Int32 := p.2.2.2.2.1
def pr (p : Pn) : Nat := p.2.2.2.2.2.1
def pa (p : Pn) : Nat → Nat → Int32 := p.2.2.2.2.2.2
def aX (w : qW) (q i a : Nat) : Int32 := if i < 6 then (if a < 6 then qi w (q + 3 + 2 * i) (a + 1) else if a < 10 then qi w (q + 4 + 2 * i) (a - 6) else if a = 10 then qi w (q + 3 + 2 * i) 0 else 0) else 0
def aM (w : qW) (i a : Nat) : Int32 := if i < 6 then (if a < 6 then qi w (116 + a) i else if a < 10 then qi w 122 (4 * i + (a - 6)) else if a = 10 then nI i else 0) else 0
def PX (q : Nat) (w : qW) : Pn := (qi w q 0, qi w q 2, qi w q 3, qz (qi w q 4), qi w q 5, qr w q 6, aX w q)
def PM (w : qW) : Pn := (qi w 115 0, qi w 115 1, qi w 115 2, qz (qi w 115 4), qi w 115 3, (if qi w 115 13 < 0 then 2 else 77 + 4 * (qi w 115 13).toNatClampNeg), aM w)
def upA (f : Nat → Nat → Int32) (i a : Nat) (x : Int32) : Nat → Nat → Int32 := fun i' a' => if i' = i ∧ a' = a then x else f i' a'
/-- what a thing gives -/
def saidB (p : Pn) (i : Nat) : Nat → Bool
  | 0 => false
  | o + 1 => saidB p i o || (decide (o ≠ i) && decide (pa p o 3 = pa p i 3) && decide (pa p o 4 = 2))
def fcP (p : Pn) (i : Nat) : Nat → Int32 := fun f => if f = 0 then nI i else if f = 1 then pa p i 0 else if f = 2 then pa p i 1 else if f = 3 then pa p i 2 else if f = 4 then pa p i 3 else pm p - pm p / 10 * 10
def cN (p : Pn) : Nat := (pc p).toNatClampNeg
def gvP (ad : (Nat → Int32) → Int32) (p : Pn) (i : Nat) : Int32 :=
  if pa p i 0 = 1 then pa p i 2 + ad (fcP p i) + pa p i 1
  else if pa p i 0 = 2 then (pa p i 2 + ad (fcP p i)) / 2
  else if pa p i 0 = 3 then (if saidB p i (cN p) = true then 0 else pa p i 2 + ad (fcP p i))
  else if pa p i 0 = 4 then (if pf p ≤ 5 then pa p i 2 + ad (fcP p i) + pa p i 1 else 2 * (pa p i 2 + ad (fcP p i) + pa p i 1))
  else if pa p i 0 = 5 then (pa p i 2 + ad (fcP p i)) / 2 + (if 9 ≤ pa p i 5 then 9 else pa p i 5)
  else if pa p i 0 = 6 then (if saidB p i (cN p) = true then 0 else pa p i 2 + ad (fcP p i)) + pa p i (6 + (pm p - pm p / 4 * 4).toNatClampNeg)
  else pa p i 2 + ad (fcP p i)
def alP (ad : (Nat → Int32) → Int32) (p : Pn) : Nat → Int32
  | 0 => 0
  | i + 1 => alP ad p i + (if pa p i 4 = 1 then gvP ad p i else 0)
def tmP (cap : Int32) (p : Pn) : Nat → Nat → Nat → Int32
  | 0 => pa p
  | i + 1 => if pa p i 4 = 1 then upA (tmP cap p i) i 5 (if cap ≤ pa p i 5 + 1 then cap else pa p i 5 + 1) else tmP cap p i
def coP (ad : (Nat → Int32) → Int32) (p : Pn) : Int32 :=
  if ¬ ps p = 0 then pk p else if 0 ≤ pk p + pf p * alP ad p (cN p) then (if 99999 ≤ pk p + pf p * alP ad p (cN p) then 99999 else pk p + pf p * alP ad p (cN p)) else 0
def seP (ad : (Nat → Int32) → Int32) (nd : Int32) (p : Pn) : Int32 := if ¬ ps p = 0 then ps p else if coP ad p < nd then 0 else 1
/-- a minute goes -/
def miP (cap : Int32) (ad : (Nat → Int32) → Int32) (nd : Int32) (p : Pn) : Pn := (pc p, pf p, coP ad p, seP ad nd p, pm p + 1, pr p, tmP cap p (cN p))
def stB (p : Pn) (st : Int32) : Nat → Int32
  | 0 => 0
  | i + 1 => if pa p i 4 = st then stB p st i ||| (1 <<< (nI i &&& 31)) else stB p st i
/-- what holds of every pan that comes to be -/
def okP (p : Pn) : Prop := ∃ c : Nat, c ≤ 6 ∧ pc p = nI c ∧ (ps p = 0 ∨ ps p = 1) ∧ (∀ i, i < 6 → pa p i 10 = nI i) ∧ ∃ m : Nat, m ≤ 20000 ∧ pm p = nI m
end PU
