/-! the model reads a clause, a text -/
section RT
variable {d : Nat} {E : qE} {S : Nat → Nat} {L p q f x : Nat} {w w0 w1 : qW} {k : List Cl}
def hdI (S : Nat → Nat) (p : Nat) : Nat := if S p = 110 then 0 else if S p = 100 then 1 else 2
def hdK (i : Nat) : Nat := if i = 0 then 2 else if i = 1 then 0 else 1
theorem hdI_3 (S : Nat → Nat) (p : Nat) : hdI S p < 3 := by
  unfold hdI
  split
  · omega
  · split <;> omega
theorem hdK_n {i : Nat} (h : ¬ i = 0) : hdK i ≤ 1 := by
  unfold hdK
  rw [if_neg h]
  split <;> omega
theorem clP_eq (n : Nat) : clP S n p = mC (wdP S (wdS (hdI S p)) p) S (fun v q => if hdI S p = 0 then (some (2, v, []), q) else tlC S n (hdK (hdI S p)) v q) := by
  unfold clP
  by_cases h1 : S p = 110
  · have e : hdI S p = 0 := if_pos h1
    rw [e, if_pos h1]
    rfl
  rw [if_neg h1]
  by_cases h2 : S p = 100
  · have e : hdI S p = 1 := by
      unfold hdI
      rw [if_neg h1, if_pos h2]
    rw [e, if_pos h2]
    rfl
  · have e : hdI S p = 2 := by
      unfold hdI
      rw [if_neg h1, if_neg h2]
    rw [e, if_neg h2]
    rfl
theorem hC.and {r : Option Cl × Nat} {no no' : Nat → Prop} {ok ok' : Cl → Nat → Prop} (h : hC r no ok) (h2 : hC r no' ok') : hC r no (fun c q => ok c q ∧ ok' c q) := by
  rcases r with ⟨_ | t, q⟩
  · exact h
  · exact ⟨h, h2⟩
def jH (n k j : Nat) : Prop := (k = 115 ∧ (j = 15 ∨ j = 16)) ∨ (k = 125 ∧ j = n)
theorem m_head {Q : qW → Int32 → Prop} {n : Nat} (hn : n < 60) (hw : Sh w) (hr : rdM S L w) (hp : qi w 115 15 = nI p) (hl : p ≤ L) (hQ : hB (wdP S (wdS (hdI S p)) p) (fun q => ∀ w1, Sh w1 → Fr (jH n) w w1 → qi w1 115 15 = nI q → Q w1 0) (fun q => ∀ w1, Sh w1 → Fr (jH n) w w1 → qi w1 115 15 = nI q → qi w1 125 n = nI (hdK (hdI S p)) → Q w1 1)) : CaI (d + 3) M_Mo_takesHead [.ref (qb E + 115), .int (nI n)] E w Q := by
  have hS := hr.2.1
  have hL := hr.2.2.1
  have e99 : sgI S L p = 99 ↔ S p = 99 := sg_eq (c := 99) hS hL (by omega) (by omega)
  have e100 : sgI S L p = 100 ↔ S p = 100 := sg_eq (c := 100) hS hL (by omega) (by omega)
  have go : ∀ (i : Nat) (a b v : Int32), i < 3 → a = nI (frO i) → b = nI (mnO i) → v = nI (hdK i) → wdP S (wdS i) p = wdP S (wdS (hdI S p)) p → (i = hdI S p ∨ (wdP S (wdS (hdI S p)) p).1 = false) → vp_in (nI n) 60 ∧ CaI (d + 2) M_Mo_takesWord [.ref (qb E + 115), .int a, .int b] E (qpi w 125 (nI n).toNatClampNeg v) (fun w4 x4 => (x4 = 0 ∨ x4 = 1) ∧ (Q w4 x4)) := by
    intro i a b v hi ha hb hv he ho
    refine ⟨nvp hn (by omega), ?_⟩
    rw [ncl (by omega)]
    have f0 : Fr (jH n) w (qpi w 125 n v) := Fr.rf.pi (Or.inr ⟨rfl, rfl⟩)
    have p0 : qi (qpi w 125 n v) 115 15 = nI p := by
      rw [qi_k (by omega)]
      exact hp
    have v0 : qi (qpi w 125 n v) 125 n = v := qi_eq rfl rfl
    have s0 : Sh (qpi w 125 n v) := hw
    generalize qpi w 125 n v = W at f0 p0 v0 s0
    refine m_word hi ha hb s0 (hr.fr (f0.mono (fun k j z => by unfold jH at z; unfold jMr; omega))) p0 hl ?_
    have ff : ∀ {w1 : qW} {q : Nat}, MvM W w1 q → Fr (jH n) w w1 := fun m => f0.tr (m.2.1.mono (fun k j z => Or.inl z))
    rw [he]
    rcases ew : wdP S (wdS (hdI S p)) p with ⟨_ | _, q⟩
    · rw [ew] at hQ
      exact fun w1 m1 => ⟨Or.inl rfl, hQ w1 m1.1 (ff m1) m1.2.2⟩
    · rw [ew] at hQ ho
      have hi2 : i = hdI S p := ho.resolve_right (by simp)
      intro w1 m1
      refine ⟨Or.inr rfl, hQ w1 m1.1 (ff m1) m1.2.2 ?_⟩
      rw [(m1.2.1 125 n (by omega)).1, v0, hv, hi2]
  refine en_Mo_takesHead hw (s_Mo_takesHead_0 hw (m_next hw hr hp hl ⟨fun z => ?_, fun z => ?_, fun z1 z2 => ?_⟩))
  · rw [e99] at z
    have e : hdI S p = 2 := by
      unfold hdI
      rw [if_neg (by omega), if_neg (by omega)]
    exact go 2 4 5 1 (by omega) rfl rfl rfl (by rw [e]) (Or.inl e.symm)
  · rw [e100] at z
    have e : hdI S p = 1 := by
      unfold hdI
      rw [if_neg (by omega), if_pos z]
    exact go 1 0 4 0 (by omega) rfl rfl rfl (by rw [e]) (Or.inl e.symm)
  · rw [e99] at z1
    rw [e100] at z2
    by_cases h1 : S p = 110
    · have e : hdI S p = 0 := if_pos h1
      exact go 0 9 4 2 (by omega) rfl rfl rfl (by rw [e]) (Or.inl e.symm)
    · have e : hdI S p = 2 := by
        unfold hdI
        rw [if_neg h1, if_neg z2]
      have w2' : wdP S (wdS 2) p = (false, p) := if_neg z1
      have w0' : wdP S (wdS 0) p = (false, p) := if_neg h1
      exact go 0 9 4 2 (by omega) rfl rfl rfl (by rw [e, w2', w0']) (Or.inr (by rw [e, w2']))
/-- clause n of the model, its signs below x -/
def clM (w : qW) (n : Nat) (c : Cl) (x : Nat) : Prop := okC c ∧ qi w 125 n = nI c.1 ∧ qi w 126 n = nI c.2.1 ∧ (c.1 ≠ 2 → ∃ y, y + c.2.2.length ≤ x ∧ qi w 127 n = nI y ∧ qi w 128 n = nI (y + c.2.2.length) ∧ ∀ j t, c.2.2[j]? = some t → qi w 129 (y + j) = mcT t)
/-- what reading kitchen f changes -/
def jMd (f k j : Nat) : Prop := (k = 115 ∧ (j = 15 ∨ j = 16 ∨ (25 ≤ j ∧ j ≤ 27))) ∨ (k = 124 ∧ j = f) ∨ (125 ≤ k ∧ k ≤ 128 ∧ 10 * f ≤ j) ∨ (k = 129 ∧ 100 * f ≤ j) ∨ k = 130
/-- what reading clause n changes, with signs from x on -/
def jK (n x k j : Nat) : Prop := (k = 115 ∧ (j = 15 ∨ j = 16 ∨ (25 ≤ j ∧ j ≤ 27))) ∨ (125 ≤ k ∧ k ≤ 128 ∧ j = n) ∨ (k = 129 ∧ x ≤ j) ∨ k = 130
def TJ (w0 : qW) (f : Nat) (w : qW) (q : Nat) : Prop := Sh w ∧ Fr (jMd f) w0 w ∧ qi w 115 15 = nI q
def TS (w0 : qW) (f : Nat) (w : qW) (p : Nat) (k : List Cl) (x : Nat) : Prop := TJ w0 f w p ∧ qi w 115 25 = nI x ∧ 100 * f ≤ x ∧ x ≤ 100 * f + p ∧ ∀ i c, k[i]? = some c → clM w (10 * f + i) c x
theorem clM.fr {n m x1 : Nat} {c : Cl} (h : clM w m c x) (hm : m ≠ n) (hx : x ≤ x1) (hf : Fr (jK n x) w w1) : clM w1 m c x1 := by
  have g127 : qi w1 127 m = qi w 127 m := (hf 127 m (by unfold jK; omega)).1
  have g128 : qi w1 128 m = qi w 128 m := (hf 128 m (by unfold jK; omega)).1
  obtain ⟨h1, h2, h3, h4⟩ := h
  refine ⟨h1, ?_, ?_, fun z => ?_⟩
  · rw [(hf 125 m (by unfold jK; omega)).1]; exact h2
  · rw [(hf 126 m (by unfold jK; omega)).1]; exact h3
  · obtain ⟨y, y1, y2, y3, y4⟩ := h4 z
    refine ⟨y, by omega, ?_, ?_, fun j t ht => ?_⟩
    · rw [g127]; exact y2
    · rw [g128]; exact y3
    · have hj : j < c.2.2.length := (List.getElem?_eq_some_iff.mp ht).1
      rw [(hf 129 (y + j) (by unfold jK; omega)).1]
      exact y4 j t ht
theorem TJ.rd (h : TJ w0 f w p) (hr : rdM S L w0) : rdM S L w := hr.fr (h.2.1.mono (fun k j z => by unfold jMd at z; unfold jMr; omega))
theorem TS.no {n : Nat} (h : TS w0 f w p k x) (hn : n = 10 * f + k.length) (hw1 : Sh w1) (hf : Fr (jK n x) w w1) (hq : qi w1 115 15 = nI q) : TJ w0 f w1 q := by
  have hx := h.2.2.1
  exact ⟨hw1, h.1.2.1.tr (hf.mono (fun k j z => by unfold jK at z; unfold jMd; omega)), hq⟩
theorem TS.add {n x1 : Nat} {c : Cl} (h : TS w0 f w p k x) (hn : n = 10 * f + k.length) (hw1 : Sh w1) (hf : Fr (jK n x) w w1) (hq : qi w1 115 15 = nI q) (hx : qi w1 115 25 = nI x1) (hx1 : x ≤ x1) (hx2 : x1 ≤ 100 * f + q) (hc : clM w1 n c x1) : TS w0 f w1 q (k ++ [c]) x1 := by
  have hx0 := h.2.2.1
  refine ⟨h.no hn hw1 hf hq, hx, by omega, hx2, fun i c' hi => ?_⟩
  rcases getl hi with ⟨e1, e2⟩ | ⟨e1, e2⟩
  · rw [e1, e2, ← hn]
    exact hc
  · exact (h.2.2.2.2 i c' e2).fr (by omega) hx1 hf
set_option maxHeartbeats 1000000 in
theorem m_clause {Q : qW → Int32 → Prop} (hr : rdM S L w0) (hf : f < 6) (hk : k.length < 10) (h : TS w0 f w p k x) (hl : p ≤ L) (hQ : hC (clP S 203 p) (fun q => ∀ w1, TJ w0 f w1 q → Q w1 0) (fun c q => ∀ w1 x1, TS w0 f w1 q (k ++ [c]) x1 → Q w1 1)) : CaI (d + 5) M_Mo_takesClause [.ref (qb E + 115), .int (nI (10 * f + k.length))] E w Q := by
  have hL := hr.2.2.1
  have hL1 := hr.1
  have hQ2 := hQ.and (cl_ok hL hL1 (n := 203) hl)
  rw [clP_eq] at hQ2
  obtain ⟨n, hn⟩ : ∃ n, n = 10 * f + k.length := ⟨_, rfl⟩
  rw [← hn]
  have hn60 : n < 60 := by omega
  have hin : vp_in (nI n) 60 := nvp hn60 (by omega)
  have hcn : (nI n).toNatClampNeg = n := ncl (by omega)
  have hx0 := h.2.2.1
  have hx2 := h.2.2.2.1
  obtain ⟨a0, a5⟩ := wdS_0 (hdI S p) (hdI_3 S p)
  obtain ⟨a1, a2⟩ := wd_ok hL (wdS (hdI S p)) p a0 hl
  have hrw := h.1.rd hr
  refine en_Mo_takesClause h.1.1 (s_Mo_takesClause_0 h.1.1 (m_head hn60 h.1.1 hrw h.1.2.2 hl ?_))
  have fH : ∀ {w1 : qW}, Fr (jH n) w w1 → Fr (jK n x) w w1 := fun g => g.mono (fun k j z => by unfold jH at z; unfold jK; omega)
  rcases ew : wdP S (wdS (hdI S p)) p with ⟨_ | _, q1⟩
  · rw [ew] at hQ2
    have hQ3 : ∀ w1, TJ w0 f w1 q1 → Q w1 0 := hQ2
    exact fun w1 s1 g1 p1 => ⟨fun _ => hQ3 w1 (h.no hn s1 (fH g1) p1), fun y => absurd rfl y⟩
  rw [ew] at hQ2 a1 a2
  have a3 : q1 = p + (wdS (hdI S p)).length := a2 rfl
  have a1 : q1 ≤ L := a1
  have hQ2 : hC (nC (numP S q1) (fun v q => if hdI S p = 0 then (some (2, v, []), q) else tlC S 203 (hdK (hdI S p)) v q)) (fun q => ∀ w1, TJ w0 f w1 q → Q w1 0) (fun c q => (∀ w1 x1, TS w0 f w1 q (k ++ [c]) x1 → Q w1 1) ∧ gC L p c q) := hQ2
  intro w1 s1 g1 p1 k1
  have fw1 := fH g1
  have rdK : ∀ {w1 : qW}, Fr (jK n x) w w1 → rdM S L w1 := fun g => hrw.fr (g.mono (fun k j z => by unfold jK at z; unfold jMr; omega))
  refine ⟨fun y => absurd y (by decide), fun _ => m_num s1 (rdK fw1) p1 a1 ?_⟩
  rcases en : numP S q1 with ⟨_ | v, q2⟩
  · rw [en] at hQ2
    have hQ3 : ∀ w1, TJ w0 f w1 q2 → Q w1 0 := hQ2
    have e := num_no en
    subst e
    exact ⟨fun y => absurd rfl y, fun _ => hQ3 w1 (h.no hn s1 fw1 p1)⟩
  rw [en] at hQ2
  obtain ⟨b1, b2, b3⟩ := num_pos hL en
  have hQ2 : hC (if hdI S p = 0 then (some (2, v, []), q2) else tlC S 203 (hdK (hdI S p)) v q2) (fun q => ∀ w1, TJ w0 f w1 q → Q w1 0) (fun c q => (∀ w1 x1, TS w0 f w1 q (k ++ [c]) x1 → Q w1 1) ∧ gC L p c q) := hQ2
  intro w3 m3 v3
  have k3 : qi w3 125 n = nI (hdK (hdI S p)) := (m3.2.1 125 n (by omega)).1.trans k1
  have x3 : qi w3 115 25 = nI x := by
    rw [(m3.2.1 115 25 (by omega)).1, (g1 115 25 (by unfold jH; omega)).1]
    exact h.2.1
  have fw3 : Fr (jK n x) w w3 := fw1.tr (m3.2.1.mono (fun k j z => by unfold jK; omega))
  rw [v3, hcn]
  have fV : Fr (jK n x) w (qpi w3 126 n (nI v)) := fw3.pi (by unfold jK; omega)
  have kV : qi (qpi w3 126 n (nI v)) 125 n = nI (hdK (hdI S p)) := by
    rw [qi_k (by omega)]
    exact k3
  have nV : qi (qpi w3 126 n (nI v)) 126 n = nI v := qi_eq rfl rfl
  have xV : qi (qpi w3 126 n (nI v)) 115 25 = nI x := by
    rw [qi_k (by omega)]
    exact x3
  have pV : qi (qpi w3 126 n (nI v)) 115 15 = nI q2 := by
    rw [qi_k (by omega)]
    exact m3.2.2
  have sV : Sh (qpi w3 126 n (nI v)) := m3.1
  generalize qpi w3 126 n (nI v) = V at fV kV nV xV pV sV
  refine ⟨fun _ => ⟨hin, hin, ?_⟩, fun y => absurd y (by decide)⟩
  have two : (2 : Int32) = nI 2 := rfl
  by_cases hi : hdI S p = 0
  · rw [if_pos hi] at hQ2
    obtain ⟨hQ3, -, -, ok, -⟩ : (∀ w1 x1, TS w0 f w1 q2 (k ++ [(2, v, [])]) x1 → Q w1 1) ∧ gC L p (2, v, []) q2 := hQ2
    rw [hi] at kV
    have kV : qi V 125 n = nI 2 := kV
    refine ⟨fun _ => hQ3 V x (h.add hn sV fV pV xV (Nat.le_refl _) (by omega) ⟨ok, kV, nV, fun z => absurd rfl z⟩), fun z => absurd ?_ z⟩
    rw [kV]
    rfl
  · rw [if_neg hi] at hQ2
    have hk1 := hdK_n hi
    generalize hdK (hdI S p) = ki at hQ2 kV hk1
    refine ⟨fun z => absurd z (by rw [kV, two, neq (by omega) (by omega)]; omega), fun _ => ?_⟩
    unfold tlC at hQ2
    refine m_takes (c := 32) sV (rdK fV) pV b2 (by omega) (by omega) (fun z w8 m8 => ⟨fun y => absurd y (by decide), fun _ => ?_⟩) (fun z => ⟨fun _ => ?_, fun y => absurd rfl y⟩)
    · rw [if_pos z] at hQ2
      have lq := lt_L hL (p := q2) (by omega)
      have f8 : Fr (jK n x) w w8 := fV.tr (m8.2.1.mono (fun k j z => by unfold jK; omega))
      have x8 : qi w8 115 25 = nI x := (m8.2.1 115 25 (by omega)).1.trans xV
      have k8 : qi w8 125 n = nI ki := (m8.2.1 125 n (by omega)).1.trans kV
      have n8 : qi w8 126 n = nI v := (m8.2.1 126 n (by omega)).1.trans nV
      have fE : ∀ {w9 : qW}, Fr (fun k j => jE n x k j ∨ (k = 127 ∧ j = n)) w8 w9 → Fr (jK n x) w w9 := fun g => f8.tr (g.mono (fun k j z => by unfold jE at z; unfold jK; omega))
      refine m_takesE (x0 := x) (B := 100 * f) (c := n) m8.1 (rdK f8) m8.2.2 (by omega) x8 hn60 (by omega) (by omega) ?_
      rcases er : pE S 203 false false 0 (q2 + 1) with ⟨_ | t, q⟩
      · rw [er] at hQ2
        have hQ3 : ∀ w1, TJ w0 f w1 q → Q w1 0 := hQ2
        exact fun w9 s9 g9 p9 => ⟨fun _ => hQ3 w9 (h.no hn s9 (fE g9) p9), fun y => absurd rfl y⟩
      · rw [er] at hQ2
        obtain ⟨hQ3, c1, c2, ok, c4, -⟩ : (∀ w1 x1, TS w0 f w1 q (k ++ [(ki, v, t)]) x1 → Q w1 1) ∧ gC L p (ki, v, t) q := hQ2
        have el : (flC (ki, v, t)).length = t.length + 1 := by
          unfold flC
          rw [if_neg (show ¬ ki = 2 by omega), List.length_append]
          rfl
        rw [el] at c4
        intro w9 s9 g9 p9 x9 y127 y128 tk
        refine ⟨fun y => absurd y (by decide), fun _ => hQ3 w9 (x + t.length) (h.add hn s9 (fE g9) p9 x9 (by omega) (by omega) ⟨ok, ?_, ?_, fun _ => ⟨x, Nat.le_refl _, y127, y128, tk⟩⟩)⟩
        · rw [(g9 125 n (by unfold jE; omega)).1]
          exact k8
        · rw [(g9 126 n (by unfold jE; omega)).1]
          exact n8
    · rw [if_neg z] at hQ2
      have hQ3 : ∀ w1, TJ w0 f w1 q2 → Q w1 0 := hQ2
      exact hQ3 V (h.no hn sV fV pV)
theorem m_text {Q : qW → Int32 → Prop} (hr : rdM S L w0) (hf : f < 6) : ∀ (r p x : Nat) (k : List Cl) (w : qW), k.length + r = 10 → 0 < r → p ≤ L → TS w0 f w p k x → hT (txP S L 203 r p) (fun q => ∀ w1, TJ w0 f w1 q → Q w1 0) (fun k' q => ∀ w1 x1, TS w0 f w1 q (k ++ k') x1 → qi w1 124 f = nI (k ++ k').length → Q w1 1) → c_Mo_goesText_15 d E Q (nI f) (nI k.length) w := by
  have hL := hr.2.2.1
  have hL1 := hr.1
  have ten : (10 : Int32) = nI 10 := rfl
  intro r
  induction r with
  | zero => intro p x k w h1 h2; omega
  | succ r ih =>
    intro p x k w hk _ hp h hQ
    have hQ : hT (stT2 S L r (txP S L 203 r) (clP S 203 p)) (fun q => ∀ w1, TJ w0 f w1 q → Q w1 0) (fun k' q => ∀ w1 x1, TS w0 f w1 q (k ++ k') x1 → qi w1 124 f = nI (k ++ k').length → Q w1 1) := hQ
    refine s_Mo_goesText_15 h.1.1 ?_
    rw [ten, pk_mul, nI_add]
    refine m_clause hr hf (by omega) h hp ?_
    have hc := cl_ok hL hL1 (n := 203) hp
    rcases ec : clP S 203 p with ⟨_ | c, q⟩
    · rw [ec] at hQ
      have hQ : ∀ w1, TJ w0 f w1 q → Q w1 0 := hQ
      exact fun w1 h1 => ⟨fun y => absurd rfl y, fun _ => hQ w1 h1⟩
    rw [ec] at hQ hc
    obtain ⟨c1, c2, c3, c4, c5⟩ : gC L p c q := hc
    have hQ : hT (if q = L then (some [c], q) else if r = 0 then (none, q) else if S q = 59 then cT (txP S L 203 r (q + 1)) c else (none, q)) (fun q => ∀ w1, TJ w0 f w1 q → Q w1 0) (fun k' q => ∀ w1 x1, TS w0 f w1 q (k ++ k') x1 → qi w1 124 f = nI (k ++ k').length → Q w1 1) := hQ
    intro w1 x1 h1
    rw [ncl (by omega), n1]
    have hl : (k ++ [c]).length = k.length + 1 := by
      rw [List.length_append]
      rfl
    have hV : TS w0 f (qpi w1 124 f (nI (k.length + 1))) q (k ++ [c]) x1 := by
      obtain ⟨⟨a1, a2, a3⟩, y2, y3, y4, y5⟩ := h1
      refine ⟨⟨a1, a2.pi (by unfold jMd; omega), ?_⟩, ?_, y3, y4, fun i c' hi => ?_⟩
      · rw [qi_k (by omega)]; exact a3
      · rw [qi_k (by omega)]; exact y2
      · obtain ⟨z1, z2, z3, z4⟩ := y5 i c' hi
        refine ⟨z1, ?_, ?_, fun ne => ?_⟩
        · rw [qi_k (by omega)]; exact z2
        · rw [qi_k (by omega)]; exact z3
        · obtain ⟨y, u1, u2, u3, u4⟩ := z4 ne
          refine ⟨y, u1, ?_, ?_, fun j t ht => ?_⟩
          · rw [qi_k (by omega)]; exact u2
          · rw [qi_k (by omega)]; exact u3
          · rw [qi_k (by omega)]; exact u4 j t ht
    have cV : qi (qpi w1 124 f (nI (k.length + 1))) 124 f = nI (k.length + 1) := qi_eq rfl rfl
    generalize qpi w1 124 f (nI (k.length + 1)) = V at hV cV
    have e15 : qi V 115 15 = nI q := hV.1.2.2
    have e14 : qi V 115 14 = nI L := (hV.1.rd hr).2.2.2.1
    rw [e15, e14, neq (by omega) (by omega), neq (by omega) (by omega)]
    refine ⟨fun _ => ⟨nvp hf (by omega), fun z => ⟨fun z2 => ?_, fun z2 => ?_⟩, fun z => ?_⟩, fun y => absurd y (by decide)⟩
    · rw [if_neg z, if_pos (by omega)] at hQ
      exact hQ V hV.1
    · rw [if_neg z, if_neg (by omega)] at hQ
      refine m_takes (c := 59) hV.1.1 (hV.1.rd hr) e15 c2 (by omega) (by omega) (fun z3 w2 m2 => ⟨fun _ => ?_, fun y => absurd y (by decide)⟩) (fun z3 => ⟨fun y => absurd rfl y, fun _ => ?_⟩)
      · rw [if_pos z3, hT_cT] at hQ
        have lq := lt_L hL (p := q) (by omega)
        rw [← hl]
        have h2 : TS w0 f w2 (q + 1) (k ++ [c]) x1 := by
          obtain ⟨⟨a1, a2, a3⟩, y2, y3, y4, y5⟩ := hV
          have g : ∀ k j, k ≠ 115 → qi w2 k j = qi V k j := fun k j z => (m2.2.1 k j (by omega)).1
          refine ⟨⟨m2.1, a2.tr (m2.2.1.mono (fun k j z => by unfold jMd; omega)), m2.2.2⟩, ?_, y3, by omega, fun i c' hi => ?_⟩
          · rw [(m2.2.1 115 25 (by omega)).1]; exact y2
          · obtain ⟨z1, z2, z3, z4⟩ := y5 i c' hi
            refine ⟨z1, ?_, ?_, fun ne => ?_⟩
            · rw [g _ _ (by omega)]; exact z2
            · rw [g _ _ (by omega)]; exact z3
            · obtain ⟨y, u1, u2, u3, u4⟩ := z4 ne
              refine ⟨y, u1, ?_, ?_, fun j t ht => ?_⟩
              · rw [g _ _ (by omega)]; exact u2
              · rw [g _ _ (by omega)]; exact u3
              · rw [g _ _ (by omega)]; exact u4 j t ht
        refine ih (q + 1) x1 (k ++ [c]) w2 (by omega) (by omega) (by omega) h2 (hQ.mono (fun q z => z) (fun k' q' _ z w3 x3 h3 c3 => z w3 x3 ?_ ?_))
        · rw [List.append_assoc] at h3
          exact h3
        · rw [List.append_assoc] at c3
          exact c3
      · rw [if_neg z3] at hQ
        exact hQ V hV.1
    · rw [if_pos z] at hQ
      exact hQ V x1 hV (by rw [hl]; exact cV)
theorem m_goesText {Q : qW → Int32 → Prop} (hw : Sh w) (hr : rdM S L w) (hf : f < 6) (hQ : hT (txP S L 203 10 0) (fun q => ∀ w1, TJ w f w1 q → Q w1 0) (fun k q => ∀ w1 x1, TS w f w1 q k x1 → qi w1 124 f = nI k.length → Q w1 1)) : CaI (d + 6) M_Mo_goesText [.ref (qb E + 115), .int (nI f)] E w Q := by
  refine en_Mo_goesText hw (s_Mo_goesText_0 hw ?_)
  rw [show (100 : Int32) = nI 100 from rfl, pk_mul]
  refine m_text hr hf 10 0 (100 * f) [] _ rfl (by omega) (Nat.zero_le _) ⟨⟨hw, (Fr.rf.pi (by unfold jMd; omega)).pi (by unfold jMd; omega), ?_⟩, qi_eq rfl rfl, Nat.le_refl _, Nat.le_refl _, fun i c hi => absurd hi (by simp)⟩ hQ
  rw [qi_j (by decide), qi_eq rfl rfl]
  rfl
end RT
