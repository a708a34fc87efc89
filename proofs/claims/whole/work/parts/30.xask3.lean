/-! the class's askings, on -/
section AY
variable {d : Nat} {E : qE} {w w0 : qW} {k : List Cl} {p : Pn} {M : Nat}
theorem p_first {Q : qW → Int32 → Prop} {r n j : Nat} (hw : Sh w) (hr : isRo r n) (hj : j < n) (h : Q w (qi w (r + 1) j)) : CaI d M_Ro_first [.ref (qb E + r), .int (nI j)] E w Q := by
  have hn := hr.le
  refine en_Ro_first hw (s_Ro_first_0 hw hr ⟨fun z => absurd z (nI_pos (by omega)), fun _ => pk_le n j (fun z => by omega) (fun _ => ⟨nvp hj (by omega), ?_⟩)⟩)
  rw [ncl (by omega)]
  exact h
theorem p_second {Q : qW → Int32 → Prop} {r n j : Nat} (hw : Sh w) (hr : isRo r n) (hj : j < n) (h : Q w (qi w (r + 2) j)) : CaI d M_Ro_second [.ref (qb E + r), .int (nI j)] E w Q := by
  have hn := hr.le
  refine en_Ro_second hw (s_Ro_second_0 hw hr ⟨fun z => absurd z (nI_pos (by omega)), fun _ => pk_le n j (fun z => by omega) (fun _ => ⟨nvp hj (by omega), ?_⟩)⟩)
  rw [ncl (by omega)]
  exact h
/-- rows done with -/
def don (A : Nat → Int32) (n i j : Nat) : Bool := decide ((A j).toNatClampNeg < n) || (decide ((A j).toNatClampNeg = n) && decide (j < i))
theorem don_iff {A : Nat → Int32} {n i j : Nat} : don A n i j = true ↔ (A j).toNatClampNeg < n ∨ ((A j).toNatClampNeg = n ∧ j < i) := by
  unfold don
  rw [Bool.or_eq_true, Bool.and_eq_true, decide_eq_true_iff, decide_eq_true_iff, decide_eq_true_iff]
theorem don_ne {A : Nat → Int32} {n i j m l : Nat} (h : ((A j).toNatClampNeg < n ∨ ((A j).toNatClampNeg = n ∧ j < i)) ↔ ((A j).toNatClampNeg < m ∨ ((A j).toNatClampNeg = m ∧ j < l))) : don A n i j = don A m l j := by
  rw [Bool.eq_iff_iff, don_iff, don_iff]
  exact h
theorem h_isAsSeen {Q : qW → Int32 → Prop} {cnt : Nat} (hc : cnt ≤ 5) (hcn : qi w0 6 2 = nI cnt) (hA : ∀ j, j < cnt → rg (qi w0 7 j) 12) (hQ : ∀ w1, XA k w0 w1 → Q w1 (bI (seenB k p (qi w0 7) (qi w0 8) cnt))) :
    ∀ (m n i M : Nat) (w : qW), (13 - n) * 7 + (6 - i) = m → n ≤ 13 → i ≤ cnt → M + (13 - n) ≤ 20000 → XA k w0 w → TX k M w (it k n p) → (∀ j, j < cnt → don (qi w0 7) n i j = true → pk (it k (qi w0 7 j).toNatClampNeg p) = qi w0 8 j) →
      (i = 0 → c_As_isAsSeen_12 d E Q (nI (cntP (don (qi w0 7) n 0) cnt)) (nI n) w) ∧ (n < 13 → c_As_isAsSeen_29 d E Q (nI (cntP (don (qi w0 7) n i) cnt)) (nI n) (nI i) w) := by
  intro m
  induction m using Nat.strongRecOn with
  | ind m ih =>
    intro n i M w hm hn hi hM h ht hs
    have hcw : qi w 6 2 = nI cnt := (h.2.1 6 2 (by unfold jAs; omega)).1.trans hcn
    have h7 : ∀ j, qi w (6 + 1) j = qi w0 7 j := fun j => (h.2.1 7 j (by unfold jAs; omega)).1
    have h8 : ∀ j, qi w (6 + 2) j = qi w0 8 j := fun j => (h.2.1 8 j (by unfold jAs; omega)).1
    have hl := cntP_le (don (qi w0 7) n i) cnt
    have hA' : ∀ j, j < cnt → (qi w0 7 j).toNatClampNeg ≤ 12 ∧ qi w0 7 j = nI (qi w0 7 j).toNatClampNeg := fun j hj => by
      obtain ⟨a, a1, a2⟩ := hA j hj
      rw [a2, ncl (by omega)]
      exact ⟨a1, rfl⟩
    have inner : n < 13 → c_As_isAsSeen_29 d E Q (nI (cntP (don (qi w0 7) n i) cnt)) (nI n) (nI i) w := by
      intro hn13
      refine s_As_isAsSeen_29 h.1 (pk_le cnt i (fun y => ?_) (fun y => ?_) hcw)
      · rw [n1]
        refine a_min h ht (by omega) (fun w1 h1 t1 => ?_)
        rw [← it_s] at t1
        have e : ∀ j, j < cnt → don (qi w0 7) (n + 1) 0 j = don (qi w0 7) n i j := fun j hj => don_ne (by omega)
        have := (ih ((13 - (n + 1)) * 7 + (6 - 0)) (by omega) (n + 1) 0 (M + 1) w1 rfl (by omega) (by omega) (by omega) h1 t1 (fun j hj hd => hs j hj (by rw [← e j hj]; exact hd))).1 rfl
        rw [cntP_ext e] at this
        exact this
      · refine p_first h.1 (isRo1 isWh5) (by omega) ?_
        rw [h7]
        obtain ⟨a1, a2⟩ := hA' i (by omega)
        rw [a2, n1 i]
        refine ⟨fun z => ?_, fun z => ?_⟩
        · have hne : ¬ (qi w0 7 i).toNatClampNeg = n := fun q => z (by rw [q])
          have e : ∀ j, j < cnt → don (qi w0 7) n (i + 1) j = don (qi w0 7) n i j := fun j hj => don_ne (by
            by_cases q : j = i
            · subst q; omega
            · omega)
          have := (ih ((13 - n) * 7 + (6 - (i + 1))) (by omega) n (i + 1) M w rfl (by omega) (by omega) (by omega) h ht (fun j hj hd => hs j hj (by rw [← e j hj]; exact hd))).2 hn13
          rw [cntP_ext e] at this
          exact this
        · have he : (qi w0 7 i).toNatClampNeg = n := (neq (by omega) (by omega)).mp z
          refine p_second h.1 (isRo1 isWh5) (by omega) ?_
          rw [h8, ht.col, n1]
          have hni : don (qi w0 7) n i i = false := by
            rw [← Bool.not_eq_true, don_iff]
            omega
          have hyi : don (qi w0 7) n (i + 1) i = true := don_iff.mpr (by omega)
          have eo : ∀ j, j < cnt → j ≠ i → don (qi w0 7) n (i + 1) j = don (qi w0 7) n i j := fun j hj q => don_ne (by omega)
          refine ⟨fun u => ?_, fun u => ?_⟩
          · have := (ih ((13 - n) * 7 + (6 - (i + 1))) (by omega) n (i + 1) M w rfl (by omega) (by omega) (by omega) h ht (fun j hj hd => by
              by_cases q : j = i
              · rw [q, he]; exact u.symm
              · exact hs j hj (by rw [← eo j hj q]; exact hd))).2 hn13
            rw [cntP_one (by omega) hni hyi eo] at this
            exact this
          · have hq := hQ w h
            have hf : seenB k p (qi w0 7) (qi w0 8) cnt = false := by
              rw [← Bool.not_eq_true, seenB_iff]
              intro hall
              have := hall i (by omega)
              rw [he] at this
              exact u this.symm
            rw [hf] at hq
            exact hq
    refine ⟨fun hi0 => ?_, inner⟩
    subst hi0
    have fin : (∀ j, j < cnt → don (qi w0 7) n 0 j = true) → Q w 1 := by
      intro hd
      have hq := hQ w h
      rw [seenB_iff.mpr (fun j hj => hs j hj (hd j hj))] at hq
      exact hq
    refine s_As_isAsSeen_12 h.1 (pk_lt 12 n (fun y => fin (fun j hj => ?_)) (fun y => pk_le cnt _ (fun z => fin (cntP_all z)) (fun _ => inner (by omega)) hcw))
    have := hA' j hj
    exact don_iff.mpr (by omega)
theorem x_isAsSeen {Q : qW → Int32 → Prop} {cnt : Nat} (h : XA k w0 w) (ht : TX k M w p) (hM : M ≤ 10000) (hc : cnt ≤ 5) (hcn : qi w0 6 2 = nI cnt) (hA : ∀ j, j < cnt → rg (qi w0 7 j) 12) (hQ : ∀ w1, XA k w0 w1 → Q w1 (bI (seenB k p (qi w0 7) (qi w0 8) cnt))) : CaI (d + 4) M_As_isAsSeen [.ref (qb E + 55)] E w Q := by
  have e0 : ∀ m, cntP (don (qi w0 7) 0 0) m = 0 := by
    intro m
    induction m with
    | zero => rfl
    | succ m ih =>
      show cntP _ m + _ = 0
      rw [ih]
      have : ¬ don (qi w0 7) 0 0 m = true := by rw [don_iff]; omega
      rw [if_neg this]
  have := (h_isAsSeen (d := d) (E := E) (p := p) hc hcn hA hQ _ 0 0 M w rfl (by omega) (by omega) (by omega) h ht (fun j hj hd => by rw [don_iff] at hd; omega)).1 rfl
  rw [e0] at this
  exact en_As_isAsSeen h.1 (s_As_isAsSeen_0 h.1 this)
theorem h_weights {Q : qW → Int32 → Prop} {cnt i : Nat} (hc : cnt ≤ 5) (hcn : qi w0 6 2 = nI cnt) (hA : ∀ j, j < cnt → rg (qi w0 7 j) 12) (hi : i < cN (nmP (PX 15 w0))) (hi6 : i < 6) (hQ : ∀ w1, XA k w0 w1 → Q w1 (wtI (fun n => seenB k (sA (nmP (PX 15 w0)) i 2 (nI n)) (qi w0 7) (qi w0 8) cnt) 21)) :
    ∀ (m n : Nat) (w : qW), n + m = 21 → XA k w0 w → c_As_weights_4 d E Q (nI i) (wtI (fun n => seenB k (sA (nmP (PX 15 w0)) i 2 (nI n)) (qi w0 7) (qi w0 8) cnt) n) (nI n) w := by
  intro m
  induction m with
  | zero =>
    intro n w hn h
    have : n = 21 := by omega
    subst this
    exact s_As_weights_4 h.1 (pk_lt 20 21 (fun _ => hQ w h) (fun z => by omega))
  | succ m ih =>
    intro n w hn h
    refine s_As_weights_4 h.1 (pk_lt 20 n (fun z => by omega) (fun _ => ?_))
    rw [n1]
    refine a_copy (d := d + 2) h (fun w1 h1 t1 => a_find h1 t1 hi6 (fun _ => Or.inr ⟨i, hi6, rfl, ?_⟩) (fun z => by omega))
    obtain ⟨h2, t2⟩ := a_wt (n := n) h1 t1 hi6 (by omega)
    refine x_isAsSeen (d := d) h2 t2 (by omega) hc hcn hA (fun w3 h3 => ?_)
    have e : wtI (fun n => seenB k (sA (nmP (PX 15 w0)) i 2 (nI n)) (qi w0 7) (qi w0 8) cnt) (n + 1) = wtI (fun n => seenB k (sA (nmP (PX 15 w0)) i 2 (nI n)) (qi w0 7) (qi w0 8) cnt) n ||| (if seenB k (sA (nmP (PX 15 w0)) i 2 (nI n)) (qi w0 7) (qi w0 8) cnt = true then 1 <<< (nI n &&& 31) else 0) := rfl
    have := ih (n + 1) w3 (by omega) h3
    rw [e] at this
    refine ⟨fun z => ?_, fun z => ?_⟩
    · rw [if_neg (by rw [(q01 _).1.mp z]; decide)] at this
      exact this
    · rw [if_pos ((q01 _).2.mp z)] at this
      exact this
theorem x_weights {Q : qW → Int32 → Prop} {cnt i : Nat} (h : XA k w0 w) (hc : cnt ≤ 5) (hcn : qi w0 6 2 = nI cnt) (hA : ∀ j, j < cnt → rg (qi w0 7 j) 12) (hi : i < cN (nmP (PX 15 w0))) (hi6 : i < 6) (hQ : ∀ w1, XA k w0 w1 → Q w1 (wtI (fun n => seenB k (sA (nmP (PX 15 w0)) i 2 (nI n)) (qi w0 7) (qi w0 8) cnt) 21)) : CaI (d + 5) M_As_weights [.ref (qb E + 55), .int (nI i)] E w Q :=
  en_As_weights h.1 (s_As_weights_0 h.1 (h_weights hc hcn hA hi hi6 hQ 21 0 w (by omega) h))
theorem h_firmness {Q : qW → Int32 → Prop} {cnt i : Nat} {a : Int32} (hc : cnt ≤ 5) (hcn : qi w0 6 2 = nI cnt) (hA : ∀ j, j < cnt → rg (qi w0 7 j) 12) (hi : i < cN (nmP (PX 15 w0))) (hi6 : i < 6) (hQ : ∀ w1, XA k w0 w1 → Q w1 (if a = 0 then (fmF (fun n => seenB k (sA (nmP (PX 15 w0)) i 1 (nI n)) (qi w0 7) (qi w0 8) cnt) 10).2 else nI (fmF (fun n => seenB k (sA (nmP (PX 15 w0)) i 1 (nI n)) (qi w0 7) (qi w0 8) cnt) 10).1)) :
    ∀ (n m : Nat) (w : qW) (x : Int32), m + n = 10 → (n = 0 → x = -1) → (0 < n → x = nI (n - 1)) → XA k w0 w → c_As_firmness_10 d E Q (nI i) a (nI (fmF (fun n => seenB k (sA (nmP (PX 15 w0)) i 1 (nI n)) (qi w0 7) (qi w0 8) cnt) m).1) (fmF (fun n => seenB k (sA (nmP (PX 15 w0)) i 1 (nI n)) (qi w0 7) (qi w0 8) cnt) m).2 x w := by
  intro n
  induction n with
  | zero =>
    intro m w x hm hx _ h
    have : m = 10 := by omega
    subst this
    rw [hx rfl]
    have hq := hQ w h
    refine s_As_firmness_10 h.1 ⟨fun _ => ⟨fun z => ?_, fun z => ?_⟩, fun z => absurd (by decide) z⟩
    · rw [if_pos z] at hq; exact hq
    · rw [if_neg z] at hq; exact hq
  | succ n ih =>
    intro m w x hm _ hx h
    rw [hx (by omega), show n + 1 - 1 = n by omega]
    refine s_As_firmness_10 h.1 ⟨fun z => absurd z (nI_pos (by omega)), fun _ => ?_⟩
    refine a_copy (d := d + 2) h (fun w1 h1 t1 => a_find h1 t1 hi6 (fun _ => Or.inr ⟨i, hi6, rfl, ?_⟩) (fun z => by omega))
    obtain ⟨h2, t2⟩ := a_v (n := n) h1 t1 hi6 (by omega)
    refine x_isAsSeen (d := d) h2 t2 (by omega) hc hcn hA (fun w3 h3 => ?_)
    have := ih (m + 1) w3 (nI n + -1) (by omega) (fun z => by rw [z]; rfl) (fun z => by
      obtain ⟨n', rfl⟩ : ∃ n', n = n' + 1 := ⟨n - 1, by omega⟩
      exact pk_m1 n') h3
    have e9 : 9 - m = n := by omega
    refine ⟨fun z => ?_, fun z => ?_⟩
    · rw [fmF_n (by rw [e9, (q01 _).1.mp z]; decide)] at this
      exact this
    · rw [fmF_s (by rw [e9]; exact (q01 _).2.mp z), e9] at this
      rw [n1]
      exact this
theorem x_firmness {Q : qW → Int32 → Prop} {cnt i : Nat} {a : Int32} (h : XA k w0 w) (hc : cnt ≤ 5) (hcn : qi w0 6 2 = nI cnt) (hA : ∀ j, j < cnt → rg (qi w0 7 j) 12) (hi : i < cN (nmP (PX 15 w0))) (hi6 : i < 6) (hQ : ∀ w1, XA k w0 w1 → Q w1 (if a = 0 then (fmF (fun n => seenB k (sA (nmP (PX 15 w0)) i 1 (nI n)) (qi w0 7) (qi w0 8) cnt) 10).2 else nI (fmF (fun n => seenB k (sA (nmP (PX 15 w0)) i 1 (nI n)) (qi w0 7) (qi w0 8) cnt) 10).1)) : CaI (d + 5) M_As_firmness [.ref (qb E + 55), .int (nI i), .int a] E w Q :=
  en_As_firmness h.1 (s_As_firmness_0 h.1 (h_firmness hc hcn hA hi hi6 hQ 10 0 w 9 (by omega) (fun z => by omega) (fun _ => rfl) h))
theorem h_sw2 {Q : qW → Int32 → Prop} {N : Nat} {x : Int32} (hN : N ≤ 60) (hQ : ∀ w1, XA k w0 w1 → Q w1 x) :
    ∀ (n i M : Nat) (w : qW) (p : Pn), i + n = N → M + n ≤ 20000 → XA k w0 w → TX k M w p → ps (it k n p) = x → c_As_setsWith_59 d E Q (nI N) (nI i) w := by
  intro n
  induction n with
  | zero =>
    intro i M w p hi hM h ht hx
    have : i = N := by omega
    subst this
    refine s_As_setsWith_59 h.1 ⟨fun _ => ?_, fun z => absurd (Int32.le_refl _) z⟩
    rw [ht.set]
    have hx' : ps p = x := hx
    rw [hx']
    exact hQ w h
  | succ n ih =>
    intro i M w p hi hM h ht hx
    refine s_As_setsWith_59 h.1 ⟨fun z => ?_, fun z => ?_⟩
    · exact absurd ((nI_leI (by omega) (by omega)).mp z) (by omega)
    rw [ht.set, n1]
    refine ⟨fun z => ?_, fun z => a_min h ht (by omega) (fun w1 h1 t1 => ih (i + 1) (M + 1) w1 _ (by omega) (by omega) h1 t1 hx)⟩
    rw [it_set z] at hx
    rw [hx]
    exact hQ w h
theorem h_sw {Q : qW → Int32 → Prop} {N b : Nat} (hN : N ≤ 60) (hb : b < 64) (hQ : ∀ w1, XA k w0 w1 → Q w1 (setsF k b N (nmP (PX 15 w0)))) :
    ∀ (n i : Nat) (w : qW), i + n = 6 → XA k w0 w → TX k 9999 w (putS b (cN (nmP (PX 15 w0))) (nmP (PX 15 w0)) i) → c_As_setsWith_16 d E Q (nI b) (nI N) (nI i) w := by
  intro n
  induction n with
  | zero =>
    intro i w hi h ht
    have : i = 6 := by omega
    subst this
    exact s_As_setsWith_16 h.1 (pk_le 6 6 (fun _ => h_sw2 hN hQ N 0 9999 w _ (by omega) (by omega) h ht rfl) (fun z => by omega))
  | succ n ih =>
    intro i w hi h ht
    refine s_As_setsWith_16 h.1 (pk_le 6 i (fun z => by omega) (fun _ => ?_))
    rw [n1]
    refine a_find h ht (by omega) (fun hc => Or.inr ⟨i, by omega, rfl, ?_⟩) (fun hc => Or.inl ⟨rfl, ?_⟩)
    · rw [putS_cN] at hc
      have hk := bit_ck i (by omega) b hb
      refine ⟨fun z => ih (i + 1) w (by omega) h ?_, fun z => a_put h ht (by omega) (fun w1 h1 t1 => ih (i + 1) w1 (by omega) h1 ?_)⟩
      · rw [putS_n (fun y => z (hk.mpr y.2))]
        exact ht
      · rw [putS_s ⟨hc, hk.mp z⟩]
        exact t1
    · rw [putS_cN] at hc
      refine ih (i + 1) w (by omega) h ?_
      rw [putS_n (by omega)]
      exact ht
theorem x_setsWith {Q : qW → Int32 → Prop} {N b : Nat} (h : XA k w0 w) (hN : N ≤ 60) (hb : b < 64) (hQ : ∀ w1, XA k w0 w1 → Q w1 (setsF k b N (nmP (PX 15 w0)))) : CaI (d + 4) M_As_setsWith [.ref (qb E + 55), .int (nI b), .int (nI N)] E w Q :=
  en_As_setsWith h.1 (s_As_setsWith_0 h.1 (a_copy (d := d + 1) h (fun w1 h1 t1 => h_sw hN hb hQ 6 0 w1 (by omega) h1 t1)))
theorem setsF_01 {p : Pn} {b n : Nat} (h : ps p = 0 ∨ ps p = 1) : setsF k b n p = 0 ∨ setsF k b n p = 1 := by
  have e : ∀ i, ps (putS b (cN p) p i) = ps p := by
    intro i
    induction i with
    | zero => rfl
    | succ i ih =>
      by_cases z : i < cN p ∧ bt b i = true
      · rw [putS_s z]; exact ih
      · rw [putS_n z]; exact ih
  have m : ∀ n q, (ps q = 0 ∨ ps q = 1) → ps (it k n q) = 0 ∨ ps (it k n q) = 1 := by
    intro n
    induction n with
    | zero => intro q h; exact h
    | succ n ih =>
      intro q h
      refine ih (mi k q) ?_
      show seP _ _ q = 0 ∨ seP _ _ q = 1
      unfold seP
      split
      · exact h
      · split
        · exact Or.inl rfl
        · exact Or.inr rfl
  exact m n _ (by rw [e]; exact h)
def SB (k : List Cl) (n : Nat) (p : Pn) (b : Nat) : Bool := decide (¬ setsF k b n p = 0)
theorem h_fewest {Q : qW → Int32 → Prop} {N u : Nat} (hN : N ≤ 60) (hu : u < 64) (hQ : ∀ w1, XA k w0 w1 → Q w1 (enF (subU u) (SB k N (nmP (PX 15 w0))) 64).2) :
    ∀ (n b : Nat) (w : qW), b + n = 64 → XA k w0 w → c_As_fewest_22 d E Q (nI N) (nI u) (nI (enF (subU u) (SB k N (nmP (PX 15 w0))) b).1) (enF (subU u) (SB k N (nmP (PX 15 w0))) b).2 (nI b) w := by
  intro n
  induction n with
  | zero =>
    intro b w hb h
    have : b = 64 := by omega
    subst this
    exact s_As_fewest_22 h.1 (pk_le 64 64 (fun _ => hQ w h) (fun z => by omega))
  | succ n ih =>
    intro b w hb h
    have h7 := enF_7 (subU u) (SB k N (nmP (PX 15 w0))) b
    have hp := pop_6 b
    have hk := sub_ck b (by omega) u hu
    have no : ¬ (subU u b = true ∧ pop b < (enF (subU u) (SB k N (nmP (PX 15 w0))) b).1 ∧ SB k N (nmP (PX 15 w0)) b = true) → ∀ w1, XA k w0 w1 → c_As_fewest_22 d E Q (nI N) (nI u) (nI (enF (subU u) (SB k N (nmP (PX 15 w0))) b).1) (enF (subU u) (SB k N (nmP (PX 15 w0))) b).2 (nI (b + 1)) w1 := by
      intro z w1 h1
      have := ih (b + 1) w1 (by omega) h1
      rw [enF_n z] at this
      exact this
    refine s_As_fewest_22 h.1 (pk_le 64 b (fun z => by omega) (fun _ => p_bitCount h.1 (by omega) ?_))
    rw [n1]
    refine ⟨fun z => no (fun y => z (hk.mpr y.1)) w h, fun z => pk_le (enF (subU u) (SB k N (nmP (PX 15 w0))) b).1 (pop b) (fun y => no (fun x => by omega) w h) (fun y => x_setsWith h hN (by omega) (fun w1 h1 => ⟨fun v => no (fun x => absurd v (of_decide_eq_true x.2.2)) w1 h1, fun v => ?_⟩))⟩
    have := ih (b + 1) w1 (by omega) h1
    rw [enF_s ⟨hk.mp z, y, decide_eq_true v⟩] at this
    exact this
theorem nm_stN (p : Pn) (st : Int32) (n : Nat) : stN (nmP p) st n = stN p st n := by
  induction n with
  | zero => rfl
  | succ n ih =>
    show (if _ then _ else _) = (if _ then _ else _)
    rw [ih, nm_a (by omega)]
theorem nm_bsP (p : Pn) (st : Int32) : bsP (nmP p) st = bsP p st := nm_stN p st _
theorem x_fewest {Q : qW → Int32 → Prop} {N : Nat} (h : XA k w0 w) (hN : N ≤ 60) (hQ : ∀ w1, XA k w0 w1 → Q w1 (enF (subU (bsP (nmP (PX 15 w0)) 0)) (SB k N (nmP (PX 15 w0))) 64).2) : CaI (d + 5) M_As_fewest [.ref (qb E + 55), .int (nI N)] E w Q := by
  refine en_As_fewest h.1 (s_As_fewest_0 h.1 (p_Pa_bitsOf h.1 pan15 h.2.2.1.1 ?_))
  have e : bsP (PX 15 w) 0 = bsP (nmP (PX 15 w0)) 0 := by rw [h.2.2.2, nm_bsP]
  have hu := bsP_lt 0 h.2.2.1.1
  rw [e] at hu ⊢
  exact h_fewest hN hu hQ 64 0 w (by omega) h
theorem h_chances {Q : qW → Int32 → Prop} {N u : Nat} (hN : N ≤ 60) (hu : u < 64) (hQ : ∀ w1, XA k w0 w1 → Q w1 (nI (chF u (SB k N (nmP (PX 15 w0))) 6))) :
    ∀ (n i : Nat) (w : qW), i + n = 6 → XA k w0 w → c_As_chances_17 d E Q (nI N) (nI u) (nI (chF u (SB k N (nmP (PX 15 w0))) i)) (nI i) w := by
  intro n
  induction n with
  | zero =>
    intro i w hi h
    have : i = 6 := by omega
    subst this
    exact s_As_chances_17 h.1 (pk_le 6 6 (fun _ => hQ w h) (fun z => by omega))
  | succ n ih =>
    intro i w hi h
    have hk := bit_ck i (by omega) u hu
    have e : chF u (SB k N (nmP (PX 15 w0))) (i + 1) = if bt u i = true ∧ SB k N (nmP (PX 15 w0)) (2 ^ i) = true then chF u (SB k N (nmP (PX 15 w0))) i + 1 else chF u (SB k N (nmP (PX 15 w0))) i := rfl
    refine s_As_chances_17 h.1 (pk_le 6 i (fun z => by omega) (fun _ => ?_))
    rw [n1, n1, bit_1 i (by omega)]
    refine ⟨fun z => ?_, fun z => x_setsWith h hN ?_ (fun w1 h1 => ⟨fun v => ?_, fun v => ?_⟩)⟩
    · have := ih (i + 1) w (by omega) h
      rw [e, if_neg (fun y => z (hk.mpr y.1))] at this
      exact this
    · exact Nat.lt_of_le_of_lt (Nat.pow_le_pow_right (by decide) (show i ≤ 5 by omega)) (by decide)
    · have := ih (i + 1) w1 (by omega) h1
      rw [e, if_neg (fun x => absurd v (of_decide_eq_true x.2))] at this
      exact this
    · have := ih (i + 1) w1 (by omega) h1
      rw [e, if_pos ⟨hk.mp z, decide_eq_true v⟩] at this
      exact this
theorem x_chances {Q : qW → Int32 → Prop} {N : Nat} (h : XA k w0 w) (hN : N ≤ 60) (hQ : ∀ w1, XA k w0 w1 → Q w1 (nI (chF (bsP (nmP (PX 15 w0)) 0) (SB k N (nmP (PX 15 w0))) 6))) : CaI (d + 5) M_As_chances [.ref (qb E + 55), .int (nI N)] E w Q := by
  refine en_As_chances h.1 (s_As_chances_0 h.1 (p_Pa_bitsOf h.1 pan15 h.2.2.1.1 ?_))
  have e : bsP (PX 15 w) 0 = bsP (nmP (PX 15 w0)) 0 := by rw [h.2.2.2, nm_bsP]
  have hu := bsP_lt 0 h.2.2.1.1
  rw [e] at hu ⊢
  exact h_chances hN hu hQ 6 0 w (by omega) h
end AY
