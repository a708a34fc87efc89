/-! the class's askings: fire, plan, rows -/
section AZ
variable {d : Nat} {E : qE} {w w0 : qW} {k : List Cl} {p : Pn} {M : Nat}
theorem p_absd {Q : qW → Int32 → Prop} {a b : Nat} (hw : Sh w) (ha : a < 1000000) (hb : b < 1000000) (h : Q w (nI (dst a b))) : CaI d M_Jm_abs [.int (nI a - nI b)] E w Q := by
  unfold dst at h
  refine en_Jm_abs hw (s_Jm_abs_0 hw ?_)
  by_cases z : a < b
  · rw [if_pos z] at h
    have hn : nI a - nI b < 0 := pk_sneg (by omega) z
    refine ⟨fun y => absurd y (Int32.not_le.mpr hn), fun _ => ?_⟩
    rw [Int32.neg_sub, pk_sub (by omega)]
    exact h
  · rw [if_neg z] at h
    rw [pk_sub (by omega)]
    exact ⟨fun _ => h, fun y => absurd (nI_pos' (by omega)) y⟩
theorem dst_le {a b B : Nat} (ha : a ≤ B) (hb : b ≤ B) : dst a b ≤ B := by
  unfold dst
  split <;> omega
theorem okR.it {T : Nat} {p : Pn} (h : okR M T p) (n : Nat) : ∃ M' T', okR M' T' (it k n p) ∧ M' ≤ M + n ∧ T' ≤ T + n ∨ 100000 < T + n := by
  induction n generalizing p M T with
  | zero => exact ⟨M, T, Or.inl ⟨h, by omega, by omega⟩⟩
  | succ n ih =>
    by_cases hb : 100000 < T + (n + 1)
    · exact ⟨0, 0, Or.inr hb⟩
    · obtain ⟨M', T', h3⟩ := ih (okR_mi (C := 9) (cap := 9) (T' := T + 1) (ad := adK k) (nd := ndK k) h rfl (by omega) (by omega) (by omega) (by omega))
      rcases h3 with ⟨h3, h4, h5⟩ | h3
      · exact ⟨M', T', Or.inl ⟨h3, by omega, by omega⟩⟩
      · omega
theorem it_col {T : Nat} {p : Pn} (h : okR M T p) (n : Nat) (hT : T + n ≤ 100000) : rg (pk (it k n p)) 99999 := by
  obtain ⟨M', T', ⟨h3, -, -⟩ | h3⟩ := h.it (k := k) n
  · exact h3.2.2.1
  · omega
theorem XA.ok (h : XA k w0 w) : okR 9999 9999 (nmP (PX 15 w0)) := by
  obtain ⟨h1, h2, h3, h4, h5, h6⟩ := h.2.2.1.1
  have e := h.2.2.2
  rw [e] at h1 h2 h3 h4 h5 h6
  refine ⟨h1, h2, h3, h4, h5, fun i hi => ?_⟩
  obtain ⟨a0, a1, a2, a3, a4, ⟨t, a5, a5'⟩, a6, a7⟩ := h6 i hi
  refine ⟨by rw [nm_a (by omega)]; exact a0, by rw [nm_a (by omega)]; exact a1, by rw [nm_a (by omega)]; exact a2, by rw [nm_a (by omega)]; exact a3, by rw [nm_a (by omega)]; exact a4, ?_, fun b hb => by rw [nm_a (by omega)]; exact a6 b hb, by rw [nm_a (by omega)]; exact a7⟩
  rw [nm_5, a5', m9_nI (by omega)]
  exact ⟨min t 9, by omega, rfl⟩
theorem rg_cl {x : Int32} {n : Nat} (h : rg x n) (hn : n < 1000000) : x = nI x.toNatClampNeg ∧ x.toNatClampNeg ≤ n := by
  obtain ⟨a, h1, rfl⟩ := h
  rw [ncl (by omega)]
  exact ⟨rfl, h1⟩
theorem dkF_le {n q : Nat} (ho : okR 9999 9999 p) (hn : n ≤ 60) (hq : q ≤ 9999) (f : Nat) (hf : f ≤ 9) : dkF k n q p f ≤ 99999 := by
  have h1 := it_col (k := k) (okR_F ho (x := nI f) ⟨f, hf, rfl⟩) n (by omega)
  exact dst_le (rg_cl h1 (by omega)).2 (by omega)
theorem h_flame {Q : qW → Int32 → Prop} {N q : Nat} (hN : N ≤ 60) (hq : q ≤ 9999) (hQ : ∀ w1, XA k w0 w1 → Q w1 (nI (flF (dkF k N q (nmP (PX 15 w0))) 100000 10).2)) :
    ∀ (n f : Nat) (w : qW), f + n = 10 → XA k w0 w → (flF (dkF k N q (nmP (PX 15 w0))) 100000 f).1 ≤ 100000 → c_As_nearestFire_9 d E Q (nI N) (nI q) (nI (flF (dkF k N q (nmP (PX 15 w0))) 100000 f).2) (nI (flF (dkF k N q (nmP (PX 15 w0))) 100000 f).1) (nI f) w := by
  intro n
  induction n with
  | zero =>
    intro f w hf h _
    have : f = 10 := by omega
    subst this
    exact s_As_nearestFire_9 h.1 (pk_lt 9 10 (fun _ => hQ w h) (fun z => by omega))
  | succ n ih =>
    intro f w hf h hle
    refine s_As_nearestFire_9 h.1 (pk_lt 9 f (fun z => by omega) (fun _ => ?_))
    rw [n1]
    refine a_copy (d := d + 2) h (fun w1 h1 t1 => ?_)
    obtain ⟨h2, t2⟩ := a_fire (x := nI f) h1 t1 ⟨f, by omega, rfl⟩
    refine a_mins (d := d) h2 t2 (by omega) (fun w3 h3 t3 => ?_)
    have hc := t3.ok.2.2.1
    obtain ⟨e1, e2⟩ := rg_cl hc (by omega)
    have hd := dkF_le (k := k) (p := nmP (PX 15 w0)) h.ok hN hq f (by omega)
    rw [t3.col, e1]
    refine p_absd h3.1 (by omega) (by omega) (pk_le (flF (dkF k N q (nmP (PX 15 w0))) 100000 f).1 (dkF k N q (nmP (PX 15 w0)) f) (fun z => ?_) (fun z => ?_) rfl rfl (by omega) (by omega))
    · have := ih (f + 1) w3 (by omega) h3
      rw [flF_n z] at this
      exact this hle
    · have := ih (f + 1) w3 (by omega) h3
      rw [flF_s (by omega)] at this
      exact this (by omega)
theorem x_flame {Q : qW → Int32 → Prop} {N q : Nat} (h : XA k w0 w) (hN : N ≤ 60) (hq : q ≤ 9999) (hQ : ∀ w1, XA k w0 w1 → Q w1 (nI (flF (dkF k N q (nmP (PX 15 w0))) 100000 10).2)) : CaI (d + 5) M_As_nearestFire [.ref (qb E + 55), .int (nI N), .int (nI q)] E w Q :=
  en_As_nearestFire h.1 (s_As_nearestFire_0 h.1 (h_flame hN hq hQ 10 0 w (by omega) h (by show 100000 ≤ 100000; omega)))
theorem x_follow {Q : qW → Prop} {x y : Int32} (h : XA k w0 w) (ht : TX k M w p) (hM : M ≤ 19000) (ho : okPl (cN p) x y) (hQ : ∀ w1, XA k w0 w1 → TX k (M + 1) w1 (folP k x y p) → Q w1) : CaV (d + 4) M_As_follow [.ref (qb E + 55), .int x, .int y] E w Q := by
  obtain ⟨⟨a, ha, rfl⟩, ho2, ho3⟩ := ho
  have mono : ∀ {w1 : qW} {q : Pn}, TX k M w1 q → TX k (M + 1) w1 q := fun t => ⟨t.1.mono (by omega) (by omega), t.2⟩
  obtain ⟨c, c1, c2, c3⟩ := ht.ok.c
  refine en_As_follow h.1 (s_As_follow_0 h.1 ?_)
  rcases (show a = 0 ∨ a = 1 ∨ a = 2 ∨ a = 3 by omega) with rfl | rfl | rfl | rfl
  · exact ⟨fun z => absurd rfl z, fun _ => a_min h ht (by omega) (fun w1 h1 t1 => hQ w1 h1 t1)⟩
  · refine ⟨fun _ => ⟨fun _ => ?_, fun z => absurd z (by decide)⟩, fun z => absurd z (by decide)⟩
    obtain ⟨i, hi, rfl⟩ := ho2 (Or.inl rfl)
    refine a_find h ht (by omega) (fun _ => Or.inr ⟨i, by omega, rfl, ?_⟩) (fun z => by omega)
    rw [ht.st (by omega)]
    have e : folP k (nI 1) (nI i) p = if pa p i 4 = 0 then puP i p else p := by
      show (if pa p (nI i).toNatClampNeg 4 = 0 then puP (nI i).toNatClampNeg p else p) = _
      rw [ncl (by omega)]
    rw [e] at hQ
    refine ⟨fun z => absurd rfl z, fun _ => ⟨fun z => ⟨fun _ => ?_, fun y => absurd y (by decide)⟩, fun z => a_put h ht (by omega) (fun w1 h1 t1 => ?_)⟩⟩
    · rw [if_neg z] at hQ
      exact hQ w h (mono ht)
    · rw [if_pos z] at hQ
      exact hQ w1 h1 (mono t1)
  · refine ⟨fun _ => ⟨fun _ => ?_, fun z => absurd z (by decide)⟩, fun z => absurd z (by decide)⟩
    obtain ⟨i, hi, rfl⟩ := ho2 (Or.inr rfl)
    refine a_find h ht (by omega) (fun _ => Or.inr ⟨i, by omega, rfl, ?_⟩) (fun z => by omega)
    rw [ht.st (by omega)]
    have e : folP k (nI 2) (nI i) p = if pa p i 4 = 2 then p else spP i p := by
      show (if pa p (nI i).toNatClampNeg 4 = 2 then p else spP (nI i).toNatClampNeg p) = _
      rw [ncl (by omega)]
    rw [e] at hQ
    refine ⟨fun _ => ⟨fun z => absurd rfl z, fun _ => ⟨fun z => ?_, fun z => a_sp (d := d + 2) h ht (by omega) (fun w1 h1 t1 => ?_)⟩⟩, fun z => absurd z (by decide)⟩
    · rw [if_pos z] at hQ
      exact hQ w h (mono ht)
    · rw [if_neg z] at hQ
      exact hQ w1 h1 (mono t1)
  · refine ⟨fun _ => ⟨fun z => absurd rfl z, fun _ => ?_⟩, fun z => absurd z (by decide)⟩
    obtain ⟨h1, t1⟩ := a_fire h ht (ho3 rfl)
    exact hQ _ h1 (mono t1)
theorem fol_cN (x y : Int32) (p : Pn) : cN (folP k x y p) = cN p := by
  unfold folP
  split
  · rfl
  · split
    · rfl
    · split
      · split <;> rfl
      · split
        · split <;> rfl
        · rfl
theorem pl_cN (A B : Nat → Int32) (p : Pn) (n : Nat) : cN (plF k A B p n) = cN p := by
  induction n with
  | zero => rfl
  | succ n ih =>
    show cN (folP k _ _ _) = _
    rw [fol_cN, ih]
theorem h_planned {Q : qW → Int32 → Prop} {a : Int32} {cnt : Nat} (hc : cnt ≤ 10) (hcn : qi w0 9 2 = nI cnt) (hA : ∀ j, j < cnt → okPl (cN (nmP (PX 15 w0))) (qi w0 10 j) (qi w0 11 j)) (hQ : ∀ w1, XA k w0 w1 → Q w1 (if a = 0 then nI (bsP (plF k (qi w0 10) (qi w0 11) (nmP (PX 15 w0)) cnt) 1) else pk (plF k (qi w0 10) (qi w0 11) (nmP (PX 15 w0)) cnt))) :
    ∀ (n i : Nat) (w : qW), i + n = cnt → XA k w0 w → TX k (9999 + i) w (plF k (qi w0 10) (qi w0 11) (nmP (PX 15 w0)) i) → c_As_planned_16 d E Q a (nI i) w := by
  intro n
  induction n with
  | zero =>
    intro i w hi h ht
    have : i = cnt := by omega
    subst this
    have hq := hQ w h
    refine s_As_planned_16 h.1 (pk_le i i (fun _ => ⟨fun z => p_Pa_bitsOf h.1 pan58 ht.1 ?_, fun z => ?_⟩) (fun z => by omega) ((h.2.1 9 2 (by unfold jAs; omega)).1.trans hcn))
    · rw [if_pos z] at hq
      rw [← nm_bsP, ht.2.1]
      exact hq
    · rw [if_neg z] at hq
      rw [ht.col]
      exact hq
  | succ n ih =>
    intro i w hi h ht
    refine s_As_planned_16 h.1 (pk_le cnt i (fun z => by omega) (fun _ => ?_) ((h.2.1 9 2 (by unfold jAs; omega)).1.trans hcn))
    rw [n1]
    refine p_first h.1 (isRo2 isWh5) (by omega) (p_second h.1 (isRo2 isWh5) (by omega) ?_)
    rw [(h.2.1 (5 + 4 + 1) i (by unfold jAs; omega)).1, (h.2.1 (5 + 4 + 2) i (by unfold jAs; omega)).1]
    refine x_follow (d := d) h ht (by omega) ?_ (fun w1 h1 t1 => ih (i + 1) w1 (by omega) h1 t1)
    rw [pl_cN]
    exact hA i (by omega)
theorem x_planned {Q : qW → Int32 → Prop} {a : Int32} {cnt : Nat} (h : XA k w0 w) (hc : cnt ≤ 10) (hcn : qi w0 9 2 = nI cnt) (hA : ∀ j, j < cnt → okPl (cN (nmP (PX 15 w0))) (qi w0 10 j) (qi w0 11 j)) (hQ : ∀ w1, XA k w0 w1 → Q w1 (if a = 0 then nI (bsP (plF k (qi w0 10) (qi w0 11) (nmP (PX 15 w0)) cnt) 1) else pk (plF k (qi w0 10) (qi w0 11) (nmP (PX 15 w0)) cnt))) : CaI (d + 5) M_As_planned [.ref (qb E + 55), .int a] E w Q :=
  en_As_planned h.1 (s_As_planned_0 h.1 (a_copy (d := d + 2) h (fun w1 h1 t1 => h_planned hc hcn hA hQ cnt 0 w1 (by omega) h1 t1)))
def jBs (k _ : Nat) : Prop := 56 ≤ k ∧ k ≤ 72
def YA (k : List Cl) (w0 w : qW) : Prop := Sh w ∧ Fr jBs w0 w ∧ XC k w ∧ PX 15 w = PX 15 w0
theorem XA.ya (h : XA k w0 w) : YA k w0 w := ⟨h.1, h.2.1.mono (fun k j q => by unfold jAs at q; unfold jBs; omega), h.2.2⟩
theorem YA.xa (h : YA k w0 w) : XA k w w := ⟨h.1, Fr.rf, h.2.2.1, rfl⟩
theorem YA.tr {w1 : qW} (h : YA k w0 w) (h1 : XA k w w1) : YA k w0 w1 := ⟨h1.1, h.2.1.tr h1.ya.2.1, h1.2.2.1, h1.2.2.2.trans h.2.2.2⟩
theorem YA.t2 {w1 : qW} (h : YA k w0 w) (hw1 : Sh w1) (hf : Fr (fun a _ => a = 56 ∨ a = 57) w w1) : YA k w0 w1 := by
  obtain ⟨h1, h2, ⟨c1, c2, K, c3, c4⟩, h4⟩ := h
  have hK := c3.1.c
  have e : PX 15 w1 = PX 15 w := PX_ext (fun k j a b c => (hf k j (by omega)).1) (hf 15 6 (by omega)).2.2
  exact ⟨hw1, h2.tr (hf.mono (fun k j h => by unfold jBs; omega)), ⟨by rw [e]; exact c1, fun i hi => (hf _ 0 (by omega)).1.trans (c2 i hi), K, c3.fr (fun a j _ _ => (hf a j (by omega)).1), (hf 15 6 (by omega)).2.2.trans c4⟩, e.trans h4⟩
theorem h_line {Q : qW → Int32 → Prop} {N : Nat} {D : Nat → Nat} (hN : N ≤ 3) (hD : ∀ j, j < N → D j < 6 ∧ qi w0 56 j = nI (D j)) (hQ : ∀ w1, XA k w0 w1 → Q w1 (coO (lnP k D (nmP (PX 15 w0)) N))) :
    ∀ (n j : Nat) (w : qW) (p : Pn), j + n = N → XA k w0 w → TX k (9999 + j) w p → lnP k D (nmP (PX 15 w0)) j = some p → c_As_colourOfRow_55 d E Q (nI N) (nI j) w := by
  intro n
  induction n with
  | zero =>
    intro j w p hj h ht hp
    have : j = N := by omega
    subst this
    have hq := hQ w h
    rw [hp] at hq
    refine s_As_colourOfRow_55 h.1 (pk_le j j (fun _ => ?_) (fun z => by omega))
    rw [ht.col]
    exact hq
  | succ n ih =>
    intro j w p hj h ht hp
    obtain ⟨d1, d2⟩ := hD j (by omega)
    have no : ¬ (D j < cN p ∧ pa p (D j) 4 = 0) → Q w (-5) := by
      intro z
      have hq := hQ w h
      have e := lnP_s (k := k) hp
      rw [if_neg z] at e
      rw [lnP_no e N (by omega)] at hq
      exact hq
    refine s_As_colourOfRow_55 h.1 (pk_le N j (fun z => by omega) (fun _ => pk_le 3 j (fun z => by omega) (fun _ => ⟨nvp (by omega) (by omega), ?_⟩)))
    rw [ncl (a := j) (by omega), (h.2.1 56 j (by unfold jAs; omega)).1, d2, n1]
    refine a_find h ht d1 (fun hc => Or.inr ⟨D j, d1, rfl, ?_⟩) (fun hc => Or.inl ⟨rfl, no (by omega)⟩)
    rw [ht.st d1]
    refine ⟨fun z => a_put h ht d1 (fun w1 h1 t1 => a_min h1 t1 (by omega) (fun w2 h2 t2 => ih (j + 1) w2 _ (by omega) h2 t2 ?_)), fun z => no (fun y => z y.2)⟩
    rw [lnP_s hp, if_pos ⟨hc, z⟩]
theorem h_dig {Q : qW → Int32 → Prop} {N r0 : Nat} (hN : N ≤ 3) (hr : r0 < 216) (hQ : ∀ w1, YA k w0 w1 → (∀ j, qi w1 57 j = qi w0 57 j) → (∀ j, j < N → qi w1 56 j = nI (dgt N r0 j)) → CaV (d + 3) M_Pa_copyFrom [.ref (qb E + 58), .ref (qb E + 15)] E w1 (fun w2 => c_As_colourOfRow_55 d E Q (nI N) 0 w2)) :
    ∀ (n : Nat) (w : qW) (x : Int32), n ≤ N → YA k w0 w → (∀ j, qi w 57 j = qi w0 57 j) → (∀ j, n ≤ j → j < N → qi w 56 j = nI (dgt N r0 j)) → (n = 0 → x = -1) → (0 < n → x = nI (n - 1)) → c_As_colourOfRow_11 d E Q (nI N) (nI (r0 / 6 ^ (N - n))) x w := by
  intro n
  induction n with
  | zero =>
    intro w x hn h h57 h56 hx _
    rw [hx rfl]
    exact s_As_colourOfRow_11 h.1 ⟨fun _ => hQ w h h57 (fun j hj => h56 j (by omega) hj), fun z => absurd (by decide) z⟩
  | succ n ih =>
    intro w x hn h h57 h56 _ hx
    rw [hx (by omega), show n + 1 - 1 = n by omega]
    have hlt : r0 / 6 ^ (N - (n + 1)) < 1000000 := Nat.lt_of_le_of_lt (Nat.div_le_self _ _) (by omega)
    refine s_As_colourOfRow_11 h.1 ⟨fun z => absurd z (nI_pos (by omega)), fun _ => ⟨nvp (by omega) (by omega), ?_⟩⟩
    rw [ncl (a := n) (by omega), show (6 : Int32) = nI 6 from rfl, pk_rem (by omega) (by omega) (by omega), pk_div (by omega) (by omega) (by omega)]
    have e1 : r0 / 6 ^ (N - (n + 1)) / 6 = r0 / 6 ^ (N - n) := by
      rw [Nat.div_div_eq_div_mul, ← Nat.pow_succ, show (N - (n + 1)).succ = N - n by omega]
    have e2 : r0 / 6 ^ (N - (n + 1)) % 6 = dgt N r0 n := by
      unfold dgt
      rw [show N - 1 - n = N - (n + 1) by omega]
    rw [e1, e2]
    refine ih _ _ (by omega) (h.t2 h.1 (Fr.rf.pi (Or.inl rfl))) (fun j => (qi_k (by decide)).trans (h57 j)) (fun j hj hjN => ?_) (fun z => by rw [z]; rfl) (fun z => by
      obtain ⟨n', rfl⟩ : ∃ n', n = n' + 1 := ⟨n - 1, by omega⟩
      exact pk_m1 n')
    by_cases q : j = n
    · rw [q, qi_eq rfl rfl]
    · rw [qi_j q]
      exact h56 j (by omega) hjN
theorem dgt_6 (n r j : Nat) : dgt n r j < 6 := Nat.mod_lt _ (by omega)
theorem x_colourOfRow {Q : qW → Int32 → Prop} {N r : Nat} (h : YA k w0 w) (hN : N ≤ 3) (h0 : 0 < N) (hr : r < 216) (hQ : ∀ w1, YA k w0 w1 → (∀ j, qi w1 57 j = qi w 57 j) → (∀ j, j < N → qi w1 56 j = nI (dgt N r j)) → Q w1 (rowC k (nmP (PX 15 w0)) N r)) : CaI (d + 4) M_As_colourOfRow [.ref (qb E + 55), .int (nI r), .int (nI N)] E w Q := by
  refine en_As_colourOfRow h.1 (s_As_colourOfRow_0 h.1 (p_min h.1 ?_))
  have e : (if (3 : Int32) < nI N then (3 : Int32) else nI N) = nI N := by
    rw [if_neg (show ¬ (3 : Int32) < nI N from nI_nlt (b := N) (a := 3) (by omega) (by omega))]
  rw [e]
  have hx : nI N - 1 = nI (N - 1) := pk_sub (b := 1) (by omega)
  rw [hx]
  have := h_dig (d := d) (E := E) (Q := Q) (w0 := w) (r0 := r) (k := k) hN hr (fun w1 y1 e57 e56 => ?_) N w (nI (N - 1)) (by omega) ⟨h.1, Fr.rf, h.2.2.1, rfl⟩ (fun _ => rfl) (fun j a b => by omega) (fun z => by omega) (fun _ => rfl)
  · rw [Nat.sub_self, Nat.pow_zero, Nat.div_one] at this
    exact this
  · have hy1 : YA k w0 w1 := ⟨y1.1, h.2.1.tr y1.2.1, y1.2.2.1, y1.2.2.2.trans h.2.2.2⟩
    refine a_copy (d := d + 1) y1.xa (fun w2 h2 t2 => h_line (w0 := w1) (D := dgt N r) hN (fun j hj => ⟨dgt_6 _ _ _, e56 j hj⟩) (fun w3 h3 => ?_) N 0 w2 _ (by omega) h2 t2 rfl)
    have g : ∀ a j, a < 58 → qi w3 a j = qi w1 a j := fun a j ha => (h3.2.1 a j (by unfold jAs; omega)).1
    have := hQ w3 (hy1.tr h3) (fun j => (g 57 j (by omega)).trans (e57 j)) (fun j hj => (g 56 j (by omega)).trans (e56 j hj))
    rw [hy1.2.2.2]
    exact this
theorem bsF_r (p : Pn) (n r : Nat) : (bsF k p n r).2 ≤ r := by
  induction r with
  | zero => exact Nat.le_refl _
  | succ r ih =>
    by_cases z : rowC k p n r ≤ (bsF k p n r).1
    · rw [bsF_n z]; omega
    · rw [bsF_s z]; exact Nat.le_succ r
theorem h_best {Q : qW → Int32 → Prop} {N R : Nat} {b : Int32} (hN : N ≤ 3) (h0 : 0 < N) (hR : R ≤ 216) (hb : b = -1 ∨ ∃ i, i ≤ 2 ∧ b = nI i) (hQ : ∀ w1, YA k w0 w1 → Q w1 (if b = -1 ∨ (bsF k (nmP (PX 15 w0)) N R).1 = -5 then (bsF k (nmP (PX 15 w0)) N R).1 else if b < nI N then nI (dgt N (bsF k (nmP (PX 15 w0)) N R).2 b.toNatClampNeg) else -5)) :
    ∀ (n r : Nat) (w : qW), r + n = R → YA k w0 w → (¬ (bsF k (nmP (PX 15 w0)) N r).1 = -5 → ∀ j, j < N → qi w 57 j = nI (dgt N (bsF k (nmP (PX 15 w0)) N r).2 j)) → c_As_bestRow_29 d E Q (nI N) b (nI R) (bsF k (nmP (PX 15 w0)) N r).1 (nI r) w := by
  intro n
  induction n with
  | zero =>
    intro r w hr h h57
    have : r = R := by omega
    subst this
    have hq := hQ w h
    refine s_As_bestRow_29 h.1 (pk_le r r (fun _ => ⟨fun z => ?_, fun z => ⟨fun y => ?_, fun y => ?_⟩⟩) (fun z => by omega))
    · rw [if_pos (Or.inl z)] at hq
      exact hq
    · rw [if_neg (fun q => q.elim z y)] at hq
      obtain ⟨i, hi, rfl⟩ := hb.resolve_left z
      refine ⟨fun u => absurd u (nI_pos (by omega)), fun _ => pk_le N i (fun u => ?_) (fun u => pk_le 3 i (fun v => by omega) (fun v => ⟨nvp (by omega) (by omega), ?_⟩))⟩
      · rw [if_neg (nI_nlt (by omega) (by omega))] at hq
        exact hq
      · rw [if_pos (nI_lt (by omega) (by omega))] at hq
        rw [ncl (by omega)] at hq ⊢
        rw [h57 y i (by omega)]
        exact hq
    · rw [if_pos (Or.inr y)] at hq
      exact hq
  | succ n ih =>
    intro r w hr h h57
    refine s_As_bestRow_29 h.1 (pk_le R r (fun z => by omega) (fun _ => ?_))
    rw [n1]
    refine x_colourOfRow h hN h0 (by omega) (fun w1 y1 e57 e56 => ⟨fun z => ?_, fun z => ?_⟩)
    · have := ih (r + 1) w1 (by omega) y1
      rw [bsF_n z] at this
      exact this (fun q j hj => (e57 j).trans (h57 q j hj))
    · have hy2 : YA k w0 (qcp w1 56 0 57 0 3) := y1.t2 y1.1 (Fr.rf.cp (fun c _ _ => Or.inr rfl))
      have := ih (r + 1) _ (by omega) hy2
      rw [bsF_s z] at this
      refine this (fun _ j hj => ?_)
      rw [qi_cp, if_pos ⟨rfl, by omega, by omega⟩, show 0 + (j - 0) = j by omega]
      exact e56 j hj
theorem h_best0 {Q : qW → Int32 → Prop} {N : Nat} {b : Int32} (hN : N ≤ 3) (hQ : c_As_bestRow_29 d E Q (nI N) b (nI (6 ^ N)) (-5) 0 w) (hw : Sh w) :
    ∀ (n i : Nat), i + n = N → c_As_bestRow_5 d E Q (nI N) b (nI (6 ^ i)) (nI i) w := by
  intro n
  induction n with
  | zero =>
    intro i hi
    have : i = N := by omega
    subst this
    exact s_As_bestRow_5 hw (pk_le i i (fun _ => hQ) (fun z => by omega))
  | succ n ih =>
    intro i hi
    refine s_As_bestRow_5 hw (pk_le N i (fun z => by omega) (fun _ => ?_))
    rw [n1, show (6 : Int32) = nI 6 from rfl, pk_mul, ← Nat.pow_succ]
    exact ih (i + 1) (by omega)
theorem x_best {Q : qW → Int32 → Prop} {N : Nat} {b : Int32} (h : XA k w0 w) (hN : N ≤ 3) (h0 : 0 < N) (hb : b = -1 ∨ ∃ i, i ≤ 2 ∧ b = nI i) (hQ : ∀ w1, YA k w0 w1 → Q w1 (if b = -1 ∨ (bsF k (nmP (PX 15 w0)) N (6 ^ N)).1 = -5 then (bsF k (nmP (PX 15 w0)) N (6 ^ N)).1 else if b < nI N then nI (dgt N (bsF k (nmP (PX 15 w0)) N (6 ^ N)).2 b.toNatClampNeg) else -5)) : CaI (d + 5) M_As_bestRow [.ref (qb E + 55), .int (nI N), .int b] E w Q :=
  en_As_bestRow h.1 (s_As_bestRow_0 h.1 (h_best0 hN (h_best hN h0 (Nat.pow_le_pow_right (by decide) hN) hb hQ (6 ^ N) 0 w (by omega) h.ya (fun z => absurd rfl z)) h.1 N 0 (by omega)))
end AZ
