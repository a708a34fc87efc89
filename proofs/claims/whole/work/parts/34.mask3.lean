/-! the model's askings: rows, sets, fire, odds, plan -/
section MD
variable {d : Nat} {E : qE} {w w0 : qW} {k : List Cl} {p : Pn} {M : Nat}
def lqF (k : List Cl) (D : Nat → Nat) (p : Pn) : Nat → Pn
  | 0 => p
  | j + 1 => mi k (puP (D j) (lqF k D p j))
theorem mi_4 {p : Pn} {x : Nat} : pa (mi k p) x 4 = pa p x 4 := by
  show tmP 9 p (cN p) x 4 = _
  rw [tm_get, if_neg (by omega)]
theorem pu_4 {p : Pn} {i x : Nat} : pa (puP i p) x 4 = if x = i then 1 else pa p x 4 := by
  show upA (upA (pa p) i 4 1) i 5 0 x 4 = _
  rw [upA_a (by omega)]
  unfold upA
  by_cases h : x = i
  · rw [if_pos ⟨h, rfl⟩, if_pos h]
  · rw [if_neg (fun z => h z.1), if_neg h]
theorem lq_cN (D : Nat → Nat) (p : Pn) (j : Nat) : cN (lqF k D p j) = cN p := by
  induction j with
  | zero => rfl
  | succ j ih => exact ih
theorem lq_1 {D : Nat → Nat} {p : Pn} {x j i : Nat} (hi : i < j) (h : D i = x) : pa (lqF k D p j) x 4 = 1 := by
  induction j with
  | zero => omega
  | succ j ih =>
    show pa (mi k (puP (D j) (lqF k D p j))) x 4 = 1
    rw [mi_4, pu_4]
    by_cases q : x = D j
    · rw [if_pos q]
    · rw [if_neg q]
      exact ih (by
        by_cases e : i = j
        · rw [e] at h; exact absurd h.symm q
        · omega)
theorem lq_0 {D : Nat → Nat} {p : Pn} {x j : Nat} (h : ∀ i, i < j → D i ≠ x) : pa (lqF k D p j) x 4 = pa p x 4 := by
  induction j with
  | zero => rfl
  | succ j ih =>
    show pa (mi k (puP (D j) (lqF k D p j))) x 4 = _
    rw [mi_4, pu_4, if_neg (fun q => h j (by omega) q.symm)]
    exact ih (fun i hi => h i (by omega))
def vld (p : Pn) (D : Nat → Nat) (j : Nat) : Prop := D j < cN p ∧ pa p (D j) 4 = 0 ∧ ∀ l, l < j → D l ≠ D j
theorem ln_ok {D : Nat → Nat} {p : Pn} {n : Nat} (h : ∀ i, i < n → vld p D i) : lnP k D p n = some (lqF k D p n) := by
  induction n with
  | zero => rfl
  | succ n ih =>
    obtain ⟨h1, h2, h3⟩ := h n (by omega)
    rw [lnP_s (ih (fun i hi => h i (by omega))), if_pos ⟨by rw [lq_cN]; exact h1, by rw [lq_0 h3]; exact h2⟩]
    rfl
theorem ln_no {D : Nat → Nat} {p : Pn} {n : Nat} (h : ¬ ∀ i, i < n → vld p D i) : lnP k D p n = none := by
  induction n with
  | zero => exact absurd (fun i hi => absurd hi (by omega)) h
  | succ n ih =>
    by_cases hn : ∀ i, i < n → vld p D i
    · rw [lnP_s (ln_ok hn), if_neg]
      rintro ⟨c1, c2⟩
      rw [lq_cN] at c1
      have hd : ∀ l, l < n → D l ≠ D n := fun l hl q => by
        rw [lq_1 hl q] at c2
        exact absurd c2 (by decide)
      rw [lq_0 hd] at c2
      refine h (fun i hi => ?_)
      by_cases e : i = n
      · rw [e]; exact ⟨c1, c2, hd⟩
      · exact hn i (by omega)
    · exact lnP_no (ih hn) (n + 1) (by omega)
theorem or_ck : ∀ x, x < 6 → ∀ u, u < 64 → nI u ||| (1 <<< (nI x &&& 31)) = nI (u ||| 2 ^ x) ∧ u ||| 2 ^ x < 64 := by decide +kernel
theorem or_bt : ∀ x, x < 6 → ∀ u, u < 64 → ∀ y, y < 6 → (bt (u ||| 2 ^ x) y = true ↔ (bt u y = true ∨ y = x)) := by decide +kernel
theorem h_layLine {Q : qW → Int32 → Prop} {N r0 c : Nat} (hN : N ≤ 3) (hr : r0 < 216) (hc : c ≤ 6) (hcp : cN p = c) (hcn : qi w 115 0 = nI c) (hst : ∀ i, i < 6 → qi w 120 i = pa p i 4)
    (hQ1 : (∀ i, i < N → vld p (dgt N r0) i) → ∀ w1, Sh w1 → Fr (fun k _ => k = 135) w w1 → (∀ j, j < N → qi w1 135 j = nI (dgt N r0 j)) → Q w1 1) (hQ0 : (¬ ∀ i, i < N → vld p (dgt N r0) i) → ∀ w1, Sh w1 → Fr (fun k _ => k = 135) w w1 → Q w1 0) :
    ∀ (n u : Nat) (w1 : qW) (x : Int32), n ≤ N → Sh w1 → Fr (fun k _ => k = 135) w w1 → u < 64 → (∀ y, y < 6 → (bt u y = true ↔ ∃ j, n ≤ j ∧ j < N ∧ dgt N r0 j = y)) → (∀ j, n ≤ j → j < N → dgt N r0 j < c ∧ pa p (dgt N r0 j) 4 = 0 ∧ (∀ l, j < l → l < N → dgt N r0 l ≠ dgt N r0 j) ∧ qi w1 135 j = nI (dgt N r0 j)) → (n = 0 → x = -1) → (0 < n → x = nI (n - 1)) → c_Mo_layLine_10 d E Q (nI (r0 / 6 ^ (N - n))) (nI u) x w1 := by
  intro n
  induction n with
  | zero =>
    intro u w1 x hn hw1 hf hu hb hj hx _
    rw [hx rfl]
    refine s_Mo_layLine_10 hw1 ⟨fun _ => hQ1 (fun i hi => ?_) w1 hw1 hf (fun j hjN => (hj j (by omega) hjN).2.2.2), fun z => absurd (by decide) z⟩
    obtain ⟨a1, a2, a3, a4⟩ := hj i (by omega) hi
    exact ⟨by rw [hcp]; exact a1, a2, fun l hl q => (hj l (by omega) (by omega)).2.2.1 i hl hi q.symm⟩
  | succ n ih =>
    intro u w1 x hn hw1 hf hu hb hj _ hx
    rw [hx (by omega), show n + 1 - 1 = n by omega]
    have hlt : r0 / 6 ^ (N - (n + 1)) < 1000000 := Nat.lt_of_le_of_lt (Nat.div_le_self _ _) (by omega)
    have hin : vp_in (nI n) 3 := nvp (by omega) (by omega)
    have e1 : r0 / 6 ^ (N - (n + 1)) / 6 = r0 / 6 ^ (N - n) := by
      rw [Nat.div_div_eq_div_mul, ← Nat.pow_succ, show (N - (n + 1)).succ = N - n by omega]
    have e2 : r0 / 6 ^ (N - (n + 1)) % 6 = dgt N r0 n := by
      unfold dgt
      rw [show N - 1 - n = N - (n + 1) by omega]
    have hd6 := dgt_6 N r0 n
    have bad : (¬ vld p (dgt N r0) n ∨ ∃ l, n < l ∧ l < N ∧ dgt N r0 l = dgt N r0 n) → ∀ w2, Sh w2 → Fr (fun k _ => k = 135) w w2 → Q w2 0 := by
      intro hbad w2 hw2 hf2
      refine hQ0 (fun hall => ?_) w2 hw2 hf2
      rcases hbad with h | ⟨l, l1, l2, l3⟩
      · exact h (hall n (by omega))
      · exact (hall l l2).2.2 n l1 l3.symm
    refine s_Mo_layLine_10 hw1 ⟨fun z => absurd z (nI_pos (by omega)), fun _ => ⟨hin, hin, ?_⟩⟩
    rw [ncl (a := n) (by omega), show (6 : Int32) = nI 6 from rfl, pk_rem (by omega) (by omega) (by omega), pk_div (by omega) (by omega) (by omega), e1, e2, qi_eq rfl rfl, qi_k (a := 115) (by decide)]
    have f2 : Fr (fun k _ => k = 135) w (qpi w1 135 n (nI (dgt N r0 n))) := hf.pi rfl
    refine pk_le c (dgt N r0 n) (fun z => bad (Or.inl (fun v => by have := v.1; omega)) _ hw1 f2) (fun z => ⟨hin, p_has hw1 hd6 hu ⟨fun y => ?_, fun y => ⟨hin, ?_⟩⟩⟩) ((hf 115 0 (by omega)).1.trans hcn)
    · obtain ⟨j, j1, j2, j3⟩ := (hb _ hd6).mp ((q01 _).2.mp y)
      exact bad (Or.inr ⟨j, by omega, j2, j3⟩) _ hw1 f2
    · have hnb := (q01 _).1.mp y
      rw [qi_eq rfl rfl, ncl (a := dgt N r0 n) (by omega), qi_k (a := 120) (by decide), (hf 120 _ (by omega)).1, hst _ hd6]
      refine ⟨nvp hd6 (by omega), fun v => ⟨hin, ?_⟩, fun v => bad (Or.inl (fun q => v q.2.1)) _ hw1 f2⟩
      obtain ⟨o1, o2⟩ := or_ck _ hd6 u hu
      rw [o1]
      refine ih _ _ _ (by omega) hw1 f2 o2 (fun y hy => ?_) (fun j hj1 hj2 => ?_) (fun z => by rw [z]; rfl) (fun z => by
        obtain ⟨n', rfl⟩ : ∃ n', n = n' + 1 := ⟨n - 1, by omega⟩
        exact pk_m1 n')
      · rw [or_bt _ hd6 u hu y hy, hb y hy]
        constructor
        · rintro (⟨j, j1, j2, j3⟩ | rfl)
          · exact ⟨j, by omega, j2, j3⟩
          · exact ⟨n, by omega, by omega, rfl⟩
        · rintro ⟨j, j1, j2, j3⟩
          by_cases e : j = n
          · rw [e] at j3; exact Or.inr j3.symm
          · exact Or.inl ⟨j, by omega, j2, j3⟩
      · by_cases e : j = n
        · subst e
          refine ⟨z, v, fun l l1 l2 q => ?_, qi_eq rfl rfl⟩
          have := (hb _ hd6).mpr ⟨l, by omega, l2, q⟩
          rw [hnb] at this
          cases this
        · obtain ⟨a1, a2, a3, a4⟩ := hj j (by omega) hj2
          exact ⟨a1, a2, a3, (qi_j e).trans a4⟩
theorem y_layLine {Q : qW → Int32 → Prop} {N r : Nat} (h : MA k w0 w) (hN : N ≤ 3) (h0 : 0 < N) (hr : r < 216)
    (hQ1 : (∀ i, i < N → vld (nmP (PM w0)) (dgt N r) i) → ∀ w1, Sh w1 → Fr (fun k _ => k = 135) w w1 → (∀ j, j < N → qi w1 135 j = nI (dgt N r j)) → Q w1 1) (hQ0 : (¬ ∀ i, i < N → vld (nmP (PM w0)) (dgt N r) i) → ∀ w1, Sh w1 → Fr (fun k _ => k = 135) w w1 → Q w1 0) : CaI (d + 1) M_Mo_layLine [.ref (qb E + 115), .int (nI r), .int (nI N)] E w Q := by
  obtain ⟨c, c1, c2, c3⟩ := h.tm.cn
  have := h_layLine (d := d) (E := E) (p := nmP (PM w0)) hN hr c1 c3 c2 (fun i hi => h.tm.st hi) hQ1 hQ0 N 0 w (nI (N - 1)) (Nat.le_refl _) h.1 Fr.rf (by omega) (fun y hy => ⟨fun q => absurd q (by
    have : bt 0 y = false := by unfold bt; rw [Nat.zero_div]; rfl
    rw [this]
    decide), fun ⟨j, j1, j2, _⟩ => by omega⟩) (fun j j1 j2 => by omega) (fun z => by omega) (fun _ => rfl)
  rw [Nat.sub_self, Nat.pow_zero, Nat.div_one] at this
  refine en_Mo_layLine h.1 (s_Mo_layLine_0 h.1 ?_)
  have hx : nI N - 1 = nI (N - 1) := pk_sub (b := 1) (by omega)
  rw [hx]
  exact this
theorem h_colourBy {Q : qW → Int32 → Prop} {N : Nat} {D : Nat → Nat} (hN : N ≤ 3) (hD : ∀ j, j < N → D j < 6 ∧ qi w0 135 j = nI (D j)) (hQ : ∀ w1, MA k w0 w1 → Q w1 (pk (lqF k D (nmP (PM w0)) N))) :
    ∀ (n j : Nat) (w : qW), j + n = N → MB k w0 w → TM (9999 + j) w (lqF k D (nmP (PM w0)) j) → c_Mo_colourBy_6 d E Q (nI N) (nI j) w := by
  intro n
  induction n with
  | zero =>
    intro j w hj h ht
    have : j = N := by omega
    subst this
    refine s_Mo_colourBy_6 h.1 (pk_le j j (fun _ => b_back h (fun w1 h1 => ?_)) (fun z => by omega))
    rw [ht.col]
    exact hQ w1 h1
  | succ n ih =>
    intro j w hj h ht
    obtain ⟨d1, d2⟩ := hD j (by omega)
    refine s_Mo_colourBy_6 h.1 (pk_le N j (fun z => by omega) (fun _ => ⟨nvp (by omega) (by omega), ?_⟩))
    rw [ncl (a := j) (by omega), (h.2.1 135 j (by unfold jAm; omega)).1, d2, n1]
    exact b_put h ht d1 (fun w1 h1 t1 => b_min h1 t1 (by omega) (fun w2 h2 t2 => ih (j + 1) w2 (by omega) h2 t2))
theorem y_colourBy {Q : qW → Int32 → Prop} {N : Nat} {D : Nat → Nat} (h : MA k w w) (hN : N ≤ 3) (hD : ∀ j, j < N → D j < 6 ∧ qi w 135 j = nI (D j)) (hQ : ∀ w1, MA k w w1 → Q w1 (pk (lqF k D (nmP (PM w)) N))) : CaI (d + 6) M_Mo_colourBy [.ref (qb E + 115), .int (nI N)] E w Q :=
  en_Mo_colourBy h.1 (s_Mo_colourBy_0 h.1 (b_save h (fun w1 h1 t1 => h_colourBy hN hD hQ N 0 w1 (by omega) h1 t1)))
theorem lq_ok {D : Nat → Nat} {p : Pn} {T : Nat} (h : okR M T p) (hT : T ≤ 90000) (j : Nat) (hj : j ≤ 3) : okR (M + j) (T + j) (lqF k D p j) := by
  induction j with
  | zero => exact h
  | succ j ih => exact okR_mi (C := 9) (okR_pu (ih (by omega))) rfl (by omega) (by omega) (by omega) (by omega)
theorem row_ok {N r : Nat} {p : Pn} (h : okR 9999 9999 p) (hN : N ≤ 3) : rowC k p N r = -5 ∨ rg (rowC k p N r) 99999 := by
  unfold rowC
  by_cases hv : ∀ i, i < N → vld p (dgt N r) i
  · rw [ln_ok hv]
    exact Or.inr (lq_ok (k := k) h (by omega) N hN).2.2.1
  · rw [ln_no hv]
    exact Or.inl rfl
theorem bsF_ok {N : Nat} {p : Pn} (h : okR 9999 9999 p) (hN : N ≤ 3) (r : Nat) : (bsF k p N r).1 = -5 ∨ rg (bsF k p N r).1 99999 := by
  induction r with
  | zero => exact Or.inl rfl
  | succ r ih =>
    by_cases z : rowC k p N r ≤ (bsF k p N r).1
    · rw [bsF_n z]; exact ih
    · rw [bsF_s z]; exact row_ok h hN
theorem m5_le {x : Int32} (h : x = -5 ∨ rg x 99999) : -5 ≤ x := by
  rcases h with rfl | ⟨a, h1, rfl⟩
  · exact Int32.le_refl _
  · rw [Int32.le_iff_toInt_le, nI_toInt (by omega)]
    show (-5 : Int) ≤ _
    omega
theorem h_copy97 {Q : qW → Int32 → Prop} {a1 a2 a3 a4 a5 : Int32} (hQ : ∀ w1, Sh w1 → Fr (fun k _ => k = 136) w w1 → (∀ j, j < 3 → qi w1 136 j = qi w 135 j) → c_Mo_best_54 d E Q a1 a2 a3 a4 (a5 + 1) w1) :
    ∀ (n i : Nat) (w1 : qW), i + n = 3 → Sh w1 → Fr (fun k _ => k = 136) w w1 → (∀ j, j < i → qi w1 136 j = qi w 135 j) → c_Mo_best_97 d E Q a1 a2 a3 a4 a5 (nI i) w1 := by
  intro n
  induction n with
  | zero =>
    intro i w1 hi hw1 hf h
    have : i = 3 := by omega
    subst this
    exact s_Mo_best_97 hw1 (pk_le 3 3 (fun _ => hQ w1 hw1 hf h) (fun z => by omega))
  | succ n ih =>
    intro i w1 hi hw1 hf h
    have hin : vp_in (nI i) 3 := nvp (by omega) (by omega)
    refine s_Mo_best_97 hw1 (pk_le 3 i (fun z => by omega) (fun _ => ⟨hin, hin, ?_⟩))
    rw [ncl (a := i) (by omega), n1]
    refine ih (i + 1) _ (by omega) hw1 (hf.pi rfl) (fun j hj => ?_)
    by_cases q : j = i
    · rw [q, qi_eq rfl rfl, (hf 135 i (by omega)).1]
    · rw [qi_j q]
      exact h j (by omega)
theorem ZA.line {w1 : qW} (h : ZA k w0 w) (hw1 : Sh w1) (hf : Fr (fun k _ => k = 135 ∨ k = 136) w w1) : ZA k w0 w1 := by
  obtain ⟨h1, h2, ⟨m1, m2, m3⟩, h4⟩ := h
  have e : PM w1 = PM w := PM_e (fun j hj => (hf 115 j (by omega)).1) (fun k j a b => (hf k j (by omega)).1)
  have hf' : Fr jZm w w1 := hf.mono (fun k j q => by unfold jZm; omega)
  exact ⟨hw1, h2.tr hf', ⟨by rw [e]; exact m1, m2.zm hf', (hf 115 30 (by omega)).1.trans m3⟩, e.trans h4⟩
theorem h_mbest {Q : qW → Int32 → Prop} {N R : Nat} {b : Int32} (hN : N ≤ 3) (h0 : 0 < N) (hR : R ≤ 216) (hb : b = -1 ∨ ∃ i, i ≤ 2 ∧ b = nI i) (hQ : ∀ w1, ZA k w0 w1 → Q w1 (if b = -1 ∨ (bsF k (nmP (PM w0)) N R).1 = -5 then (bsF k (nmP (PM w0)) N R).1 else if b < nI N then nI (dgt N (bsF k (nmP (PM w0)) N R).2 b.toNatClampNeg) else -5)) :
    ∀ (n r : Nat) (w : qW), r + n = R → ZA k w0 w → (¬ (bsF k (nmP (PM w0)) N r).1 = -5 → ∀ j, j < N → qi w 136 j = nI (dgt N (bsF k (nmP (PM w0)) N r).2 j)) → c_Mo_best_54 d E Q (nI N) b (nI R) (bsF k (nmP (PM w0)) N r).1 (nI r) w := by
  intro n
  induction n with
  | zero =>
    intro r w hr h hl
    have : r = R := by omega
    subst this
    have ho : okR 9999 9999 (nmP (PM w0)) := by rw [← h.2.2.2]; exact nm_ok h.2.2.1.1 (by omega)
    have hq := hQ w h
    refine s_Mo_best_54 h.1 (pk_le r r (fun _ => ⟨fun z => ?_, fun z => ⟨fun y => ?_, fun y => ?_⟩⟩) (fun z => by omega))
    · rcases hb with rfl | ⟨i, hi, rfl⟩
      · rw [if_pos (Or.inl rfl)] at hq
        exact hq
      · exact absurd z (nI_pos (by omega))
    · rcases hb with rfl | ⟨i, hi, rfl⟩
      · exact absurd (by decide) z
      have hne : ¬ (bsF k (nmP (PM w0)) N r).1 = -5 := fun q => by rw [q] at y; exact absurd y (by decide)
      rw [if_neg (fun q => q.elim (fun q => by rw [q] at z; exact z (by decide)) hne)] at hq
      refine pk_le N i (fun u => ?_) (fun u => ⟨nvp (by omega) (by omega), ?_⟩)
      · rw [if_neg (nI_nlt (by omega) (by omega))] at hq
        exact hq
      · rw [if_pos (nI_lt (by omega) (by omega))] at hq
        rw [ncl (by omega)] at hq ⊢
        rw [hl hne i (by omega)]
        exact hq
    · have he : (bsF k (nmP (PM w0)) N r).1 = -5 := (bsF_ok ho hN r).resolve_right (fun ⟨a, a1, a2⟩ => y (by rw [a2]; exact nI_pos' (by omega)))
      rw [if_pos (Or.inr he)] at hq
      exact hq
  | succ n ih =>
    intro r w hr h hl
    have ho : okR 9999 9999 (nmP (PM w0)) := by rw [← h.2.2.2]; exact nm_ok h.2.2.1.1 (by omega)
    refine s_Mo_best_54 h.1 (pk_le R r (fun z => by omega) (fun _ => ?_))
    rw [n1]
    refine y_layLine (d := d + 5) h.ma hN h0 (show r < 216 by omega) (fun hv w1 hw1 hf e135 => ⟨fun _ => ?_, fun z => absurd z (by decide)⟩) (fun hv w1 hw1 hf => ⟨fun z => absurd rfl z, fun _ => ?_⟩)
    · rw [h.2.2.2] at hv
      have h1 := h.line hw1 (hf.mono (fun _ _ q => Or.inl q))
      refine y_colourBy h1.ma hN (fun j hj => ⟨dgt_6 _ _ _, e135 j hj⟩) (fun w2 h2 => ?_)
      have er : pk (lqF k (dgt N r) (nmP (PM w1)) N) = rowC k (nmP (PM w0)) N r := by
        rw [h1.2.2.2]
        unfold rowC
        rw [ln_ok hv]
        rfl
      rw [er]
      have h2' : ZA k w0 w2 := h1.tr h2.za
      refine ⟨fun z => ?_, fun z => ?_⟩
      · refine h_copy97 (fun w3 hw3 hf3 e3 => ?_) 3 0 w2 (by omega) h2.1 Fr.rf (fun j hj => by omega)
        rw [n1]
        have := ih (r + 1) w3 (by omega) (h2'.line hw3 (hf3.mono (fun _ _ q => Or.inr q)))
        rw [bsF_s (Int32.not_le.mpr z)] at this
        refine this (fun _ j hj => ?_)
        rw [e3 j (by omega), (h2.2.1 135 j (by unfold jAm; omega)).1]
        exact e135 j hj
      · have := ih (r + 1) w2 (by omega) h2'
        rw [bsF_n (Int32.not_lt.mp z)] at this
        refine this (fun q j hj => ?_)
        rw [(h2.2.1 136 j (by unfold jAm; omega)).1, (hf 136 j (by omega)).1]
        exact hl q j hj
    · rw [h.2.2.2] at hv
      have h1 := h.line hw1 (hf.mono (fun _ _ q => Or.inl q))
      have er : rowC k (nmP (PM w0)) N r = -5 := by
        unfold rowC
        rw [ln_no hv]
        rfl
      have := ih (r + 1) w1 (by omega) h1
      rw [bsF_n (by rw [er]; exact m5_le (bsF_ok ho hN r))] at this
      refine this (fun q j hj => ?_)
      rw [(hf 136 j (by omega)).1]
      exact hl q j hj
theorem h_mbest0 {Q : qW → Int32 → Prop} {N : Nat} {b : Int32} (hN : N ≤ 3) (hQ : c_Mo_best_54 d E Q (nI N) b (nI (6 ^ N)) (-5) 0 w) (hw : Sh w) :
    ∀ (n i : Nat), i + n = N → c_Mo_best_30 d E Q (nI N) b (nI (6 ^ i)) (nI i) w := by
  intro n
  induction n with
  | zero =>
    intro i hi
    have : i = N := by omega
    subst this
    exact s_Mo_best_30 hw (pk_le i i (fun _ => hQ) (fun z => by omega))
  | succ n ih =>
    intro i hi
    refine s_Mo_best_30 hw (pk_le N i (fun z => by omega) (fun _ => ?_))
    rw [n1, show (6 : Int32) = nI 6 from rfl, pk_mul, ← Nat.pow_succ]
    exact ih (i + 1) (by omega)
/-- best, its numbers as told -/
theorem y_best {Q : qW → Int32 → Prop} {N : Nat} {b : Int32} (h : MA k w w) (hN : N ≤ 3) (h0 : 0 < N) (hb : b = -1 ∨ ∃ i, i ≤ 2 ∧ b = nI i) (hQ : ∀ w1, ZA k w w1 → Q w1 (if b = -1 ∨ (bsF k (nmP (PM w)) N (6 ^ N)).1 = -5 then (bsF k (nmP (PM w)) N (6 ^ N)).1 else if b < nI N then nI (dgt N (bsF k (nmP (PM w)) N (6 ^ N)).2 b.toNatClampNeg) else -5)) : c_Mo_best_30 d E Q (nI N) b 1 0 w :=
  h_mbest0 hN (h_mbest hN h0 (Nat.pow_le_pow_right (by decide) hN) hb hQ (6 ^ N) 0 w (by omega) h.za (fun z => absurd rfl z)) h.1 N 0 (by omega)
theorem enF_or (U S : Nat → Bool) (b : Nat) : ((enF U S b).1 = 7 ∧ (enF U S b).2 = -5) ∨ ∃ f, f < b ∧ (enF U S b).1 = pop f ∧ (enF U S b).2 = nI f := by
  induction b with
  | zero => exact Or.inl ⟨rfl, rfl⟩
  | succ b ih =>
    by_cases h : U b = true ∧ pop b < (enF U S b).1 ∧ S b = true
    · rw [enF_s h]; exact Or.inr ⟨b, by omega, rfl, rfl⟩
    · rw [enF_n h]
      rcases ih with h | ⟨f, f1, f2⟩
      · exact Or.inl h
      · exact Or.inr ⟨f, by omega, f2⟩
theorem enF_u {u : Nat} {S : Nat → Bool} {b : Nat} (h : u < b) : enF (subU u) S b = enF (subU u) S (u + 1) := by
  induction b with
  | zero => omega
  | succ b ih =>
    by_cases e : u = b
    · rw [e]
    · rw [enF_n (fun z => ?_), ih (by omega)]
      have h1 : b &&& u = b := of_decide_eq_true z.1
      have h2 : b &&& u ≤ u := Nat.and_le_right
      omega
theorem h_enough {Q : qW → Int32 → Prop} {N u : Nat} (hN : N ≤ 60) (hu : u < 64) (hQ : ∀ w1, MA k w0 w1 → Q w1 (enF (subU u) (SB k N (nmP (PM w0))) (u + 1)).2) :
    ∀ (n b : Nat) (w : qW), b + n = u + 1 → MA k w0 w → c_Mo_enough_26 d E Q (nI N) (enF (subU u) (SB k N (nmP (PM w0))) b).2 (nI u) (nI b) w := by
  intro n
  induction n with
  | zero =>
    intro b w hb h
    have : b = u + 1 := by omega
    subst this
    exact s_Mo_enough_26 h.1 (pk_lt u (u + 1) (fun _ => hQ w h) (fun z => by omega))
  | succ n ih =>
    intro b w hb h
    have hp := pop_6 b
    have hk := sub_ck b (by omega) u hu
    have no : ¬ (subU u b = true ∧ pop b < (enF (subU u) (SB k N (nmP (PM w0))) b).1 ∧ SB k N (nmP (PM w0)) b = true) → ∀ w1, MA k w0 w1 → c_Mo_enough_26 d E Q (nI N) (enF (subU u) (SB k N (nmP (PM w0))) b).2 (nI u) (nI (b + 1)) w1 := by
      intro z w1 h1
      have := ih (b + 1) w1 (by omega) h1
      rw [enF_n z] at this
      exact this
    have yes : (subU u b = true ∧ pop b < (enF (subU u) (SB k N (nmP (PM w0))) b).1 ∧ SB k N (nmP (PM w0)) b = true) → ∀ w1, MA k w0 w1 → c_Mo_enough_26 d E Q (nI N) (nI b) (nI u) (nI (b + 1)) w1 := by
      intro z w1 h1
      have := ih (b + 1) w1 (by omega) h1
      rw [enF_s z] at this
      exact this
    refine s_Mo_enough_26 h.1 (pk_lt u b (fun z => by omega) (fun _ => ?_))
    rw [n1]
    refine ⟨fun z => no (fun y => z (hk.mpr y.1)) w h, fun z => ⟨fun y => ?_, fun y => ?_⟩⟩
    · rcases enF_or (subU u) (SB k N (nmP (PM w0))) b with ⟨e1, e2⟩ | ⟨f, f1, f2, f3⟩
      · exact y_isSetBy h hN (by omega) (fun w1 h1 => ⟨fun v => no (fun x => absurd v (of_decide_eq_true x.2.2)) w1 h1, fun v => yes ⟨hk.mp z, by omega, decide_eq_true v⟩ w1 h1⟩)
      · rw [f3] at y
        exact absurd y (nI_pos (by omega))
    · rcases enF_or (subU u) (SB k N (nmP (PM w0))) b with ⟨e1, e2⟩ | ⟨f, f1, f2, f3⟩
      · rw [e2] at y
        exact absurd (by decide) y
      · have := pop_6 f
        refine p_bits (d := d + 6) h.1 (by omega) ?_
        rw [f3] at no ⊢
        refine p_bits (d := d + 6) h.1 (by omega) (pk_lt (pop b) (pop f) (fun x => ?_) (fun x => no (fun q => by have := q.2.1; omega) w h))
        exact y_isSetBy h hN (by omega) (fun w1 h1 => ⟨fun v => no (fun x => absurd v (of_decide_eq_true x.2.2)) w1 h1, fun v => yes ⟨hk.mp z, by omega, decide_eq_true v⟩ w1 h1⟩)
theorem p_apart {Q : qW → Int32 → Prop} {a b : Nat} (hw : Sh w) (ha : a < 1000000) (hb : b < 1000000) (h : Q w (nI (dst a b))) : CaI d M_Mo_apart [.ref (qb E + 115), .int (nI a), .int (nI b)] E w Q := by
  unfold dst at h
  refine en_Mo_apart hw (s_Mo_apart_0 hw (pk_le b a (fun z => ?_) (fun z => ?_)))
  · rw [if_neg (by omega)] at h
    rw [pk_sub z]; exact h
  · rw [if_pos z] at h
    rw [pk_sub (by omega)]; exact h
theorem h_mflame {Q : qW → Int32 → Prop} {N q : Nat} (hN : N ≤ 60) (hq : q ≤ 9999) (hQ : ∀ w1, MA k w0 w1 → Q w1 (nI (flF (dkF k N q (nmP (PM w0))) 2000000000 10).2)) :
    ∀ (n f : Nat) (w : qW), f + n = 10 → MA k w0 w → (flF (dkF k N q (nmP (PM w0))) 2000000000 f).1 ≤ 2000000000 → c_Mo_flame_36 d E Q (nI N) (nI q) (nI (flF (dkF k N q (nmP (PM w0))) 2000000000 f).2) (nI (flF (dkF k N q (nmP (PM w0))) 2000000000 f).1) (nI f) w := by
  intro n
  induction n with
  | zero =>
    intro f w hf h _
    have : f = 10 := by omega
    subst this
    exact s_Mo_flame_36 h.1 (pk_le 10 10 (fun _ => hQ w h) (fun z => by omega))
  | succ n ih =>
    intro f w hf h hle
    refine s_Mo_flame_36 h.1 (pk_le 10 f (fun z => by omega) (fun _ => ?_))
    rw [n1]
    refine b_save h (fun w1 h1 t1 => ?_)
    obtain ⟨h2, t2⟩ := b_fire (x := nI f) h1 t1 ⟨f, by omega, rfl⟩
    refine b_mins h2 t2 (by omega) (fun w3 h3 t3 => ?_)
    have hc := t3.1.2.2.1
    have hc' : rg (pk (it k N (sF (nmP (PM w0)) (nI f)))) 99999 := by rw [← t3.2]; exact hc
    obtain ⟨e1, e2⟩ := rg_cl hc' (by omega)
    have hd := dkF_le (k := k) (p := nmP (PM w0)) h.ok hN hq f (by omega)
    rw [t3.col, e1]
    refine p_apart h3.1 (by omega) (by omega) (b_back h3 (fun w4 h4 => pk_lt (dkF k N q (nmP (PM w0)) f) (flF (dkF k N q (nmP (PM w0))) 2000000000 f).1 (fun z => ?_) (fun z => ?_) rfl rfl (by omega) (by omega)))
    · have := ih (f + 1) w4 (by omega) h4
      rw [flF_s (by omega)] at this
      exact this (by omega)
    · have := ih (f + 1) w4 (by omega) h4
      rw [flF_n z] at this
      exact this hle
theorem pop_bit : ∀ i, i < 6 → ∀ x, x < 2 ^ i → pop (x + 2 ^ i) = pop x + 1 := by decide +kernel
theorem pop_st {p : Pn} {st : Int32} {i : Nat} (hi : i < 6) : pop (stN p st (i + 1)) = if pa p i 4 = st then pop (stN p st i) + 1 else pop (stN p st i) := by
  show pop (if pa p i 4 = st then stN p st i + 2 ^ i else stN p st i) = _
  by_cases h : pa p i 4 = st
  · rw [if_pos h, if_pos h, pop_bit i hi _ (stN_lt p st i)]
  · rw [if_neg h, if_neg h]
theorem bt_add : ∀ n, n < 6 → ∀ x, x < 2 ^ n → ∀ i, i < 6 → bt (x + 2 ^ n) i = (bt x i || decide (i = n)) := by decide +kernel
theorem bt_st {p : Pn} {st : Int32} {n : Nat} (hn : n ≤ 6) : ∀ i, i < 6 → (bt (stN p st n) i = true ↔ (i < n ∧ pa p i 4 = st)) := by
  induction n with
  | zero =>
    intro i _
    have : bt (stN p st 0) i = false := by
      show bt 0 i = false
      unfold bt
      rw [Nat.zero_div]
      rfl
    rw [this]
    exact ⟨fun h => absurd h (by decide), fun h => by omega⟩
  | succ n ih =>
    intro i hi
    show bt (if pa p n 4 = st then stN p st n + 2 ^ n else stN p st n) i = true ↔ _
    by_cases h : pa p n 4 = st
    · rw [if_pos h, bt_add n (by omega) _ (stN_lt p st n) i hi, Bool.or_eq_true, ih (by omega) i hi, decide_eq_true_iff]
      constructor
      · rintro (q | rfl)
        · exact ⟨by omega, q.2⟩
        · exact ⟨by omega, h⟩
      · rintro ⟨q1, q2⟩
        by_cases e : i = n
        · exact Or.inr e
        · exact Or.inl ⟨by omega, q2⟩
    · rw [if_neg h, ih (by omega) i hi]
      constructor
      · rintro ⟨q1, q2⟩; exact ⟨by omega, q2⟩
      · rintro ⟨q1, q2⟩
        refine ⟨?_, q2⟩
        by_cases e : i = n
        · rw [e] at q2; exact absurd q2 h
        · omega
theorem chF_s {u i : Nat} {S : Nat → Bool} (h : bt u i = true ∧ S (2 ^ i) = true) : chF u S (i + 1) = chF u S i + 1 := by
  show (if bt u i = true ∧ S (2 ^ i) = true then _ else _) = _
  rw [if_pos h]
theorem chF_n {u i : Nat} {S : Nat → Bool} (h : ¬ (bt u i = true ∧ S (2 ^ i) = true)) : chF u S (i + 1) = chF u S i := by
  show (if bt u i = true ∧ S (2 ^ i) = true then _ else _) = _
  rw [if_neg h]
theorem chF_c {p : Pn} {S : Nat → Bool} (hc : cN p ≤ 6) : chF (bsP p 0) S 6 = chF (bsP p 0) S (cN p) := by
  have key : ∀ m, cN p + m ≤ 6 → chF (bsP p 0) S (cN p + m) = chF (bsP p 0) S (cN p) := by
    intro m
    induction m with
    | zero => intro _; rfl
    | succ m ih =>
      intro hm
      rw [← Nat.add_assoc, chF_n (fun q => ?_), ih (by omega)]
      have := (bt_st hc (cN p + m) (by omega)).mp q.1
      omega
  have := key (6 - cN p) (by omega)
  rw [show cN p + (6 - cN p) = 6 by omega] at this
  exact this
theorem h_odds {Q : qW → Int64 → Prop} {N : Nat} {b : Int32} (hN : N ≤ 60) (hQ : ∀ w1, MA k w0 w1 → (pop (bsP (nmP (PM w0)) 0) = 0 → Q w1 (-9223372036854775808)) ∧ (¬ pop (bsP (nmP (PM w0)) 0) = 0 → CaL (d + 7) M_Mo_lowest [.ref (qb E + 115), .int (nI (chF (bsP (nmP (PM w0)) 0) (SB k N (nmP (PM w0))) 6)), .int (nI (pop (bsP (nmP (PM w0)) 0))), .int b] E w1 Q)) :
    ∀ (n i : Nat) (w : qW), i + n = cN (nmP (PM w0)) → MA k w0 w → c_Mo_odds_33 d E Q (nI N) b (nI (chF (bsP (nmP (PM w0)) 0) (SB k N (nmP (PM w0))) i)) (nI (pop (stN (nmP (PM w0)) 0 i))) (nI i) w := by
  intro n
  induction n with
  | zero =>
    intro i w hi h
    obtain ⟨c, c1, c2, c3⟩ := h.tm.cn
    have hcl : cN (nmP (PM w0)) ≤ 6 := by omega
    obtain ⟨q1, q2⟩ := hQ w h
    have hp := pop_6 (bsP (nmP (PM w0)) 0)
    have ei : i = cN (nmP (PM w0)) := by omega
    have e : stN (nmP (PM w0)) 0 i = bsP (nmP (PM w0)) 0 := by rw [ei]; rfl
    rw [chF_c hcl, ← ei] at q2
    rw [e]
    have ez : nI (pop (bsP (nmP (PM w0)) 0)) = 0 ↔ pop (bsP (nmP (PM w0)) 0) = 0 := neq (b := 0) (by omega) (by omega)
    refine s_Mo_odds_33 h.1 (pk_le c i (fun _ => ⟨fun z => ?_, fun z => q1 (ez.mp z)⟩) (fun z => by omega) c2)
    exact CaL.mono (q2 (fun y => z (ez.mpr y))) (fun w1 x _ hx => hx)
  | succ n ih =>
    intro i w hi h
    obtain ⟨c, c1, c2, c3⟩ := h.tm.cn
    have hcl : cN (nmP (PM w0)) ≤ 6 := by omega
    have hk : bt (bsP (nmP (PM w0)) 0) i = true ↔ (i < cN (nmP (PM w0)) ∧ pa (nmP (PM w0)) i 4 = 0) := bt_st (p := nmP (PM w0)) (st := 0) hcl i (by omega)
    have hp := pop_st (p := nmP (PM w0)) (st := 0) (i := i) (by omega)
    refine s_Mo_odds_33 h.1 (pk_le c i (fun z => by omega) (fun _ => ⟨nvp (by omega) (by omega), ?_⟩) c2)
    rw [ncl (a := i) (by omega), h.tm.st (by omega), n1, n1, n1, Int32.add_zero, bit_1 i (by omega)]
    refine ⟨fun z => y_isSetBy h hN ?_ (fun w1 h1 => ⟨fun v => ?_, fun v => ?_⟩), fun z => ?_⟩
    · exact Nat.lt_of_le_of_lt (Nat.pow_le_pow_right (by decide) (show i ≤ 5 by omega)) (by decide)
    · have := ih (i + 1) w1 (by omega) h1
      rw [chF_n (fun x => absurd v (of_decide_eq_true x.2)), hp, if_pos z] at this
      exact this
    · have := ih (i + 1) w1 (by omega) h1
      rw [chF_s ⟨hk.mpr ⟨by omega, z⟩, decide_eq_true v⟩, hp, if_pos z] at this
      exact this
    · have := ih (i + 1) w (by omega) h
      rw [chF_n (fun x => z (hk.mp x.1).2), hp, if_neg z] at this
      exact this
theorem y_goPlan {Q : qW → Prop} {x y : Int32} (h : MB k w0 w) (ht : TM M w p) (hM : M ≤ 19000) (ho : okPl (cN p) x y) (hQ : ∀ w1, MB k w0 w1 → TM (M + 1) w1 (folP k x y p) → Q w1) : CaV (d + 6) M_Mo_goPlan [.ref (qb E + 115), .int x, .int y] E w Q := by
  obtain ⟨⟨a, ha, rfl⟩, ho2, ho3⟩ := ho
  have mono : ∀ {w1 : qW} {q : Pn}, TM M w1 q → TM (M + 1) w1 q := fun t => ⟨t.1.mono (by omega) (by omega), t.2⟩
  obtain ⟨c, c1, c2, c3⟩ := ht.cn
  refine en_Mo_goPlan h.1 (s_Mo_goPlan_0 h.1 ?_)
  rcases (show a = 0 ∨ a = 1 ∨ a = 2 ∨ a = 3 by omega) with rfl | rfl | rfl | rfl
  · exact ⟨fun z => absurd rfl z, fun _ => b_min h ht (by omega) (fun w1 h1 t1 => ⟨fun _ => ⟨fun _ => ⟨fun _ => hQ w1 h1 t1, fun z => absurd z (by decide)⟩, fun z => absurd z (by decide)⟩, fun z => absurd z (by decide)⟩)⟩
  · obtain ⟨i, hi, rfl⟩ := ho2 (Or.inl rfl)
    have e : folP k (nI 1) (nI i) p = if pa p i 4 = 0 then puP i p else p := by
      show (if pa p (nI i).toNatClampNeg 4 = 0 then puP (nI i).toNatClampNeg p else p) = _
      rw [ncl (by omega)]
    rw [e] at hQ
    refine ⟨fun _ => ⟨fun z => absurd rfl z, fun _ => ⟨nvp (by omega) (by omega), ?_⟩⟩, fun z => absurd z (by decide)⟩
    rw [ncl (a := i) (by omega), ht.st (by omega)]
    refine ⟨fun z => ⟨fun _ => ⟨fun _ => ?_, fun v => absurd v (by decide)⟩, fun v => absurd v (by decide)⟩, fun z => b_put h ht (by omega) (fun w1 h1 t1 => ⟨fun _ => ⟨fun _ => ?_, fun v => absurd v (by decide)⟩, fun v => absurd v (by decide)⟩)⟩
    · rw [if_neg z] at hQ
      exact hQ w h (mono ht)
    · rw [if_pos z] at hQ
      exact hQ w1 h1 (mono t1)
  · obtain ⟨i, hi, rfl⟩ := ho2 (Or.inr rfl)
    have e : folP k (nI 2) (nI i) p = if pa p i 4 = 2 then p else spP i p := by
      show (if pa p (nI i).toNatClampNeg 4 = 2 then p else spP (nI i).toNatClampNeg p) = _
      rw [ncl (by omega)]
    rw [e] at hQ
    refine ⟨fun _ => ⟨fun _ => ⟨fun z => absurd rfl z, fun _ => ⟨nvp (by omega) (by omega), ?_⟩⟩, fun z => absurd z (by decide)⟩, fun z => absurd z (by decide)⟩
    rw [ncl (a := i) (by omega), ht.st (by omega)]
    refine ⟨fun z => ⟨fun _ => ?_, fun v => absurd v (by decide)⟩, fun z => b_sp h ht (by omega) (fun w1 h1 t1 => ⟨fun _ => ?_, fun v => absurd v (by decide)⟩)⟩
    · rw [if_pos z] at hQ
      exact hQ w h (mono ht)
    · rw [if_neg z] at hQ
      exact hQ w1 h1 (mono t1)
  · refine ⟨fun _ => ⟨fun _ => ⟨fun _ => ⟨fun z => absurd rfl z, fun _ => ?_⟩, fun z => absurd z (by decide)⟩, fun z => absurd z (by decide)⟩, fun z => absurd z (by decide)⟩
    obtain ⟨h1, t1⟩ := b_fire h ht (ho3 rfl)
    exact hQ _ h1 (mono t1)
theorem h_ends {Q : qW → Int32 → Prop} {a : Int32} {cnt : Nat} (hc : cnt ≤ 10) (hcn : qi w0 115 42 = nI cnt) (hA : ∀ j, j < cnt → okPl (cN (nmP (PM w0))) (qi w0 139 j) (qi w0 140 j)) (hQ : ∀ w1, MA k w0 w1 → Q w1 (if a = 0 then pk (plF k (qi w0 139) (qi w0 140) (nmP (PM w0)) cnt) else nI (bsP (plF k (qi w0 139) (qi w0 140) (nmP (PM w0)) cnt) 1))) :
    ∀ (n i : Nat) (w : qW), i + n = cnt → MB k w0 w → TM (9999 + i) w (plF k (qi w0 139) (qi w0 140) (nmP (PM w0)) i) → c_Mo_ends_18 d E Q a (nI i) w := by
  intro n
  induction n with
  | zero =>
    intro i w hi h ht
    have : i = cnt := by omega
    subst this
    refine s_Mo_ends_18 h.1 (pk_le i i (fun _ => ⟨fun z => p_setOf h.1 ht.1 (b_back h (fun w1 h1 => ?_)), fun z => b_back h (fun w1 h1 => ?_)⟩) (fun z => by omega) ((h.2.1 115 42 (by unfold jAm; omega)).1.trans hcn))
    · have hq := hQ w1 h1
      rw [if_neg z] at hq
      rw [← nm_bsP, ht.2]
      exact hq
    · have hq := hQ w1 h1
      rw [if_pos z] at hq
      rw [ht.col]
      exact hq
  | succ n ih =>
    intro i w hi h ht
    have hin : vp_in (nI i) 10 := nvp (by omega) (by omega)
    refine s_Mo_ends_18 h.1 (pk_le cnt i (fun z => by omega) (fun _ => ⟨hin, hin, ?_⟩) ((h.2.1 115 42 (by unfold jAm; omega)).1.trans hcn))
    rw [ncl (a := i) (by omega), n1, (h.2.1 139 i (by unfold jAm; omega)).1, (h.2.1 140 i (by unfold jAm; omega)).1]
    refine y_goPlan h ht (by omega) ?_ (fun w1 h1 t1 => ih (i + 1) w1 (by omega) h1 t1)
    rw [pl_cN]
    exact hA i (by omega)
end MD
