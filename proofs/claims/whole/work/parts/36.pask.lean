/-! the pairs: what is asked -/
section PR
variable {d : Nat} {E : qE} {w w1 : qW} {kk : Nat → List Cl} {n : Nat}
theorem rng {x : Int32} (a b : Nat) (ha : a < 1000000) (hb : b < 1000000) : (x < nI a ∨ nI b < x) ∨ ∃ m, a ≤ m ∧ m ≤ b ∧ x = nI m := by
  by_cases h1 : x < nI a
  · exact Or.inl (Or.inl h1)
  by_cases h2 : nI b < x
  · exact Or.inl (Or.inr h2)
  have h0 : ¬ x < 0 := fun z => by
    rw [Int32.lt_iff_toInt_lt] at z h1
    rw [nI_toInt (by omega)] at h1
    have : (0 : Int32).toInt = 0 := rfl
    omega
  obtain ⟨j, hj, rfl⟩ := nI_of h0
  rw [nI_ltI hj (by omega)] at h1
  rw [nI_ltI (by omega) hj] at h2
  exact Or.inr ⟨j, by omega, by omega, rfl⟩
theorem t1 {A B : Prop} (h : A) : (¬ (1 : Int32) = 0 → A) ∧ ((1 : Int32) = 0 → B) := ⟨fun _ => h, fun z => absurd z (by decide)⟩
theorem t2 {A B : Prop} (h : A) : ((1 : Int32) = 0 → B) ∧ (¬ (1 : Int32) = 0 → A) := ⟨fun z => absurd z (by decide), fun _ => h⟩
theorem f1 {A B : Prop} (h : B) : (¬ (0 : Int32) = 0 → A) ∧ ((0 : Int32) = 0 → B) := ⟨fun z => absurd rfl z, fun _ => h⟩
theorem f2 {A B : Prop} (h : B) : ((0 : Int32) = 0 → B) ∧ (¬ (0 : Int32) = 0 → A) := ⟨fun _ => h, fun z => absurd rfl z⟩
theorem p_wi {Q : qW → Int32 → Prop} {m a b : Nat} (hw : Sh w) (h1 : a ≤ m) (h2 : m ≤ b) (h : Q w 1) (hb : b < 1000000 := by omega) : CaI d M_Qu_within [.int (nI m), .int (nI a), .int (nI b)] E w Q :=
  en_Qu_within hw (s_Qu_within_0 hw (pk_lt m a (fun z => by omega) (fun _ => pk_lt b m (fun z => by omega) (fun _ => h))))
theorem p_wo {Q : qW → Int32 → Prop} {x lo hi : Int32} (hw : Sh w) (hx : x < lo ∨ hi < x) (h : Q w 0) : CaI d M_Qu_within [.int x, .int lo, .int hi] E w Q :=
  en_Qu_within hw (s_Qu_within_0 hw ⟨fun _ => h, fun y => ⟨fun _ => h, fun z => absurd hx (fun q => q.elim y z)⟩⟩)
theorem p_mi {Q : qW → Int32 → Prop} {m a b : Nat} (hw : Sh w) (h1 : a ≤ m) (h2 : m ≤ b) (h : Q w 1) (hb : b < 1000000 := by omega) : CaI d M_Mo_in [.ref (qb E + 115), .int (nI m), .int (nI a), .int (nI b)] E w Q :=
  p_Mo_in hw (fun _ _ => h) (fun z => z.elim (fun q => by rw [nI_ltI (by omega) (by omega)] at q; omega) (fun q => by rw [nI_ltI (by omega) (by omega)] at q; omega))
theorem p_mo {Q : qW → Int32 → Prop} {x lo hi : Int32} (hw : Sh w) (hx : x < lo ∨ hi < x) (h : Q w 0) : CaI d M_Mo_in [.ref (qb E + 115), .int x, .int lo, .int hi] E w Q :=
  p_Mo_in hw (fun y z => absurd hx (fun q => q.elim y z)) (fun _ => h)
theorem p_min1 {Q : qW → Int32 → Prop} {m : Nat} (hw : Sh w) (h2 : m ≤ 60) (h : Q w 1) : CaI (d + 1) M_Mo_isMinutes [.ref (qb E + 115), .int (nI m)] E w Q :=
  en_Mo_isMinutes hw (s_Mo_isMinutes_0 hw (p_mi (a := 0) (b := 60) hw (by omega) h2 ⟨Or.inr rfl, h⟩))
theorem p_min0 {Q : qW → Int32 → Prop} {x : Int32} (hw : Sh w) (hx : x < 0 ∨ 60 < x) (h : Q w 0) : CaI (d + 1) M_Mo_isMinutes [.ref (qb E + 115), .int x] E w Q :=
  en_Mo_isMinutes hw (s_Mo_isMinutes_0 hw (p_mo hw hx ⟨Or.inl rfl, h⟩))
theorem p_wgt1 {Q : qW → Int32 → Prop} {m : Nat} (hw : Sh w) (h2 : m ≤ 20) (h : Q w 1) : CaI (d + 1) M_Mo_isWeight [.ref (qb E + 115), .int (nI m)] E w Q :=
  en_Mo_isWeight hw (s_Mo_isWeight_0 hw (p_mi (a := 0) (b := 20) hw (by omega) h2 ⟨Or.inr rfl, h⟩))
theorem p_wgt0 {Q : qW → Int32 → Prop} {x : Int32} (hw : Sh w) (hx : x < 0 ∨ 20 < x) (h : Q w 0) : CaI (d + 1) M_Mo_isWeight [.ref (qb E + 115), .int x] E w Q :=
  en_Mo_isWeight hw (s_Mo_isWeight_0 hw (p_mo hw hx ⟨Or.inl rfl, h⟩))
theorem p_thg1 {Q : qW → Int32 → Prop} {c i : Nat} (hw : Sh w) (hc : c ≤ 6) (hcn : qi w 115 0 = nI c) (hi : i < c) (h : Q w 1) : CaI (d + 1) M_Mo_isThing [.ref (qb E + 115), .int (nI i)] E w Q := by
  refine en_Mo_isThing hw (s_Mo_isThing_0 hw ?_)
  have e : qi w 115 0 - 1 = nI (c - 1) := by rw [hcn]; exact pk_sub (b := 1) (by omega)
  rw [e]
  exact p_mi (a := 0) (b := c - 1) hw (by omega) (by omega) ⟨Or.inr rfl, h⟩
theorem p_thg0 {Q : qW → Int32 → Prop} {c : Nat} {x : Int32} (hw : Sh w) (hc : c ≤ 6) (hcn : qi w 115 0 = nI c) (hx : x < 0 ∨ nI c ≤ x) (h : Q w 0) : CaI (d + 1) M_Mo_isThing [.ref (qb E + 115), .int x] E w Q := by
  refine en_Mo_isThing hw (s_Mo_isThing_0 hw (p_mo hw ?_ ⟨Or.inl rfl, h⟩))
  rcases hx with h | h
  · exact Or.inl h
  · refine Or.inr ?_
    rw [hcn, Int32.lt_iff_toInt_lt]
    have e1 : (nI c - 1).toInt = (c : Int) - 1 := pk_sub_toInt (a := c) (b := 1) (by omega) (by omega)
    rw [Int32.le_iff_toInt_le, nI_toInt (by omega)] at h
    rw [e1]
    omega
theorem thg {x : Int32} (c : Nat) (hc : c ≤ 6) : (x < 0 ∨ nI c ≤ x) ∨ ∃ i, i < c ∧ x = nI i := by
  by_cases h0 : x < 0
  · exact Or.inl (Or.inl h0)
  by_cases h1 : nI c ≤ x
  · exact Or.inl (Or.inr h1)
  obtain ⟨j, hj, rfl⟩ := nI_of h0
  rw [nI_leI (by omega) hj] at h1
  exact Or.inr ⟨j, by omega, rfl⟩
theorem J.cn (h : J kk n w) : ∃ c, c ≤ 6 ∧ qi w 15 0 = nI c ∧ qi w 115 0 = nI c ∧ cN (PM w) = c := by
  obtain ⟨c, c1, c2, c3⟩ := h.1.2.1.c
  refine ⟨c, c1, ?_, c2, c3⟩
  have : pc (PX 15 w) = nI c := by rw [h.1.1]; exact c2
  exact this
theorem J.xa (h : J kk n w) (hw : Sh w) : XA (kc kk w) w w := XA.self hw h.xc
theorem J.ma (h : J kk n w) (hw : Sh w) : MA (kc kk w) w w := MA.self hw h.mc
theorem J.fac (h : J kk n w) (hf : Fr (jFac 15) w w1) : J kk n w1 ∧ PM w1 = PX 15 w := by
  have g : ∀ k j, k ≠ 17 → qi w1 k j = qi w k j := fun k j q => (hf k j q).1
  have e : PM w1 = PM w := PM_e (fun j _ => g _ _ (by omega)) (fun k j a b => g _ _ (by omega))
  exact ⟨h.ask (hf.mono (fun _ _ q => Or.inr (Or.inr q))) (PX_fac hf) e (fun i hi => (g _ _ (by omega)).trans (h.1.2.2.2 i hi)) ((g _ _ (by omega)).trans h.2.2.2.2.2.2.2.1), by rw [e, h.1.1]⟩
theorem J.pl (h : J kk n w) (hf : Fr jPl w w1) : J kk n w1 := by
  have g : ∀ k j, k ≠ 132 → qi w1 k j = qi w k j := fun k j q => (hf k j q).1
  exact h.ask (hf.mono (fun k j q => Or.inr (Or.inl (Or.inl (by unfold jPl at q; unfold jAm; omega))))) (PX_ext (fun k j a b c => g _ _ (by omega)) (hf 15 6 (by unfold jPl; omega)).2.2) (PM_of hf) (fun i hi => (g _ _ (by omega)).trans (h.1.2.2.2 i hi)) ((g _ _ (by omega)).trans h.2.2.2.2.2.2.2.1)
theorem seenB_ext {k : List Cl} {p : Pn} {A C A' C' : Nat → Int32} {m : Nat} (h : ∀ j, j < m → A j = A' j ∧ C j = C' j) : seenB k p A C m = seenB k p A' C' m := by
  rw [Bool.eq_iff_iff, seenB_iff, seenB_iff]
  exact ⟨fun q j hj => by rw [← (h j hj).1, ← (h j hj).2]; exact q j hj, fun q j hj => by rw [(h j hj).1, (h j hj).2]; exact q j hj⟩
theorem plF_ext {k : List Cl} {p : Pn} {A B A' B' : Nat → Int32} {m : Nat} (h : ∀ j, j < m → A j = A' j ∧ (¬ A' j = 0 → B j = B' j)) : plF k A B p m = plF k A' B' p m := by
  induction m with
  | zero => rfl
  | succ m ih =>
    show folP k (A m) (B m) (plF k A B p m) = folP k (A' m) (B' m) (plF k A' B' p m)
    rw [ih (fun j hj => h j (by omega)), (h m (by omega)).1]
    by_cases z : A' m = 0
    · unfold folP
      rw [if_pos z, if_pos z]
    · rw [(h m (by omega)).2 z]
theorem okPl_ext {c : Nat} {x y y' : Int32} (h : okPl c x y) (hy : ¬ x = 0 → y' = y) : okPl c x y' := by
  obtain ⟨h1, h2, h3⟩ := h
  exact ⟨h1, fun q => by rw [hy (by rcases q with rfl | rfl <;> decide)]; exact h2 q, fun q => by rw [hy (by rw [q]; decide)]; exact h3 q⟩
theorem pr_on : pair_on E (I E) := by
  intro d w a1 a2 hw hI
  obtain ⟨kk, n, hJ⟩ := id hI
  refine en_Qu_on hw (s_Qu_on_0 hw ?_)
  rcases rng (x := a2) 0 1 (by omega) (by omega) with h2 | ⟨m2, -, h2, rfl⟩
  · exact p_wo hw h2 (f1 (en_Mo_on hw (s_Mo_on_0 hw (p_mo hw h2 (f1 ⟨rfl, hI⟩)))))
  refine p_wi (a := 0) (b := 1) hw (by omega) h2 (t1 ?_)
  rcases rng (x := a1) 0 60 (by omega) (by omega) with h1 | ⟨m1, -, h1, rfl⟩
  · exact p_wo hw h1 (f1 (en_Mo_on hw (s_Mo_on_0 hw (p_mi (a := 0) (b := 1) hw (by omega) h2 (t1 (p_min0 hw h1 (f1 ⟨rfl, hI⟩)))))))
  refine p_wi (a := 0) (b := 60) hw (by omega) h1 (t1 ?_)
  have fin : ∀ w1 x, XA (kc kk w) w w1 → x = (if nI m2 = 0 then pk (it (kc kk w) m1 (nmP (PX 15 w))) else ps (it (kc kk w) m1 (nmP (PX 15 w)))) → CaI (d + 43) M_Mo_on [.ref (qb E + 115), .int (nI m1), .int (nI m2)] E w1 (fun w4 y => x = y ∧ I E w4) := by
    intro w1 x h3 hx
    obtain ⟨hJ1, eP, mc⟩ := hJ.ya h3.ya
    refine en_Mo_on h3.1 (s_Mo_on_0 h3.1 (p_mi (a := 0) (b := 1) h3.1 (by omega) h2 (t1 (p_min1 h3.1 h1 (t1 (b_save (MA.self h3.1 mc) (fun w4 h4 t4 => b_mins h4 t4 (by omega) (fun w5 h5 t5 => ?_))))))))
    rw [eP] at t5
    rw [t5.set, t5.col]
    have s01 : ps (it (kc kk w) m1 (nmP (PX 15 w))) = 0 ∨ ps (it (kc kk w) m1 (nmP (PX 15 w))) = 1 := by rw [← t5.2]; exact t5.1.2.2.2.1
    refine ⟨fun z => ?_, fun z => b_back h5 (fun w6 h6 => ⟨by rw [hx, if_pos z], kk, n, hJ1.za h6.za⟩)⟩
    rw [if_neg z] at hx
    exact ⟨fun y => b_back h5 (fun w6 h6 => ⟨by rw [hx, y], kk, n, hJ1.za h6.za⟩), fun y => b_back h5 (fun w6 h6 => ⟨by rw [hx, s01.resolve_left y], kk, n, hJ1.za h6.za⟩)⟩
  refine ⟨fun z => x_behind (hJ.xa hw) h1 (fun w1 h3 => fin w1 _ h3 (by rw [if_pos rfl, if_neg z])), fun z => x_behind (hJ.xa hw) h1 (fun w1 h3 => fin w1 _ h3 (by rw [if_neg (by decide), if_pos z]))⟩
theorem pr_best : pair_best E (I E) := by
  intro d w a1 a2 hw hI
  obtain ⟨kk, n, hJ⟩ := id hI
  refine en_Qu_best hw (s_Qu_best_0 hw ?_)
  have two : (a2 < -1 ∨ 2 < a2) ∨ (a2 = -1 ∨ ∃ i, i ≤ 2 ∧ a2 = nI i) := by
    by_cases h1 : a2 < -1
    · exact Or.inl (Or.inl h1)
    rcases rng (x := a2) 0 2 (by omega) (by omega) with (h | h) | ⟨m, -, h, rfl⟩
    · refine Or.inr (Or.inl ?_)
      rw [Int32.lt_iff_toInt_lt] at h h1
      have e0 : (nI 0).toInt = 0 := rfl
      have e1 : (-1 : Int32).toInt = -1 := rfl
      exact Int32.toInt_inj.mp (by omega)
    · exact Or.inl (Or.inr h)
    · exact Or.inr (Or.inr ⟨m, h, rfl⟩)
  rcases two with h2 | h2
  · exact p_wo hw h2 (f1 (en_Mo_best hw (s_Mo_best_0 hw (p_mo hw h2 (f1 ⟨rfl, hI⟩)))))
  have wi : ∀ {d : Nat} {w : qW} {Q : qW → Int32 → Prop}, Sh w → Q w 1 → CaI d M_Qu_within [.int a2, .int (-1), .int 2] E w Q := by
    intro d w Q hw h
    rcases h2 with rfl | ⟨i, hi, rfl⟩
    · exact en_Qu_within hw (s_Qu_within_0 hw ⟨fun z => absurd z (by decide), fun _ => ⟨fun z => absurd z (by decide), fun _ => h⟩⟩)
    · rcases (show i = 0 ∨ i = 1 ∨ i = 2 by omega) with rfl | rfl | rfl <;> exact en_Qu_within hw (s_Qu_within_0 hw ⟨fun z => absurd z (by decide), fun _ => ⟨fun z => absurd z (by decide), fun _ => h⟩⟩)
  have mi2 : ∀ {d : Nat} {w : qW} {Q : qW → Int32 → Prop}, Sh w → Q w 1 → CaI d M_Mo_in [.ref (qb E + 115), .int a2, .int (-1), .int 2] E w Q := by
    intro d w Q hw h
    rcases h2 with rfl | ⟨i, hi, rfl⟩
    · exact p_Mo_in hw (fun _ _ => h) (fun z => absurd z (by decide))
    · rcases (show i = 0 ∨ i = 1 ∨ i = 2 by omega) with rfl | rfl | rfl <;> exact p_Mo_in hw (fun _ _ => h) (fun z => absurd z (by decide))
  refine wi hw (t1 ?_)
  rcases rng (x := a1) 1 3 (by omega) (by omega) with h1 | ⟨m1, h0, h1, rfl⟩
  · exact p_wo hw h1 (f1 (en_Mo_best hw (s_Mo_best_0 hw (mi2 hw (t1 (p_mo hw h1 (f1 ⟨rfl, hI⟩)))))))
  refine p_wi (a := 1) (b := 3) hw h0 h1 (t1 (x_best (hJ.xa hw) h1 (by omega) h2 (fun w1 h3 => ?_)))
  obtain ⟨hJ1, eP, mc⟩ := hJ.ya h3
  refine en_Mo_best h3.1 (s_Mo_best_0 h3.1 (mi2 h3.1 (t1 (p_mi (a := 1) (b := 3) h3.1 h0 h1 (t1 (y_best (MA.self h3.1 mc) h1 (by omega) h2 (fun w4 h4 => ⟨?_, kk, n, hJ1.za h4⟩)))))))
  rw [eP]
theorem pr_enough : pair_enough E (I E) := by
  intro d w a1 hw hI
  obtain ⟨kk, n, hJ⟩ := id hI
  refine en_Qu_enough hw (s_Qu_enough_0 hw ?_)
  rcases rng (x := a1) 1 12 (by omega) (by omega) with h1 | ⟨m1, h0, h1, rfl⟩
  · exact p_wo hw h1 (f1 (en_Mo_enough hw (s_Mo_enough_0 hw (p_mo hw h1 (f1 ⟨rfl, hI⟩)))))
  refine p_wi (a := 1) (b := 12) hw h0 h1 (t1 (x_fewest (hJ.xa hw) (by omega) (fun w1 h3 => ?_)))
  obtain ⟨hJ1, eP, mc⟩ := hJ.ya h3.ya
  have hu := bsP_lt 0 hJ1.1.2.1
  refine en_Mo_enough h3.1 (s_Mo_enough_0 h3.1 (p_mi (a := 1) (b := 12) h3.1 h0 h1 (t1 (p_setOf h3.1 hJ1.1.2.1 ?_))))
  refine h_enough (k := kc kk w) (w0 := w1) (by omega) hu (fun w4 h4 => ⟨?_, kk, n, hJ1.za h4.za⟩) _ 0 w1 (Nat.zero_add _) (MA.self h3.1 mc)
  rw [eP] at hu ⊢
  rw [nm_bsP, enF_u (b := 64) hu]
theorem pr_flame : pair_flame E (I E) := by
  intro d w a1 a2 hw hI
  obtain ⟨kk, n, hJ⟩ := id hI
  refine en_Qu_flame hw (s_Qu_flame_0 hw ?_)
  rcases rng (x := a1) 1 20 (by omega) (by omega) with h1 | ⟨m1, h0, h1, rfl⟩
  · exact p_wo hw h1 (f2 (en_Mo_flame hw (s_Mo_flame_0 hw (p_mo hw h1 (f2 ⟨rfl, hI⟩)))))
  refine p_wi (a := 1) (b := 20) hw h0 h1 (t2 ?_)
  rcases rng (x := a2) 0 9999 (by omega) (by omega) with h2 | ⟨m2, -, h2, rfl⟩
  · exact p_wo hw h2 (f1 (en_Mo_flame hw (s_Mo_flame_0 hw (p_mi (a := 1) (b := 20) hw h0 h1 (t2 (p_mo hw h2 (f1 ⟨rfl, hI⟩)))))))
  refine p_wi (a := 0) (b := 9999) hw (by omega) h2 (t1 (x_flame (hJ.xa hw) (by omega) h2 (fun w1 h3 => ?_)))
  obtain ⟨hJ1, eP, mc⟩ := hJ.ya h3.ya
  refine en_Mo_flame h3.1 (s_Mo_flame_0 h3.1 (p_mi (a := 1) (b := 20) h3.1 h0 h1 (t2 (p_mi (a := 0) (b := 9999) h3.1 (by omega) h2 (t1 ?_)))))
  refine h_mflame (k := kc kk w) (w0 := w1) (by omega) h2 (fun w4 h4 => ⟨?_, kk, n, hJ1.za h4.za⟩) 10 0 w1 (by omega) (MA.self h3.1 mc) (Nat.le_refl _)
  rw [eP]
  have hd := dkF_le (k := kc kk w) (p := nmP (PX 15 w)) (n := m1) (q := m2) h3.ok (by omega) h2 0 (by omega)
  rw [flF_m (m0 := 100000) (m1 := 2000000000) (by omega) (by omega) 9]
theorem pr_ends : pair_ends E (I E) := by
  intro d w a1 hw hI
  obtain ⟨kk, n, hJ⟩ := id hI
  refine en_Qu_ends hw (s_Qu_ends_0 hw ?_)
  rcases rng (x := a1) 0 1 (by omega) (by omega) with h1 | ⟨m1, -, h1, rfl⟩
  · exact p_wo hw h1 (f1 (en_Mo_ends hw (s_Mo_ends_0 hw (p_mo hw h1 (f1 ⟨rfl, hI⟩)))))
  refine p_wi (a := 0) (b := 1) hw (by omega) h1 (t1 ?_)
  obtain ⟨cnt, b1, b2, b3, b4, b5⟩ := hJ.2.1.2.1
  have hA : ∀ j, j < cnt → okPl (cN (nmP (PX 15 w))) (qi w 10 j) (qi w 11 j) := fun j hj => by
    have e := b4 j (by omega)
    have e1 : qi w 10 j = qi w 139 j := e.1
    have o := b5 j hj
    rw [e1, hJ.1.1]
    exact okPl_ext o e.2
  have fin : ∀ w1 x, XA (kc kk w) w w1 → x = (if nI m1 = 0 then pk (plF (kc kk w) (qi w 10) (qi w 11) (nmP (PX 15 w)) cnt) else nI (bsP (plF (kc kk w) (qi w 10) (qi w 11) (nmP (PX 15 w)) cnt) 1)) → CaI (d + 43) M_Mo_ends [.ref (qb E + 115), .int (nI m1)] E w1 (fun w4 y => x = y ∧ I E w4) := by
    intro w1 x h3 hx
    obtain ⟨hJ1, eP, mc⟩ := hJ.ya h3.ya
    have g : ∀ a j, 100 ≤ a → qi w1 a j = qi w a j := fun a j ha => (h3.2.1 a j (by unfold jAs; omega)).1
    have e : plF (kc kk w) (qi w 10) (qi w 11) (nmP (PX 15 w)) cnt = plF (kc kk w) (qi w1 139) (qi w1 140) (nmP (PM w1)) cnt := by
      rw [eP]
      refine plF_ext (fun j hj => ?_)
      rw [g 139 j (by omega), g 140 j (by omega)]
      exact b4 j (by omega)
    rw [e] at hx
    refine en_Mo_ends h3.1 (s_Mo_ends_0 h3.1 (p_mi (a := 0) (b := 1) h3.1 (by omega) h1 (t1 (b_save (MA.self h3.1 mc) (fun w4 h4 t4 => ?_)))))
    refine h_ends (k := kc kk w) (w0 := w1) b1 ((g 115 42 (by omega)).trans b3) (fun j hj => ?_) (fun w5 h5 => ⟨hx, kk, n, hJ1.za h5.za⟩) cnt 0 w4 (by omega) h4 t4
    rw [g 139 j (by omega), g 140 j (by omega), eP, ← hJ.1.1.symm]
    exact b5 j hj
  refine ⟨fun z => x_planned (hJ.xa hw) b1 b2 hA (fun w1 h3 => fin w1 _ h3 (by rw [if_pos rfl, if_neg z])), fun z => x_planned (hJ.xa hw) b1 b2 hA (fun w1 h3 => fin w1 _ h3 (by rw [if_neg (by decide), if_pos z]))⟩
theorem pr_can : pair_can E (I E) := by
  intro d w a1 a2 hw hI
  obtain ⟨kk, n, hJ⟩ := id hI
  obtain ⟨c, c1, c2, c3, c4⟩ := hJ.cn
  refine en_Qu_can hw (s_Qu_can_0 hw ?_)
  rcases thg (x := a1) c c1 with h1 | ⟨i, h1, rfl⟩
  · exact p_find_n hw pan15 c2 h1 (Or.inl ⟨rfl, en_Mo_can hw (s_Mo_can_0 hw (p_thg0 hw c1 c3 h1 (f2 ⟨rfl, hI⟩)))⟩)
  refine p_find_s hw pan15 c1 c2 h1 (Or.inr ⟨i, by omega, rfl, ?_⟩)
  rcases rng (x := a2) 0 1 (by omega) (by omega) with h2 | ⟨m2, -, h2, rfl⟩
  · exact p_wo hw h2 (f1 (en_Mo_can hw (s_Mo_can_0 hw (p_thg1 hw c1 c3 h1 (t2 (p_mo hw h2 (f1 ⟨rfl, hI⟩)))))))
  refine p_wi (a := 0) (b := 1) hw (by omega) h2 (t1 ?_)
  obtain ⟨cnt, b1, b2, b3, b4, b5⟩ := hJ.2.1.1
  have hA : ∀ j, j < cnt → rg (qi w 7 j) 12 := fun j hj => by
    have e : qi w 7 j = qi w 137 j := (b4 j (by omega)).1
    rw [e]
    exact b5 j hj
  have hc : i < cN (nmP (PX 15 w)) := by
    rw [hJ.1.1]
    show i < cN (PM w)
    omega
  have fin : ∀ w1 x, XA (kc kk w) w w1 → x = (if nI m2 = 0 then nI (fmF (fun m => seenB (kc kk w) (sA (nmP (PX 15 w)) i 1 (nI m)) (qi w 7) (qi w 8) cnt) 10).1 else (fmF (fun m => seenB (kc kk w) (sA (nmP (PX 15 w)) i 1 (nI m)) (qi w 7) (qi w 8) cnt) 10).2) → CaI (d + 43) M_Mo_can [.ref (qb E + 115), .int (nI i), .int (nI m2)] E w1 (fun w4 y => x = y ∧ I E w4) := by
    intro w1 x h3 hx
    obtain ⟨hJ1, eP, mc⟩ := hJ.ya h3.ya
    have g : ∀ a j, 100 ≤ a → qi w1 a j = qi w a j := fun a j ha => (h3.2.1 a j (by unfold jAs; omega)).1
    have e : (fun m => seenB (kc kk w) (sA (nmP (PX 15 w)) i 1 (nI m)) (qi w 7) (qi w 8) cnt) = fun m => seenB (kc kk w) (sA (nmP (PM w1)) i 1 (nI m)) (qi w1 137) (qi w1 138) cnt := by
      funext m
      rw [eP]
      refine seenB_ext (fun j hj => ?_)
      rw [g 137 j (by omega), g 138 j (by omega)]
      exact b4 j (by omega)
    rw [e] at hx
    refine en_Mo_can h3.1 (s_Mo_can_0 h3.1 (p_thg1 h3.1 c1 ((g 115 0 (by omega)).trans c3) h1 (t2 (p_mi (a := 0) (b := 1) h3.1 (by omega) h2 (t1 ⟨nvp (by omega) (by omega), ?_⟩)))))
    rw [ncl (a := i) (by omega)]
    refine h_mcan (k := kc kk w) (w0 := w1) b1 ((g 115 39 (by omega)).trans b3) (fun j hj => by rw [g 137 j (by omega)]; exact b5 j hj) (by omega) (fun w5 h5 => ⟨hx, kk, n, hJ1.za h5⟩) 10 0 w1 9 (by omega) (fun z => by omega) (fun _ => rfl) (MA.self h3.1 mc).mw
  refine ⟨fun z => x_firmness (hJ.xa hw) b1 b2 hA hc (by omega) (fun w1 h3 => fin w1 _ h3 (by rw [if_pos rfl, if_neg z])), fun z => x_firmness (hJ.xa hw) b1 b2 hA hc (by omega) (fun w1 h3 => fin w1 _ h3 (by rw [if_neg (by decide), if_pos z]))⟩
end PR
