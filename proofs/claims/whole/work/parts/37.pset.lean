/-! the pairs: what changes the pan -/
section PS
variable {d : Nat} {E : qE} {w w1 w2 : qW} {kk : Nat → List Cl} {n : Nat}
def jPm (k j : Nat) : Prop := (k = 115 ∧ j ≤ 4) ∨ (116 ≤ k ∧ k ≤ 122) ∨ k = 132
theorem J.m1 (hf : Fr (jPn 15) w w1) : PM w1 = PM w := by
  have g : ∀ k j, ¬ jPn 15 k j → qi w1 k j = qi w k j := fun k j q => (hf k j q).1
  exact PM_e (fun j _ => g _ _ (by unfold jPn; omega)) (fun k j a b => g _ _ (by unfold jPn; omega))
theorem J.m2 (hf : Fr jPm w w1) : PX 15 w1 = PX 15 w := by
  have g : ∀ k j, ¬ jPm k j → qi w1 k j = qi w k j := fun k j q => (hf k j q).1
  exact PX_ext (fun k j a b c => g _ _ (by unfold jPm; omega)) (hf 15 6 (by unfold jPm; omega)).2.2
theorem J.two {p : Pn} (h : J kk n w) (h1 : Fr (jPn 15) w w1) (h2 : Fr jPm w1 w2) (e1 : PX 15 w1 = p) (e2 : PM w2 = p) (ho : okR 9999 9999 p) (hc : cN (PM w) ≤ cN p) : J kk n w2 :=
  h.pan ((h1.mono (fun k j q => by unfold jPn at q; unfold jPan; omega)).tr (h2.mono (fun k j q => by unfold jPm at q; unfold jPan; omega))) ((J.m2 h2).trans (e1.trans e2.symm)) (by rw [e2]; exact ho) (by rw [e2]; exact hc)
theorem J.ko (h : J kk n w) (h1 : Fr (jPn 15) w w1) : MC (kc kk w) w1 := by
  have g : ∀ k j, 100 ≤ k → qi w1 k j = qi w k j := fun k j q => (h1 k j (by unfold jPn; omega)).1
  refine ⟨by rw [J.m1 h1]; exact h.1.2.1, h.kcs.1.fr (fun k j _ _ => g k j (by omega)) (g 115 13 (by omega)), (g 115 30 (by omega)).trans h.2.2.2.2.2.2.2.1⟩
theorem J.xo (h : J kk n w) : okR 9999 9999 (PX 15 w) := by rw [h.1.1]; exact h.1.2.1
theorem x6 {i a : Nat} (hi : i < 6) (ha : a < 6) (h : J kk n w) : qi w (15 + 3 + 2 * i) (a + 1) = qi w (116 + a) i := by
  rw [← aX_6 hi ha, h.1.1, aM_6 hi ha]
theorem p_Mo_puts {Q : qW → Prop} {i : Nat} (hw : Sh w) (hi : i < 6) (hQ : ∀ w1, Sh w1 → Fr jPm w w1 → PM w1 = puP i (PM w) → Q w1) : CaV d M_Mo_puts [.ref (qb E + 115), .int (nI i)] E w Q := by
  refine en_Mo_puts hw (s_Mo_puts_0 hw ⟨nvp hi (by omega), nvp hi (by omega), ?_⟩)
  rw [ncl (by omega)]
  have e : PM (qpi (qpi w 120 i 1) 121 i 0) = puP i (PM w) := by
    rw [show (121 : Nat) = 116 + 5 from rfl, PM_t hi (by omega), show (120 : Nat) = 116 + 4 from rfl, PM_t hi (by omega)]
    rfl
  exact hQ _ hw ((Fr.rf.pi (by unfold jPm; omega)).pi (by unfold jPm; omega)) e
theorem pr_put : pair_put E (I E) := by
  intro d w a1 hw hI
  obtain ⟨kk, n, hJ⟩ := id hI
  obtain ⟨c, c1, c2, c3, c4⟩ := hJ.cn
  refine en_Qu_put hw (s_Qu_put_0 hw ?_)
  rcases thg (x := a1) c c1 with h1 | ⟨i, h1, rfl⟩
  · exact p_find_n hw pan15 c2 h1 (Or.inl ⟨rfl, en_Mo_put hw (s_Mo_put_0 hw (p_thg0 hw c1 c3 h1 (f1 ⟨rfl, hI⟩)))⟩)
  have hi : i < 6 := by omega
  have es : qi w (15 + 3 + 2 * i) 5 = qi w 120 i := x6 (a := 4) hi (by omega) hJ
  refine p_find_s hw pan15 c1 c2 h1 (Or.inr ⟨i, hi, rfl, ?_⟩)
  rw [es]
  refine ⟨fun z => p_putIn hw pan15 hi (fun w1 hw1 hf1 e1 => ?_), fun z => en_Mo_put hw (s_Mo_put_0 hw (p_thg1 hw c1 c3 h1 (t1 ⟨nvp hi (by omega), by rw [ncl (by omega)]; exact ⟨fun y => absurd y z, fun _ => ⟨rfl, hI⟩⟩⟩)))⟩
  have ok1 : okR 9999 9999 (puP i (PM w)) := okR_pu hJ.1.2.1
  have e1' : PX 15 w1 = puP i (PM w) := by rw [e1, hJ.1.1]
  refine p_Pa_howMany hw1 pan15 (by rw [e1']; exact ok1) ?_
  have g : ∀ k j, 100 ≤ k → qi w1 k j = qi w k j := fun k j q => (hf1 k j (by unfold jPn; omega)).1
  refine en_Mo_put hw1 (s_Mo_put_0 hw1 (p_thg1 hw1 c1 ((g _ _ (by omega)).trans c3) h1 (t1 ⟨nvp hi (by omega), ?_⟩)))
  rw [ncl (by omega), g 120 i (by omega)]
  refine ⟨fun _ => p_Mo_puts hw1 hi (fun w2 hw2 hf2 e2 => ?_), fun y => absurd z y⟩
  have e2' : PM w2 = puP i (PM w) := by rw [e2, J.m1 hf1]
  refine p_setOf hw2 (by rw [e2']; exact ok1) (p_bits hw2 (bsP_lt 1 (by rw [e2']; exact ok1)) ⟨?_, kk, n, hJ.two hf1 hf2 e1' e2' ok1 (Nat.le_refl _)⟩)
  rw [e1', e2']
theorem pr_say : pair_say E (I E) := by
  intro d w a1 hw hI
  obtain ⟨kk, n, hJ⟩ := id hI
  obtain ⟨c, c1, c2, c3, c4⟩ := hJ.cn
  refine en_Qu_say hw (s_Qu_say_0 hw ?_)
  rcases thg (x := a1) c c1 with h1 | ⟨i, h1, rfl⟩
  · exact p_find_n hw pan15 c2 h1 (Or.inl ⟨rfl, en_Mo_say hw (s_Mo_say_0 hw (p_thg0 hw c1 c3 h1 (f1 ⟨rfl, hI⟩)))⟩)
  have hi : i < 6 := by omega
  have es : qi w (15 + 3 + 2 * i) 5 = qi w 120 i := x6 (a := 4) hi (by omega) hJ
  refine p_find_s hw pan15 c1 c2 h1 (Or.inr ⟨i, hi, rfl, ?_⟩)
  rw [es]
  refine ⟨fun z => p_speak hw pan15 hi hJ.xo (fun w1 hw1 hf1 e1 => ?_), fun z => en_Mo_say hw (s_Mo_say_0 hw (p_thg1 hw c1 c3 h1 (t1 ⟨nvp hi (by omega), by rw [ncl (by omega)]; exact ⟨fun y => absurd z y, fun _ => ⟨rfl, hI⟩⟩⟩)))⟩
  have ok1 : okR 9999 9999 (spP i (PM w)) := okR_sp hJ.1.2.1 hi
  have e1' : PX 15 w1 = spP i (PM w) := by rw [e1, hJ.1.1]
  have g : ∀ k j, 100 ≤ k → qi w1 k j = qi w k j := fun k j q => (hf1 k j (by unfold jPn; omega)).1
  refine en_Mo_say hw1 (s_Mo_say_0 hw1 (p_thg1 hw1 c1 ((g _ _ (by omega)).trans c3) h1 (t1 ⟨nvp hi (by omega), ?_⟩)))
  rw [ncl (by omega), g 120 i (by omega)]
  refine ⟨fun _ => p_Mo_says hw1 (by rw [J.m1 hf1]; exact hJ.1.2.1) hi (fun w2 hw2 hf2 e2 => ?_), fun y => absurd y z⟩
  have e2' : PM w2 = spP i (PM w) := by rw [e2, J.m1 hf1]
  refine ⟨?_, kk, n, hJ.two hf1 (hf2.mono (fun k j q => by unfold jPm; omega)) e1' e2' ok1 (Nat.le_refl _)⟩
  show pk (PX 15 w1) = pk (PM w2)
  rw [e1', e2']
theorem pr_weigh : pair_weigh E (I E) := by
  intro d w a1 a2 hw hI
  obtain ⟨kk, n, hJ⟩ := id hI
  obtain ⟨c, c1, c2, c3, c4⟩ := hJ.cn
  refine en_Qu_weigh hw (s_Qu_weigh_0 hw ?_)
  rcases thg (x := a1) c c1 with h1 | ⟨i, h1, rfl⟩
  · exact p_find_n hw pan15 c2 h1 (Or.inl ⟨rfl, en_Mo_weigh hw (s_Mo_weigh_0 hw (p_thg0 hw c1 c3 h1 (f1 ⟨rfl, hI⟩)))⟩)
  have hi : i < 6 := by omega
  refine p_find_s hw pan15 c1 c2 h1 (Or.inr ⟨i, hi, rfl, ?_⟩)
  rcases rng (x := a2) 0 20 (by omega) (by omega) with h2 | ⟨m2, -, h2, rfl⟩
  · exact p_wo hw h2 (f1 (en_Mo_weigh hw (s_Mo_weigh_0 hw (p_thg1 hw c1 c3 h1 (t1 (p_wgt0 hw h2 (f1 ⟨rfl, hI⟩)))))))
  refine p_wi (a := 0) (b := 20) hw (by omega) h2 (t1 ?_)
  have hf1 : Fr (jPn 15) w (qpi w (15 + 3 + 2 * i) 3 (nI m2)) := Fr.rf.pi (by unfold jPn; omega)
  have e1 : PX 15 (qpi w (15 + 3 + 2 * i) 3 (nI m2)) = sA (PM w) i 2 (nI m2) := by rw [← hJ.1.1]; exact PX_t (a := 2) hi (by omega)
  have c3' : qi (qpi w (15 + 3 + 2 * i) 3 (nI m2)) 115 0 = nI c := (qi_k (by omega)).trans c3
  refine en_Mo_weigh hw (s_Mo_weigh_0 hw (p_thg1 hw c1 c3' h1 (t1 (p_wgt1 hw h2 (t1 ⟨nvp hi (by omega), nvp hi (by omega), ?_⟩)))))
  rw [ncl (by omega)]
  refine ⟨(x6 (a := 2) hi (by omega) hJ).trans (qi_k (by omega)).symm, kk, n, hJ.two hf1 (Fr.rf.pi (by unfold jPm; omega)) e1 ?_ (okR_w hJ.1.2.1 h2) (Nat.le_refl _)⟩
  rw [show (118 : Nat) = 116 + 2 from rfl, PM_t hi (by omega), J.m1 hf1]
theorem pr_fire : pair_fire E (I E) := by
  intro d w a1 hw hI
  obtain ⟨kk, n, hJ⟩ := id hI
  refine en_Qu_fire hw (s_Qu_fire_0 hw ?_)
  rcases rng (x := a1) 0 9 (by omega) (by omega) with h2 | ⟨m2, -, h2, rfl⟩
  · exact p_wo hw h2 (f1 (en_Mo_fire hw (s_Mo_fire_0 hw (p_mo hw h2 (f1 ⟨rfl, hI⟩)))))
  refine p_wi (a := 0) (b := 9) hw (by omega) h2 (t1 ?_)
  have hf1 : Fr (jPn 15) w (qpi w 15 2 (nI m2)) := Fr.rf.pi (by unfold jPn; omega)
  have e1 : PX 15 (qpi w 15 2 (nI m2)) = sF (PM w) (nI m2) := by rw [← hJ.1.1]; exact PX_F
  refine en_Mo_fire hw (s_Mo_fire_0 hw (p_mi (a := 0) (b := 9) hw (by omega) h2 (t1 ⟨?_, kk, n, hJ.two hf1 (Fr.rf.pi (by unfold jPm; omega)) e1 ?_ (okR_F hJ.1.2.1 ⟨m2, h2, rfl⟩) (Nat.le_refl _)⟩)))
  · rw [qi_k (a := 115) (by omega)]
    show pf (PX 15 w) = pf (PM w)
    rw [hJ.1.1]
  · rw [PM_F, J.m1 hf1]
def tiP (p : Pn) : Pn := (pc p, pf p, 0, 0, pm p, pr p, fun i a => if a = 4 ∧ i < cN p ∧ pa p i 4 = 1 then 0 else pa p i a)
theorem okR_ti {M T : Nat} {p : Pn} (h : okR M T p) : okR M T (tiP p) := by
  refine ⟨h.1, h.2.1, ⟨0, by omega, rfl⟩, Or.inl rfl, h.2.2.2.2.1, fun i hi => ?_⟩
  obtain ⟨b0, b1, b2, b3, b4, b5, b6, b7⟩ := h.2.2.2.2.2 i hi
  have e : ∀ a, a ≠ 4 → pa (tiP p) i a = pa p i a := fun a ha => if_neg (fun q => ha q.1)
  refine ⟨by rw [e 0 (by omega)]; exact b0, by rw [e 1 (by omega)]; exact b1, by rw [e 2 (by omega)]; exact b2, by rw [e 3 (by omega)]; exact b3, ?_, by rw [e 5 (by omega)]; exact b5, fun b hb => by rw [e _ (by omega)]; exact b6 b hb, by rw [e 10 (by omega)]; exact b7⟩
  show rg (if 4 = 4 ∧ i < cN p ∧ pa p i 4 = 1 then 0 else pa p i 4) 2
  split
  · exact ⟨0, by omega, rfl⟩
  · exact b4
/-- the first m things tipped -/
def tiA (p : Pn) (m : Nat) : Nat → Nat → Int32 := fun i a => if a = 4 ∧ i < m ∧ pa p i 4 = 1 then 0 else pa p i a
theorem tiA_s {p : Pn} {m : Nat} (h : pa p m 4 = 1) : tiA p (m + 1) = upA (tiA p m) m 4 0 := by
  funext i a
  show (if a = 4 ∧ i < m + 1 ∧ pa p i 4 = 1 then 0 else pa p i a) = if i = m ∧ a = 4 then 0 else (if a = 4 ∧ i < m ∧ pa p i 4 = 1 then 0 else pa p i a)
  by_cases q : i = m ∧ a = 4
  · rw [if_pos ⟨q.2, by omega, by rw [q.1]; exact h⟩, if_pos q]
  · rw [if_neg q]
    by_cases z : a = 4 ∧ i < m ∧ pa p i 4 = 1
    · rw [if_pos z, if_pos ⟨z.1, by omega, z.2.2⟩]
    · rw [if_neg z, if_neg (fun y => z ⟨y.1, by omega, y.2.2⟩)]
theorem tiA_n {p : Pn} {m : Nat} (h : ¬ pa p m 4 = 1) : tiA p (m + 1) = tiA p m := by
  funext i a
  unfold tiA
  by_cases z : a = 4 ∧ i < m ∧ pa p i 4 = 1
  · rw [if_pos z, if_pos ⟨z.1, by omega, z.2.2⟩]
  · rw [if_neg z, if_neg (fun y => z ⟨y.1, by
      rcases Nat.lt_or_ge i m with q | q
      · exact q
      · exact absurd (by rw [← show i = m by omega]; exact y.2.2) h, y.2.2⟩)]
theorem tiA_0 {p : Pn} : tiA p 0 = pa p := by
  funext i a
  exact if_neg (fun q => by omega)
theorem tiA_4 {p : Pn} {m i : Nat} (h : m ≤ i) : tiA p m i 4 = pa p i 4 := if_neg (fun q => by omega)
theorem h_xtip {Q : qW → Prop} {c : Nat} {p : Pn} (hc : c ≤ 6) (hcp : cN p = c) (hQ : ∀ w1, Sh w1 → Fr (jPn 15) w w1 → PX 15 w1 = tiP p → Q w1) :
    ∀ (m i : Nat) (w1 : qW), i + m = c → Sh w1 → Fr (jPn 15) w w1 → qi w1 15 0 = nI c → PX 15 w1 = (pc p, pf p, pk p, ps p, pm p, pr p, tiA p i) → c_Pa_tipOut_2 d E Q 15 (nI i) w1 := by
  intro m
  induction m with
  | zero =>
    intro i w1 hi hw1 hf hcn he
    have : i = c := by omega
    subst this
    have fin : Q (qpi (qpi w1 15 3 0) 15 4 0) := by
      refine hQ _ hw1 ((hf.pi (by unfold jPn; omega)).pi (by unfold jPn; omega)) ?_
      have a1 : aX (qpi (qpi w1 15 3 0) 15 4 0) 15 = aX w1 15 := by rw [aX_q, aX_q]
      have a2 : aX w1 15 = tiA p i := congrArg pa he
      have b0 : qi w1 15 0 = pc p := congrArg pc he
      have b1 : qi w1 15 2 = pf p := congrArg pf he
      have b2 : qi w1 15 5 = pm p := congrArg pm he
      have b3 : qr w1 15 6 = pr p := congrArg pr he
      have t : tiP p = (pc p, pf p, 0, 0, pm p, pr p, tiA p i) := by unfold tiP tiA; rw [hcp]
      rw [t, ← a2, ← b0, ← b1, ← b2, ← b3, ← a1]
      rfl
    refine s_Pa_tipOut_2 hw1 pan15 ⟨fun _ => fin, fun z => ⟨fun _ => fin, fun y => absurd ?_ z⟩⟩
    rw [hcn]
    exact (nle (by omega) (by omega)).mpr (Nat.le_refl _)
  | succ m ih =>
    intro i w1 hi hw1 hf hcn he
    have hi6 : i < 6 := by omega
    have a2 : aX w1 15 = tiA p i := congrArg pa he
    have st : qi w1 (15 + 3 + 2 * i) 5 = pa p i 4 := by
      rw [← tiA_4 (p := p) (Nat.le_refl i), ← a2]
      exact (aX_6 (a := 4) hi6 (by omega)).symm
    refine s_Pa_tipOut_2 hw1 pan15 ⟨fun z => absurd z ?_, fun _ => ⟨fun z => absurd z ?_, fun _ => ⟨nvp hi6 (by omega), ?_⟩⟩⟩
    · rw [hcn, nle (by omega) (by omega)]; omega
    · rw [n6, nle (by omega) (by omega)]; omega
    rw [ncl (by omega), st, n1]
    refine ⟨fun z => ih (i + 1) w1 (by omega) hw1 hf hcn (by rw [tiA_n z]; exact he), fun z => ⟨nvp hi6 (by omega), ?_⟩⟩
    refine ih (i + 1) _ (by omega) hw1 (hf.pi (by unfold jPn; omega)) ((qi_k (by omega)).trans hcn) ?_
    rw [show PX 15 (qpi w1 (15 + 3 + 2 * i) 5 0) = sA (PX 15 w1) i 4 0 from PX_t (a := 4) hi6 (by omega), he, tiA_s z]
    rfl
theorem p_tipOut {Q : qW → Prop} {M T : Nat} (hw : Sh w) (ho : okR M T (PX 15 w)) (hQ : ∀ w1, Sh w1 → Fr (jPn 15) w w1 → PX 15 w1 = tiP (PX 15 w) → Q w1) : CaV d M_Pa_tipOut [.ref (qb E + 15)] E w Q := by
  obtain ⟨c, hc, hcn, hcw⟩ := ho.c
  refine en_Pa_tipOut hw (s_Pa_tipOut_0 hw pan15 (h_xtip hc hcw hQ c 0 w (by omega) hw Fr.rf hcn ?_))
  rw [tiA_0]
  rfl
theorem h_mtip {Q : qW → Int32 → Prop} {c : Nat} {p : Pn} {x : Int32} (hc : c ≤ 6) (hcp : cN p = c) (hQ : ∀ w1, Sh w1 → Fr jPm w w1 → PM w1 = tiP p → Q w1 x) :
    ∀ (m i : Nat) (w1 : qW), i + m = c → Sh w1 → Fr jPm w w1 → qi w1 115 0 = nI c → PM w1 = (pc p, pf p, pk p, ps p, pm p, pr p, tiA p i) → c_Mo_tip_12 d E Q x (nI i) w1 := by
  intro m
  induction m with
  | zero =>
    intro i w1 hi hw1 hf hcn he
    have : i = c := by omega
    subst this
    refine s_Mo_tip_12 hw1 ⟨fun _ => hQ _ hw1 ((hf.pi (by unfold jPm; omega)).pi (by unfold jPm; omega)) ?_, fun z => absurd ?_ z⟩
    · have a1 : aM (qpi (qpi w1 115 2 0) 115 4 0) = aM w1 := by rw [aM_115, aM_115]
      have a2 : aM w1 = tiA p i := congrArg pa he
      have b0 : qi w1 115 0 = pc p := congrArg pc he
      have b1 : qi w1 115 1 = pf p := congrArg pf he
      have b2 : qi w1 115 3 = pm p := congrArg pm he
      have b3 : (if qi w1 115 13 < 0 then 2 else 77 + 4 * (qi w1 115 13).toNatClampNeg) = pr p := congrArg pr he
      have t : tiP p = (pc p, pf p, 0, 0, pm p, pr p, tiA p i) := by unfold tiP tiA; rw [hcp]
      rw [t, ← a2, ← b0, ← b1, ← b2, ← b3, ← a1]
      rfl
    · rw [hcn]
      exact (nle (by omega) (by omega)).mpr (Nat.le_refl _)
  | succ m ih =>
    intro i w1 hi hw1 hf hcn he
    have hi6 : i < 6 := by omega
    have a2 : aM w1 = tiA p i := congrArg pa he
    have st : qi w1 120 i = pa p i 4 := by
      rw [← tiA_4 (p := p) (Nat.le_refl i), ← a2]
      exact (aM_6 (a := 4) hi6 (by omega)).symm
    refine s_Mo_tip_12 hw1 ⟨fun z => absurd z ?_, fun _ => ⟨nvp hi6 (by omega), ?_⟩⟩
    · rw [hcn, nle (by omega) (by omega)]; omega
    rw [ncl (by omega), st, n1]
    refine ⟨fun z => ih (i + 1) w1 (by omega) hw1 hf hcn (by rw [tiA_n z]; exact he), fun z => ⟨nvp hi6 (by omega), ?_⟩⟩
    refine ih (i + 1) _ (by omega) hw1 (hf.pi (by unfold jPm; omega)) ((qi_k (by omega)).trans hcn) ?_
    rw [show PM (qpi w1 120 i 0) = sA (PM w1) i 4 0 from PM_t (a := 4) hi6 (by omega), he, tiA_s z]
    rfl
theorem pr_tip : pair_tip E (I E) := by
  intro d w hw hI
  obtain ⟨kk, n, hJ⟩ := id hI
  obtain ⟨c, c1, c2, c3, c4⟩ := hJ.cn
  refine en_Qu_tip hw (s_Qu_tip_0 hw (p_Pa_howMany hw pan15 hJ.xo (p_tipOut hw hJ.xo (fun w1 hw1 hf1 e1 => ?_))))
  have m1 := J.m1 hf1
  have ho : okR 9999 9999 (PM w1) := by rw [m1]; exact hJ.1.2.1
  refine en_Mo_tip hw1 (s_Mo_tip_0 hw1 (p_setOf hw1 ho (p_bits hw1 (bsP_lt 1 ho) ?_)))
  refine h_mtip (w := w1) (p := PM w1) c1 (by rw [m1]; exact c4) (fun w2 hw2 hf2 e2 => ⟨?_, kk, n, hJ.two hf1 hf2 (p := tiP (PM w)) (by rw [e1, hJ.1.1]) (by rw [e2, m1]) (okR_ti hJ.1.2.1) (Nat.le_refl _)⟩) c 0 w1 (by omega) hw1 Fr.rf ?_ ?_
  · exact (hf1 115 0 (by unfold jPn; omega)).1.trans c3
  · rw [tiA_0]
    rfl
  · rw [m1, hJ.1.1]
theorem pr_row : pair_row E (I E) := by
  intro d w a1 a2 a3 hw hI
  obtain ⟨kk, n, hJ⟩ := id hI
  obtain ⟨c, c1, c2, c3, c4⟩ := hJ.cn
  refine en_Qu_row hw (s_Qu_row_0 hw ?_)
  rcases thg (x := a1) c c1 with h1 | ⟨i, h1, rfl⟩
  · exact p_find_n hw pan15 c2 h1 (Or.inl ⟨rfl, en_Mo_row hw (s_Mo_row_0 hw (p_thg0 hw c1 c3 h1 (f2 ⟨rfl, hI⟩)))⟩)
  have hi : i < 6 := by omega
  refine p_find_s hw pan15 c1 c2 h1 (Or.inr ⟨i, hi, rfl, ?_⟩)
  rcases rng (x := a2) 0 3 (by omega) (by omega) with h2 | ⟨b, -, h2, rfl⟩
  · exact p_wo hw h2 (f1 (en_Mo_row hw (s_Mo_row_0 hw (p_thg1 hw c1 c3 h1 (t2 (p_mo hw h2 (f1 ⟨rfl, hI⟩)))))))
  refine p_wi (a := 0) (b := 3) hw (by omega) h2 (t1 ?_)
  rcases rng (x := a3) 0 9 (by omega) (by omega) with h3 | ⟨m, -, h3, rfl⟩
  · exact p_wo hw h3 (f1 (en_Mo_row hw (s_Mo_row_0 hw (p_thg1 hw c1 c3 h1 (t2 (p_mi (a := 0) (b := 3) hw (by omega) h2 (t1 (p_mo hw h3 (f1 ⟨rfl, hI⟩)))))))))
  refine p_wi (a := 0) (b := 9) hw (by omega) h3 (t1 ?_)
  have ek : qi w (15 + 3 + 2 * i) 1 = qi w 116 i := x6 (a := 0) hi (by omega) hJ
  have i1 : vp_in (nI b) 4 := nvp (by omega) (by omega)
  have e4 : 4 * nI i + nI b = nI (4 * i + b) := by rw [show (4 : Int32) = nI 4 from rfl, pk_mul, nI_add]
  have i2 : vp_in (4 * nI i + nI b) 24 := by rw [e4]; exact nvp (by omega) (by omega)
  rw [ek, ncl (by omega)]
  have er : 15 + 3 + 2 * i + 1 = 15 + 4 + 2 * i := by omega
  rw [er]
  have old : qi w (15 + 4 + 2 * i) b = qi w 122 (4 * i + b) := by rw [← aX_r hi (by omega), hJ.1.1, aM_r hi (by omega)]
  refine ⟨fun z => ⟨i1, i1, ?_⟩, fun z => en_Mo_row hw (s_Mo_row_0 hw (p_thg1 hw c1 c3 h1 (t2 (p_mi (a := 0) (b := 3) hw (by omega) h2 (t1 (p_mi (a := 0) (b := 9) hw (by omega) h3 (t1 ⟨nvp hi (by omega), by rw [ncl (by omega)]; exact ⟨fun y => absurd y z, fun _ => ⟨rfl, hI⟩⟩⟩)))))))⟩
  have hf1 : Fr (jPn 15) w (qpi w (15 + 4 + 2 * i) b (nI m)) := Fr.rf.pi (by unfold jPn; omega)
  have e1 : PX 15 (qpi w (15 + 4 + 2 * i) b (nI m)) = sA (PM w) i (6 + b) (nI m) := by rw [← hJ.1.1]; exact PX_w hi (by omega)
  refine en_Mo_row hw (s_Mo_row_0 hw (p_thg1 hw c1 ((qi_k (by omega)).trans c3) h1 (t2 (p_mi (a := 0) (b := 3) hw (by omega) h2 (t1 (p_mi (a := 0) (b := 9) hw (by omega) h3 (t1 ⟨nvp hi (by omega), ?_⟩)))))))
  rw [ncl (a := i) (by omega), qi_k (a := 116) (by omega), e4, ncl (by omega), qi_k (a := 122) (by omega)]
  refine ⟨fun _ => ⟨by rw [← e4]; exact i2, by rw [← e4]; exact i2, old, kk, n, hJ.two hf1 (Fr.rf.pi (by unfold jPm; omega)) e1 ?_ ?_ (Nat.le_refl _)⟩, fun y => absurd z y⟩
  · rw [PM_w hi (by omega), J.m1 hf1]
  · exact okR_sA hJ.1.2.1 (fun x hx => ⟨fun q => by omega, fun q => by omega, fun q => by omega, fun q => by omega, fun q => by omega, fun q => by omega, fun q => ⟨m, h3, rfl⟩, by omega⟩)
end PS
