/-! the pairs: a thing, a sign, minutes; fractions -/
section PV
variable {d : Nat} {E : qE} {w w1 w2 : qW} {kk : Nat → List Cl} {n : Nat}
def adA (f : Nat → Nat → Int32) (c : Nat) (k v m o : Int32) (b : Nat) : Nat → Nat → Int32 := fun i a => if i = c ∧ a < 6 + b then (if a = 0 then k else if a = 1 then v else if a = 2 then m else if a = 3 then o else 0) else f i a
def adP (p : Pn) (k v m o : Int32) : Pn := (pc p + 1, pf p, pk p, ps p, pm p, pr p, adA (pa p) (cN p) k v m o 4)
theorem adA_0 (f : Nat → Nat → Int32) (c : Nat) (k v m o : Int32) : upA (upA (upA (upA (upA (upA f c 0 k) c 1 v) c 2 m) c 3 o) c 4 0) c 5 0 = adA f c k v m o 0 := by
  funext i a
  simp only [upA, adA]
  by_cases h : i = c
  · rcases (show a = 0 ∨ a = 1 ∨ a = 2 ∨ a = 3 ∨ a = 4 ∨ a = 5 ∨ 6 ≤ a by omega) with rfl | rfl | rfl | rfl | rfl | rfl | h6
    · simp [h]
    · simp [h]
    · simp [h]
    · simp [h]
    · simp [h]
    · simp [h]
    · rw [if_neg (by omega), if_neg (by omega), if_neg (by omega), if_neg (by omega), if_neg (by omega), if_neg (by omega), if_neg (by omega)]
  · rw [if_neg (fun q => h q.1), if_neg (fun q => h q.1), if_neg (fun q => h q.1), if_neg (fun q => h q.1), if_neg (fun q => h q.1), if_neg (fun q => h q.1), if_neg (fun q => h q.1)]
theorem adA_s (f : Nat → Nat → Int32) (c : Nat) (k v m o : Int32) (b : Nat) : upA (adA f c k v m o b) c (6 + b) 0 = adA f c k v m o (b + 1) := by
  funext i a
  show (if i = c ∧ a = 6 + b then 0 else (if i = c ∧ a < 6 + b then (if a = 0 then k else if a = 1 then v else if a = 2 then m else if a = 3 then o else 0) else f i a)) = if i = c ∧ a < 6 + (b + 1) then (if a = 0 then k else if a = 1 then v else if a = 2 then m else if a = 3 then o else 0) else f i a
  by_cases h : i = c ∧ a = 6 + b
  · rw [if_pos h, if_pos ⟨h.1, by omega⟩, if_neg (by omega), if_neg (by omega), if_neg (by omega), if_neg (by omega)]
  · rw [if_neg h]
    by_cases q : i = c ∧ a < 6 + b
    · rw [if_pos q, if_pos (c := i = c ∧ a < 6 + (b + 1)) ⟨q.1, by omega⟩]
    · rw [if_neg q, if_neg (c := i = c ∧ a < 6 + (b + 1)) (fun y => by
        have h2 : ¬ (a = 6 + b) := fun e => h ⟨y.1, e⟩
        exact q ⟨y.1, by omega⟩)]
theorem okR_ad {M T : Nat} {p : Pn} {c k v m o : Nat} (h : okR M T p) (hc : pc p = nI c) (hc6 : c < 6) (hk : k ≤ 6) (hv : v ≤ 9) (hm : m ≤ 20) (ho : o ≤ 1) : okR M T (adP p (nI k) (nI v) (nI m) (nI o)) := by
  have e0 : cN p = c := by unfold cN; rw [hc, ncl (by omega)]
  refine ⟨⟨c + 1, by omega, by show pc p + 1 = _; rw [hc, n1]⟩, h.2.1, h.2.2.1, h.2.2.2.1, h.2.2.2.2.1, fun i hi => ?_⟩
  have hh := h.2.2.2.2.2 i hi
  by_cases hi2 : i = c
  · have g : ∀ a, a < 10 → pa (adP p (nI k) (nI v) (nI m) (nI o)) i a = if a = 0 then nI k else if a = 1 then nI v else if a = 2 then nI m else if a = 3 then nI o else 0 := fun a ha => if_pos ⟨by rw [e0]; exact hi2, by omega⟩
    have g10 : pa (adP p (nI k) (nI v) (nI m) (nI o)) i 10 = pa p i 10 := if_neg (fun q => by omega)
    refine ⟨by rw [g 0 (by omega)]; exact ⟨k, hk, rfl⟩, by rw [g 1 (by omega)]; exact ⟨v, hv, rfl⟩, by rw [g 2 (by omega)]; exact ⟨m, hm, rfl⟩, by rw [g 3 (by omega)]; exact ⟨o, ho, rfl⟩, by rw [g 4 (by omega)]; exact ⟨0, by omega, rfl⟩, by rw [g 5 (by omega)]; exact ⟨0, by omega, rfl⟩, fun b hb => ?_, by rw [g10]; exact hh.2.2.2.2.2.2.2⟩
    rw [g _ (by omega), if_neg (by omega), if_neg (by omega), if_neg (by omega), if_neg (by omega)]
    exact ⟨0, by omega, rfl⟩
  · have g : ∀ a, pa (adP p (nI k) (nI v) (nI m) (nI o)) i a = pa p i a := fun a => if_neg (fun q => hi2 (by rw [← e0]; exact q.1))
    refine ⟨by rw [g]; exact hh.1, by rw [g]; exact hh.2.1, by rw [g]; exact hh.2.2.1, by rw [g]; exact hh.2.2.2.1, by rw [g]; exact hh.2.2.2.2.1, by rw [g]; exact hh.2.2.2.2.2.1, fun b hb => by rw [g]; exact hh.2.2.2.2.2.2.1 b hb, by rw [g]; exact hh.2.2.2.2.2.2.2⟩
theorem PX_0 {x : Int32} : PX 15 (qpi w 15 0 x) = (x, pf (PX 15 w), pk (PX 15 w), ps (PX 15 w), pm (PX 15 w), pr (PX 15 w), pa (PX 15 w)) := by
  unfold PX
  rw [aX_q, qi_eq rfl rfl, qi_j (by decide), qi_j (by decide), qi_j (by decide), qi_j (by decide), qr_pi]
  rfl
theorem PM_0 {x : Int32} : PM (qpi w 115 0 x) = (x, pf (PM w), pk (PM w), ps (PM w), pm (PM w), pr (PM w), pa (PM w)) := by
  unfold PM
  rw [aM_115, qi_eq rfl rfl, qi_j (by decide), qi_j (by decide), qi_j (by decide), qi_j (by decide), qi_j (by decide)]
  rfl
def jBg (c k _ : Nat) : Prop := k = 15 + 3 + 2 * c ∨ k = 15 + 4 + 2 * c
theorem h_begin {Q : qW → Prop} {c : Nat} {f : Nat → Nat → Int32} {k v m o : Int32} (hc : c < 6) (hQ : ∀ w1, Sh w1 → Fr (jBg c) w w1 → aX w1 15 = adA f c k v m o 4 → Q w1) :
    ∀ (b a : Nat) (w1 : qW), a + b = 4 → Sh w1 → Fr (jBg c) w w1 → aX w1 15 = adA f c k v m o a → c_Th_begin_34 d E Q (15 + 3 + 2 * c) (nI a) w1 := by
  intro b
  induction b with
  | zero =>
    intro a w1 ha hw1 hf he
    have : a = 4 := by omega
    subst this
    exact s_Th_begin_34 hw1 (isTh_of pan15 hc) ⟨fun _ => hQ w1 hw1 hf he, fun z => absurd (by decide) z⟩
  | succ b ih =>
    intro a w1 ha hw1 hf he
    refine s_Th_begin_34 hw1 (isTh_of pan15 hc) ⟨fun z => absurd z ?_, fun _ => ⟨nvp (by omega) (by omega), ?_⟩⟩
    · rw [n4, nle (by omega) (by omega)]; omega
    rw [ncl (by omega), n1]
    refine ih (a + 1) _ (by omega) hw1 (hf.pi (by unfold jBg; omega)) ?_
    rw [show 15 + 3 + 2 * c + 1 = 15 + 4 + 2 * c by omega, aX_w hc (by omega), he, adA_s]
theorem p_begin {Q : qW → Prop} {c : Nat} {k v m o : Int32} (hw : Sh w) (hc : c < 6) (hQ : ∀ w1, Sh w1 → Fr (jBg c) w w1 → aX w1 15 = adA (aX w 15) c k v m o 4 → Q w1) : CaV d M_Th_begin [.ref (qb E + (15 + 3 + 2 * c)), .int k, .int v, .int m, .int o] E w Q := by
  refine en_Th_begin hw (s_Th_begin_0 hw (isTh_of pan15 hc) ?_)
  have q0 : ∀ (u : qW) (x : Int32), aX (qpi u (15 + 3 + 2 * c) 1 x) 15 = upA (aX u 15) c 0 x := fun u x => aX_t (a := 0) hc (by omega)
  have q1 : ∀ (u : qW) (x : Int32), aX (qpi u (15 + 3 + 2 * c) 2 x) 15 = upA (aX u 15) c 1 x := fun u x => aX_t (a := 1) hc (by omega)
  have q2 : ∀ (u : qW) (x : Int32), aX (qpi u (15 + 3 + 2 * c) 3 x) 15 = upA (aX u 15) c 2 x := fun u x => aX_t (a := 2) hc (by omega)
  have q3 : ∀ (u : qW) (x : Int32), aX (qpi u (15 + 3 + 2 * c) 4 x) 15 = upA (aX u 15) c 3 x := fun u x => aX_t (a := 3) hc (by omega)
  have q4 : ∀ (u : qW) (x : Int32), aX (qpi u (15 + 3 + 2 * c) 5 x) 15 = upA (aX u 15) c 4 x := fun u x => aX_t (a := 4) hc (by omega)
  have q5 : ∀ (u : qW) (x : Int32), aX (qpi u (15 + 3 + 2 * c) 6 x) 15 = upA (aX u 15) c 5 x := fun u x => aX_t (a := 5) hc (by omega)
  refine h_begin hc hQ 4 0 _ (by omega) hw ((((((Fr.rf.pi (Or.inl rfl)).pi (Or.inl rfl)).pi (Or.inl rfl)).pi (Or.inl rfl)).pi (Or.inl rfl)).pi (Or.inl rfl)) ?_
  rw [q5, q4, q3, q2, q1, q0, adA_0]
theorem h_mthing {Q : qW → Int32 → Prop} {c : Nat} {f : Nat → Nat → Int32} {k v m o : Int32} (hc : c < 6) (hcn : qi w 115 0 = nI c) (hQ : ∀ w1, Sh w1 → Fr (fun a _ => 116 ≤ a ∧ a ≤ 122) w w1 → aM w1 = adA f c k v m o 4 → Q (qpi w1 115 0 (nI c + 1)) (nI c + 1 - 1)) :
    ∀ (b a : Nat) (w1 : qW), a + b = 4 → Sh w1 → Fr (fun a _ => 116 ≤ a ∧ a ≤ 122) w w1 → aM w1 = adA f c k v m o a → c_Mo_thing_122 d E Q (nI a) w1 := by
  intro b
  induction b with
  | zero =>
    intro a w1 ha hw1 hf he
    have : a = 4 := by omega
    subst this
    have h0 : qi w1 115 0 = nI c := (hf 115 0 (by omega)).1.trans hcn
    have := hQ w1 hw1 hf he
    refine s_Mo_thing_122 hw1 ⟨fun _ => ?_, fun z => absurd (by decide) z⟩
    rw [qi_eq rfl rfl, h0]
    exact this
  | succ b ih =>
    intro a w1 ha hw1 hf he
    have h0 : qi w1 115 0 = nI c := (hf 115 0 (by omega)).1.trans hcn
    have e4 : 4 * qi w1 115 0 + nI a = nI (4 * c + a) := by rw [h0, show (4 : Int32) = nI 4 from rfl, pk_mul, nI_add]
    refine s_Mo_thing_122 hw1 ⟨fun z => absurd z ?_, fun _ => ?_⟩
    · rw [n4, nle (by omega) (by omega)]; omega
    rw [e4, ncl (by omega), n1]
    refine ⟨nvp (by omega) (by omega), ih (a + 1) _ (by omega) hw1 (hf.pi (by omega)) ?_⟩
    rw [aM_w hc (by omega), he, adA_s]
theorem pr_thing : pair_thing E (I E) := by
  intro d w a1 a2 a3 a4 hw hI
  obtain ⟨kk, n, hJ⟩ := id hI
  obtain ⟨c, c1, c2, c3, c4⟩ := hJ.cn
  refine en_Qu_thing hw (s_Qu_thing_0 hw ?_)
  rcases rng (x := a1) 0 6 (by omega) (by omega) with h1 | ⟨k, -, h1, rfl⟩
  · exact p_wo hw h1 (f1 (en_Mo_thing hw (s_Mo_thing_0 hw (p_mo hw h1 (f1 ⟨rfl, hI⟩)))))
  refine p_wi (a := 0) (b := 6) hw (by omega) h1 (t1 ?_)
  rcases rng (x := a2) 0 9 (by omega) (by omega) with h2 | ⟨v, -, h2, rfl⟩
  · exact p_wo hw h2 (f2 (en_Mo_thing hw (s_Mo_thing_0 hw (p_mi (a := 0) (b := 6) hw (by omega) h1 (t1 (p_mo hw h2 (f2 ⟨rfl, hI⟩)))))))
  refine p_wi (a := 0) (b := 9) hw (by omega) h2 (t2 ?_)
  rcases rng (x := a3) 0 20 (by omega) (by omega) with h3 | ⟨m, -, h3, rfl⟩
  · exact p_wo hw h3 (f2 (en_Mo_thing hw (s_Mo_thing_0 hw (p_mi (a := 0) (b := 6) hw (by omega) h1 (t1 (p_mi (a := 0) (b := 9) hw (by omega) h2 (t2 (p_wgt0 hw h3 (f2 ⟨rfl, hI⟩)))))))))
  refine p_wi (a := 0) (b := 20) hw (by omega) h3 (t2 ?_)
  rcases rng (x := a4) 0 1 (by omega) (by omega) with h4 | ⟨o, -, h4, rfl⟩
  · exact p_wo hw h4 (f1 (en_Mo_thing hw (s_Mo_thing_0 hw (p_mi (a := 0) (b := 6) hw (by omega) h1 (t1 (p_mi (a := 0) (b := 9) hw (by omega) h2 (t2 (p_wgt1 hw h3 (t2 (p_mo hw h4 (f1 ⟨rfl, hI⟩)))))))))))
  refine p_wi (a := 0) (b := 1) hw (by omega) h4 (t1 (en_Pa_addThing hw (s_Pa_addThing_0 hw pan15 ?_)))
  rw [c2]
  refine ⟨fun z => absurd z (nI_pos (by omega)), fun _ => pk_lt c 6 (fun hc => ⟨nvp hc (by omega), ?_⟩) (fun hc => ?_)⟩
  · rw [ncl (by omega)]
    refine p_begin hw hc (fun w1 hw1 hf1 e1 => ?_)
    have g1 : ∀ a j, ¬ jBg c a j → qi w1 a j = qi w a j := fun a j q => (hf1 a j q).1
    have x0 : qi w1 15 0 = nI c := (g1 15 0 (by unfold jBg; omega)).trans c2
    rw [x0, qi_eq rfl rfl]
    have hf2 : Fr (jPn 15) w (qpi w1 15 0 (nI c + 1)) := (hf1.mono (fun a j q => by unfold jBg at q; unfold jPn; omega)).pi (by unfold jPn; omega)
    have hw2 : Sh (qpi w1 15 0 (nI c + 1)) := hw1
    have e2 : PX 15 (qpi w1 15 0 (nI c + 1)) = adP (PM w) (nI k) (nI v) (nI m) (nI o) := by
      have b1 : pf (PX 15 w1) = pf (PM w) := (g1 15 2 (by unfold jBg; omega)).trans (congrArg pf hJ.1.1)
      have b2 : pk (PX 15 w1) = pk (PM w) := (g1 15 3 (by unfold jBg; omega)).trans (congrArg pk hJ.1.1)
      have b3 : ps (PX 15 w1) = ps (PM w) := (congrArg qz (g1 15 4 (by unfold jBg; omega))).trans (congrArg ps hJ.1.1)
      have b4 : pm (PX 15 w1) = pm (PM w) := (g1 15 5 (by unfold jBg; omega)).trans (congrArg pm hJ.1.1)
      have b5 : pr (PX 15 w1) = pr (PM w) := (hf1 15 6 (by unfold jBg; omega)).2.2.trans (congrArg pr hJ.1.1)
      have b6 : pa (PX 15 w1) = adA (pa (PM w)) c (nI k) (nI v) (nI m) (nI o) 4 := e1.trans (by rw [← hJ.1.1]; rfl)
      have b0 : nI c + 1 = pc (PM w) + 1 := by rw [show pc (PM w) = nI c from c3]
      rw [PX_0, b1, b2, b3, b4, b5, b6, b0]
      unfold adP
      rw [c4]
    generalize hW : qpi w1 15 0 (nI c + 1) = W at hf2 hw2 e2
    have g2 : ∀ a j, 100 ≤ a → qi W a j = qi w a j := fun a j q => (hf2 a j (by unfold jPn; omega)).1
    have z0 : qi W 115 0 = nI c := (g2 115 0 (by omega)).trans c3
    have mW := J.m1 hf2
    refine en_Mo_thing hw2 (s_Mo_thing_0 hw2 (p_mi (a := 0) (b := 6) hw2 (by omega) h1 (t1 (p_mi (a := 0) (b := 9) hw2 (by omega) h2 (t2 (p_wgt1 hw2 h3 (t2 (p_mi (a := 0) (b := 1) hw2 (by omega) h4 (t1 ?_)))))))))
    have hcv : vp_in (nI c) 6 := nvp hc (by omega)
    simp (disch := omega) only [qi_k, z0, ncl]
    refine ⟨fun _ => ⟨hcv, hcv, hcv, hcv, hcv, hcv, ?_⟩, fun z => ?_⟩
    · have q0 : ∀ (u : qW) (x : Int32), aM (qpi u 116 c x) = upA (aM u) c 0 x := fun u x => aM_p (a := 0) hc (by omega)
      have q1 : ∀ (u : qW) (x : Int32), aM (qpi u 117 c x) = upA (aM u) c 1 x := fun u x => aM_p (a := 1) hc (by omega)
      have q2 : ∀ (u : qW) (x : Int32), aM (qpi u 118 c x) = upA (aM u) c 2 x := fun u x => aM_p (a := 2) hc (by omega)
      have q3 : ∀ (u : qW) (x : Int32), aM (qpi u 119 c x) = upA (aM u) c 3 x := fun u x => aM_p (a := 3) hc (by omega)
      have q4 : ∀ (u : qW) (x : Int32), aM (qpi u 120 c x) = upA (aM u) c 4 x := fun u x => aM_p (a := 4) hc (by omega)
      have q5 : ∀ (u : qW) (x : Int32), aM (qpi u 121 c x) = upA (aM u) c 5 x := fun u x => aM_p (a := 5) hc (by omega)
      refine h_mthing (w := W) (f := aM W) (k := nI k) (v := nI v) (m := nI m) (o := nI o) hc z0 (fun w3 hw3 hf3 e3 => ⟨rfl, kk, n, ?_⟩) 4 0 _ (by omega) hw2 ((((((Fr.rf.pi (by omega)).pi (by omega)).pi (by omega)).pi (by omega)).pi (by omega)).pi (by omega)) (by rw [q5, q4, q3, q2, q1, q0, adA_0])
      have g3 : ∀ j, qi w3 115 j = qi W 115 j := fun j => (hf3 115 j (by omega)).1
      have e4 : PM (qpi w3 115 0 (nI c + 1)) = adP (PM w) (nI k) (nI v) (nI m) (nI o) := by
        rw [← mW]
        have b1 : pf (PM w3) = pf (PM W) := g3 1
        have b2 : pk (PM w3) = pk (PM W) := g3 2
        have b3 : ps (PM w3) = ps (PM W) := congrArg qz (g3 4)
        have b4 : pm (PM w3) = pm (PM W) := g3 3
        have b5 : pr (PM w3) = pr (PM W) := by
          show (if qi w3 115 13 < 0 then _ else _) = (if qi W 115 13 < 0 then _ else _)
          rw [g3 13]
        have b6 : pa (PM w3) = adA (pa (PM W)) c (nI k) (nI v) (nI m) (nI o) 4 := e3
        have b0 : nI c + 1 = pc (PM W) + 1 := by rw [show pc (PM W) = nI c from z0]
        rw [PM_0, b1, b2, b3, b4, b5, b6, b0]
        unfold adP
        rw [mW, c4]
      refine hJ.two hf2 ((hf3.mono (fun a j q => by unfold jPm; omega)).pi (by unfold jPm; omega)) e2 e4 (okR_ad hJ.1.2.1 c3 hc h1 h2 h3 h4) ?_
      rw [c4]
      show c ≤ (pc (PM w) + 1).toNatClampNeg
      rw [show pc (PM w) = nI c from c3, n1, ncl (by omega)]
      omega
    · have : c = 6 := (neq (b := 6) (by omega) (by omega)).mp z
      omega
  · have hc6 : c = 6 := by omega
    refine en_Mo_thing hw (s_Mo_thing_0 hw (p_mi (a := 0) (b := 6) hw (by omega) h1 (t1 (p_mi (a := 0) (b := 9) hw (by omega) h2 (t2 (p_wgt1 hw h3 (t2 (p_mi (a := 0) (b := 1) hw (by omega) h4 (t1 ⟨fun z => absurd ?_ z, fun _ => ⟨rfl, hI⟩⟩)))))))))
    rw [c3, hc6]
    rfl
/-- what doesn't lie in the pans -/
def jOut (k j : Nat) : Prop := (6 ≤ k ∧ k ≤ 14) ∨ (73 ≤ k ∧ k ≤ 74) ∨ (100 ≤ k ∧ k ≤ 114) ∨ (k = 115 ∧ (j = 14 ∨ j = 39 ∨ j = 42 ∨ j = 43 ∨ j = 71)) ∨ k = 123 ∨ (137 ≤ k ∧ k ≤ 142) ∨ (156 ≤ k ∧ k ≤ 160)
theorem J.out (h : J kk n w) (hf : Fr jOut w w1) (b : RWs w1 6 39 42 43 137 (cN (PM w))) (t : TXT w1) (ac : ACT w1) (tp : TAP w1) : J kk n w1 := by
  have g : ∀ k j, ¬ jOut k j → qi w1 k j = qi w k j := fun k j q => (hf k j q).1
  obtain ⟨⟨a1, a2, a3, a4⟩, -, ⟨c1, c2⟩, -, ⟨k1, k2⟩, -, -, e3, le⟩ := h
  have e1 : PX 15 w1 = PX 15 w := PX_ext (fun k j a b c => g _ _ (by unfold jOut; omega)) (hf 15 6 (by unfold jOut; omega)).2.2
  have e2 : PM w1 = PM w := PM_e (fun j hj => g _ _ (by unfold jOut; omega)) (fun k j a b => g _ _ (by unfold jOut; omega))
  refine ⟨⟨by rw [e1, e2]; exact a1, by rw [e2]; exact a2, fun i hi => (g _ _ (by unfold jOut; omega)).trans (a3 i hi), fun i hi => (g _ _ (by unfold jOut; omega)).trans (a4 i hi)⟩, by rw [e2]; exact b, ⟨?_, fun z => ?_⟩, t, ⟨?_, ?_⟩, ac, tp, ?_, ?_⟩
  · rw [g 0 2 (by unfold jOut; omega), g 115 48 (by unfold jOut; omega)]
    exact c1
  · rw [g 115 48 (by unfold jOut; omega)] at z
    exact (c2 z).fr (Nat.le_refl _) (fun k j q => g k j (by unfold jOut; omega)) (hf 40 6 (by unfold jOut; omega)).2.2
  · exact k1.fr (fun k j q => g k j (by unfold jOut; omega))
  · rw [g 115 13 (by unfold jOut; omega)]
    exact k2
  · rw [g 115 30 (by unfold jOut; omega)]
    exact e3
  · exact le.fr (fun j => g 131 j (by unfold jOut; omega))
theorem pr_feed : pair_feed E (I E) := by
  intro d w a1 hw hI
  obtain ⟨kk, n, hJ⟩ := id hI
  obtain ⟨m, m1, m2, m3, m4⟩ := hJ.2.2.2.1
  refine en_Qu_feed hw (s_Qu_feed_0 hw ?_)
  rcases rng (x := a1) 0 127 (by omega) (by omega) with h1 | ⟨k, -, h1, rfl⟩
  · exact p_wo hw h1 (f1 (en_Mo_feed hw (s_Mo_feed_0 hw (p_mo hw h1 (f1 ⟨rfl, hI⟩)))))
  refine p_wi (a := 0) (b := 127) hw (by omega) h1 (t1 (en_Re_addSign hw (s_Re_addSign_0 hw ?_)))
  rw [m2]
  refine ⟨fun z => absurd z (nI_pos (by omega)), fun _ => pk_lt m 100 (fun hm => ⟨nvp hm (by omega), ?_⟩) (fun hm => ?_)⟩
  · rw [ncl (by omega), qi_k (a := 73) (by omega), m2, qi_eq rfl rfl]
    have hf1 : Fr (fun a j => (a = 73 ∧ j = 1) ∨ a = 74) w (qpi (qpi w 74 m (nI k)) 73 1 (nI m + 1)) := (Fr.rf.pi (Or.inr rfl)).pi (Or.inl ⟨rfl, rfl⟩)
    have v1 : qi (qpi (qpi w 74 m (nI k)) 73 1 (nI m + 1)) 73 1 = nI m + 1 := qi_eq rfl rfl
    have v2 : ∀ j, qi (qpi (qpi w 74 m (nI k)) 73 1 (nI m + 1)) 74 j = if j = m then nI k else qi w 74 j := fun j => by
      rw [qi_k (by omega)]
      by_cases hj : j = m
      · rw [if_pos hj, qi_eq rfl hj]
      · rw [if_neg hj, qi_j hj]
    have hw1 : Sh (qpi (qpi w 74 m (nI k)) 73 1 (nI m + 1)) := hw
    generalize qpi (qpi w 74 m (nI k)) 73 1 (nI m + 1) = W at hf1 v1 v2 hw1
    have g1 : ∀ a j, a ≠ 73 → a ≠ 74 → qi W a j = qi w a j := fun a j q r => (hf1 a j (by omega)).1
    refine en_Mo_feed hw1 (s_Mo_feed_0 hw1 (p_mi (a := 0) (b := 127) hw1 (by omega) h1 (t1 ?_)))
    have m3' : qi W 115 14 = nI m := (g1 _ _ (by omega) (by omega)).trans m3
    rw [m3']
    refine ⟨fun _ => ⟨nvp hm (by omega), ?_⟩, fun z => ?_⟩
    · rw [ncl (by omega), qi_eq rfl rfl, qi_k (a := 115) (by omega), m3']
      have hf2 : Fr (fun a j => (a = 115 ∧ j = 14) ∨ a = 123) W (qpi (qpi W 123 m (nI k)) 115 14 (nI m + 1)) := (Fr.rf.pi (Or.inr rfl)).pi (Or.inl ⟨rfl, rfl⟩)
      have u1 : qi (qpi (qpi W 123 m (nI k)) 115 14 (nI m + 1)) 115 14 = nI m + 1 := qi_eq rfl rfl
      have u2 : ∀ j, qi (qpi (qpi W 123 m (nI k)) 115 14 (nI m + 1)) 123 j = if j = m then nI k else qi w 123 j := fun j => by
        rw [qi_k (by omega)]
        by_cases hj : j = m
        · rw [if_pos hj, qi_eq rfl hj]
        · rw [if_neg hj, qi_j hj]
          exact g1 _ _ (by omega) (by omega)
      generalize qpi (qpi W 123 m (nI k)) 115 14 (nI m + 1) = V at hf2 u1 u2
      have g2 : ∀ a j, a ≠ 123 → ¬ (a = 115 ∧ j = 14) → qi V a j = qi W a j := fun a j q r => (hf2 a j (by omega)).1
      have ff : Fr (fun a j => (a = 73 ∧ j = 1) ∨ a = 74 ∨ (a = 115 ∧ j = 14) ∨ a = 123) w V := (hf1.mono (fun a j q => by omega)).tr (hf2.mono (fun a j q => by omega))
      have gv : ∀ a j, ¬ ((a = 73 ∧ j = 1) ∨ a = 74 ∨ (a = 115 ∧ j = 14) ∨ a = 123) → qi V a j = qi w a j := fun a j q => (ff a j q).1
      refine ⟨rfl, kk, n, hJ.out (ff.mono (fun a j q => by unfold jOut; omega)) (hJ.2.1.fr (Nat.le_refl _) (fun a j q => gv a j (by omega))) ⟨m + 1, by omega, ?_, ?_, fun j hj => ?_⟩ (hJ.2.2.2.2.2.1.fr (fun a j q => gv a j (by omega))) (hJ.2.2.2.2.2.2.1.fr (fun a j q => ⟨gv a j (by omega), (ff a j (by omega)).2.1⟩))⟩
      · rw [g2 _ _ (by omega) (by omega), v1, n1]
      · rw [u1, n1]
      · rw [g2 74 j (by omega) (by omega), v2, u2]
        by_cases hj2 : j = m
        · rw [if_pos hj2, if_pos hj2]
          exact ⟨rfl, k, h1, rfl⟩
        · rw [if_neg hj2, if_neg hj2]
          exact m4 j hj
    · have : m = 100 := (neq (b := 100) (by omega) (by omega)).mp z
      omega
  · have hm6 : m = 100 := by omega
    refine en_Mo_feed hw (s_Mo_feed_0 hw (p_mi (a := 0) (b := 127) hw (by omega) h1 (t1 ⟨fun z => absurd ?_ z, fun _ => ⟨rfl, hI⟩⟩)))
    rw [m3, hm6]
    rfl
theorem h_mpass {Q : qW → Prop} {N : Nat} {k : List Cl} (hN : N ≤ 60) (hk : KC w k) (h30 : qi w 115 30 = 9999) (hQ : ∀ w1, Sh w1 → Fr jPm w w1 → PM w1 = rI k N (PM w) → Q w1) :
    ∀ (m i M : Nat) (w1 : qW), i + m = N → M + m ≤ 20000 → okR M 9999 (PM w1) → Sh w1 → Fr jPm w w1 → rI k m (PM w1) = rI k N (PM w) → c_Mo_goMinutes_2 d E Q (nI N) (nI i) w1 := by
  intro m
  induction m with
  | zero =>
    intro i M w1 hi hM ho hw1 hf he
    exact s_Mo_goMinutes_2 hw1 (pk_le N i (fun _ => hQ w1 hw1 hf he) (fun z => by omega))
  | succ m ih =>
    intro i M w1 hi hM ho hw1 hf he
    have g : ∀ a j, ¬ jPm a j → qi w1 a j = qi w a j := fun a j q => (hf a j q).1
    obtain ⟨c, c1, c2, c3⟩ := ho.c
    obtain ⟨t, t2, t3⟩ := ho.2.2.2.2.1
    have h30' : qi w1 115 30 = 9999 := (g 115 30 (by unfold jPm; omega)).trans h30
    refine s_Mo_goMinutes_2 hw1 (pk_le N i (fun z => by omega) (fun _ => ?_))
    rw [n1]
    refine p_Mo_goMinute hw1 c1 c2 (by omega : t ≤ 20000) t3 (hk.fr (fun a j _ _ => g a j (by unfold jPm; omega)) (g 115 13 (by unfold jPm; omega))) (fun w2 hw2 hf2 e2 => ?_)
    rw [h30'] at e2
    refine ih (i + 1) (M + 1) w2 (by omega) (by omega) (by rw [e2]; exact okR_mi (C := 9999) ho rfl (by omega) (Nat.le_refl _) (Or.inr (Nat.le_refl _)) (by omega)) hw2 (hf.tr (hf2.mono (fun a j q => by unfold jMi at q; unfold jPm; omega))) ?_
    rw [e2]
    exact he
theorem cN_rI (k : List Cl) : ∀ (m : Nat) (p : Pn), cN (rI k m p) = cN p := by
  intro m
  induction m with
  | zero => intro p; rfl
  | succ m ih => intro p; exact (ih _).trans rfl
theorem pm_rI (k : List Cl) : ∀ (m : Nat) (p : Pn) (t : Nat), pm p = nI t → pm (rI k m p) = nI (t + m) := by
  intro m
  induction m with
  | zero => intro p t h; exact h
  | succ m ih =>
    intro p t h
    have := ih (miP 9999 (adK k) (ndK k) p) (t + 1) (by show pm p + 1 = _; rw [h, n1])
    rw [show t + (m + 1) = t + 1 + m by omega]
    exact this
theorem pr_pass : pair_pass E (I E) := by
  intro d w a1 hw hI
  obtain ⟨kk, n, hJ⟩ := id hI
  obtain ⟨c, c1, c2, c3, c4⟩ := hJ.cn
  obtain ⟨m, hm, hmn⟩ := hJ.1.2.1.2.2.2.2.1
  have hP : PX 15 w = PM w := hJ.1.1
  have x5 : qi w 15 5 = nI m := (congrArg pm hP).trans hmn
  have y5 : qi w 115 3 = nI m := hmn
  refine en_Qu_pass hw (s_Qu_pass_0 hw ?_)
  rcases rng (x := a1) 0 60 (by omega) (by omega) with h1 | ⟨N, -, h1, rfl⟩
  · exact p_wo hw h1 (f1 (en_Mo_pass hw (s_Mo_pass_0 hw (p_min0 hw h1 (f1 ⟨rfl, hI⟩)))))
  refine p_wi (a := 0) (b := 60) hw (by omega) h1 (t1 ?_)
  rw [x5, nI_add]
  refine pk_le (m + N) 9999 (fun hmN => ?_) (fun hmN => ?_)
  · obtain ⟨kc1, K, kx, kr⟩ := hJ.kcs
    refine p_goMinutes hw pan15 hJ.xo kx kr (by omega) (by omega) (fun w1 hw1 hf1 e1 => ?_)
    have hf1' : Fr (jPn 15) w w1 := hf1.mono (fun a j q => jMx_pn q)
    obtain ⟨o1, kc2, o3⟩ := hJ.ko hf1'
    have y5' : qi w1 115 3 = nI m := (hf1' 115 3 (by unfold jPn; omega)).1.trans y5
    have mW := J.m1 hf1'
    have hok : okR m 9999 (PM w) := ⟨hJ.1.2.1.1, hJ.1.2.1.2.1, hJ.1.2.1.2.2.1, hJ.1.2.1.2.2.2.1, ⟨m, Nat.le_refl _, hmn⟩, hJ.1.2.1.2.2.2.2.2⟩
    refine en_Mo_pass hw1 (s_Mo_pass_0 hw1 (p_min1 hw1 h1 (t1 ?_)))
    rw [y5', nI_add]
    refine pk_le (m + N) 9999 (fun _ => en_Mo_goMinutes hw1 (s_Mo_goMinutes_0 hw1 (h_mpass (w := w1) (k := kc kk w) h1 kc2 o3 (fun w2 hw2 hf2 e2 => ?_) N 0 m w1 (by omega) (by omega) (by rw [mW]; exact hok) hw1 Fr.rf rfl))) (fun z => by omega)
    have e1' : PX 15 w1 = rI (kc kk w) N (PM w) := by rw [e1, hP]
    have e2' : PM w2 = rI (kc kk w) N (PM w) := by rw [e2, mW]
    refine ⟨?_, kk, n, hJ.two hf1' hf2 e1' e2' ((okR_rI9 N _ hok).mono hmN (Nat.le_refl _)) (by rw [cN_rI]; exact Nat.le_refl _)⟩
    show pm (PX 15 w1) = pm (PM w2)
    rw [e1', e2']
  · refine en_Mo_pass hw (s_Mo_pass_0 hw (p_min1 hw h1 (t1 ?_)))
    rw [y5, nI_add]
    exact pk_le (m + N) 9999 (fun z => by omega) (fun _ => ⟨rfl, hI⟩)
end PV
