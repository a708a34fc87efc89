/-! the model's minute -/
section MM
variable {d : Nat} {E : qE} {w : qW} {k : List Cl}
theorem aM_r {i b : Nat} (hi : i < 6) (hb : b < 4) : pa (PM w) i (6 + b) = qi w 122 (4 * i + b) := by
  show (if i < 6 then (if 6 + b < 6 then _ else if 6 + b < 10 then _ else _) else _) = _
  rw [if_pos hi, if_neg (by omega), if_pos (by omega), show 6 + b - 6 = b by omega]
theorem cN_M {c : Nat} (hc : c ≤ 6) (h : qi w 115 0 = nI c) : cN (PM w) = c := by
  show (qi w 115 0).toNatClampNeg = c
  rw [h, ncl (by omega)]
theorem q01 (b : Bool) : (bI b = 0 ↔ b = false) ∧ (¬ bI b = 0 ↔ b = true) := by cases b <;> simp [bI]
theorem gv1 {ad : (Nat → Int32) → Int32} {p : Pn} {i : Nat} (z : pa p i 0 = 1) : gvP ad p i = pa p i 2 + ad (fcP p i) + pa p i 1 := by rw [gvP, if_pos z]
theorem gv2 {ad : (Nat → Int32) → Int32} {p : Pn} {i : Nat} (z : pa p i 0 = 2) : gvP ad p i = (pa p i 2 + ad (fcP p i)) / 2 := by rw [gvP, if_neg (by rw [z]; decide), if_pos z]
theorem gv3 {ad : (Nat → Int32) → Int32} {p : Pn} {i : Nat} (z : pa p i 0 = 3) : gvP ad p i = if saidB p i (cN p) = true then 0 else pa p i 2 + ad (fcP p i) := by rw [gvP, if_neg (by rw [z]; decide), if_neg (by rw [z]; decide), if_pos z]
theorem gv4 {ad : (Nat → Int32) → Int32} {p : Pn} {i : Nat} (z : pa p i 0 = 4) : gvP ad p i = if pf p ≤ 5 then pa p i 2 + ad (fcP p i) + pa p i 1 else 2 * (pa p i 2 + ad (fcP p i) + pa p i 1) := by rw [gvP, if_neg (by rw [z]; decide), if_neg (by rw [z]; decide), if_neg (by rw [z]; decide), if_pos z]
theorem gv5 {ad : (Nat → Int32) → Int32} {p : Pn} {i : Nat} (z : pa p i 0 = 5) : gvP ad p i = (pa p i 2 + ad (fcP p i)) / 2 + (if 9 ≤ pa p i 5 then 9 else pa p i 5) := by rw [gvP, if_neg (by rw [z]; decide), if_neg (by rw [z]; decide), if_neg (by rw [z]; decide), if_neg (by rw [z]; decide), if_pos z]
theorem gv6 {ad : (Nat → Int32) → Int32} {p : Pn} {i : Nat} (z : pa p i 0 = 6) : gvP ad p i = (if saidB p i (cN p) = true then 0 else pa p i 2 + ad (fcP p i)) + pa p i (6 + (pm p - pm p / 4 * 4).toNatClampNeg) := by rw [gvP, if_neg (by rw [z]; decide), if_neg (by rw [z]; decide), if_neg (by rw [z]; decide), if_neg (by rw [z]; decide), if_neg (by rw [z]; decide), if_pos z]
theorem gv0 {ad : (Nat → Int32) → Int32} {p : Pn} {i : Nat} (z : (pa p i 0).toInt < 1 ∨ 6 < (pa p i 0).toInt) : gvP ad p i = pa p i 2 + ad (fcP p i) := by
  have n : ∀ y : Int32, 1 ≤ y.toInt → y.toInt ≤ 6 → ¬ pa p i 0 = y := fun y h1 h2 q => by rw [q] at z; omega
  rw [gvP, if_neg (n _ (by decide) (by decide)), if_neg (n _ (by decide) (by decide)), if_neg (n _ (by decide) (by decide)), if_neg (n _ (by decide) (by decide)), if_neg (n _ (by decide) (by decide)), if_neg (n _ (by decide) (by decide))]
theorem p_Mo_gives {Q : qW → Int32 → Prop} {i c m : Nat} (hw : Sh w) (hi : i < 6) (hc : c ≤ 6) (hcn : qi w 115 0 = nI c) (hm : m ≤ 20000) (hmn : qi w 115 3 = nI m) (hk : KC w k) (hQ : ∀ w1 x, Sh w1 → Fr jPl w w1 → x = gvP (adK k) (PM w) i → Q w1 x) : CaI (d + 3) M_Mo_gives [.ref (qb E + 115), .int (nI i)] E w Q := by
  refine en_Mo_gives hw (s_Mo_gives_0 hw (p_Mo_sum hw hi hk (fun w1 x1 hw1 hf hx => ⟨nvp hi (by omega), ?_⟩)))
  have g : ∀ a j : Nat, a ≠ 132 → qi w1 a j = qi w a j := fun a j h => (hf a j (by unfold jPl; omega)).1
  have hin : vp_in (nI i) 6 := nvp hi (by omega)
  have hcw : cN (PM w) = c := cN_M hc hcn
  have e0 : qi w1 116 i = pa (PM w) i 0 := (g _ _ (by omega)).trans (aM_6 (i := i) (a := 0) hi (by omega)).symm
  have e1 : qi w1 117 i = pa (PM w) i 1 := (g _ _ (by omega)).trans (aM_6 (i := i) (a := 1) hi (by omega)).symm
  have e5 : qi w1 121 i = pa (PM w) i 5 := (g _ _ (by omega)).trans (aM_6 (i := i) (a := 5) hi (by omega)).symm
  have ef : qi w1 115 1 = pf (PM w) := g _ _ (by omega)
  rw [ncl (a := i) (by omega), e0, e1, e5, ef]
  refine ⟨fun z => ⟨hin, ?_⟩, fun z => ?_, fun z => ?_, fun z => ?_, fun z => ⟨hin, ?_⟩, fun z => ?_, fun z => ?_⟩
  · exact hQ w1 _ hw1 hf (by rw [gv1 z, hx])
  · exact hQ w1 _ hw1 hf (by rw [gv2 z, hx])
  · refine p_Mo_isSaidBeside hw1 hi hc ((g _ _ (by omega)).trans hcn) ?_
    rw [PM_of hf]
    refine ⟨fun y => hQ w1 _ hw1 hf ?_, fun y => hQ w1 _ hw1 hf ?_⟩
    · rw [gv3 z, hcw, if_neg (by rw [(q01 _).1.mp y]; decide), hx]
    · rw [gv3 z, hcw, if_pos ((q01 _).2.mp y)]
  · refine ⟨fun y => ⟨hin, hQ w1 _ hw1 hf ?_⟩, fun y => ⟨hin, hQ w1 _ hw1 hf ?_⟩⟩
    · rw [gv4 z, if_pos y, hx]
    · rw [gv4 z, if_neg y, hx]
  · refine p_Mo_least hw1 (hQ w1 _ hw1 hf ?_)
    rw [gv5 z, hx]
  · refine p_Mo_isSaidBeside hw1 hi hc ((g _ _ (by omega)).trans hcn) ?_
    rw [PM_of hf]
    have em : (4 : Int32) * nI i + (qi w1 115 3 - qi w1 115 3 / 4 * 4) = nI (4 * i + m % 4) := by
      rw [g 115 3 (by omega), hmn, show (4 : Int32) = nI 4 from rfl, pk_rem (by omega) (by omega) (by omega), pk_mul, nI_add]
    have er : qi w1 122 (4 * i + m % 4) = pa (PM w) i (6 + (pm (PM w) - pm (PM w) / 4 * 4).toNatClampNeg) := by
      have : pm (PM w) = nI m := hmn
      rw [this, show (4 : Int32) = nI 4 from rfl, pk_rem (by omega) (by omega) (by omega), ncl (by omega), aM_r hi (by omega)]
      exact g _ _ (by omega)
    rw [em, ncl (a := 4 * i + m % 4) (by omega), er]
    have hin2 : vp_in (nI (4 * i + m % 4)) 24 := nvp (by omega) (by omega)
    refine ⟨fun y => ⟨hin2, hQ w1 _ hw1 hf ?_⟩, fun y => ⟨hin2, hQ w1 _ hw1 hf ?_⟩⟩
    · rw [gv6 z, hcw, if_neg (by rw [(q01 _).1.mp y]; decide), hx]
    · rw [gv6 z, hcw, if_pos ((q01 _).2.mp y)]
  · exact hQ w1 _ hw1 hf (by rw [gv0 z, hx])
theorem h_allGive {Q : qW → Int32 → Prop} {c m : Nat} (hc : c ≤ 6) (hcn : qi w 115 0 = nI c) (hm : m ≤ 20000) (hmn : qi w 115 3 = nI m) (hk : KC w k) (hQ : ∀ w1 x, Sh w1 → Fr jPl w w1 → x = alP (adK k) (PM w) c → Q w1 x) :
    ∀ (n i : Nat) (w1 : qW), i + n = c → Sh w1 → Fr jPl w w1 → c_Mo_allGive_4 d E Q (alP (adK k) (PM w) i) (nI i) w1 := by
  intro n
  induction n with
  | zero =>
    intro i w1 hi hw1 hf
    refine s_Mo_allGive_4 hw1 ⟨fun _ => hQ w1 _ hw1 hf (by rw [show i = c by omega]), fun z => absurd ?_ z⟩
    rw [(hf 115 0 (by unfold jPl; omega)).1, hcn, nle (by omega) (by omega)]; omega
  | succ n ih =>
    intro i w1 hi hw1 hf
    have g : ∀ a j : Nat, a ≠ 132 → qi w1 a j = qi w a j := fun a j h => (hf a j (by unfold jPl; omega)).1
    have e4 : qi w1 120 i = pa (PM w) i 4 := (g _ _ (by omega)).trans (aM_6 (i := i) (a := 4) (by omega) (by omega)).symm
    refine s_Mo_allGive_4 hw1 ⟨fun z => absurd z ?_, fun _ => ⟨nvp (by omega) (by omega), ?_⟩⟩
    · rw [g _ _ (by omega), hcn, nle (by omega) (by omega)]; omega
    rw [ncl (a := i) (by omega), e4, n1]
    refine ⟨fun z => ?_, fun z => ?_⟩
    · have e : alP (adK k) (PM w) i + 0 = alP (adK k) (PM w) (i + 1) := by
        show _ = _ + (if pa (PM w) i 4 = 1 then _ else 0)
        rw [if_neg z]
      rw [e]
      exact ih (i + 1) w1 (by omega) hw1 hf
    · refine p_Mo_gives (c := c) (m := m) hw1 (by omega) hc ((g _ _ (by omega)).trans hcn) hm ((g _ _ (by omega)).trans hmn) (hk.jpl hf) (fun w2 x hw2 hf2 hx => ?_)
      have e : alP (adK k) (PM w) i + x = alP (adK k) (PM w) (i + 1) := by
        show _ = _ + (if pa (PM w) i 4 = 1 then _ else 0)
        rw [if_pos z, hx, PM_of hf]
      rw [e]
      exact ih (i + 1) w2 (by omega) hw2 (hf.tr hf2)
theorem p_Mo_allGive {Q : qW → Int32 → Prop} {c m : Nat} (hw : Sh w) (hc : c ≤ 6) (hcn : qi w 115 0 = nI c) (hm : m ≤ 20000) (hmn : qi w 115 3 = nI m) (hk : KC w k) (hQ : ∀ w1 x, Sh w1 → Fr jPl w w1 → x = alP (adK k) (PM w) c → Q w1 x) : CaI (d + 4) M_Mo_allGive [.ref (qb E + 115)] E w Q :=
  en_Mo_allGive hw (s_Mo_allGive_0 hw (h_allGive hc hcn hm hmn hk hQ c 0 w (by omega) hw Fr.rf))
/-- what a minute changes of the model: colour, set, minute, times, the pile -/
def jMi (k j : Nat) : Prop := k = 132 ∨ k = 121 ∨ (k = 115 ∧ (j = 2 ∨ j = 3 ∨ j = 4))
theorem PM_ext {w w1 : qW} (h : ∀ k j : Nat, (k = 115 ∨ (116 ≤ k ∧ k ≤ 122)) → qi w1 k j = qi w k j) : PM w1 = PM w := by
  have ea : aM w1 = aM w := by
    funext i a
    unfold aM
    by_cases a1 : a < 6
    · rw [h (116 + a) i (by omega), h 122 _ (by omega)]
    · by_cases a2 : i < 6
      · rw [if_pos a2, if_pos a2, if_neg a1, if_neg a1, h 122 _ (by omega)]
      · rw [if_neg a2, if_neg a2]
  unfold PM
  rw [ea, h 115 0 (by omega), h 115 1 (by omega), h 115 2 (by omega), h 115 4 (by omega), h 115 3 (by omega), h 115 13 (by omega)]
theorem aM_pi {i a i' a' : Nat} {x : Int32} (hi : i < 6) (ha : a < 6) : aM (qpi w (116 + a) i x) i' a' = upA (aM w) i a x i' a' := by
  unfold upA aM
  by_cases h1 : i' < 6
  · rw [if_pos h1, if_pos h1]
    by_cases h2 : a' < 6
    · rw [if_pos h2, if_pos h2, qi_ite]
      by_cases h3 : i' = i ∧ a' = a
      · rw [if_pos h3, if_pos ⟨by omega, h3.1⟩]
      · rw [if_neg h3, if_neg (fun q => h3 ⟨q.2, by omega⟩)]
    · rw [if_neg h2, if_neg h2, qi_ite, if_neg (c := 122 = 116 + a ∧ _) (fun q => by omega), if_neg (c := i' = i ∧ a' = a) (fun q => by omega)]
  · rw [if_neg h1, if_neg h1, if_neg (fun q => h1 (by omega))]
theorem h_goMinute {Q : qW → Prop} {c : Nat} {p : Pn} {cap : Int32} (hc : c ≤ 6) (hcp : cN p = c) (hQ : ∀ w1, Sh w1 → Fr jMi w w1 → aM w1 = tmP cap p c → qi w1 115 3 = pm p + 1 → qi w1 115 2 = qi w 115 2 → qi w1 115 4 = qi w 115 4 → Q w1) :
    ∀ (n i : Nat) (w1 : qW), i + n = c → Sh w1 → Fr jMi w w1 → qi w1 115 0 = nI c → qi w1 115 30 = cap → qi w1 115 3 = pm p → qi w1 115 2 = qi w 115 2 → qi w1 115 4 = qi w 115 4 → aM w1 = tmP cap p i → c_Mo_goMinute_64 d E Q (nI i) w1 := by
  intro n
  induction n with
  | zero =>
    intro i w1 hi hw1 hf h0 h30 h3 hk2 hk4 ha
    refine s_Mo_goMinute_64 hw1 ⟨fun _ => ?_, fun z => absurd ?_ z⟩
    · rw [h3]
      refine hQ _ hw1 (hf.pi (Or.inr (Or.inr ⟨rfl, Or.inr (Or.inl rfl)⟩))) ?_ (qi_eq rfl rfl) ((qi_j (by decide)).trans hk2) ((qi_j (by decide)).trans hk4)
      rw [← show i = c by omega, ← ha]
      funext i' a'
      unfold aM
      rw [qi_k (by omega), qi_k (by omega)]
    · rw [h0, nle (by omega) (by omega)]; omega
  | succ n ih =>
    intro i w1 hi hw1 hf h0 h30 h3 hk2 hk4 ha
    have hin : vp_in (nI i) 6 := nvp (by omega) (by omega)
    have tt : ∀ j a : Nat, a ≠ 5 ∨ j ≥ i → tmP cap p i j a = pa p j a := by
      intro j a hja
      have key : ∀ m, m ≤ i → tmP cap p m j a = pa p j a := by
        intro m
        induction m with
        | zero => intro _; rfl
        | succ m ihm =>
          intro hm
          show (if pa p m 4 = 1 then upA (tmP cap p m) m 5 _ else tmP cap p m) j a = _
          by_cases q : pa p m 4 = 1
          · rw [if_pos q]
            unfold upA
            rw [if_neg (fun z => by omega), ihm (by omega)]
          · rw [if_neg q, ihm (by omega)]
      exact key i (Nat.le_refl _)
    have e4 : qi w1 120 i = pa p i 4 := by
      have := congrFun (congrFun ha i) 4
      rw [tt i 4 (by omega)] at this
      rw [← this]
      exact (aM_6 (w := w1) (i := i) (a := 4) (by omega) (by omega)).symm
    have e5 : qi w1 121 i = pa p i 5 := by
      have := congrFun (congrFun ha i) 5
      rw [tt i 5 (by omega)] at this
      rw [← this]
      exact (aM_6 (w := w1) (i := i) (a := 5) (by omega) (by omega)).symm
    refine s_Mo_goMinute_64 hw1 ⟨fun z => absurd z ?_, fun _ => ⟨hin, ?_⟩⟩
    · rw [h0, nle (by omega) (by omega)]; omega
    rw [ncl (a := i) (by omega), e4, e5, h30, n1]
    refine ⟨fun z => ?_, fun z => ⟨hin, p_Mo_least hw1 ⟨hin, ?_⟩⟩⟩
    · refine ih (i + 1) w1 (by omega) hw1 hf h0 h30 h3 hk2 hk4 ?_
      rw [ha]
      show _ = if pa p i 4 = 1 then _ else _
      rw [if_neg z]
    · refine ih (i + 1) _ (by omega) hw1 (hf.pi (Or.inr (Or.inl rfl))) ((qi_k (by decide)).trans h0) ((qi_k (by decide)).trans h30) ((qi_k (by decide)).trans h3) ((qi_k (by decide)).trans hk2) ((qi_k (by decide)).trans hk4) ?_
      funext i' a'
      rw [show (121 : Nat) = 116 + 5 from rfl, aM_pi (by omega) (by omega), ha]
      have e : tmP cap p (i + 1) = upA (tmP cap p i) i 5 (if cap ≤ pa p i 5 + 1 then cap else pa p i 5 + 1) := by
        show (if pa p i 4 = 1 then _ else _) = _
        rw [if_pos z]
      rw [e]
theorem p_Mo_goMinute {Q : qW → Prop} {c m : Nat} (hw : Sh w) (hc : c ≤ 6) (hcn : qi w 115 0 = nI c) (hm : m ≤ 20000) (hmn : qi w 115 3 = nI m) (hk : KC w k) (hQ : ∀ w1, Sh w1 → Fr jMi w w1 → PM w1 = miP (qi w 115 30) (adK k) (ndK k) (PM w) → Q w1) : CaV (d + 5) M_Mo_goMinute [.ref (qb E + 115)] E w Q := by
  have hcw : cN (PM w) = c := cN_M hc hcn
  have fin : ∀ (w2 : qW) (co se : Int32), Sh w2 → Fr jMi w w2 → qi w2 115 2 = coP (adK k) (PM w) → qz (qi w2 115 4) = seP (adK k) (ndK k) (PM w) → qi w2 115 3 = pm (PM w) → aM w2 = pa (PM w) → c_Mo_goMinute_64 d E Q 0 w2 := by
    intro w2 co se hw2 hf2 h2 h4 h3 ha
    have g : ∀ j : Nat, j ≠ 2 → j ≠ 3 → j ≠ 4 → qi w2 115 j = qi w 115 j := fun j a b e => (hf2 115 j (by unfold jMi; omega)).1
    refine h_goMinute (w := w2) (c := c) (p := PM w) (cap := qi w 115 30) hc hcw (fun w3 hw3 hf3 a3 b3 c3 d3 => hQ w3 hw3 (hf2.tr hf3) ?_) c 0 w2 (by omega) hw2 Fr.rf ((g 0 (by decide) (by decide) (by decide)).trans hcn) (g 30 (by decide) (by decide) (by decide)) h3 rfl rfl ha
    have g3 : ∀ j : Nat, j ≠ 2 → j ≠ 3 → j ≠ 4 → qi w3 115 j = qi w 115 j := fun j a b e => ((hf2.tr hf3) 115 j (by unfold jMi; omega)).1
    unfold PM miP
    rw [a3, b3, c3, d3, h2, h4, g3 0 (by decide) (by decide) (by decide), g3 1 (by decide) (by decide) (by decide), g3 13 (by decide) (by decide) (by decide)]
    rw [show c = cN (PM w) from hcw.symm]
    rfl
  refine en_Mo_goMinute hw (s_Mo_goMinute_0 hw ⟨fun z => ?_, fun z => ?_⟩)
  · have z' : ¬ ps (PM w) = 0 := z
    refine fin w 0 0 hw Fr.rf ?_ ?_ rfl rfl
    · unfold coP
      rw [if_pos z']
      rfl
    · unfold seP
      rw [if_pos z']
      rfl
  · refine p_Mo_allGive hw hc hcn hm hmn hk (fun w1 x hw1 hf hx => ?_)
    have hps : ¬ ¬ ps (PM w) = 0 := fun q => q z
    have hf' : Fr jMi w w1 := hf.mono (fun _ _ h => Or.inl h)
    have g : ∀ a j : Nat, a ≠ 132 → qi w1 a j = qi w a j := fun a j h => (hf a j (by unfold jPl; omega)).1
    have hn : qi w 115 2 + qi w 115 1 * x = pk (PM w) + pf (PM w) * alP (adK k) (PM w) (cN (PM w)) := by rw [hx, hcw]; rfl
    have haw : ∀ (v v2 : Int32), aM (qpi (qpi w1 115 2 v) 115 4 v2) = pa (PM w) := by
      intro v v2
      have : pa (PM w) = aM w1 := by rw [← PM_of hf]; rfl
      rw [this]
      funext i' a'
      unfold aM
      rw [qi_k (by omega), qi_k (by omega), qi_k (by omega), qi_k (by omega)]
    have fin2 : ∀ v : Int32, v = coP (adK k) (PM w) → CaI (d + 4) M_Mo_need [.ref (qb E + 115)] E (qpi w1 115 2 v) (fun w5 x5 => (((qi (qpi w1 115 2 v) 115 2) < x5) → (c_Mo_goMinute_64 d E Q 0 (qpi w5 115 4 0))) ∧ ((¬ (qi (qpi w1 115 2 v) 115 2) < x5) → (c_Mo_goMinute_64 d E Q 0 (qpi w5 115 4 1)))) := by
      intro v hv
      have hk1 : KC (qpi w1 115 2 v) k := (hk.jpl hf).fr (fun a j h _ => qi_k (by omega)) (qi_j (by decide))
      have fr2 : ∀ v2 : Int32, Fr jMi w (qpi (qpi w1 115 2 v) 115 4 v2) := fun v2 => (hf'.pi (Or.inr (Or.inr ⟨rfl, Or.inl rfl⟩))).pi (Or.inr (Or.inr ⟨rfl, Or.inr (Or.inr rfl)⟩))
      refine p_Mo_need (d := d + 3) hw1 hk1 ?_
      rw [qi_eq rfl rfl]
      refine ⟨fun y => fin _ 0 0 hw1 (fr2 0) ((qi_j (by decide)).trans ((qi_eq rfl rfl).trans hv)) ?_ ((qi_j (by decide)).trans ((qi_j (by decide)).trans (g 115 3 (by decide)))) (haw _ _), fun y => fin _ 0 0 hw1 (fr2 1) ((qi_j (by decide)).trans ((qi_eq rfl rfl).trans hv)) ?_ ((qi_j (by decide)).trans ((qi_j (by decide)).trans (g 115 3 (by decide)))) (haw _ _)⟩
      · rw [qi_eq rfl rfl]
        unfold seP
        rw [if_neg hps, if_pos (by rw [← hv]; exact y)]
        rfl
      · rw [qi_eq rfl rfl]
        unfold seP
        rw [if_neg hps, if_neg (by rw [← hv]; exact y)]
        rfl
    refine ⟨fun y => p_Mo_least hw1 (fin2 _ ?_), fun y => fin2 _ ?_⟩
    · unfold coP
      rw [if_neg hps, ← hn, if_pos y]
    · unfold coP
      rw [if_neg hps, ← hn, if_neg y]
end MM
