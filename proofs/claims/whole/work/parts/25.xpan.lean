/-! the class's pan: what all give, a minute -/
section XP
variable {d : Nat} {E : qE} {w : qW} {k : List Cl}
def jFac (q k _ : Nat) : Prop := k = q + 2
theorem p_min {Q : qW → Int32 → Prop} {x y : Int32} (hw : Sh w) (h : Q w (if y < x then y else x)) : CaI d M_Jm_min [.int x, .int y] E w Q :=
  en_Jm_min hw (s_Jm_min_0 hw ⟨fun z => by rw [if_pos z] at h; exact h, fun z => by rw [if_neg z] at h; exact h⟩)
theorem p_max {Q : qW → Int32 → Prop} {x y : Int32} (hw : Sh w) (h : Q w (if x < y then y else x)) : CaI d M_Jm_max [.int x, .int y] E w Q :=
  en_Jm_max hw (s_Jm_max_0 hw ⟨fun z => by rw [if_pos z] at h; exact h, fun z => by rw [if_neg z] at h; exact h⟩)
theorem ni_xor {a b : Nat} (ha : a < 2 ^ 31) (hb : b < 2 ^ 31) : nI a ^^^ nI b = nI (a ^^^ b) := by
  have hab : a ^^^ b < 2 ^ 31 := Nat.xor_lt_two_pow ha hb
  apply Int32.toBitVec_inj.mp
  apply BitVec.eq_of_toNat_eq
  rw [Int32.toBitVec_xor, BitVec.toNat_xor, pk_tn (by omega), pk_tn (by omega), pk_tn (by omega)]
theorem p_fmod {Q : qW → Int32 → Prop} {m n : Nat} (hw : Sh w) (hm : m < 2 ^ 31) (h0 : 0 < n) (hn : n < 2 ^ 31) (h : Q w (nI (m % n))) : CaI d M_Jm_floorMod [.int (nI m), .int (nI n)] E w Q := by
  refine en_Jm_floorMod hw (s_Jm_floorMod_0 hw ⟨nI_ne0 h0 hn, fun _ => ?_, fun z => absurd ?_ z⟩)
  · rw [pk_rem hm h0 hn]; exact h
  · rw [ni_xor hm hn]; exact nI_pos' (Nat.xor_lt_two_pow hm hn)
theorem aX_6 {q i a : Nat} (hi : i < 6) (ha : a < 6) : pa (PX q w) i a = qi w (q + 3 + 2 * i) (a + 1) := by
  show (if i < 6 then (if a < 6 then _ else _) else _) = _
  rw [if_pos hi, if_pos ha]
theorem aX_r {q i b : Nat} (hi : i < 6) (hb : b < 4) : pa (PX q w) i (6 + b) = qi w (q + 4 + 2 * i) b := by
  show (if i < 6 then (if 6 + b < 6 then _ else if 6 + b < 10 then _ else _) else _) = _
  rw [if_pos hi, if_neg (by omega), if_pos (by omega), show 6 + b - 6 = b by omega]
theorem aX_n {q i : Nat} (hi : i < 6) : pa (PX q w) i 10 = qi w (q + 3 + 2 * i) 0 := by
  show (if i < 6 then (if 10 < 6 then _ else if 10 < 10 then _ else if 10 = 10 then _ else _) else _) = _
  rw [if_pos hi]
  rfl
theorem PX_ext {q : Nat} {w1 : qW} (h : ∀ k j : Nat, q ≤ k → k ≤ q + 14 → k ≠ q + 2 → qi w1 k j = qi w k j) (hr : qr w1 q 6 = qr w q 6) : PX q w1 = PX q w := by
  have ea : aX w1 q = aX w q := by
    funext i a
    unfold aX
    by_cases a2 : i < 6
    · rw [if_pos a2, if_pos a2]
      rw [h (q + 3 + 2 * i) (a + 1) (by omega) (by omega) (by omega), h (q + 4 + 2 * i) (a - 6) (by omega) (by omega) (by omega), h (q + 3 + 2 * i) 0 (by omega) (by omega) (by omega)]
    · rw [if_neg a2, if_neg a2]
  unfold PX
  rw [ea, hr, h q 0 (by omega) (by omega) (by omega), h q 2 (by omega) (by omega) (by omega), h q 3 (by omega) (by omega) (by omega), h q 4 (by omega) (by omega) (by omega), h q 5 (by omega) (by omega) (by omega)]
theorem PX_fac {q : Nat} {w1 : qW} (hf : Fr (jFac q) w w1) : PX q w1 = PX q w :=
  PX_ext (fun k j _ _ h => (hf k j h).1) (hf q 6 (by unfold jFac; omega)).2.2
theorem KX.fr {K : Nat} {w1 : qW} (g : ∀ a j : Nat, K ≤ a → a ≤ K + 3 → qi w1 a j = qi w a j) (h : KX w K k) : KX w1 K k := by
  obtain ⟨h1, h2, ⟨h3, h4, h5⟩, h6, h7⟩ := h
  refine ⟨h1, h2, ⟨h3, by rw [g _ _ (by omega) (by omega)]; exact h4, fun j t hj => ?_⟩, h6, by rw [g _ _ (by omega) (by omega)]; exact h7⟩
  obtain ⟨a1, a2, a3, a4⟩ := h5 j t hj
  exact ⟨a1, by rw [g _ _ (by omega) (by omega)]; exact a2, by rw [g _ _ (by omega) (by omega)]; exact a3, by rw [g _ _ (by omega) (by omega)]; exact a4⟩
theorem isPan.c {q : Nat} (h : isPan q) : q = 15 ∨ q = 40 ∨ q = 58 := h
theorem isKi.c {K : Nat} (h : isKi K) : K = 1 ∨ (76 ≤ K ∧ K ≤ 96) := by
  rcases h with h | ⟨i, hi, rfl⟩ <;> omega
theorem KX.fac {K q : Nat} {w1 : qW} (hq : isPan q) (h : KX w K k) (hf : Fr (jFac q) w w1) : KX w1 K k := by
  have h1 := hq.c
  have h2 := h.1.c
  exact h.fr (fun a j _ _ => (hf a j (by unfold jFac; omega)).1)
/-- the things' numbers -/
def NUM (q : Nat) (w : qW) : Prop := ∀ i, i < 6 → qi w (q + 3 + 2 * i) 0 = nI i
theorem NUM.fac {q : Nat} {w1 : qW} (h : NUM q w) (hf : Fr (jFac q) w w1) : NUM q w1 := fun i hi => by rw [(hf _ _ (by unfold jFac; omega)).1]; exact h i hi
theorem h_spoken {Q : qW → Int32 → Prop} {q i c : Nat} (hw : Sh w) (hq : isPan q) (hi : i < 6) (hc : c ≤ 6) (hcn : qi w q 0 = nI c) (hnum : NUM q w) (hQ : Q w (bI (saidB (PX q w) i c))) :
    ∀ (n o : Nat), o + n = c → saidB (PX q w) i o = false → c_Pa_spokenOver_2 d E Q q (q + 3 + 2 * i) (nI o) w := by
  intro n
  induction n with
  | zero =>
    intro o ho hs
    have e : Q w 0 := by
      rw [show o = c by omega] at hs
      rw [hs] at hQ
      exact hQ
    exact s_Pa_spokenOver_2 hw hq (isTh_of hq hi) (pk_le c o (fun _ => e) (fun h => by omega) hcn)
  | succ n ih =>
    intro o ho hs
    have e3 := aX_6 (w := w) (q := q) (i := o) (a := 3) (by omega) (by omega)
    have e3i := aX_6 (w := w) (q := q) (i := i) (a := 3) (by omega) (by omega)
    have e4 := aX_6 (w := w) (q := q) (i := o) (a := 4) (by omega) (by omega)
    have step : saidB (PX q w) i (o + 1) = (decide (o ≠ i) && decide (qi w (q + 3 + 2 * o) 4 = qi w (q + 3 + 2 * i) 4) && decide (qi w (q + 3 + 2 * o) 5 = 2)) := by
      show (saidB (PX q w) i o || _) = _
      rw [hs, Bool.false_or, e3, e3i, e4]
    refine s_Pa_spokenOver_2 hw hq (isTh_of hq hi) (pk_le c o (fun h => by omega) (fun h => pk_le 6 o (fun h => by omega) (fun h => ⟨nvp (by omega) (by omega), ?_⟩)) hcn)
    rw [ncl (a := o) (by omega), n1, hnum o (by omega), hnum i hi]
    refine ⟨fun z => ih (o + 1) (by omega) ?_, fun z => ⟨fun y => ih (o + 1) (by omega) ?_, fun y => ⟨fun u => ih (o + 1) (by omega) ?_, fun u => ?_⟩⟩⟩
    · rw [step]
      have : o = i := (neq (by omega) (by omega)).mp z
      simp [this]
    · rw [step]
      simp [y]
    · rw [step]
      simp [u]
    · have h1 : saidB (PX q w) i (o + 1) = true := by
        rw [step]
        have : ¬ o = i := fun q => z (by rw [q])
        simp [this, y, u]
      rw [saidB_mono h1 c (by omega)] at hQ
      exact hQ
theorem p_Pa_spokenOver {Q : qW → Int32 → Prop} {q i c : Nat} (hw : Sh w) (hq : isPan q) (hi : i < 6) (hc : c ≤ 6) (hcn : qi w q 0 = nI c) (hnum : NUM q w) (hQ : Q w (bI (saidB (PX q w) i c))) : CaI d M_Pa_spokenOver [.ref (qb E + q), .ref (qb E + (q + 3 + 2 * i))] E w Q :=
  en_Pa_spokenOver hw (s_Pa_spokenOver_0 hw hq (isTh_of hq hi) (h_spoken hw hq hi hc hcn hnum hQ c 0 (by omega) rfl))
theorem cN_X {q c : Nat} (hc : c ≤ 6) (h : qi w q 0 = nI c) : cN (PX q w) = c := by
  show (qi w q 0).toNatClampNeg = c
  rw [h, ncl (by omega)]
theorem i32_lt6 (x : Int32) : x < 6 ↔ x ≤ 5 := by
  rw [Int32.lt_iff_toInt_lt, Int32.le_iff_toInt_le]
  show x.toInt < 6 ↔ x.toInt ≤ 5
  omega
theorem i32_min9 (x : Int32) : (if 9 < x then (9 : Int32) else x) = if 9 ≤ x then 9 else x := by
  by_cases h : 9 < x
  · rw [if_pos h, if_pos (Int32.le_of_lt h)]
  · rw [if_neg h]
    by_cases h2 : 9 ≤ x
    · rw [if_pos h2]; exact Int32.le_antisymm (Int32.not_lt.mp h) h2
    · rw [if_neg h2]
set_option maxHeartbeats 4000000 in
theorem p_Pa_gives {Q : qW → Int32 → Prop} {q i c m K : Nat} (hw : Sh w) (hq : isPan q) (hi : i < 6) (hc : c ≤ 6) (hcn : qi w q 0 = nI c) (hm : m ≤ 20000) (hmn : qi w q 5 = nI m) (hk : KX w K k) (hr : qr w q 6 = K + 1) (hnum : NUM q w) (hQ : ∀ w1 x, Sh w1 → Fr (jFac q) w w1 → x = gvP (adK k) (PX q w) i → Q w1 x) : CaI (d + 1) M_Pa_gives [.ref (qb E + q), .ref (qb E + (q + 3 + 2 * i))] E w Q := by
  have hqc := hq.c
  refine en_Pa_gives hw (s_Pa_gives_0 hw hq (isTh_of hq hi) ?_)
  simp (disch := omega) only [qi_k]
  rw [hmn]
  refine p_fmod (m := m) (n := 10) hw (by omega) (by omega) (by omega) ?_
  have g0 := hnum i hi
  have hf : ∀ x, Fr (jFac q) w (qpi (qpi (qpi (qpi (qpi (qpi w (q + 2) 0 (qi w (q + 3 + 2 * i) 0)) (q + 2) 1 (qi w (q + 3 + 2 * i) 1)) (q + 2) 2 (qi w (q + 3 + 2 * i) 2)) (q + 2) 3 (qi w (q + 3 + 2 * i) 3)) (q + 2) 4 (qi w (q + 3 + 2 * i) 4)) (q + 2) 5 x) := by
    have p : ∀ {w2 : qW} (j : Nat) (x : Int32), Fr (jFac q) w w2 → Fr (jFac q) w (qpi w2 (q + 2) j x) := fun j x h => h.pi rfl
    exact fun x => p _ _ (p _ _ (p _ _ (p _ _ (p _ _ (p _ _ Fr.rf)))))
  have hfc : ∀ j, j < 6 → qi (qpi (qpi (qpi (qpi (qpi (qpi w (q + 2) 0 (qi w (q + 3 + 2 * i) 0)) (q + 2) 1 (qi w (q + 3 + 2 * i) 1)) (q + 2) 2 (qi w (q + 3 + 2 * i) 2)) (q + 2) 3 (qi w (q + 3 + 2 * i) 3)) (q + 2) 4 (qi w (q + 3 + 2 * i) 4)) (q + 2) 5 (nI (m % 10))) (q + 2) j = fcP (PX q w) i j := by
    intro j hj
    have hp : pm (PX q w) = nI m := hmn
    have e10 : nI m - nI m / 10 * 10 = nI (m % 10) := pk_rem (a := m) (d := 10) (by omega) (by omega) (by omega)
    rcases (show j = 0 ∨ j = 1 ∨ j = 2 ∨ j = 3 ∨ j = 4 ∨ j = 5 by omega) with rfl | rfl | rfl | rfl | rfl | rfl
    · simp (disch := omega) only [qi_j, qi_eq]
      exact g0
    · simp (disch := omega) only [qi_j, qi_eq]
      exact (aX_6 (a := 0) hi (by omega)).symm
    · simp (disch := omega) only [qi_j, qi_eq]
      exact (aX_6 (a := 1) hi (by omega)).symm
    · simp (disch := omega) only [qi_j, qi_eq]
      exact (aX_6 (a := 2) hi (by omega)).symm
    · simp (disch := omega) only [qi_j, qi_eq]
      exact (aX_6 (a := 3) hi (by omega)).symm
    · simp (disch := omega) only [qi_eq]
      show _ = pm (PX q w) - pm (PX q w) / 10 * 10
      rw [hp, e10]
  refine ⟨K, hk.1, hr, ?_⟩
  simp (disch := omega) only [qi_k]
  generalize hW : qpi (qpi (qpi (qpi (qpi (qpi w (q + 2) 0 (qi w (q + 3 + 2 * i) 0)) (q + 2) 1 (qi w (q + 3 + 2 * i) 1)) (q + 2) 2 (qi w (q + 3 + 2 * i) 2)) (q + 2) 3 (qi w (q + 3 + 2 * i) 3)) (q + 2) 4 (qi w (q + 3 + 2 * i) 4)) (q + 2) 5 (nI (m % 10)) = W at hfc ⊢
  have hW1 : Fr (jFac q) w W := hW ▸ hf _
  have hWs : Sh W := hW ▸ hw
  refine p_Ki_adds (k := k) (fa := fcP (PX q w) i) hWs (hk.fac hq hW1) hq hfc ?_
  have g : ∀ a j : Nat, a ≠ q + 2 → qi W a j = qi w a j := fun a j h => (hW1 a j h).1
  have a0 : qi W (q + 3 + 2 * i) 1 = pa (PX q w) i 0 := (g _ _ (by omega)).trans (aX_6 (a := 0) hi (by omega)).symm
  have a1 : qi W (q + 3 + 2 * i) 2 = pa (PX q w) i 1 := (g _ _ (by omega)).trans (aX_6 (a := 1) hi (by omega)).symm
  have a2 : qi w (q + 3 + 2 * i) 3 = pa (PX q w) i 2 := (aX_6 (a := 2) hi (by omega)).symm
  have a5 : qi W (q + 3 + 2 * i) 6 = pa (PX q w) i 5 := (g _ _ (by omega)).trans (aX_6 (a := 5) hi (by omega)).symm
  have af : qi W q 2 = pf (PX q w) := g _ _ (by omega)
  have hcw : cN (PX q w) = c := cN_X hc hcn
  have hcW : qi W q 0 = nI c := (g _ _ (by omega)).trans hcn
  have hmW : qi W q 5 = nI m := (g _ _ (by omega)).trans hmn
  have hnW : NUM q W := hnum.fac hW1
  have hpW : PX q W = PX q w := PX_fac hW1
  rw [a0, a1, a2, a5, af]
  have fin : ∀ x, x = gvP (adK k) (PX q w) i → Q W x := fun x h => hQ W x hWs hW1 h
  refine ⟨fun z => fin _ ?_, fun z => fin _ ?_, fun z => ?_, fun z => ?_, fun z => ?_, fun z => ?_, fun z => fin _ ?_⟩
  · rw [gv1 z]
  · rw [gv2 z]
  · refine p_Pa_spokenOver hWs hq hi hc hcW hnW ?_
    rw [hpW]
    refine ⟨fun y => fin _ ?_, fun y => fin _ ?_⟩
    · rw [gv3 z, hcw, if_neg (by rw [(q01 _).1.mp y]; decide)]
    · rw [gv3 z, hcw, if_pos ((q01 _).2.mp y)]
  · refine ⟨fun y => fin _ ?_, fun y => fin _ ?_⟩
    · rw [gv4 z, if_pos ((i32_lt6 _).mp y), Int32.mul_one]
    · rw [gv4 z, if_neg (fun h => y ((i32_lt6 _).mpr h)), Int32.mul_comm]
  · refine p_min hWs (fin _ ?_)
    rw [gv5 z, i32_min9]
  · refine p_Pa_spokenOver hWs hq hi hc hcW hnW ?_
    rw [hpW]
    have er : qi W (q + 3 + 2 * i + 1) (m % 4) = pa (PX q w) i (6 + (pm (PX q w) - pm (PX q w) / 4 * 4).toNatClampNeg) := by
      have : pm (PX q w) = nI m := hmn
      rw [this, show (4 : Int32) = nI 4 from rfl, pk_rem (by omega) (by omega) (by omega), ncl (by omega), aX_r hi (by omega), show q + 3 + 2 * i + 1 = q + 4 + 2 * i by omega]
      exact g _ _ (by omega)
    have hin2 : vp_in (nI (m % 4)) 4 := nvp (by omega) (by omega)
    refine ⟨fun y => ?_, fun y => ?_⟩
    · rw [hmW]
      refine p_fmod (m := m) (n := 4) hWs (by omega) (by omega) (by omega) ⟨hin2, fin _ ?_⟩
      rw [ncl (a := m % 4) (by omega), er, gv6 z, hcw, if_neg (by rw [(q01 _).1.mp y]; decide)]
    · rw [hmW]
      refine p_fmod (m := m) (n := 4) hWs (by omega) (by omega) (by omega) ⟨hin2, fin _ ?_⟩
      rw [ncl (a := m % 4) (by omega), er, gv6 z, hcw, if_pos ((q01 _).2.mp y)]
  · rw [gv0 z]
end XP
