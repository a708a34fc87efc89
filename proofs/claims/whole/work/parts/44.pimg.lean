/-! the pairs: the image, undo -/
section PIm
variable {d : Nat} {E : qE} {w w0 w1 w2 V W : qW} {kk : Nat → List Cl} {n : Nat}
theorem p_rocopy {Q : qW → Prop} {r p N : Nat} (hw : Sh w) (hr : isRo r N) (hp : isRo p N) (hd : r + 2 < p ∨ p + 2 < r) (hQ : ∀ w1, Sh w1 → Fr (fun k _ => r ≤ k ∧ k ≤ r + 2) w w1 → qi w1 r 2 = qi w p 2 → (∀ j, j < N → qi w1 (r + 1) j = qi w (p + 1) j ∧ qi w1 (r + 2) j = qi w (p + 2) j) → Q w1) : CaV (d + 1) M_Ro_copyFrom [.ref (qb E + r), .ref (qb E + p)] E w Q := by
  have hN := hr.le
  refine en_Ro_copyFrom hw (s_Ro_copyFrom_0 hw hr hp (p_min hw ?_))
  have e : (if Int32.ofNat N < Int32.ofNat N then Int32.ofNat N else Int32.ofNat N) = nI N := by split <;> rfl
  rw [e, ncl (by omega)]
  have z0 : ¬ nI N < 0 := nI_pos (by omega)
  have le : (0 : Int32).toNatClampNeg + N ≤ N := by
    show 0 + N ≤ N
    omega
  refine ⟨z0, le, le, z0, le, le, hQ _ hw (((Fr.rf.cp (fun c _ _ => by omega)).cp (fun c _ _ => by omega)).pi (by omega)) ?_ (fun j hj => ⟨?_, ?_⟩)⟩
  · rw [qi_eq rfl rfl, qi_cp, if_neg (by omega), qi_cp, if_neg (by omega)]
  · rw [qi_k (by omega), qi_cp, if_neg (by omega), qi_cp, if_pos (by omega), Nat.zero_add, Nat.sub_zero]
  · rw [qi_k (by omega), qi_cp, if_pos (by omega), Nat.zero_add, Nat.sub_zero, qi_cp, if_neg (by omega)]
/-- rows taken over: class at r, model's counts, arrays at a -/
def RCp (w V : qW) (r r2 : Nat) : Prop := qi V r2 2 = qi w r 2 ∧ qi V (r2 + 3) 2 = qi w (r + 3) 2 ∧ qi V (r2 + 6) 2 = qi w (r + 6) 2 ∧ (∀ j, j < 5 → qi V (r2 + 1) j = qi w (r + 1) j ∧ qi V (r2 + 2) j = qi w (r + 2) j) ∧ (∀ j, j < 10 → qi V (r2 + 4) j = qi w (r + 4) j ∧ qi V (r2 + 5) j = qi w (r + 5) j) ∧ (∀ j, j < 8 → qi V (r2 + 7) j = qi w (r + 7) j ∧ qi V (r2 + 8) j = qi w (r + 8) j)
def MCp (w V : qW) (a a2 : Nat) : Prop := (∀ j, j < 5 → qi V a2 j = qi w a j ∧ qi V (a2 + 1) j = qi w (a + 1) j) ∧ (∀ j, j < 10 → qi V (a2 + 2) j = qi w (a + 2) j ∧ qi V (a2 + 3) j = qi w (a + 3) j) ∧ (∀ j, j < 8 → qi V (a2 + 4) j = qi w (a + 4) j ∧ qi V (a2 + 5) j = qi w (a + 5) j)
theorem RWs.cp {r s1 s2 s3 a c r2 t1 t2 t3 a2 : Nat} (h : RWs w r s1 s2 s3 a c) (hr : RCp w V r r2) (hm : MCp w V a a2) (e1 : qi V 115 t1 = qi w 115 s1) (e2 : qi V 115 t2 = qi w 115 s2) (e3 : qi V 115 t3 = qi w 115 s3) : RWs V r2 t1 t2 t3 a2 c := by
  obtain ⟨⟨n, a1, b1, c1, d1, f1⟩, ⟨m, a2', b2, c2, d2, f2⟩, ⟨l, a3, b3, c3, d3, f3⟩⟩ := h
  obtain ⟨x1, x2, x3, x4, x5, x6⟩ := hr
  obtain ⟨y1, y2, y3⟩ := hm
  refine ⟨⟨n, a1, x1.trans b1, e1.trans c1, fun j hj => ?_, fun j hj => by rw [(y1 j (by omega)).1]; exact f1 j hj⟩, ⟨m, a2', x2.trans b2, e2.trans c2, fun j hj => ?_, fun j hj => by rw [(y2 j (by omega)).1, (y2 j (by omega)).2]; exact f2 j hj⟩, ⟨l, a3, x3.trans b3, e3.trans c3, fun j hj => ?_, fun j hj => by rw [(y3 j (by omega)).1]; exact f3 j hj⟩⟩
  · rw [(x4 j hj).1, (x4 j hj).2, (y1 j hj).1, (y1 j hj).2]
    exact d1 j hj
  · rw [(x5 j hj).1, (x5 j hj).2, (y2 j hj).1, (y2 j hj).2]
    exact d2 j hj
  · rw [(x6 j hj).1, (x6 j hj).2, (y3 j hj).1, (y3 j hj).2]
    exact d3 j hj
theorem x_wcopy {Q : qW → Prop} {q p M U K : Nat} (hw : Sh w) (hqp : (q = 5 ∧ p = 30) ∨ (q = 30 ∧ p = 5)) (hn : NUM (q + 10) w) (ho : okR M U (PX (p + 10) w)) (hK : isKi K) (hr : qr w (p + 10) 6 = K + 1) (hQ : ∀ w1, Sh w1 → Fr (fun k _ => q + 1 ≤ k ∧ k ≤ q + 24) w w1 → PX (q + 10) w1 = PX (p + 10) w → RCp w w1 (p + 1) (q + 1) → Q w1) : CaV (d + 3) M_Wh_copyFrom [.ref (qb E + q), .ref (qb E + p)] E w Q := by
  have wq : isWh q := by unfold isWh; omega
  have wp : isWh p := by unfold isWh; omega
  have pq : isPan (q + 10) := by unfold isPan; omega
  have pp : isPan (p + 10) := by unfold isPan; omega
  refine en_Wh_copyFrom hw (s_Wh_copyFrom_0 hw wq wp (p_copy hw pq pp (by omega) hn ho hK hr (fun w1 hw1 hf1 e1 => ?_)))
  have g1 : ∀ k j, ¬ jPn (q + 10) k j → qi w1 k j = qi w k j := fun k j z => (hf1 k j z).1
  refine p_rocopy hw1 (isRo1 wq) (isRo1 wp) (by omega) (fun w2 hw2 hf2 a2 b2 => ?_)
  have g2 : ∀ k j, ¬ (q + 1 ≤ k ∧ k ≤ q + 1 + 2) → qi w2 k j = qi w1 k j := fun k j z => (hf2 k j z).1
  refine p_rocopy hw2 (isRo2 wq) (isRo2 wp) (by omega) (fun w3 hw3 hf3 a3 b3 => ?_)
  have g3 : ∀ k j, ¬ (q + 4 ≤ k ∧ k ≤ q + 4 + 2) → qi w3 k j = qi w2 k j := fun k j z => (hf3 k j z).1
  refine p_rocopy hw3 (isRo3 wq) (isRo3 wp) (by omega) (fun w4 hw4 hf4 a4 b4 => ?_)
  have g4 : ∀ k j, ¬ (q + 7 ≤ k ∧ k ≤ q + 7 + 2) → qi w4 k j = qi w3 k j := fun k j z => (hf4 k j z).1
  have f24 : Fr (fun k _ => q + 1 ≤ k ∧ k ≤ q + 9) w1 w4 := ((hf2.mono (fun k j z => by omega)).tr (hf3.mono (fun k j z => by omega))).tr (hf4.mono (fun k j z => by omega))
  refine hQ w4 hw4 ((hf1.mono (fun k j z => by unfold jPn at z; omega)).tr (f24.mono (fun k j z => by omega))) ?_ ?_
  · rw [← e1]
    exact PX_ext (fun k j z1 z2 z3 => (f24 k j (by omega)).1) (f24 _ _ (by omega)).2.2
  · unfold jPn at g1
    refine ⟨?_, ?_, ?_, fun j hj => ⟨?_, ?_⟩, fun j hj => ⟨?_, ?_⟩, fun j hj => ⟨?_, ?_⟩⟩
    · rw [g4 _ _ (by omega), g3 _ _ (by omega), a2, g1 _ _ (by omega)]
    · rw [g4 _ _ (by omega), show q + 1 + 3 = q + 4 by omega, a3, g2 _ _ (by omega), g1 _ _ (by omega)]
    · rw [show q + 1 + 6 = q + 7 by omega, a4, g3 _ _ (by omega), g2 _ _ (by omega), g1 _ _ (by omega)]
    · rw [g4 _ _ (by omega), g3 _ _ (by omega), (b2 j hj).1, g1 _ _ (by omega)]
    · rw [g4 _ _ (by omega), g3 _ _ (by omega), (b2 j hj).2, g1 _ _ (by omega)]
    · rw [g4 _ _ (by omega), show q + 1 + 4 = q + 4 + 1 by omega, (b3 j hj).1, g2 _ _ (by omega), g1 _ _ (by omega)]
    · rw [g4 _ _ (by omega), show q + 1 + 5 = q + 4 + 2 by omega, (b3 j hj).2, g2 _ _ (by omega), g1 _ _ (by omega)]
    · rw [show q + 1 + 7 = q + 7 + 1 by omega, (b4 j hj).1, g3 _ _ (by omega), g2 _ _ (by omega), g1 _ _ (by omega)]
    · rw [show q + 1 + 8 = q + 7 + 2 by omega, (b4 j hj).2, g3 _ _ (by omega), g2 _ _ (by omega), g1 _ _ (by omega)]
theorem h_im0 {Q : qW → Int32 → Prop} (hQ : ∀ w1, Sh w1 → Fr (fun k _ => 143 ≤ k ∧ k ≤ 148) w w1 → (∀ j, j < 6 → qi w1 143 j = qi w 116 j ∧ qi w1 144 j = qi w 117 j ∧ qi w1 145 j = qi w 118 j ∧ qi w1 146 j = qi w 119 j ∧ qi w1 147 j = qi w 120 j ∧ qi w1 148 j = qi w 121 j) → c_Mo_image_165 d E Q 0 w1) :
    ∀ (m i : Nat) (w1 : qW), i + m = 6 → Sh w1 → Fr (fun k _ => 143 ≤ k ∧ k ≤ 148) w w1 → (∀ j, j < i → qi w1 143 j = qi w 116 j ∧ qi w1 144 j = qi w 117 j ∧ qi w1 145 j = qi w 118 j ∧ qi w1 146 j = qi w 119 j ∧ qi w1 147 j = qi w 120 j ∧ qi w1 148 j = qi w 121 j) → c_Mo_image_79 d E Q (nI i) w1 := by
  intro m
  induction m with
  | zero =>
    intro i w1 hi hw1 hf hc
    have : i = 6 := by omega
    subst this
    exact s_Mo_image_79 hw1 ⟨fun _ => hQ w1 hw1 hf hc, fun z => absurd (by decide) z⟩
  | succ m ih =>
    intro i w1 hi hw1 hf hc
    have hin : vp_in (nI i) 6 := nvp (by omega) (by omega)
    refine s_Mo_image_79 hw1 ⟨fun z => absurd z (by rw [show (6 : Int32) = nI 6 from rfl, nle (by omega) (by omega)]; omega), fun _ => ?_⟩
    rw [ncl (by omega), n1]
    try simp (disch := omega) only [qi_k]
    refine ⟨hin, hin, hin, hin, hin, hin, hin, hin, hin, hin, hin, hin, ih (i + 1) _ (by omega) hw1 (((((((hf.pi (by omega)).pi (by omega)).pi (by omega)).pi (by omega)).pi (by omega)).pi (by omega))) (fun j hj => ?_)⟩
    by_cases e : j = i
    · subst e
      simp (disch := omega) only [qi_k, qi_eq]
      exact ⟨(hf 116 j (by omega)).1, (hf 117 j (by omega)).1, (hf 118 j (by omega)).1, (hf 119 j (by omega)).1, (hf 120 j (by omega)).1, (hf 121 j (by omega)).1⟩
    · simp (disch := omega) only [qi_k, qi_j]
      exact hc j (by omega)
theorem h_im1 {Q : qW → Int32 → Prop} (hQ : ∀ w1, Sh w1 → Fr (fun k _ => 149 ≤ k ∧ k ≤ 149) w w1 → (∀ j, j < 24 → qi w1 149 j = qi w 122 j) → c_Mo_image_191 d E Q 0 w1) :
    ∀ (m i : Nat) (w1 : qW), i + m = 24 → Sh w1 → Fr (fun k _ => 149 ≤ k ∧ k ≤ 149) w w1 → (∀ j, j < i → qi w1 149 j = qi w 122 j) → c_Mo_image_165 d E Q (nI i) w1 := by
  intro m
  induction m with
  | zero =>
    intro i w1 hi hw1 hf hc
    have : i = 24 := by omega
    subst this
    exact s_Mo_image_165 hw1 ⟨fun _ => hQ w1 hw1 hf hc, fun z => absurd (by decide) z⟩
  | succ m ih =>
    intro i w1 hi hw1 hf hc
    have hin : vp_in (nI i) 24 := nvp (by omega) (by omega)
    refine s_Mo_image_165 hw1 ⟨fun z => absurd z (by rw [show (24 : Int32) = nI 24 from rfl, nle (by omega) (by omega)]; omega), fun _ => ?_⟩
    rw [ncl (by omega), n1]
    try simp (disch := omega) only [qi_k]
    refine ⟨hin, hin, ih (i + 1) _ (by omega) hw1 ((hf.pi (by omega))) (fun j hj => ?_)⟩
    by_cases e : j = i
    · subst e
      simp (disch := omega) only [qi_k, qi_eq]
      exact (hf 122 j (by omega)).1
    · simp (disch := omega) only [qi_k, qi_j]
      exact hc j (by omega)
theorem h_im2 {Q : qW → Int32 → Prop} (hQ : ∀ w1, Sh w1 → Fr (fun k _ => 150 ≤ k ∧ k ≤ 151) w w1 → (∀ j, j < 5 → qi w1 150 j = qi w 137 j ∧ qi w1 151 j = qi w 138 j) → c_Mo_image_228 d E Q 0 w1) :
    ∀ (m i : Nat) (w1 : qW), i + m = 5 → Sh w1 → Fr (fun k _ => 150 ≤ k ∧ k ≤ 151) w w1 → (∀ j, j < i → qi w1 150 j = qi w 137 j ∧ qi w1 151 j = qi w 138 j) → c_Mo_image_191 d E Q (nI i) w1 := by
  intro m
  induction m with
  | zero =>
    intro i w1 hi hw1 hf hc
    have : i = 5 := by omega
    subst this
    exact s_Mo_image_191 hw1 ⟨fun _ => hQ w1 hw1 hf hc, fun z => absurd (by decide) z⟩
  | succ m ih =>
    intro i w1 hi hw1 hf hc
    have hin : vp_in (nI i) 5 := nvp (by omega) (by omega)
    refine s_Mo_image_191 hw1 ⟨fun z => absurd z (by rw [show (5 : Int32) = nI 5 from rfl, nle (by omega) (by omega)]; omega), fun _ => ?_⟩
    rw [ncl (by omega), n1]
    try simp (disch := omega) only [qi_k]
    refine ⟨hin, hin, hin, hin, ih (i + 1) _ (by omega) hw1 (((hf.pi (by omega)).pi (by omega))) (fun j hj => ?_)⟩
    by_cases e : j = i
    · subst e
      simp (disch := omega) only [qi_k, qi_eq]
      exact ⟨(hf 137 j (by omega)).1, (hf 138 j (by omega)).1⟩
    · simp (disch := omega) only [qi_k, qi_j]
      exact hc j (by omega)
theorem h_im3 {Q : qW → Int32 → Prop} (hQ : ∀ w1, Sh w1 → Fr (fun k _ => 152 ≤ k ∧ k ≤ 153) w w1 → (∀ j, j < 10 → qi w1 152 j = qi w 139 j ∧ qi w1 153 j = qi w 140 j) → c_Mo_image_266 d E Q 0 w1) :
    ∀ (m i : Nat) (w1 : qW), i + m = 10 → Sh w1 → Fr (fun k _ => 152 ≤ k ∧ k ≤ 153) w w1 → (∀ j, j < i → qi w1 152 j = qi w 139 j ∧ qi w1 153 j = qi w 140 j) → c_Mo_image_228 d E Q (nI i) w1 := by
  intro m
  induction m with
  | zero =>
    intro i w1 hi hw1 hf hc
    have : i = 10 := by omega
    subst this
    exact s_Mo_image_228 hw1 ⟨fun _ => hQ w1 hw1 hf hc, fun z => absurd (by decide) z⟩
  | succ m ih =>
    intro i w1 hi hw1 hf hc
    have hin : vp_in (nI i) 10 := nvp (by omega) (by omega)
    refine s_Mo_image_228 hw1 ⟨fun z => absurd z (by rw [show (10 : Int32) = nI 10 from rfl, nle (by omega) (by omega)]; omega), fun _ => ?_⟩
    rw [ncl (by omega), n1]
    try simp (disch := omega) only [qi_k]
    refine ⟨hin, hin, hin, hin, ih (i + 1) _ (by omega) hw1 (((hf.pi (by omega)).pi (by omega))) (fun j hj => ?_)⟩
    by_cases e : j = i
    · subst e
      simp (disch := omega) only [qi_k, qi_eq]
      exact ⟨(hf 139 j (by omega)).1, (hf 140 j (by omega)).1⟩
    · simp (disch := omega) only [qi_k, qi_j]
      exact hc j (by omega)
theorem h_im4 {Q : qW → Int32 → Prop} (hQ : ∀ w1, Sh w1 → Fr (fun k _ => 154 ≤ k ∧ k ≤ 155) w w1 → (∀ j, j < 8 → qi w1 154 j = qi w 141 j ∧ qi w1 155 j = qi w 142 j) → Q w1 (qi w1 115 0)) :
    ∀ (m i : Nat) (w1 : qW), i + m = 8 → Sh w1 → Fr (fun k _ => 154 ≤ k ∧ k ≤ 155) w w1 → (∀ j, j < i → qi w1 154 j = qi w 141 j ∧ qi w1 155 j = qi w 142 j) → c_Mo_image_266 d E Q (nI i) w1 := by
  intro m
  induction m with
  | zero =>
    intro i w1 hi hw1 hf hc
    have : i = 8 := by omega
    subst this
    exact s_Mo_image_266 hw1 ⟨fun _ => hQ w1 hw1 hf hc, fun z => absurd (by decide) z⟩
  | succ m ih =>
    intro i w1 hi hw1 hf hc
    have hin : vp_in (nI i) 8 := nvp (by omega) (by omega)
    refine s_Mo_image_266 hw1 ⟨fun z => absurd z (by rw [show (8 : Int32) = nI 8 from rfl, nle (by omega) (by omega)]; omega), fun _ => ?_⟩
    rw [ncl (by omega), n1]
    try simp (disch := omega) only [qi_k]
    refine ⟨hin, hin, hin, hin, ih (i + 1) _ (by omega) hw1 (((hf.pi (by omega)).pi (by omega))) (fun j hj => ?_)⟩
    by_cases e : j = i
    · subst e
      simp (disch := omega) only [qi_k, qi_eq]
      exact ⟨(hf 141 j (by omega)).1, (hf 142 j (by omega)).1⟩
    · simp (disch := omega) only [qi_k, qi_j]
      exact hc j (by omega)
theorem h_im {Q : qW → Int32 → Prop} (hw : Sh w) (hQ : ∀ V, Sh V → Fr (fun k _ => 143 ≤ k ∧ k ≤ 155) w V → (∀ a j, a < 6 → j < 6 → qi V (143 + a) j = qi w (116 + a) j) → (∀ j, j < 24 → qi V 149 j = qi w 122 j) → MCp w V 137 150 → Q V (qi V 115 0)) : c_Mo_image_79 d E Q 0 w := by
  refine h_im0 (w := w) (fun v0 hv0 hf0 c0 => ?_) 6 0 w (by omega) hw Fr.rf (fun j hj => by omega)
  refine h_im1 (w := v0) (fun v1 hv1 hf1 c1 => ?_) 24 0 v0 (by omega) hv0 Fr.rf (fun j hj => by omega)
  refine h_im2 (w := v1) (fun v2 hv2 hf2 c2 => ?_) 5 0 v1 (by omega) hv1 Fr.rf (fun j hj => by omega)
  refine h_im3 (w := v2) (fun v3 hv3 hf3 c3 => ?_) 10 0 v2 (by omega) hv2 Fr.rf (fun j hj => by omega)
  refine h_im4 (w := v3) (fun v4 hv4 hf4 c4 => ?_) 8 0 v3 (by omega) hv3 Fr.rf (fun j hj => by omega)
  have g0 : ∀ k j, ¬ (143 ≤ k ∧ k ≤ 148) → qi v0 k j = qi w k j := fun k j z => (hf0 k j z).1
  have g1 : ∀ k j, ¬ (149 ≤ k ∧ k ≤ 149) → qi v1 k j = qi v0 k j := fun k j z => (hf1 k j z).1
  have g2 : ∀ k j, ¬ (150 ≤ k ∧ k ≤ 151) → qi v2 k j = qi v1 k j := fun k j z => (hf2 k j z).1
  have g3 : ∀ k j, ¬ (152 ≤ k ∧ k ≤ 153) → qi v3 k j = qi v2 k j := fun k j z => (hf3 k j z).1
  have g4 : ∀ k j, ¬ (154 ≤ k ∧ k ≤ 155) → qi v4 k j = qi v3 k j := fun k j z => (hf4 k j z).1
  refine hQ v4 hv4 (((((hf0.mono (fun k j z => by omega)).tr (hf1.mono (fun k j z => by omega))).tr (hf2.mono (fun k j z => by omega))).tr (hf3.mono (fun k j z => by omega))).tr (hf4.mono (fun k j z => by omega))) (fun a j ha hj => ?_) (fun j hj => ?_) ⟨fun j hj => ⟨?_, ?_⟩, fun j hj => ⟨?_, ?_⟩, fun j hj => ⟨?_, ?_⟩⟩
  · rw [g4 _ _ (by omega), g3 _ _ (by omega), g2 _ _ (by omega), g1 _ _ (by omega)]
    obtain ⟨x0, x1, x2, x3, x4, x5⟩ := c0 j hj
    rcases (show a = 0 ∨ a = 1 ∨ a = 2 ∨ a = 3 ∨ a = 4 ∨ a = 5 by omega) with rfl | rfl | rfl | rfl | rfl | rfl
    · exact x0
    · exact x1
    · exact x2
    · exact x3
    · exact x4
    · exact x5
  · rw [g4 _ _ (by omega), g3 _ _ (by omega), g2 _ _ (by omega), c1 j hj, g0 _ _ (by omega)]
  · rw [g4 _ _ (by omega), g3 _ _ (by omega), (c2 j hj).1, g1 _ _ (by omega), g0 _ _ (by omega)]
  · rw [show 150 + 1 = 151 from rfl, show 137 + 1 = 138 from rfl, g4 _ _ (by omega), g3 _ _ (by omega), (c2 j hj).2, g1 _ _ (by omega), g0 _ _ (by omega)]
  · rw [show 150 + 2 = 152 from rfl, show 137 + 2 = 139 from rfl, g4 _ _ (by omega), (c3 j hj).1, g2 _ _ (by omega), g1 _ _ (by omega), g0 _ _ (by omega)]
  · rw [show 150 + 3 = 153 from rfl, show 137 + 3 = 140 from rfl, g4 _ _ (by omega), (c3 j hj).2, g2 _ _ (by omega), g1 _ _ (by omega), g0 _ _ (by omega)]
  · rw [show 150 + 4 = 154 from rfl, show 137 + 4 = 141 from rfl, (c4 j hj).1, g3 _ _ (by omega), g2 _ _ (by omega), g1 _ _ (by omega), g0 _ _ (by omega)]
  · rw [show 150 + 5 = 155 from rfl, show 137 + 5 = 142 from rfl, (c4 j hj).2, g3 _ _ (by omega), g2 _ _ (by omega), g1 _ _ (by omega), g0 _ _ (by omega)]
theorem h_un0 {Q : qW → Int32 → Prop} (hQ : ∀ w1, Sh w1 → Fr (fun k _ => 116 ≤ k ∧ k ≤ 121) w w1 → (∀ j, j < 6 → qi w1 116 j = qi w 143 j ∧ qi w1 117 j = qi w 144 j ∧ qi w1 118 j = qi w 145 j ∧ qi w1 119 j = qi w 146 j ∧ qi w1 120 j = qi w 147 j ∧ qi w1 121 j = qi w 148 j) → c_Mo_undo_170 d E Q 0 w1) :
    ∀ (m i : Nat) (w1 : qW), i + m = 6 → Sh w1 → Fr (fun k _ => 116 ≤ k ∧ k ≤ 121) w w1 → (∀ j, j < i → qi w1 116 j = qi w 143 j ∧ qi w1 117 j = qi w 144 j ∧ qi w1 118 j = qi w 145 j ∧ qi w1 119 j = qi w 146 j ∧ qi w1 120 j = qi w 147 j ∧ qi w1 121 j = qi w 148 j) → c_Mo_undo_84 d E Q (nI i) w1 := by
  intro m
  induction m with
  | zero =>
    intro i w1 hi hw1 hf hc
    have : i = 6 := by omega
    subst this
    exact s_Mo_undo_84 hw1 ⟨fun _ => hQ w1 hw1 hf hc, fun z => absurd (by decide) z⟩
  | succ m ih =>
    intro i w1 hi hw1 hf hc
    have hin : vp_in (nI i) 6 := nvp (by omega) (by omega)
    refine s_Mo_undo_84 hw1 ⟨fun z => absurd z (by rw [show (6 : Int32) = nI 6 from rfl, nle (by omega) (by omega)]; omega), fun _ => ?_⟩
    rw [ncl (by omega), n1]
    try simp (disch := omega) only [qi_k]
    refine ⟨hin, hin, hin, hin, hin, hin, hin, hin, hin, hin, hin, hin, ih (i + 1) _ (by omega) hw1 (((((((hf.pi (by omega)).pi (by omega)).pi (by omega)).pi (by omega)).pi (by omega)).pi (by omega))) (fun j hj => ?_)⟩
    by_cases e : j = i
    · subst e
      simp (disch := omega) only [qi_k, qi_eq]
      exact ⟨(hf 143 j (by omega)).1, (hf 144 j (by omega)).1, (hf 145 j (by omega)).1, (hf 146 j (by omega)).1, (hf 147 j (by omega)).1, (hf 148 j (by omega)).1⟩
    · simp (disch := omega) only [qi_k, qi_j]
      exact hc j (by omega)
theorem h_un1 {Q : qW → Int32 → Prop} (hQ : ∀ w1, Sh w1 → Fr (fun k _ => 122 ≤ k ∧ k ≤ 122) w w1 → (∀ j, j < 24 → qi w1 122 j = qi w 149 j) → c_Mo_undo_196 d E Q 0 w1) :
    ∀ (m i : Nat) (w1 : qW), i + m = 24 → Sh w1 → Fr (fun k _ => 122 ≤ k ∧ k ≤ 122) w w1 → (∀ j, j < i → qi w1 122 j = qi w 149 j) → c_Mo_undo_170 d E Q (nI i) w1 := by
  intro m
  induction m with
  | zero =>
    intro i w1 hi hw1 hf hc
    have : i = 24 := by omega
    subst this
    exact s_Mo_undo_170 hw1 ⟨fun _ => hQ w1 hw1 hf hc, fun z => absurd (by decide) z⟩
  | succ m ih =>
    intro i w1 hi hw1 hf hc
    have hin : vp_in (nI i) 24 := nvp (by omega) (by omega)
    refine s_Mo_undo_170 hw1 ⟨fun z => absurd z (by rw [show (24 : Int32) = nI 24 from rfl, nle (by omega) (by omega)]; omega), fun _ => ?_⟩
    rw [ncl (by omega), n1]
    try simp (disch := omega) only [qi_k]
    refine ⟨hin, hin, ih (i + 1) _ (by omega) hw1 ((hf.pi (by omega))) (fun j hj => ?_)⟩
    by_cases e : j = i
    · subst e
      simp (disch := omega) only [qi_k, qi_eq]
      exact (hf 149 j (by omega)).1
    · simp (disch := omega) only [qi_k, qi_j]
      exact hc j (by omega)
theorem h_un2 {Q : qW → Int32 → Prop} (hQ : ∀ w1, Sh w1 → Fr (fun k _ => 137 ≤ k ∧ k ≤ 138) w w1 → (∀ j, j < 5 → qi w1 137 j = qi w 150 j ∧ qi w1 138 j = qi w 151 j) → c_Mo_undo_233 d E Q 0 w1) :
    ∀ (m i : Nat) (w1 : qW), i + m = 5 → Sh w1 → Fr (fun k _ => 137 ≤ k ∧ k ≤ 138) w w1 → (∀ j, j < i → qi w1 137 j = qi w 150 j ∧ qi w1 138 j = qi w 151 j) → c_Mo_undo_196 d E Q (nI i) w1 := by
  intro m
  induction m with
  | zero =>
    intro i w1 hi hw1 hf hc
    have : i = 5 := by omega
    subst this
    exact s_Mo_undo_196 hw1 ⟨fun _ => hQ w1 hw1 hf hc, fun z => absurd (by decide) z⟩
  | succ m ih =>
    intro i w1 hi hw1 hf hc
    have hin : vp_in (nI i) 5 := nvp (by omega) (by omega)
    refine s_Mo_undo_196 hw1 ⟨fun z => absurd z (by rw [show (5 : Int32) = nI 5 from rfl, nle (by omega) (by omega)]; omega), fun _ => ?_⟩
    rw [ncl (by omega), n1]
    try simp (disch := omega) only [qi_k]
    refine ⟨hin, hin, hin, hin, ih (i + 1) _ (by omega) hw1 (((hf.pi (by omega)).pi (by omega))) (fun j hj => ?_)⟩
    by_cases e : j = i
    · subst e
      simp (disch := omega) only [qi_k, qi_eq]
      exact ⟨(hf 150 j (by omega)).1, (hf 151 j (by omega)).1⟩
    · simp (disch := omega) only [qi_k, qi_j]
      exact hc j (by omega)
theorem h_un3 {Q : qW → Int32 → Prop} (hQ : ∀ w1, Sh w1 → Fr (fun k _ => 139 ≤ k ∧ k ≤ 140) w w1 → (∀ j, j < 10 → qi w1 139 j = qi w 152 j ∧ qi w1 140 j = qi w 153 j) → c_Mo_undo_271 d E Q 0 w1) :
    ∀ (m i : Nat) (w1 : qW), i + m = 10 → Sh w1 → Fr (fun k _ => 139 ≤ k ∧ k ≤ 140) w w1 → (∀ j, j < i → qi w1 139 j = qi w 152 j ∧ qi w1 140 j = qi w 153 j) → c_Mo_undo_233 d E Q (nI i) w1 := by
  intro m
  induction m with
  | zero =>
    intro i w1 hi hw1 hf hc
    have : i = 10 := by omega
    subst this
    exact s_Mo_undo_233 hw1 ⟨fun _ => hQ w1 hw1 hf hc, fun z => absurd (by decide) z⟩
  | succ m ih =>
    intro i w1 hi hw1 hf hc
    have hin : vp_in (nI i) 10 := nvp (by omega) (by omega)
    refine s_Mo_undo_233 hw1 ⟨fun z => absurd z (by rw [show (10 : Int32) = nI 10 from rfl, nle (by omega) (by omega)]; omega), fun _ => ?_⟩
    rw [ncl (by omega), n1]
    try simp (disch := omega) only [qi_k]
    refine ⟨hin, hin, hin, hin, ih (i + 1) _ (by omega) hw1 (((hf.pi (by omega)).pi (by omega))) (fun j hj => ?_)⟩
    by_cases e : j = i
    · subst e
      simp (disch := omega) only [qi_k, qi_eq]
      exact ⟨(hf 152 j (by omega)).1, (hf 153 j (by omega)).1⟩
    · simp (disch := omega) only [qi_k, qi_j]
      exact hc j (by omega)
theorem h_un4 {Q : qW → Int32 → Prop} (hQ : ∀ w1, Sh w1 → Fr (fun k _ => 141 ≤ k ∧ k ≤ 142) w w1 → (∀ j, j < 8 → qi w1 141 j = qi w 154 j ∧ qi w1 142 j = qi w 155 j) → Q w1 (qi w1 115 0)) :
    ∀ (m i : Nat) (w1 : qW), i + m = 8 → Sh w1 → Fr (fun k _ => 141 ≤ k ∧ k ≤ 142) w w1 → (∀ j, j < i → qi w1 141 j = qi w 154 j ∧ qi w1 142 j = qi w 155 j) → c_Mo_undo_271 d E Q (nI i) w1 := by
  intro m
  induction m with
  | zero =>
    intro i w1 hi hw1 hf hc
    have : i = 8 := by omega
    subst this
    exact s_Mo_undo_271 hw1 ⟨fun _ => hQ w1 hw1 hf hc, fun z => absurd (by decide) z⟩
  | succ m ih =>
    intro i w1 hi hw1 hf hc
    have hin : vp_in (nI i) 8 := nvp (by omega) (by omega)
    refine s_Mo_undo_271 hw1 ⟨fun z => absurd z (by rw [show (8 : Int32) = nI 8 from rfl, nle (by omega) (by omega)]; omega), fun _ => ?_⟩
    rw [ncl (by omega), n1]
    try simp (disch := omega) only [qi_k]
    refine ⟨hin, hin, hin, hin, ih (i + 1) _ (by omega) hw1 (((hf.pi (by omega)).pi (by omega))) (fun j hj => ?_)⟩
    by_cases e : j = i
    · subst e
      simp (disch := omega) only [qi_k, qi_eq]
      exact ⟨(hf 154 j (by omega)).1, (hf 155 j (by omega)).1⟩
    · simp (disch := omega) only [qi_k, qi_j]
      exact hc j (by omega)
theorem h_un {Q : qW → Int32 → Prop} (hw : Sh w) (hQ : ∀ V, Sh V → Fr (fun k _ => (116 ≤ k ∧ k ≤ 122) ∨ (137 ≤ k ∧ k ≤ 142)) w V → (∀ a j, a < 6 → j < 6 → qi V (116 + a) j = qi w (143 + a) j) → (∀ j, j < 24 → qi V 122 j = qi w 149 j) → MCp w V 150 137 → Q V (qi V 115 0)) : c_Mo_undo_84 d E Q 0 w := by
  refine h_un0 (w := w) (fun v0 hv0 hf0 c0 => ?_) 6 0 w (by omega) hw Fr.rf (fun j hj => by omega)
  refine h_un1 (w := v0) (fun v1 hv1 hf1 c1 => ?_) 24 0 v0 (by omega) hv0 Fr.rf (fun j hj => by omega)
  refine h_un2 (w := v1) (fun v2 hv2 hf2 c2 => ?_) 5 0 v1 (by omega) hv1 Fr.rf (fun j hj => by omega)
  refine h_un3 (w := v2) (fun v3 hv3 hf3 c3 => ?_) 10 0 v2 (by omega) hv2 Fr.rf (fun j hj => by omega)
  refine h_un4 (w := v3) (fun v4 hv4 hf4 c4 => ?_) 8 0 v3 (by omega) hv3 Fr.rf (fun j hj => by omega)
  have g0 : ∀ k j, ¬ (116 ≤ k ∧ k ≤ 121) → qi v0 k j = qi w k j := fun k j z => (hf0 k j z).1
  have g1 : ∀ k j, ¬ (122 ≤ k ∧ k ≤ 122) → qi v1 k j = qi v0 k j := fun k j z => (hf1 k j z).1
  have g2 : ∀ k j, ¬ (137 ≤ k ∧ k ≤ 138) → qi v2 k j = qi v1 k j := fun k j z => (hf2 k j z).1
  have g3 : ∀ k j, ¬ (139 ≤ k ∧ k ≤ 140) → qi v3 k j = qi v2 k j := fun k j z => (hf3 k j z).1
  have g4 : ∀ k j, ¬ (141 ≤ k ∧ k ≤ 142) → qi v4 k j = qi v3 k j := fun k j z => (hf4 k j z).1
  refine hQ v4 hv4 (((((hf0.mono (fun k j z => by omega)).tr (hf1.mono (fun k j z => by omega))).tr (hf2.mono (fun k j z => by omega))).tr (hf3.mono (fun k j z => by omega))).tr (hf4.mono (fun k j z => by omega))) (fun a j ha hj => ?_) (fun j hj => ?_) ⟨fun j hj => ⟨?_, ?_⟩, fun j hj => ⟨?_, ?_⟩, fun j hj => ⟨?_, ?_⟩⟩
  · rw [g4 _ _ (by omega), g3 _ _ (by omega), g2 _ _ (by omega), g1 _ _ (by omega)]
    obtain ⟨x0, x1, x2, x3, x4, x5⟩ := c0 j hj
    rcases (show a = 0 ∨ a = 1 ∨ a = 2 ∨ a = 3 ∨ a = 4 ∨ a = 5 by omega) with rfl | rfl | rfl | rfl | rfl | rfl
    · exact x0
    · exact x1
    · exact x2
    · exact x3
    · exact x4
    · exact x5
  · rw [g4 _ _ (by omega), g3 _ _ (by omega), g2 _ _ (by omega), c1 j hj, g0 _ _ (by omega)]
  · rw [g4 _ _ (by omega), g3 _ _ (by omega), (c2 j hj).1, g1 _ _ (by omega), g0 _ _ (by omega)]
  · rw [show 137 + 1 = 138 from rfl, show 150 + 1 = 151 from rfl, g4 _ _ (by omega), g3 _ _ (by omega), (c2 j hj).2, g1 _ _ (by omega), g0 _ _ (by omega)]
  · rw [show 137 + 2 = 139 from rfl, show 150 + 2 = 152 from rfl, g4 _ _ (by omega), (c3 j hj).1, g2 _ _ (by omega), g1 _ _ (by omega), g0 _ _ (by omega)]
  · rw [show 137 + 3 = 140 from rfl, show 150 + 3 = 153 from rfl, g4 _ _ (by omega), (c3 j hj).2, g2 _ _ (by omega), g1 _ _ (by omega), g0 _ _ (by omega)]
  · rw [show 137 + 4 = 141 from rfl, show 150 + 4 = 154 from rfl, (c4 j hj).1, g3 _ _ (by omega), g2 _ _ (by omega), g1 _ _ (by omega), g0 _ _ (by omega)]
  · rw [show 137 + 5 = 142 from rfl, show 150 + 5 = 155 from rfl, (c4 j hj).2, g3 _ _ (by omega), g2 _ _ (by omega), g1 _ _ (by omega), g0 _ _ (by omega)]
theorem J.thr {x : Int32} {n : Nat} (h : TH x n) (hn : n ≤ 6) : isKi (if x < 0 then 1 else 76 + 4 * x.toNatClampNeg) ∧ (if x < 0 then 2 else 77 + 4 * x.toNatClampNeg) = (if x < 0 then 1 else 76 + 4 * x.toNatClampNeg) + 1 := by
  rcases h with rfl | ⟨f, f1, rfl⟩
  · exact ⟨Or.inl (if_pos (by decide)), rfl⟩
  · rw [if_neg (nI_pos (by omega)), if_neg (nI_pos (by omega)), ncl (by omega)]
    exact ⟨Or.inr ⟨f, by omega, rfl⟩, by omega⟩
theorem PI_PM (h0 : qi V 115 51 = qi w 115 0) (h1 : qi V 115 52 = qi w 115 1) (h2 : qi V 115 53 = qi w 115 2) (h3 : qz (qi V 115 49) = qz (qi w 115 4)) (h4 : qi V 115 54 = qi w 115 3) (h5 : qi V 115 50 = qi w 115 13) (c0 : ∀ a j, a < 6 → j < 6 → qi V (143 + a) j = qi w (116 + a) j) (c1 : ∀ j, j < 24 → qi V 149 j = qi w 122 j) : PI V = PM w := by
  have ea : aI V = aM w := by
    funext i a
    unfold aI aM
    by_cases hi : i < 6
    · rw [if_pos hi, if_pos hi]
      by_cases ha : a < 6
      · rw [if_pos ha, if_pos ha, c0 a i ha hi]
      · rw [if_neg ha, if_neg ha]
        by_cases hb : a < 10
        · rw [if_pos hb, if_pos hb, c1 _ (by omega)]
        · rw [if_neg hb, if_neg hb]
    · rw [if_neg hi, if_neg hi]
  unfold PI PM
  rw [ea, h0, h1, h2, h3, h4, h5]
theorem PM_PI (h0 : qi V 115 0 = qi w 115 51) (h1 : qi V 115 1 = qi w 115 52) (h2 : qi V 115 2 = qi w 115 53) (h3 : qz (qi V 115 4) = qz (qi w 115 49)) (h4 : qi V 115 3 = qi w 115 54) (h5 : qi V 115 13 = qi w 115 50) (c0 : ∀ a j, a < 6 → j < 6 → qi V (116 + a) j = qi w (143 + a) j) (c1 : ∀ j, j < 24 → qi V 122 j = qi w 149 j) : PM V = PI w := by
  have ea : aM V = aI w := by
    funext i a
    unfold aI aM
    by_cases hi : i < 6
    · rw [if_pos hi, if_pos hi]
      by_cases ha : a < 6
      · rw [if_pos ha, if_pos ha, c0 a i ha hi]
      · rw [if_neg ha, if_neg ha]
        by_cases hb : a < 10
        · rw [if_pos hb, if_pos hb, c1 _ (by omega)]
        · rw [if_neg hb, if_neg hb]
    · rw [if_neg hi, if_neg hi]
  unfold PI PM
  rw [ea, h0, h1, h2, h3, h4, h5]
theorem PI_lo (g : ∀ k j, (143 ≤ k ∧ k ≤ 149) ∨ (k = 115 ∧ 49 ≤ j ∧ j ≤ 54) → qi V k j = qi w k j) : PI V = PI w := PI_e g
theorem pr_image : pair_image E (I E) := by
  intro d w hw hI
  obtain ⟨kk, n, hJ⟩ := id hI
  obtain ⟨kc1, K, kx, kr⟩ := hJ.kcs
  refine en_Qu_image hw (s_Qu_image_0 hw (x_wcopy (q := 30) (p := 5) hw (Or.inr ⟨rfl, rfl⟩) hJ.1.2.2.1 hJ.xo kx.1 kr (fun w1 hw1 hf1 e1 r1 => ?_)))
  have f2 : Fr (fun k j => (31 ≤ k ∧ k ≤ 54) ∨ (k = 0 ∧ j = 2)) w (qpi w1 0 2 1) := (hf1.mono (fun k j z => by omega)).pi (Or.inr ⟨rfl, rfl⟩)
  have hw2 : Sh (qpi w1 0 2 1) := hw1
  have e2 : PX 40 (qpi w1 0 2 1) = PM w := by
    rw [← hJ.1.1]
    exact (PX_ext (fun k j a b c => qi_k (by omega)) rfl).trans e1
  have r2 : RCp w (qpi w1 0 2 1) 6 31 := by
    obtain ⟨x1, x2, x3, x4, x5, x6⟩ := r1
    exact ⟨x1, x2, x3, x4, x5, x6⟩
  have s2 : qi (qpi w1 0 2 1) 0 2 = 1 := qi_eq rfl rfl
  generalize qpi w1 0 2 1 = W at f2 hw2 e2 r2 s2
  have g2 : ∀ k j, ¬ ((31 ≤ k ∧ k ≤ 54) ∨ (k = 0 ∧ j = 2)) → qi W k j = qi w k j := fun k j z => (f2 k j z).1
  refine en_Mo_image hw2 (s_Mo_image_0 hw2 ?_)
  simp (disch := omega) only [qi_k, qi_j]
  refine h_im hw2 (fun V hV fV v1 v2 v3 => ?_)
  have gv : ∀ k j, ¬ (143 ≤ k ∧ k ≤ 155) → qi V k j = _ := fun k j z => (fV k j z).1
  have b48 := gv 115 48 (by omega)
  have b49 := gv 115 49 (by omega)
  have b50 := gv 115 50 (by omega)
  have b51 := gv 115 51 (by omega)
  have b52 := gv 115 52 (by omega)
  have b53 := gv 115 53 (by omega)
  have b54 := gv 115 54 (by omega)
  have b55 := gv 115 55 (by omega)
  have b56 := gv 115 56 (by omega)
  have b57 := gv 115 57 (by omega)
  simp (disch := omega) only [qi_k, qi_j, qi_eq] at b48 b49 b50 b51 b52 b53 b54 b55 b56 b57
  have gx : ∀ k j, ¬ (143 ≤ k ∧ k ≤ 155) → ¬ (k = 115 ∧ 48 ≤ j ∧ j ≤ 57) → qi V k j = qi W k j := fun k j z1 z2 => by
    rw [gv k j z1]
    by_cases hk : k = 115
    · subst hk
      simp (disch := omega) only [qi_j]
    · simp (disch := omega) only [qi_k]
  have v1' : ∀ a j, a < 6 → j < 6 → qi V (143 + a) j = qi W (116 + a) j := fun a j ha hj => by
    rw [v1 a j ha hj]
    simp (disch := omega) only [qi_k]
  have v2' : ∀ j, j < 24 → qi V 149 j = qi W 122 j := fun j hj => by
    rw [v2 j hj]
    simp (disch := omega) only [qi_k]
  have v3' : MCp W V 137 150 := by
    obtain ⟨y1, y2, y3⟩ := v3
    simp (disch := omega) only [qi_k] at y1 y2 y3
    exact ⟨y1, y2, y3⟩
  have fx : Fr (fun k j => (143 ≤ k ∧ k ≤ 155) ∨ (k = 115 ∧ 48 ≤ j ∧ j ≤ 57)) W V := fun k j z => ⟨gx k j (by omega) (by omega), (fV k j (by omega)).2.1, (fV k j (by omega)).2.2⟩
  clear fV v1 v2 v3 gv
  have mW : PM W = PM w := PM_e (fun j hj => g2 _ _ (by omega)) (fun k j a b => g2 _ _ (by omega))
  have pI : PI V = PM W := PI_PM b51 b52 b53 (by rw [b49]; first | rfl | exact qzz _) b54 b50 v1' v2'
  have gg : ∀ k j, ¬ ((31 ≤ k ∧ k ≤ 54) ∨ (k = 0 ∧ j = 2)) → ¬ (143 ≤ k ∧ k ≤ 155) → ¬ (k = 115 ∧ 48 ≤ j ∧ j ≤ 57) → qi V k j = qi w k j := fun k j z1 z2 z3 => (gx k j z2 z3).trans (g2 k j z1)
  have pV : PM V = PM w := PM_e (fun j hj => gg _ _ (by omega) (by omega) (by omega)) (fun k j a b => gg _ _ (by omega) (by omega) (by omega))
  have x15 : PX 15 V = PX 15 w := PX_ext (fun k j a b c => gg _ _ (by omega) (by omega) (by omega)) (((fx 15 6 (by omega)).2.2).trans (f2 15 6 (by omega)).2.2)
  have x40 : PX 40 V = PM w := (PX_ext (fun k j a b c => gx _ _ (by omega) (by omega)) (fx 40 6 (by omega)).2.2).trans e2
  obtain ⟨⟨j1, j2, j3, j4⟩, jb, ⟨jc1, jc2⟩, jt, ⟨jk1, jk2⟩, jac, jtp, je3, jle⟩ := hJ
  refine ⟨?_, kk, n, ⟨by rw [x15, pV]; exact j1, by rw [pV]; exact j2, ?_, fun i hi => (gg _ _ (by omega) (by omega) (by omega)).trans (j4 i hi)⟩, ?_, ⟨?_, fun _ => ⟨?_, ?_, ?_, ?_⟩⟩, ?_, ⟨?_, ?_⟩, ?_, ?_, ?_, ?_⟩
  · have a1 : qi W 15 0 = qi w 15 0 := g2 _ _ (by omega)
    have a2 : qi V 115 0 = qi w 115 0 := gg _ _ (by omega) (by omega) (by omega)
    have a3 : qi w 15 0 = qi w 115 0 := congrArg pc j1
    simp only [a1, a2, a3]
  · exact okR.num (by rw [x40]; exact j2)
  · rw [pV]
    exact jb.fr (Nat.le_refl _) (fun k j q => gg k j (by omega) (by omega) (by omega))
  · rw [gx 0 2 (by omega) (by omega), s2, b48]
  · rw [x40, pI, mW]
  · rw [pI, mW]
    exact j2
  · rw [pI, mW]
    have jb2 : RWs W 6 39 42 43 137 (cN (PM w)) := jb.fr (Nat.le_refl _) (fun k j q => g2 k j (by omega))
    refine jb2.cp (r2 := 31) ?_ v3' b55 b56 b57
    obtain ⟨x1, x2, x3, x4, x5, x6⟩ := r2
    refine ⟨?_, ?_, ?_, fun j hj => ?_, fun j hj => ?_, fun j hj => ?_⟩
    · rw [gx _ _ (by omega) (by omega), x1, g2 _ _ (by omega)]
    · rw [gx _ _ (by omega) (by omega), x2, g2 _ _ (by omega)]
    · rw [gx _ _ (by omega) (by omega), x3, g2 _ _ (by omega)]
    · rw [gx (31 + 1) _ (by omega) (by omega), gx (31 + 2) _ (by omega) (by omega), (x4 j hj).1, (x4 j hj).2, g2 _ _ (by omega), g2 _ _ (by omega)]
      exact ⟨rfl, rfl⟩
    · rw [gx (31 + 4) _ (by omega) (by omega), gx (31 + 5) _ (by omega) (by omega), (x5 j hj).1, (x5 j hj).2, g2 _ _ (by omega), g2 _ _ (by omega)]
      exact ⟨rfl, rfl⟩
    · rw [gx (31 + 7) _ (by omega) (by omega), gx (31 + 8) _ (by omega) (by omega), (x6 j hj).1, (x6 j hj).2, g2 _ _ (by omega), g2 _ _ (by omega)]
      exact ⟨rfl, rfl⟩
  · rw [b50, g2 115 13 (by omega)]
    exact jk2
  · exact jt.fr (fun k j q => gg k j (by omega) (by omega) (by omega))
  · exact jk1.fr (fun k j q => gg k j (by omega) (by omega) (by omega))
  · rw [gg 115 13 (by omega) (by omega) (by omega)]
    exact jk2
  · exact jac.fr (fun k j q => gg k j (by omega) (by omega) (by omega))
  · exact jtp.fr (fun k j q => ⟨gg k j (by omega) (by omega) (by omega), ((fx k j (by omega)).2.1).trans (f2 k j (by omega)).2.1⟩)
  · rw [gg 115 30 (by omega) (by omega) (by omega)]
    exact je3
  · exact jle.fr (fun j => gg 131 j (by omega) (by omega) (by omega))
theorem pr_undo : pair_undo E (I E) := by
  intro d w hw hI
  obtain ⟨kk, n, hJ⟩ := id hI
  obtain ⟨⟨j1, j2, j3, j4⟩, jb, ⟨jc1, jc2⟩, jt, ⟨jk1, jk2⟩, jac, jtp, je3, jle⟩ := id hJ
  refine en_Qu_undo hw (s_Qu_undo_0 hw ⟨fun z => ?_, fun z => ?_⟩)
  · have z' : ¬ qz (qi w 115 48) = 0 := by rw [← jc1]; exact z
    obtain ⟨i1, i2, i3, i4⟩ := jc2 z'
    obtain ⟨tK, tr⟩ := J.thr i4 jk1.1
    have ho : okR 9999 9999 (PX 40 w) := by rw [i1]; exact i2
    have kr : qr w 40 6 = (if qi w 115 50 < 0 then 1 else 76 + 4 * (qi w 115 50).toNatClampNeg) + 1 := by
      rw [← tr]
      exact congrArg pr i1
    refine x_wcopy (q := 5) (p := 30) hw (Or.inl ⟨rfl, rfl⟩) hJ.xo.num ho tK kr (fun W hw2 f2 e2 r2 => ?_)
    have g2 : ∀ k j, ¬ (6 ≤ k ∧ k ≤ 29) → qi W k j = qi w k j := fun k j z => (f2 k j (by omega)).1
    refine en_Mo_undo hw2 (s_Mo_undo_0 hw2 ⟨fun _ => ?_, fun y => absurd ?_ z'⟩)
    · simp (disch := omega) only [qi_k, qi_j]
      refine h_un hw2 (fun V hV fV v1 v2 v3 => ?_)
      have gv : ∀ k j, ¬ ((116 ≤ k ∧ k ≤ 122) ∨ (137 ≤ k ∧ k ≤ 142)) → qi V k j = _ := fun k j z => (fV k j z).1
      have b0 := gv 115 0 (by omega)
      have b1 := gv 115 1 (by omega)
      have b2 := gv 115 2 (by omega)
      have b3 := gv 115 3 (by omega)
      have b4 := gv 115 4 (by omega)
      have b13 := gv 115 13 (by omega)
      have b39 := gv 115 39 (by omega)
      have b42 := gv 115 42 (by omega)
      have b43 := gv 115 43 (by omega)
      simp (disch := omega) only [qi_k, qi_j, qi_eq] at b0 b1 b2 b3 b4 b13 b39 b42 b43
      have gx : ∀ k j, ¬ ((116 ≤ k ∧ k ≤ 122) ∨ (137 ≤ k ∧ k ≤ 142)) → ¬ (k = 115 ∧ (j ≤ 4 ∨ j = 13 ∨ j = 39 ∨ j = 42 ∨ j = 43)) → qi V k j = qi W k j := fun k j z1 z2 => by
        rw [gv k j z1]
        by_cases hk : k = 115
        · subst hk
          simp (disch := omega) only [qi_j]
        · simp (disch := omega) only [qi_k]
      have v1' : ∀ a j, a < 6 → j < 6 → qi V (116 + a) j = qi W (143 + a) j := fun a j ha hj => by
        rw [v1 a j ha hj]
        simp (disch := omega) only [qi_k]
      have v2' : ∀ j, j < 24 → qi V 122 j = qi W 149 j := fun j hj => by
        rw [v2 j hj]
        simp (disch := omega) only [qi_k]
      have v3' : MCp W V 150 137 := by
        obtain ⟨y1, y2, y3⟩ := v3
        simp (disch := omega) only [qi_k] at y1 y2 y3
        exact ⟨y1, y2, y3⟩
      have fx : Fr (fun k j => ((116 ≤ k ∧ k ≤ 122) ∨ (137 ≤ k ∧ k ≤ 142)) ∨ (k = 115 ∧ (j ≤ 4 ∨ j = 13 ∨ j = 39 ∨ j = 42 ∨ j = 43))) W V := fun k j z => ⟨gx k j (by omega) (by omega), (fV k j (by omega)).2.1, (fV k j (by omega)).2.2⟩
      clear fV v1 v2 v3 gv
      have iW : PI W = PI w := PI_e (fun k j q => g2 _ _ (by omega))
      have pV : PM V = PI w := (PM_PI b0 b1 b2 (by rw [b4]; first | rfl | exact qzz _) b3 b13 v1' v2').trans iW
      have gg : ∀ k j, ¬ (6 ≤ k ∧ k ≤ 29) → ¬ ((116 ≤ k ∧ k ≤ 122) ∨ (137 ≤ k ∧ k ≤ 142)) → ¬ (k = 115 ∧ (j ≤ 4 ∨ j = 13 ∨ j = 39 ∨ j = 42 ∨ j = 43)) → qi V k j = qi w k j := fun k j z1 z2 z3 => (gx k j z2 z3).trans (g2 k j z1)
      have x15 : PX 15 V = PI w := ((PX_ext (fun k j a b c => gx _ _ (by omega) (by omega)) (fx 15 6 (by omega)).2.2).trans e2).trans i1
      have iV : PI V = PI w := PI_e (fun k j q => gg _ _ (by omega) (by omega) (by omega))
      refine ⟨?_, kk, n, ⟨by rw [x15, pV], by rw [pV]; exact i2, fun i hi => (gg _ _ (by omega) (by omega) (by omega)).trans (j3 i hi), fun i hi => (gg _ _ (by omega) (by omega) (by omega)).trans (j4 i hi)⟩, ?_, ⟨?_, fun _ => ?_⟩, ?_, ⟨?_, ?_⟩, ?_, ?_, ?_, ?_⟩
      · have a1 : pc (PX 15 V) = pc (PM V) := by rw [x15, pV]
        have a2 : qi V 15 0 = qi W 15 0 := gx _ _ (by omega) (by omega)
        have a3 : qi V 15 0 = qi V 115 0 := a1
        rw [a2] at a3
        simp only [a3]
      · rw [pV]
        have jb2 : RWs W 31 55 56 57 150 (cN (PI w)) := i3.fr (Nat.le_refl _) (fun k j q => g2 k j (by omega))
        refine jb2.cp (r2 := 6) ?_ v3' b39 b42 b43
        obtain ⟨x1, x2, x3, x4, x5, x6⟩ := r2
        refine ⟨?_, ?_, ?_, fun j hj => ?_, fun j hj => ?_, fun j hj => ?_⟩
        · rw [gx _ _ (by omega) (by omega), show (6 : Nat) = 5 + 1 from rfl, x1, g2 _ _ (by omega)]
        · rw [gx _ _ (by omega) (by omega), show (6 : Nat) = 5 + 1 from rfl, x2, g2 _ _ (by omega)]
        · rw [gx _ _ (by omega) (by omega), show (6 : Nat) + 6 = 5 + 1 + 6 from rfl, x3, g2 _ _ (by omega)]
        · have y1 := (x4 j hj).1
          have y2 := (x4 j hj).2
          exact ⟨(gx 7 j (by omega) (by omega)).trans (y1.trans (g2 32 j (by omega)).symm), (gx 8 j (by omega) (by omega)).trans (y2.trans (g2 33 j (by omega)).symm)⟩
        · have y1 := (x5 j hj).1
          have y2 := (x5 j hj).2
          exact ⟨(gx 10 j (by omega) (by omega)).trans (y1.trans (g2 35 j (by omega)).symm), (gx 11 j (by omega) (by omega)).trans (y2.trans (g2 36 j (by omega)).symm)⟩
        · have y1 := (x6 j hj).1
          have y2 := (x6 j hj).2
          exact ⟨(gx 13 j (by omega) (by omega)).trans (y1.trans (g2 38 j (by omega)).symm), (gx 14 j (by omega) (by omega)).trans (y2.trans (g2 39 j (by omega)).symm)⟩
      · rw [gg 0 2 (by omega) (by omega) (by omega), gg 115 48 (by omega) (by omega) (by omega)]
        exact jc1
      · exact (jc2 z').fr (Nat.le_refl _) (fun k j q => gg k j (by omega) (by omega) (by omega)) (((fx 40 6 (by omega)).2.2).trans (f2 40 6 (by omega)).2.2)
      · exact jt.fr (fun k j q => gg k j (by omega) (by omega) (by omega))
      · exact jk1.fr (fun k j q => gg k j (by omega) (by omega) (by omega))
      · rw [b13, g2 115 50 (by omega)]
        exact i4
      · exact jac.fr (fun k j q => gg k j (by omega) (by omega) (by omega))
      · exact jtp.fr (fun k j q => ⟨gg k j (by omega) (by omega) (by omega), ((fx k j (by omega)).2.1).trans (f2 k j (by omega)).2.1⟩)
      · rw [gg 115 30 (by omega) (by omega) (by omega)]
        exact je3
      · exact jle.fr (fun j => gg 131 j (by omega) (by omega) (by omega))
    · rw [← y, g2 115 48 (by omega)]
  · have z' : qz (qi w 115 48) = 0 := by rw [← jc1]; exact z
    exact en_Mo_undo hw (s_Mo_undo_0 hw ⟨fun y => absurd z' y, fun _ => ⟨rfl, hI⟩⟩)
end PIm
