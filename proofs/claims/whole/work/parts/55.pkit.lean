/-! the pair kitchen -/
section PK
variable {d : Nat} {E : qE} {S : Nat → Nat} {L p q f x : Nat} {w w0 w1 w2 V W : qW} {kk kk' : Nat → List Cl} {n n' : Nat} {k : List Cl}
theorem KM.keep (h : KM w f k) (hb : KMB w f k) (hfn : f < n) (g : ∀ a j, 124 ≤ a → a ≤ 129 → ¬ jMd n a j → qi w1 a j = qi w a j) : KM w1 f k ∧ KMB w1 f k := by
  obtain ⟨h1, h2, h3, h4⟩ := h
  have idx : ∀ i c, k[i]? = some c → 10 * f + i < 10 * n := fun i c hi => by
    have : i < k.length := (List.getElem?_eq_some_iff.mp hi).1
    omega
  have g5 : ∀ a i c, 125 ≤ a → a ≤ 128 → k[i]? = some c → qi w1 a (10 * f + i) = qi w a (10 * f + i) := fun a i c ha hb hi => g a _ (by omega) (by omega) (by have := idx i c hi; unfold jMd; omega)
  refine ⟨⟨h1, h2, ?_, fun i c hi => ?_⟩, fun i c hi z => ?_⟩
  · rw [g 124 f (by omega) (by omega) (by unfold jMd; omega)]
    exact h3
  · obtain ⟨z1, z2, z3, z4⟩ := h4 i c hi
    refine ⟨z1, by rw [g5 125 i c (by omega) (by omega) hi]; exact z2, by rw [g5 126 i c (by omega) (by omega) hi]; exact z3, fun ne => ?_⟩
    obtain ⟨x, x1, x2, x3, x4⟩ := z4 ne
    obtain ⟨y, y1, y2⟩ := hb i c hi ne
    have e : y = x := by
      rw [y1] at x2
      exact (neq (by omega) (by omega)).mp x2
    subst e
    refine ⟨y, x1, by rw [g5 127 i c (by omega) (by omega) hi]; exact x2, by rw [g5 128 i c (by omega) (by omega) hi]; exact x3, fun j t ht => ?_⟩
    have hj : j < c.2.2.length := (List.getElem?_eq_some_iff.mp ht).1
    have hb100 : y + j < 100 * n := by
      have : 100 * (f + 1) ≤ 100 * n := Nat.mul_le_mul_left 100 hfn
      omega
    rw [g 129 (y + j) (by omega) (by omega) (by unfold jMd; omega)]
    exact x4 j t ht
  · obtain ⟨y, y1, y2⟩ := hb i c hi z
    exact ⟨y, by rw [g5 127 i c (by omega) (by omega) hi]; exact y1, y2⟩
theorem TS.km (h : TS w0 f w p k x) (hf : f < 6) (hk : k.length ≤ 10) (hl : qi w 124 f = nI k.length) (hp : p ≤ 100) (g : ∀ a j, a ≠ 115 → qi w1 a j = qi w a j) : KM w1 f k ∧ KMB w1 f k := by
  obtain ⟨-, h1, h2, h3, h4⟩ := h
  refine ⟨⟨hf, hk, by rw [g _ _ (by omega)]; exact hl, fun i c hi => ?_⟩, fun i c hi ne => ?_⟩
  · obtain ⟨z1, z2, z3, z4⟩ := h4 i c hi
    refine ⟨z1, by rw [g _ _ (by omega)]; exact z2, by rw [g _ _ (by omega)]; exact z3, fun ne => ?_⟩
    obtain ⟨y, y1, y2, y3, y4⟩ := z4 ne
    exact ⟨y, by omega, by rw [g _ _ (by omega)]; exact y2, by rw [g _ _ (by omega)]; exact y3, fun j t ht => by rw [g _ _ (by omega)]; exact y4 j t ht⟩
  · obtain ⟨z1, z2, z3, z4⟩ := h4 i c hi
    obtain ⟨y, y1, y2, y3, y4⟩ := z4 ne
    exact ⟨y, by rw [g _ _ (by omega)]; exact y2, by omega⟩
theorem XP.kx {K r : Nat} (hK : isKi K) (h : XP w0 K w q (flK k) (ndK k)) (hg : gT L r p k q) (hL : L ≤ 100) (g : ∀ a j, K ≤ a → a ≤ K + 3 → qi w1 a j = qi w a j) : KX w1 K k := by
  obtain ⟨-, h4, h5, h6⟩ := h
  obtain ⟨g1, g2, g3, g4, g5, g6⟩ := hg
  refine ⟨hK, g4, ⟨by omega, by rw [g _ _ (by omega) (by omega)]; exact h4, fun j t ht => ?_⟩, g6, by rw [g _ _ (by omega) (by omega)]; exact h5⟩
  obtain ⟨a1, a2, a3⟩ := h6 j t ht
  exact ⟨okS_fl g4 t (List.mem_of_getElem? ht), by rw [g _ _ (by omega) (by omega)]; exact a1, by rw [g _ _ (by omega) (by omega)]; exact a2, by rw [g _ _ (by omega) (by omega)]; exact a3⟩
def mkP (p : Pn) (r : Nat) : Pn := (pc p, pf p, pk p, ps p, pm p, r, pa p)
theorem PX_mk (h : ∀ a j : Nat, 15 ≤ a → a ≤ 29 → ¬ (a = 15 ∧ j = 6) → qi w1 a j = qi w a j) : PX 15 w1 = mkP (PX 15 w) (qr w1 15 6) := by
  have ea : aX w1 15 = aX w 15 := by
    funext i a
    unfold aX
    by_cases a2 : i < 6
    · rw [if_pos a2, if_pos a2]
      rw [h (15 + 3 + 2 * i) (a + 1) (by omega) (by omega) (by omega), h (15 + 4 + 2 * i) (a - 6) (by omega) (by omega) (by omega), h (15 + 3 + 2 * i) 0 (by omega) (by omega) (by omega)]
    · rw [if_neg a2, if_neg a2]
  show (qi w1 15 0, qi w1 15 2, qi w1 15 3, qz (qi w1 15 4), qi w1 15 5, qr w1 15 6, aX w1 15) = (qi w 15 0, qi w 15 2, qi w 15 3, qz (qi w 15 4), qi w 15 5, qr w1 15 6, aX w 15)
  rw [ea, h 15 0 (by omega) (by omega) (by omega), h 15 2 (by omega) (by omega) (by omega), h 15 3 (by omega) (by omega) (by omega), h 15 4 (by omega) (by omega) (by omega), h 15 5 (by omega) (by omega) (by omega)]
theorem okR_mk {M T r : Nat} {p : Pn} (h : okR M T p) : okR M T (mkP p r) := ⟨h.1, h.2.1, h.2.2.1, h.2.2.2.1, h.2.2.2.2.1, h.2.2.2.2.2⟩
theorem cN_mk {p : Pn} {r : Nat} : cN (mkP p r) = cN p := rfl
def thR (y : Int32) : Nat := if y < 0 then 2 else 77 + 4 * y.toNatClampNeg
theorem PM_mk (h : ∀ a j : Nat, (a = 115 ∧ j ≤ 4) ∨ (116 ≤ a ∧ a ≤ 122) → qi w1 a j = qi w a j) : PM w1 = mkP (PM w) (thR (qi w1 115 13)) := by
  have ea : aM w1 = aM w := by
    funext i a
    unfold aM
    by_cases a1 : a < 6
    · rw [h (116 + a) i (by omega), h 122 _ (by omega)]
    · by_cases a2 : i < 6
      · rw [if_pos a2, if_pos a2, if_neg a1, if_neg a1, h 122 _ (by omega)]
      · rw [if_neg a2, if_neg a2]
  show (qi w1 115 0, qi w1 115 1, qi w1 115 2, qz (qi w1 115 4), qi w1 115 3, thR (qi w1 115 13), aM w1) = (qi w 115 0, qi w 115 1, qi w 115 2, qz (qi w 115 4), qi w 115 3, thR (qi w1 115 13), aM w)
  rw [ea, h 115 0 (by omega), h 115 1 (by omega), h 115 2 (by omega), h 115 3 (by omega), h 115 4 (by omega)]
/-- what a kitchen changes -/
def jKit (n k j : Nat) : Prop := k = 73 ∨ (76 + 4 * n ≤ k ∧ k ≤ 79 + 4 * n) ∨ (k = 15 ∧ j = 6) ∨ (k = 0 ∧ j = 6) ∨ jMd n k j ∨ (k = 115 ∧ 12 ≤ j ∧ j ≤ 14)
theorem J.kit (h : J kk n w) (hn6 : n < 6) (hn : n ≤ n') (hf : Fr (jKit n) w w1) (hp : qr w1 15 6 = thR (qi w1 115 13)) (ht : TXT w1) (hk : KJ kk' n' w1) (hth : TH (qi w1 115 13) n') : J kk' n' w1 := by
  have g : ∀ k j, ¬ jKit n k j → qi w1 k j = qi w k j := fun k j q => (hf k j q).1
  obtain ⟨⟨a1, a2, a3, a4⟩, b, ⟨c1, c2⟩, -, -, ac, tp, e3, le⟩ := h
  have e1 : PX 15 w1 = mkP (PX 15 w) (qr w1 15 6) := PX_mk (fun a j a1 a2 a3 => g a j (by unfold jKit jMd; omega))
  have e2 : PM w1 = mkP (PM w) (thR (qi w1 115 13)) := PM_mk (fun a j a1 => g a j (by unfold jKit jMd; omega))
  refine ⟨⟨by rw [e1, e2, a1, hp], by rw [e2]; exact okR_mk a2, fun i hi => (g _ _ (by unfold jKit jMd; omega)).trans (a3 i hi), fun i hi => (g _ _ (by unfold jKit jMd; omega)).trans (a4 i hi)⟩, ?_, ⟨?_, fun z => ?_⟩, ht, ⟨hk, hth⟩, ?_, ?_, ?_, ?_⟩
  · rw [e2, cN_mk]
    exact b.fr (Nat.le_refl _) (fun k j q => g k j (by unfold jKit jMd; omega))
  · rw [g 0 2 (by unfold jKit jMd; omega), g 115 48 (by unfold jKit jMd; omega)]
    exact c1
  · rw [g 115 48 (by unfold jKit jMd; omega)] at z
    exact (c2 z).fr hn (fun k j q => g k j (by unfold jKit jMd; omega)) (hf 40 6 (by unfold jKit jMd; omega)).2.2
  · exact ac.fr (fun k j q => g k j (by unfold jKit jMd; omega))
  · exact tp.fr (fun k j q => ⟨g k j (by unfold jKit jMd; omega), (hf k j (by unfold jKit jMd; omega)).2.1⟩)
  · rw [g 115 30 (by unfold jKit jMd; omega)]
    exact e3
  · exact le.fr (fun j => g 131 j (by unfold jKit jMd; omega))
theorem J.thR (h : J kk n w) : qr w 15 6 = thR (qi w 115 13) := by
  have e : pr (PX 15 w) = pr (PM w) := by rw [h.1.1]
  exact e
/-- the kitchens that were there -/
theorem J.old (h : J kk n w) (hn : n < 6) (hf : Fr (jKit n) w w1) : (∀ f, f < n → KX w1 (76 + 4 * f) (kk f) ∧ KM w1 f (kk f) ∧ KMB w1 f (kk f)) ∧ KX w1 1 [] := by
  have g : ∀ k j, ¬ jKit n k j → qi w1 k j = qi w k j := fun k j q => (hf k j q).1
  obtain ⟨-, -, -, -, ⟨⟨k1, k2, k3, k4, k5⟩, -⟩, -⟩ := h
  refine ⟨fun f hfn => ?_, k5.fr (fun a j _ _ => g a j (by unfold jKit jMd; omega))⟩
  obtain ⟨x1, x2, x3⟩ := k4 f hfn
  exact ⟨x1.fr (fun a j _ _ => g a j (by unfold jKit jMd; omega)), x2.keep x3 hfn (fun a j b1 b2 b3 => g a j (by unfold jMd at b3; unfold jKit jMd; omega))⟩
theorem KJ.of (h : J kk n w) (hn : n < 6) (hf : Fr (jKit n) w w1) (h06 : qi w1 0 6 = nI n) (h12 : qi w1 115 12 = nI n) : KJ kk n w1 :=
  ⟨by omega, h06, h12, h.old hn hf⟩
def jX (n k j : Nat) : Prop := k = 73 ∨ (76 + 4 * n ≤ k ∧ k ≤ 79 + 4 * n)
def jX2 (n k j : Nat) : Prop := k = 73 ∨ (76 + 4 * n ≤ k ∧ k ≤ 79 + 4 * n) ∨ (k = 15 ∧ j = 6) ∨ (k = 0 ∧ j = 6)
set_option maxHeartbeats 1000000 in
theorem pr_kitchen : pair_kitchen E (I E) := by
  intro d w hw hI
  obtain ⟨kk, n, hJ⟩ := id hI
  obtain ⟨⟨n6, x1, x2, -, -⟩, th⟩ := hJ.2.2.2.2.1
  obtain ⟨m, m1, m2, m3, m4⟩ := hJ.2.2.2.1
  have hLET : LET w := hJ.2.2.2.2.2.2.2.2
  refine en_Qu_kitchen hw (s_Qu_kitchen_0 hw ?_)
  rw [x1]
  refine ⟨fun z => absurd z (nI_pos (by omega)), fun _ => pk_lt n 6 (fun hn => ⟨nvp hn (by omega), ?_⟩) (fun hn => ?_)⟩
  rotate_left
  · have hn6 : n = 6 := by omega
    refine en_Mo_kitchen hw (s_Mo_kitchen_0 hw ⟨fun z => absurd ?_ z, fun _ => ⟨rfl, hI⟩⟩)
    rw [x2, hn6]
    rfl
  rw [ncl (by omega)]
  have hK : isKi (76 + 4 * n) := isKi_of hn
  obtain ⟨S, hS, hS0, hSx⟩ : ∃ S : Nat → Nat, (∀ j, S j ≤ 127) ∧ (∀ j, m ≤ j → S j = 0) ∧ ∀ j, j < m → qi w 74 j = nI (S j) ∧ qi w 123 j = nI (S j) := by
    refine ⟨fun j => if j < m then (qi w 74 j).toNatClampNeg else 0, fun j => ?_, fun j hj => if_neg (by omega), fun j hj => ?_⟩
    · by_cases hj : j < m
      · obtain ⟨y1, a, y2, y3⟩ := m4 j (by omega)
        show (if j < m then _ else _) ≤ 127
        rw [if_pos hj, y3, ncl (by omega)]
        exact y2
      · show (if j < m then _ else _) ≤ 127
        rw [if_neg hj]
        omega
    · obtain ⟨y1, a, y2, y3⟩ := m4 j (by omega)
      show _ = nI (if j < m then _ else _) ∧ _ = nI (if j < m then _ else _)
      rw [if_pos hj, ← y1, y3, ncl (by omega)]
      exact ⟨rfl, rfl⟩
  have hrX : rdX S m (76 + 4 * n) (qpr w 73 3 (76 + 4 * n + 1)) := ⟨hK, m1, hS, hS0, m2, fun j hj => (hSx j hj).1, qr_eq rfl rfl⟩
  have tx := tx_ok hS0 m1 (n := 203) 10 0 (Nat.zero_le _)
  have f0 : Fr (jX n) w (qpr w 73 3 (76 + 4 * n + 1)) := Fr.rf.pr (Or.inl rfl)
  refine x_read hw hK hrX ?_
  generalize qpr w 73 3 (76 + 4 * n + 1) = w0 at hrX f0
  have rdV : ∀ {V : qW}, Fr (jX2 n) w V → rdM S m V := fun hf => ⟨m1, hS, hS0, (hf 115 14 (by unfold jX2; omega)).1.trans m3, fun j hj => (hf 123 j (by unfold jX2; omega)).1.trans (hSx j hj).2, hLET.fr (fun j => (hf 131 j (by unfold jX2; omega)).1)⟩
  have six : ¬ nI n = 6 := by
    rw [show (6 : Int32) = nI 6 from rfl, neq (by omega) (by omega)]
    omega
  have txt : ∀ {W : qW}, Fr (jKit n) w W → qi W 73 1 = 0 → qi W 115 14 = 0 → TXT W := fun hf h1 h2 => ⟨0, Nat.zero_le _, h1, h2, fun j hj => by
    rw [(hf 74 j (by unfold jKit jMd; omega)).1, (hf 123 j (by unfold jKit jMd; omega)).1]
    exact m4 j hj⟩
  rcases et : txP S m 203 10 0 with ⟨_ | k, q⟩
  · rw [et] at tx
    have hq : q ≤ m := tx
    intro w4 h4
    refine en_Re_empty h4.1 (s_Re_empty_0 h4.1 ⟨fun z => absurd z (nI_pos (by omega)), fun _ => ?_⟩)
    have fV : Fr (jX n) w (qpi w4 73 1 0) := (f0.tr (h4.2.1.mono (fun a j z => by unfold jRd at z; unfold jX; omega))).pi (Or.inl rfl)
    have sV : Sh (qpi w4 73 1 0) := h4.1
    have vL : qi (qpi w4 73 1 0) 73 1 = 0 := qi_eq rfl rfl
    generalize qpi w4 73 1 0 = V at fV sV vL
    have fV2 : Fr (jX2 n) w V := fV.mono (fun a j z => by unfold jX at z; unfold jX2; omega)
    have x12 : qi V 115 12 = nI n := (fV 115 12 (by unfold jX; omega)).1.trans x2
    refine en_Mo_kitchen sV (s_Mo_kitchen_0 sV ?_)
    rw [x12]
    refine ⟨fun _ => m_goesText sV (rdV fV2) hn ?_, fun z => absurd z six⟩
    rw [et]
    intro w7 t7
    refine ⟨fun y => absurd rfl y, fun _ => ⟨?_, kk, n, ?_⟩⟩
    · rw [qi_j (by decide), t7.2.2]
    · have f7 : Fr (jKit n) w w7 := (fV.mono (fun a j z => by unfold jX at z; unfold jKit; omega)).tr (t7.2.1.mono (fun a j z => by unfold jKit; exact Or.inr (Or.inr (Or.inr (Or.inr (Or.inl z))))))
      have fW : Fr (jKit n) w (qpi w7 115 14 0) := f7.pi (by unfold jKit; omega)
      have e13 : qi (qpi w7 115 14 0) 115 13 = qi w 115 13 := by
        rw [qi_j (by decide), (t7.2.1 115 13 (by unfold jMd; omega)).1, (fV 115 13 (by unfold jX; omega)).1]
      have er : qr (qpi w7 115 14 0) 15 6 = qr w 15 6 := (t7.2.1 15 6 (by unfold jMd; omega)).2.2.trans (fV 15 6 (by unfold jX; omega)).2.2
      have e06 : qi (qpi w7 115 14 0) 0 6 = nI n := by
        rw [qi_k (by omega), (t7.2.1 0 6 (by unfold jMd; omega)).1, (fV 0 6 (by unfold jX; omega)).1]
        exact x1
      have e12 : qi (qpi w7 115 14 0) 115 12 = nI n := by
        rw [qi_j (by decide), (t7.2.1 115 12 (by unfold jMd; omega)).1]
        exact x12
      have e73 : qi (qpi w7 115 14 0) 73 1 = 0 := by
        rw [qi_k (by omega), (t7.2.1 73 1 (by unfold jMd; omega)).1]
        exact vL
      exact hJ.kit hn (Nat.le_refl _) fW (by rw [er, e13]; exact hJ.thR) (txt fW e73 (qi_eq rfl rfl)) (KJ.of hJ hn fW e06 e12) (by rw [e13]; exact th)
  · rw [et] at tx
    have hg : gT m 10 0 k q := tx
    intro w4 h4
    have e06 : qi w4 0 6 = nI n := by
      rw [(h4.1.2.1 0 6 (by unfold jRd; omega)).1, (f0 0 6 (by unfold jX; omega)).1]
      exact x1
    have f4 : Fr (jX2 n) w w4 := (f0.tr (h4.1.2.1.mono (fun a j z => by unfold jRd at z; unfold jX; omega))).mono (fun a j z => by unfold jX at z; unfold jX2; omega)
    refine en_Re_empty h4.1.1 (s_Re_empty_0 h4.1.1 ⟨fun _ => ?_, fun z => absurd (by decide) z⟩)
    rw [show qi (qpr (qpi w4 73 1 0) 15 6 (76 + 4 * n + 1)) 0 6 = nI n from (qi_k (w := w4) (a := 0) (k := 73) (j := 1) (c := 6) (x := 0) (by omega)).trans e06, n1, qi_eq rfl rfl, nI_pred]
    have fV : Fr (jX2 n) w (qpi (qpr (qpi w4 73 1 0) 15 6 (76 + 4 * n + 1)) 0 6 (nI (n + 1))) := ((f4.pi (Or.inl rfl)).pr (by unfold jX2; omega)).pi (by unfold jX2; omega)
    have sV : Sh (qpi (qpr (qpi w4 73 1 0) 15 6 (76 + 4 * n + 1)) 0 6 (nI (n + 1))) := Sh.pr (w := qpi w4 73 1 0) (k := 15) (j := 6) (v := 76 + 4 * n + 1) (by decide) h4.1.1
    have vL : qi (qpi (qpr (qpi w4 73 1 0) 15 6 (76 + 4 * n + 1)) 0 6 (nI (n + 1))) 73 1 = 0 := by
      rw [qi_k (by omega), qi_pr, qi_eq rfl rfl]
    have v06 : qi (qpi (qpr (qpi w4 73 1 0) 15 6 (76 + 4 * n + 1)) 0 6 (nI (n + 1))) 0 6 = nI (n + 1) := qi_eq rfl rfl
    have vr : qr (qpi (qpr (qpi w4 73 1 0) 15 6 (76 + 4 * n + 1)) 0 6 (nI (n + 1))) 15 6 = 76 + 4 * n + 1 := by
      rw [qr_pi, qr_eq rfl rfl]
    have vK : ∀ a j, 76 + 4 * n ≤ a → a ≤ 76 + 4 * n + 3 → qi (qpi (qpr (qpi w4 73 1 0) 15 6 (76 + 4 * n + 1)) 0 6 (nI (n + 1))) a j = qi w4 a j := fun a j h1 h2 => by
      rw [qi_k (by omega), qi_pr, qi_k (by omega)]
    generalize qpi (qpr (qpi w4 73 1 0) 15 6 (76 + 4 * n + 1)) 0 6 (nI (n + 1)) = V at fV sV vL v06 vr vK
    have x12 : qi V 115 12 = nI n := (fV 115 12 (by unfold jX2; omega)).1.trans x2
    refine en_Mo_kitchen sV (s_Mo_kitchen_0 sV ?_)
    rw [x12]
    refine ⟨fun _ => m_goesText sV (rdV fV) hn ?_, fun z => absurd z six⟩
    rw [et]
    intro w7 x7 t7 c7
    refine ⟨fun _ => ?_, fun y => absurd y (by decide)⟩
    have e12 : qi w7 115 12 = nI n := (t7.1.2.1 115 12 (by unfold jMd; omega)).1.trans x12
    rw [show qi (qpi w7 115 14 0) 115 12 = nI n from (qi_j (by decide)).trans e12, show qi (qpi (qpi w7 115 14 0) 115 13 (nI n)) 115 12 = nI n from (qi_j (by decide)).trans ((qi_j (by decide)).trans e12), n1]
    refine ⟨by rw [qi_j (by decide), qi_eq rfl rfl], fun f => if f = n then k else kk f, n + 1, ?_⟩
    have f7 : Fr (jKit n) w w7 := (fV.mono (fun a j z => by unfold jX2 at z; unfold jKit; omega)).tr (t7.1.2.1.mono (fun a j z => by unfold jKit; exact Or.inr (Or.inr (Or.inr (Or.inr (Or.inl z))))))
    have fW : Fr (jKit n) w (qpi (qpi (qpi w7 115 14 0) 115 13 (nI n)) 115 12 (nI (n + 1))) := ((f7.pi (by unfold jKit; omega)).pi (by unfold jKit; omega)).pi (by unfold jKit; omega)
    have w13 : qi (qpi (qpi (qpi w7 115 14 0) 115 13 (nI n)) 115 12 (nI (n + 1))) 115 13 = nI n := by
      rw [qi_j (by decide), qi_eq rfl rfl]
    have w12 : qi (qpi (qpi (qpi w7 115 14 0) 115 13 (nI n)) 115 12 (nI (n + 1))) 115 12 = nI (n + 1) := qi_eq rfl rfl
    have w14 : qi (qpi (qpi (qpi w7 115 14 0) 115 13 (nI n)) 115 12 (nI (n + 1))) 115 14 = 0 := by
      rw [qi_j (by decide), qi_j (by decide), qi_eq rfl rfl]
    have g7 : ∀ a j, a ≠ 115 → qi (qpi (qpi (qpi w7 115 14 0) 115 13 (nI n)) 115 12 (nI (n + 1))) a j = qi w7 a j := fun a j h1 => by
      rw [qi_k h1, qi_k h1, qi_k h1]
    have wr : qr (qpi (qpi (qpi w7 115 14 0) 115 13 (nI n)) 115 12 (nI (n + 1))) 15 6 = 76 + 4 * n + 1 := (t7.1.2.1 15 6 (by unfold jMd; omega)).2.2.trans vr
    generalize qpi (qpi (qpi w7 115 14 0) 115 13 (nI n)) 115 12 (nI (n + 1)) = W at fW w13 w12 w14 g7 wr
    have w06 : qi W 0 6 = nI (n + 1) := by
      rw [g7 0 6 (by omega), (t7.1.2.1 0 6 (by unfold jMd; omega)).1]
      exact v06
    have w73 : qi W 73 1 = 0 := by
      rw [g7 73 1 (by omega), (t7.1.2.1 73 1 (by unfold jMd; omega)).1]
      exact vL
    have hth : thR (nI n) = 76 + 4 * n + 1 := by
      unfold thR
      rw [if_neg (nI_pos (by omega)), ncl (by omega)]
      omega
    refine hJ.kit hn (Nat.le_succ n) fW (by rw [wr, w13, hth]) (txt fW w73 w14) ⟨by omega, w06, w12, fun f hfn => ?_, (hJ.old hn fW).2⟩ (Or.inr ⟨n, by omega, w13⟩)
    by_cases hf : f = n
    · subst hf
      have hkx : KX W (76 + 4 * f) k := h4.kx hK hg m1 (fun a j h1 h2 => by rw [g7 a j (by omega), (t7.1.2.1 a j (by unfold jMd; omega)).1]; exact vK a j h1 h2)
      obtain ⟨hk1, hk2⟩ := t7.km hn hg.1 c7 (by have := hg.2.2.1; omega) g7
      show KX W (76 + 4 * f) (if f = f then k else kk f) ∧ KM W f (if f = f then k else kk f) ∧ KMB W f (if f = f then k else kk f)
      rw [if_pos rfl]
      exact ⟨hkx, hk1, hk2⟩
    · show KX W (76 + 4 * f) (if f = n then k else kk f) ∧ KM W f (if f = n then k else kk f) ∧ KMB W f (if f = n then k else kk f)
      rw [if_neg hf]
      exact (hJ.old hn fW).1 f (by omega)
end PK
