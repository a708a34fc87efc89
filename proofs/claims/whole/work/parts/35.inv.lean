/-! what holds between the calls -/
section IV
/-- rows told by hand: seen, plan, book; the class's at r, the model's counts s1 s2 s3, its arrays at a; c things -/
def RWs (w : qW) (r s1 s2 s3 a c : Nat) : Prop :=
  (∃ n, n ≤ 5 ∧ qi w r 2 = nI n ∧ qi w 115 s1 = nI n ∧ (∀ j, j < 5 → qi w (r + 1) j = qi w a j ∧ qi w (r + 2) j = qi w (a + 1) j) ∧ ∀ j, j < n → rg (qi w a j) 12) ∧
  (∃ n, n ≤ 10 ∧ qi w (r + 3) 2 = nI n ∧ qi w 115 s2 = nI n ∧ (∀ j, j < 10 → qi w (r + 4) j = qi w (a + 2) j ∧ (¬ qi w (a + 2) j = 0 → qi w (r + 5) j = qi w (a + 3) j)) ∧ ∀ j, j < n → okPl c (qi w (a + 2) j) (qi w (a + 3) j)) ∧
  (∃ n, n ≤ 8 ∧ qi w (r + 6) 2 = nI n ∧ qi w 115 s3 = nI n ∧ (∀ j, j < 8 → qi w (r + 7) j = qi w (a + 4) j ∧ qi w (r + 8) j = qi w (a + 5) j) ∧ ∀ j, j < n → ∃ i, i < c ∧ qi w (a + 4) j = nI i)
theorem RWs.fr {w w1 : qW} {r s1 s2 s3 a c c1 : Nat} (h : RWs w r s1 s2 s3 a c) (hc : c ≤ c1) (g : ∀ k j, (r ≤ k ∧ k ≤ r + 8) ∨ (a ≤ k ∧ k ≤ a + 5) ∨ (k = 115 ∧ (j = s1 ∨ j = s2 ∨ j = s3)) → qi w1 k j = qi w k j) : RWs w1 r s1 s2 s3 a c1 := by
  obtain ⟨⟨n, a1, a2, a3, a4, a5⟩, ⟨m, b1, b2, b3, b4, b5⟩, ⟨l, c1', c2, c3, c4, c5⟩⟩ := h
  refine ⟨⟨n, a1, by rw [g _ _ (by omega)]; exact a2, by rw [g _ _ (by omega)]; exact a3, fun j hj => ?_, fun j hj => by rw [g _ _ (by omega)]; exact a5 j hj⟩, ⟨m, b1, by rw [g _ _ (by omega)]; exact b2, by rw [g _ _ (by omega)]; exact b3, fun j hj => ?_, fun j hj => ?_⟩, ⟨l, c1', by rw [g _ _ (by omega)]; exact c2, by rw [g _ _ (by omega)]; exact c3, fun j hj => ?_, fun j hj => ?_⟩⟩
  · rw [g _ _ (by omega), g _ _ (by omega), g _ _ (by omega), g _ _ (by omega)]
    exact a4 j hj
  · rw [g (r + 4) _ (by omega), g (a + 2) _ (by omega), g (r + 5) _ (by omega), g (a + 3) _ (by omega)]
    exact b4 j hj
  · rw [g (a + 2) _ (by omega), g (a + 3) _ (by omega)]
    obtain ⟨o1, o2, o3⟩ := b5 j hj
    exact ⟨o1, fun q => by
      obtain ⟨i, i1, i2⟩ := o2 q
      exact ⟨i, by omega, i2⟩, o3⟩
  · rw [g (r + 7) _ (by omega), g (a + 4) _ (by omega), g (r + 8) _ (by omega), g (a + 5) _ (by omega)]
    exact c4 j hj
  · rw [g (a + 4) _ (by omega)]
    obtain ⟨i, i1, i2⟩ := c5 j hj
    exact ⟨i, by omega, i2⟩
/-- the model's image -/
def aI (w : qW) (i a : Nat) : Int32 := if i < 6 then (if a < 6 then qi w (143 + a) i else if a < 10 then qi w 149 (4 * i + (a - 6)) else if a = 10 then nI i else 0) else 0
def PI (w : qW) : Pn := (qi w 115 51, qi w 115 52, qi w 115 53, qz (qi w 115 49), qi w 115 54, (if qi w 115 50 < 0 then 2 else 77 + 4 * (qi w 115 50).toNatClampNeg), aI w)
theorem PI_e {w w1 : qW} (h : ∀ k j, (143 ≤ k ∧ k ≤ 149) ∨ (k = 115 ∧ 49 ≤ j ∧ j ≤ 54) → qi w1 k j = qi w k j) : PI w1 = PI w := by
  have ea : aI w1 = aI w := by
    funext i a
    unfold aI
    by_cases a1 : a < 6
    · rw [h (143 + a) i (by omega), h 149 _ (by omega)]
    · rw [if_neg a1, if_neg a1, h 149 _ (by omega)]
  unfold PI
  rw [ea, h 115 51 (by omega), h 115 52 (by omega), h 115 53 (by omega), h 115 49 (by omega), h 115 54 (by omega), h 115 50 (by omega)]
/-- a kitchen's number -/
def TH (x : Int32) (n : Nat) : Prop := x = -1 ∨ ∃ f, f < n ∧ x = nI f
def kOf (kk : Nat → List Cl) (x : Int32) : List Cl := if x < 0 then [] else kk x.toNatClampNeg
/-- its tokens keep to their own hundred -/
def KMB (w : qW) (f : Nat) (k : List Cl) : Prop := ∀ i c, k[i]? = some c → c.1 ≠ 2 → ∃ x, qi w 127 (10 * f + i) = nI x ∧ x + c.2.2.length ≤ 100 * (f + 1)
theorem KMB.fr {w w1 : qW} {f : Nat} {k : List Cl} (g : ∀ k j : Nat, 124 ≤ k → k ≤ 129 → qi w1 k j = qi w k j) (h : KMB w f k) : KMB w1 f k := fun i c q z => by
  obtain ⟨x, x1, x2⟩ := h i c q z
  exact ⟨x, by rw [g _ _ (by omega) (by omega)]; exact x1, x2⟩
def KJ (kk : Nat → List Cl) (n : Nat) (w : qW) : Prop := n ≤ 6 ∧ qi w 0 6 = nI n ∧ qi w 115 12 = nI n ∧ (∀ f, f < n → KX w (76 + 4 * f) (kk f) ∧ KM w f (kk f) ∧ KMB w f (kk f)) ∧ KX w 1 []
def IMG (n : Nat) (w : qW) : Prop := PX 40 w = PI w ∧ okR 9999 9999 (PI w) ∧ RWs w 31 55 56 57 150 (cN (PI w)) ∧ TH (qi w 115 50) n
def TXT (w : qW) : Prop := ∃ m, m ≤ 100 ∧ qi w 73 1 = nI m ∧ qi w 115 14 = nI m ∧ ∀ j, j < 100 → qi w 74 j = qi w 123 j ∧ rg (qi w 74 j) 127
def ACT (w : qW) : Prop := ∃ m, m ≤ 100000 ∧ qi w 100 1 = nI m ∧ qi w 115 71 = nI m ∧ ∀ j, j < 20 → qi w 101 j = qi w 156 j
def TAP (w : qW) : Prop := ∀ t, t < 6 → qi w (103 + 2 * t) 0 = qi w 157 t ∧ qi w (103 + 2 * t) 1 = qi w 158 t ∧ (∀ j, j < 60 → ql w (104 + 2 * t) j = ql w 159 (60 * t + j)) ∧ ((qi w 157 t = -1 ∧ qi w 158 t = 0) ∨ (rg (qi w 157 t) 4 ∧ rg (qi w 158 t) 60))
def lets : List Int32 := [100, 97, 114, 107, 99, 108, 101, 97, 114, 110, 101, 101, 100]
def LET (w : qW) : Prop := ∀ j, j < 13 → qi w 131 j = lets.getD j 0
def J (kk : Nat → List Cl) (n : Nat) (w : qW) : Prop :=
  (PX 15 w = PM w ∧ okR 9999 9999 (PM w) ∧ NUM 40 w ∧ NUM 58 w) ∧ RWs w 6 39 42 43 137 (cN (PM w)) ∧ (qz (qi w 0 2) = qz (qi w 115 48) ∧ (¬ qz (qi w 115 48) = 0 → IMG n w)) ∧ TXT w ∧ (KJ kk n w ∧ TH (qi w 115 13) n) ∧ ACT w ∧ TAP w ∧ qi w 115 30 = 9999 ∧ LET w
def I (_ : qE) (w : qW) : Prop := ∃ kk n, J kk n w
def kc (kk : Nat → List Cl) (w : qW) : List Cl := kOf kk (qi w 115 13)
theorem KJ.fr {kk : Nat → List Cl} {n : Nat} {w w1 : qW} (h : KJ kk n w) (g : ∀ k j, (k = 0 ∧ j = 6) ∨ (k = 115 ∧ j = 12) ∨ (1 ≤ k ∧ k ≤ 4) ∨ (76 ≤ k ∧ k ≤ 99) ∨ (124 ≤ k ∧ k ≤ 129) → qi w1 k j = qi w k j) : KJ kk n w1 := by
  obtain ⟨h1, h2, h3, h4, h5⟩ := h
  refine ⟨h1, by rw [g _ _ (by omega)]; exact h2, by rw [g _ _ (by omega)]; exact h3, fun f hf => ⟨?_, ?_, ?_⟩, h5.fr (fun a j _ _ => g _ _ (by omega))⟩
  · exact (h4 f hf).1.fr (fun a j _ _ => g _ _ (by omega))
  · exact (h4 f hf).2.1.fr (fun a j _ _ => g _ _ (by omega))
  · exact (h4 f hf).2.2.fr (fun a j _ _ => g _ _ (by omega))
theorem IMG.fr {n m : Nat} {w w1 : qW} (h : IMG n w) (hn : n ≤ m) (g : ∀ k j, (31 ≤ k ∧ k ≤ 54 ∧ k ≠ 42) ∨ (k = 115 ∧ 49 ≤ j ∧ j ≤ 57) ∨ (143 ≤ k ∧ k ≤ 155) → qi w1 k j = qi w k j) (hr : qr w1 40 6 = qr w 40 6) : IMG m w1 := by
  obtain ⟨h1, h2, h3, h4⟩ := h
  have e : PI w1 = PI w := PI_e (fun k j q => g k j (by omega))
  refine ⟨by rw [e, ← h1]; exact PX_ext (fun k j a b c => g k j (by omega)) hr, by rw [e]; exact h2, ?_, ?_⟩
  · rw [e]
    exact h3.fr (Nat.le_refl _) (fun k j q => g k j (by omega))
  · rw [g 115 50 (by omega)]
    rcases h4 with h4 | ⟨f, f1, f2⟩
    · exact Or.inl h4
    · exact Or.inr ⟨f, by omega, f2⟩
theorem TXT.fr {w w1 : qW} (h : TXT w) (g : ∀ k j, (k = 73 ∧ j = 1) ∨ (k = 115 ∧ j = 14) ∨ k = 74 ∨ k = 123 → qi w1 k j = qi w k j) : TXT w1 := by
  obtain ⟨m, h1, h2, h3, h4⟩ := h
  refine ⟨m, h1, by rw [g _ _ (by omega)]; exact h2, by rw [g _ _ (by omega)]; exact h3, fun j hj => ?_⟩
  rw [g 74 j (by omega), g 123 j (by omega)]
  exact h4 j hj
theorem ACT.fr {w w1 : qW} (h : ACT w) (g : ∀ k j, (k = 100 ∧ j = 1) ∨ (k = 115 ∧ j = 71) ∨ k = 101 ∨ k = 156 → qi w1 k j = qi w k j) : ACT w1 := by
  obtain ⟨m, h1, h2, h3, h4⟩ := h
  refine ⟨m, h1, by rw [g _ _ (by omega)]; exact h2, by rw [g _ _ (by omega)]; exact h3, fun j hj => ?_⟩
  rw [g 101 j (by omega), g 156 j (by omega)]
  exact h4 j hj
theorem TAP.fr {w w1 : qW} (h : TAP w) (g : ∀ k j, (103 ≤ k ∧ k ≤ 114) ∨ (157 ≤ k ∧ k ≤ 159) → qi w1 k j = qi w k j ∧ ql w1 k j = ql w k j) : TAP w1 := by
  intro t ht
  obtain ⟨h1, h2, h3, h4⟩ := h t ht
  refine ⟨?_, ?_, fun j hj => ?_, ?_⟩
  · rw [(g _ _ (by omega)).1, (g 157 _ (by omega)).1]; exact h1
  · rw [(g _ _ (by omega)).1, (g 158 _ (by omega)).1]; exact h2
  · rw [(g _ _ (by omega)).2, (g 159 _ (by omega)).2]; exact h3 j hj
  · rw [(g 157 _ (by omega)).1, (g 158 _ (by omega)).1]; exact h4
theorem LET.fr {w w1 : qW} (h : LET w) (g : ∀ j, qi w1 131 j = qi w 131 j) : LET w1 := fun j hj => by rw [g]; exact h j hj
variable {kk : Nat → List Cl} {n : Nat} {w w1 : qW}
/-- cells that askings touch -/
def jAll (k j : Nat) : Prop := jBs k j ∨ jZm k j ∨ k = 17
theorem J.ask (h : J kk n w) (hf : Fr jAll w w1) (e1 : PX 15 w1 = PX 15 w) (e2 : PM w1 = PM w) (hn : NUM 58 w1) (e3 : qi w1 115 30 = 9999) : J kk n w1 := by
  have g : ∀ k j, ¬ jAll k j → qi w1 k j = qi w k j := fun k j q => (hf k j q).1
  obtain ⟨⟨a1, a2, a3, a4⟩, b, ⟨c1, c2⟩, t, ⟨k1, k2⟩, ac, tp, -, le⟩ := h
  refine ⟨⟨by rw [e1, e2]; exact a1, by rw [e2]; exact a2, fun i hi => (g _ _ (by unfold jAll jBs jZm jAm; omega)).trans (a3 i hi), hn⟩, ?_, ⟨?_, fun z => ?_⟩, ?_, ⟨?_, ?_⟩, ?_, ?_, e3, ?_⟩
  · rw [e2]
    exact b.fr (Nat.le_refl _) (fun k j q => g k j (by unfold jAll jBs jZm jAm; omega))
  · rw [g 0 2 (by unfold jAll jBs jZm jAm; omega), g 115 48 (by unfold jAll jBs jZm jAm; omega)]
    exact c1
  · rw [g 115 48 (by unfold jAll jBs jZm jAm; omega)] at z
    exact (c2 z).fr (Nat.le_refl _) (fun k j q => g k j (by unfold jAll jBs jZm jAm; omega)) (hf 40 6 (by unfold jAll jBs jZm jAm; omega)).2.2
  · exact t.fr (fun k j q => g k j (by unfold jAll jBs jZm jAm; omega))
  · exact k1.fr (fun k j q => g k j (by unfold jAll jBs jZm jAm; omega))
  · rw [g 115 13 (by unfold jAll jBs jZm jAm; omega)]
    exact k2
  · exact ac.fr (fun k j q => g k j (by unfold jAll jBs jZm jAm; omega))
  · exact tp.fr (fun k j q => ⟨g k j (by unfold jAll jBs jZm jAm; omega), (hf k j (by unfold jAll jBs jZm jAm; omega)).2.1⟩)
  · exact le.fr (fun j => g 131 j (by unfold jAll jBs jZm jAm; omega))
/-- cells of the two pans -/
def jPan (k j : Nat) : Prop := (15 ≤ k ∧ k ≤ 29) ∨ (k = 115 ∧ j ≤ 4) ∨ (116 ≤ k ∧ k ≤ 122) ∨ k = 132
theorem J.pan (h : J kk n w) (hf : Fr jPan w w1) (e : PX 15 w1 = PM w1) (ho : okR 9999 9999 (PM w1)) (hc : cN (PM w) ≤ cN (PM w1)) : J kk n w1 := by
  have g : ∀ k j, ¬ jPan k j → qi w1 k j = qi w k j := fun k j q => (hf k j q).1
  obtain ⟨⟨a1, a2, a3, a4⟩, b, ⟨c1, c2⟩, t, ⟨k1, k2⟩, ac, tp, e3, le⟩ := h
  refine ⟨⟨e, ho, fun i hi => (g _ _ (by unfold jPan; omega)).trans (a3 i hi), fun i hi => (g _ _ (by unfold jPan; omega)).trans (a4 i hi)⟩, ?_, ⟨?_, fun z => ?_⟩, ?_, ⟨?_, ?_⟩, ?_, ?_, ?_, ?_⟩
  · exact b.fr hc (fun k j q => g k j (by unfold jPan; omega))
  · rw [g 0 2 (by unfold jPan; omega), g 115 48 (by unfold jPan; omega)]
    exact c1
  · rw [g 115 48 (by unfold jPan; omega)] at z
    exact (c2 z).fr (Nat.le_refl _) (fun k j q => g k j (by unfold jPan; omega)) (hf 40 6 (by unfold jPan; omega)).2.2
  · exact t.fr (fun k j q => g k j (by unfold jPan; omega))
  · exact k1.fr (fun k j q => g k j (by unfold jPan; omega))
  · rw [g 115 13 (by unfold jPan; omega)]
    exact k2
  · exact ac.fr (fun k j q => g k j (by unfold jPan; omega))
  · exact tp.fr (fun k j q => ⟨g k j (by unfold jPan; omega), (hf k j (by unfold jPan; omega)).2.1⟩)
  · rw [g 115 30 (by unfold jPan; omega)]
    exact e3
  · exact le.fr (fun j => g 131 j (by unfold jPan; omega))
theorem J.kcs (h : J kk n w) : KC w (kc kk w) ∧ ∃ K, KX w K (kc kk w) ∧ qr w 15 6 = K + 1 := by
  obtain ⟨⟨a1, a2, a3, a4⟩, -, -, -, ⟨⟨k1, k2, k3, k4, k5⟩, k6⟩, -⟩ := h
  have e : qr w 15 6 = pr (PM w) := by rw [← a1]; rfl
  have e' : pr (PM w) = if qi w 115 13 < 0 then 2 else 77 + 4 * (qi w 115 13).toNatClampNeg := rfl
  unfold kc kOf
  rcases k6 with k6 | ⟨f, f1, f2⟩
  · rw [k6] at e' ⊢
    refine ⟨Or.inl ⟨k6, rfl⟩, 1, k5, e.trans (e'.trans rfl)⟩
  · rw [f2] at e' ⊢
    rw [if_neg (nI_pos (by omega)), ncl (by omega)] at e' ⊢
    refine ⟨Or.inr ⟨f, f2, (k4 f f1).2.1⟩, 76 + 4 * f, (k4 f f1).1, ?_⟩
    rw [e, e']
    omega
theorem J.xc (h : J kk n w) : XC (kc kk w) w := ⟨by rw [h.1.1]; exact h.1.2.1, h.1.2.2.2, h.kcs.2⟩
theorem J.mc (h : J kk n w) : MC (kc kk w) w := ⟨h.1.2.1, h.kcs.1, h.2.2.2.2.2.2.2.1⟩
theorem J.ya {k : List Cl} (h : J kk n w) (h1 : YA k w w1) : J kk n w1 ∧ PM w1 = PX 15 w ∧ MC (kc kk w) w1 := by
  have g : ∀ k j, ¬ jBs k j → qi w1 k j = qi w k j := fun k j q => (h1.2.1 k j q).1
  have e : PM w1 = PM w := PM_e (fun j hj => g _ _ (by unfold jBs; omega)) (fun k j a b => g _ _ (by unfold jBs; omega))
  have hJ : J kk n w1 := h.ask (h1.2.1.mono (fun _ _ q => Or.inl q)) h1.2.2.2 e h1.2.2.1.2.1 ((g _ _ (by unfold jBs; omega)).trans h.2.2.2.2.2.2.2.1)
  refine ⟨hJ, by rw [e, ← h.1.1], ?_⟩
  have : kc kk w1 = kc kk w := by unfold kc; rw [g 115 13 (by unfold jBs; omega)]
  rw [← this]
  exact hJ.mc
theorem J.za {k : List Cl} (h : J kk n w) (h1 : ZA k w w1) : J kk n w1 := by
  have g : ∀ k j, ¬ jZm k j → qi w1 k j = qi w k j := fun k j q => (h1.2.1 k j q).1
  have e : PX 15 w1 = PX 15 w := PX_ext (fun k j a b c => g _ _ (by unfold jZm jAm; omega)) (h1.2.1 15 6 (by unfold jZm jAm; omega)).2.2
  exact h.ask (h1.2.1.mono (fun _ _ q => Or.inr (Or.inl q))) e h1.2.2.2 (fun i hi => (g _ _ (by unfold jZm jAm; omega)).trans (h.1.2.2.2 i hi)) h1.2.2.1.2.2
theorem kc_ya {k : List Cl} (h1 : YA k w w1) : kc kk w1 = kc kk w := by
  unfold kc
  rw [(h1.2.1 115 13 (by unfold jBs; omega)).1]
end IV
