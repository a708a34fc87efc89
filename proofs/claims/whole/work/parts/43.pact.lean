/-! the pairs: acts -/
section PA
variable {d : Nat} {E : qE} {w w0 w1 w2 : qW} {kk : Nat → List Cl} {n : Nat}
abbrev Sx : Type := Nat × (Nat → Int32)
def pu (s : Sx) (c : Int32) : Sx := (s.1 + 1, fun j => if j = s.1 then c else s.2 j)
def pS : List Int32 → Sx → Sx
  | [], s => s
  | c :: l, s => pS l (pu s c)
theorem pS_app (a b : List Int32) : ∀ (s : Sx), pS (a ++ b) s = pS b (pS a s) := by
  induction a with
  | nil => intro s; rfl
  | cons c a ih => intro s; exact ih (pu s c)
theorem pS_1 (a : List Int32) : ∀ (s : Sx), (pS a s).1 = s.1 + a.length := by
  induction a with
  | nil => intro s; rfl
  | cons c a ih =>
    intro s
    show (pS a (pu s c)).1 = s.1 + (a.length + 1)
    rw [ih]
    show s.1 + 1 + a.length = s.1 + (a.length + 1)
    omega
def XS (w0 : qW) (s : Sx) (w : qW) : Prop := Sh w ∧ Fr (fun k j => (k = 100 ∧ j = 1) ∨ k = 101) w0 w ∧ qi w 100 1 = nI s.1 ∧ ∀ j, j < 20 → qi w 101 j = s.2 j
def MS (w0 : qW) (s : Sx) (w : qW) : Prop := Sh w ∧ Fr (fun k j => (k = 115 ∧ j = 71) ∨ k = 156) w0 w ∧ qi w 115 71 = nI s.1 ∧ ∀ j, j < 20 → qi w 156 j = s.2 j
abbrev Rx : Type := List Int32 × Int32
def D0 (i : Nat) (x : Int32) : Rx := ([10], x + nI i)
def DR (k i : Nat) (v x : Int32) : Rx := if k = 2 ∨ k = 5 then (30 :: (D0 i (x * 3)).1, (D0 i (x * 3)).2) else if k = 4 then (50 :: (D0 i x).1, -(D0 i x).2) else if k = 6 then (71 :: (D0 i x).1, (D0 i x).2 ^^^ v) else D0 i x
def RT (k i : Nat) (v x : Int32) : Rx := (11 :: (DR k i v x).1, (DR k i v x).2 - v)
def RG (k i : Nat) (v x : Int32) : Rx := (20 :: (RT k i v x).1, (RT k i v x).2 ^^^ 6)
def RD (k i : Nat) (v x : Int32) : Rx := if k = 1 then RG k i v x else if k = 4 then (51 :: (RG k i v (x + 1)).1, (RG k i v (x + 1)).2) else if k = 6 then (70 :: ((RT k i v x).1 ++ (D0 i 2).1), (RT k i v x).2 + (D0 i 2).2) else RT k i v x
def TT (k i : Nat) (v x : Int32) : Rx := (12 :: (RD k i v x).1, (RD k i v x).2 * 2)
def TL (k i : Nat) (v x : Int32) : Rx := if k = 3 ∨ k = 6 then (40 :: ((TT k i v x).1 ++ (RD k i v 1).1), (TT k i v x).2 + (RD k i v 1).2) else if k = 5 then (60 :: (TT k i v (x - nI i)).1, (TT k i v (x - nI i)).2) else TT k i v x
theorem DR_l (k i : Nat) (v x : Int32) : (DR k i v x).1.length ≤ 2 := by
  unfold DR
  split
  · exact Nat.le_refl _
  split
  · exact Nat.le_refl _
  split
  · exact Nat.le_refl _
  · exact Nat.le_succ _
theorem RT_l (k i : Nat) (v x : Int32) : (RT k i v x).1.length ≤ 3 := Nat.succ_le_succ (DR_l k i v x)
theorem RG_l (k i : Nat) (v x : Int32) : (RG k i v x).1.length ≤ 4 := Nat.succ_le_succ (RT_l k i v x)
theorem RD_l (k i : Nat) (v x : Int32) : (RD k i v x).1.length ≤ 5 := by
  have h1 := RT_l k i v x
  have h2 := RG_l k i v x
  have h3 := RG_l k i v (x + 1)
  unfold RD
  split
  · omega
  split
  · show (RG k i v (x + 1)).1.length + 1 ≤ 5
    omega
  split
  · show ((RT k i v x).1 ++ (D0 i 2).1).length + 1 ≤ 5
    rw [List.length_append]
    show (RT k i v x).1.length + 1 + 1 ≤ 5
    omega
  · omega
theorem TT_l (k i : Nat) (v x : Int32) : (TT k i v x).1.length ≤ 6 := Nat.succ_le_succ (RD_l k i v x)
theorem TL_l (k i : Nat) (v x : Int32) : (TL k i v x).1.length ≤ 20 := by
  have h1 := TT_l k i v x
  have h2 := RD_l k i v 1
  have h3 := TT_l k i v (x - nI i)
  unfold TL
  split
  · show ((TT k i v x).1 ++ (RD k i v 1).1).length + 1 ≤ 20
    rw [List.length_append]
    omega
  split
  · show (TT k i v (x - nI i)).1.length + 1 ≤ 20
    omega
  · omega
/-- which body -/
def par (k : Nat) : Nat := if k ≤ 3 then 0 else k - 3
def bo : Nat → Nat → Nat → Int32 × Int32
  | 0, _, _ => (0, 0)
  | f + 1, k, a => if qBodies (k * 3 + a) = 0 then bo f (par k) a else (qBodies (k * 3 + a), qAbove k)
theorem bo0 : ∀ a, a < 3 → ¬ qBodies (0 * 3 + a) = 0 := by decide +kernel
theorem ab1 : ∀ k, k < 7 → 0 < k → qAbove k = nI (par k) := by decide +kernel
theorem h_from {Q : qW → Int32 → Prop} {a δ : Nat} {x : Int32} (hw : Sh w) (ha : a < 3) :
    ∀ (f s k : Nat), s + f ≤ 6 → k < 7 → ((k = 0 ∧ 1 ≤ f) ∨ (k ≤ 3 ∧ 2 ≤ f) ∨ 3 ≤ f) → CaI d M_Ac_body [.ref (qb E + 100), .int (bo f k a).1, .int (bo f k a).2, .int x, .int (nI (δ + 1))] E w Q → c_Ac_from_24 d E Q (nI a) x (nI δ) (nI k) (nI s) w := by
  intro f
  induction f with
  | zero => intro s k _ _ h; omega
  | succ f ih =>
    intro s k hs hk hf hQ
    have e3 : nI k * 3 + nI a = nI (k * 3 + a) := by rw [show (3 : Int32) = nI 3 from rfl, pk_mul, nI_add]
    have hi : vp_in (nI k) 7 := nvp hk (by omega)
    have hi2 : vp_in (nI (k * 3 + a)) 21 := nvp (by omega) (by omega)
    refine s_Ac_from_24 hw ⟨fun z => absurd z (by rw [show (7 : Int32) = nI 7 from rfl, nle (by omega) (by omega)]; omega), fun _ => ⟨fun z => absurd z (nI_pos (by omega)), fun _ => ⟨fun z => absurd z (by rw [show (7 : Int32) = nI 7 from rfl, nle (by omega) (by omega)]; omega), fun _ => ?_⟩⟩⟩
    rw [e3, ncl (a := k) (by omega), ncl (a := k * 3 + a) (by omega), n1, n1]
    refine ⟨fun z => absurd z (by rw [show (21 : Int32) = nI 21 from rfl, nle (by omega) (by omega)]; omega), fun _ => ⟨hi2, fun z => ⟨hi, ?_⟩, fun z => ⟨hi2, hi, ?_⟩⟩⟩
    · have e : bo (f + 1) k a = bo f (par k) a := if_pos z
      rw [e] at hQ
      have k0 : 0 < k := by
        rcases Nat.eq_zero_or_pos k with q | q
        · rw [q] at z
          exact absurd z (bo0 a ha)
        · exact q
      rw [ab1 k hk k0]
      exact ih (s + 1) (par k) (by omega) (by unfold par; split <;> omega) (by unfold par; split <;> omega) hQ
    · have e : bo (f + 1) k a = (qBodies (k * 3 + a), qAbove k) := if_neg z
      rw [e] at hQ
      exact hQ
theorem p_from {Q : qW → Int32 → Prop} {k a δ : Nat} {x c al : Int32} (hw : Sh w) (hk : k < 7) (ha : a < 3) (hd : δ < 20) (e : bo 3 k a = (c, al)) (h : CaI d M_Ac_body [.ref (qb E + 100), .int c, .int al, .int x, .int (nI (δ + 1))] E w Q) : CaI (d + 1) M_Ac_from [.ref (qb E + 100), .int (nI k), .int (nI a), .int x, .int (nI δ)] E w Q := by
  refine en_Ac_from hw (s_Ac_from_0 hw ⟨fun z => absurd z (by rw [show (20 : Int32) = nI 20 from rfl, nle (by omega) (by omega)]; omega), fun _ => ⟨fun z => absurd z (nI_pos (by omega)), fun _ => ⟨fun _ => h_from hw ha 3 0 k (by omega) hk (by omega) (by rw [e]; exact h), fun z => absurd ?_ z⟩⟩⟩)
  rw [show (3 : Int32) = nI 3 from rfl, nlt (by omega) (by omega)]
  exact ha
theorem p_body {Q : qW → Int32 → Prop} {s : Sx} {c al x y : Int32} (h : XS w0 s w) (hs : s.1 ≤ 1000) (hQ : ∀ w1, XS w0 (pu s c) w1 → c_Ac_body_36 d E Q c al x y w1) : CaI (d + 1) M_Ac_body [.ref (qb E + 100), .int c, .int al, .int x, .int y] E w Q := by
  obtain ⟨hw, hf, h1, h2⟩ := h
  refine en_Ac_body hw (s_Ac_body_0 hw ?_)
  rw [h1]
  refine ⟨fun z => absurd z (nI_pos (by omega)), fun _ => pk_le 20 s.1 (fun z => ?_) (fun z => ⟨nvp z (by omega), ?_⟩)⟩
  · rw [n1]
    refine hQ _ ⟨hw, hf.pi (Or.inl ⟨rfl, rfl⟩), qi_eq rfl rfl, fun j hj => ?_⟩
    rw [qi_k (by omega), h2 j hj]
    exact (if_neg (by omega)).symm
  · rw [ncl (by omega), qi_k (a := 100) (by omega), h1, n1]
    refine hQ _ ⟨hw, (hf.pi (Or.inr rfl)).pi (Or.inl ⟨rfl, rfl⟩), qi_eq rfl rfl, fun j hj => ?_⟩
    rw [qi_k (by omega), qi_sel, h2 j hj]
    rfl
theorem m_body {Q : qW → Prop} {s : Sx} {c : Int32} (h : MS w0 s w) (hs : s.1 ≤ 1000) (hQ : ∀ w1, MS w0 (pu s c) w1 → Q w1) : CaV d M_Mo_body [.ref (qb E + 115), .int c] E w Q := by
  obtain ⟨hw, hf, h1, h2⟩ := h
  refine en_Mo_body hw (s_Mo_body_0 hw ?_)
  rw [h1]
  refine pk_le 20 s.1 (fun z => ?_) (fun z => ⟨nvp z (by omega), ?_⟩)
  · rw [n1]
    refine hQ _ ⟨hw, hf.pi (Or.inl ⟨rfl, rfl⟩), qi_eq rfl rfl, fun j hj => ?_⟩
    rw [qi_k (by omega), h2 j hj]
    exact (if_neg (by omega)).symm
  · rw [ncl (by omega), qi_k (a := 115) (by omega), h1, n1]
    refine hQ _ ⟨hw, (hf.pi (Or.inr rfl)).pi (Or.inl ⟨rfl, rfl⟩), qi_eq rfl rfl, fun j hj => ?_⟩
    rw [qi_k (by omega), qi_sel, h2 j hj]
    rfl
/-- what an act calls for -/
def XF (d : Nat) (E : qE) (w0 : qW) (k a : Nat) (x : Int32) (D N : Nat) (r : Rx) : Prop := ∀ (Q : qW → Int32 → Prop) (s : Sx) (w : qW) (δ : Nat), s.1 ≤ N → δ < D → XS w0 s w → (∀ w1, XS w0 (pS r.1 s) w1 → Q w1 r.2) → CaI d M_Ac_from [.ref (qb E + 100), .int (nI k), .int (nI a), .int x, .int (nI δ)] E w Q
theorem XS.g2 {s : Sx} {j : Nat} (h : XS w0 s w) (hj : j ≠ 1) : qi w 100 j = qi w0 100 j := (h.2.1 100 j (by omega)).1
theorem MS.g {s : Sx} {k j : Nat} (h : MS w0 s w) (hk : k < 115 ∨ (115 < k ∧ k ≠ 156)) : qi w k j = qi w0 k j := (h.2.1 k j (by omega)).1
variable {κ i : Nat} {v x : Int32}
theorem xD0 (hi : qi w0 100 3 = nI i) (d : Nat) (k : Nat) (hk : k = 0 ∨ k = 1 ∨ k = 3) (x : Int32) : XF (d + 2) E w0 k 0 x 20 900 (D0 i x) := by
  intro Q s w δ hs hd h hQ
  have e : ∃ al, bo 3 k 0 = (10, al) := by
    rcases hk with rfl | rfl | rfl
    · exact ⟨_, (by decide +kernel : bo 3 0 0 = (10, -1))⟩
    · exact ⟨_, (by decide +kernel : bo 3 1 0 = (10, -1))⟩
    · exact ⟨_, (by decide +kernel : bo 3 3 0 = (10, -1))⟩
  obtain ⟨al, e⟩ := e
  refine p_from h.1 (by omega) (by omega) hd e (p_body h (by omega) (fun w1 h1 => s_Ac_body_36 h1.1 ⟨fun _ => ?_, fun z => absurd z (by decide), fun z => absurd z (by decide), fun z => absurd z (by decide), fun z => absurd z (by decide), fun z => absurd z (by decide), fun z => absurd z (by decide), fun z => absurd z (by decide), fun z => absurd z (by decide), fun z => absurd z (by decide), fun z => absurd z (by decide), fun h10 h11 h12 h20 h30 h40 h50 h51 h60 h70 h71 => absurd rfl h10⟩))
  rw [h1.g2 (by omega), hi]
  exact hQ w1 h1
theorem xDR (hi : qi w0 100 3 = nI i) (hv : qi w0 100 4 = v) (hκ : κ < 7) (d : Nat) (x : Int32) : XF (d + 4) E w0 κ 0 x 19 890 (DR κ i v x) := by
  intro Q s w δ hs hd h hQ
  rcases (show κ = 0 ∨ κ = 1 ∨ κ = 2 ∨ κ = 3 ∨ κ = 4 ∨ κ = 5 ∨ κ = 6 by omega) with rfl | rfl | rfl | rfl | rfl | rfl | rfl
  · exact xD0 hi (d + 2) 0 (by omega) x Q s w δ (by omega) (by omega) h hQ
  · exact xD0 hi (d + 2) 1 (by omega) x Q s w δ (by omega) (by omega) h hQ
  · refine p_from (k := 2) (a := 0) h.1 (by omega) (by omega) (by omega) (by decide +kernel : bo 3 2 0 = (30, 0)) (p_body h (by omega) (fun w1 h1 => s_Ac_body_36 h1.1 ⟨fun z => absurd z (by decide), fun z => absurd z (by decide), fun z => absurd z (by decide), fun z => absurd z (by decide), fun _ => ?_, fun z => absurd z (by decide), fun z => absurd z (by decide), fun z => absurd z (by decide), fun z => absurd z (by decide), fun z => absurd z (by decide), fun z => absurd z (by decide), fun h10 h11 h12 h20 h30 h40 h50 h51 h60 h70 h71 => absurd rfl h30⟩))
    exact xD0 hi (d + 0) 0 (by omega) (x * 3) _ _ w1 (δ + 1) (Nat.le_trans (show (pu s _).1 ≤ s.1 + 1 from Nat.le_refl _) (by omega)) (by omega) h1 (fun w2 h2 => hQ w2 h2)
  · exact xD0 hi (d + 2) 3 (by omega) x Q s w δ (by omega) (by omega) h hQ
  · refine p_from (k := 4) (a := 0) h.1 (by omega) (by omega) (by omega) (by decide +kernel : bo 3 4 0 = (50, 1)) (p_body h (by omega) (fun w1 h1 => s_Ac_body_36 h1.1 ⟨fun z => absurd z (by decide), fun z => absurd z (by decide), fun z => absurd z (by decide), fun z => absurd z (by decide), fun z => absurd z (by decide), fun z => absurd z (by decide), fun _ => ?_, fun z => absurd z (by decide), fun z => absurd z (by decide), fun z => absurd z (by decide), fun z => absurd z (by decide), fun h10 h11 h12 h20 h30 h40 h50 h51 h60 h70 h71 => absurd rfl h50⟩))
    exact xD0 hi (d + 0) 1 (by omega) x _ _ w1 (δ + 1) (Nat.le_trans (show (pu s _).1 ≤ s.1 + 1 from Nat.le_refl _) (by omega)) (by omega) h1 (fun w2 h2 => hQ w2 h2)
  · refine p_from (k := 5) (a := 0) h.1 (by omega) (by omega) (by omega) (by decide +kernel : bo 3 5 0 = (30, 0)) (p_body h (by omega) (fun w1 h1 => s_Ac_body_36 h1.1 ⟨fun z => absurd z (by decide), fun z => absurd z (by decide), fun z => absurd z (by decide), fun z => absurd z (by decide), fun _ => ?_, fun z => absurd z (by decide), fun z => absurd z (by decide), fun z => absurd z (by decide), fun z => absurd z (by decide), fun z => absurd z (by decide), fun z => absurd z (by decide), fun h10 h11 h12 h20 h30 h40 h50 h51 h60 h70 h71 => absurd rfl h30⟩))
    exact xD0 hi (d + 0) 0 (by omega) (x * 3) _ _ w1 (δ + 1) (Nat.le_trans (show (pu s _).1 ≤ s.1 + 1 from Nat.le_refl _) (by omega)) (by omega) h1 (fun w2 h2 => hQ w2 h2)
  · refine p_from (k := 6) (a := 0) h.1 (by omega) (by omega) (by omega) (by decide +kernel : bo 3 6 0 = (71, 3)) (p_body h (by omega) (fun w1 h1 => s_Ac_body_36 h1.1 ⟨fun z => absurd z (by decide), fun z => absurd z (by decide), fun z => absurd z (by decide), fun z => absurd z (by decide), fun z => absurd z (by decide), fun z => absurd z (by decide), fun z => absurd z (by decide), fun z => absurd z (by decide), fun z => absurd z (by decide), fun z => absurd z (by decide), fun _ => ?_, fun h10 h11 h12 h20 h30 h40 h50 h51 h60 h70 h71 => absurd rfl h71⟩))
    exact xD0 hi (d + 0) 3 (by omega) x _ _ w1 (δ + 1) (Nat.le_trans (show (pu s _).1 ≤ s.1 + 1 from Nat.le_refl _) (by omega)) (by omega) h1 (fun w2 h2 => (by rw [h2.g2 (by omega), hv]; exact hQ w2 h2))
theorem xRT (hi : qi w0 100 3 = nI i) (hv : qi w0 100 4 = v) (hc : qi w0 100 2 = nI κ) (hκ : κ < 7) (d : Nat) (k : Nat) (hk : k = 0 ∨ k = 2 ∨ k = 3 ∨ k = 5) (x : Int32) : XF (d + 6) E w0 k 1 x 18 880 (RT κ i v x) := by
  intro Q s w δ hs hd h hQ
  have e : ∃ al, bo 3 k 1 = (11, al) := by
    rcases hk with rfl | rfl | rfl | rfl
    · exact ⟨_, (by decide +kernel : bo 3 0 1 = (11, -1))⟩
    · exact ⟨_, (by decide +kernel : bo 3 2 1 = (11, -1))⟩
    · exact ⟨_, (by decide +kernel : bo 3 3 1 = (11, -1))⟩
    · exact ⟨_, (by decide +kernel : bo 3 5 1 = (11, -1))⟩
  obtain ⟨al, e⟩ := e
  refine p_from h.1 (by omega) (by omega) (by omega) e (p_body h (by omega) (fun w1 h1 => s_Ac_body_36 h1.1 ⟨fun z => absurd z (by decide), fun _ => ?_, fun z => absurd z (by decide), fun z => absurd z (by decide), fun z => absurd z (by decide), fun z => absurd z (by decide), fun z => absurd z (by decide), fun z => absurd z (by decide), fun z => absurd z (by decide), fun z => absurd z (by decide), fun z => absurd z (by decide), fun h10 h11 h12 h20 h30 h40 h50 h51 h60 h70 h71 => absurd rfl h11⟩))
  rw [h1.g2 (by omega), hc]
  exact xDR hi hv hκ (d + 0) x _ _ w1 (δ + 1) (Nat.le_trans (show (pu s _).1 ≤ s.1 + 1 from Nat.le_refl _) (by omega)) (by omega) h1 (fun w2 h2 => by rw [h2.g2 (by omega), hv]; exact hQ w2 h2)
theorem xRG (hi : qi w0 100 3 = nI i) (hv : qi w0 100 4 = v) (hc : qi w0 100 2 = nI κ) (hκ : κ < 7) (d : Nat) (x : Int32) : XF (d + 8) E w0 1 1 x 17 870 (RG κ i v x) := by
  intro Q s w δ hs hd h hQ
  refine p_from (k := 1) (a := 1) h.1 (by omega) (by omega) (by omega) (by decide +kernel : bo 3 1 1 = (20, 0)) (p_body h (by omega) (fun w1 h1 => s_Ac_body_36 h1.1 ⟨fun z => absurd z (by decide), fun z => absurd z (by decide), fun z => absurd z (by decide), fun _ => ?_, fun z => absurd z (by decide), fun z => absurd z (by decide), fun z => absurd z (by decide), fun z => absurd z (by decide), fun z => absurd z (by decide), fun z => absurd z (by decide), fun z => absurd z (by decide), fun h10 h11 h12 h20 h30 h40 h50 h51 h60 h70 h71 => absurd rfl h20⟩))
  exact xRT hi hv hc hκ (d + 0) 0 (by omega) x _ _ w1 (δ + 1) (Nat.le_trans (show (pu s _).1 ≤ s.1 + 1 from Nat.le_refl _) (by omega)) (by omega) h1 (fun w2 h2 => hQ w2 h2)
theorem xRD (hi : qi w0 100 3 = nI i) (hv : qi w0 100 4 = v) (hc : qi w0 100 2 = nI κ) (hκ : κ < 7) (d : Nat) (x : Int32) : XF (d + 10) E w0 κ 1 x 16 860 (RD κ i v x) := by
  intro Q s w δ hs hd h hQ
  rcases (show κ = 0 ∨ κ = 1 ∨ κ = 2 ∨ κ = 3 ∨ κ = 4 ∨ κ = 5 ∨ κ = 6 by omega) with rfl | rfl | rfl | rfl | rfl | rfl | rfl
  · exact xRT hi hv hc hκ (d + 4) 0 (by omega) x Q s w δ (by omega) (by omega) h hQ
  · exact xRG hi hv hc hκ (d + 2) x Q s w δ (by omega) (by omega) h hQ
  · exact xRT hi hv hc hκ (d + 4) 2 (by omega) x Q s w δ (by omega) (by omega) h hQ
  · exact xRT hi hv hc hκ (d + 4) 3 (by omega) x Q s w δ (by omega) (by omega) h hQ
  · refine p_from (k := 4) (a := 1) h.1 (by omega) (by omega) (by omega) (by decide +kernel : bo 3 4 1 = (51, 1)) (p_body h (by omega) (fun w1 h1 => s_Ac_body_36 h1.1 ⟨fun z => absurd z (by decide), fun z => absurd z (by decide), fun z => absurd z (by decide), fun z => absurd z (by decide), fun z => absurd z (by decide), fun z => absurd z (by decide), fun z => absurd z (by decide), fun _ => ?_, fun z => absurd z (by decide), fun z => absurd z (by decide), fun z => absurd z (by decide), fun h10 h11 h12 h20 h30 h40 h50 h51 h60 h70 h71 => absurd rfl h51⟩))
    exact xRG hi hv hc hκ (d + 0) (x + 1) _ _ w1 (δ + 1) (Nat.le_trans (show (pu s _).1 ≤ s.1 + 1 from Nat.le_refl _) (by omega)) (by omega) h1 (fun w2 h2 => hQ w2 h2)
  · exact xRT hi hv hc hκ (d + 4) 5 (by omega) x Q s w δ (by omega) (by omega) h hQ
  · refine p_from (k := 6) (a := 1) h.1 (by omega) (by omega) (by omega) (by decide +kernel : bo 3 6 1 = (70, 3)) (p_body h (by omega) (fun w1 h1 => s_Ac_body_36 h1.1 ⟨fun z => absurd z (by decide), fun z => absurd z (by decide), fun z => absurd z (by decide), fun z => absurd z (by decide), fun z => absurd z (by decide), fun z => absurd z (by decide), fun z => absurd z (by decide), fun z => absurd z (by decide), fun z => absurd z (by decide), fun _ => ?_, fun z => absurd z (by decide), fun h10 h11 h12 h20 h30 h40 h50 h51 h60 h70 h71 => absurd rfl h70⟩))
    have hl := RT_l 6 i v x
    refine xRT hi hv hc hκ (d + 2) 3 (by omega) x _ _ w1 (δ + 1) (Nat.le_trans (show (pu s _).1 ≤ s.1 + 1 from Nat.le_refl _) (by omega)) (by omega) h1 (fun w2 h2 => ?_)
    refine xD0 hi (d + 6) 3 (by omega) 2 _ _ w2 (δ + 1) (by rw [pS_1]; show s.1 + 1 + (RT 6 i v x).1.length ≤ 900; omega) (by omega) h2 (fun w3 h3 => hQ w3 ?_)
    rw [← pS_app] at h3
    exact h3
theorem xTT (hi : qi w0 100 3 = nI i) (hv : qi w0 100 4 = v) (hc : qi w0 100 2 = nI κ) (hκ : κ < 7) (d : Nat) (k : Nat) (hk : k = 0 ∨ k = 1 ∨ k = 2 ∨ k = 4) (x : Int32) : XF (d + 12) E w0 k 2 x 15 850 (TT κ i v x) := by
  intro Q s w δ hs hd h hQ
  have e : ∃ al, bo 3 k 2 = (12, al) := by
    rcases hk with rfl | rfl | rfl | rfl
    · exact ⟨_, (by decide +kernel : bo 3 0 2 = (12, -1))⟩
    · exact ⟨_, (by decide +kernel : bo 3 1 2 = (12, -1))⟩
    · exact ⟨_, (by decide +kernel : bo 3 2 2 = (12, -1))⟩
    · exact ⟨_, (by decide +kernel : bo 3 4 2 = (12, -1))⟩
  obtain ⟨al, e⟩ := e
  refine p_from h.1 (by omega) (by omega) (by omega) e (p_body h (by omega) (fun w1 h1 => s_Ac_body_36 h1.1 ⟨fun z => absurd z (by decide), fun z => absurd z (by decide), fun _ => ?_, fun z => absurd z (by decide), fun z => absurd z (by decide), fun z => absurd z (by decide), fun z => absurd z (by decide), fun z => absurd z (by decide), fun z => absurd z (by decide), fun z => absurd z (by decide), fun z => absurd z (by decide), fun h10 h11 h12 h20 h30 h40 h50 h51 h60 h70 h71 => absurd rfl h12⟩))
  rw [h1.g2 (by omega), hc]
  exact xRD hi hv hc hκ (d + 0) x _ _ w1 (δ + 1) (Nat.le_trans (show (pu s _).1 ≤ s.1 + 1 from Nat.le_refl _) (by omega)) (by omega) h1 (fun w2 h2 => hQ w2 h2)
theorem xTL (hi : qi w0 100 3 = nI i) (hv : qi w0 100 4 = v) (hc : qi w0 100 2 = nI κ) (hκ : κ < 7) (d : Nat) (x : Int32) : XF (d + 14) E w0 κ 2 x 14 800 (TL κ i v x) := by
  intro Q s w δ hs hd h hQ
  rcases (show κ = 0 ∨ κ = 1 ∨ κ = 2 ∨ κ = 3 ∨ κ = 4 ∨ κ = 5 ∨ κ = 6 by omega) with rfl | rfl | rfl | rfl | rfl | rfl | rfl
  · exact xTT hi hv hc hκ (d + 2) 0 (by omega) x Q s w δ (by omega) (by omega) h hQ
  · exact xTT hi hv hc hκ (d + 2) 1 (by omega) x Q s w δ (by omega) (by omega) h hQ
  · exact xTT hi hv hc hκ (d + 2) 2 (by omega) x Q s w δ (by omega) (by omega) h hQ
  · refine p_from (k := 3) (a := 2) h.1 (by omega) (by omega) (by omega) (by decide +kernel : bo 3 3 2 = (40, 0)) (p_body h (by omega) (fun w1 h1 => s_Ac_body_36 h1.1 ⟨fun z => absurd z (by decide), fun z => absurd z (by decide), fun z => absurd z (by decide), fun z => absurd z (by decide), fun z => absurd z (by decide), fun _ => ?_, fun z => absurd z (by decide), fun z => absurd z (by decide), fun z => absurd z (by decide), fun z => absurd z (by decide), fun z => absurd z (by decide), fun h10 h11 h12 h20 h30 h40 h50 h51 h60 h70 h71 => absurd rfl h40⟩))
    have hl := TT_l 3 i v x
    refine xTT hi hv hc hκ (d + 0) 0 (by omega) x _ _ w1 (δ + 1) (Nat.le_trans (show (pu s _).1 ≤ s.1 + 1 from Nat.le_refl _) (by omega)) (by omega) h1 (fun w2 h2 => ?_)
    rw [h2.g2 (by omega), hc]
    refine xRD hi hv hc hκ (d + 2) 1 _ _ w2 (δ + 1) (by rw [pS_1]; show s.1 + 1 + (TT 3 i v x).1.length ≤ 860; omega) (by omega) h2 (fun w3 h3 => hQ w3 ?_)
    rw [← pS_app] at h3
    exact h3
  · exact xTT hi hv hc hκ (d + 2) 4 (by omega) x Q s w δ (by omega) (by omega) h hQ
  · refine p_from (k := 5) (a := 2) h.1 (by omega) (by omega) (by omega) (by decide +kernel : bo 3 5 2 = (60, 2)) (p_body h (by omega) (fun w1 h1 => s_Ac_body_36 h1.1 ⟨fun z => absurd z (by decide), fun z => absurd z (by decide), fun z => absurd z (by decide), fun z => absurd z (by decide), fun z => absurd z (by decide), fun z => absurd z (by decide), fun z => absurd z (by decide), fun z => absurd z (by decide), fun _ => ?_, fun z => absurd z (by decide), fun z => absurd z (by decide), fun h10 h11 h12 h20 h30 h40 h50 h51 h60 h70 h71 => absurd rfl h60⟩))
    rw [h1.g2 (by omega), hi]
    exact xTT hi hv hc hκ (d + 0) 2 (by omega) (x - nI i) _ _ w1 (δ + 1) (Nat.le_trans (show (pu s _).1 ≤ s.1 + 1 from Nat.le_refl _) (by omega)) (by omega) h1 (fun w2 h2 => hQ w2 h2)
  · refine p_from (k := 6) (a := 2) h.1 (by omega) (by omega) (by omega) (by decide +kernel : bo 3 6 2 = (40, 0)) (p_body h (by omega) (fun w1 h1 => s_Ac_body_36 h1.1 ⟨fun z => absurd z (by decide), fun z => absurd z (by decide), fun z => absurd z (by decide), fun z => absurd z (by decide), fun z => absurd z (by decide), fun _ => ?_, fun z => absurd z (by decide), fun z => absurd z (by decide), fun z => absurd z (by decide), fun z => absurd z (by decide), fun z => absurd z (by decide), fun h10 h11 h12 h20 h30 h40 h50 h51 h60 h70 h71 => absurd rfl h40⟩))
    have hl := TT_l 6 i v x
    refine xTT hi hv hc hκ (d + 0) 0 (by omega) x _ _ w1 (δ + 1) (Nat.le_trans (show (pu s _).1 ≤ s.1 + 1 from Nat.le_refl _) (by omega)) (by omega) h1 (fun w2 h2 => ?_)
    rw [h2.g2 (by omega), hc]
    refine xRD hi hv hc hκ (d + 2) 1 _ _ w2 (δ + 1) (by rw [pS_1]; show s.1 + 1 + (TT 6 i v x).1.length ≤ 860; omega) (by omega) h2 (fun w3 h3 => hQ w3 ?_)
    rw [← pS_app] at h3
    exact h3
theorem mD0 {Q : qW → Int32 → Prop} {s : Sx} (h : MS w0 s w) (hs : s.1 ≤ 900) (hQ : ∀ w1, MS w0 (pS (D0 i x).1 s) w1 → Q w1 (D0 i x).2) : CaI (d + 1) M_Mo_thingDrips [.ref (qb E + 115), .int (nI i), .int x] E w Q :=
  en_Mo_thingDrips h.1 (s_Mo_thingDrips_0 h.1 (m_body h (by omega) (fun w1 h1 => hQ w1 h1)))
theorem mDR {Q : qW → Int32 → Prop} {s : Sx} (hi : i < 6) (hκ : κ < 7) (hc : qi w0 116 i = nI κ) (hv : qi w0 117 i = v) (h : MS w0 s w) (hs : s.1 ≤ 890) (hQ : ∀ w1, MS w0 (pS (DR κ i v x).1 s) w1 → Q w1 (DR κ i v x).2) : CaI (d + 2) M_Mo_dripsAct [.ref (qb E + 115), .int (nI i), .int x] E w Q := by
  refine en_Mo_dripsAct h.1 (s_Mo_dripsAct_0 h.1 ⟨nvp hi (by omega), ?_⟩)
  have hin : vp_in (nI i) 6 := nvp hi (by omega)
  rw [ncl (by omega), h.g (by omega), hc]
  rcases (show κ = 0 ∨ κ = 1 ∨ κ = 2 ∨ κ = 3 ∨ κ = 4 ∨ κ = 5 ∨ κ = 6 by omega) with rfl | rfl | rfl | rfl | rfl | rfl | rfl
  · exact ⟨fun z => absurd z (by decide), fun z => absurd z (by decide), fun z => absurd z (by decide), fun z => absurd z (by decide), fun z => absurd z (by decide), fun _ => mD0 h (by omega) hQ⟩
  · exact ⟨fun z => absurd z (by decide), fun z => absurd z (by decide), fun z => absurd z (by decide), fun z => absurd z (by decide), fun z => absurd z (by decide), fun _ => mD0 h (by omega) hQ⟩
  · exact ⟨fun _ => m_body h (by omega) (fun w1 h1 => mD0 h1 (Nat.le_trans (show (pu s _).1 ≤ s.1 + 1 from Nat.le_refl _) (by omega)) (fun w2 h2 => hQ w2 h2)), fun z => absurd z (by decide), fun z => absurd z (by decide), fun z => absurd z (by decide), fun z => absurd z (by decide), fun z => absurd z (by decide)⟩
  · exact ⟨fun z => absurd z (by decide), fun _ => mD0 h (by omega) hQ, fun z => absurd z (by decide), fun z => absurd z (by decide), fun z => absurd z (by decide), fun z => absurd z (by decide)⟩
  · exact ⟨fun z => absurd z (by decide), fun z => absurd z (by decide), fun _ => m_body h (by omega) (fun w1 h1 => mD0 h1 (Nat.le_trans (show (pu s _).1 ≤ s.1 + 1 from Nat.le_refl _) (by omega)) (fun w2 h2 => hQ w2 h2)), fun z => absurd z (by decide), fun z => absurd z (by decide), fun z => absurd z (by decide)⟩
  · exact ⟨fun z => absurd z (by decide), fun z => absurd z (by decide), fun z => absurd z (by decide), fun _ => m_body h (by omega) (fun w1 h1 => mD0 h1 (Nat.le_trans (show (pu s _).1 ≤ s.1 + 1 from Nat.le_refl _) (by omega)) (fun w2 h2 => hQ w2 h2)), fun z => absurd z (by decide), fun z => absurd z (by decide)⟩
  · exact ⟨fun z => absurd z (by decide), fun z => absurd z (by decide), fun z => absurd z (by decide), fun z => absurd z (by decide), fun _ => m_body h (by omega) (fun w1 h1 => mD0 h1 (Nat.le_trans (show (pu s _).1 ≤ s.1 + 1 from Nat.le_refl _) (by omega)) (fun w2 h2 => ⟨hin, by rw [h2.g (by omega), hv]; exact hQ w2 h2⟩)), fun z => absurd z (by decide)⟩
theorem mRT {Q : qW → Int32 → Prop} {s : Sx} (hi : i < 6) (hκ : κ < 7) (hc : qi w0 116 i = nI κ) (hv : qi w0 117 i = v) (h : MS w0 s w) (hs : s.1 ≤ 880) (hQ : ∀ w1, MS w0 (pS (RT κ i v x).1 s) w1 → Q w1 (RT κ i v x).2) : CaI (d + 3) M_Mo_thingReddens [.ref (qb E + 115), .int (nI i), .int x] E w Q :=
  en_Mo_thingReddens h.1 (s_Mo_thingReddens_0 h.1 (m_body h (by omega) (fun w1 h1 => mDR hi hκ hc hv h1 (Nat.le_trans (show (pu s _).1 ≤ s.1 + 1 from Nat.le_refl _) (by omega)) (fun w2 h2 => ⟨nvp hi (by omega), by rw [ncl (by omega), h2.g (by omega), hv]; exact hQ w2 h2⟩))))
theorem mRG {Q : qW → Int32 → Prop} {s : Sx} (hi : i < 6) (hκ : κ < 7) (hc : qi w0 116 i = nI κ) (hv : qi w0 117 i = v) (h : MS w0 s w) (hs : s.1 ≤ 870) (hQ : ∀ w1, MS w0 (pS (RG κ i v x).1 s) w1 → Q w1 (RG κ i v x).2) : CaI (d + 4) M_Mo_grudgeReddens [.ref (qb E + 115), .int (nI i), .int x] E w Q :=
  en_Mo_grudgeReddens h.1 (s_Mo_grudgeReddens_0 h.1 (m_body h (by omega) (fun w1 h1 => mRT hi hκ hc hv h1 (Nat.le_trans (show (pu s _).1 ≤ s.1 + 1 from Nat.le_refl _) (by omega)) (fun w2 h2 => hQ w2 h2))))
theorem mRD {Q : qW → Int32 → Prop} {s : Sx} (hi : i < 6) (hκ : κ < 7) (hc : qi w0 116 i = nI κ) (hv : qi w0 117 i = v) (h : MS w0 s w) (hs : s.1 ≤ 860) (hQ : ∀ w1, MS w0 (pS (RD κ i v x).1 s) w1 → Q w1 (RD κ i v x).2) : CaI (d + 5) M_Mo_reddensAct [.ref (qb E + 115), .int (nI i), .int x] E w Q := by
  refine en_Mo_reddensAct h.1 (s_Mo_reddensAct_0 h.1 ⟨nvp hi (by omega), ?_⟩)
  rw [ncl (by omega), h.g (by omega), hc]
  have hl := RT_l κ i v x
  rcases (show κ = 0 ∨ κ = 1 ∨ κ = 2 ∨ κ = 3 ∨ κ = 4 ∨ κ = 5 ∨ κ = 6 by omega) with rfl | rfl | rfl | rfl | rfl | rfl | rfl
  · exact ⟨fun z => absurd z (by decide), fun z => absurd z (by decide), fun z => absurd z (by decide), fun _ _ _ => mRT hi hκ hc hv h (by omega) hQ⟩
  · exact ⟨fun _ => mRG hi hκ hc hv h (by omega) hQ, fun z => absurd z (by decide), fun z => absurd z (by decide), fun g1 g4 g6 => absurd rfl g1⟩
  · exact ⟨fun z => absurd z (by decide), fun z => absurd z (by decide), fun z => absurd z (by decide), fun _ _ _ => mRT hi hκ hc hv h (by omega) hQ⟩
  · exact ⟨fun z => absurd z (by decide), fun z => absurd z (by decide), fun z => absurd z (by decide), fun _ _ _ => mRT hi hκ hc hv h (by omega) hQ⟩
  · exact ⟨fun z => absurd z (by decide), fun _ => m_body h (by omega) (fun w1 h1 => mRG hi hκ hc hv h1 (Nat.le_trans (show (pu s _).1 ≤ s.1 + 1 from Nat.le_refl _) (by omega)) (fun w2 h2 => hQ w2 h2)), fun z => absurd z (by decide), fun g1 g4 g6 => absurd rfl g4⟩
  · exact ⟨fun z => absurd z (by decide), fun z => absurd z (by decide), fun z => absurd z (by decide), fun _ _ _ => mRT hi hκ hc hv h (by omega) hQ⟩
  · exact ⟨fun z => absurd z (by decide), fun z => absurd z (by decide), fun _ => m_body h (by omega) (fun w1 h1 => mRT hi hκ hc hv h1 (Nat.le_trans (show (pu s _).1 ≤ s.1 + 1 from Nat.le_refl _) (by omega)) (fun w2 h2 => mD0 h2 (by rw [pS_1]; show s.1 + 1 + (RT 6 i v x).1.length ≤ 900; omega) (fun w3 h3 => hQ w3 (by rw [← pS_app] at h3; exact h3)))), fun g1 g4 g6 => absurd rfl g6⟩
theorem mTT {Q : qW → Int32 → Prop} {s : Sx} (hi : i < 6) (hκ : κ < 7) (hc : qi w0 116 i = nI κ) (hv : qi w0 117 i = v) (h : MS w0 s w) (hs : s.1 ≤ 850) (hQ : ∀ w1, MS w0 (pS (TT κ i v x).1 s) w1 → Q w1 (TT κ i v x).2) : CaI (d + 6) M_Mo_thingTells [.ref (qb E + 115), .int (nI i), .int x] E w Q :=
  en_Mo_thingTells h.1 (s_Mo_thingTells_0 h.1 (m_body h (by omega) (fun w1 h1 => mRD hi hκ hc hv h1 (Nat.le_trans (show (pu s _).1 ≤ s.1 + 1 from Nat.le_refl _) (by omega)) (fun w2 h2 => hQ w2 h2))))
theorem mTL {Q : qW → Int32 → Prop} {s : Sx} (hi : i < 6) (hκ : κ < 7) (hc : qi w0 116 i = nI κ) (hv : qi w0 117 i = v) (h : MS w0 s w) (hs : s.1 ≤ 800) (hQ : ∀ w1, MS w0 (pS (TL κ i v x).1 s) w1 → Q w1 (TL κ i v x).2) : CaI (d + 7) M_Mo_tellsAct [.ref (qb E + 115), .int (nI i), .int x] E w Q := by
  refine en_Mo_tellsAct h.1 (s_Mo_tellsAct_0 h.1 ⟨nvp hi (by omega), ?_⟩)
  rw [ncl (by omega), h.g (by omega), hc]
  have hl := TT_l κ i v x
  rcases (show κ = 0 ∨ κ = 1 ∨ κ = 2 ∨ κ = 3 ∨ κ = 4 ∨ κ = 5 ∨ κ = 6 by omega) with rfl | rfl | rfl | rfl | rfl | rfl | rfl
  · exact ⟨fun z => absurd z (by decide), fun z => absurd z (by decide), fun z => absurd z (by decide), fun z => absurd z (by decide), fun _ => mTT hi hκ hc hv h (by omega) hQ⟩
  · exact ⟨fun z => absurd z (by decide), fun z => absurd z (by decide), fun z => absurd z (by decide), fun z => absurd z (by decide), fun _ => mTT hi hκ hc hv h (by omega) hQ⟩
  · exact ⟨fun z => absurd z (by decide), fun z => absurd z (by decide), fun z => absurd z (by decide), fun z => absurd z (by decide), fun _ => mTT hi hκ hc hv h (by omega) hQ⟩
  · exact ⟨fun _ => m_body h (by omega) (fun w1 h1 => mTT hi hκ hc hv h1 (Nat.le_trans (show (pu s _).1 ≤ s.1 + 1 from Nat.le_refl _) (by omega)) (fun w2 h2 => mRD (x := 1) hi hκ hc hv h2 (by rw [pS_1]; show s.1 + 1 + (TT 3 i v x).1.length ≤ 860; omega) (fun w3 h3 => hQ w3 (by rw [← pS_app] at h3; exact h3)))), fun z => absurd z (by decide), fun z => absurd z (by decide), fun z => absurd z (by decide), fun z => absurd z (by decide)⟩
  · exact ⟨fun z => absurd z (by decide), fun _ => mTT hi hκ hc hv h (by omega) hQ, fun z => absurd z (by decide), fun z => absurd z (by decide), fun z => absurd z (by decide)⟩
  · exact ⟨fun z => absurd z (by decide), fun z => absurd z (by decide), fun _ => m_body h (by omega) (fun w1 h1 => mTT hi hκ hc hv h1 (Nat.le_trans (show (pu s _).1 ≤ s.1 + 1 from Nat.le_refl _) (by omega)) (fun w2 h2 => hQ w2 h2)), fun z => absurd z (by decide), fun z => absurd z (by decide)⟩
  · exact ⟨fun z => absurd z (by decide), fun z => absurd z (by decide), fun z => absurd z (by decide), fun _ => m_body h (by omega) (fun w1 h1 => mTT hi hκ hc hv h1 (Nat.le_trans (show (pu s _).1 ≤ s.1 + 1 from Nat.le_refl _) (by omega)) (fun w2 h2 => mRD (x := 1) hi hκ hc hv h2 (by rw [pS_1]; show s.1 + 1 + (TT 6 i v x).1.length ≤ 860; omega) (fun w3 h3 => hQ w3 (by rw [← pS_app] at h3; exact h3)))), fun z => absurd z (by decide)⟩
def jAc (k j : Nat) : Prop := k = 100 ∨ k = 101 ∨ (k = 115 ∧ j = 71) ∨ k = 156
theorem J.act (h : J kk n w) (hf : Fr jAc w w1) (a : ACT w1) : J kk n w1 := by
  have g : ∀ k j, ¬ jAc k j → qi w1 k j = qi w k j := fun k j q => (hf k j q).1
  exact h.out (hf.mono (fun k j q => by unfold jAc at q; unfold jOut; omega)) (h.2.1.fr (Nat.le_refl _) (fun a j q => g a j (by unfold jAc; omega))) (h.2.2.2.1.fr (fun a j q => g a j (by unfold jAc; omega))) a (h.2.2.2.2.2.2.1.fr (fun a j q => ⟨g a j (by unfold jAc; omega), (hf a j (by unfold jAc; omega)).2.1⟩))
theorem pr_act : pair_act E (I E) := by
  intro d w a1 a2 x hw hI
  obtain ⟨kk, n, hJ⟩ := id hI
  obtain ⟨c, c1, c2, c3, c4⟩ := hJ.cn
  obtain ⟨m, m1, m2, m3, m4⟩ := hJ.2.2.2.2.2.1
  refine en_Qu_act hw (s_Qu_act_0 hw (en_Ac_forget hw (s_Ac_forget_0 hw ?_)))
  have hJ2 : J kk n (qpi (qpi w 100 1 0) 115 71 0) := by
    refine hJ.act ((Fr.rf.pi (Or.inl rfl)).pi (Or.inr (Or.inr (Or.inl ⟨rfl, rfl⟩)))) ⟨0, by omega, ?_, qi_eq rfl rfl, fun j hj => ?_⟩
    · rw [qi_k (by omega), qi_eq rfl rfl]
      rfl
    · rw [qi_k (by omega), qi_k (by omega), qi_k (by omega), qi_k (by omega)]
      exact m4 j hj
  have hw0 : Sh (qpi (qpi w 100 1 0) 115 71 0) := hw
  have c2' : qi (qpi w 100 1 0) 15 0 = nI c := (qi_k (by omega)).trans c2
  have c3' : qi (qpi (qpi w 100 1 0) 115 71 0) 115 0 = nI c := (qi_j (by omega)).trans ((qi_k (by omega)).trans c3)
  rcases thg (x := a1) c c1 with h1 | ⟨i, h1, rfl⟩
  · exact p_find_n (w := qpi w 100 1 0) hw pan15 c2' h1 (Or.inl ⟨rfl, en_Mo_act hw (s_Mo_act_0 hw (p_thg0 hw0 c1 c3' h1 (f2 ⟨rfl, kk, n, hJ2⟩)))⟩)
  have hi : i < 6 := by omega
  have hin : vp_in (nI i) 6 := nvp hi (by omega)
  refine p_find_s (w := qpi w 100 1 0) hw pan15 c1 c2' h1 (Or.inr ⟨i, hi, rfl, ?_⟩)
  rcases rng (x := a2) 0 2 (by omega) (by omega) with h2 | ⟨a, -, h2, rfl⟩
  · exact p_wo (w := qpi w 100 1 0) hw h2 (f1 (en_Mo_act hw (s_Mo_act_0 hw (p_thg1 hw0 c1 c3' h1 (t2 (p_mo hw0 h2 (f1 ⟨rfl, kk, n, hJ2⟩)))))))
  refine p_wi (w := qpi w 100 1 0) (a := 0) (b := 2) hw (by omega) h2 (t1 (en_Ac_perform (w := qpi w 100 1 0) hw (s_Ac_perform_0 (w := qpi w 100 1 0) hw (isTh_of pan15 hi) ?_)))
  obtain ⟨κ, hκ, hk⟩ := (hJ.1.2.1.2.2.2.2.2 i hi).1
  have hk' : qi w 116 i = nI κ := by rw [← hk]; exact (aM_6 (a := 0) hi (by omega)).symm
  have ek : qi w (15 + 3 + 2 * i) 1 = nI κ := (x6 (a := 0) hi (by omega) hJ).trans hk'
  have ev : qi w (15 + 3 + 2 * i) 2 = qi w 117 i := x6 (a := 1) hi (by omega) hJ
  have en : qi w (15 + 3 + 2 * i) 0 = nI i := by
    have := hJ.xo.num i hi
    exact this
  simp (disch := omega) only [qi_k, qi_j, qi_eq, ek, ev, en]
  have hwW : Sh (qpi (qpi (qpi (qpi w 100 1 0) 100 2 (nI κ)) 100 3 (nI i)) 100 4 (qi w 117 i)) := hw
  have g1 : qi (qpi (qpi (qpi (qpi w 100 1 0) 100 2 (nI κ)) 100 3 (nI i)) 100 4 (qi w 117 i)) 100 1 = nI 0 := by
    rw [qi_j (by omega), qi_j (by omega), qi_j (by omega), qi_eq rfl rfl]
    rfl
  have g2 : qi (qpi (qpi (qpi (qpi w 100 1 0) 100 2 (nI κ)) 100 3 (nI i)) 100 4 (qi w 117 i)) 100 2 = nI κ := by
    rw [qi_j (by omega), qi_j (by omega), qi_eq rfl rfl]
  have g3 : qi (qpi (qpi (qpi (qpi w 100 1 0) 100 2 (nI κ)) 100 3 (nI i)) 100 4 (qi w 117 i)) 100 3 = nI i := by
    rw [qi_j (by omega), qi_eq rfl rfl]
  have g4 : qi (qpi (qpi (qpi (qpi w 100 1 0) 100 2 (nI κ)) 100 3 (nI i)) 100 4 (qi w 117 i)) 100 4 = qi w 117 i := qi_eq rfl rfl
  have gf : Fr (fun k _ => k = 100) w (qpi (qpi (qpi (qpi w 100 1 0) 100 2 (nI κ)) 100 3 (nI i)) 100 4 (qi w 117 i)) := (((Fr.rf.pi (by omega)).pi (by omega)).pi (by omega)).pi (by omega)
  generalize qpi (qpi (qpi (qpi w 100 1 0) 100 2 (nI κ)) 100 3 (nI i)) 100 4 (qi w 117 i) = W at hwW g1 g2 g3 g4 gf
  have hX : XS W (0, qi w 101) W := ⟨hwW, Fr.rf, g1, fun j hj => (gf 101 j (by omega)).1⟩
  have fin2 : ∀ (l : List Int32) (w1 w3 : qW), l.length ≤ 20 → XS W (pS l (0, qi w 101)) w1 → MS (qpi w1 115 71 0) (pS l (0, qi w 101)) w3 → I E w3 := by
    intro l w1 w3 hl hx hm
    have hs := pS_1 l (0, qi w 101)
    have hs' : (pS l (0, qi w 101)).1 = l.length := by rw [hs]; exact Nat.zero_add _
    have f1 : Fr jAc w W := gf.mono (fun k j q => Or.inl q)
    have f2 : Fr jAc W w1 := hx.2.1.mono (fun k j q => by unfold jAc; omega)
    have f3 : Fr jAc w1 (qpi w1 115 71 0) := Fr.rf.pi (by unfold jAc; omega)
    have f4 : Fr jAc (qpi w1 115 71 0) w3 := hm.2.1.mono (fun k j q => by unfold jAc; omega)
    refine ⟨kk, n, hJ.act (((f1.tr f2).tr f3).tr f4) ⟨(pS l (0, qi w 101)).1, by omega, ?_, hm.2.2.1, fun j hj => ?_⟩⟩
    · rw [hm.g (by omega), qi_k (by omega)]
      exact hx.2.2.1
    · rw [hm.g (by omega), qi_k (by omega), hx.2.2.2 j hj, hm.2.2.2 j hj]
  have ini : ∀ (l : List Int32) (w1 : qW), XS W (pS l (0, qi w 101)) w1 → Sh (qpi w1 115 71 0) ∧ MS (qpi w1 115 71 0) (0, qi w 101) (qpi w1 115 71 0) ∧ qi (qpi w1 115 71 0) 115 0 = nI c ∧ qi (qpi w1 115 71 0) 116 i = nI κ ∧ qi (qpi w1 115 71 0) 117 i = qi w 117 i := by
    intro l w1 hx
    have gg : ∀ k j, 102 ≤ k → qi w1 k j = qi w k j := fun k j q => ((hx.2.1 k j (by omega)).1).trans (gf k j (by omega)).1
    have hw1 : Sh (qpi w1 115 71 0) := hx.1
    refine ⟨hw1, ⟨hw1, Fr.rf, qi_eq rfl rfl, fun j hj => ?_⟩, ?_, ?_, ?_⟩
    · rw [qi_k (by omega), gg _ _ (by omega)]
      exact (m4 j hj).symm
    · rw [qi_j (by omega), gg _ _ (by omega)]
      exact c3
    · rw [qi_k (by omega), gg _ _ (by omega)]
      exact hk'
    · rw [qi_k (by omega), gg _ _ (by omega)]
  rcases (show a = 0 ∨ a = 1 ∨ a = 2 by omega) with rfl | rfl | rfl
  · refine xDR g3 g4 (by omega) _ x _ (0, qi w 101) W 0 (by omega) (by omega) hX (fun w1 hx => ?_)
    obtain ⟨v1, v2, v3, v4, v5⟩ := ini _ w1 hx
    exact en_Mo_act hx.1 (s_Mo_act_0 hx.1 (p_thg1 v1 c1 v3 h1 (t2 (p_mi (a := 0) (b := 2) v1 (by omega) (by omega) (t1 ⟨fun z => absurd rfl z, fun _ => mDR hi (by omega) v4 v5 v2 (by omega) (fun w3 hm => ⟨rfl, fin2 _ w1 w3 (Nat.le_trans (DR_l _ _ _ _) (by omega)) hx hm⟩)⟩)))))
  · refine xRD g3 g4 g2 (by omega) _ x _ (0, qi w 101) W 0 (by omega) (by omega) hX (fun w1 hx => ?_)
    obtain ⟨v1, v2, v3, v4, v5⟩ := ini _ w1 hx
    exact en_Mo_act hx.1 (s_Mo_act_0 hx.1 (p_thg1 v1 c1 v3 h1 (t2 (p_mi (a := 0) (b := 2) v1 (by omega) (by omega) (t1 ⟨fun _ => ⟨fun z => absurd rfl z, fun _ => mRD hi (by omega) v4 v5 v2 (by omega) (fun w3 hm => ⟨rfl, fin2 _ w1 w3 (Nat.le_trans (RD_l _ _ _ _) (by omega)) hx hm⟩)⟩, fun z => absurd z (by decide)⟩)))))
  · refine xTL g3 g4 g2 (by omega) _ x _ (0, qi w 101) W 0 (by omega) (by omega) hX (fun w1 hx => ?_)
    obtain ⟨v1, v2, v3, v4, v5⟩ := ini _ w1 hx
    exact en_Mo_act hx.1 (s_Mo_act_0 hx.1 (p_thg1 v1 c1 v3 h1 (t2 (p_mi (a := 0) (b := 2) v1 (by omega) (by omega) (t1 ⟨fun _ => ⟨fun _ => mTL hi (by omega) v4 v5 v2 (by omega) (fun w3 hm => ⟨rfl, fin2 _ w1 w3 (TL_l _ _ _ _) hx hm⟩), fun z => absurd z (by decide)⟩, fun z => absurd z (by decide)⟩)))))
end PA
