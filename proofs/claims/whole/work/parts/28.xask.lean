/-! the class: copies, minutes, what is asked on the trial pan -/
section XA
variable {d : Nat} {E : qE} {w : qW} {k : List Cl}
theorem qi_cp {w : qW} {k i k2 j n a c : Nat} : qi (qcp w k i k2 j n) a c = if a = k2 ∧ j ≤ c ∧ c < j + n then qi w k (i + (c - j)) else qi w a c := rfl
theorem Fr.cp {S : Nat → Nat → Prop} {w w1 : qW} {k i k2 j n : Nat} (h : Fr S w w1) (hs : ∀ c, j ≤ c → c < j + n → S k2 c) : Fr S w (qcp w1 k i k2 j n) := fun a c q => by
  have : ¬ (a = k2 ∧ j ≤ c ∧ c < j + n) := fun z => q (by rw [z.1]; exact hs c z.2.1 z.2.2)
  exact ⟨by rw [qi_cp, if_neg this]; exact (h a c q).1, (h a c q).2.1, (h a c q).2.2⟩
theorem PX_pn {p q : Nat} {w1 : qW} (hp : isPan p) (hq : isPan q) (hpq : p ≠ q) (hf : Fr (jPn q) w w1) : PX p w1 = PX p w := by
  have h1 := hp.c
  have h2 := hq.c
  exact PX_ext (fun k j _ _ _ => (hf k j (by unfold jPn; omega)).1) (hf p 6 (by unfold jPn; omega)).2.2
def jT1 (q i k j : Nat) : Prop := (k = q + 3 + 2 * i ∧ j ≠ 0) ∨ k = q + 4 + 2 * i
theorem p_Th_copy {Q : qW → Prop} {q p i : Nat} (hw : Sh w) (hq : isPan q) (hp : isPan p) (hpq : p ≠ q) (hi : i < 6) (hQ : ∀ w1, Sh w1 → Fr (jT1 q i) w w1 → (∀ a, a ≠ 10 → aX w1 q i a = aX w p i a) → Q w1) : CaV (d + 1) M_Th_copyFrom [.ref (qb E + (q + 3 + 2 * i)), .ref (qb E + (p + 3 + 2 * i))] E w Q := by
  have h1 := hp.c
  have h2 := hq.c
  refine en_Th_copyFrom hw (s_Th_copyFrom_0 hw (isTh_of hq hi) (isTh_of hp hi) ?_)
  simp (disch := omega) only [qi_k]
  refine hQ _ hw ?_ ?_
  · have pp : ∀ {w2 : qW} (j : Nat) (x : Int32), j ≠ 0 → Fr (jT1 q i) w w2 → Fr (jT1 q i) w (qpi w2 (q + 3 + 2 * i) j x) := fun j x hj h => h.pi (Or.inl ⟨rfl, hj⟩)
    exact (pp _ _ (by decide) (pp _ _ (by decide) (pp _ _ (by decide) (pp _ _ (by decide) (pp _ _ (by decide) (pp _ _ (by decide) Fr.rf)))))).cp (fun c _ _ => Or.inr (by omega))
  · intro a ha
    unfold aX
    rw [if_pos hi, if_pos hi]
    by_cases h6 : a < 6
    · rw [if_pos h6, if_pos h6, qi_cp, if_neg (by omega)]
      rcases (show a = 0 ∨ a = 1 ∨ a = 2 ∨ a = 3 ∨ a = 4 ∨ a = 5 by omega) with rfl | rfl | rfl | rfl | rfl | rfl <;> simp (disch := omega) only [qi_j, qi_eq]
    · rw [if_neg h6, if_neg h6]
      by_cases h10 : a < 10
      · rw [if_pos h10, if_pos h10, qi_cp, if_pos ⟨by omega, by omega, by omega⟩]
        simp (disch := omega) only [qi_k]
        rw [show p + 3 + 2 * i + 1 = p + 4 + 2 * i by omega, show 0 + (a - 6 - 0) = a - 6 by omega]
      · rw [if_neg h10, if_neg h10, if_neg ha, if_neg ha]
theorem h_copy {Q : qW → Prop} {q p M T K : Nat} (hq : isPan q) (hp : isPan p) (hpq : p ≠ q) (ho : okR M T (PX p w)) (hK : isKi K) (hr : qr w p 6 = K + 1) (hQ : ∀ w1, Sh w1 → Fr (jPn q) w w1 → PX q w1 = PX p w → Q w1) :
    ∀ (n i : Nat) (w1 : qW), i + n = 6 → Sh w1 → Fr (jPn q) w w1 → qi w1 q 0 = qi w p 0 → NUM q w1 → (∀ j, j < i → ∀ a, aX w1 q j a = aX w p j a) → c_Pa_copyFrom_10 d E Q q p (nI i) w1 := by
  have h1 := hp.c
  have h2 := hq.c
  intro n
  induction n with
  | zero =>
    intro i w1 hi hw1 hf h0 hn ha
    refine s_Pa_copyFrom_10 hw1 hq hp (pk_le 6 i (fun _ => ?_) (fun h => by omega))
    simp (disch := omega) only [qi_k]
    refine ⟨K, hK, (hf p 6 (by unfold jPn; omega)).2.2.trans hr, hQ _ (Sh.pr (sh_Pk hw1 hq) hw1) ?_ ?_⟩
    · have pp : ∀ {w2 : qW} (j : Nat) (x : Int32), Fr (jPn q) w w2 → Fr (jPn q) w (qpi w2 q j x) := fun j x h => h.pi ⟨by omega, by omega⟩
      exact (pp _ _ (pp _ _ (pp _ _ (pp _ _ hf)))).pr ⟨by omega, by omega⟩
    · have g : ∀ j, qi w1 p j = qi w p j := fun j => (hf p j (by unfold jPn; omega)).1
      have e : aX w1 q = aX w p := by
        funext j a
        by_cases hj : j < 6
        · exact ha j (by omega) a
        · unfold aX
          rw [if_neg hj, if_neg hj]
      unfold PX
      rw [qr_eq rfl rfl, hr]
      simp (disch := omega) only [qi_pr, qi_eq, qi_j]
      rw [qzz, g, g, g, g, h0]
      congr 6
      rw [← e]
      have ee : ∀ (v : Nat) (x1 x2 x3 x4 : Int32), aX (qpr (qpi (qpi (qpi (qpi w1 q 2 x1) q 3 x2) q 4 x3) q 5 x4) q 6 v) q = aX w1 q := fun v x1 x2 x3 x4 => by
        show aX (qpi (qpi (qpi (qpi w1 q 2 x1) q 3 x2) q 4 x3) q 5 x4) q = _
        rw [aX_q, aX_q, aX_q, aX_q]
      exact ee _ _ _ _ _
  | succ n ih =>
    intro i w1 hi hw1 hf h0 hn ha
    refine s_Pa_copyFrom_10 hw1 hq hp (pk_le 6 i (fun h => by omega) (fun _ => ⟨nvp (by omega) (by omega), nvp (by omega) (by omega), ?_⟩))
    rw [ncl (a := i) (by omega), n1]
    refine p_Th_copy hw1 hq hp hpq (by omega) (fun w2 hw2 hf2 ha2 => ?_)
    have hpx : ∀ j a, aX w1 p j a = aX w p j a := fun j a => congrFun (congrFun (congrArg pa (PX_pn hp hq hpq hf)) j) a
    refine ih (i + 1) w2 (by omega) hw2 (hf.tr (hf2.mono (fun k j h => by unfold jT1 at h; unfold jPn; omega))) ((hf2 q 0 (by unfold jT1; omega)).1.trans h0) (fun j hj => (hf2 _ 0 (by unfold jT1; omega)).1.trans (hn j hj)) (fun j hj a => ?_)
    by_cases hji : j = i
    · subst hji
      by_cases ha10 : a = 10
      · subst ha10
        have e1 : aX w2 q j 10 = nI j := (aX_n (w := w2) (by omega)).trans ((hf2 _ 0 (by unfold jT1; omega)).1.trans (hn j (by omega)))
        have e2 : aX w p j 10 = nI j := (ho.2.2.2.2.2 j (by omega)).2.2.2.2.2.2.2
        rw [e1, e2]
      · rw [ha2 a ha10]
        exact hpx j a
    · have hj' : j < i := by omega
      rw [← ha j hj' a]
      unfold aX
      have gg : ∀ kk jj, ¬ jT1 q i kk jj → qi w2 kk jj = qi w1 kk jj := fun kk jj h => (hf2 kk jj h).1
      by_cases hj6 : j < 6
      · rw [if_pos hj6, if_pos hj6, gg (q + 3 + 2 * j) (a + 1) (by unfold jT1; omega), gg (q + 4 + 2 * j) (a - 6) (by unfold jT1; omega), gg (q + 3 + 2 * j) 0 (by unfold jT1; omega)]
      · rw [if_neg hj6, if_neg hj6]
theorem p_copy {Q : qW → Prop} {q p M T K : Nat} (hw : Sh w) (hq : isPan q) (hp : isPan p) (hpq : p ≠ q) (hn : NUM q w) (ho : okR M T (PX p w)) (hK : isKi K) (hr : qr w p 6 = K + 1) (hQ : ∀ w1, Sh w1 → Fr (jPn q) w w1 → PX q w1 = PX p w → Q w1) : CaV (d + 2) M_Pa_copyFrom [.ref (qb E + q), .ref (qb E + p)] E w Q := by
  refine en_Pa_copyFrom hw (s_Pa_copyFrom_0 hw hq hp ?_)
  exact h_copy hq hp hpq ho hK hr hQ 6 0 _ (by omega) hw (Fr.rf.pi ⟨by omega, by omega⟩) (qi_eq rfl rfl) (fun i hi => (qi_k (by omega)).trans (hn i hi)) (fun j hj => by omega)
/-- minutes that go -/
def rI (k : List Cl) : Nat → Pn → Pn
  | 0, p => p
  | n + 1, p => rI k n (miP 9999 (adK k) (ndK k) p)
theorem h_goMinutes {Q : qW → Prop} {q K N : Nat} (hq : isPan q) (hk : KX w K k) (hr : qr w q 6 = K + 1) (hN : N ≤ 20000) (hQ : ∀ w1, Sh w1 → Fr (jMx q) w w1 → PX q w1 = rI k N (PX q w) → Q w1) :
    ∀ (n i M T : Nat) (w1 : qW), i + n = N → M + n ≤ 20000 → T + n ≤ 20000 → okR M T (PX q w1) → Sh w1 → Fr (jMx q) w w1 → rI k n (PX q w1) = rI k N (PX q w) → c_Pa_goMinutes_2 d E Q q (nI N) (nI i) w1 := by
  have h2 := hq.c
  have h3 := hk.1.c
  intro n
  induction n with
  | zero =>
    intro i M T w1 hi hM hT ho hw1 hf hp
    exact s_Pa_goMinutes_2 hw1 hq (pk_le N i (fun _ => hQ w1 hw1 hf hp) (fun h => by omega))
  | succ n ih =>
    intro i M T w1 hi hM hT ho hw1 hf hp
    refine s_Pa_goMinutes_2 hw1 hq (pk_le N i (fun h => by omega) (fun _ => ?_))
    rw [n1]
    have hk1 : KX w1 K k := hk.fr (fun a j _ _ => (hf a j (by unfold jMx; omega)).1)
    refine p_Pa_goMinute hw1 hq ho (by omega) hk1 ((hf q 6 (by unfold jMx; omega)).2.2.trans hr) (fun w2 hw2 hf2 hp2 => ?_)
    refine ih (i + 1) (M + 1) (T + 1) w2 (by omega) (by omega) (by omega) ?_ hw2 (hf.tr hf2) ?_
    · rw [hp2]
      exact okR_mi (C := 9999) ho rfl (by omega) (by omega) (by omega) (by omega)
    · rw [hp2]
      exact hp
theorem p_goMinutes {Q : qW → Prop} {q K N M T : Nat} (hw : Sh w) (hq : isPan q) (ho : okR M T (PX q w)) (hk : KX w K k) (hr : qr w q 6 = K + 1) (hM : M + N ≤ 20000) (hT : T + N ≤ 20000) (hQ : ∀ w1, Sh w1 → Fr (jMx q) w w1 → PX q w1 = rI k N (PX q w) → Q w1) : CaV (d + 4) M_Pa_goMinutes [.ref (qb E + q), .int (nI N)] E w Q :=
  en_Pa_goMinutes hw (s_Pa_goMinutes_0 hw hq (h_goMinutes hq hk hr (by omega) hQ N 0 M T w (by omega) hM hT ho hw Fr.rf rfl))
theorem okR_rI {M T : Nat} : ∀ (n : Nat) (p : Pn), okR M T p → T + n ≤ 100000 → okR (M + n) (T + n) (rI k n p) := by
  intro n
  induction n generalizing M T with
  | zero => intro p h _; exact h
  | succ n ih =>
    intro p h hT
    have := ih (M := M + 1) (T := T + 1) _ (okR_mi (C := 9999) (ad := adK k) (nd := ndK k) h rfl (by omega) (by omega) (by omega) (by omega)) (by omega)
    rw [show M + (n + 1) = M + 1 + n by omega, show T + (n + 1) = T + 1 + n by omega]
    exact this
theorem okR_rI9 {M : Nat} : ∀ (n : Nat) (p : Pn), okR M 9999 p → okR (M + n) 9999 (rI k n p) := by
  intro n
  induction n generalizing M with
  | zero => intro p h; exact h
  | succ n ih =>
    intro p h
    have := ih (M := M + 1) _ (okR_mi (C := 9999) (T' := 9999) (ad := adK k) (nd := ndK k) h rfl (by omega) (by omega) (by omega) (by omega))
    rw [show M + (n + 1) = M + 1 + n by omega]
    exact this
theorem nm_rI {M T : Nat} : ∀ (n : Nat) (p : Pn), okR M T p → T + n ≤ 100000 → nmP (rI k n p) = it k n (nmP p) := by
  intro n
  induction n generalizing M T with
  | zero => intro p _ _; rfl
  | succ n ih =>
    intro p h hT
    have e : nmP (miP 9999 (adK k) (ndK k) p) = mi k (nmP p) := nm_mi (C := 9999) h (by omega) rfl (by omega) (by omega)
    show nmP (rI k n (miP 9999 (adK k) (ndK k) p)) = it k n (mi k (nmP p))
    rw [← e]
    exact ih (M := M + 1) (T := T + 1) _ (okR_mi (C := 9999) h rfl (by omega) (by omega) (by omega) (by omega)) (by omega)
def jAs (k _ : Nat) : Prop := 58 ≤ k ∧ k ≤ 72
/-- the class as asking needs it -/
def XC (k : List Cl) (w : qW) : Prop := okR 9999 9999 (PX 15 w) ∧ NUM 58 w ∧ ∃ K, KX w K k ∧ qr w 15 6 = K + 1
def XA (k : List Cl) (w0 w : qW) : Prop := Sh w ∧ Fr jAs w0 w ∧ XC k w ∧ PX 15 w = PX 15 w0
/-- the trial pan, as told by p -/
def TX (k : List Cl) (M : Nat) (w : qW) (p : Pn) : Prop := okR M M (PX 58 w) ∧ nmP (PX 58 w) = p ∧ ∃ K, KX w K k ∧ qr w 58 6 = K + 1
theorem pan15 : isPan 15 := Or.inl rfl
theorem pan40 : isPan 40 := Or.inr (Or.inl rfl)
theorem pan58 : isPan 58 := Or.inr (Or.inr rfl)
theorem XA.go {w0 w1 : qW} {M T : Nat} (h : XA k w0 w) (hw1 : Sh w1) (hf : Fr (jPn 58) w w1) (ho : okR M T (PX 58 w1)) : XA k w0 w1 := by
  obtain ⟨hs, hf0, ⟨c1, c2, K, c3, c4⟩, e⟩ := h
  have e2 : PX 15 w1 = PX 15 w := PX_pn pan15 pan58 (by decide) hf
  refine ⟨hw1, hf0.tr (hf.mono (fun k j h => by unfold jPn at h; unfold jAs; omega)), ⟨by rw [e2]; exact c1, ho.num, K, c3.pn pan58 hf, (hf 15 6 (by unfold jPn; omega)).2.2.trans c4⟩, e2.trans e⟩
theorem XA.self (hw : Sh w) (h : XC k w) : XA k w w := ⟨hw, Fr.rf, h, rfl⟩
variable {w0 : qW} {p : Pn} {M : Nat}
theorem jMx_pn {q k j : Nat} (h : jMx q k j) : jPn q k j := by unfold jMx at h; unfold jPn; omega
theorem a_copy {Q : qW → Prop} (h : XA k w0 w) (hQ : ∀ w1, XA k w0 w1 → TX k 9999 w1 (nmP (PX 15 w0)) → Q w1) : CaV (d + 2) M_Pa_copyFrom [.ref (qb E + 58), .ref (qb E + 15)] E w Q := by
  obtain ⟨hs, hf0, ⟨c1, c2, K, c3, c4⟩, e⟩ := id h
  refine p_copy hs pan58 pan15 (by decide) c2 c1 c3.1 c4 (fun w1 hw1 hf he => hQ w1 ?_ ?_)
  · exact h.go hw1 hf (by rw [he]; exact c1)
  · refine ⟨by rw [he]; exact c1, by rw [he, e], K, c3.pn pan58 hf, ?_⟩
    have : pr (PX 58 w1) = pr (PX 15 w) := by rw [he]
    exact this.trans c4
theorem a_min {Q : qW → Prop} (h : XA k w0 w) (ht : TX k M w p) (hM : M ≤ 19999) (hQ : ∀ w1, XA k w0 w1 → TX k (M + 1) w1 (mi k p) → Q w1) : CaV (d + 3) M_Pa_goMinute [.ref (qb E + 58)] E w Q := by
  obtain ⟨t1, t2, K, t3, t4⟩ := ht
  refine p_Pa_goMinute h.1 pan58 t1 (by omega) t3 t4 (fun w1 hw1 hf he => ?_)
  have ho : okR (M + 1) (M + 1) (PX 58 w1) := by rw [he]; exact okR_mi (C := 9999) t1 rfl (by omega) (by omega) (by omega) (by omega)
  have hfp := hf.mono (S' := jPn 58) (fun k j => jMx_pn)
  refine hQ w1 (h.go hw1 hfp ho) ⟨ho, ?_, K, t3.pn pan58 hfp, (hf 58 6 (by unfold jMx; omega)).2.2.trans t4⟩
  rw [he, nm_mi (cap := 9999) (C := 9999) t1 (by omega) rfl (by omega) (by omega), t2]
  rfl
theorem a_mins {Q : qW → Prop} {N : Nat} (h : XA k w0 w) (ht : TX k M w p) (hM : M + N ≤ 20000) (hQ : ∀ w1, XA k w0 w1 → TX k (M + N) w1 (it k N p) → Q w1) : CaV (d + 4) M_Pa_goMinutes [.ref (qb E + 58), .int (nI N)] E w Q := by
  obtain ⟨t1, t2, K, t3, t4⟩ := ht
  refine p_goMinutes h.1 pan58 t1 t3 t4 hM hM (fun w1 hw1 hf he => ?_)
  have ho : okR (M + N) (M + N) (PX 58 w1) := by rw [he]; exact okR_rI N _ t1 (by omega)
  have hfp := hf.mono (S' := jPn 58) (fun k j => jMx_pn)
  refine hQ w1 (h.go hw1 hfp ho) ⟨ho, ?_, K, t3.pn pan58 hfp, (hf 58 6 (by unfold jMx; omega)).2.2.trans t4⟩
  rw [he, nm_rI N _ t1 (by omega), t2]
theorem a_upd {w1 : qW} {p1 : Pn} (h : XA k w0 w) (ht : TX k M w p) (hw1 : Sh w1) (hf : Fr (jPn 58) w w1) (ho : okR M M (PX 58 w1)) (hp : nmP (PX 58 w1) = p1) (hr : pr (PX 58 w1) = pr (PX 58 w)) : XA k w0 w1 ∧ TX k M w1 p1 := by
  obtain ⟨t1, t2, K, t3, t4⟩ := ht
  exact ⟨h.go hw1 hf ho, ho, hp, K, t3.pn pan58 hf, Eq.trans hr t4⟩
theorem a_put {Q : qW → Prop} {i : Nat} (h : XA k w0 w) (ht : TX k M w p) (hi : i < 6) (hQ : ∀ w1, XA k w0 w1 → TX k M w1 (puP i p) → Q w1) : CaV d M_Th_putIn [.ref (qb E + (58 + 3 + 2 * i))] E w Q := by
  refine p_putIn h.1 pan58 hi (fun w1 hw1 hf he => ?_)
  obtain ⟨b1, b2⟩ := a_upd (p1 := puP i p) h ht hw1 hf (by rw [he]; exact okR_pu ht.1) (by rw [he, nm_pu, ht.2.1]) (by rw [he]; rfl)
  exact hQ w1 b1 b2
theorem a_sp {Q : qW → Prop} {i : Nat} (h : XA k w0 w) (ht : TX k M w p) (hi : i < 6) (hQ : ∀ w1, XA k w0 w1 → TX k M w1 (spP i p) → Q w1) : CaV (d + 1) M_Pa_speak [.ref (qb E + 58), .ref (qb E + (58 + 3 + 2 * i))] E w Q := by
  refine p_speak h.1 pan58 hi ht.1 (fun w1 hw1 hf he => ?_)
  obtain ⟨b1, b2⟩ := a_upd (p1 := spP i p) h ht hw1 hf (by rw [he]; exact okR_sp ht.1 hi) (by rw [he, nm_sp, ht.2.1]) (by rw [he]; rfl)
  exact hQ w1 b1 b2
theorem a_fire {x : Int32} (h : XA k w0 w) (ht : TX k M w p) (hx : rg x 9) : XA k w0 (qpi w 58 2 x) ∧ TX k M (qpi w 58 2 x) (sF p x) :=
  a_upd h ht h.1 (Fr.rf.pi ⟨by omega, by omega⟩) (by rw [PX_F]; exact okR_F ht.1 hx) (by rw [PX_F, nm_F, ht.2.1]) (by rw [PX_F]; rfl)
theorem a_wt {i n : Nat} (h : XA k w0 w) (ht : TX k M w p) (hi : i < 6) (hn : n ≤ 20) : XA k w0 (qpi w (58 + 3 + 2 * i) 3 (nI n)) ∧ TX k M (qpi w (58 + 3 + 2 * i) 3 (nI n)) (sA p i 2 (nI n)) :=
  a_upd h ht h.1 (Fr.rf.pi ⟨by omega, by omega⟩) (by rw [PX_t (a := 2) hi (by omega)]; exact okR_w ht.1 hn) (by rw [PX_t (a := 2) hi (by omega), nm_sA (by omega), ht.2.1]) (by rw [PX_t (a := 2) hi (by omega)]; rfl)
theorem a_v {i n : Nat} (h : XA k w0 w) (ht : TX k M w p) (hi : i < 6) (hn : n ≤ 9) : XA k w0 (qpi w (58 + 3 + 2 * i) 2 (nI n)) ∧ TX k M (qpi w (58 + 3 + 2 * i) 2 (nI n)) (sA p i 1 (nI n)) :=
  a_upd h ht h.1 (Fr.rf.pi ⟨by omega, by omega⟩) (by rw [PX_t (a := 1) hi (by omega)]; exact okR_v ht.1 hn) (by rw [PX_t (a := 1) hi (by omega), nm_sA (by omega), ht.2.1]) (by rw [PX_t (a := 1) hi (by omega)]; rfl)
theorem TX.set (h : TX k M w p) : qz (qi w 58 4) = ps p := by rw [← h.2.1]; rfl
theorem TX.col (h : TX k M w p) : qi w 58 3 = pk p := by rw [← h.2.1]; rfl
theorem TX.st {i : Nat} (h : TX k M w p) (hi : i < 6) : qi w (58 + 3 + 2 * i) 5 = pa p i 4 := by
  rw [← h.2.1, nm_a (by omega)]
  exact (aX_6 (a := 4) hi (by omega)).symm
theorem TX.ok (h : TX k M w p) : okR M M p := by
  obtain ⟨⟨h1, h2, h3, h4, h5, h6⟩, e, -⟩ := h
  rw [← e]
  refine ⟨h1, h2, h3, h4, h5, fun i hi => ?_⟩
  obtain ⟨a0, a1, a2, a3, a4, ⟨t, a5, a5'⟩, a6, a7⟩ := h6 i hi
  refine ⟨by rw [nm_a (by omega)]; exact a0, by rw [nm_a (by omega)]; exact a1, by rw [nm_a (by omega)]; exact a2, by rw [nm_a (by omega)]; exact a3, by rw [nm_a (by omega)]; exact a4, ?_, fun b hb => by rw [nm_a (by omega)]; exact a6 b hb, by rw [nm_a (by omega)]; exact a7⟩
  rw [nm_5, a5']
  unfold m9
  split
  · rename_i hz
    by_cases ht : 9 ≤ t
    · exact ⟨9, by omega, rfl⟩
    · exfalso
      by_cases hb : t < 2 ^ 31
      · exact ht ((nI_leI (a := 9) (by omega) hb).mp hz)
      · omega
  · exact ⟨t, a5, rfl⟩
theorem a_find {Q : qW → Option Nat → Prop} {i : Nat} (h : XA k w0 w) (ht : TX k M w p) (hi : i < 6) (hs : i < cN p → Q w (some (58 + 3 + 2 * i))) (hn : cN p ≤ i → Q w none) : CaR d M_Pa_find [.ref (qb E + 58), .int (nI i)] E w Q := by
  obtain ⟨c, c1, c2, c3⟩ := ht.1.c
  have e : cN p = c := by rw [← ht.2.1]; exact c3
  rw [e] at hs hn
  by_cases hc : i < c
  · exact p_find_s h.1 pan58 c1 c2 hc (hs hc)
  · exact p_find_n h.1 pan58 c2 (Or.inr (nI_le (by omega) (by omega))) (hn (by omega))
end XA
