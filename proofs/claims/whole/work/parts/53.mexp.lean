/-! the model reads an expression -/
section RG
variable {E : qE} {S : Nat → Nat} {L c x0 B : Nat} {w0 : qW}
def opS (a b : Bool) : List Nat := (if a = true then [38] else []) ++ (if b = true then [124] else [])
def okB (base : List Nat) : Prop := base = [] ∨ ∃ st, base = 40 :: st
theorem opS_l (a b : Bool) (base : List Nat) : (opS a b ++ base).length = a.toNat + b.toNat + base.length := by
  rw [List.length_append]
  cases a <;> cases b <;> rfl
theorem opS_n (a b : Bool) (base : List Nat) : opN (opS a b ++ base) = opN base := by cases a <;> cases b <;> rfl
theorem opS_d {base : List Nat} (h : okB base) (a b : Bool) : drN (opS a b ++ base) = opS a b ++ base ∧ noN (opS a b ++ base) = [] := by
  rcases h with rfl | ⟨st, rfl⟩ <;> cases a <;> cases b <;> exact ⟨rfl, rfl⟩
theorem opS_38 {base : List Nat} (h : okB base) (a b : Bool) : drS 38 (opS a b ++ base) = opS false b ++ base ∧ emS 38 (opS a b ++ base) = flT a false := by
  rcases h with rfl | ⟨st, rfl⟩ <;> cases a <;> cases b <;> exact ⟨rfl, rfl⟩
theorem opS_124 {base : List Nat} (h : okB base) (a b : Bool) : drS 124 (opS a b ++ base) = base ∧ emS 124 (opS a b ++ base) = flT a b := by
  rcases h with rfl | ⟨st, rfl⟩ <;> cases a <;> cases b <;> exact ⟨rfl, rfl⟩
/-- one more waits -/
theorem MSt.push {p s n : Nat} {w : qW} {st : List Nat} {e : List Tk} (h : MSt w0 c x0 w p st e) (hs : s < 200) (hn : n = opN (s :: st)) : MSt w0 c x0 (qpi (qpi (qpi (qpi w 115 27 (nI n)) 130 st.length (nI s)) 115 26 (nI (st.length + 1))) 115 15 (nI (p + 1))) (p + 1) (s :: st) e := by
  obtain ⟨⟨a1, a2, a3⟩, h2, h3, h4, h5, h6, h7⟩ := h
  refine ⟨⟨a1, (((a2.pi (by unfold jE; omega)).pi (by unfold jE; omega)).pi (by unfold jE; omega)).pi (by unfold jE; omega), qi_eq rfl rfl⟩, ?_, ?_, ?_, ?_, fun x hx => ?_, fun j t ht => ?_⟩
  · rw [qi_j (by decide), qi_j (by decide), qi_k (by decide), qi_j (by decide)]; exact h2
  · rw [qi_j (by decide), qi_eq rfl rfl]
    rfl
  · rw [qi_j (by decide), qi_j (by decide), qi_k (by decide), qi_eq rfl rfl, hn]
  · have h5' : WL (qpi w 115 27 (nI n)) st := h5.of (fun x _ => qi_k (by omega))
    exact (h5'.push s).of (fun x _ => by rw [qi_k (by omega), qi_k (by omega)])
  · rcases List.mem_cons.mp hx with z | z
    · rw [z]; exact hs
    · exact h6 x z
  · rw [qi_k (by omega), qi_k (by omega), qi_k (by omega), qi_k (by omega)]
    exact h7 j t ht
/-- the same, the count of ( and ! as it was -/
theorem MSt.push2 {p s : Nat} {w : qW} {st : List Nat} {e : List Tk} (h : MSt w0 c x0 w p st e) (hs : s < 200) (hn : opN (s :: st) = opN st) : MSt w0 c x0 (qpi (qpi (qpi w 130 st.length (nI s)) 115 26 (nI (st.length + 1))) 115 15 (nI (p + 1))) (p + 1) (s :: st) e := by
  obtain ⟨⟨a1, a2, a3⟩, h2, h3, h4, h5, h6, h7⟩ := h
  refine ⟨⟨a1, ((a2.pi (by unfold jE; omega)).pi (by unfold jE; omega)).pi (by unfold jE; omega), qi_eq rfl rfl⟩, ?_, ?_, ?_, ?_, fun x hx => ?_, fun j t ht => ?_⟩
  · rw [qi_j (by decide), qi_j (by decide), qi_k (by decide)]; exact h2
  · rw [qi_j (by decide), qi_eq rfl rfl]
    rfl
  · rw [qi_j (by decide), qi_j (by decide), qi_k (by decide), h4, hn]
  · exact (h5.push s).of (fun x _ => by rw [qi_k (by omega), qi_k (by omega)])
  · rcases List.mem_cons.mp hx with z | z
    · rw [z]; exact hs
    · exact h6 x z
  · rw [qi_k (by omega), qi_k (by omega), qi_k (by omega)]
    exact h7 j t ht
/-- a ( less -/
theorem MSt.close {p : Nat} {w : qW} {st : List Nat} {e : List Tk} (h : MSt w0 c x0 w p (40 :: st) e) : MSt w0 c x0 (qpi (qpi (qpi w 115 26 (nI st.length)) 115 27 (nI (opN st))) 115 15 (nI (p + 1))) (p + 1) st e := by
  obtain ⟨⟨a1, a2, a3⟩, h2, h3, h4, h5, h6, h7⟩ := h
  refine ⟨⟨a1, ((a2.pi (by unfold jE; omega)).pi (by unfold jE; omega)).pi (by unfold jE; omega), qi_eq rfl rfl⟩, ?_, ?_, ?_, (h5.pop).of (fun x _ => ?_), fun s hs => h6 s (List.mem_cons_of_mem _ hs), fun j t ht => ?_⟩
  · rw [qi_j (by decide), qi_j (by decide), qi_j (by decide)]; exact h2
  · rw [qi_j (by decide), qi_j (by decide), qi_eq rfl rfl]
  · rw [qi_j (by decide), qi_eq rfl rfl]
  · rw [qi_k (by omega), qi_k (by omega), qi_k (by omega)]
  · rw [qi_k (by omega), qi_k (by omega), qi_k (by omega)]
    exact h7 j t ht
def mF (E : qE) (S : Nat → Nat) (L c x0 B : Nat) (w0 : qW) (n : Nat) : Prop := ∀ (d : Nat) (Q : qW → Int32 → Prop) (w : qW) (p : Nat) (st : List Nat) (e : List Tk), opN st ≤ 4 → 2 * (101 - p) ≤ n → p ≤ L → x0 + e.length + st.length ≤ B + p → MSt w0 c x0 w p st e → hR (pF S n (opN st) p) (fun q => ∀ w1, MJ w0 c x0 w1 q → Q w1 0) (fun t q => ∀ w1, MSt w0 c x0 w1 q (drN st) (e ++ t ++ noN st) → c_Mo_takesE_22 d E Q (nI c) 0 w1) → c_Mo_takesE_22 d E Q (nI c) 1 w
def mE (E : qE) (S : Nat → Nat) (L c x0 B : Nat) (w0 : qW) (n : Nat) : Prop := ∀ (d : Nat) (Q : qW → Int32 → Prop) (w : qW) (p : Nat) (a b : Bool) (base : List Nat) (e : List Tk), okB base → opN base ≤ 4 → 2 * (101 - p) + 1 ≤ n → p ≤ L → x0 + e.length + (opS a b ++ base).length ≤ B + p → MSt w0 c x0 w p (opS a b ++ base) e → hR (pE S n a b (opN base) p) (fun q => ∀ w1, MJ w0 c x0 w1 q → Q w1 0) (fun t q => (base = [] → ∀ w1, MSt w0 c x0 w1 q [] (e ++ t) → qi w1 128 c = nI (x0 + (e ++ t).length) → Q w1 1) ∧ (∀ st, base = 40 :: st → (S q = 41 → ∀ w1, MSt w0 c x0 w1 (q + 1) (drN st) (e ++ t ++ noN st) → c_Mo_takesE_22 d E Q (nI c) 0 w1) ∧ (¬ S q = 41 → ∀ w1, MJ w0 c x0 w1 q → Q w1 0))) → c_Mo_takesE_22 d E Q (nI c) 1 w
set_option maxHeartbeats 1000000 in
theorem step_mF (hr : rdM S L w0) (hB : B ≤ 500 ∧ B ≤ x0) {n : Nat} (iF : mF E S L c x0 B w0 n) (iE : mE E S L c x0 B w0 n) : mF E S L c x0 B w0 (n + 1) := by
  intro d Q w p st e ho hn hl hb h hQ
  have hS := hr.2.1
  have hL := hr.2.2.1
  have hL1 := hr.1
  have hQ : hR (stF S (pF S n) (pE S n) (opN st) p) (fun q => ∀ w1, MJ w0 c x0 w1 q → Q w1 0) (fun t q => ∀ w1, MSt w0 c x0 w1 q (drN st) (e ++ t ++ noN st) → c_Mo_takesE_22 d E Q (nI c) 0 w1) := hQ
  unfold stF at hQ
  have e40 : sgI S L p = 40 ↔ S p = 40 := sg_eq (c := 40) hS hL (by omega) (by omega)
  have e33 : sgI S L p = 33 ↔ S p = 33 := sg_eq (c := 33) hS hL (by omega) (by omega)
  have k4 : qi w 115 27 = nI (opN st) := h.2.2.2.1
  have k26 : qi w 115 26 = nI st.length := h.2.2.1
  have k15 : qi w 115 15 = nI p := h.1.2.2
  have four : (4 : Int32) = nI 4 := rfl
  have sg : ∀ v : Nat, 0 < v → v < 200 → S p = v → sgI S L p = nI v := fun v h0 h1 hv => (sg_eq hS hL h0 (by omega)).mpr hv
  refine s_Mo_takesE_22 h.1.1 (m_next h.1.1 (h.rd hr) k15 hl ⟨fun y => absurd y (by decide), fun _ => ⟨fun z1 => ⟨fun z2 => ?_, fun z2 => ?_⟩, fun z1 => ⟨fun z2 => ?_, fun z2 => ⟨fun z3 => ?_, fun z3 => ?_⟩⟩⟩⟩)
  · rw [e33] at z1
    have lp := lt_L hL (p := p) (by omega)
    rw [k4, four, neq (by omega) (by omega)] at z2
    rw [if_neg (by omega), if_pos z1, if_neg (by omega), hR_mR] at hQ
    simp (disch := first | decide | omega) only [k4, k26, k15, n1, qi_eq, qi_j, qi_k, ncl, sg 33 (by omega) (by omega) z1]
    refine ⟨nvp (by omega) (by omega), iF d Q _ (p + 1) (33 :: st) e (by rw [opN_33]; omega) (by omega) (by omega) ?_ (h.push (by omega) rfl) ?_⟩
    · show x0 + e.length + (st.length + 1) ≤ B + (p + 1)
      omega
    · refine hQ.mono (fun q z => z) (fun t q _ z w1 h1 => z w1 ?_)
      have e1 : drN (33 :: st) = drN st := rfl
      have e2 : noN (33 :: st) = (8, 0, 0) :: noN st := rfl
      rw [e1, e2] at h1
      have e3 : e ++ (t ++ [(8, 0, 0)]) ++ noN st = e ++ t ++ ((8, 0, 0) :: noN st) := by simp
      rw [e3]
      exact h1
  · rw [e33] at z1
    rw [k4, four, neq (by omega) (by omega)] at z2
    rw [if_neg (by omega), if_pos z1, if_pos (by omega)] at hQ
    exact hQ w h.1
  · rw [e33] at z1
    rw [e40] at z2
    rw [if_neg z2, if_neg z1] at hQ
    refine m_test hr hB h hl hb (hQ.mono (fun q z w1 h1 => ⟨fun _ => z w1 h1, fun y => absurd rfl y⟩) (fun t q _ z w1 h1 => ⟨fun y => absurd y (by decide), fun _ => z w1 h1⟩))
  · rw [e40] at z2
    have lp := lt_L hL (p := p) (by omega)
    rw [k4, four, neq (by omega) (by omega)] at z3
    rw [if_pos z2, if_neg (by omega), hR_mR] at hQ
    simp (disch := first | decide | omega) only [k4, k26, k15, n1, qi_eq, qi_j, qi_k, ncl, sg 40 (by omega) (by omega) z2]
    refine ⟨nvp (by omega) (by omega), iE d Q _ (p + 1) false false (40 :: st) e (Or.inr ⟨st, rfl⟩) (by rw [opN_40]; omega) (by omega) (by omega) ?_ (h.push (by omega) rfl) ?_⟩
    · show x0 + e.length + (st.length + 1) ≤ B + (p + 1)
      omega
    · refine hQ.mono (fun q z => z) (fun t q _ z => ⟨fun y => absurd y (by simp), fun st' hst => ?_⟩)
      have hst : st = st' := (List.cons.inj hst).2
      subst hst
      have z : hR (if S q = 41 then (some t, q + 1) else (none, q)) (fun q => ∀ w1, MJ w0 c x0 w1 q → Q w1 0) (fun t q => ∀ w1, MSt w0 c x0 w1 q (drN st) (e ++ t ++ noN st) → c_Mo_takesE_22 d E Q (nI c) 0 w1) := z
      refine ⟨fun y => ?_, fun y => ?_⟩
      · rw [if_pos y] at z
        exact z
      · rw [if_neg y] at z
        exact z
  · rw [e40] at z2
    rw [k4, four, neq (by omega) (by omega)] at z3
    rw [if_pos z2, if_pos (by omega)] at hQ
    exact hQ w h.1
set_option maxHeartbeats 1000000 in
theorem step_mE (hr : rdM S L w0) (hB : B ≤ 500 ∧ B ≤ x0) (hc : c < 60) {n : Nat} (iF : mF E S L c x0 B w0 n) (iE : mE E S L c x0 B w0 n) : mE E S L c x0 B w0 (n + 1) := by
  intro d Q w p a b base e hk ho hn hl hb h hQ
  have hS := hr.2.1
  have hL := hr.2.2.1
  have hL1 := hr.1
  have hQ : hR (stE S (pF S n) (pE S n) a b (opN base) p) (fun q => ∀ w1, MJ w0 c x0 w1 q → Q w1 0) (fun t q => (base = [] → ∀ w1, MSt w0 c x0 w1 q [] (e ++ t) → qi w1 128 c = nI (x0 + (e ++ t).length) → Q w1 1) ∧ (∀ st, base = 40 :: st → (S q = 41 → ∀ w1, MSt w0 c x0 w1 (q + 1) (drN st) (e ++ t ++ noN st) → c_Mo_takesE_22 d E Q (nI c) 0 w1) ∧ (¬ S q = 41 → ∀ w1, MJ w0 c x0 w1 q → Q w1 0))) := hQ
  unfold stE at hQ
  rw [hR_mR] at hQ
  have hlen := opS_l a b base
  refine iF d Q w p (opS a b ++ base) e (by rw [opS_n]; exact ho) (by omega) hl hb h ?_
  rw [opS_n]
  rcases er : pF S n (opN base) p with ⟨_ | t, q⟩
  · rw [er] at hQ
    exact hQ
  rw [er] at hQ
  obtain ⟨g1, g2, g3, -⟩ := (g_all hL n).1 _ _ _ _ er
  have hQ : hR (if S q = 38 then mR (pE S n true b (opN base) (q + 1)) (fun t' q' => (some (t ++ flT a false ++ t'), q')) else if S q = 124 then mR (pE S n false true (opN base) (q + 1)) (fun t' q' => (some (t ++ flT a b ++ t'), q')) else (some (t ++ flT a b), q)) (fun q => ∀ w1, MJ w0 c x0 w1 q → Q w1 0) (fun t q => (base = [] → ∀ w1, MSt w0 c x0 w1 q [] (e ++ t) → qi w1 128 c = nI (x0 + (e ++ t).length) → Q w1 1) ∧ (∀ st, base = 40 :: st → (S q = 41 → ∀ w1, MSt w0 c x0 w1 (q + 1) (drN st) (e ++ t ++ noN st) → c_Mo_takesE_22 d E Q (nI c) 0 w1) ∧ (¬ S q = 41 → ∀ w1, MJ w0 c x0 w1 q → Q w1 0))) := hQ
  intro w1 h1
  obtain ⟨d1, d2⟩ := opS_d hk a b
  rw [d1, d2, List.append_nil] at h1
  have e38 : sgI S L q = 38 ↔ S q = 38 := sg_eq (c := 38) hS hL (by omega) (by omega)
  have e124 : sgI S L q = 124 ↔ S q = 124 := sg_eq (c := 124) hS hL (by omega) (by omega)
  have e41 : sgI S L q = 41 ↔ S q = 41 := sg_eq (c := 41) hS hL (by omega) (by omega)
  have hb1 : x0 + (e ++ t).length + (opS a b ++ base).length ≤ B + q := by
    rw [List.length_append]
    omega
  have la : (a.toNat ≤ 1) := by cases a <;> decide
  have lb : (b.toNat ≤ 1) := by cases b <;> decide
  have sg : ∀ v : Nat, 0 < v → v < 200 → S q = v → sgI S L q = nI v := fun v h0 h1 hv => (sg_eq hS hL h0 (by omega)).mpr hv
  refine s_Mo_takesE_22 h1.1.1 (m_next h1.1.1 (h1.rd hr) h1.1.2.2 g2 ⟨fun _ => ⟨fun z1 => ?_, fun z1 => ⟨fun z2 => ?_, fun z2 => ?_⟩⟩, fun y => absurd rfl y⟩)
  · -- and
    rw [e38] at z1
    rw [if_pos z1, hR_mR] at hQ
    have lq := lt_L hL (p := q) (by omega)
    obtain ⟨f1, f2⟩ := opS_38 hk a b
    rw [sg 38 (by omega) (by omega) z1]
    refine en_Mo_settle h1.1.1 (m_settle (Or.inl rfl) hB (by omega) _ _ w1 h1 hb1 (fun w4 h4 => ?_))
    rw [f1, f2] at h4
    have hl4 := opS_l false b base
    have hfl := flT_l a false
    simp only [Bool.toNat_false, Nat.add_zero, Nat.zero_add] at hl4 hfl
    have k26 : qi w4 115 26 = nI (opS false b ++ base).length := h4.2.2.1
    have k15 : qi w4 115 15 = nI q := h4.1.2.2
    simp (disch := first | decide | omega) only [k26, k15, n1, qi_eq, qi_j, qi_k, ncl]
    refine ⟨nvp (by omega) (by omega), iE d Q _ (q + 1) true b base (e ++ t ++ flT a false) hk ho (by omega) (by omega) ?_ (h4.push2 (by omega) rfl) ?_⟩
    · rw [List.length_append, List.length_append, hfl, opS_l true b base]
      rw [List.length_append, hlen] at hb1
      simp only [Bool.toNat_true]
      omega
    · refine hQ.mono (fun q z => z) (fun t' q' _ z => ?_)
      have ea : e ++ (t ++ flT a false ++ t') = e ++ t ++ flT a false ++ t' := by simp
      rw [← ea]
      exact z
  · -- the end
    rw [e38] at z1
    rw [e124] at z2
    rw [if_neg z1, if_neg z2] at hQ
    obtain ⟨f1, f2⟩ := opS_124 hk a b
    refine en_Mo_settle h1.1.1 (m_settle (cc := 124) (Or.inr rfl) hB (by omega) _ _ w1 h1 hb1 (fun w7 h7 => ?_))
    rw [f1, f2] at h7
    have hcc : (nI c).toNatClampNeg = c := ncl (by omega)
    have k25 : qi w7 115 25 = nI (x0 + (e ++ t ++ flT a b).length) := h7.2.1
    rw [hcc, k25]
    have h8 : MSt w0 c x0 (qpi w7 128 c (nI (x0 + (e ++ t ++ flT a b).length))) q base (e ++ t ++ flT a b) := by
      obtain ⟨⟨a1, a2, a3⟩, y2, y3, y4, y5, y6, y7⟩ := h7
      refine ⟨⟨a1, a2.pi (by unfold jE; omega), ?_⟩, ?_, ?_, ?_, y5.of (fun x _ => qi_k (by omega)), y6, fun j t ht => ?_⟩
      · rw [qi_k (by omega)]; exact a3
      · rw [qi_k (by omega)]; exact y2
      · rw [qi_k (by omega)]; exact y3
      · rw [qi_k (by omega)]; exact y4
      · rw [qi_k (by omega)]; exact y7 j t ht
    have v8 : qi (qpi w7 128 c (nI (x0 + (e ++ t ++ flT a b).length))) 128 c = nI (x0 + (e ++ t ++ flT a b).length) := qi_eq rfl rfl
    generalize qpi w7 128 c (nI (x0 + (e ++ t ++ flT a b).length)) = V at h8 v8
    refine ⟨nvp hc (by omega), ?_⟩
    have k26 : qi V 115 26 = nI base.length := h8.2.2.1
    obtain ⟨hQ1, hQ2⟩ := hQ
    have ea : e ++ (t ++ flT a b) = e ++ t ++ flT a b := by simp
    rw [ea] at hQ1 hQ2
    have hfl := flT_l a b
    rw [List.length_append, hlen] at hb1
    rcases hk with hk | ⟨st, hk⟩
    · subst hk
      rw [k26]
      exact ⟨fun y => absurd rfl y, fun _ => hQ1 rfl V h8 v8⟩
    · subst hk
      obtain ⟨q1, q2⟩ := hQ2 st rfl
      have k27 : qi V 115 27 = nI (opN st + 1) := h8.2.2.2.1
      have k15 : qi V 115 15 = nI q := h8.1.2.2
      have k26 : qi V 115 26 = nI (st.length + 1) := k26
      simp only [List.length_cons] at hb1
      refine ⟨fun _ => ⟨fun z3 => ?_, fun z3 => ?_⟩, fun y => absurd y ?_⟩
      · rw [e41] at z3
        have lq := lt_L hL (p := q) (by omega)
        simp (disch := first | decide | omega) only [k26, k27, k15, nI_pred, n1, qi_eq, qi_j, qi_k]
        refine en_Mo_whole h8.1.1 (m_whole hB (by omega) st _ _ h8.close ?_ (fun w9 h9 => q1 z3 w9 h9))
        rw [List.length_append, List.length_append, hfl]
        omega
      · rw [e41] at z3
        exact q2 z3 V h8.1
      · rw [k26, show (0 : Int32) = nI 0 from rfl, neq (by omega) (by omega)]
        omega
  · -- or
    rw [e124] at z2
    rw [e38] at z1
    rw [if_neg z1, if_pos z2, hR_mR] at hQ
    have lq := lt_L hL (p := q) (by omega)
    obtain ⟨f1, f2⟩ := opS_124 hk a b
    rw [sg 124 (by omega) (by omega) z2]
    refine en_Mo_settle h1.1.1 (m_settle (Or.inr rfl) hB (by omega) _ _ w1 h1 hb1 (fun w4 h4 => ?_))
    rw [f1, f2] at h4
    have hfl := flT_l a b
    have k26 : qi w4 115 26 = nI base.length := h4.2.2.1
    have k15 : qi w4 115 15 = nI q := h4.1.2.2
    simp (disch := first | decide | omega) only [k26, k15, n1, qi_eq, qi_j, qi_k, ncl]
    refine ⟨nvp (by omega) (by omega), iE d Q _ (q + 1) false true base (e ++ t ++ flT a b) hk ho (by omega) (by omega) ?_ (h4.push2 (by omega) rfl) ?_⟩
    · rw [List.length_append, List.length_append, hfl, opS_l false true base]
      rw [List.length_append, hlen] at hb1
      simp only [Bool.toNat_true, Bool.toNat_false]
      omega
    · refine hQ.mono (fun q z => z) (fun t' q' _ z => ?_)
      have ea : e ++ (t ++ flT a b ++ t') = e ++ t ++ flT a b ++ t' := by simp
      rw [← ea]
      exact z
theorem m_all (hr : rdM S L w0) (hB : B ≤ 500 ∧ B ≤ x0) (hc : c < 60) : ∀ n, mF E S L c x0 B w0 n ∧ mE E S L c x0 B w0 n := by
  have hL1 := hr.1
  intro n
  induction n with
  | zero => exact ⟨fun d Q w p st e h1 h2 h3 => by omega, fun d Q w p a b base e h0 h1 h2 => by omega⟩
  | succ n ih => exact ⟨step_mF hr hB ih.1 ih.2, step_mE hr hB hc ih.1 ih.2⟩
/-- the model reads an expression into place c -/
theorem m_takesE {d p : Nat} {w : qW} {Q : qW → Int32 → Prop} (hw : Sh w) (hr : rdM S L w) (hp : qi w 115 15 = nI p) (hl : p ≤ L) (hx : qi w 115 25 = nI x0) (hc : c < 60) (hB : B ≤ 500 ∧ B ≤ x0) (hb : x0 ≤ B + p) (hQ : hR (pE S 203 false false 0 p) (fun q => ∀ w1, Sh w1 → Fr (fun k j => jE c x0 k j ∨ (k = 127 ∧ j = c)) w w1 → qi w1 115 15 = nI q → Q w1 0) (fun t q => ∀ w1, Sh w1 → Fr (fun k j => jE c x0 k j ∨ (k = 127 ∧ j = c)) w w1 → qi w1 115 15 = nI q → qi w1 115 25 = nI (x0 + t.length) → qi w1 127 c = nI x0 → qi w1 128 c = nI (x0 + t.length) → (∀ j t', t[j]? = some t' → qi w1 129 (x0 + j) = mcT t') → Q w1 1)) : CaI (d + 4) M_Mo_takesE [.ref (qb E + 115), .int (nI c)] E w Q := by
  refine en_Mo_takesE hw (s_Mo_takesE_0 hw ⟨nvp hc (by omega), ?_⟩)
  have e25 : qi (qpi (qpi w 115 26 0) 115 27 0) 115 25 = nI x0 := by
    rw [qi_j (by decide), qi_j (by decide)]
    exact hx
  rw [e25, ncl (by omega)]
  have f0 : Fr (fun k j => jE c x0 k j ∨ (k = 127 ∧ j = c)) w (qpi (qpi (qpi w 115 26 0) 115 27 0) 127 c (nI x0)) := ((Fr.rf.pi (by unfold jE; omega)).pi (by unfold jE; omega)).pi (by unfold jE; omega)
  have r0 : rdM S L (qpi (qpi (qpi w 115 26 0) 115 27 0) 127 c (nI x0)) := hr.fr (((Fr.rf.pi (by unfold jMr; omega)).pi (by unfold jMr; omega)).pi (by unfold jMr; omega))
  have h0 : MSt (qpi (qpi (qpi w 115 26 0) 115 27 0) 127 c (nI x0)) c x0 (qpi (qpi (qpi w 115 26 0) 115 27 0) 127 c (nI x0)) p [] [] := by
    refine ⟨⟨hw, Fr.rf, ?_⟩, ?_, ?_, ?_, fun x hx => absurd hx (Nat.not_lt_zero x), fun s hs => absurd hs (by simp), fun j t ht => absurd ht (by simp)⟩
    · rw [qi_k (by omega), qi_j (by decide), qi_j (by decide)]; exact hp
    · rw [qi_k (by omega)]; exact e25
    · rw [qi_k (by omega), qi_j (by decide), qi_eq rfl rfl]; rfl
    · rw [qi_k (by omega), qi_eq rfl rfl]; rfl
  have v0 : qi (qpi (qpi (qpi w 115 26 0) 115 27 0) 127 c (nI x0)) 127 c = nI x0 := qi_eq rfl rfl
  generalize qpi (qpi (qpi w 115 26 0) 115 27 0) 127 c (nI x0) = w0 at f0 r0 h0 v0
  have ff : ∀ {w1 : qW}, Fr (jE c x0) w0 w1 → Fr (fun k j => jE c x0 k j ∨ (k = 127 ∧ j = c)) w w1 := fun hf => f0.tr (hf.mono (fun k j z => Or.inl z))
  refine (m_all (B := B) r0 hB hc 203).2 d Q w0 p false false [] [] (Or.inl rfl) (Nat.zero_le _) (by omega) hl (by show x0 + 0 + 0 ≤ B + p; omega) h0 ?_
  refine hQ.mono (fun q z w1 h1 => z w1 h1.1 (ff h1.2.1) h1.2.2) (fun t q _ z => ⟨fun _ w1 h1 k128 => ?_, fun st hst => absurd hst (by simp)⟩)
  rw [List.nil_append] at h1 k128
  refine z w1 h1.1.1 (ff h1.1.2.1) h1.1.2.2 h1.2.1 ?_ k128 h1.2.2.2.2.2.2
  rw [(h1.1.2.1 127 c (by unfold jE; omega)).1]
  exact v0
end RG
