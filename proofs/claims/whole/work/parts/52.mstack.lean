/-! the model reads: its stack, its signs, a test -/
section RS
variable {d : Nat} {E : qE} {S : Nat → Nat} {L p q c x0 B : Nat} {w w0 w1 : qW} {e : List Tk} {st : List Nat}
def jE (c x0 k j : Nat) : Prop := (k = 115 ∧ (j = 15 ∨ j = 16 ∨ (25 ≤ j ∧ j ≤ 27))) ∨ (k = 128 ∧ j = c) ∨ (k = 129 ∧ x0 ≤ j) ∨ k = 130
def MJ (w0 : qW) (c x0 : Nat) (w : qW) (q : Nat) : Prop := Sh w ∧ Fr (jE c x0) w0 w ∧ qi w 115 15 = nI q
def WL (w : qW) (st : List Nat) : Prop := ∀ x, x < st.length → qi w 130 x = nI (st.getD (st.length - 1 - x) 0)
theorem WL.top {s : Nat} (h : WL w (s :: st)) : qi w 130 st.length = nI s := by
  have := h st.length (by simp)
  simpa using this
theorem WL.pop {s : Nat} (h : WL w (s :: st)) : WL w st := by
  intro x hx
  have := h x (by simp; omega)
  rw [this]
  congr 1
  rw [show (s :: st).length - 1 - x = (st.length - 1 - x) + 1 by simp; omega, List.getD_cons_succ]
theorem WL.push (s : Nat) (h : WL w st) : WL (qpi w 130 st.length (nI s)) (s :: st) := by
  intro x hx
  by_cases e : x = st.length
  · subst e
    rw [qi_eq rfl rfl]
    simp
  · have hx : x < st.length := by simp at hx; omega
    rw [qi_j e, h x hx]
    congr 1
    rw [show (s :: st).length - 1 - x = (st.length - 1 - x) + 1 by simp; omega, List.getD_cons_succ]
theorem WL.of (h : WL w st) (g : ∀ x, x < st.length → qi w1 130 x = qi w 130 x) : WL w1 st := fun x hx => by rw [g x hx]; exact h x hx
/-- how many ( and ! wait -/
def opN : List Nat → Nat
  | [] => 0
  | s :: r => opN r + (if s = 33 ∨ s = 40 then 1 else 0)
def MSt (w0 : qW) (c x0 : Nat) (w : qW) (p : Nat) (st : List Nat) (e : List Tk) : Prop := MJ w0 c x0 w p ∧ qi w 115 25 = nI (x0 + e.length) ∧ qi w 115 26 = nI st.length ∧ qi w 115 27 = nI (opN st) ∧ WL w st ∧ (∀ s ∈ st, s < 200) ∧ (∀ j t, e[j]? = some t → qi w 129 (x0 + j) = mcT t)
theorem MSt.rd (h : MSt w0 c x0 w p st e) (hr : rdM S L w0) : rdM S L w := hr.fr (h.1.2.1.mono (fun k j z => by unfold jE at z; unfold jMr; omega))
theorem MJ.rd (h : MJ w0 c x0 w p) (hr : rdM S L w0) : rdM S L w := hr.fr (h.2.1.mono (fun k j z => by unfold jE at z; unfold jMr; omega))
theorem MJ.mv (h : MJ w0 c x0 w p) (hm : MvM w w1 q) : MJ w0 c x0 w1 q := ⟨hm.1, h.2.1.tr (hm.2.1.mono (fun k j z => by unfold jE; omega)), hm.2.2⟩
theorem MSt.mv (h : MSt w0 c x0 w p st e) (hm : MvM w w1 q) : MSt w0 c x0 w1 q st e := by
  obtain ⟨h1, h2, h3, h4, h5, h6, h7⟩ := h
  have g : ∀ k j, ¬ (k = 115 ∧ (j = 15 ∨ j = 16)) → qi w1 k j = qi w k j := fun k j z => (hm.2.1 k j z).1
  refine ⟨h1.mv hm, ?_, ?_, ?_, h5.of (fun x _ => g _ _ (by omega)), h6, fun j t ht => ?_⟩
  · rw [g _ _ (by omega)]; exact h2
  · rw [g _ _ (by omega)]; exact h3
  · rw [g _ _ (by omega)]; exact h4
  · rw [g _ _ (by omega)]; exact h7 j t ht
theorem m_emit {Q : qW → Prop} {v : Int32} {y : Nat} (hw : Sh w) (hs : qi w 115 25 = nI y) (hy : y < 600) (hQ : ∀ w1, Sh w1 → Fr (fun k j => (k = 115 ∧ j = 25) ∨ (k = 129 ∧ j = y)) w w1 → qi w1 115 25 = nI (y + 1) → qi w1 129 y = v → Q w1) : CaV d M_Mo_emits [.ref (qb E + 115), .int v] E w Q := by
  refine en_Mo_emits hw (s_Mo_emits_0 hw ⟨by rw [hs]; exact nvp hy (by omega), ?_⟩)
  rw [hs, ncl (by omega), qi_k (a := 115) (by omega), hs, n1]
  refine hQ _ hw ((Fr.rf.pi (Or.inr ⟨rfl, rfl⟩)).pi (Or.inl ⟨rfl, rfl⟩)) (qi_eq rfl rfl) ?_
  rw [qi_k (by omega), qi_eq rfl rfl]
/-- a sign more, the stack as it was -/
theorem m_sign {Q : qW → Prop} {t : Tk} {v : Int32} (h : MSt w0 c x0 w p st e) (hx : x0 + e.length < 600) (hv : v = mcT t) (hQ : ∀ w1, MSt w0 c x0 w1 p st (e ++ [t]) → Q w1) : CaV d M_Mo_emits [.ref (qb E + 115), .int v] E w Q := by
  obtain ⟨⟨a1, a2, a3⟩, h2, h3, h4, h5, h6, h7⟩ := h
  refine m_emit a1 h2 hx (fun w1 b1 b2 b3 b4 => hQ w1 ?_)
  have g : ∀ k j, ¬ ((k = 115 ∧ j = 25) ∨ (k = 129 ∧ j = x0 + e.length)) → qi w1 k j = qi w k j := fun k j z => (b2 k j z).1
  refine ⟨⟨b1, a2.tr (b2.mono (fun k j z => by unfold jE; omega)), ?_⟩, ?_, ?_, ?_, h5.of (fun x _ => g _ _ (by omega)), h6, fun j t' ht => ?_⟩
  · rw [g _ _ (by omega)]; exact a3
  · rw [b3, List.length_append]
    rfl
  · rw [g _ _ (by omega)]; exact h3
  · rw [g _ _ (by omega)]; exact h4
  · rcases getl ht with ⟨e1, e2⟩ | ⟨e1, e2⟩
    · rw [e1, e2, b4, hv]
    · rw [g _ _ (by omega)]
      exact h7 j t' e2
theorem opN_33 (st : List Nat) : opN (33 :: st) = opN st + 1 := rfl
theorem opN_40 (st : List Nat) : opN (40 :: st) = opN st + 1 := rfl
theorem opN_38 (st : List Nat) : opN (38 :: st) = opN st := rfl
theorem opN_124 (st : List Nat) : opN (124 :: st) = opN st := rfl
theorem opN_le (st : List Nat) : opN st ≤ st.length := by
  induction st with
  | nil => exact Nat.le_refl _
  | cons s r ih =>
    show opN r + (if s = 33 ∨ s = 40 then 1 else 0) ≤ r.length + 1
    split <;> omega
/-- what waits for a factor's end -/
def drN : List Nat → List Nat
  | [] => []
  | s :: r => if s = 33 then drN r else s :: r
def noN : List Nat → List Tk
  | [] => []
  | s :: r => if s = 33 then (8, 0, 0) :: noN r else []
theorem m_whole {Q : qW → Prop} (hB : B ≤ 500 ∧ B ≤ x0) (hp : p ≤ 100) : ∀ (st : List Nat) (e : List Tk) (w : qW), MSt w0 c x0 w p st e → x0 + e.length + st.length ≤ B + p → (∀ w1, MSt w0 c x0 w1 p (drN st) (e ++ noN st) → Q w1) → c_Mo_whole_0 d E Q w := by
  have z0 : (0 : Int32) = nI 0 := rfl
  intro st
  induction st with
  | nil =>
    intro e w h hb hQ
    have hq : Q w := hQ w (by
      rw [show e ++ noN [] = e from List.append_nil e]
      exact h)
    refine s_Mo_whole_0 h.1.1 ⟨fun _ => hq, fun z => absurd ?_ z⟩
    rw [h.2.2.1]
    exact Int32.le_refl _
  | cons s st ih =>
    intro e w h hb hQ
    obtain ⟨⟨a1, a2, a3⟩, h2, h3, h4, h5, h6, h7⟩ := id h
    simp only [List.length_cons] at hb h3
    have hs := h6 s List.mem_cons_self
    refine s_Mo_whole_0 a1 ⟨fun z => absurd z ?_, fun _ => ?_⟩
    · rw [h3, z0, nle (by omega) (by omega)]
      omega
    rw [h3, nI_pred, ncl (by omega), h5.top, show (33 : Int32) = nI 33 from rfl, neq (by omega) (by omega)]
    refine ⟨nvp (by omega) (by omega), fun z => ?_, fun z => ?_⟩
    · refine hQ w ?_
      have e1 : drN (s :: st) = s :: st := if_neg z
      have e2 : noN (s :: st) = [] := if_neg z
      rw [e1, e2, List.append_nil]
      exact h
    · subst z
      refine m_sign (t := (8, 0, 0)) h (by omega) rfl (fun w1 h1 => ?_)
      obtain ⟨⟨b1, b2, b3⟩, k2, k3, k4, k5, k6, k7⟩ := h1
      simp only [List.length_cons] at k3
      rw [k3, nI_pred, qi_j (a := 115) (by decide), k4, opN_33, nI_pred]
      refine ih (e ++ [(8, 0, 0)]) _ ?_ ?_ (fun w2 h2 => hQ w2 ?_)
      · refine ⟨⟨b1, (b2.pi (by unfold jE; omega)).pi (by unfold jE; omega), ?_⟩, ?_, ?_, ?_, (k5.pop).of (fun x _ => ?_), fun s hs => k6 s (List.mem_cons_of_mem _ hs), fun j t ht => ?_⟩
        · rw [qi_j (by decide), qi_j (by decide)]; exact b3
        · rw [qi_j (by decide), qi_j (by decide)]; exact k2
        · rw [qi_j (by decide), qi_eq rfl rfl]
        · rw [qi_eq rfl rfl]
        · rw [qi_k (by omega), qi_k (by omega)]
        · rw [qi_k (by omega), qi_k (by omega)]; exact k7 j t ht
      · rw [List.length_append]
        show x0 + (e.length + 1) + st.length ≤ B + p
        omega
      · have e1 : drN (33 :: st) = drN st := rfl
        have e2 : noN (33 :: st) = (8, 0, 0) :: noN st := rfl
        rw [e1, e2]
        rw [List.append_assoc] at h2
        exact h2
/-- an operator's sign -/
def tkO (s : Nat) : Tk := if s = 38 then (6, 0, 0) else (7, 0, 0)
def drS (cc : Nat) : List Nat → List Nat
  | [] => []
  | s :: r => if s = 38 ∨ (s = 124 ∧ ¬ cc = 38) then drS cc r else s :: r
def emS (cc : Nat) : List Nat → List Tk
  | [] => []
  | s :: r => if s = 38 ∨ (s = 124 ∧ ¬ cc = 38) then tkO s :: emS cc r else []
theorem m_pop {Q : qW → Prop} {s : Nat} (hB : B ≤ 500 ∧ B ≤ x0) (hp : p ≤ 100) (h : MSt w0 c x0 w p (s :: st) e) (hb : x0 + e.length + (st.length + 1) ≤ B + p) (hs : s = 38 ∨ s = 124) (hQ : ∀ w1, MSt w0 c x0 w1 p st (e ++ [tkO s]) → Q w1) : vp_in (qi (qpi w 115 26 (nI st.length)) 115 26) 101 ∧ CaV d M_Mo_emits [.ref (qb E + 115), .int (-(qi (qpi w 115 26 (nI st.length)) 130 ((qi (qpi w 115 26 (nI st.length)) 115 26).toNatClampNeg)))] E (qpi w 115 26 (nI st.length)) Q := by
  obtain ⟨⟨a1, a2, a3⟩, h2, h3, h4, h5, h6, h7⟩ := h
  have e26 : qi (qpi w 115 26 (nI st.length)) 115 26 = nI st.length := qi_eq rfl rfl
  have e130 : qi (qpi w 115 26 (nI st.length)) 130 st.length = nI s := by
    rw [qi_k (by omega)]
    exact h5.top
  rw [e26, ncl (by omega), e130]
  refine ⟨nvp (by omega) (by omega), m_sign (t := tkO s) (w := qpi w 115 26 (nI st.length)) ?_ (by omega) ?_ hQ⟩
  · refine ⟨⟨a1, a2.pi (by unfold jE; omega), ?_⟩, ?_, e26, ?_, (h5.pop).of (fun x _ => ?_), fun s hs => h6 s (List.mem_cons_of_mem _ hs), fun j t ht => ?_⟩
    · rw [qi_j (by decide)]; exact a3
    · rw [qi_j (by decide)]; exact h2
    · rw [qi_j (by decide), h4]
      rcases hs with rfl | rfl <;> rfl
    · rw [qi_k (by omega)]
    · rw [qi_k (by omega)]; exact h7 j t ht
  · rcases hs with rfl | rfl <;> rfl
theorem m_settle {Q : qW → Prop} {cc : Nat} (hcc : cc = 38 ∨ cc = 124) (hB : B ≤ 500 ∧ B ≤ x0) (hp : p ≤ 100) : ∀ (st : List Nat) (e : List Tk) (w : qW), MSt w0 c x0 w p st e → x0 + e.length + st.length ≤ B + p → (∀ w1, MSt w0 c x0 w1 p (drS cc st) (e ++ emS cc st) → Q w1) → c_Mo_settle_0 d E Q (nI cc) w := by
  have z0 : (0 : Int32) = nI 0 := rfl
  intro st
  induction st with
  | nil =>
    intro e w h hb hQ
    have hq : Q w := hQ w (by
      rw [show e ++ emS cc [] = e from List.append_nil e]
      exact h)
    refine s_Mo_settle_0 h.1.1 ⟨fun _ => hq, fun z => absurd ?_ z⟩
    rw [h.2.2.1]
    exact Int32.le_refl _
  | cons s st ih =>
    intro e w h hb hQ
    obtain ⟨⟨a1, a2, a3⟩, h2, h3, h4, h5, h6, h7⟩ := id h
    simp only [List.length_cons] at hb h3
    have hs := h6 s List.mem_cons_self
    have hin : vp_in (nI st.length) 101 := nvp (by omega) (by omega)
    have go : s = 38 ∨ (s = 124 ∧ ¬ cc = 38) → vp_in (qi (qpi w 115 26 (nI st.length)) 115 26) 101 ∧ CaV d M_Mo_emits [.ref (qb E + 115), .int (-(qi (qpi w 115 26 (nI st.length)) 130 ((qi (qpi w 115 26 (nI st.length)) 115 26).toNatClampNeg)))] E (qpi w 115 26 (nI st.length)) (fun w5 => c_Mo_settle_0 d E Q (nI cc) w5) := fun hc => by
      refine m_pop hB hp h hb (by omega) (fun w1 h1 => ih (e ++ [tkO s]) w1 h1 ?_ (fun w2 h2 => hQ w2 ?_))
      · rw [List.length_append]
        show x0 + (e.length + 1) + st.length ≤ B + p
        omega
      · have e1 : drS cc (s :: st) = drS cc st := if_pos hc
        have e2 : emS cc (s :: st) = tkO s :: emS cc st := if_pos hc
        rw [e1, e2]
        rw [List.append_assoc] at h2
        exact h2
    have stop : ¬ (s = 38 ∨ (s = 124 ∧ ¬ cc = 38)) → Q w := fun hc => hQ w (by
      have e1 : drS cc (s :: st) = s :: st := if_neg hc
      have e2 : emS cc (s :: st) = [] := if_neg hc
      rw [e1, e2, List.append_nil]
      exact h)
    refine s_Mo_settle_0 a1 ⟨fun z => absurd z ?_, fun _ => ?_⟩
    · rw [h3, z0, nle (by omega) (by omega)]
      omega
    rw [h3, nI_pred, ncl (by omega), h5.top, show (38 : Int32) = nI 38 from rfl, show (124 : Int32) = nI 124 from rfl, neq (by omega) (by omega), neq (by omega) (by omega), neq (by omega) (by omega)]
    exact ⟨hin, fun z => go (Or.inl z), fun z => ⟨hin, fun y => stop (by omega), fun y => ⟨fun u => stop (by omega), fun u => go (Or.inr ⟨y, u⟩)⟩⟩⟩
theorem rel_in {v : Nat} (h : ¬ relN v = 3) : 60 ≤ v ∧ v ≤ 62 ∧ relN v = v - 60 := by
  unfold relN at h ⊢
  by_cases a : v = 60
  · subst a; exact ⟨by omega, by omega, rfl⟩
  by_cases b : v = 61
  · subst b; exact ⟨by omega, by omega, rfl⟩
  by_cases c : v = 62
  · subst c; exact ⟨by omega, by omega, rfl⟩
  rw [if_neg a, if_neg b, if_neg c] at h
  exact absurd rfl h
theorem rel_out {v : Nat} (h : relN v = 3) : v < 60 ∨ 62 < v := by
  rcases Nat.lt_or_ge v 60 with z | z
  · exact Or.inl z
  rcases Nat.lt_or_ge 62 v with y | y
  · exact Or.inr y
  exfalso
  have : v = 60 ∨ v = 61 ∨ v = 62 := by omega
  rcases this with rfl | rfl | rfl <;> exact absurd h (by decide)
theorem m_test {Q : qW → Int32 → Prop} (hr : rdM S L w0) (hB : B ≤ 500 ∧ B ≤ x0) (h : MSt w0 c x0 w p st e) (hl : p ≤ L) (hb : x0 + e.length + st.length ≤ B + p) (hQ : hR (tstP S p) (fun q => ∀ w1, MJ w0 c x0 w1 q → Q w1 0) (fun t q => ∀ w1, MSt w0 c x0 w1 q (drN st) (e ++ t ++ noN st) → Q w1 1)) : CaI (d + 3) M_Mo_takesTest [.ref (qb E + 115)] E w Q := by
  have hS := hr.2.1
  have hL := hr.2.2.1
  have hL1 := hr.1
  unfold tstP at hQ
  have hr1 := h.rd hr
  refine en_Mo_takesTest h.1.1 (s_Mo_takesTest_0 h.1.1 (m_next h.1.1 hr1 h.1.2.2 hl (m_place h.1.1 hr1 ?_)))
  unfold plI
  by_cases z1 : letN (S p) = 6
  · rw [if_pos z1] at hQ ⊢
    exact ⟨fun y => absurd y neg1, fun _ => hQ w h.1⟩
  rw [if_neg z1] at hQ ⊢
  obtain ⟨b1, b2⟩ := let_ok _ z1
  have lp := lt_L hL b2
  refine ⟨fun _ => ?_, fun y => absurd (nI_pos' (by omega)) y⟩
  rw [h.1.2.2, n1]
  have m1 : MvM w (qpi w 115 15 (nI (p + 1))) (p + 1) := ⟨h.1.1, Fr.rf.pi ⟨rfl, Or.inl rfl⟩, qi_eq rfl rfl⟩
  have h1 := h.mv m1
  generalize qpi w 115 15 (nI (p + 1)) = W at m1 h1
  refine m_next h1.1.1 (h1.rd hr) h1.1.2.2 (by omega) ?_
  have r60 : (60 : Int32) = nI 60 := rfl
  have r62 : (62 : Int32) = nI 62 := rfl
  by_cases z2 : relN (S (p + 1)) = 3
  · rw [if_pos z2] at hQ
    refine p_mo h1.1.1 ?_ ⟨fun y => absurd rfl y, fun _ => hQ W h1.1⟩
    have := rel_out z2
    have := hS (p + 1)
    unfold sgI
    by_cases lp1 : p + 1 < L
    · rw [if_pos lp1, r60, r62, nlt (by omega) (by omega), nlt (by omega) (by omega)]
      omega
    · rw [if_neg lp1]
      exact Or.inl (by decide)
  rw [if_neg z2, hR_mN] at hQ
  obtain ⟨r1, r2, r3⟩ := rel_in z2
  have lp1 := lt_L hL (p := p + 1) (by omega)
  have es : sgI S L (p + 1) = nI (S (p + 1)) := by
    unfold sgI
    rw [if_pos lp1]
  rw [es]
  refine p_mi (a := 60) (b := 62) h1.1.1 r1 r2 ⟨fun _ => ?_, fun y => absurd y (by decide)⟩
  rw [h1.1.2.2, n1]
  have m2 : MvM W (qpi W 115 15 (nI (p + 1 + 1))) (p + 1 + 1) := ⟨h1.1.1, Fr.rf.pi ⟨rfl, Or.inl rfl⟩, qi_eq rfl rfl⟩
  have h2 := h1.mv m2
  generalize qpi W 115 15 (nI (p + 1 + 1)) = V at m2 h2
  refine m_num h2.1.1 (h2.rd hr) h2.1.2.2 (by omega) ?_
  have e2 : p + 1 + 1 = p + 2 := rfl
  rw [e2] at h2 ⊢
  rcases en : numP S (p + 2) with ⟨_ | v, q⟩
  · rw [en] at hQ
    have hQ' : ∀ w1, MJ w0 c x0 w1 q → Q w1 0 := hQ
    have eq := num_no en
    subst eq
    exact ⟨fun y => absurd rfl y, fun _ => hQ' V h2.1⟩
  · obtain ⟨n1', n2', n3'⟩ := num_pos hL en
    rw [en] at hQ
    have hQ' : ∀ w1, MSt w0 c x0 w1 q (drN st) (e ++ [(letN (S p), relN (S (p + 1)), v)] ++ noN st) → Q w1 1 := hQ
    intro w3 m3 v3
    have h3 := h2.mv m3
    refine ⟨fun _ => ?_, fun y => absurd y (by decide)⟩
    refine m_sign (t := (letN (S p), relN (S (p + 1)), v)) h3 (by omega) ?_ (fun w4 h4 => ?_)
    · rw [v3, mc_t b1, r60, pk_sub r1, show (1000 : Int32) = nI 1000 from rfl, show (100 : Int32) = nI 100 from rfl, pk_mul, pk_mul, nI_add, nI_add, r3]
    · refine en_Mo_whole h4.1.1 (m_whole hB (by omega) st _ w4 h4 ?_ (fun w5 h5 => hQ' w5 h5))
      rw [List.length_append]
      show x0 + (e.length + 1) + st.length ≤ B + q
      omega
end RS
