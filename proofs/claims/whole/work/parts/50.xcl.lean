/-! the class reads a clause, a text -/
section RC
variable {d : Nat} {E : qE} {S : Nat → Nat} {L K p q : Nat} {w w0 w1 : qW} {e : List Tk} {nd : Int32} {k : List Cl}
theorem x_wordC {Q : qW → Int32 → Prop} {i : Nat} (hi : i < 3) (hr : rdX S L K w0) (h : XP w0 K w p e nd) (hl : p ≤ L) {f : Nat → Nat → Option Cl × Nat} {no : Nat → Prop} {ok : Cl → Nat → Prop} (hQ : hC (mC (wdP S (wdS i) p) S f) no ok) (h0 : ∀ q w1, no q → XJ w0 K w1 q → Q w1 0) (h1 : ∀ q, p + 5 ≤ q → q ≤ L → hC (nC (numP S q) f) no ok → ∀ w1, XP w0 K w1 q e nd → Q w1 1) : CaI (d + 5) M_Re_takeWord [.ref (qb E + 73), .ref (qc E (10 + i))] E w Q := by
  have hL := hr.2.2.2.1
  obtain ⟨a0, a5⟩ := wdS_0 i hi
  obtain ⟨a1, a2⟩ := wd_ok hL (wdS i) p a0 hl
  refine p_word2 hi h.1.1 (h.rd hr) h.1.2.2 hl ?_
  rcases ew : wdP S (wdS i) p with ⟨_ | _, q⟩
  · rw [ew] at hQ
    exact fun w1 m1 => h0 q w1 hQ (h.1.of m1)
  · rw [ew] at hQ a1 a2
    have a3 : q = p + (wdS i).length := a2 rfl
    exact fun w1 m1 => h1 q (by omega) a1 hQ w1 (h.mv hr.1 m1)
theorem x_numC {Q : qW → Int32 → Prop} (hr : rdX S L K w0) (h : XP w0 K w p e nd) (hl : p ≤ L) {f : Nat → Nat → Option Cl × Nat} {no : Nat → Prop} {ok : Cl → Nat → Prop} (hQ : hC (nC (numP S p) f) no ok) (h0 : ∀ w1, no p → XJ w0 K w1 p → Q w1 (-1)) (h1 : ∀ v q, v < 100 → p < q → q ≤ L → hC (f v q) no ok → ∀ w1, XP w0 K w1 q e nd → Q w1 (nI v)) : CaI (d + 1) M_Re_takeNumber [.ref (qb E + 73)] E w Q := by
  have hL := hr.2.2.2.1
  refine p_num h.1.1 (h.rd hr) h.1.2.2 hl ?_
  rcases en : numP S p with ⟨_ | v, q⟩
  · rw [en] at hQ
    have hq : q = p := num_no en
    subst hq
    exact h0 w hQ h.1
  · rw [en] at hQ
    obtain ⟨b1, b2, b3⟩ := num_pos hL en
    exact fun w1 m1 => h1 v q b3 b1 b2 hQ w1 (h.mv hr.1 m1)
theorem x_tl {Q : qW → Int32 → Prop} {b : Int32} {i v : Nat} (hr : rdX S L K w0) (h : XP w0 K w p e nd) (hl : p ≤ L) (he : e.length ≤ p) (hbi : (b = 0 ∧ i = 1) ∨ (b = 1 ∧ i = 0)) (hQ : hC (tlC S 203 i v p) (fun q => ∀ w1, XJ w0 K w1 q → Q w1 0) (fun c q => ¬ c.1 = 2 → ∀ w1, XP w0 K w1 q (e ++ flC c) nd → Q w1 1)) : CaI (d + 40) M_Re_take [.ref (qb E + 73), .int 32] E w (fun w10 x10 => ((x10 = 0) → (Q w10 0)) ∧ ((¬ x10 = 0) → (CaI (d + 40) M_Re_expression [.ref (qb E + 73), .int 0] E w10 (fun w12 x12 => ((¬ x12 = 0) → (∃ K14, isKi K14 ∧ qr w12 73 3 = K14 + 1 ∧ (((b = 0) → (CaV (d + 40) M_Ki_addStep [.ref (qb E + K14), .int 10, .int 0, .int (nI v)] E w12 (fun w16 => Q w16 1))) ∧ ((¬ b = 0) → (CaV (d + 40) M_Ki_addStep [.ref (qb E + K14), .int 9, .int 0, .int (nI v)] E w12 (fun w17 => Q w17 1)))))) ∧ ((x12 = 0) → (Q w12 0)))))) := by
  have hK := hr.1
  have hL := hr.2.2.2.1
  have hL1 := hr.2.1
  have hi : i ≤ 1 := by rcases hbi with ⟨-, z⟩ | ⟨-, z⟩ <;> omega
  unfold tlC at hQ
  refine p_take (c := 32) h.1.1 (h.rd hr) h.1.2.2 hl (by omega) (by omega) (fun z w1 m1 => ⟨fun y => absurd y (by decide), fun _ => ?_⟩) (fun z => ⟨fun _ => ?_, fun y => absurd rfl y⟩)
  · rw [if_pos z] at hQ
    have lp := lt_L hL (p := p) (by omega)
    have h1 := h.mv hK m1
    refine en_Re_expression (d := d + 34) h1.1.1 (s_Re_expression_0 h1.1.1 ((c_all hr 203).2 (d + 34) _ w1 (p + 1) 0 0 false false e (by omega) (by omega) (by omega) (by omega) (by simp; omega) (by omega) h1 ?_))
    rcases er : pE S 203 false false 0 (p + 1) with ⟨_ | t, q⟩
    · rw [er] at hQ
      exact fun w2 h2 => ⟨fun y => absurd rfl y, fun _ => hQ w2 h2⟩
    · rw [er] at hQ
      obtain ⟨g1, g2, g3, -⟩ := (g_all hL 203).2 _ _ _ _ _ _ er
      simp only [Bool.toNat_false, Nat.add_zero] at g3
      intro w2 h2
      have hQ' : ¬ i = 2 → ∀ w1, XP w0 K w1 q (e ++ flC (i, v, t)) nd → Q w1 1 := hQ
      have ef : flC (i, v, t) = t ++ [(9 + i, 0, v)] := by
        unfold flC
        rw [if_neg (show ¬ i = 2 by omega)]
      have ad : ∀ w3, XP w0 K w3 q (e ++ t ++ [(9 + i, 0, v)]) nd → Q w3 1 := fun w3 h3 => hQ' (by omega) w3 (by rw [ef, ← List.append_assoc]; exact h3)
      have hlen : (e ++ t).length < 100 := by
        rw [List.length_append]
        omega
      refine ⟨fun _ => ⟨K, hK, h2.kr hr, fun y => ?_, fun y => ?_⟩, fun y => absurd y (by decide)⟩
      · rcases hbi with ⟨-, rfl⟩ | ⟨rfl, -⟩
        · exact p_step (t := (10, 0, v)) hK h2 hlen ad
        · exact absurd y (by decide)
      · rcases hbi with ⟨rfl, -⟩ | ⟨-, rfl⟩
        · exact absurd rfl y
        · exact p_step (t := (9, 0, v)) hK h2 hlen ad
  · rw [if_neg z] at hQ
    exact hQ w h.1
theorem nd_1 (k : List Cl) (c : Cl) : ndK (k ++ [c]) = if c.1 = 2 then 10 * nI c.2.1 else ndK k := nd_app c k 60
theorem x_needClause {Q : qW → Int32 → Prop} (hr : rdX S L K w0) (h : XP w0 K w p (flK k) (ndK k)) (hl : p ≤ L) (hQ : hC (mC (wdP S (wdS 0) p) S (fun v q => (some (2, v, []), q))) (fun q => ∀ w1, XJ w0 K w1 q → Q w1 0) (fun c q => ∀ w1, XP w0 K w1 q (flK (k ++ [c])) (ndK (k ++ [c])) → Q w1 1)) : CaI (d + 6) M_Re_needClause [.ref (qb E + 73)] E w Q := by
  have hK := hr.1
  have hc := hK.c
  refine en_Re_needClause h.1.1 (s_Re_needClause_0 h.1.1 (x_wordC (i := 0) (by omega) hr h hl hQ (fun q w1 hn hj => ⟨fun y => absurd rfl y, fun _ => hn w1 hj⟩) (fun q q1 q2 hq w1 h1 => ⟨fun _ => ?_, fun y => absurd y (by decide)⟩)))
  refine x_numC hr h1 q2 hq (fun w2 hn hj => ⟨fun y => absurd y neg1, fun _ => hn w2 hj⟩) (fun v q' v1 q3 q4 hq2 w2 h2 => ⟨fun _ => ⟨K, hK, h2.kr hr, ?_⟩, fun y => absurd (nI_pos' (by omega)) y⟩)
  have hq3 : ∀ w1, XP w0 K w1 q' (flK (k ++ [(2, v, [])])) (ndK (k ++ [(2, v, [])])) → Q w1 1 := hq2
  refine hq3 _ ?_
  rw [fl_app, fl_1, nd_1]
  obtain ⟨⟨a1, a2, a3⟩, a4, a5, a6⟩ := h2
  have e0 : flK k ++ flC (2, v, []) = flK k := List.append_nil _
  rw [e0]
  refine ⟨⟨a1, a2.pi (Or.inr ⟨Nat.le_refl _, by omega⟩), ?_⟩, ?_, ?_, fun j t ht => ?_⟩
  · rw [qi_k (by omega)]
    exact a3
  · rw [qi_j (by decide)]
    exact a4
  · rw [qi_eq rfl rfl]
    rfl
  · rw [qi_k (by omega), qi_k (by omega), qi_k (by omega)]
    exact a6 j t ht
theorem x_clause {Q : qW → Int32 → Prop} (hr : rdX S L K w0) (h : XP w0 K w p (flK k) (ndK k)) (hl : p ≤ L) (he : (flK k).length ≤ p) (hQ : hC (clP S 203 p) (fun q => ∀ w1, XJ w0 K w1 q → Q w1 0) (fun c q => ∀ w1, XP w0 K w1 q (flK (k ++ [c])) (ndK (k ++ [c])) → Q w1 1)) : CaI (d + 41) M_Re_clause [.ref (qb E + 73)] E w Q := by
  have hS := hr.2.2.1
  have hL := hr.2.2.2.1
  have hw := h.1.1
  unfold clP at hQ
  have e110 : sgI S L p = 110 ↔ S p = 110 := sg_eq (c := 110) hS hL (by omega) (by omega)
  have e100 : sgI S L p = 100 ↔ S p = 100 := sg_eq (c := 100) hS hL (by omega) (by omega)
  have cont : ∀ {q' : Nat} {r : Option Cl × Nat}, hC r (fun q => ∀ w1, XJ w0 K w1 q → Q w1 0) (fun c q => ∀ w1, XP w0 K w1 q (flK (k ++ [c])) (ndK (k ++ [c])) → Q w1 1) → hC r (fun q => ∀ w1, XJ w0 K w1 q → Q w1 0) (fun c q => ¬ c.1 = 2 → ∀ w1, XP w0 K w1 q (flK k ++ flC c) (ndK k) → Q w1 1) := fun hq => hq.mono (fun q z => z) (fun c q z n2 w1 h1 => z w1 (by rw [fl_app, fl_1, nd_1, if_neg n2]; exact h1))
  refine en_Re_clause hw (s_Re_clause_0 hw (p_sign hw (h.rd hr) h.1.2.2 hl ⟨fun z1 => p_sign hw (h.rd hr) h.1.2.2 hl ⟨fun z2 => ⟨fun _ => ?_, fun y => absurd rfl y⟩, fun z2 => ⟨fun y => absurd y (by decide), fun _ => ?_⟩⟩, fun z1 => ?_⟩))
  · rw [e110] at z1
    rw [e100] at z2
    rw [if_neg z1, if_neg z2] at hQ
    refine x_wordC (i := 2) (by omega) hr h hl hQ (fun q w1 hn hj => ⟨fun y => absurd rfl y, fun _ => hn w1 hj⟩) (fun q q1 q2 hq w1 h1 => ⟨fun _ => ?_, fun y => absurd y (by decide)⟩)
    refine x_numC hr h1 q2 hq (fun w2 hn hj => ⟨fun _ => hn w2 hj, fun y => absurd (by decide) y⟩) (fun v q' v1 q3 q4 hq2 w2 h2 => ⟨fun y => absurd y (nI_pos (by omega)), fun _ => ?_⟩)
    exact x_tl (i := 1) (b := 0) hr h2 q4 (by omega) (Or.inl ⟨rfl, rfl⟩) (cont (q' := 0) hq2)
  · rw [e110] at z1
    rw [e100] at z2
    rw [if_neg z1, if_pos z2] at hQ
    refine x_wordC (i := 1) (by omega) hr h hl hQ (fun q w1 hn hj => ⟨fun y => absurd rfl y, fun _ => hn w1 hj⟩) (fun q q1 q2 hq w1 h1 => ⟨fun _ => ?_, fun y => absurd y (by decide)⟩)
    refine x_numC hr h1 q2 hq (fun w2 hn hj => ⟨fun _ => hn w2 hj, fun y => absurd (by decide) y⟩) (fun v q' v1 q3 q4 hq2 w2 h2 => ⟨fun y => absurd y (nI_pos (by omega)), fun _ => ?_⟩)
    exact x_tl (i := 0) (b := 1) hr h2 q4 (by omega) (Or.inr ⟨rfl, rfl⟩) (cont (q' := 0) hq2)
  · rw [e110] at z1
    rw [if_pos z1] at hQ
    refine x_needClause (d := d + 34) hr h hl (hQ.mono (fun q z w1 hj => ⟨Or.inl rfl, z w1 hj⟩) (fun c q z w1 h1 => ⟨Or.inr rfl, z w1 h1⟩))
theorem hT_cT {r : Option (List Cl) × Nat} {c : Cl} {no : Nat → Prop} {ok : List Cl → Nat → Prop} : hT (cT r c) no ok ↔ hT r no (fun k q => ok (c :: k) q) := by
  rcases r with ⟨_ | t, q⟩ <;> exact Iff.rfl
theorem hT.mono {r : Option (List Cl) × Nat} {no no' : Nat → Prop} {ok ok' : List Cl → Nat → Prop} (h : hT r no ok) (h1 : ∀ q, no q → no' q) (h2 : ∀ t q, r = (some t, q) → ok t q → ok' t q) : hT r no' ok' := by
  rcases r with ⟨_ | t, q⟩
  · exact h1 q h
  · exact h2 t q rfl h
theorem x_text {Q : qW → Int32 → Prop} (hr : rdX S L K w0) : ∀ (r m p : Nat) (k : List Cl) (w : qW), m + r = 11 → p ≤ L → (flK k).length ≤ p → XP w0 K w p (flK k) (ndK k) → hT (txP S L 203 r p) (fun q => ∀ w1, XJ w0 K w1 q → Q w1 (nI q)) (fun k' q => ∀ w1, XP w0 K w1 q (flK (k ++ k')) (ndK (k ++ k')) → Q w1 (-1)) → c_Re_readInto_19 d E Q (nI m) w := by
  have hL := hr.2.2.2.1
  have hL1 := hr.2.1
  have ten : (10 : Int32) = nI 10 := rfl
  intro r
  induction r with
  | zero =>
    intro m p k w hm hp he h hQ
    have hQ : ∀ w1, XJ w0 K w1 p → Q w1 (nI p) := hQ
    refine s_Re_readInto_19 h.1.1 ⟨fun _ => ?_, fun z => absurd (by rw [ten, nlt (by omega) (by omega)]; omega) z⟩
    rw [h.1.2.2]
    exact hQ w h.1
  | succ r ih =>
    intro m p k w hm hp he h hQ
    have hQ : hT (stT2 S L r (txP S L 203 r) (clP S 203 p)) (fun q => ∀ w1, XJ w0 K w1 q → Q w1 (nI q)) (fun k' q => ∀ w1, XP w0 K w1 q (flK (k ++ k')) (ndK (k ++ k')) → Q w1 (-1)) := hQ
    refine s_Re_readInto_19 h.1.1 ⟨fun z => absurd z (by rw [ten, nlt (by omega) (by omega)]; omega), fun _ => x_clause hr h hp he ?_⟩
    have hc := cl_ok hL hL1 (n := 203) hp
    rcases ec : clP S 203 p with ⟨_ | c, q⟩
    · rw [ec] at hQ
      have hQ : ∀ w1, XJ w0 K w1 q → Q w1 (nI q) := hQ
      exact fun w1 h1 => ⟨fun y => absurd rfl y, fun _ => by rw [h1.2.2]; exact hQ w1 h1⟩
    · rw [ec] at hQ hc
      obtain ⟨c1, c2, c3, c4, c5⟩ : gC L p c q := hc
      have hQ : hT (if q = L then (some [c], q) else if r = 0 then (none, q) else if S q = 59 then cT (txP S L 203 r (q + 1)) c else (none, q)) (fun q => ∀ w1, XJ w0 K w1 q → Q w1 (nI q)) (fun k' q => ∀ w1, XP w0 K w1 q (flK (k ++ k')) (ndK (k ++ k')) → Q w1 (-1)) := hQ
      intro w1 h1
      have x1 : qi w1 73 1 = nI L := (h1.rd hr).2.2.2.2.1
      have x2 : qi w1 73 2 = nI q := h1.1.2.2
      rw [x1, x2]
      refine ⟨fun _ => ⟨fun z => ?_, fun z => ?_⟩, fun y => absurd y (by decide)⟩
      · have z : ¬ q = L := fun y => z (by rw [y])
        rw [if_neg z] at hQ
        refine ⟨fun z2 => ?_, fun z2 => ?_⟩
        · rw [ten, neq (by omega) (by omega)] at z2
          rw [if_pos (by omega)] at hQ
          exact hQ w1 h1.1
        · rw [ten, neq (by omega) (by omega)] at z2
          rw [if_neg (by omega)] at hQ
          refine p_take (c := 59) h1.1.1 (h1.rd hr) x2 c2 (by omega) (by omega) (fun z3 w2 m2 => ⟨fun _ => ?_, fun y => absurd y (by decide)⟩) (fun z3 => ⟨fun y => absurd rfl y, fun _ => ?_⟩)
          · rw [if_pos z3, hT_cT] at hQ
            have lq := lt_L hL (p := q) (by omega)
            rw [n1]
            refine ih (m + 1) (q + 1) (k ++ [c]) w2 (by omega) (by omega) ?_ (h1.mv hr.1 m2) (hQ.mono (fun q z => z) (fun k' q' _ z w3 h3 => z w3 ?_))
            · rw [fl_app, fl_1, List.length_append]
              omega
            · rw [List.append_assoc] at h3
              exact h3
          · rw [if_neg z3] at hQ
            rw [x2]
            exact hQ w1 h1.1
      · rw [neq (by omega) (by omega)] at z
        rw [if_pos z] at hQ
        exact hQ w1 h1
theorem x_read {Q : qW → Int32 → Prop} (hw : Sh w) (hK : isKi K) (hr : rdX S L K (qpr w 73 3 (K + 1))) (hQ : hT (txP S L 203 10 0) (fun q => ∀ w1, XJ (qpr w 73 3 (K + 1)) K w1 q → Q w1 (nI q)) (fun k q => ∀ w1, XP (qpr w 73 3 (K + 1)) K w1 q (flK k) (ndK k) → Q w1 (-1))) : CaI (d + 42) M_Re_readInto [.ref (qb E + 73), .ref (qb E + K)] E w Q := by
  have hc := hK.c
  have hw0 : Sh (qpr w 73 3 (K + 1)) := hw.pr (by decide)
  refine en_Re_readInto hw (s_Re_readInto_0 hw hK ⟨K, hK, qr_eq rfl rfl, en_Ki_clean hw0 (s_Ki_clean_0 hw0 hK ?_)⟩)
  generalize qpr w 73 3 (K + 1) = w0 at hr hQ hw0
  refine x_text hr 10 1 0 [] _ rfl (Nat.zero_le _) (Nat.zero_le _) ⟨⟨hw0, ((Fr.rf.pi (by unfold jRd; omega)).pi (by unfold jRd; omega)).pi (Or.inl ⟨rfl, rfl⟩), qi_eq rfl rfl⟩, ?_, ?_, fun j t ht => absurd ht (by simp [flK])⟩ hQ
  · rw [qi_k (by omega), qi_j (by decide), qi_eq rfl rfl]
    rfl
  · rw [qi_k (by omega), qi_eq rfl rfl]
    rfl
end RC
