/-! the class reads an expression -/
section RE
variable {d : Nat} {E : qE} {S : Nat → Nat} {L K : Nat} {w w0 w1 : qW} {nd : Int32}
theorem bI_0 {b : Bool} : (bI b = 0 ↔ b = false) := (q01 b).1
theorem XJ.of {p q : Nat} {w1 : qW} (h : XJ w0 K w p) (hm : Mv w w1 q) : XJ w0 K w1 q := ⟨hm.1, h.2.1.tr (hm.2.1.mono (fun k j z => Or.inl z)), hm.2.2⟩
/-- the contract of a factor at fuel n -/
def cF (E : qE) (S : Nat → Nat) (L K : Nat) (w0 : qW) (nd : Int32) (n : Nat) : Prop := ∀ (D : Nat) (Q : qW → Int32 → Prop) (w : qW) (p o : Nat) (e : List Tk), 14 ≤ D + 2 * o → o ≤ 4 → 2 * (101 - p) ≤ n → p ≤ L → e.length ≤ p → XP w0 K w p e nd → hR (pF S n o p) (fun q => ∀ w1, XJ w0 K w1 q → Q w1 0) (fun t q => ∀ w1, XP w0 K w1 q (e ++ t) nd → Q w1 1) → CaI D M_Re_factor [.ref (qb E + 73), .int (nI o)] E w Q
def cE (E : qE) (S : Nat → Nat) (L K : Nat) (w0 : qW) (nd : Int32) (n : Nat) : Prop := ∀ (d : Nat) (Q : qW → Int32 → Prop) (w : qW) (p o f : Nat) (a b : Bool) (e : List Tk), 14 ≤ d + 5 + 2 * o → o ≤ 4 → 2 * (101 - p) + 1 ≤ n → p ≤ L → e.length + a.toNat + b.toNat ≤ p → 2 * f ≤ p → XP w0 K w p e nd → hR (pE S n a b o p) (fun q => ∀ w1, XJ w0 K w1 q → Q w1 0) (fun t q => ∀ w1, XP w0 K w1 q (e ++ t) nd → Q w1 1) → c_Re_expression_7 d E Q (nI o) (bI a) (bI b) (nI f) w
theorem step_F (hr : rdX S L K w0) {n : Nat} (iF : cF E S L K w0 nd n) (iE : cE E S L K w0 nd n) : cF E S L K w0 nd (n + 1) := by
  intro D Q w p o e hD ho hn hl he h hQ
  obtain ⟨d, rfl⟩ : ∃ d, D = d + 6 := ⟨D - 6, by omega⟩
  have hS := hr.2.2.1
  have hL := hr.2.2.2.1
  have hL1 := hr.2.1
  have hK := hr.1
  have hw := h.1.1
  have hQ : hR (stF S (pF S n) (pE S n) o p) (fun q => ∀ w1, XJ w0 K w1 q → Q w1 0) (fun t q => ∀ w1, XP w0 K w1 q (e ++ t) nd → Q w1 1) := hQ
  unfold stF at hQ
  have e40 : sgI S L p = 40 ↔ S p = 40 := sg_eq (c := 40) hS hL (by omega) (by omega)
  have e33 : sgI S L p = 33 ↔ S p = 33 := sg_eq (c := 33) hS hL (by omega) (by omega)
  refine en_Re_factor hw (s_Re_factor_0 hw (pk_le 4 o (fun h4 => p_sign hw (h.rd hr) h.1.2.2 hl ⟨fun z1 => p_sign hw (h.rd hr) h.1.2.2 hl ⟨fun z2 => ?_, fun z2 => ⟨fun _ => ?_, fun y => absurd rfl y⟩⟩, fun z1 => ⟨fun _ => ?_, fun y => absurd rfl y⟩⟩) (fun h4 => p_sign hw (h.rd hr) h.1.2.2 hl ⟨fun z1 => p_sign hw (h.rd hr) h.1.2.2 hl ⟨fun z2 => ?_, fun z2 => ⟨fun y => absurd y (by decide), fun _ => ?_⟩⟩, fun z1 => ⟨fun y => absurd y (by decide), fun _ => ?_⟩⟩)))
  · rw [e40] at z1
    rw [e33] at z2
    rw [if_neg z1, if_neg z2] at hQ
    exact x_test hr h hl he hQ
  · rw [e40] at z1
    rw [e33] at z2
    rw [if_neg z1, if_pos z2, if_pos h4] at hQ
    exact hQ w h.1
  · rw [e40] at z1
    rw [if_pos z1, if_pos h4] at hQ
    exact hQ w h.1
  · rw [e40] at z1
    rw [e33] at z2
    rw [if_neg z1, if_neg z2] at hQ
    exact x_test hr h hl he hQ
  · rw [e40] at z1
    rw [e33] at z2
    rw [if_neg z1, if_pos z2, if_neg (by omega), hR_mR] at hQ
    have lp := lt_L hL (p := p) (by omega)
    refine p_take (c := 33) hw (h.rd hr) h.1.2.2 hl (by omega) (by omega) (fun _ w1 m1 => ⟨fun y => absurd y (by decide), fun _ => ?_⟩) (fun y => absurd z2 y)
    rw [n1]
    have h1 := h.mv hK m1
    refine iF _ _ w1 (p + 1) (o + 1) e (by omega) (by omega) (by omega) (by omega) (by omega) h1 ?_
    rcases er : pF S n (o + 1) (p + 1) with ⟨_ | t, q⟩
    · rw [er] at hQ
      exact fun w2 h2 => ⟨fun y => absurd rfl y, fun _ => hQ w2 h2⟩
    · rw [er] at hQ
      obtain ⟨g1, g2, g3, -⟩ := (g_all hL n).1 _ _ _ _ er
      intro w2 h2
      refine ⟨fun _ => ⟨K, hK, h2.kr hr, ?_⟩, fun y => absurd y (by decide)⟩
      refine p_step (t := (8, 0, 0)) hK h2 (by rw [List.length_append]; omega) (fun w3 h3 => hQ w3 ?_)
      rw [← List.append_assoc]
      exact h3
  · rw [e40] at z1
    rw [if_pos z1, if_neg (by omega), hR_mR] at hQ
    have lp := lt_L hL (p := p) (by omega)
    refine p_take (c := 40) hw (h.rd hr) h.1.2.2 hl (by omega) (by omega) (fun _ w1 m1 => ⟨fun y => absurd y (by decide), fun _ => ?_⟩) (fun y => absurd z1 y)
    rw [n1]
    have h1 := h.mv hK m1
    obtain ⟨d2, hd2⟩ : ∃ d2, d + 5 = d2 + 6 := ⟨d - 1, by omega⟩
    rw [hd2]
    refine en_Re_expression h1.1.1 (s_Re_expression_0 h1.1.1 (iE d2 _ w1 (p + 1) (o + 1) 0 false false e (by omega) (by omega) (by omega) (by omega) (by simp; omega) (by omega) h1 ?_))
    rcases er : pE S n false false (o + 1) (p + 1) with ⟨_ | t, q⟩
    · rw [er] at hQ
      exact fun w2 h2 => ⟨fun _ => hQ w2 h2, fun y => absurd rfl y⟩
    · rw [er] at hQ
      obtain ⟨g1, g2, g3, -⟩ := (g_all hL n).2 _ _ _ _ _ _ er
      intro w2 h2
      have hQ' : hR (if S q = 41 then (some t, q + 1) else (none, q)) (fun q => ∀ w1, XJ w0 K w1 q → Q w1 0) (fun t q => ∀ w1, XP w0 K w1 q (e ++ t) nd → Q w1 1) := hQ
      refine ⟨fun y => absurd y (by decide), fun _ => ?_⟩
      rw [← hd2]
      refine p_take (c := 41) h2.1.1 (h2.rd hr) h2.1.2.2 (by omega) (by omega) (by omega) (fun z3 w3 m3 => ⟨fun y => absurd y (by decide), fun _ => ?_⟩) (fun z3 => ⟨fun _ => ?_, fun y => absurd rfl y⟩)
      · rw [if_pos z3] at hQ'
        exact hQ' w3 (h2.mv hK m3)
      · rw [if_neg z3] at hQ'
        exact hQ' w2 h2.1
theorem step_E (hr : rdX S L K w0) {n : Nat} (iF : cF E S L K w0 nd n) (iE : cE E S L K w0 nd n) : cE E S L K w0 nd (n + 1) := by
  intro d Q w p o f a b e hD ho hn hl he hf h hQ
  have hS := hr.2.2.1
  have hL := hr.2.2.2.1
  have hL1 := hr.2.1
  have hK := hr.1
  have hw := h.1.1
  have hQ : hR (stE S (pF S n) (pE S n) a b o p) (fun q => ∀ w1, XJ w0 K w1 q → Q w1 0) (fun t q => ∀ w1, XP w0 K w1 q (e ++ t) nd → Q w1 1) := hQ
  unfold stE at hQ
  rw [hR_mR] at hQ
  refine s_Re_expression_7 hw ⟨fun z => absurd z (by rw [show (100 : Int32) = nI 100 from rfl, nle (by omega) (by omega)]; omega), fun _ => iF _ _ w p o e (by omega) ho (by omega) hl (by omega) h ?_⟩
  rcases er : pF S n o p with ⟨_ | t, q⟩
  · rw [er] at hQ
    exact fun w2 h2 => ⟨fun y => absurd rfl y, fun _ => hQ w2 h2⟩
  rw [er] at hQ
  obtain ⟨g1, g2, g3, -⟩ := (g_all hL n).1 _ _ _ _ er
  have hQ : hR (if S q = 38 then mR (pE S n true b o (q + 1)) (fun t' q' => (some (t ++ flT a false ++ t'), q')) else if S q = 124 then mR (pE S n false true o (q + 1)) (fun t' q' => (some (t ++ flT a b ++ t'), q')) else (some (t ++ flT a b), q)) (fun q => ∀ w1, XJ w0 K w1 q → Q w1 0) (fun t q => ∀ w1, XP w0 K w1 q (e ++ t) nd → Q w1 1) := hQ
  intro w2 h2
  -- behind the AND
  have tail : ∀ w3, XP w0 K w3 q (e ++ (t ++ flT a false)) nd → CaI (d + 5) M_Re_take [.ref (qb E + 73), .int 38] E w3 (fun w5 x5 => ((¬ x5 = 0) → (c_Re_expression_7 d E Q (nI o) x5 (bI b) (nI f + 1) w5)) ∧ ((x5 = 0) → (((bI b = 0) → (CaI (d + 5) M_Re_take [.ref (qb E + 73), .int 124] E w5 (fun w8 x8 => ((¬ x8 = 0) → (c_Re_expression_7 d E Q (nI o) x5 x8 (nI f + 1) w8)) ∧ ((x8 = 0) → (Q w8 1))))) ∧ ((¬ bI b = 0) → (∃ K10, isKi K10 ∧ qr w5 73 3 = K10 + 1 ∧ (CaV (d + 5) M_Ki_addStep [.ref (qb E + K10), .int 7, .int 0, .int 0] E w5 (fun w11 => CaI (d + 5) M_Re_take [.ref (qb E + 73), .int 124] E w11 (fun w12 x12 => ((¬ x12 = 0) → (c_Re_expression_7 d E Q (nI o) x5 x12 (nI f + 1) w12)) ∧ ((x12 = 0) → (Q w12 1)))))))))) := by
    intro w3 h3
    have hfl := flT_l a false
    have hfl2 := flT_l a b
    simp only [Bool.toNat_false, Nat.add_zero] at hfl
    refine p_take (c := 38) h3.1.1 (h3.rd hr) h3.1.2.2 (by omega) (by omega) (by omega) (fun z4 w4 m4 => ⟨fun _ => ?_, fun y => absurd y (by decide)⟩) (fun z4 => ⟨fun y => absurd rfl y, fun _ => ?_⟩)
    · have lq := lt_L hL (p := q) (by omega)
      rw [if_pos z4, hR_mR] at hQ
      rw [n1]
      refine iE d Q w4 (q + 1) o (f + 1) true b _ (by omega) ho (by omega) (by omega) ?_ (by omega) (h3.mv hK m4) ?_
      · rw [List.length_append, List.length_append, hfl]
        simp only [Bool.toNat_true]
        omega
      · refine hQ.mono (fun q hq => hq) (fun t' q' _ hq w5 h5 => hq w5 ?_)
        rw [List.append_assoc] at h5
        exact h5
    · rw [if_neg z4] at hQ
      have last : ∀ w5, XP w0 K w5 q (e ++ (t ++ flT a b)) nd → CaI (d + 5) M_Re_take [.ref (qb E + 73), .int 124] E w5 (fun w8 x8 => ((¬ x8 = 0) → (c_Re_expression_7 d E Q (nI o) 0 x8 (nI f + 1) w8)) ∧ ((x8 = 0) → (Q w8 1))) := by
        intro w5 h5
        refine p_take (c := 124) h5.1.1 (h5.rd hr) h5.1.2.2 (by omega) (by omega) (by omega) (fun z6 w6 m6 => ⟨fun _ => ?_, fun y => absurd y (by decide)⟩) (fun z6 => ⟨fun y => absurd rfl y, fun _ => ?_⟩)
        · have lq := lt_L hL (p := q) (by omega)
          rw [if_pos z6, hR_mR] at hQ
          rw [n1]
          refine iE d Q w6 (q + 1) o (f + 1) false true _ (by omega) ho (by omega) (by omega) ?_ (by omega) (h5.mv hK m6) ?_
          · rw [List.length_append, List.length_append, hfl2]
            simp only [Bool.toNat_true, Bool.toNat_false]
            omega
          · refine hQ.mono (fun q hq => hq) (fun t' q' _ hq w5 h5 => hq w5 ?_)
            rw [List.append_assoc] at h5
            exact h5
        · rw [if_neg z6] at hQ
          exact hQ w5 h5
      refine ⟨fun z5 => last w3 ?_, fun z5 => ⟨K, hK, h3.kr hr, ?_⟩⟩
      · have b0 : b = false := bI_0.mp z5
        rw [b0]
        exact h3
      · have b1 : b = true := (q01 b).2.mp z5
        refine p_step (t := (7, 0, 0)) hK h3 ?_ (fun w5 h5 => last w5 ?_)
        · rw [List.length_append, List.length_append, hfl]
          rw [b1] at he
          simp only [Bool.toNat_true] at he
          omega
        · rw [b1]
          rw [List.append_assoc, List.append_assoc] at h5
          have e7 : flT a true = flT a false ++ [(7, 0, 0)] := by cases a <;> rfl
          rw [e7]
          exact h5
  refine ⟨fun _ => ⟨fun z => ?_, fun z => ⟨K, hK, h2.kr hr, ?_⟩⟩, fun y => absurd y (by decide)⟩
  · have a0 : a = false := bI_0.mp z
    refine tail w2 ?_
    rw [a0]
    rw [show flT false false = [] from rfl, List.append_nil]
    exact h2
  · have a1 : a = true := (q01 a).2.mp z
    refine p_step (t := (6, 0, 0)) hK h2 ?_ (fun w3 h3 => tail w3 ?_)
    · rw [List.length_append]
      rw [a1] at he
      simp only [Bool.toNat_true] at he
      omega
    · rw [a1]
      rw [List.append_assoc] at h3
      exact h3
theorem c_all (hr : rdX S L K w0) : ∀ n, cF E S L K w0 nd n ∧ cE E S L K w0 nd n := by
  have hL1 := hr.2.1
  intro n
  induction n with
  | zero => exact ⟨fun D Q w p o e h1 h2 h3 h4 => by omega, fun d Q w p o f a b e h1 h2 h3 h4 => by omega⟩
  | succ n ih => exact ⟨step_F hr ih.1 ih.2, step_E hr ih.1 ih.2⟩
end RE
