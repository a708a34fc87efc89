/-! what the two constructors leave holds; all pairs -/
section ZI
set_option maxRecDepth 100000 in
theorem z_px1 : ∀ i, i < 6 → ∀ a, a < 6 → qi wI0 (15 + 3 + 2 * i) (a + 1) = qi wI0 (116 + a) i := by decide +kernel
set_option maxRecDepth 100000 in
theorem z_px2 : ∀ i, i < 6 → ∀ b, b < 4 → qi wI0 (15 + 4 + 2 * i) b = qi wI0 122 (4 * i + b) := by decide +kernel
set_option maxRecDepth 100000 in
theorem z_num : ∀ i, i < 6 → qi wI0 (15 + 3 + 2 * i) 0 = nI i ∧ qi wI0 (40 + 3 + 2 * i) 0 = nI i ∧ qi wI0 (58 + 3 + 2 * i) 0 = nI i := by decide +kernel
set_option maxRecDepth 100000 in
theorem z_pa : ∀ i, i < 6 → (∀ a, a < 10 → pa (PM wI0) i a = 0) ∧ pa (PM wI0) i 10 = nI i := by decide +kernel
set_option maxRecDepth 100000 in
theorem z_p : qi wI0 15 0 = 0 ∧ qi wI0 15 2 = 1 ∧ qi wI0 15 3 = 0 ∧ qz (qi wI0 15 4) = 0 ∧ qi wI0 15 5 = 0 ∧ qr wI0 15 6 = 2 := by decide +kernel
set_option maxRecDepth 100000 in
theorem z_m : qi wI0 115 0 = 0 ∧ qi wI0 115 1 = 1 ∧ qi wI0 115 2 = 0 ∧ qz (qi wI0 115 4) = 0 ∧ qi wI0 115 3 = 0 ∧ qi wI0 115 13 = -1 := by decide +kernel
theorem z_PX : PX 15 wI0 = PM wI0 := by
  obtain ⟨a1, a2, a3, a4, a5, a6⟩ := z_p
  obtain ⟨b1, b2, b3, b4, b5, b6⟩ := z_m
  have ea : aX wI0 15 = aM wI0 := by
    funext i a
    unfold aX aM
    by_cases h1 : i < 6
    · rw [if_pos h1, if_pos h1]
      by_cases h2 : a < 6
      · rw [if_pos h2, if_pos h2]
        exact z_px1 i h1 a h2
      · rw [if_neg h2, if_neg h2]
        by_cases h3 : a < 10
        · rw [if_pos h3, if_pos h3]
          exact z_px2 i h1 (a - 6) (by omega)
        · rw [if_neg h3, if_neg h3]
          rw [(z_num i h1).1]
    · rw [if_neg h1, if_neg h1]
  unfold PX PM
  rw [ea, a1, a2, a3, a4, a5, a6, b1, b2, b3, b4, b5, b6]
  rfl
theorem z_okw {w : qW} (hm : qi w 115 0 = 0 ∧ qi w 115 1 = 1 ∧ qi w 115 2 = 0 ∧ qz (qi w 115 4) = 0 ∧ qi w 115 3 = 0 ∧ qi w 115 13 = -1) (ha : ∀ i, i < 6 → (∀ a, a < 10 → pa (PM w) i a = 0) ∧ pa (PM w) i 10 = nI i) : okR 9999 9999 (PM w) := by
  obtain ⟨b1, b2, b3, b4, b5, b6⟩ := hm
  refine ⟨⟨0, by omega, b1⟩, ⟨1, by omega, b2⟩, ⟨0, by omega, b3⟩, Or.inl b4, ⟨0, by omega, b5⟩, fun i hi => ?_⟩
  obtain ⟨h, h10⟩ := ha i hi
  exact ⟨⟨0, by omega, h 0 (by omega)⟩, ⟨0, by omega, h 1 (by omega)⟩, ⟨0, by omega, h 2 (by omega)⟩, ⟨0, by omega, h 3 (by omega)⟩, ⟨0, by omega, h 4 (by omega)⟩, ⟨0, by omega, h 5 (by omega)⟩, fun b hb => ⟨0, by omega, h (6 + b) (by omega)⟩, h10⟩
theorem z_ok : okR 9999 9999 (PM wI0) := z_okw z_m z_pa
set_option maxRecDepth 100000 in
theorem z_rw1 : qi wI0 6 2 = 0 ∧ qi wI0 115 39 = 0 ∧ qi wI0 9 2 = 0 ∧ qi wI0 115 42 = 0 ∧ qi wI0 12 2 = 0 ∧ qi wI0 115 43 = 0 := by decide +kernel
set_option maxRecDepth 100000 in
theorem z_rw2 : ∀ j, j < 5 → qi wI0 7 j = qi wI0 137 j ∧ qi wI0 8 j = qi wI0 138 j := by decide +kernel
set_option maxRecDepth 100000 in
theorem z_rw3 : ∀ j, j < 10 → qi wI0 10 j = qi wI0 139 j ∧ qi wI0 11 j = qi wI0 140 j := by decide +kernel
set_option maxRecDepth 100000 in
theorem z_rw4 : ∀ j, j < 8 → qi wI0 13 j = qi wI0 141 j ∧ qi wI0 14 j = qi wI0 142 j := by decide +kernel
theorem z_RW (c : Nat) : RWs wI0 6 39 42 43 137 c := by
  obtain ⟨a1, a2, a3, a4, a5, a6⟩ := z_rw1
  exact ⟨⟨0, by omega, a1, a2, z_rw2, fun j hj => absurd hj (Nat.not_lt_zero j)⟩, ⟨0, by omega, a3, a4, fun j hj => ⟨(z_rw3 j hj).1, fun _ => (z_rw3 j hj).2⟩, fun j hj => absurd hj (Nat.not_lt_zero j)⟩, ⟨0, by omega, a5, a6, z_rw4, fun j hj => absurd hj (Nat.not_lt_zero j)⟩⟩
set_option maxRecDepth 100000 in
theorem z_x : qz (qi wI0 0 2) = 0 ∧ qz (qi wI0 115 48) = 0 ∧ qi wI0 73 1 = 0 ∧ qi wI0 115 14 = 0 ∧ qi wI0 0 6 = 0 ∧ qi wI0 115 12 = 0 ∧ qi wI0 1 3 = 0 ∧ qi wI0 1 4 = 60 ∧ qi wI0 100 1 = 0 ∧ qi wI0 115 71 = 0 ∧ qi wI0 115 30 = 9999 := by decide +kernel
set_option maxRecDepth 100000 in
theorem z_t : ∀ j, j < 100 → qi wI0 74 j = 0 ∧ qi wI0 123 j = 0 := by decide +kernel
set_option maxRecDepth 100000 in
theorem z_ac : ∀ j, j < 20 → qi wI0 101 j = qi wI0 156 j := by decide +kernel
set_option maxRecDepth 100000 in
theorem z_tp : ∀ t, t < 6 → qi wI0 (103 + 2 * t) 0 = qi wI0 157 t ∧ qi wI0 (103 + 2 * t) 1 = qi wI0 158 t ∧ (∀ j, j < 60 → ql wI0 (104 + 2 * t) j = ql wI0 159 (60 * t + j)) ∧ qi wI0 157 t = -1 ∧ qi wI0 158 t = 0 := by decide +kernel
set_option maxRecDepth 100000 in
theorem z_le : ∀ j, j < 13 → qi wI0 131 j = lets.getD j 0 := by decide +kernel
theorem h_init (E : qE) : I E wI0 := by
  obtain ⟨x1, x2, x3, x4, x5, x6, x7, x8, x9, x10, x11⟩ := z_x
  refine ⟨fun _ => [], 0, ⟨z_PX, z_ok, fun i hi => (z_num i hi).2.1, fun i hi => (z_num i hi).2.2⟩, z_RW _, ⟨x1.trans x2.symm, fun z => absurd x2 z⟩, ⟨0, by omega, x3, x4, fun j hj => ⟨(z_t j hj).1.trans (z_t j hj).2.symm, 0, by omega, (z_t j hj).1⟩⟩, ⟨⟨by omega, x5, x6, fun f hf => absurd hf (Nat.not_lt_zero f), Or.inl rfl, fun c hc => absurd hc (by simp), ⟨Nat.zero_le _, x7, fun j t h => absurd h (by simp [flK])⟩, trivial, x8⟩, Or.inl z_m.2.2.2.2.2⟩, ⟨0, by omega, x9, x10, z_ac⟩, fun t ht => ?_, x11, z_le⟩
  obtain ⟨t1, t2, t3, t4, t5⟩ := z_tp t ht
  exact ⟨t1, t2, t3, Or.inl ⟨t4, t5⟩⟩
theorem pr_all (E : qE) : qPairs E (I E) := ⟨pr_thing, pr_of, pr_put, pr_say, pr_weigh, pr_fire, pr_tip, pr_row, pr_feed, pr_kitchen, pr_told, pr_pass, pr_on, pr_best, pr_enough, pr_flame, pr_see, pr_can, pr_odds, pr_mean, pr_plan, pr_ends, pr_book, pr_looked, pr_judge, pr_image, pr_undo, pr_act, pr_trace, pr_taken, pr_count, pr_tape, pr_item, pr_read, pr_shift⟩
end ZI
