/-! the pairs: switches, small answers -/
section PT
variable {d : Nat} {E : qE} {w w1 w2 : qW} {kk : Nat → List Cl} {n : Nat}
theorem pr_count : pair_count E (I E) := by
  intro d w a1 hw hI
  obtain ⟨kk, n, hJ⟩ := id hI
  obtain ⟨c, c1, c2, c3, c4⟩ := hJ.cn
  obtain ⟨⟨n1', -, s1, s1', -⟩, ⟨n2', -, s2, s2', -⟩, ⟨n3', -, s3, s3', -⟩⟩ := hJ.2.1
  obtain ⟨m, -, m1, m2, -⟩ := hJ.2.2.2.1
  obtain ⟨r, -, r1, r2, -⟩ := hJ.2.2.2.2.2.1
  obtain ⟨-, k1, k2, -⟩ := hJ.2.2.2.2.1.1
  refine en_Qu_count hw (s_Qu_count_0 hw ?_)
  rcases rng (x := a1) 0 6 (by omega) (by omega) with hx | ⟨b, -, hb, rfl⟩
  · exact ⟨fun z => absurd hx (by rw [z]; decide), fun z => absurd hx (by rw [z]; decide), fun z => absurd hx (by rw [z]; decide), fun z => absurd hx (by rw [z]; decide), fun z => absurd hx (by rw [z]; decide), fun z => absurd hx (by rw [z]; decide), fun z => absurd hx (by rw [z]; decide), fun _ => en_Mo_count hw (s_Mo_count_0 hw ⟨fun z => absurd hx (by rw [z]; decide), fun z => absurd hx (by rw [z]; decide), fun z => absurd hx (by rw [z]; decide), fun z => absurd hx (by rw [z]; decide), fun z => absurd hx (by rw [z]; decide), fun z => absurd hx (by rw [z]; decide), fun z => absurd hx (by rw [z]; decide), fun _ => ⟨rfl, hI⟩⟩)⟩
  rcases (show b = 0 ∨ b = 1 ∨ b = 2 ∨ b = 3 ∨ b = 4 ∨ b = 5 ∨ b = 6 by omega) with rfl | rfl | rfl | rfl | rfl | rfl | rfl
  · exact ⟨fun _ => en_Mo_count hw (s_Mo_count_0 hw ⟨fun _ => ⟨c2.trans c3.symm, hI⟩, fun z => absurd z (by decide), fun z => absurd z (by decide), fun z => absurd z (by decide), fun z => absurd z (by decide), fun z => absurd z (by decide), fun z => absurd z (by decide), fun z => absurd z (by decide)⟩), fun z => absurd z (by decide), fun z => absurd z (by decide), fun z => absurd z (by decide), fun z => absurd z (by decide), fun z => absurd z (by decide), fun z => absurd z (by decide), fun z => absurd z (by decide)⟩
  · exact ⟨fun z => absurd z (by decide), fun _ => en_Mo_count hw (s_Mo_count_0 hw ⟨fun z => absurd z (by decide), fun _ => ⟨k1.trans k2.symm, hI⟩, fun z => absurd z (by decide), fun z => absurd z (by decide), fun z => absurd z (by decide), fun z => absurd z (by decide), fun z => absurd z (by decide), fun z => absurd z (by decide)⟩), fun z => absurd z (by decide), fun z => absurd z (by decide), fun z => absurd z (by decide), fun z => absurd z (by decide), fun z => absurd z (by decide), fun z => absurd z (by decide)⟩
  · exact ⟨fun z => absurd z (by decide), fun z => absurd z (by decide), fun _ => en_Mo_count hw (s_Mo_count_0 hw ⟨fun z => absurd z (by decide), fun z => absurd z (by decide), fun _ => ⟨s1.trans s1'.symm, hI⟩, fun z => absurd z (by decide), fun z => absurd z (by decide), fun z => absurd z (by decide), fun z => absurd z (by decide), fun z => absurd z (by decide)⟩), fun z => absurd z (by decide), fun z => absurd z (by decide), fun z => absurd z (by decide), fun z => absurd z (by decide), fun z => absurd z (by decide)⟩
  · exact ⟨fun z => absurd z (by decide), fun z => absurd z (by decide), fun z => absurd z (by decide), fun _ => en_Mo_count hw (s_Mo_count_0 hw ⟨fun z => absurd z (by decide), fun z => absurd z (by decide), fun z => absurd z (by decide), fun _ => ⟨s2.trans s2'.symm, hI⟩, fun z => absurd z (by decide), fun z => absurd z (by decide), fun z => absurd z (by decide), fun z => absurd z (by decide)⟩), fun z => absurd z (by decide), fun z => absurd z (by decide), fun z => absurd z (by decide), fun z => absurd z (by decide)⟩
  · exact ⟨fun z => absurd z (by decide), fun z => absurd z (by decide), fun z => absurd z (by decide), fun z => absurd z (by decide), fun _ => en_Mo_count hw (s_Mo_count_0 hw ⟨fun z => absurd z (by decide), fun z => absurd z (by decide), fun z => absurd z (by decide), fun z => absurd z (by decide), fun _ => ⟨s3.trans s3'.symm, hI⟩, fun z => absurd z (by decide), fun z => absurd z (by decide), fun z => absurd z (by decide)⟩), fun z => absurd z (by decide), fun z => absurd z (by decide), fun z => absurd z (by decide)⟩
  · exact ⟨fun z => absurd z (by decide), fun z => absurd z (by decide), fun z => absurd z (by decide), fun z => absurd z (by decide), fun z => absurd z (by decide), fun _ => en_Mo_count hw (s_Mo_count_0 hw ⟨fun z => absurd z (by decide), fun z => absurd z (by decide), fun z => absurd z (by decide), fun z => absurd z (by decide), fun z => absurd z (by decide), fun _ => ⟨m1.trans m2.symm, hI⟩, fun z => absurd z (by decide), fun z => absurd z (by decide)⟩), fun z => absurd z (by decide), fun z => absurd z (by decide)⟩
  · exact ⟨fun z => absurd z (by decide), fun z => absurd z (by decide), fun z => absurd z (by decide), fun z => absurd z (by decide), fun z => absurd z (by decide), fun z => absurd z (by decide), fun _ => en_Mo_count hw (s_Mo_count_0 hw ⟨fun z => absurd z (by decide), fun z => absurd z (by decide), fun z => absurd z (by decide), fun z => absurd z (by decide), fun z => absurd z (by decide), fun z => absurd z (by decide), fun _ => ⟨r1.trans r2.symm, hI⟩, fun z => absurd z (by decide)⟩), fun z => absurd z (by decide)⟩
theorem pr_told : pair_told E (I E) := by
  intro d w a1 hw hI
  obtain ⟨kk, n, hJ⟩ := id hI
  obtain ⟨c, c1, c2, c3, c4⟩ := hJ.cn
  have hP : PX 15 w = PM w := hJ.1.1
  refine en_Qu_told hw (s_Qu_told_0 hw ?_)
  rcases rng (x := a1) 0 9 (by omega) (by omega) with hx | ⟨b, -, hb, rfl⟩
  · exact ⟨fun z => absurd hx (by rw [z]; decide), fun z => absurd hx (by rw [z]; decide), fun z => absurd hx (by rw [z]; decide), fun z => absurd hx (by rw [z]; decide), fun z => absurd hx (by rw [z]; decide), fun z => absurd hx (by rw [z]; decide), fun z => absurd hx (by rw [z]; decide), fun z => absurd hx (by rw [z]; decide), fun z => absurd hx (by rw [z]; decide), fun z => absurd hx (by rw [z]; decide), fun _ => en_Mo_told hw (s_Mo_told_0 hw ⟨fun z => absurd hx (by rw [z]; decide), fun z => absurd hx (by rw [z]; decide), fun z => absurd hx (by rw [z]; decide), fun z => absurd hx (by rw [z]; decide), fun z => absurd hx (by rw [z]; decide), fun z => absurd hx (by rw [z]; decide), fun z => absurd hx (by rw [z]; decide), fun z => absurd hx (by rw [z]; decide), fun z => absurd hx (by rw [z]; decide), fun z => absurd hx (by rw [z]; decide), fun _ => ⟨rfl, hI⟩⟩)⟩
  rcases (show b = 0 ∨ b = 1 ∨ b = 2 ∨ b = 3 ∨ b = 4 ∨ b = 5 ∨ b = 6 ∨ b = 7 ∨ b = 8 ∨ b = 9 by omega) with rfl | rfl | rfl | rfl | rfl | rfl | rfl | rfl | rfl | rfl
  · exact ⟨fun _ => (en_Mo_told hw (s_Mo_told_0 hw ⟨fun _ => ⟨congrArg pm hP, hI⟩, fun z => absurd z (by decide), fun z => absurd z (by decide), fun z => absurd z (by decide), fun z => absurd z (by decide), fun z => absurd z (by decide), fun z => absurd z (by decide), fun z => absurd z (by decide), fun z => absurd z (by decide), fun z => absurd z (by decide), fun z => absurd z (by decide)⟩)), fun z => absurd z (by decide), fun z => absurd z (by decide), fun z => absurd z (by decide), fun z => absurd z (by decide), fun z => absurd z (by decide), fun z => absurd z (by decide), fun z => absurd z (by decide), fun z => absurd z (by decide), fun z => absurd z (by decide), fun z => absurd z (by decide)⟩
  · obtain ⟨kc1, K, kx, kr⟩ := hJ.kcs
    refine ⟨fun z => absurd z (by decide), fun _ => ⟨K, kx.1, kr, ?_⟩, fun z => absurd z (by decide), fun z => absurd z (by decide), fun z => absurd z (by decide), fun z => absurd z (by decide), fun z => absurd z (by decide), fun z => absurd z (by decide), fun z => absurd z (by decide), fun z => absurd z (by decide), fun z => absurd z (by decide)⟩
    refine en_Mo_told hw (s_Mo_told_0 hw ⟨fun z => absurd z (by decide), fun _ => p_Mo_need hw kc1 ⟨kx.2.2.2.2, hI⟩, fun z => absurd z (by decide), fun z => absurd z (by decide), fun z => absurd z (by decide), fun z => absurd z (by decide), fun z => absurd z (by decide), fun z => absurd z (by decide), fun z => absurd z (by decide), fun z => absurd z (by decide), fun z => absurd z (by decide)⟩)
  · exact ⟨fun z => absurd z (by decide), fun z => absurd z (by decide), fun _ => (en_Mo_told hw (s_Mo_told_0 hw ⟨fun z => absurd z (by decide), fun z => absurd z (by decide), fun _ => ⟨congrArg pf hP, hI⟩, fun z => absurd z (by decide), fun z => absurd z (by decide), fun z => absurd z (by decide), fun z => absurd z (by decide), fun z => absurd z (by decide), fun z => absurd z (by decide), fun z => absurd z (by decide), fun z => absurd z (by decide)⟩)), fun z => absurd z (by decide), fun z => absurd z (by decide), fun z => absurd z (by decide), fun z => absurd z (by decide), fun z => absurd z (by decide), fun z => absurd z (by decide), fun z => absurd z (by decide), fun z => absurd z (by decide)⟩
  · exact ⟨fun z => absurd z (by decide), fun z => absurd z (by decide), fun z => absurd z (by decide), fun _ => (en_Mo_told hw (s_Mo_told_0 hw ⟨fun z => absurd z (by decide), fun z => absurd z (by decide), fun z => absurd z (by decide), fun _ => ⟨congrArg pk hP, hI⟩, fun z => absurd z (by decide), fun z => absurd z (by decide), fun z => absurd z (by decide), fun z => absurd z (by decide), fun z => absurd z (by decide), fun z => absurd z (by decide), fun z => absurd z (by decide)⟩)), fun z => absurd z (by decide), fun z => absurd z (by decide), fun z => absurd z (by decide), fun z => absurd z (by decide), fun z => absurd z (by decide), fun z => absurd z (by decide), fun z => absurd z (by decide)⟩
  · have e4 : qz (qi w 15 4) = qz (qi w 115 4) := congrArg ps hP
    refine ⟨fun z => absurd z (by decide), fun z => absurd z (by decide), fun z => absurd z (by decide), fun z => absurd z (by decide), fun _ => ⟨fun z => ?_, fun z => ?_⟩, fun z => absurd z (by decide), fun z => absurd z (by decide), fun z => absurd z (by decide), fun z => absurd z (by decide), fun z => absurd z (by decide), fun z => absurd z (by decide)⟩
    · rw [e4] at z
      exact en_Mo_told hw (s_Mo_told_0 hw ⟨fun z => absurd z (by decide), fun z => absurd z (by decide), fun z => absurd z (by decide), fun z => absurd z (by decide), fun _ => ⟨fun y => ⟨rfl, hI⟩, fun y => absurd z y⟩, fun z => absurd z (by decide), fun z => absurd z (by decide), fun z => absurd z (by decide), fun z => absurd z (by decide), fun z => absurd z (by decide), fun z => absurd z (by decide)⟩)
    · rw [e4] at z
      exact en_Mo_told hw (s_Mo_told_0 hw ⟨fun z => absurd z (by decide), fun z => absurd z (by decide), fun z => absurd z (by decide), fun z => absurd z (by decide), fun _ => ⟨fun y => absurd y z, fun y => ⟨rfl, hI⟩⟩, fun z => absurd z (by decide), fun z => absurd z (by decide), fun z => absurd z (by decide), fun z => absurd z (by decide), fun z => absurd z (by decide), fun z => absurd z (by decide)⟩)
  · refine ⟨fun z => absurd z (by decide), fun z => absurd z (by decide), fun z => absurd z (by decide), fun z => absurd z (by decide), fun z => absurd z (by decide), fun _ => p_Pa_bitsOf hw pan15 hJ.xo ?_, fun z => absurd z (by decide), fun z => absurd z (by decide), fun z => absurd z (by decide), fun z => absurd z (by decide), fun z => absurd z (by decide)⟩
    refine en_Mo_told hw (s_Mo_told_0 hw ⟨fun z => absurd z (by decide), fun z => absurd z (by decide), fun z => absurd z (by decide), fun z => absurd z (by decide), fun z => absurd z (by decide), fun _ => p_setOf hw hJ.1.2.1 ⟨?_, hI⟩, fun z => absurd z (by decide), fun z => absurd z (by decide), fun z => absurd z (by decide), fun z => absurd z (by decide), fun z => absurd z (by decide)⟩)
    rw [hP]
  · refine ⟨fun z => absurd z (by decide), fun z => absurd z (by decide), fun z => absurd z (by decide), fun z => absurd z (by decide), fun z => absurd z (by decide), fun z => absurd z (by decide), fun _ => p_Pa_bitsOf hw pan15 hJ.xo ?_, fun z => absurd z (by decide), fun z => absurd z (by decide), fun z => absurd z (by decide), fun z => absurd z (by decide)⟩
    refine en_Mo_told hw (s_Mo_told_0 hw ⟨fun z => absurd z (by decide), fun z => absurd z (by decide), fun z => absurd z (by decide), fun z => absurd z (by decide), fun z => absurd z (by decide), fun z => absurd z (by decide), fun _ => p_setOf hw hJ.1.2.1 ⟨?_, hI⟩, fun z => absurd z (by decide), fun z => absurd z (by decide), fun z => absurd z (by decide), fun z => absurd z (by decide)⟩)
    rw [hP]
  · refine ⟨fun z => absurd z (by decide), fun z => absurd z (by decide), fun z => absurd z (by decide), fun z => absurd z (by decide), fun z => absurd z (by decide), fun z => absurd z (by decide), fun z => absurd z (by decide), fun _ => x_sets (hJ.xa hw) (fun w1 h1 => ?_), fun z => absurd z (by decide), fun z => absurd z (by decide), fun z => absurd z (by decide)⟩
    obtain ⟨hJ1, eP, mc⟩ := hJ.ya h1.ya
    refine en_Mo_told h1.1 (s_Mo_told_0 h1.1 ⟨fun z => absurd z (by decide), fun z => absurd z (by decide), fun z => absurd z (by decide), fun z => absurd z (by decide), fun z => absurd z (by decide), fun z => absurd z (by decide), fun z => absurd z (by decide), fun _ => y_sets (MA.self h1.1 mc) (fun w2 h2 => ⟨?_, kk, n, hJ1.za h2.za⟩), fun z => absurd z (by decide), fun z => absurd z (by decide), fun z => absurd z (by decide)⟩)
    rw [eP]
  · refine ⟨fun z => absurd z (by decide), fun z => absurd z (by decide), fun z => absurd z (by decide), fun z => absurd z (by decide), fun z => absurd z (by decide), fun z => absurd z (by decide), fun z => absurd z (by decide), fun z => absurd z (by decide), fun _ => x_word (hJ.xa hw) (fun w1 h1 => ?_), fun z => absurd z (by decide), fun z => absurd z (by decide)⟩
    obtain ⟨hJ1, eP, mc⟩ := hJ.ya h1.ya
    refine en_Mo_told h1.1 (s_Mo_told_0 h1.1 ⟨fun z => absurd z (by decide), fun z => absurd z (by decide), fun z => absurd z (by decide), fun z => absurd z (by decide), fun z => absurd z (by decide), fun z => absurd z (by decide), fun z => absurd z (by decide), fun z => absurd z (by decide), fun _ => y_word (MA.self h1.1 mc) (fun w2 h2 => ⟨?_, kk, n, hJ1.za h2.za⟩), fun z => absurd z (by decide), fun z => absurd z (by decide)⟩)
    rw [eP]
  · obtain ⟨kc1, K, kx, kr⟩ := hJ.kcs
    refine ⟨fun z => absurd z (by decide), fun z => absurd z (by decide), fun z => absurd z (by decide), fun z => absurd z (by decide), fun z => absurd z (by decide), fun z => absurd z (by decide), fun z => absurd z (by decide), fun z => absurd z (by decide), fun z => absurd z (by decide), fun _ => p_Pa_together hw pan15 hJ.xo (by omega) kx kr (fun w1 x hw1 hf1 hx => ?_), fun z => absurd z (by decide)⟩
    obtain ⟨hJ1, eP⟩ := hJ.fac hf1
    obtain ⟨c', c1', c2', c3', c4'⟩ := hJ1.cn
    obtain ⟨m, hm, hmn⟩ := hJ1.1.2.1.2.2.2.2.1
    have hmn : qi w1 115 3 = nI m := hmn
    have ek : kc kk w1 = kc kk w := by unfold kc; rw [(hf1 115 13 (by unfold jFac; omega)).1]
    refine en_Mo_told hw1 (s_Mo_told_0 hw1 ⟨fun z => absurd z (by decide), fun z => absurd z (by decide), fun z => absurd z (by decide), fun z => absurd z (by decide), fun z => absurd z (by decide), fun z => absurd z (by decide), fun z => absurd z (by decide), fun z => absurd z (by decide), fun z => absurd z (by decide), fun _ => p_Mo_allGive hw1 c1' c3' (by omega) hmn hJ1.kcs.1 (fun w2 y hw2 hf2 hy => ⟨?_, kk, n, hJ1.pl hf2⟩), fun z => absurd z (by decide)⟩)
    rw [hx, hy, ek, ← c4', eP]
theorem pr_of : pair_of E (I E) := by
  intro d w a1 a2 hw hI
  obtain ⟨kk, n, hJ⟩ := id hI
  obtain ⟨c, c1, c2, c3, c4⟩ := hJ.cn
  have hP : PX 15 w = PM w := hJ.1.1
  refine en_Qu_of hw (s_Qu_of_0 hw ?_)
  rcases thg (x := a1) c c1 with h1 | ⟨i, h1, rfl⟩
  · exact p_find_n hw pan15 c2 h1 (Or.inl ⟨rfl, en_Mo_of hw (s_Mo_of_0 hw (p_thg0 hw c1 c3 h1 (f1 ⟨rfl, hI⟩)))⟩)
  have hi : i < 6 := by omega
  have hin : vp_in (nI i) 6 := nvp hi (by omega)
  have hcl : (nI i).toNatClampNeg = i := ncl (by omega)
  refine p_find_s hw pan15 c1 c2 h1 (Or.inr ⟨i, hi, rfl, ?_⟩)
  rcases rng (x := a2) 0 7 (by omega) (by omega) with hx | ⟨b, -, hb, rfl⟩
  · exact ⟨fun z => absurd hx (by rw [z]; decide), fun z => absurd hx (by rw [z]; decide), fun z => absurd hx (by rw [z]; decide), fun z => absurd hx (by rw [z]; decide), fun z => absurd hx (by rw [z]; decide), fun z => absurd hx (by rw [z]; decide), fun z => absurd hx (by rw [z]; decide), fun z => absurd hx (by rw [z]; decide), fun _ => en_Mo_of hw (s_Mo_of_0 hw (p_thg1 hw c1 c3 h1 (t1 ⟨fun z => absurd hx (by rw [z]; decide), fun z => absurd hx (by rw [z]; decide), fun z => absurd hx (by rw [z]; decide), fun z => absurd hx (by rw [z]; decide), fun z => absurd hx (by rw [z]; decide), fun z => absurd hx (by rw [z]; decide), fun z => absurd hx (by rw [z]; decide), fun z => absurd hx (by rw [z]; decide), fun _ => ⟨rfl, hI⟩⟩)))⟩
  rcases (show b = 0 ∨ b = 1 ∨ b = 2 ∨ b = 3 ∨ b = 4 ∨ b = 5 ∨ b = 6 ∨ b = 7 by omega) with rfl | rfl | rfl | rfl | rfl | rfl | rfl | rfl
  · exact ⟨fun _ => en_Mo_of hw (s_Mo_of_0 hw (p_thg1 hw c1 c3 h1 (t1 ⟨fun _ => ⟨hin, by rw [hcl]; exact ⟨x6 (a := 0) hi (by omega) hJ, hI⟩⟩, fun z => absurd z (by decide), fun z => absurd z (by decide), fun z => absurd z (by decide), fun z => absurd z (by decide), fun z => absurd z (by decide), fun z => absurd z (by decide), fun z => absurd z (by decide), fun z => absurd z (by decide)⟩))), fun z => absurd z (by decide), fun z => absurd z (by decide), fun z => absurd z (by decide), fun z => absurd z (by decide), fun z => absurd z (by decide), fun z => absurd z (by decide), fun z => absurd z (by decide), fun z => absurd z (by decide)⟩
  · exact ⟨fun z => absurd z (by decide), fun _ => en_Mo_of hw (s_Mo_of_0 hw (p_thg1 hw c1 c3 h1 (t1 ⟨fun z => absurd z (by decide), fun _ => ⟨hin, by rw [hcl]; exact ⟨x6 (a := 1) hi (by omega) hJ, hI⟩⟩, fun z => absurd z (by decide), fun z => absurd z (by decide), fun z => absurd z (by decide), fun z => absurd z (by decide), fun z => absurd z (by decide), fun z => absurd z (by decide), fun z => absurd z (by decide)⟩))), fun z => absurd z (by decide), fun z => absurd z (by decide), fun z => absurd z (by decide), fun z => absurd z (by decide), fun z => absurd z (by decide), fun z => absurd z (by decide), fun z => absurd z (by decide)⟩
  · exact ⟨fun z => absurd z (by decide), fun z => absurd z (by decide), fun _ => en_Mo_of hw (s_Mo_of_0 hw (p_thg1 hw c1 c3 h1 (t1 ⟨fun z => absurd z (by decide), fun z => absurd z (by decide), fun _ => ⟨hin, by rw [hcl]; exact ⟨x6 (a := 2) hi (by omega) hJ, hI⟩⟩, fun z => absurd z (by decide), fun z => absurd z (by decide), fun z => absurd z (by decide), fun z => absurd z (by decide), fun z => absurd z (by decide), fun z => absurd z (by decide)⟩))), fun z => absurd z (by decide), fun z => absurd z (by decide), fun z => absurd z (by decide), fun z => absurd z (by decide), fun z => absurd z (by decide), fun z => absurd z (by decide)⟩
  · exact ⟨fun z => absurd z (by decide), fun z => absurd z (by decide), fun z => absurd z (by decide), fun _ => en_Mo_of hw (s_Mo_of_0 hw (p_thg1 hw c1 c3 h1 (t1 ⟨fun z => absurd z (by decide), fun z => absurd z (by decide), fun z => absurd z (by decide), fun _ => ⟨hin, by rw [hcl]; exact ⟨x6 (a := 3) hi (by omega) hJ, hI⟩⟩, fun z => absurd z (by decide), fun z => absurd z (by decide), fun z => absurd z (by decide), fun z => absurd z (by decide), fun z => absurd z (by decide)⟩))), fun z => absurd z (by decide), fun z => absurd z (by decide), fun z => absurd z (by decide), fun z => absurd z (by decide), fun z => absurd z (by decide)⟩
  · exact ⟨fun z => absurd z (by decide), fun z => absurd z (by decide), fun z => absurd z (by decide), fun z => absurd z (by decide), fun _ => en_Mo_of hw (s_Mo_of_0 hw (p_thg1 hw c1 c3 h1 (t1 ⟨fun z => absurd z (by decide), fun z => absurd z (by decide), fun z => absurd z (by decide), fun z => absurd z (by decide), fun _ => ⟨hin, by rw [hcl]; exact ⟨x6 (a := 4) hi (by omega) hJ, hI⟩⟩, fun z => absurd z (by decide), fun z => absurd z (by decide), fun z => absurd z (by decide), fun z => absurd z (by decide)⟩))), fun z => absurd z (by decide), fun z => absurd z (by decide), fun z => absurd z (by decide), fun z => absurd z (by decide)⟩
  · exact ⟨fun z => absurd z (by decide), fun z => absurd z (by decide), fun z => absurd z (by decide), fun z => absurd z (by decide), fun z => absurd z (by decide), fun _ => en_Mo_of hw (s_Mo_of_0 hw (p_thg1 hw c1 c3 h1 (t1 ⟨fun z => absurd z (by decide), fun z => absurd z (by decide), fun z => absurd z (by decide), fun z => absurd z (by decide), fun z => absurd z (by decide), fun _ => ⟨hin, by rw [hcl]; exact ⟨x6 (a := 5) hi (by omega) hJ, hI⟩⟩, fun z => absurd z (by decide), fun z => absurd z (by decide), fun z => absurd z (by decide)⟩))), fun z => absurd z (by decide), fun z => absurd z (by decide), fun z => absurd z (by decide)⟩
  · obtain ⟨kc1, K, kx, kr⟩ := hJ.kcs
    obtain ⟨m, hm, hmn⟩ := hJ.1.2.1.2.2.2.2.1
    have hmx : qi w 15 5 = nI m := (congrArg pm hP).trans hmn
    refine ⟨fun z => absurd z (by decide), fun z => absurd z (by decide), fun z => absurd z (by decide), fun z => absurd z (by decide), fun z => absurd z (by decide), fun z => absurd z (by decide), fun _ => p_Pa_gives hw pan15 hi c1 c2 (by omega) hmx kx kr hJ.xo.num (fun w1 x hw1 hf1 hx => ?_), fun z => absurd z (by decide), fun z => absurd z (by decide)⟩
    obtain ⟨hJ1, eP⟩ := hJ.fac hf1
    obtain ⟨c', c1', c2', c3', c4'⟩ := hJ1.cn
    have ec : c' = c := by rw [← c4', ← c4, eP, hP]
    obtain ⟨m', hm', hmn'⟩ := hJ1.1.2.1.2.2.2.2.1
    have hmn'' : qi w1 115 3 = nI m' := hmn'
    have ek : kc kk w1 = kc kk w := by unfold kc; rw [(hf1 115 13 (by unfold jFac; omega)).1]
    refine en_Mo_of hw1 (s_Mo_of_0 hw1 (p_thg1 hw1 c1' c3' (by omega) (t1 ⟨fun z => absurd z (by decide), fun z => absurd z (by decide), fun z => absurd z (by decide), fun z => absurd z (by decide), fun z => absurd z (by decide), fun z => absurd z (by decide), fun _ => p_Mo_gives hw1 hi c1' c3' (by omega) hmn'' hJ1.kcs.1 (fun w2 y hw2 hf2 hy => ⟨?_, kk, n, hJ1.pl hf2⟩), fun z => absurd z (by decide), fun z => absurd z (by decide)⟩)))
    rw [hx, hy, ek, eP]
  · obtain ⟨cnt, b1, b2, b3, b4, b5⟩ := hJ.2.1.1
    have hA : ∀ j, j < cnt → rg (qi w 7 j) 12 := fun j hj => by
      have e : qi w 7 j = qi w 137 j := (b4 j (by omega)).1
      rw [e]
      exact b5 j hj
    have hc : i < cN (nmP (PX 15 w)) := by
      rw [hP]
      show i < cN (PM w)
      omega
    refine ⟨fun z => absurd z (by decide), fun z => absurd z (by decide), fun z => absurd z (by decide), fun z => absurd z (by decide), fun z => absurd z (by decide), fun z => absurd z (by decide), fun z => absurd z (by decide), fun _ => x_weights (hJ.xa hw) b1 b2 hA hc hi (fun w1 h3 => ?_), fun z => absurd z (by decide)⟩
    obtain ⟨hJ1, eP, mc⟩ := hJ.ya h3.ya
    have g : ∀ a j, 100 ≤ a → qi w1 a j = qi w a j := fun a j ha => (h3.2.1 a j (by unfold jAs; omega)).1
    have e : (fun m => seenB (kc kk w) (sA (nmP (PX 15 w)) i 2 (nI m)) (qi w 7) (qi w 8) cnt) = fun m => seenB (kc kk w) (sA (nmP (PM w1)) i 2 (nI m)) (qi w1 137) (qi w1 138) cnt := by
      funext m
      rw [eP]
      refine seenB_ext (fun j hj => ?_)
      rw [g 137 j (by omega), g 138 j (by omega)]
      exact b4 j (by omega)
    refine en_Mo_of h3.1 (s_Mo_of_0 h3.1 (p_thg1 h3.1 c1 ((g 115 0 (by omega)).trans c3) h1 (t1 ⟨fun z => absurd z (by decide), fun z => absurd z (by decide), fun z => absurd z (by decide), fun z => absurd z (by decide), fun z => absurd z (by decide), fun z => absurd z (by decide), fun z => absurd z (by decide), fun _ => y_weights mc h3.1 b1 ((g 115 39 (by omega)).trans b3) (fun j hj => by rw [g 137 j (by omega)]; exact b5 j hj) hi (fun w2 h4 => ⟨?_, kk, n, hJ1.za h4⟩), fun z => absurd z (by decide)⟩)))
    rw [e]
theorem pr_trace : pair_trace E (I E) := by
  intro d w a1 hw hI
  obtain ⟨kk, n, hJ⟩ := id hI
  obtain ⟨m, m1, m2, m3, m4⟩ := hJ.2.2.2.2.2.1
  refine en_Qu_trace hw (s_Qu_trace_0 hw (en_Ac_bodyAt hw (s_Ac_bodyAt_0 hw ?_)))
  rcases rng (x := a1) 0 19 (by omega) (by omega) with hx | ⟨b, -, hb, rfl⟩
  · have fin0 : CaI (d + 43) M_Mo_trace [.ref (qb E + 115), .int a1] E w (fun w4 y => (-1 : Int32) = y ∧ I E w4) := en_Mo_trace hw (s_Mo_trace_0 hw (p_mo hw hx (f2 ⟨rfl, hI⟩)))
    refine ⟨fun _ => fin0, fun z => ⟨fun _ => fin0, fun _ => ⟨fun _ => fin0, fun y => absurd hx (fun q => q.elim z (fun u => y ?_))⟩⟩⟩
    rw [Int32.lt_iff_toInt_lt] at u
    rw [Int32.le_iff_toInt_le]
    have e1 : (nI 19).toInt = 19 := rfl
    have e2 : (20 : Int32).toInt = 20 := rfl
    omega
  have hin : vp_in (nI b) 20 := nvp (by omega) (by omega)
  rw [m2]
  refine ⟨fun z => absurd z (nI_pos (by omega)), fun _ => pk_le m b (fun z => ?_) (fun z => ⟨fun y => absurd y (by rw [show (20 : Int32) = nI 20 from rfl, nle (by omega) (by omega)]; omega), fun _ => ⟨hin, ?_⟩⟩)⟩
  · refine en_Mo_trace hw (s_Mo_trace_0 hw (p_mi (a := 0) (b := 19) hw (by omega) hb (t2 ?_)))
    rw [m3]
    exact pk_le m b (fun _ => ⟨rfl, hI⟩) (fun y => by omega)
  · refine en_Mo_trace hw (s_Mo_trace_0 hw (p_mi (a := 0) (b := 19) hw (by omega) hb (t2 ?_)))
    rw [m3, ncl (by omega)]
    exact pk_le m b (fun y => by omega) (fun _ => ⟨hin, m4 b (by omega), hI⟩)
/-- kinds above kinds -/
def unF : Nat → Nat → Nat → Bool
  | 0, _, _ => false
  | f + 1, a, m => decide (a = m) || (if a = 0 then false else if a ≤ 3 then unF f 0 m else unF f (a - 3) m)
theorem unF_ck : ∀ a, a < 7 → ∀ m, m < 7 → (unF 3 a m = true ↔ (m = 0 ∨ a = m ∨ (m = 1 ∧ a = 4) ∨ (m = 2 ∧ a = 5) ∨ (m = 3 ∧ a = 6))) := by decide +kernel
theorem ab_ck : ∀ a, a < 7 → qAbove a = if a = 0 then -1 else if a ≤ 3 then nI 0 else nI (a - 3) := by decide +kernel
theorem h_under {Q : qW → Int32 → Prop} {t m : Nat} (hw : Sh w) (hm : m < 7) (ht : isTh t) :
    ∀ (f s a : Nat), s + f ≤ 6 → a < 7 → (f = 0 → False) → (1 ≤ f → (a = 0 ∨ (a ≤ 3 ∧ 2 ≤ f) ∨ 3 ≤ f)) → Q w (bI (unF f a m)) → c_Th_isUnder_7 d E Q (nI m) (nI a) (nI s) w := by
  intro f
  induction f with
  | zero => intro s a _ _ h; exact absurd rfl h
  | succ f ih =>
    intro s a hs ha _ hf hQ
    refine s_Th_isUnder_7 hw ⟨fun z => absurd z (by rw [show (7 : Int32) = nI 7 from rfl, nle (by omega) (by omega)]; omega), fun _ => ⟨fun z => absurd z (nI_pos (by omega)), fun _ => ⟨fun z => absurd z (by rw [show (7 : Int32) = nI 7 from rfl, nle (by omega) (by omega)]; omega), fun _ => ⟨fun z => ⟨nvp ha (by omega), ?_⟩, fun z => ?_⟩⟩⟩⟩
    · rw [ncl (by omega), n1, ab_ck a ha]
      have za : ¬ a = m := fun q => z (by rw [q])
      have e : unF (f + 1) a m = if a = 0 then false else if a ≤ 3 then unF f 0 m else unF f (a - 3) m := by
        show (decide (a = m) || _) = _
        rw [decide_eq_false za, Bool.false_or]
      rw [e] at hQ
      by_cases a0 : a = 0
      · rw [if_pos a0] at hQ ⊢
        exact s_Th_isUnder_7 hw ⟨fun _ => hQ, fun _ => ⟨fun _ => hQ, fun y => absurd (by decide) y⟩⟩
      · rw [if_neg a0] at hQ ⊢
        by_cases a3 : a ≤ 3
        · rw [if_pos a3] at hQ ⊢
          exact ih (s + 1) 0 (by omega) (by omega) (fun q => by have := hf (by omega); omega) (fun _ => Or.inl rfl) hQ
        · rw [if_neg a3] at hQ ⊢
          exact ih (s + 1) (a - 3) (by omega) (by omega) (fun q => by have := hf (by omega); omega) (fun _ => by have := hf (by omega); omega) hQ
    · have za : a = m := (neq (by omega) (by omega)).mp z
      have e : unF (f + 1) a m = true := by
        show (decide (a = m) || _) = _
        rw [decide_eq_true za, Bool.true_or]
      rw [e] at hQ
      exact hQ
theorem p_Mo_taken {Q : qW → Int32 → Prop} {c i a m : Nat} (hw : Sh w) (hc : c ≤ 6) (hcn : qi w 115 0 = nI c) (hi : i < c) (ha : a < 7) (hm : m < 7) (hk : qi w 116 i = nI a) (y1 : unF 3 a m = true → Q w (nI a)) (y0 : ¬ unF 3 a m = true → Q w (-12)) : CaI (d + 2) M_Mo_taken [.ref (qb E + 115), .int (nI i), .int (nI m)] E w Q := by
  rw [unF_ck a ha m hm] at y1 y0
  refine en_Mo_taken hw (s_Mo_taken_0 hw (p_mi (a := 0) (b := 6) hw (by omega) (by omega) (t1 (p_thg1 hw hc hcn hi (t1 ⟨nvp (by omega) (by omega), ?_⟩)))))
  have m0 : nI m = 0 ↔ m = 0 := neq (b := 0) (by omega) (by omega)
  have m1 : nI m = 1 ↔ m = 1 := neq (b := 1) (by omega) (by omega)
  have m2 : nI m = 2 ↔ m = 2 := neq (b := 2) (by omega) (by omega)
  have m3 : nI m = 3 ↔ m = 3 := neq (b := 3) (by omega) (by omega)
  have k4 : nI a = 4 ↔ a = 4 := neq (b := 4) (by omega) (by omega)
  have k5 : nI a = 5 ↔ a = 5 := neq (b := 5) (by omega) (by omega)
  have k6 : nI a = 6 ↔ a = 6 := neq (b := 6) (by omega) (by omega)
  have km : nI a = nI m ↔ a = m := neq (by omega) (by omega)
  rw [ncl (by omega), hk]
  simp only [m0, m1, m2, m3, k4, k5, k6, km]
  clear m0 m1 m2 m3 k4 k5 k6 km
  repeat' (first | intro _ | constructor)
  all_goals first | exact y1 (by omega) | exact y0 (by omega)
theorem pr_taken : pair_taken E (I E) := by
  intro d w a1 a2 hw hI
  obtain ⟨kk, n, hJ⟩ := id hI
  obtain ⟨c, c1, c2, c3, c4⟩ := hJ.cn
  refine en_Qu_taken hw (s_Qu_taken_0 hw ?_)
  rcases rng (x := a2) 0 6 (by omega) (by omega) with h2 | ⟨m, -, h2, rfl⟩
  · exact p_wo hw h2 (f1 (en_Mo_taken hw (s_Mo_taken_0 hw (p_mo hw h2 (f1 ⟨rfl, hI⟩)))))
  refine p_wi (a := 0) (b := 6) hw (by omega) h2 (t1 ?_)
  rcases thg (x := a1) c c1 with h1 | ⟨i, h1, rfl⟩
  · exact p_find_n hw pan15 c2 h1 (Or.inl ⟨rfl, en_Mo_taken hw (s_Mo_taken_0 hw (p_mi (a := 0) (b := 6) hw (by omega) h2 (t1 (p_thg0 hw c1 c3 h1 (f1 ⟨rfl, hI⟩)))))⟩)
  have hi : i < 6 := by omega
  refine p_find_s hw pan15 c1 c2 h1 (Or.inr ⟨i, hi, rfl, ?_⟩)
  obtain ⟨a, ha, hk⟩ := (hJ.1.2.1.2.2.2.2.2 i hi).1
  have hk' : qi w 116 i = nI a := by rw [← hk]; exact (aM_6 (a := 0) hi (by omega)).symm
  have ek : qi w (15 + 3 + 2 * i) 1 = nI a := (x6 (a := 0) hi (by omega) hJ).trans hk'
  have hT : isTh (15 + 3 + 2 * i) := isTh_of pan15 hi
  refine en_Th_isUnder hw (s_Th_isUnder_0 hw hT ?_)
  rw [ek]
  refine h_under hw (by omega) hT 3 0 a (by omega) (by omega) (by omega) (by omega) ?_
  have h01 := q01 (unF 3 a m)
  refine ⟨fun z => p_Mo_taken hw c1 c3 h1 (by omega) (by omega) hk' (fun y => ?_) (fun _ => ⟨rfl, hI⟩), fun z => p_Mo_taken hw c1 c3 h1 (by omega) (by omega) hk' (fun _ => ⟨ek, hI⟩) (fun y => ?_)⟩
  · rw [h01.1.mp z] at y
    exact absurd y (by decide)
  · exact absurd (h01.2.mp z) y
end PT
