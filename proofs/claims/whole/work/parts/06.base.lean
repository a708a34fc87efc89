abbrev qW : Type := Nat × (Nat → Nat → Int32) × (Nat → Nat → Int64) × (Nat → Nat → Nat)
abbrev qE : Type := Nat × va_G × (Nat → ClassId) × (Nat → Nat) × Nat × (Nat → Int32)
def qb (E : qE) : Nat := E.1
def qD (E : qE) : va_G := E.2.1
def qA (E : qE) : Nat → ClassId := E.2.2.1
def qc (E : qE) : Nat → Nat := E.2.2.2.1
def qL (E : qE) : Nat := E.2.2.2.2.1
def qxs (E : qE) : Nat → Int32 := E.2.2.2.2.2
def qi (w : qW) (k j : Nat) : Int32 := w.2.1 k j
def ql (w : qW) (k j : Nat) : Int64 := w.2.2.1 k j
def qr (w : qW) (k j : Nat) : Nat := w.2.2.2 k j
def qpi (w : qW) (k j : Nat) (v : Int32) : qW := (w.1, (fun a c => if a = k ∧ c = j then v else w.2.1 a c), w.2.2)
def qpl (w : qW) (k j : Nat) (v : Int64) : qW := (w.1, w.2.1, (fun a c => if a = k ∧ c = j then v else w.2.2.1 a c), w.2.2.2)
def qpr (w : qW) (k j : Nat) (v : Nat) : qW := (w.1, w.2.1, w.2.2.1, (fun a c => if a = k ∧ c = j then v else w.2.2.2 a c))
/-- a copy of n items of row k from i on into row k2 from j on -/
def qcp (w : qW) (k i k2 j n : Nat) : qW := (w.1, (fun a c => if a = k2 ∧ j ≤ c ∧ c < j + n then w.2.1 k (i + (c - j)) else w.2.1 a c), w.2.2)
def qcl (w : qW) (k i k2 j n : Nat) : qW := (w.1, w.2.1, (fun a c => if a = k2 ∧ j ≤ c ∧ c < j + n then w.2.2.1 k (i + (c - j)) else w.2.2.1 a c), w.2.2.2)
/-- one more cell, all 0 -/
def qnw (w : qW) : qW := (w.1 + 1, (fun a c => if a = w.1 then 0 else w.2.1 a c), (fun a c => if a = w.1 then 0 else w.2.2.1 a c), (fun a c => if a = w.1 then 0 else w.2.2.2 a c))
def qz (x : Int32) : Int32 := if x = 0 then 0 else 1
theorem qz_01 (x : Int32) : qz x = 0 ∨ qz x = 1 := by unfold qz; split <;> simp
theorem qz_of {x : Int32} (h : x = 0 ∨ x = 1) : qz x = x := by rcases h with rfl | rfl <;> decide
def qro (E : qE) (n : Nat) : Option Nat := match n with | 0 => none | c + 1 => some (qb E + c)
def qrv (E : qE) (n : Nat) : Value := va_rf (qro E n)
def qT : List (Nat × Nat) := [(9, 9), (2, 5), (20, 100), (20, 100), (20, 100), (8, 4), (5, 3), (20, 5), (20, 5), (5, 3), (20, 10), (20, 10), (5, 3), (20, 8), (20, 8), (3, 8), (23, 6), (20, 6), (7, 8), (20, 4), (7, 8), (20, 4), (7, 8), (20, 4), (7, 8), (20, 4), (7, 8), (20, 4), (7, 8), (20, 4), (8, 4), (5, 3), (20, 5), (20, 5), (5, 3), (20, 10), (20, 10), (5, 3), (20, 8), (20, 8), (3, 8), (23, 6), (20, 6), (7, 8), (20, 4), (7, 8), (20, 4), (7, 8), (20, 4), (7, 8), (20, 4), (7, 8), (20, 4), (7, 8), (20, 4), (1, 4), (20, 3), (20, 3), (3, 8), (23, 6), (20, 6), (7, 8), (20, 4), (7, 8), (20, 4), (7, 8), (20, 4), (7, 8), (20, 4), (7, 8), (20, 4), (7, 8), (20, 4), (4, 4), (20, 100), (24, 6), (2, 5), (20, 100), (20, 100), (20, 100), (2, 5), (20, 100), (20, 100), (20, 100), (2, 5), (20, 100), (20, 100), (20, 100), (2, 5), (20, 100), (20, 100), (20, 100), (2, 5), (20, 100), (20, 100), (20, 100), (2, 5), (20, 100), (20, 100), (20, 100), (0, 5), (20, 20), (25, 6), (6, 3), (21, 60), (6, 3), (21, 60), (6, 3), (21, 60), (6, 3), (21, 60), (6, 3), (21, 60), (6, 3), (21, 60), (10, 77), (20, 6), (20, 6), (20, 6), (20, 6), (20, 6), (20, 6), (20, 24), (20, 100), (20, 6), (20, 60), (20, 60), (20, 60), (20, 60), (20, 600), (20, 101), (20, 13), (22, 100), (20, 6), (20, 6), (20, 3), (20, 3), (20, 5), (20, 5), (20, 10), (20, 10), (20, 8), (20, 8), (20, 6), (20, 6), (20, 6), (20, 6), (20, 6), (20, 6), (20, 24), (20, 5), (20, 5), (20, 10), (20, 10), (20, 8), (20, 8), (20, 20), (20, 6), (20, 6), (21, 360), (21, 60)]
def qlay (k : Nat) : Nat × Nat := qT.getD k (99, 0)
def qFt : List (List Nat) := [[2, 0, 0, 0, 0], [2, 2, 2, 2], [2, 2, 2, 0, 0], [0, 2, 0, 0, 1, 0, 2, 2], [2, 0, 0, 2], [2, 2, 0], [0, 0, 2], [0, 0, 0, 0, 0, 0, 0, 2], [2, 2, 2, 2], [2, 2, 1, 2, 2, 2, 0, 2, 2], [0, 0, 0, 0, 1, 2, 2, 2, 2, 2, 2, 2, 0, 0, 0, 0, 0, 2, 2, 2, 2, 2, 2, 2, 2, 0, 0, 0, 2, 2, 0, 0, 0, 0, 1, 2, 2, 2, 2, 0, 2, 2, 0, 0, 2, 2, 2, 2, 1, 1, 0, 0, 0, 0, 0, 0, 0, 0, 2, 2, 2, 2, 2, 2, 2, 2, 2, 2, 2, 2, 2, 0, 2, 2, 2, 2, 2]]
def qft (c j : Nat) : Nat := (qFt.getD c []).getD j 0
def qss : Nat → Nat | 0 => 0 | n + 1 => qss n + (qlay n).2
def qfv (E : qE) (w : qW) (k t j : Nat) : Value := if t = 0 then .int (qi w k j) else if t = 1 then .int (qz (qi w k j)) else qrv E (qr w k j)
def qobj (E : qE) (w : qW) (k c n : Nat) : List Value := (List.range n).map (fun j => qfv E w k (qft c j) j)
def qcell (E : qE) (w : qW) (k : Nat) : va_E :=
  if (qlay k).1 < 20 then .inr ((qlay k).1, qobj E w k (qlay k).1 (qlay k).2)
  else if (qlay k).1 = 20 then .inl (qA E 0, (qlay k).2, .inl (qi w k))
  else if (qlay k).1 = 21 then .inl (qA E 1, (qlay k).2, .inr (.inl (ql w k)))
  else if (qlay k).1 = 22 then .inl (qA E 2, (qlay k).2, .inl (fun j => qz (qi w k j)))
  else .inl (qA E ((qlay k).1 - 20), (qlay k).2, .inr (.inr (.inr (.inr (fun j => qro E (qr w k j))))))
def qLs (E : qE) (w : qW) : va_W := (List.range w.1).map (fun k => (qb E + k, qcell E w k))
theorem qLs_get {E : qE} {w : qW} {k : Nat} (h : k < w.1) : (qLs E w)[k]? = some (qb E + k, qcell E w k) := by
  unfold qLs
  rw [List.getElem?_map, List.getElem?_range h]
  rfl
theorem qLs_inv {E : qE} {w : qW} {k : Nat} {q : Nat × va_E} (h : (qLs E w)[k]? = some q) : k < w.1 ∧ q = (qb E + k, qcell E w k) := by
  have hl := (List.getElem?_eq_some_iff.mp h).1
  have hk : k < w.1 := by simpa [qLs] using hl
  rw [qLs_get hk] at h
  exact ⟨hk, (Option.some.inj h).symm⟩
def qtys (E : qE) : List (ClassId × FieldType) := [(qA E 0, .int), (qA E 1, .long), (qA E 2, .boolean), (qA E 3, .object "QuinceEnd$Thing"), (qA E 4, .object "QuinceEnd$Kitchen"), (qA E 5, .object "QuinceEnd$Tape")]
def qWd (E : qE) (w : qW) (H : Heap) : Prop := (w.1 < 161 → H.size = qb E + w.1) ∧ va_P (qD E) q_cls (qLs E w) H
def qAr (E : qE) : Nat → Prop := fun q => qb E ≤ q
theorem qDs {E : qE} {w : qW} : va_D (qAr E) (qLs E w) := by
  refine ⟨fun i j p q hi hj e => ?_, fun k q hk => ?_⟩
  · obtain ⟨-, rfl⟩ := qLs_inv hi
    obtain ⟨-, rfl⟩ := qLs_inv hj
    have : qb E + i = qb E + j := e
    omega
  · obtain ⟨-, rfl⟩ := qLs_inv hk
    exact Nat.le_add_right _ _
/-- the cells behind a change of one -/
theorem qLs_set {E : qE} {w w' : qW} {k : Nat} {e : va_E} (hk : k < w.1) (hn : w'.1 = w.1) (he : e = qcell E w' k) (ho : ∀ j, j ≠ k → qcell E w' j = qcell E w j) : (qLs E w).set k (qb E + k, e) = qLs E w' := by
  apply List.ext_getElem?
  intro j
  by_cases hj : j < w.1
  · rw [qLs_get (by rw [hn]; exact hj)]
    by_cases hjk : j = k
    · subst hjk
      rw [List.getElem?_set_self (by simpa [qLs] using hj), he]
    · rw [List.getElem?_set_ne (Ne.symm hjk), qLs_get hj, ho j hjk]
  · rw [List.getElem?_eq_none (by simp [qLs]; omega), List.getElem?_eq_none (by simp [qLs, hn]; omega)]
theorem qcell_obj {E : qE} {w : qW} {k c n : Nat} (h : qlay k = (c, n)) (hc : c < 20) : qcell E w k = .inr (c, qobj E w k c n) := by
  unfold qcell
  rw [h]
  exact if_pos hc
theorem qcell_i {E : qE} {w : qW} {k n : Nat} (h : qlay k = (20, n)) : qcell E w k = .inl (qA E 0, n, .inl (qi w k)) := by
  unfold qcell
  rw [h]
  rfl
theorem qcell_l {E : qE} {w : qW} {k n : Nat} (h : qlay k = (21, n)) : qcell E w k = .inl (qA E 1, n, .inr (.inl (ql w k))) := by
  unfold qcell
  rw [h]
  rfl
theorem qcell_z {E : qE} {w : qW} {k n : Nat} (h : qlay k = (22, n)) : qcell E w k = .inl (qA E 2, n, .inl (fun j => qz (qi w k j))) := by
  unfold qcell
  rw [h]
  rfl
theorem qcell_q {E : qE} {w : qW} {k c n : Nat} (h : qlay k = (c, n)) (h0 : 22 < c) : qcell E w k = .inl (qA E (c - 20), n, .inr (.inr (.inr (.inr (fun j => qro E (qr w k j)))))) := by
  unfold qcell
  rw [h]
  show (if c < 20 then _ else if c = 20 then _ else if c = 21 then _ else if c = 22 then _ else _) = _
  rw [if_neg (by omega), if_neg (by omega), if_neg (by omega), if_neg (by omega)]
theorem qobj_get {E : qE} {w : qW} {k c n j : Nat} (h : j < n) : (qobj E w k c n)[j]? = some (qfv E w k (qft c j) j) := by
  unfold qobj
  rw [List.getElem?_map, List.getElem?_range h]
  rfl
theorem qobj_len {E : qE} {w : qW} {k c n : Nat} : (qobj E w k c n).length = n := by simp [qobj]
theorem qobj_set {E : qE} {w w' : qW} {k c n j : Nat} {v : Value} (h : j < n) (hv : v = qfv E w' k (qft c j) j) (ho : ∀ i, i ≠ j → qi w' k i = qi w k i ∧ qr w' k i = qr w k i) : (qobj E w k c n).set j v = qobj E w' k c n := by
  apply List.ext_getElem?
  intro i
  by_cases hi : i < n
  · rw [qobj_get hi]
    by_cases hij : i = j
    · subst hij
      rw [List.getElem?_set_self (by rw [qobj_len]; exact hi), hv]
    · rw [List.getElem?_set_ne (Ne.symm hij), qobj_get hi]
      unfold qfv
      rw [(ho i hij).1, (ho i hij).2]
  · rw [List.getElem?_eq_none (by rw [List.length_set, qobj_len]; omega), List.getElem?_eq_none (by rw [qobj_len]; omega)]
theorem qcell_eq {E : qE} {w w' : qW} {k : Nat} (h : ∀ i, qi w' k i = qi w k i ∧ ql w' k i = ql w k i ∧ qr w' k i = qr w k i) : qcell E w' k = qcell E w k := by
  have h1 : qi w' k = qi w k := funext fun i => (h i).1
  have h2 : ql w' k = ql w k := funext fun i => (h i).2.1
  have h3 : qr w' k = qr w k := funext fun i => (h i).2.2
  unfold qcell qobj qfv
  rw [h1, h2, h3]
def qAbove (j : Nat) : Int32 := [(-1 : Int32), 0, 0, 0, 1, 2, 3].getD j 0
def qBodies (j : Nat) : Int32 := [(10 : Int32), 11, 12, 0, 20, 0, 30, 0, 0, 0, 0, 40, 50, 51, 0, 0, 0, 60, 71, 70, 0].getD j 0
def qlen : List Nat := [5, 5, 6, 6, 3]
def qbyt : List (List Int32) := [[110, 101, 101, 100, 32], [100, 97, 114, 107, 32], [99, 108, 101, 97, 114, 32], [112, 107, 118, 119, 111, 109], [60, 61, 62]]
/-- what was there ahead of all: tables, texts, the script; and what the classes are -/
def qK (E : qE) (s : State) (H : Heap) : Prop :=
  va_K (qD E) q_cls (qtys E) s ∧
  (va_Z "QuinceEnd" "ABOVE" "[I" (.ref (qc E 0)) (qAr E) s H ∧ va_T .int (qc E 0) 7 (fun j => .int (qAbove j)) (qAr E) s H) ∧
  (va_Z "QuinceEnd$Acting" "BODIES" "[I" (.ref (qc E 1)) (qAr E) s H ∧ va_T .int (qc E 1) 21 (fun j => .int (qBodies j)) (qAr E) s H) ∧
  (va_Z "java/lang/String" "COMPACT_STRINGS" "Z" (.int 1) (qAr E) s H ∧ va_Zq "jdk/internal/util/Preconditions" "SIOOBE_FORMATTER" "Ljava/util/function/BiFunction;" (qAr E) s H) ∧
  vk_S 5 qlen qbyt (fun i => qc E (10 + i)) (fun i => qc E (20 + i)) (qAr E) s H ∧
  (vk_R "QuinceEnd$Reading" 64 "need " (qc E 10) s ∧ vk_R "QuinceEnd$Reading" 46 "dark " (qc E 11) s ∧ vk_R "QuinceEnd$Reading" 48 "clear " (qc E 12) s ∧ vk_R "QuinceEnd$Reading" 72 "pkvwom" (qc E 13) s ∧ vk_R "QuinceEnd$Reading" 78 "<=>" (qc E 14) s) ∧
  (va_Nw (.fieldLinkNest "QuinceEnd$Acting" 37 "QuinceEnd" "ABOVE" "[I" "QuinceEnd") s ∧ va_Nw (.fieldLinkNest "QuinceEnd$Thing" 43 "QuinceEnd" "ABOVE" "[I" "QuinceEnd") s ∧ va_Nw (.methodLinkNest "QuinceEnd" 11 ⟨"QuinceEnd$Kitchen", "<init>", "()V"⟩ "QuinceEnd") s ∧ va_Nw (.methodLinkNest "QuinceEnd" 48 ⟨"QuinceEnd$Acting", "<init>", "()V"⟩ "QuinceEnd") s ∧ va_Nw (.methodLinkNest "QuinceEnd" 59 ⟨"QuinceEnd$Tape", "<init>", "()V"⟩ "QuinceEnd") s) ∧
  (va_AO "QuinceEnd$Thing" s ∧ va_AO "QuinceEnd$Kitchen" s ∧ va_AO "QuinceEnd$Tape" s) ∧
  (va_X (qc E 2) (qL E) (qxs E) s H ∧ qc E 2 < H.size ∧ qc E 2 < qb E)
theorem qK.warm {E : qE} {s U : State} {H : Heap} (hW : s.WarmedH U.vm) (h : qK E s H) : qK E U H := by
  obtain ⟨h1, ⟨h2, h3⟩, ⟨h4, h5⟩, ⟨h6, h7⟩, h8, ⟨r1, r2, r3, r4, r5⟩, ⟨n0, n1, n2, n3, n4⟩, ⟨a1, a2, a3⟩, x1, x2⟩ := h
  exact ⟨va_K.moved hW.alike h1, ⟨va_Z.moved hW.alike h2, va_T.moved hW.alike h3⟩, ⟨va_Z.moved hW.alike h4, va_T.moved hW.alike h5⟩, ⟨va_Z.moved hW.alike h6, va_Zq.moved hW.alike h7⟩, vk_S.moved hW.alike h8, ⟨r1.warm hW, r2.warm hW, r3.warm hW, r4.warm hW, r5.warm hW⟩, ⟨n0.warmF hW, n1.warmF hW, n2.warmM hW, n3.warmM hW, n4.warmM hW⟩, ⟨a1.moved hW.alike, a2.moved hW.alike, a3.moved hW.alike⟩, x1.moved hW.alike, x2⟩
theorem qK.same {E : qE} {u U : State} {H : Heap} (hv : U.vm = u.vm) (h : qK E u H) : qK E U H := by
  have hA : u.vm.Alike U.vm := by rw [hv]; exact Vm.Alike.refl _
  obtain ⟨h1, ⟨h2, h3⟩, ⟨h4, h5⟩, ⟨h6, h7⟩, h8, ⟨r1, r2, r3, r4, r5⟩, ⟨n0, n1, n2, n3, n4⟩, ⟨a1, a2, a3⟩, x1, x2⟩ := h
  exact ⟨va_K.moved hA h1, ⟨va_Z.moved hA h2, va_T.moved hA h3⟩, ⟨va_Z.moved hA h4, va_T.moved hA h5⟩, ⟨va_Z.moved hA h6, va_Zq.moved hA h7⟩, vk_S.moved hA h8, ⟨r1.same hv, r2.same hv, r3.same hv, r4.same hv, r5.same hv⟩, ⟨n0.same rfl hv.symm, n1.same rfl hv.symm, n2.same rfl hv.symm, n3.same rfl hv.symm, n4.same rfl hv.symm⟩, ⟨a1.moved hA, a2.moved hA, a3.moved hA⟩, x1.moved hA, x2⟩
theorem qK.kept {E : qE} {s : State} {H H1 : Heap} (hz : H.size ≤ H1.size) (hq : ∀ a : Nat, a < H.size → ¬ qAr E a → H1[a]? = H[a]?) (h : qK E s H) : qK E s H1 := by
  obtain ⟨h1, ⟨h2, h3⟩, ⟨h4, h5⟩, ⟨h6, h7⟩, h8, hr, hn, ha, x1, x2, x3⟩ := h
  exact ⟨h1, ⟨h2.kept hq, h3.kept hq⟩, ⟨h4.kept hq, h5.kept hq⟩, ⟨h6.kept hq, h7.kept hq⟩, h8.kept hq, hr, hn, ha, x1.kept (hq _ x2 (fun z => by unfold qAr at z; omega)), Nat.lt_of_lt_of_le x2 hz, x3⟩
/-- how a value goes back -/
def qRet (M : qM) (v : Option Value) (pc : Nat) : Prop :=
  (∃ (x : Int32) (ty : FieldType), v = some (.int x) ∧ M.2.2.2 = some ty ∧ narrow ty (.int x) = .int x ∧ decode M.2.1 pc = .ok (.ireturn, 1)) ∨
  (∃ x : Int64, v = some (.long x) ∧ M.2.2.2 = some .long ∧ decode M.2.1 pc = .ok (.lreturn, 1)) ∨
  (v = none ∧ M.2.2.2 = none ∧ decode M.2.1 pc = .ok (.return_, 1)) ∨
  (∃ (x : Value) (C : String), v = some x ∧ (x = .null ∨ ∃ a, x = .ref a) ∧ M.2.2.2 = some (.object C) ∧ decode M.2.1 pc = .ok (.areturn, 1))
/-- the machine around a method that runs -/
def qCx (d : Nat) (M : qM) (E : qE) (N0 N1 : Nat) (F : qW → Option Value → Prop) (p : Program) (l : Launch) (e : Env) (R : Room) (s : State) (m : MethodId) (args : Array Value) (below : List Frame) (meth : Method) (c : Code) (Z : State → Prop) : Prop :=
  p.tables.exec = Jvm.exec ∧ c.code = M.2.1 ∧ c.maxLocals = M.2.2.1 ∧ s.vm.findClass M.1.cls = some m.cls ∧ (∀ w ∈ qG, w.before args s = true) ∧
  (d ≤ R.frames ∧ 60 * d ≤ R.locals ∧ N1 - N0 ≤ R.cells ∧ qss N1 - qss N0 ≤ R.slots) ∧ qK E s s.heap ∧ (M.1.name = "<init>" → meth.name = "<init>") ∧ qb E ≤ s.heap.size ∧
  (∀ (H : Heap) (locs : List Loc) (w : qW) (v : Option Value) (pc : Nat) (ls : Array Slot), qWd E w H → w.1 = N1 → va_S (qAr E) s.heap H locs → F w v → qRet M v pc → W p l e R s m args below meth c H locs (N1 - N0) (qss N1 - qss N0) Z (F0 m pc ls v.toList))
/-- from pc on, with these locals, this stack and these cells, the method comes to an answer and cells with F -/
def Go (d : Nat) (M : qM) (E : qE) (N0 N1 : Nat) (F : qW → Option Value → Prop) (pc : Nat) (loc : List (Nat × Value)) (stk : List Value) (w : qW) : Prop :=
  ∀ (p : Program) (l : Launch) (e : Env) (R : Room) (s : State) (m : MethodId) (args : Array Value) (below : List Frame) (meth : Method) (c : Code) (Z : State → Prop), qCx d M E N0 N1 F p l e R s m args below meth c Z →
    ∀ (H : Heap) (locs : List Loc) (ls : Array Slot), qWd E w H → N0 ≤ w.1 → w.1 ≤ N1 → va_S (qAr E) s.heap H locs → lv_has ls M.2.2.1 loc → W p l e R s m args below meth c H locs (w.1 - N0) (qss w.1 - qss N0) Z (F0 m pc ls stk)
def qrm (d N N1 : Nat) : Room := { frames := d, cells := N1 - N, slots := qss N1 - qss N, locals := 60 * d }
def qPost (E : qE) (N1 : Nat) (F : qW → Option Value → Prop) : Array Value → State → Outcome → State → Prop := fun _ st oc t => (∃ (w1 : qW) (v : Option Value), oc = .returned v ∧ F w1 v ∧ w1.1 = N1 ∧ qWd E w1 t.heap) ∧ va_F (qAr E) st t
def qPre (E : qE) (w : qW) (U : State) : Prop := qK E U U.heap ∧ qb E ≤ U.heap.size ∧ qWd E w U.heap
/-- the call of a method: it comes back, with F -/
def Ca (d : Nat) (M : qM) (args : List Value) (E : qE) (w : qW) (N1 : Nat) (F : qW → Option Value → Prop) : Prop :=
  w.1 ≤ N1 ∧ ∀ l : Launch, Met l M.1 (qws M) (qrm d w.1 N1) (va_Pc args (qPre E w)) (qPost E N1 F) (N1 - w.1) (qss N1 - qss w.1) (qAr E)
theorem qss_mono {a b : Nat} (h : a ≤ b) : qss a ≤ qss b := by
  induction b with
  | zero => rw [Nat.le_zero.mp h]; exact Nat.le_refl _
  | succ b ih =>
    rcases Nat.lt_or_ge a (b + 1) with q | q
    · exact Nat.le_trans (ih (Nat.lt_succ_iff.mp q)) (Nat.le_add_right _ _)
    · rw [Nat.le_antisymm h q]
      exact Nat.le_refl _
theorem Ca.mono {d : Nat} {M : qM} {args : List Value} {E : qE} {w : qW} {N1 : Nat} {F F' : qW → Option Value → Prop} (h : Ca d M args E w N1 F) (hF : ∀ w1 v, w1.1 = N1 → F w1 v → F' w1 v) : Ca d M args E w N1 F' := by
  refine ⟨h.1, fun l => ?_⟩
  refine MetFree.mono (h.2 l) (fun _ _ x => x) (fun _ _ _ _ _ x => x) (fun a st o t _ hq => ⟨⟨?_, hq.1.2⟩, hq.2⟩)
  obtain ⟨⟨⟨w1, v, h1, h2, h3, h4⟩, -⟩, -⟩ := hq
  exact ⟨w1, v, h1, hF w1 v h3 h2, h3, h4⟩
/-- into a method -/
theorem Ca.enter {d : Nat} {M : qM} {args : List Value} {E : qE} {w : qW} {N1 : Nat} {F : qW → Option Value → Prop} (hp : plainFor M.1 = true) (hn : w.1 ≤ N1) (hl : (lg_sl args).length ≤ M.2.2.1) (k : Go d M E w.1 N1 F 0 (lv_args 0 args) [] w) : Ca d M args E w N1 F := by
  refine ⟨hn, fun l => ?_⟩
  refine va_MetF (cc := M.2.1) (maxL := M.2.2.1) (ret := M.2.2.2) hp rfl ?_
  intro p e s m ar below meth c s₁ B hml hv
  obtain ⟨rfl, hK, hbs, hw⟩ := hv
  have hlocks := B.notSynchronized
  have hts := atoms_spec (ws := qws M) B.pre
  have hlv := lv_entry args hl
  have hr := B.returns
  have h := k p l e (qrm d w.1 N1) s m args.toArray below meth c (MQ below (qPost E N1 F) args.toArray s (N1 - w.1) (qss N1 - qss w.1) (qAr E))
    ⟨B.exec, B.bytes, hml, findClass_of_methodNamed B.named, fun w hw => hts w (List.mem_cons_of_mem _ hw), ⟨Nat.le_refl _, Nat.le_refl _, Nat.le_refl _, Nat.le_refl _⟩, hK, fun h => (name_of_methodNamed B.named B.method).1.trans h, hbs, ?_⟩
    s.heap [] _ hw (Nat.le_refl _) hn va_S.rf hlv
  · rw [lg_entry_eq]
    rw [Nat.sub_self, Nat.sub_self] at h
    exact h
  · intro H locs w1 v pc ls h1 h2 h3 h4 h5
    have hq : ∀ t : State, t.heap = H → s.WarmedH t.vm → qPost E N1 F args.toArray s (.returned v) t := fun t ht _ => ⟨⟨w1, v, rfl, h4, h2, by rw [ht]; exact h1⟩, h3.F ht⟩
    rcases h5 with ⟨x, ty, rfl, e1, e2, e3⟩ | ⟨x, rfl, e1, e3⟩ | ⟨rfl, e1, e3⟩ | ⟨x, C, rfl, e0, e1, e3⟩
    · exact W.zret (v := x) (ty := ty) B.exec B.bytes (hr.trans e1) e2 hq h3.2.2 e3
    · exact W.lret (v := x) B.exec B.bytes (hr.trans e1) hq h3.2.2 e3
    · exact W.vret B.exec B.bytes (hr.trans e1) hq h3.2.2 e3
    · exact W.aret (v := x) (rt := .object C) B.exec B.bytes (hr.trans e1) (Or.inl ⟨C, rfl⟩) e0 hq h3.2.2 e3
