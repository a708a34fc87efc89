section GR
variable {d : Nat} {M : qM} {E : qE} {N0 N1 : Nat} {F : qW → Option Value → Prop} {pc : Nat} {loc : List (Nat × Value)} {rest : List Value} {w : qW}
theorem g_iconst {n : Int} {v : Int32} (hd : decode M.2.1 pc = .ok (.iconst n, 1)) (hv : Int32.ofInt n = v) (k : Go d M E N0 N1 F (pc + 1) loc (.int v :: rest) w) : Go d M E N0 N1 F pc loc (rest) w := by
  intro p l e R s m args below meth c Z X H locs ls h1 h2 h3 h4 h5
  exact lv_iconst X.1 X.2.1 hd hv (k p l e R s m args below meth c Z X H locs ls h1 h2 h3 h4 h5)
theorem g_bipush {n : Int} {v : Int32} (hd : decode M.2.1 pc = .ok (.bipush n, 2)) (hv : (Int8.ofInt n).toInt32 = v) (k : Go d M E N0 N1 F (pc + 2) loc (.int v :: rest) w) : Go d M E N0 N1 F pc loc (rest) w := by
  intro p l e R s m args below meth c Z X H locs ls h1 h2 h3 h4 h5
  exact lv_bipush X.1 X.2.1 hd hv (k p l e R s m args below meth c Z X H locs ls h1 h2 h3 h4 h5)
theorem g_sipush {n : Int} {v : Int32} (hd : decode M.2.1 pc = .ok (.sipush n, 3)) (hv : (Int16.ofInt n).toInt32 = v) (k : Go d M E N0 N1 F (pc + 3) loc (.int v :: rest) w) : Go d M E N0 N1 F pc loc (rest) w := by
  intro p l e R s m args below meth c Z X H locs ls h1 h2 h3 h4 h5
  exact lv_sipush X.1 X.2.1 hd hv (k p l e R s m args below meth c Z X H locs ls h1 h2 h3 h4 h5)
theorem g_lconst {n : Fin 2} {v : Int64} (hd : decode M.2.1 pc = .ok (.lconst n, 1)) (hv : Int64.ofNat (n : Nat) = v) (k : Go d M E N0 N1 F (pc + 1) loc (.long v :: rest) w) : Go d M E N0 N1 F pc loc (rest) w := by
  intro p l e R s m args below meth c Z X H locs ls h1 h2 h3 h4 h5
  exact lv_lconst X.1 X.2.1 hd hv (k p l e R s m args below meth c Z X H locs ls h1 h2 h3 h4 h5)
theorem g_null  (hd : decode M.2.1 pc = .ok (.aconst_null, 1)) (k : Go d M E N0 N1 F (pc + 1) loc (.null :: rest) w) : Go d M E N0 N1 F pc loc (rest) w := by
  intro p l e R s m args below meth c Z X H locs ls h1 h2 h3 h4 h5
  exact lv_null X.1 X.2.1 hd (k p l e R s m args below meth c Z X H locs ls h1 h2 h3 h4 h5)
theorem g_ldc {index : Nat} {v : Int32} (hd : decode M.2.1 pc = .ok (.ldc index, 2)) (hk : Cond.constant M.1.cls index v ∈ qG) (k : Go d M E N0 N1 F (pc + 2) loc (.int v :: rest) w) : Go d M E N0 N1 F pc loc (rest) w := by
  intro p l e R s m args below meth c Z X H locs ls h1 h2 h3 h4 h5
  exact lv_ldc X.1 X.2.1 X.2.2.2.1 (X.2.2.2.2.1 _ hk) hd (k p l e R s m args below meth c Z X H locs ls h1 h2 h3 h4 h5)
theorem g_ldcw {index : Nat} {v : Int32} (hd : decode M.2.1 pc = .ok (.ldc_w index, 3)) (hk : Cond.constant M.1.cls index v ∈ qG) (k : Go d M E N0 N1 F (pc + 3) loc (.int v :: rest) w) : Go d M E N0 N1 F pc loc (rest) w := by
  intro p l e R s m args below meth c Z X H locs ls h1 h2 h3 h4 h5
  exact lv_ldcw X.1 X.2.1 X.2.2.2.1 (X.2.2.2.2.1 _ hk) hd (k p l e R s m args below meth c Z X H locs ls h1 h2 h3 h4 h5)
theorem g_ldc2 {index : Nat} {v : Int64} (hd : decode M.2.1 pc = .ok (.ldc2_w index, 3)) (hk : Cond.constantLong M.1.cls index v ∈ qG) (k : Go d M E N0 N1 F (pc + 3) loc (.long v :: rest) w) : Go d M E N0 N1 F pc loc (rest) w := by
  intro p l e R s m args below meth c Z X H locs ls h1 h2 h3 h4 h5
  exact lv_ldc2 X.1 X.2.1 X.2.2.2.1 (X.2.2.2.2.1 _ hk) hd (k p l e R s m args below meth c Z X H locs ls h1 h2 h3 h4 h5)
theorem g_iload_n {k0 : Fin 4} {i : Nat} {x : Int32} (j : Nat) (hd : decode M.2.1 pc = .ok (.iload_n k0, 1)) (hi : (k0 : Nat) = i) (hl : loc[j]? = some (i, .int x)) (k : Go d M E N0 N1 F (pc + 1) loc (.int x :: rest) w) : Go d M E N0 N1 F pc loc (rest) w := by
  intro p l e R s m args below meth c Z X H locs ls h1 h2 h3 h4 h5
  exact lv_iload_n X.1 X.2.1 hd hi (lv_at h5 j hl) (k p l e R s m args below meth c Z X H locs ls h1 h2 h3 h4 h5)
theorem g_iload {i : Nat} {x : Int32} (j : Nat) (hd : decode M.2.1 pc = .ok (.iload i, 2)) (hl : loc[j]? = some (i, .int x)) (k : Go d M E N0 N1 F (pc + 2) loc (.int x :: rest) w) : Go d M E N0 N1 F pc loc (rest) w := by
  intro p l e R s m args below meth c Z X H locs ls h1 h2 h3 h4 h5
  exact lv_iload X.1 X.2.1 hd (lv_at h5 j hl) (k p l e R s m args below meth c Z X H locs ls h1 h2 h3 h4 h5)
theorem g_lload_n {k0 : Fin 4} {i : Nat} {x : Int64} (j : Nat) (hd : decode M.2.1 pc = .ok (.lload_n k0, 1)) (hi : (k0 : Nat) = i) (hl : loc[j]? = some (i, .long x)) (k : Go d M E N0 N1 F (pc + 1) loc (.long x :: rest) w) : Go d M E N0 N1 F pc loc (rest) w := by
  intro p l e R s m args below meth c Z X H locs ls h1 h2 h3 h4 h5
  exact lv_lload_n X.1 X.2.1 hd hi (lv_at h5 j hl) (k p l e R s m args below meth c Z X H locs ls h1 h2 h3 h4 h5)
theorem g_lload {i : Nat} {x : Int64} (j : Nat) (hd : decode M.2.1 pc = .ok (.lload i, 2)) (hl : loc[j]? = some (i, .long x)) (k : Go d M E N0 N1 F (pc + 2) loc (.long x :: rest) w) : Go d M E N0 N1 F pc loc (rest) w := by
  intro p l e R s m args below meth c Z X H locs ls h1 h2 h3 h4 h5
  exact lv_lload X.1 X.2.1 hd (lv_at h5 j hl) (k p l e R s m args below meth c Z X H locs ls h1 h2 h3 h4 h5)
theorem g_aload_n {k0 : Fin 4} {i x : Nat} (j : Nat) (hd : decode M.2.1 pc = .ok (.aload_n k0, 1)) (hi : (k0 : Nat) = i) (hl : loc[j]? = some (i, .ref x)) (k : Go d M E N0 N1 F (pc + 1) loc (.ref x :: rest) w) : Go d M E N0 N1 F pc loc (rest) w := by
  intro p l e R s m args below meth c Z X H locs ls h1 h2 h3 h4 h5
  exact lv_aload_n X.1 X.2.1 hd hi (lv_at h5 j hl) (k p l e R s m args below meth c Z X H locs ls h1 h2 h3 h4 h5)
theorem g_aload {i x : Nat} (j : Nat) (hd : decode M.2.1 pc = .ok (.aload i, 2)) (hl : loc[j]? = some (i, .ref x)) (k : Go d M E N0 N1 F (pc + 2) loc (.ref x :: rest) w) : Go d M E N0 N1 F pc loc (rest) w := by
  intro p l e R s m args below meth c Z X H locs ls h1 h2 h3 h4 h5
  exact lv_aload X.1 X.2.1 hd (lv_at h5 j hl) (k p l e R s m args below meth c Z X H locs ls h1 h2 h3 h4 h5)
theorem g_aload_nN {k0 : Fin 4} {i : Nat} (j : Nat) (hd : decode M.2.1 pc = .ok (.aload_n k0, 1)) (hi : (k0 : Nat) = i) (hl : loc[j]? = some (i, .null)) (k : Go d M E N0 N1 F (pc + 1) loc (.null :: rest) w) : Go d M E N0 N1 F pc loc (rest) w := by
  intro p l e R s m args below meth c Z X H locs ls h1 h2 h3 h4 h5
  exact lv_aload_nN X.1 X.2.1 hd hi (lv_at h5 j hl) (k p l e R s m args below meth c Z X H locs ls h1 h2 h3 h4 h5)
theorem g_aloadN {i : Nat} (j : Nat) (hd : decode M.2.1 pc = .ok (.aload i, 2)) (hl : loc[j]? = some (i, .null)) (k : Go d M E N0 N1 F (pc + 2) loc (.null :: rest) w) : Go d M E N0 N1 F pc loc (rest) w := by
  intro p l e R s m args below meth c Z X H locs ls h1 h2 h3 h4 h5
  exact lv_aloadN X.1 X.2.1 hd (lv_at h5 j hl) (k p l e R s m args below meth c Z X H locs ls h1 h2 h3 h4 h5)
theorem g_istore_n {k0 : Fin 4} {i : Nat} {x : Int32} {lv : List (Nat × Value)} (hd : decode M.2.1 pc = .ok (.istore_n k0, 1)) (hi : (k0 : Nat) = i) (hn : i < M.2.2.1) (hl : (i, Value.int x) :: loc.filter (fun q => !(q.1 == i) && !(q.1 + 1 == i && q.2.category == 2)) = lv) (k : Go d M E N0 N1 F (pc + 1) lv rest w) : Go d M E N0 N1 F pc loc (Value.int x :: rest) w := by
  intro p l e R s m args below meth c Z X H locs ls h1 h2 h3 h4 h5
  exact lv_istore_n X.1 X.2.1 hd hi h5 hn hl (fun ls' h5 => k p l e R s m args below meth c Z X H locs ls' h1 h2 h3 h4 h5)
theorem g_istore {i : Nat} {x : Int32} {lv : List (Nat × Value)} (hd : decode M.2.1 pc = .ok (.istore i, 2)) (hn : i < M.2.2.1) (hl : (i, Value.int x) :: loc.filter (fun q => !(q.1 == i) && !(q.1 + 1 == i && q.2.category == 2)) = lv) (k : Go d M E N0 N1 F (pc + 2) lv rest w) : Go d M E N0 N1 F pc loc (Value.int x :: rest) w := by
  intro p l e R s m args below meth c Z X H locs ls h1 h2 h3 h4 h5
  exact lv_istore X.1 X.2.1 hd h5 hn hl (fun ls' h5 => k p l e R s m args below meth c Z X H locs ls' h1 h2 h3 h4 h5)
theorem g_astore_n {k0 : Fin 4} {i x : Nat} {lv : List (Nat × Value)} (hd : decode M.2.1 pc = .ok (.astore_n k0, 1)) (hi : (k0 : Nat) = i) (hn : i < M.2.2.1) (hl : (i, Value.ref x) :: loc.filter (fun q => !(q.1 == i) && !(q.1 + 1 == i && q.2.category == 2)) = lv) (k : Go d M E N0 N1 F (pc + 1) lv rest w) : Go d M E N0 N1 F pc loc (Value.ref x :: rest) w := by
  intro p l e R s m args below meth c Z X H locs ls h1 h2 h3 h4 h5
  exact lv_astore_n X.1 X.2.1 hd hi h5 hn hl (fun ls' h5 => k p l e R s m args below meth c Z X H locs ls' h1 h2 h3 h4 h5)
theorem g_astore {i x : Nat} {lv : List (Nat × Value)} (hd : decode M.2.1 pc = .ok (.astore i, 2)) (hn : i < M.2.2.1) (hl : (i, Value.ref x) :: loc.filter (fun q => !(q.1 == i) && !(q.1 + 1 == i && q.2.category == 2)) = lv) (k : Go d M E N0 N1 F (pc + 2) lv rest w) : Go d M E N0 N1 F pc loc (Value.ref x :: rest) w := by
  intro p l e R s m args below meth c Z X H locs ls h1 h2 h3 h4 h5
  exact lv_astore X.1 X.2.1 hd h5 hn hl (fun ls' h5 => k p l e R s m args below meth c Z X H locs ls' h1 h2 h3 h4 h5)
theorem g_astore_nN {k0 : Fin 4} {i : Nat} {lv : List (Nat × Value)} (hd : decode M.2.1 pc = .ok (.astore_n k0, 1)) (hi : (k0 : Nat) = i) (hn : i < M.2.2.1) (hl : (i, Value.null) :: loc.filter (fun q => !(q.1 == i) && !(q.1 + 1 == i && q.2.category == 2)) = lv) (k : Go d M E N0 N1 F (pc + 1) lv rest w) : Go d M E N0 N1 F pc loc (Value.null :: rest) w := by
  intro p l e R s m args below meth c Z X H locs ls h1 h2 h3 h4 h5
  exact lv_astore_nN X.1 X.2.1 hd hi h5 hn hl (fun ls' h5 => k p l e R s m args below meth c Z X H locs ls' h1 h2 h3 h4 h5)
theorem g_astoreN {i : Nat} {lv : List (Nat × Value)} (hd : decode M.2.1 pc = .ok (.astore i, 2)) (hn : i < M.2.2.1) (hl : (i, Value.null) :: loc.filter (fun q => !(q.1 == i) && !(q.1 + 1 == i && q.2.category == 2)) = lv) (k : Go d M E N0 N1 F (pc + 2) lv rest w) : Go d M E N0 N1 F pc loc (Value.null :: rest) w := by
  intro p l e R s m args below meth c Z X H locs ls h1 h2 h3 h4 h5
  exact lv_astoreN X.1 X.2.1 hd h5 hn hl (fun ls' h5 => k p l e R s m args below meth c Z X H locs ls' h1 h2 h3 h4 h5)
theorem g_iinc {i : Nat} {n : Int} {x v : Int32} {lv : List (Nat × Value)} (j : Nat) (hd : decode M.2.1 pc = .ok (.iinc i n, 3)) (hk : loc[j]? = some (i, .int x)) (hv : x + Int32.ofInt n = v) (hn : i < M.2.2.1) (hl : (i, Value.int v) :: loc.filter (fun q => !(q.1 == i) && !(q.1 + 1 == i && q.2.category == 2)) = lv) (k : Go d M E N0 N1 F (pc + 3) lv rest w) : Go d M E N0 N1 F pc loc rest w := by
  intro p l e R s m args below meth c Z X H locs ls h1 h2 h3 h4 h5
  exact lv_iinc X.1 X.2.1 hd h5 hk hv hn hl (fun ls' h5 => k p l e R s m args below meth c Z X H locs ls' h1 h2 h3 h4 h5)
theorem g_loc {stk : List Value} {lv : List (Nat × Value)} (ks : List Nat) (hl : lv_pick loc ks = lv) (k : Go d M E N0 N1 F pc lv stk w) : Go d M E N0 N1 F pc loc stk w := by
  intro p l e R s m args below meth c Z X H locs ls h1 h2 h3 h4 h5
  exact k p l e R s m args below meth c Z X H locs ls h1 h2 h3 h4 (lv_sub h5 ks hl)
theorem g_iadd {x y : Int32} (hd : decode M.2.1 pc = .ok (.iadd, 1)) (k : Go d M E N0 N1 F (pc + 1) loc (.int (x + y) :: rest) w) : Go d M E N0 N1 F pc loc (.int y :: .int x :: rest) w := by
  intro p l e R s m args below meth c Z X H locs ls h1 h2 h3 h4 h5
  exact lv_iadd X.1 X.2.1 hd (k p l e R s m args below meth c Z X H locs ls h1 h2 h3 h4 h5)
theorem g_isub {x y : Int32} (hd : decode M.2.1 pc = .ok (.isub, 1)) (k : Go d M E N0 N1 F (pc + 1) loc (.int (x - y) :: rest) w) : Go d M E N0 N1 F pc loc (.int y :: .int x :: rest) w := by
  intro p l e R s m args below meth c Z X H locs ls h1 h2 h3 h4 h5
  exact lv_isub X.1 X.2.1 hd (k p l e R s m args below meth c Z X H locs ls h1 h2 h3 h4 h5)
theorem g_imul {x y : Int32} (hd : decode M.2.1 pc = .ok (.imul, 1)) (k : Go d M E N0 N1 F (pc + 1) loc (.int (x * y) :: rest) w) : Go d M E N0 N1 F pc loc (.int y :: .int x :: rest) w := by
  intro p l e R s m args below meth c Z X H locs ls h1 h2 h3 h4 h5
  exact lv_imul X.1 X.2.1 hd (k p l e R s m args below meth c Z X H locs ls h1 h2 h3 h4 h5)
theorem g_iand {x y : Int32} (hd : decode M.2.1 pc = .ok (.iand, 1)) (k : Go d M E N0 N1 F (pc + 1) loc (.int (x &&& y) :: rest) w) : Go d M E N0 N1 F pc loc (.int y :: .int x :: rest) w := by
  intro p l e R s m args below meth c Z X H locs ls h1 h2 h3 h4 h5
  exact lv_iand X.1 X.2.1 hd (k p l e R s m args below meth c Z X H locs ls h1 h2 h3 h4 h5)
theorem g_ior {x y : Int32} (hd : decode M.2.1 pc = .ok (.ior, 1)) (k : Go d M E N0 N1 F (pc + 1) loc (.int (x ||| y) :: rest) w) : Go d M E N0 N1 F pc loc (.int y :: .int x :: rest) w := by
  intro p l e R s m args below meth c Z X H locs ls h1 h2 h3 h4 h5
  exact lv_ior X.1 X.2.1 hd (k p l e R s m args below meth c Z X H locs ls h1 h2 h3 h4 h5)
theorem g_ixor {x y : Int32} (hd : decode M.2.1 pc = .ok (.ixor, 1)) (k : Go d M E N0 N1 F (pc + 1) loc (.int (x ^^^ y) :: rest) w) : Go d M E N0 N1 F pc loc (.int y :: .int x :: rest) w := by
  intro p l e R s m args below meth c Z X H locs ls h1 h2 h3 h4 h5
  exact lv_ixor X.1 X.2.1 hd (k p l e R s m args below meth c Z X H locs ls h1 h2 h3 h4 h5)
theorem g_ishl {x y : Int32} (hd : decode M.2.1 pc = .ok (.ishl, 1)) (k : Go d M E N0 N1 F (pc + 1) loc (.int (x <<< (y &&& 31)) :: rest) w) : Go d M E N0 N1 F pc loc (.int y :: .int x :: rest) w := by
  intro p l e R s m args below meth c Z X H locs ls h1 h2 h3 h4 h5
  exact lv_ishl X.1 X.2.1 hd (k p l e R s m args below meth c Z X H locs ls h1 h2 h3 h4 h5)
theorem g_ishr {x y : Int32} (hd : decode M.2.1 pc = .ok (.ishr, 1)) (k : Go d M E N0 N1 F (pc + 1) loc (.int (x >>> (y &&& 31)) :: rest) w) : Go d M E N0 N1 F pc loc (.int y :: .int x :: rest) w := by
  intro p l e R s m args below meth c Z X H locs ls h1 h2 h3 h4 h5
  exact lv_ishr X.1 X.2.1 hd (k p l e R s m args below meth c Z X H locs ls h1 h2 h3 h4 h5)
theorem g_ineg {x : Int32} (hd : decode M.2.1 pc = .ok (.ineg, 1)) (k : Go d M E N0 N1 F (pc + 1) loc (.int (-x) :: rest) w) : Go d M E N0 N1 F pc loc (.int x :: rest) w := by
  intro p l e R s m args below meth c Z X H locs ls h1 h2 h3 h4 h5
  exact lv_ineg X.1 X.2.1 hd (k p l e R s m args below meth c Z X H locs ls h1 h2 h3 h4 h5)
theorem g_idiv {x y : Int32} (hd : decode M.2.1 pc = .ok (.idiv, 1)) (hne : ¬ y = 0) (k : Go d M E N0 N1 F (pc + 1) loc (.int (x / y) :: rest) w) : Go d M E N0 N1 F pc loc (.int y :: .int x :: rest) w := by
  intro p l e R s m args below meth c Z X H locs ls h1 h2 h3 h4 h5
  exact lv_idiv X.1 X.2.1 hd hne (k p l e R s m args below meth c Z X H locs ls h1 h2 h3 h4 h5)
theorem g_irem {x y : Int32} (hd : decode M.2.1 pc = .ok (.irem, 1)) (hne : ¬ y = 0) (k : Go d M E N0 N1 F (pc + 1) loc (.int (x - x / y * y) :: rest) w) : Go d M E N0 N1 F pc loc (.int y :: .int x :: rest) w := by
  intro p l e R s m args below meth c Z X H locs ls h1 h2 h3 h4 h5
  exact lv_irem X.1 X.2.1 hd hne (k p l e R s m args below meth c Z X H locs ls h1 h2 h3 h4 h5)
theorem g_iushr {x y : Int32} (hd : decode M.2.1 pc = .ok (.iushr, 1)) (k : Go d M E N0 N1 F (pc + 1) loc (.int ((x.toUInt32 >>> (y.toUInt32 &&& Int32.toUInt32 31)).toInt32) :: rest) w) : Go d M E N0 N1 F pc loc (.int y :: .int x :: rest) w := by
  intro p l e R s m args below meth c Z X H locs ls h1 h2 h3 h4 h5
  exact lv_iushr X.1 X.2.1 hd rfl (k p l e R s m args below meth c Z X H locs ls h1 h2 h3 h4 h5)
theorem g_ladd {x y : Int64} (hd : decode M.2.1 pc = .ok (.ladd, 1)) (k : Go d M E N0 N1 F (pc + 1) loc (.long (x + y) :: rest) w) : Go d M E N0 N1 F pc loc (.long y :: .long x :: rest) w := by
  intro p l e R s m args below meth c Z X H locs ls h1 h2 h3 h4 h5
  exact lv_ladd X.1 X.2.1 hd (k p l e R s m args below meth c Z X H locs ls h1 h2 h3 h4 h5)
theorem g_land {x y : Int64} (hd : decode M.2.1 pc = .ok (.land, 1)) (k : Go d M E N0 N1 F (pc + 1) loc (.long (x &&& y) :: rest) w) : Go d M E N0 N1 F pc loc (.long y :: .long x :: rest) w := by
  intro p l e R s m args below meth c Z X H locs ls h1 h2 h3 h4 h5
  exact lv_land X.1 X.2.1 hd (k p l e R s m args below meth c Z X H locs ls h1 h2 h3 h4 h5)
theorem g_lor {x y : Int64} (hd : decode M.2.1 pc = .ok (.lor, 1)) (k : Go d M E N0 N1 F (pc + 1) loc (.long (x ||| y) :: rest) w) : Go d M E N0 N1 F pc loc (.long y :: .long x :: rest) w := by
  intro p l e R s m args below meth c Z X H locs ls h1 h2 h3 h4 h5
  exact lv_lor X.1 X.2.1 hd (k p l e R s m args below meth c Z X H locs ls h1 h2 h3 h4 h5)
theorem g_lshl {x : Int64} {y : Int32} (hd : decode M.2.1 pc = .ok (.lshl, 1)) (k : Go d M E N0 N1 F (pc + 1) loc (.long (x <<< (y.toInt64 &&& 63)) :: rest) w) : Go d M E N0 N1 F pc loc (.int y :: .long x :: rest) w := by
  intro p l e R s m args below meth c Z X H locs ls h1 h2 h3 h4 h5
  exact lv_lshl X.1 X.2.1 hd rfl (k p l e R s m args below meth c Z X H locs ls h1 h2 h3 h4 h5)
theorem g_i2l {x : Int32} (hd : decode M.2.1 pc = .ok (.i2l, 1)) (k : Go d M E N0 N1 F (pc + 1) loc (.long x.toInt64 :: rest) w) : Go d M E N0 N1 F pc loc (.int x :: rest) w := by
  intro p l e R s m args below meth c Z X H locs ls h1 h2 h3 h4 h5
  exact lv_i2l X.1 X.2.1 hd rfl (k p l e R s m args below meth c Z X H locs ls h1 h2 h3 h4 h5)
theorem g_l2i {x : Int64} (hd : decode M.2.1 pc = .ok (.l2i, 1)) (k : Go d M E N0 N1 F (pc + 1) loc (.int x.toInt32 :: rest) w) : Go d M E N0 N1 F pc loc (.long x :: rest) w := by
  intro p l e R s m args below meth c Z X H locs ls h1 h2 h3 h4 h5
  exact lv_l2i X.1 X.2.1 hd rfl (k p l e R s m args below meth c Z X H locs ls h1 h2 h3 h4 h5)
theorem g_i2b {x : Int32} (hd : decode M.2.1 pc = .ok (.i2b, 1)) (k : Go d M E N0 N1 F (pc + 1) loc (.int x.toInt8.toInt32 :: rest) w) : Go d M E N0 N1 F pc loc (.int x :: rest) w := by
  intro p l e R s m args below meth c Z X H locs ls h1 h2 h3 h4 h5
  exact lv_i2b X.1 X.2.1 hd rfl (k p l e R s m args below meth c Z X H locs ls h1 h2 h3 h4 h5)
theorem g_i2s {x : Int32} (hd : decode M.2.1 pc = .ok (.i2s, 1)) (k : Go d M E N0 N1 F (pc + 1) loc (.int x.toInt16.toInt32 :: rest) w) : Go d M E N0 N1 F pc loc (.int x :: rest) w := by
  intro p l e R s m args below meth c Z X H locs ls h1 h2 h3 h4 h5
  exact lv_i2s X.1 X.2.1 hd rfl (k p l e R s m args below meth c Z X H locs ls h1 h2 h3 h4 h5)
theorem g_i2c {x : Int32} (hd : decode M.2.1 pc = .ok (.i2c, 1)) (k : Go d M E N0 N1 F (pc + 1) loc (.int ((x.toUInt32 % 65536).toInt32) :: rest) w) : Go d M E N0 N1 F pc loc (.int x :: rest) w := by
  intro p l e R s m args below meth c Z X H locs ls h1 h2 h3 h4 h5
  exact lv_i2c X.1 X.2.1 hd rfl (k p l e R s m args below meth c Z X H locs ls h1 h2 h3 h4 h5)
theorem g_lcmp {x y : Int64} (hd : decode M.2.1 pc = .ok (.lcmp, 1)) (k : Go d M E N0 N1 F (pc + 1) loc (.int (lg_cmp x y) :: rest) w) : Go d M E N0 N1 F pc loc (.long y :: .long x :: rest) w := by
  intro p l e R s m args below meth c Z X H locs ls h1 h2 h3 h4 h5
  exact W.lcmp X.1 X.2.1 hd (k p l e R s m args below meth c Z X H locs ls h1 h2 h3 h4 h5)
theorem g_dup {va : Value} (hd : decode M.2.1 pc = .ok (.dup, 1)) (hva : va.category = 1) (k : Go d M E N0 N1 F (pc + 1) loc (va :: va :: rest) w) : Go d M E N0 N1 F pc loc (va :: rest) w := by
  intro p l e R s m args below meth c Z X H locs ls h1 h2 h3 h4 h5
  exact lv_dup X.1 X.2.1 hd hva (k p l e R s m args below meth c Z X H locs ls h1 h2 h3 h4 h5)
theorem g_pop {va : Value} (hd : decode M.2.1 pc = .ok (.pop, 1)) (hva : va.category = 1) (k : Go d M E N0 N1 F (pc + 1) loc (rest) w) : Go d M E N0 N1 F pc loc (va :: rest) w := by
  intro p l e R s m args below meth c Z X H locs ls h1 h2 h3 h4 h5
  exact lv_pop X.1 X.2.1 hd hva (k p l e R s m args below meth c Z X H locs ls h1 h2 h3 h4 h5)
theorem g_dup2 {va vb : Value} (hd : decode M.2.1 pc = .ok (.dup2, 1)) (hva : va.category = 1) (hvb : vb.category = 1) (k : Go d M E N0 N1 F (pc + 1) loc (va :: vb :: va :: vb :: rest) w) : Go d M E N0 N1 F pc loc (va :: vb :: rest) w := by
  intro p l e R s m args below meth c Z X H locs ls h1 h2 h3 h4 h5
  exact lv_dup2_11 X.1 X.2.1 hd hva hvb (k p l e R s m args below meth c Z X H locs ls h1 h2 h3 h4 h5)
theorem g_icmp_eq {x y : Int32} {off : Int} (tgt : Nat) (hd : decode M.2.1 pc = .ok (.if_icmp .eq off, 3)) (ht : (pc : Int) + off = (tgt : Int)) (kk : (x = y → Go d M E N0 N1 F tgt loc rest w) ∧ (¬ x = y → Go d M E N0 N1 F (pc + 3) loc rest w)) : Go d M E N0 N1 F pc loc (.int y :: .int x :: rest) w := by
  intro p l e R s m args below meth c Z X H locs ls h1 h2 h3 h4 h5
  exact lv_icmp_eq X.1 X.2.1 hd ht (fun q => kk.1 q p l e R s m args below meth c Z X H locs ls h1 h2 h3 h4 h5) (fun q => kk.2 q p l e R s m args below meth c Z X H locs ls h1 h2 h3 h4 h5)
theorem g_if_eq {x : Int32} {off : Int} (tgt : Nat) (hd : decode M.2.1 pc = .ok (.ifCond .eq off, 3)) (ht : (pc : Int) + off = (tgt : Int)) (kk : (x = 0 → Go d M E N0 N1 F tgt loc rest w) ∧ (¬ x = 0 → Go d M E N0 N1 F (pc + 3) loc rest w)) : Go d M E N0 N1 F pc loc (.int x :: rest) w := by
  intro p l e R s m args below meth c Z X H locs ls h1 h2 h3 h4 h5
  exact lv_if_eq X.1 X.2.1 hd ht (fun q => kk.1 q p l e R s m args below meth c Z X H locs ls h1 h2 h3 h4 h5) (fun q => kk.2 q p l e R s m args below meth c Z X H locs ls h1 h2 h3 h4 h5)
theorem g_icmp_ne {x y : Int32} {off : Int} (tgt : Nat) (hd : decode M.2.1 pc = .ok (.if_icmp .ne off, 3)) (ht : (pc : Int) + off = (tgt : Int)) (kk : (¬ x = y → Go d M E N0 N1 F tgt loc rest w) ∧ (x = y → Go d M E N0 N1 F (pc + 3) loc rest w)) : Go d M E N0 N1 F pc loc (.int y :: .int x :: rest) w := by
  intro p l e R s m args below meth c Z X H locs ls h1 h2 h3 h4 h5
  exact lv_icmp_ne X.1 X.2.1 hd ht (fun q => kk.1 q p l e R s m args below meth c Z X H locs ls h1 h2 h3 h4 h5) (fun q => kk.2 q p l e R s m args below meth c Z X H locs ls h1 h2 h3 h4 h5)
theorem g_if_ne {x : Int32} {off : Int} (tgt : Nat) (hd : decode M.2.1 pc = .ok (.ifCond .ne off, 3)) (ht : (pc : Int) + off = (tgt : Int)) (kk : (¬ x = 0 → Go d M E N0 N1 F tgt loc rest w) ∧ (x = 0 → Go d M E N0 N1 F (pc + 3) loc rest w)) : Go d M E N0 N1 F pc loc (.int x :: rest) w := by
  intro p l e R s m args below meth c Z X H locs ls h1 h2 h3 h4 h5
  exact lv_if_ne X.1 X.2.1 hd ht (fun q => kk.1 q p l e R s m args below meth c Z X H locs ls h1 h2 h3 h4 h5) (fun q => kk.2 q p l e R s m args below meth c Z X H locs ls h1 h2 h3 h4 h5)
theorem g_icmp_lt {x y : Int32} {off : Int} (tgt : Nat) (hd : decode M.2.1 pc = .ok (.if_icmp .lt off, 3)) (ht : (pc : Int) + off = (tgt : Int)) (kk : (x < y → Go d M E N0 N1 F tgt loc rest w) ∧ (¬ x < y → Go d M E N0 N1 F (pc + 3) loc rest w)) : Go d M E N0 N1 F pc loc (.int y :: .int x :: rest) w := by
  intro p l e R s m args below meth c Z X H locs ls h1 h2 h3 h4 h5
  exact lv_icmp_lt X.1 X.2.1 hd ht (fun q => kk.1 q p l e R s m args below meth c Z X H locs ls h1 h2 h3 h4 h5) (fun q => kk.2 q p l e R s m args below meth c Z X H locs ls h1 h2 h3 h4 h5)
theorem g_if_lt {x : Int32} {off : Int} (tgt : Nat) (hd : decode M.2.1 pc = .ok (.ifCond .lt off, 3)) (ht : (pc : Int) + off = (tgt : Int)) (kk : (x < 0 → Go d M E N0 N1 F tgt loc rest w) ∧ (¬ x < 0 → Go d M E N0 N1 F (pc + 3) loc rest w)) : Go d M E N0 N1 F pc loc (.int x :: rest) w := by
  intro p l e R s m args below meth c Z X H locs ls h1 h2 h3 h4 h5
  exact lv_if_lt X.1 X.2.1 hd ht (fun q => kk.1 q p l e R s m args below meth c Z X H locs ls h1 h2 h3 h4 h5) (fun q => kk.2 q p l e R s m args below meth c Z X H locs ls h1 h2 h3 h4 h5)
theorem g_icmp_ge {x y : Int32} {off : Int} (tgt : Nat) (hd : decode M.2.1 pc = .ok (.if_icmp .ge off, 3)) (ht : (pc : Int) + off = (tgt : Int)) (kk : (y ≤ x → Go d M E N0 N1 F tgt loc rest w) ∧ (¬ y ≤ x → Go d M E N0 N1 F (pc + 3) loc rest w)) : Go d M E N0 N1 F pc loc (.int y :: .int x :: rest) w := by
  intro p l e R s m args below meth c Z X H locs ls h1 h2 h3 h4 h5
  exact lv_icmp_ge X.1 X.2.1 hd ht (fun q => kk.1 q p l e R s m args below meth c Z X H locs ls h1 h2 h3 h4 h5) (fun q => kk.2 q p l e R s m args below meth c Z X H locs ls h1 h2 h3 h4 h5)
theorem g_if_ge {x : Int32} {off : Int} (tgt : Nat) (hd : decode M.2.1 pc = .ok (.ifCond .ge off, 3)) (ht : (pc : Int) + off = (tgt : Int)) (kk : (0 ≤ x → Go d M E N0 N1 F tgt loc rest w) ∧ (¬ 0 ≤ x → Go d M E N0 N1 F (pc + 3) loc rest w)) : Go d M E N0 N1 F pc loc (.int x :: rest) w := by
  intro p l e R s m args below meth c Z X H locs ls h1 h2 h3 h4 h5
  exact lv_if_ge X.1 X.2.1 hd ht (fun q => kk.1 q p l e R s m args below meth c Z X H locs ls h1 h2 h3 h4 h5) (fun q => kk.2 q p l e R s m args below meth c Z X H locs ls h1 h2 h3 h4 h5)
theorem g_icmp_gt {x y : Int32} {off : Int} (tgt : Nat) (hd : decode M.2.1 pc = .ok (.if_icmp .gt off, 3)) (ht : (pc : Int) + off = (tgt : Int)) (kk : (y < x → Go d M E N0 N1 F tgt loc rest w) ∧ (¬ y < x → Go d M E N0 N1 F (pc + 3) loc rest w)) : Go d M E N0 N1 F pc loc (.int y :: .int x :: rest) w := by
  intro p l e R s m args below meth c Z X H locs ls h1 h2 h3 h4 h5
  exact lv_icmp_gt X.1 X.2.1 hd ht (fun q => kk.1 q p l e R s m args below meth c Z X H locs ls h1 h2 h3 h4 h5) (fun q => kk.2 q p l e R s m args below meth c Z X H locs ls h1 h2 h3 h4 h5)
theorem g_if_gt {x : Int32} {off : Int} (tgt : Nat) (hd : decode M.2.1 pc = .ok (.ifCond .gt off, 3)) (ht : (pc : Int) + off = (tgt : Int)) (kk : (0 < x → Go d M E N0 N1 F tgt loc rest w) ∧ (¬ 0 < x → Go d M E N0 N1 F (pc + 3) loc rest w)) : Go d M E N0 N1 F pc loc (.int x :: rest) w := by
  intro p l e R s m args below meth c Z X H locs ls h1 h2 h3 h4 h5
  exact lv_if_gt X.1 X.2.1 hd ht (fun q => kk.1 q p l e R s m args below meth c Z X H locs ls h1 h2 h3 h4 h5) (fun q => kk.2 q p l e R s m args below meth c Z X H locs ls h1 h2 h3 h4 h5)
theorem g_icmp_le {x y : Int32} {off : Int} (tgt : Nat) (hd : decode M.2.1 pc = .ok (.if_icmp .le off, 3)) (ht : (pc : Int) + off = (tgt : Int)) (kk : (x ≤ y → Go d M E N0 N1 F tgt loc rest w) ∧ (¬ x ≤ y → Go d M E N0 N1 F (pc + 3) loc rest w)) : Go d M E N0 N1 F pc loc (.int y :: .int x :: rest) w := by
  intro p l e R s m args below meth c Z X H locs ls h1 h2 h3 h4 h5
  exact lv_icmp_le X.1 X.2.1 hd ht (fun q => kk.1 q p l e R s m args below meth c Z X H locs ls h1 h2 h3 h4 h5) (fun q => kk.2 q p l e R s m args below meth c Z X H locs ls h1 h2 h3 h4 h5)
theorem g_if_le {x : Int32} {off : Int} (tgt : Nat) (hd : decode M.2.1 pc = .ok (.ifCond .le off, 3)) (ht : (pc : Int) + off = (tgt : Int)) (kk : (x ≤ 0 → Go d M E N0 N1 F tgt loc rest w) ∧ (¬ x ≤ 0 → Go d M E N0 N1 F (pc + 3) loc rest w)) : Go d M E N0 N1 F pc loc (.int x :: rest) w := by
  intro p l e R s m args below meth c Z X H locs ls h1 h2 h3 h4 h5
  exact lv_if_le X.1 X.2.1 hd ht (fun q => kk.1 q p l e R s m args below meth c Z X H locs ls h1 h2 h3 h4 h5) (fun q => kk.2 q p l e R s m args below meth c Z X H locs ls h1 h2 h3 h4 h5)
theorem g_goto {stk : List Value} {off : Int} (tgt : Nat) (hd : decode M.2.1 pc = .ok (.goto off, 3)) (ht : (pc : Int) + off = (tgt : Int)) (k : Go d M E N0 N1 F tgt loc stk w) : Go d M E N0 N1 F pc loc stk w := by
  intro p l e R s m args below meth c Z X H locs ls h1 h2 h3 h4 h5
  exact lv_goto X.1 X.2.1 hd ht (k p l e R s m args below meth c Z X H locs ls h1 h2 h3 h4 h5)
theorem g_ifnonnull {x : Nat} {off : Int} (tgt : Nat) (hd : decode M.2.1 pc = .ok (.ifnonnull off, 3)) (ht : (pc : Int) + off = (tgt : Int)) (k : Go d M E N0 N1 F tgt loc rest w) : Go d M E N0 N1 F pc loc (.ref x :: rest) w := by
  intro p l e R s m args below meth c Z X H locs ls h1 h2 h3 h4 h5
  exact lv_ifnonnull X.1 X.2.1 hd ht (k p l e R s m args below meth c Z X H locs ls h1 h2 h3 h4 h5)
theorem g_ifnonnullN {off : Int} (hd : decode M.2.1 pc = .ok (.ifnonnull off, 3)) (k : Go d M E N0 N1 F (pc + 3) loc rest w) : Go d M E N0 N1 F pc loc (.null :: rest) w := by
  intro p l e R s m args below meth c Z X H locs ls h1 h2 h3 h4 h5
  exact lv_ifnonnullN X.1 X.2.1 hd (k p l e R s m args below meth c Z X H locs ls h1 h2 h3 h4 h5)
theorem g_ifnull {x : Nat} {off : Int} (hd : decode M.2.1 pc = .ok (.ifnull off, 3)) (k : Go d M E N0 N1 F (pc + 3) loc rest w) : Go d M E N0 N1 F pc loc (.ref x :: rest) w := by
  intro p l e R s m args below meth c Z X H locs ls h1 h2 h3 h4 h5
  exact lv_ifnull X.1 X.2.1 hd (k p l e R s m args below meth c Z X H locs ls h1 h2 h3 h4 h5)
theorem g_ifnullN {off : Int} (tgt : Nat) (hd : decode M.2.1 pc = .ok (.ifnull off, 3)) (ht : (pc : Int) + off = (tgt : Int)) (k : Go d M E N0 N1 F tgt loc rest w) : Go d M E N0 N1 F pc loc (.null :: rest) w := by
  intro p l e R s m args below meth c Z X H locs ls h1 h2 h3 h4 h5
  exact lv_ifnullN X.1 X.2.1 hd ht (k p l e R s m args below meth c Z X H locs ls h1 h2 h3 h4 h5)
theorem g_tableOut {dflt lo hi : Int} {offs : Array Int} {len : Nat} {x : Int32} (tgt : Nat) (hd : decode M.2.1 pc = .ok (.tableswitch dflt lo hi offs, len)) (h : x.toInt < lo ∨ hi < x.toInt) (ht : (pc : Int) + dflt = (tgt : Int)) (k : Go d M E N0 N1 F tgt loc rest w) : Go d M E N0 N1 F pc loc (.int x :: rest) w := by
  intro p l e R s m args below meth c Z X H locs ls h1 h2 h3 h4 h5
  exact lv_tableOut X.1 X.2.1 hd h ht (k p l e R s m args below meth c Z X H locs ls h1 h2 h3 h4 h5)
theorem g_tableIn {dflt lo hi : Int} {offs : Array Int} {len : Nat} {x : Int32} {off : Int} (tgt : Nat) (hd : decode M.2.1 pc = .ok (.tableswitch dflt lo hi offs, len)) (a1 : ¬ x.toInt < lo) (a2 : ¬ hi < x.toInt) (ho : offs[(x.toInt - lo).toNat]? = some off) (ht : (pc : Int) + off = (tgt : Int)) (k : Go d M E N0 N1 F tgt loc rest w) : Go d M E N0 N1 F pc loc (.int x :: rest) w := by
  intro p l e R s m args below meth c Z X H locs ls h1 h2 h3 h4 h5
  exact lv_tableIn X.1 X.2.1 hd a1 a2 ho ht (k p l e R s m args below meth c Z X H locs ls h1 h2 h3 h4 h5)
/-- a tableswitch: the place of its key, or none -/
theorem g_table {dflt lo hi : Int} {offs : Array Int} {len : Nat} {x : Int32} (hd : decode M.2.1 pc = .ok (.tableswitch dflt lo hi offs, len)) (n : Nat) (hn : hi = lo + (n : Int) - 1) (tgts : List Nat) (td : Nat) (hdf : (pc : Int) + dflt = (td : Int)) (ho : ∀ j, j < n → ∃ off, offs[j]? = some off ∧ (pc : Int) + off = ((tgts.getD j 0 : Nat) : Int))
    (kk : (∀ j, j < n → x.toInt = lo + (j : Int) → Go d M E N0 N1 F (tgts.getD j 0) loc rest w) ∧ ((x.toInt < lo ∨ hi < x.toInt) → Go d M E N0 N1 F td loc rest w)) : Go d M E N0 N1 F pc loc (.int x :: rest) w := by
  by_cases h : x.toInt < lo ∨ hi < x.toInt
  · exact g_tableOut td hd h hdf (kk.2 h)
  · have h1 : ¬ x.toInt < lo := fun q => h (Or.inl q)
    have h2 : ¬ hi < x.toInt := fun q => h (Or.inr q)
    have hj : (x.toInt - lo).toNat < n := by omega
    obtain ⟨off, e1, e2⟩ := ho _ hj
    exact g_tableIn _ hd h1 h2 e1 e2 (kk.1 _ hj (by omega))
theorem g_lookup {dflt : Int} {ps : Array (Int × Int)} {len : Nat} {x : Int32} {off : Int} (tgt : Nat) (hd : decode M.2.1 pc = .ok (.lookupswitch dflt ps, len)) (hp : (ps.toList.zip (ps.toList.drop 1)).all (fun (a, next) => a.1 < next.1) = true) (ho : Op.lookupswitch.offset ps.toList dflt x.toInt = off) (ht : (pc : Int) + off = (tgt : Int)) (k : Go d M E N0 N1 F tgt loc rest w) : Go d M E N0 N1 F pc loc (.int x :: rest) w := by
  intro p l e R s m args below meth c Z X H locs ls h1 h2 h3 h4 h5
  exact lv_lookup X.1 X.2.1 hd hp ho ht (k p l e R s m args below meth c Z X H locs ls h1 h2 h3 h4 h5)
/-- answers -/
theorem g_ret {v : Option Value} {stk : List Value} (hs : v.toList = stk) (hr : qRet M v pc) (hn : w.1 = N1) (hF : F w v) : Go d M E N0 N1 F pc loc stk w := by
  intro p l e R s m args below meth c Z X H locs ls h1 h2 h3 h4 h5
  subst hs
  subst hn
  exact X.2.2.2.2.2.2.2.2.2 H locs w v pc ls h1 rfl h4 hF hr
theorem g_iret {x : Int32} (hd : decode M.2.1 pc = .ok (.ireturn, 1)) (hr : M.2.2.2 = some .int) (k : w.1 = N1 ∧ F w (some (.int x))) : Go d M E N0 N1 F pc loc [.int x] w := g_ret (v := some (.int x)) rfl (Or.inl ⟨x, .int, rfl, hr, rfl, hd⟩) k.1 k.2
theorem g_zret {x : Int32} (hd : decode M.2.1 pc = .ok (.ireturn, 1)) (hr : M.2.2.2 = some .boolean) (hx : x = 0 ∨ x = 1) (k : w.1 = N1 ∧ F w (some (.int x))) : Go d M E N0 N1 F pc loc [.int x] w := g_ret (v := some (.int x)) rfl (Or.inl ⟨x, .boolean, rfl, hr, by rcases hx with rfl | rfl <;> rfl, hd⟩) k.1 k.2
theorem g_nret {x : Int32} {ty : FieldType} (hd : decode M.2.1 pc = .ok (.ireturn, 1)) (hr : M.2.2.2 = some ty) (hx : narrow ty (.int x) = .int x) (k : w.1 = N1 ∧ F w (some (.int x))) : Go d M E N0 N1 F pc loc [.int x] w := g_ret (v := some (.int x)) rfl (Or.inl ⟨x, ty, rfl, hr, hx, hd⟩) k.1 k.2
theorem g_lret {x : Int64} (hd : decode M.2.1 pc = .ok (.lreturn, 1)) (hr : M.2.2.2 = some .long) (k : w.1 = N1 ∧ F w (some (.long x))) : Go d M E N0 N1 F pc loc [.long x] w := g_ret (v := some (.long x)) rfl (Or.inr (Or.inl ⟨x, rfl, hr, hd⟩)) k.1 k.2
theorem g_vret (hd : decode M.2.1 pc = .ok (.return_, 1)) (hr : M.2.2.2 = none) (k : w.1 = N1 ∧ F w none) : Go d M E N0 N1 F pc loc [] w := g_ret (v := none) rfl (Or.inr (Or.inr (Or.inl ⟨rfl, hr, hd⟩))) k.1 k.2
theorem g_aret {v : Value} {C : String} (hd : decode M.2.1 pc = .ok (.areturn, 1)) (hr : M.2.2.2 = some (.object C)) (hv : v = .null ∨ ∃ a, v = .ref a) (k : w.1 = N1 ∧ F w (some v)) : Go d M E N0 N1 F pc loc [v] w := g_ret (v := some v) rfl (Or.inr (Or.inr (Or.inr ⟨v, C, rfl, hv, hr, hd⟩))) k.1 k.2
/-- fields -/
theorem g_getf {ci j n idx k : Nat} {C ref nm ds : String} {T : u_T} {v : Value} (hd : decode M.2.1 pc = .ok (.getfield idx, 3)) (hc : q_cls[ci]? = some (C, T, n)) (hin : ∀ w ∈ u_ws C T n, w ∈ qG) (hj : j < n) (hT : (T j).2.1 = nm ∧ (T j).2.2.1 = ds ∧ (T j).1 = ref) (hl : Cond.fieldLink M.1.cls idx ref nm ds ∈ qG) (hci : ci < 20) (hlay : qlay k = (ci, n)) (hk : k < w.1) (hv : qfv E w k (qft ci j) j = v) (kk : Go d M E N0 N1 F (pc + 3) loc (v :: rest) w) : Go d M E N0 N1 F pc loc (.ref (qb E + k) :: rest) w := by
  intro p l e R s m args below meth c Z X H locs ls h1 h2 h3 h4 h5
  obtain ⟨rfl, rfl, rfl⟩ := hT
  refine va_get (D := qD E) (cl := q_cls) (ws := qLs E w) (tys := qtys E) X.1 X.2.1 (fun w hw => X.2.2.2.2.1 w hw) hin X.2.2.2.1 X.2.2.2.2.2.2.1.1 h1.2 k ((qLs_get hk).trans (by rw [qcell_obj hlay hci])) hc j hj (X.2.2.2.2.1 _ hl) (fun _ h => h) (v := v) ?_ hd (kk p l e R s m args below meth c Z X H locs ls h1 h2 h3 h4 h5)
  rw [qobj_get hj, hv]
theorem qset_wd {w' : qW} {H H1 : Heap} {k : Nat} {e : va_E} (h1 : qWd E w H) (hk : k < w.1) (hn : w'.1 = w.1) (hz : H1.size = H.size) (he : e = qcell E w' k) (ho : ∀ j, j ≠ k → qcell E w' j = qcell E w j) (hP : va_P (qD E) q_cls ((qLs E w).set k (qb E + k, e)) H1) : qWd E w' H1 := by
  refine ⟨fun q => by rw [hz, hn]; exact h1.1 (by rw [← hn]; exact q), ?_⟩
  rw [qLs_set hk hn he ho] at hP
  exact hP
theorem qcell_pi {k j a : Nat} {v : Int32} (h : a ≠ k) : qcell E (qpi w k j v) a = qcell E w a := qcell_eq (fun i => ⟨by simp [qi, qpi, h], rfl, rfl⟩)
theorem qcell_pl {k j a : Nat} {v : Int64} (h : a ≠ k) : qcell E (qpl w k j v) a = qcell E w a := qcell_eq (fun i => ⟨rfl, by simp [ql, qpl, h], rfl⟩)
theorem qcell_pr {k j a : Nat} {v : Nat} (h : a ≠ k) : qcell E (qpr w k j v) a = qcell E w a := qcell_eq (fun i => ⟨rfl, rfl, by simp [qr, qpr, h]⟩)
theorem qcell_cp {k i k2 j n a : Nat} (h : a ≠ k2) : qcell E (qcp w k i k2 j n) a = qcell E w a := qcell_eq (fun x => ⟨by simp [qi, qcp, h], rfl, rfl⟩)
theorem qcell_cl {k i k2 j n a : Nat} (h : a ≠ k2) : qcell E (qcl w k i k2 j n) a = qcell E w a := qcell_eq (fun x => ⟨rfl, by simp [ql, qcl, h], rfl⟩)
theorem g_putX {w' : qW} {ci j n idx k : Nat} {C ref nm ds : String} {T : u_T} {ty0 : Nat → FieldType} {v : Value} (hd : decode M.2.1 pc = .ok (.putfield idx, 3)) (hc : q_cls[ci]? = some (C, T, n)) (hin : ∀ w ∈ u_ws C T n, w ∈ qG) (hty : ∀ k, k < n → parseFieldDescriptor (T k).2.2.1 = some (ty0 k)) (hnm : ∀ a, a < n → ∀ b, b < n → a ≠ b → (T a).2.1 ≠ (T b).2.1) (hj : j < n) (hT : (T j).2.1 = nm ∧ (T j).2.2.1 = ds ∧ (T j).1 = ref) (hfi : (T j).2.2.2 = false ∨ (M.1.name = "<init>" ∧ ref = M.1.cls)) (hl : Cond.fieldLink M.1.cls idx ref nm ds ∈ qG) (hci : ci < 20) (hlay : qlay k = (ci, n)) (hk : k < w.1)
    (hn : narrow (ty0 j) v = v) (hfit : fits (ty0 j) v = true) (hw1 : w'.1 = w.1) (hv : v = qfv E w' k (qft ci j) j) (hs : ∀ i, i ≠ j → qi w' k i = qi w k i ∧ qr w' k i = qr w k i) (ho : ∀ j, j ≠ k → qcell E w' j = qcell E w j)
    (kk : Go d M E N0 N1 F (pc + 3) loc rest w') : Go d M E N0 N1 F pc loc (v :: .ref (qb E + k) :: rest) w := by
  intro p l e R s m args below meth c Z X H locs ls h1 h2 h3 h4 h5
  obtain ⟨rfl, rfl, rfl⟩ := hT
  have hts := X.2.2.2.2.1
  have hown := X.2.2.2.1
  have hK := X.2.2.2.2.2.2.1.1
  have hlk := hts _ hl
  have he : (qLs E w)[k]? = some (qb E + k, .inr (ci, qobj E w k ci n)) := (qLs_get hk).trans (by rw [qcell_obj hlay hci])
  have hap := va_apart (own := M.1.cls) hts hin ty0 hty hnm hK hc
  obtain ⟨r, g1, cell, q1, q2, q3, q4⟩ := h1.2 k _ he
  have hr : r = (C, T, n) := Option.some.inj (g1.symm.trans hc)
  subst hr
  obtain ⟨hS, hfc, kC, hkC, hkind⟩ := hK.1 ci _ hc
  obtain ⟨cf, kf, fi, f, hi, hsl⟩ := hS j hj
  have hst := (u_facts hfc hkC (u_lays hts hin hj) hi).1
  have hsl2 : j < (qobj E w k ci n).length := by rw [qobj_len]; exact hj
  have fin : ∀ (H' : Heap), H'[qb E + k]? = some (cell.setSlot f.slot v) → H'.size = H.size → (∀ q, q ≠ qb E + k → H'[q]? = H[q]?) → W p l e R s m args below meth c H' (locs ++ [⟨qb E + k, f.slot⟩]) (w.1 - N0) (qss w.1 - qss N0) Z (F0 m (pc + 3) ls rest) := by
    intro H' e1 e2 e3
    rw [hsl] at e1
    have hP2 := h1.2.set qDs he (e := .inr (ci, (qobj E w k ci n).set j v)) ⟨_, hc, t_OB.to (V := updV (vp_V (qobj E w k ci n)) j v) ⟨_, e1, q2, q3, t_set q4 hap hj v⟩ (fun i _ => vp_updV_set hsl2 v i)⟩ e3
    have hW := qset_wd (w' := w') h1 hk hw1 e2 (by rw [qcell_obj hlay hci, qobj_set hj hv hs]) ho hP2
    have := kk p l e R s m args below meth c Z X H' (locs ++ [⟨qb E + k, f.slot⟩]) ls hW (by rw [hw1]; exact h2) (by rw [hw1]; exact h3) (h4.put e2 e3 (Nat.le_add_right _ _)) h5
    rw [hw1] at this
    exact this
  have hlay2 := hts _ (hin _ (u_in_lay hj))
  unfold u_lay at hlay2
  by_cases hff : (T j).2.2.2 = true
  · rw [if_pos hff] at hlay2
    obtain ⟨hini, hre⟩ : M.1.name = "<init>" ∧ (T j).1 = M.1.cls := by
      rcases hfi with q | q
      · rw [hff] at q; cases q
      · exact q
    have hcf : m.cls = cf := by
      obtain ⟨_, _, c', _, _, _, -, -, hf', -, -, -, hown2, -⟩ := Cond.laysFinal_spec hlay2
      have e1 : c' = cf := by have := hi.symm.trans hf'; simp at this; exact this.1.symm
      rw [hre] at hown2
      rw [← e1]; exact Option.some.inj (hown.symm.trans hown2)
    have h6 := u_fits hfc hkC hkind (Or.inr hlay2) hi (hty j hj) hn hfit
    exact W.putFinK X.1 X.2.1 hown hlk hi hst hcf (X.2.2.2.2.2.2.2.1 hini) (by rw [q2]; exact h6) q1 q3 (by rw [hsl]; exact k2_hasslot (q4 j hj)) rfl rfl hd fin
  · rw [if_neg hff] at hlay2
    have h6 := u_store hfc hkC hkind hlay2 hi (hty j hj) hn hfit
    exact W.putK X.1 X.2.1 (f := f) ⟨hown, hlk, ⟨_, _, _, hi⟩, hst⟩ (by rw [q2]; exact h6) q1 q3 (by rw [hsl]; exact k2_hasslot (q4 j hj)) rfl rfl hd fin
end GR
