section GOP
variable {p : Program} {l : Launch} {e : Env} {R : Room} {s : State} {m : MethodId} {args : Array Value} {below : List Frame} {meth : Method} {c : Code} {G : gG} {M : gM} {sh : gS} {cells slots : Nat} {Z : State → Prop}
variable {pc : Nat} {ls : gLs} {st : List Value} {h : gH}
theorem go_iconst {n : Int} {v : Int32} (hd : decode M.2.1 pc = .ok (.iconst n, 1)) (hv : Int32.ofInt n = v) (k : Go p l e R s m args below meth c G M sh cells slots Z (pc + 1) ls (.int v :: st) h) : Go p l e R s m args below meth c G M sh cells slots Z pc ls st h := by
  intro ok H locs la hl hr hS
  exact lv_iconst ok.1 ok.2.1 hd hv (k ok H locs la hl hr hS)
theorem go_bipush {n : Int} {v : Int32} (hd : decode M.2.1 pc = .ok (.bipush n, 2)) (hv : (Int8.ofInt n).toInt32 = v) (k : Go p l e R s m args below meth c G M sh cells slots Z (pc + 2) ls (.int v :: st) h) : Go p l e R s m args below meth c G M sh cells slots Z pc ls st h := by
  intro ok H locs la hl hr hS
  exact lv_bipush ok.1 ok.2.1 hd hv (k ok H locs la hl hr hS)
theorem go_sipush {n : Int} {v : Int32} (hd : decode M.2.1 pc = .ok (.sipush n, 3)) (hv : (Int16.ofInt n).toInt32 = v) (k : Go p l e R s m args below meth c G M sh cells slots Z (pc + 3) ls (.int v :: st) h) : Go p l e R s m args below meth c G M sh cells slots Z pc ls st h := by
  intro ok H locs la hl hr hS
  exact lv_sipush ok.1 ok.2.1 hd hv (k ok H locs la hl hr hS)
theorem go_lconst {n : Fin 2} {v : Int64} (hd : decode M.2.1 pc = .ok (.lconst n, 1)) (hv : Int64.ofNat (n : Nat) = v) (k : Go p l e R s m args below meth c G M sh cells slots Z (pc + 1) ls (.long v :: st) h) : Go p l e R s m args below meth c G M sh cells slots Z pc ls st h := by
  intro ok H locs la hl hr hS
  exact lv_lconst ok.1 ok.2.1 hd hv (k ok H locs la hl hr hS)
theorem go_null  (hd : decode M.2.1 pc = .ok (.aconst_null, 1))  (k : Go p l e R s m args below meth c G M sh cells slots Z (pc + 1) ls (.null :: st) h) : Go p l e R s m args below meth c G M sh cells slots Z pc ls st h := by
  intro ok H locs la hl hr hS
  exact lv_null ok.1 ok.2.1 hd (k ok H locs la hl hr hS)
theorem go_ldc {i : Nat} {v : Int32} (hd : decode M.2.1 pc = .ok (.ldc i, 2)) (hc : Cond.constant M.1.cls i v ∈ gW) (k : Go p l e R s m args below meth c G M sh cells slots Z (pc + 2) ls (.int v :: st) h) : Go p l e R s m args below meth c G M sh cells slots Z pc ls st h := by
  intro ok H locs la hl hr hS
  exact lv_ldc ok.1 ok.2.1 ok.2.2.2.2.1 (ok.2.2.2.2.2.1 _ hc) hd (k ok H locs la hl hr hS)
theorem go_ldcw {i : Nat} {v : Int32} (hd : decode M.2.1 pc = .ok (.ldc_w i, 3)) (hc : Cond.constant M.1.cls i v ∈ gW) (k : Go p l e R s m args below meth c G M sh cells slots Z (pc + 3) ls (.int v :: st) h) : Go p l e R s m args below meth c G M sh cells slots Z pc ls st h := by
  intro ok H locs la hl hr hS
  exact lv_ldcw ok.1 ok.2.1 ok.2.2.2.2.1 (ok.2.2.2.2.2.1 _ hc) hd (k ok H locs la hl hr hS)
theorem go_ldc2 {i : Nat} {v : Int64} (hd : decode M.2.1 pc = .ok (.ldc2_w i, 3)) (hc : Cond.constantLong M.1.cls i v ∈ gW) (k : Go p l e R s m args below meth c G M sh cells slots Z (pc + 3) ls (.long v :: st) h) : Go p l e R s m args below meth c G M sh cells slots Z pc ls st h := by
  intro ok H locs la hl hr hS
  exact lv_ldc2 ok.1 ok.2.1 ok.2.2.2.2.1 (ok.2.2.2.2.2.1 _ hc) hd (k ok H locs la hl hr hS)
theorem go_iload_n {k0 : Fin 4} {x : Int32} (hd : decode M.2.1 pc = .ok (.iload_n k0, 1)) (hx : ls[(k0 : Nat)]? = some (some (.int x))) (k : Go p l e R s m args below meth c G M sh cells slots Z (pc + 1) ls (.int x :: st) h) : Go p l e R s m args below meth c G M sh cells slots Z pc ls st h := by
  intro ok H locs la hl hr hS
  exact lv_iload_n ok.1 ok.2.1 hd rfl (hl.2.2.2 _ _ hx) (k ok H locs la hl hr hS)
theorem go_iload {i : Nat} {x : Int32} (hd : decode M.2.1 pc = .ok (.iload i, 2)) (hx : ls[i]? = some (some (.int x))) (k : Go p l e R s m args below meth c G M sh cells slots Z (pc + 2) ls (.int x :: st) h) : Go p l e R s m args below meth c G M sh cells slots Z pc ls st h := by
  intro ok H locs la hl hr hS
  exact lv_iload ok.1 ok.2.1 hd (hl.2.2.2 _ _ hx) (k ok H locs la hl hr hS)
theorem go_lload_n {k0 : Fin 4} {x : Int64} (hd : decode M.2.1 pc = .ok (.lload_n k0, 1)) (hx : ls[(k0 : Nat)]? = some (some (.long x))) (k : Go p l e R s m args below meth c G M sh cells slots Z (pc + 1) ls (.long x :: st) h) : Go p l e R s m args below meth c G M sh cells slots Z pc ls st h := by
  intro ok H locs la hl hr hS
  exact lv_lload_n ok.1 ok.2.1 hd rfl (hl.2.2.2 _ _ hx) (k ok H locs la hl hr hS)
theorem go_lload {i : Nat} {x : Int64} (hd : decode M.2.1 pc = .ok (.lload i, 2)) (hx : ls[i]? = some (some (.long x))) (k : Go p l e R s m args below meth c G M sh cells slots Z (pc + 2) ls (.long x :: st) h) : Go p l e R s m args below meth c G M sh cells slots Z pc ls st h := by
  intro ok H locs la hl hr hS
  exact lv_lload ok.1 ok.2.1 hd (hl.2.2.2 _ _ hx) (k ok H locs la hl hr hS)
theorem go_aload_n {k0 : Fin 4} {x : Nat} (hd : decode M.2.1 pc = .ok (.aload_n k0, 1)) (hx : ls[(k0 : Nat)]? = some (some (.ref x))) (k : Go p l e R s m args below meth c G M sh cells slots Z (pc + 1) ls (.ref x :: st) h) : Go p l e R s m args below meth c G M sh cells slots Z pc ls st h := by
  intro ok H locs la hl hr hS
  exact lv_aload_n ok.1 ok.2.1 hd rfl (hl.2.2.2 _ _ hx) (k ok H locs la hl hr hS)
theorem go_aload {i : Nat} {x : Nat} (hd : decode M.2.1 pc = .ok (.aload i, 2)) (hx : ls[i]? = some (some (.ref x))) (k : Go p l e R s m args below meth c G M sh cells slots Z (pc + 2) ls (.ref x :: st) h) : Go p l e R s m args below meth c G M sh cells slots Z pc ls st h := by
  intro ok H locs la hl hr hS
  exact lv_aload ok.1 ok.2.1 hd (hl.2.2.2 _ _ hx) (k ok H locs la hl hr hS)
theorem go_istore_n {k0 : Fin 4} {x : Int32} (hd : decode M.2.1 pc = .ok (.istore_n k0, 1)) (hx : (k0 : Nat) < ls.length) (k : Go p l e R s m args below meth c G M sh cells slots Z (pc + 1) (gs1 ls (k0 : Nat) (.int x)) st h) : Go p l e R s m args below meth c G M sh cells slots Z pc ls (.int x :: st) h := by
  intro ok H locs la hl hr hS
  exact lv_istore_n ok.1 ok.2.1 hd rfl hl.has (by have := hl.2.1; omega) rfl (fun la2 h2 => k ok H locs la2 (hl.st1 h2) hr hS)
theorem go_istore {i : Nat} {x : Int32} (hd : decode M.2.1 pc = .ok (.istore i, 2)) (hx : i < ls.length) (k : Go p l e R s m args below meth c G M sh cells slots Z (pc + 2) (gs1 ls i (.int x)) st h) : Go p l e R s m args below meth c G M sh cells slots Z pc ls (.int x :: st) h := by
  intro ok H locs la hl hr hS
  exact lv_istore ok.1 ok.2.1 hd hl.has (by have := hl.2.1; omega) rfl (fun la2 h2 => k ok H locs la2 (hl.st1 h2) hr hS)
theorem go_astore_n {k0 : Fin 4} {x : Nat} (hd : decode M.2.1 pc = .ok (.astore_n k0, 1)) (hx : (k0 : Nat) < ls.length) (k : Go p l e R s m args below meth c G M sh cells slots Z (pc + 1) (gs1 ls (k0 : Nat) (.ref x)) st h) : Go p l e R s m args below meth c G M sh cells slots Z pc ls (.ref x :: st) h := by
  intro ok H locs la hl hr hS
  exact lv_astore_n ok.1 ok.2.1 hd rfl hl.has (by have := hl.2.1; omega) rfl (fun la2 h2 => k ok H locs la2 (hl.st1 h2) hr hS)
theorem go_astore {i : Nat} {x : Nat} (hd : decode M.2.1 pc = .ok (.astore i, 2)) (hx : i < ls.length) (k : Go p l e R s m args below meth c G M sh cells slots Z (pc + 2) (gs1 ls i (.ref x)) st h) : Go p l e R s m args below meth c G M sh cells slots Z pc ls (.ref x :: st) h := by
  intro ok H locs la hl hr hS
  exact lv_astore ok.1 ok.2.1 hd hl.has (by have := hl.2.1; omega) rfl (fun la2 h2 => k ok H locs la2 (hl.st1 h2) hr hS)
theorem go_lstore_n {k0 : Fin 4} {x : Int64} (hd : decode M.2.1 pc = .ok (.lstore_n k0, 1)) (hx : (k0 : Nat) + 1 < ls.length) (k : Go p l e R s m args below meth c G M sh cells slots Z (pc + 1) (gs2 ls (k0 : Nat) (.long x)) st h) : Go p l e R s m args below meth c G M sh cells slots Z pc ls (.long x :: st) h := by
  intro ok H locs la hl hr hS
  exact lv_lstore_n ok.1 ok.2.1 hd rfl hl.has (by have := hl.2.1; omega) rfl (fun la2 h2 => k ok H locs la2 (hl.st2 h2) hr hS)
theorem go_lstore {i : Nat} {x : Int64} (hd : decode M.2.1 pc = .ok (.lstore i, 2)) (hx : i + 1 < ls.length) (k : Go p l e R s m args below meth c G M sh cells slots Z (pc + 2) (gs2 ls i (.long x)) st h) : Go p l e R s m args below meth c G M sh cells slots Z pc ls (.long x :: st) h := by
  intro ok H locs la hl hr hS
  exact lv_lstore ok.1 ok.2.1 hd hl.has (by have := hl.2.1; omega) rfl (fun la2 h2 => k ok H locs la2 (hl.st2 h2) hr hS)
theorem go_iinc {i : Nat} {n : Int} {x : Int32} (hd : decode M.2.1 pc = .ok (.iinc i n, 3)) (hx : ls[i]? = some (some (.int x))) (k : Go p l e R s m args below meth c G M sh cells slots Z (pc + 3) (gs1 ls i (.int (x + Int32.ofInt n))) st h) : Go p l e R s m args below meth c G M sh cells slots Z pc ls st h := by
  intro ok H locs la hl hr hS
  have hm : (i, Value.int x) ∈ gpr G ls := gpr_mem.mpr ⟨.int x, hx, rfl⟩
  obtain ⟨q, hq⟩ := List.getElem?_of_mem hm
  exact lv_iinc ok.1 ok.2.1 hd hl.has hq rfl (by have := hl.2.1; have := (List.getElem?_eq_some_iff.mp hx).1; omega) rfl (fun la2 h2 => k ok H locs la2 (hl.st1 (v := .int (x + Int32.ofInt n)) h2) hr hS)
theorem go_iadd {x y : Int32} (hd : decode M.2.1 pc = .ok (.iadd, 1))  (k : Go p l e R s m args below meth c G M sh cells slots Z (pc + 1) ls (.int (x + y) :: st) h) : Go p l e R s m args below meth c G M sh cells slots Z pc ls (.int y :: .int x :: st) h := by
  intro ok H locs la hl hr hS
  exact lv_iadd ok.1 ok.2.1 hd (k ok H locs la hl hr hS)
theorem go_isub {x y : Int32} (hd : decode M.2.1 pc = .ok (.isub, 1))  (k : Go p l e R s m args below meth c G M sh cells slots Z (pc + 1) ls (.int (x - y) :: st) h) : Go p l e R s m args below meth c G M sh cells slots Z pc ls (.int y :: .int x :: st) h := by
  intro ok H locs la hl hr hS
  exact lv_isub ok.1 ok.2.1 hd (k ok H locs la hl hr hS)
theorem go_imul {x y : Int32} (hd : decode M.2.1 pc = .ok (.imul, 1))  (k : Go p l e R s m args below meth c G M sh cells slots Z (pc + 1) ls (.int (x * y) :: st) h) : Go p l e R s m args below meth c G M sh cells slots Z pc ls (.int y :: .int x :: st) h := by
  intro ok H locs la hl hr hS
  exact lv_imul ok.1 ok.2.1 hd (k ok H locs la hl hr hS)
theorem go_iand {x y : Int32} (hd : decode M.2.1 pc = .ok (.iand, 1))  (k : Go p l e R s m args below meth c G M sh cells slots Z (pc + 1) ls (.int (x &&& y) :: st) h) : Go p l e R s m args below meth c G M sh cells slots Z pc ls (.int y :: .int x :: st) h := by
  intro ok H locs la hl hr hS
  exact lv_iand ok.1 ok.2.1 hd (k ok H locs la hl hr hS)
theorem go_ior {x y : Int32} (hd : decode M.2.1 pc = .ok (.ior, 1))  (k : Go p l e R s m args below meth c G M sh cells slots Z (pc + 1) ls (.int (x ||| y) :: st) h) : Go p l e R s m args below meth c G M sh cells slots Z pc ls (.int y :: .int x :: st) h := by
  intro ok H locs la hl hr hS
  exact lv_ior ok.1 ok.2.1 hd (k ok H locs la hl hr hS)
theorem go_ixor {x y : Int32} (hd : decode M.2.1 pc = .ok (.ixor, 1))  (k : Go p l e R s m args below meth c G M sh cells slots Z (pc + 1) ls (.int (x ^^^ y) :: st) h) : Go p l e R s m args below meth c G M sh cells slots Z pc ls (.int y :: .int x :: st) h := by
  intro ok H locs la hl hr hS
  exact lv_ixor ok.1 ok.2.1 hd (k ok H locs la hl hr hS)
theorem go_ishl {x y : Int32} (hd : decode M.2.1 pc = .ok (.ishl, 1))  (k : Go p l e R s m args below meth c G M sh cells slots Z (pc + 1) ls (.int (x <<< (y &&& 31)) :: st) h) : Go p l e R s m args below meth c G M sh cells slots Z pc ls (.int y :: .int x :: st) h := by
  intro ok H locs la hl hr hS
  exact lv_ishl ok.1 ok.2.1 hd (k ok H locs la hl hr hS)
theorem go_ishr {x y : Int32} (hd : decode M.2.1 pc = .ok (.ishr, 1))  (k : Go p l e R s m args below meth c G M sh cells slots Z (pc + 1) ls (.int (x >>> (y &&& 31)) :: st) h) : Go p l e R s m args below meth c G M sh cells slots Z pc ls (.int y :: .int x :: st) h := by
  intro ok H locs la hl hr hS
  exact lv_ishr ok.1 ok.2.1 hd (k ok H locs la hl hr hS)
theorem go_idiv {x y : Int32} (hd : decode M.2.1 pc = .ok (.idiv, 1)) (hne : ¬ y = 0) (k : Go p l e R s m args below meth c G M sh cells slots Z (pc + 1) ls (.int (x / y) :: st) h) : Go p l e R s m args below meth c G M sh cells slots Z pc ls (.int y :: .int x :: st) h := by
  intro ok H locs la hl hr hS
  exact lv_idiv ok.1 ok.2.1 hd hne (k ok H locs la hl hr hS)
theorem go_irem {x y : Int32} (hd : decode M.2.1 pc = .ok (.irem, 1)) (hne : ¬ y = 0) (k : Go p l e R s m args below meth c G M sh cells slots Z (pc + 1) ls (.int (x - x / y * y) :: st) h) : Go p l e R s m args below meth c G M sh cells slots Z pc ls (.int y :: .int x :: st) h := by
  intro ok H locs la hl hr hS
  exact lv_irem ok.1 ok.2.1 hd hne (k ok H locs la hl hr hS)
theorem go_ineg {x : Int32} (hd : decode M.2.1 pc = .ok (.ineg, 1))  (k : Go p l e R s m args below meth c G M sh cells slots Z (pc + 1) ls (.int (-x) :: st) h) : Go p l e R s m args below meth c G M sh cells slots Z pc ls (.int x :: st) h := by
  intro ok H locs la hl hr hS
  exact lv_ineg ok.1 ok.2.1 hd (k ok H locs la hl hr hS)
theorem go_iushr {x y : Int32} (hd : decode M.2.1 pc = .ok (.iushr, 1))  (k : Go p l e R s m args below meth c G M sh cells slots Z (pc + 1) ls (.int ((x.toUInt32 >>> (y.toUInt32 &&& Int32.toUInt32 31)).toInt32) :: st) h) : Go p l e R s m args below meth c G M sh cells slots Z pc ls (.int y :: .int x :: st) h := by
  intro ok H locs la hl hr hS
  exact lv_iushr ok.1 ok.2.1 hd rfl (k ok H locs la hl hr hS)
theorem go_ladd {x y : Int64} (hd : decode M.2.1 pc = .ok (.ladd, 1))  (k : Go p l e R s m args below meth c G M sh cells slots Z (pc + 1) ls (.long (x + y) :: st) h) : Go p l e R s m args below meth c G M sh cells slots Z pc ls (.long y :: .long x :: st) h := by
  intro ok H locs la hl hr hS
  exact lv_ladd ok.1 ok.2.1 hd (k ok H locs la hl hr hS)
theorem go_lsub {x y : Int64} (hd : decode M.2.1 pc = .ok (.lsub, 1))  (k : Go p l e R s m args below meth c G M sh cells slots Z (pc + 1) ls (.long (x - y) :: st) h) : Go p l e R s m args below meth c G M sh cells slots Z pc ls (.long y :: .long x :: st) h := by
  intro ok H locs la hl hr hS
  exact lv_lsub ok.1 ok.2.1 hd (k ok H locs la hl hr hS)
theorem go_lmul {x y : Int64} (hd : decode M.2.1 pc = .ok (.lmul, 1))  (k : Go p l e R s m args below meth c G M sh cells slots Z (pc + 1) ls (.long (x * y) :: st) h) : Go p l e R s m args below meth c G M sh cells slots Z pc ls (.long y :: .long x :: st) h := by
  intro ok H locs la hl hr hS
  exact lv_lmul ok.1 ok.2.1 hd (k ok H locs la hl hr hS)
theorem go_land {x y : Int64} (hd : decode M.2.1 pc = .ok (.land, 1))  (k : Go p l e R s m args below meth c G M sh cells slots Z (pc + 1) ls (.long (x &&& y) :: st) h) : Go p l e R s m args below meth c G M sh cells slots Z pc ls (.long y :: .long x :: st) h := by
  intro ok H locs la hl hr hS
  exact lv_land ok.1 ok.2.1 hd (k ok H locs la hl hr hS)
theorem go_ldiv {x y : Int64} (hd : decode M.2.1 pc = .ok (.ldiv, 1)) (hne : ¬ y = 0) (k : Go p l e R s m args below meth c G M sh cells slots Z (pc + 1) ls (.long (x / y) :: st) h) : Go p l e R s m args below meth c G M sh cells slots Z pc ls (.long y :: .long x :: st) h := by
  intro ok H locs la hl hr hS
  exact lv_ldiv ok.1 ok.2.1 hd hne (k ok H locs la hl hr hS)
theorem go_lrem {x y : Int64} (hd : decode M.2.1 pc = .ok (.lrem, 1)) (hne : ¬ y = 0) (k : Go p l e R s m args below meth c G M sh cells slots Z (pc + 1) ls (.long (x - x / y * y) :: st) h) : Go p l e R s m args below meth c G M sh cells slots Z pc ls (.long y :: .long x :: st) h := by
  intro ok H locs la hl hr hS
  exact lv_lrem ok.1 ok.2.1 hd hne (k ok H locs la hl hr hS)
theorem go_lshr {x : Int64} {y : Int32} (hd : decode M.2.1 pc = .ok (.lshr, 1))  (k : Go p l e R s m args below meth c G M sh cells slots Z (pc + 1) ls (.long (x >>> (y.toInt64 &&& 63)) :: st) h) : Go p l e R s m args below meth c G M sh cells slots Z pc ls (.int y :: .long x :: st) h := by
  intro ok H locs la hl hr hS
  exact lv_lshr ok.1 ok.2.1 hd rfl (k ok H locs la hl hr hS)
theorem go_lcmp {x y : Int64} (hd : decode M.2.1 pc = .ok (.lcmp, 1))  (k : Go p l e R s m args below meth c G M sh cells slots Z (pc + 1) ls (.int (lg_cmp x y) :: st) h) : Go p l e R s m args below meth c G M sh cells slots Z pc ls (.long y :: .long x :: st) h := by
  intro ok H locs la hl hr hS
  exact W.lcmp ok.1 ok.2.1 hd (k ok H locs la hl hr hS)
theorem go_i2l {x : Int32} (hd : decode M.2.1 pc = .ok (.i2l, 1))  (k : Go p l e R s m args below meth c G M sh cells slots Z (pc + 1) ls (.long x.toInt64 :: st) h) : Go p l e R s m args below meth c G M sh cells slots Z pc ls (.int x :: st) h := by
  intro ok H locs la hl hr hS
  exact lv_i2l ok.1 ok.2.1 hd rfl (k ok H locs la hl hr hS)
theorem go_l2i {x : Int64} (hd : decode M.2.1 pc = .ok (.l2i, 1))  (k : Go p l e R s m args below meth c G M sh cells slots Z (pc + 1) ls (.int x.toInt32 :: st) h) : Go p l e R s m args below meth c G M sh cells slots Z pc ls (.long x :: st) h := by
  intro ok H locs la hl hr hS
  exact lv_l2i ok.1 ok.2.1 hd rfl (k ok H locs la hl hr hS)
theorem go_i2c {x : Int32} (hd : decode M.2.1 pc = .ok (.i2c, 1))  (k : Go p l e R s m args below meth c G M sh cells slots Z (pc + 1) ls (.int (x.toUInt32 % 65536).toInt32 :: st) h) : Go p l e R s m args below meth c G M sh cells slots Z pc ls (.int x :: st) h := by
  intro ok H locs la hl hr hS
  exact lv_i2c ok.1 ok.2.1 hd rfl (k ok H locs la hl hr hS)
theorem go_dup {v : Value} (hd : decode M.2.1 pc = .ok (.dup, 1)) (hv : v.category = 1) (k : Go p l e R s m args below meth c G M sh cells slots Z (pc + 1) ls (v :: v :: st) h) : Go p l e R s m args below meth c G M sh cells slots Z pc ls (v :: st) h := by
  intro ok H locs la hl hr hS
  exact lv_dup ok.1 ok.2.1 hd (by rw [gv_cat]; exact hv) (k ok H locs la hl hr hS)
theorem go_dup2 {v w : Value} (hd : decode M.2.1 pc = .ok (.dup2, 1)) (hv : v.category = 1) (hw : w.category = 1) (k : Go p l e R s m args below meth c G M sh cells slots Z (pc + 1) ls (v :: w :: v :: w :: st) h) : Go p l e R s m args below meth c G M sh cells slots Z pc ls (v :: w :: st) h := by
  intro ok H locs la hl hr hS
  exact lv_dup2_11 ok.1 ok.2.1 hd (by rw [gv_cat]; exact hv) (by rw [gv_cat]; exact hw) (k ok H locs la hl hr hS)
theorem go_dup2L {x : Int64} (hd : decode M.2.1 pc = .ok (.dup2, 1))  (k : Go p l e R s m args below meth c G M sh cells slots Z (pc + 1) ls (.long x :: .long x :: st) h) : Go p l e R s m args below meth c G M sh cells slots Z pc ls (.long x :: st) h := by
  intro ok H locs la hl hr hS
  exact lv_dup2_2 ok.1 ok.2.1 hd rfl (k ok H locs la hl hr hS)
theorem go_pop {v : Value} (hd : decode M.2.1 pc = .ok (.pop, 1)) (hv : v.category = 1) (k : Go p l e R s m args below meth c G M sh cells slots Z (pc + 1) ls st h) : Go p l e R s m args below meth c G M sh cells slots Z pc ls (v :: st) h := by
  intro ok H locs la hl hr hS
  exact lv_pop ok.1 ok.2.1 hd (by rw [gv_cat]; exact hv) (k ok H locs la hl hr hS)
theorem go_goto {off : Int} (t : Nat) (hd : decode M.2.1 pc = .ok (.goto off, 3)) (ht : (pc : Int) + off = (t : Int)) (k : Go p l e R s m args below meth c G M sh cells slots Z t ls st h) : Go p l e R s m args below meth c G M sh cells slots Z pc ls st h := by
  intro ok H locs la hl hr hS
  exact lv_goto ok.1 ok.2.1 hd ht (k ok H locs la hl hr hS)
theorem go_if_eq {x : Int32} {off : Int} (t : Nat) (hd : decode M.2.1 pc = .ok (.ifCond .eq off, 3)) (ht : (pc : Int) + off = (t : Int)) (kt : x = 0 → Go p l e R s m args below meth c G M sh cells slots Z t ls st h) (kf : ¬ x = 0 → Go p l e R s m args below meth c G M sh cells slots Z (pc + 3) ls st h) : Go p l e R s m args below meth c G M sh cells slots Z pc ls (.int x :: st) h := by
  intro ok H locs la hl hr hS
  exact lv_if_eq ok.1 ok.2.1 hd ht (fun q => kt q ok H locs la hl hr hS) (fun q => kf q ok H locs la hl hr hS)
theorem go_if_ne {x : Int32} {off : Int} (t : Nat) (hd : decode M.2.1 pc = .ok (.ifCond .ne off, 3)) (ht : (pc : Int) + off = (t : Int)) (kt : ¬ x = 0 → Go p l e R s m args below meth c G M sh cells slots Z t ls st h) (kf : x = 0 → Go p l e R s m args below meth c G M sh cells slots Z (pc + 3) ls st h) : Go p l e R s m args below meth c G M sh cells slots Z pc ls (.int x :: st) h := by
  intro ok H locs la hl hr hS
  exact lv_if_ne ok.1 ok.2.1 hd ht (fun q => kt q ok H locs la hl hr hS) (fun q => kf q ok H locs la hl hr hS)
theorem go_if_lt {x : Int32} {off : Int} (t : Nat) (hd : decode M.2.1 pc = .ok (.ifCond .lt off, 3)) (ht : (pc : Int) + off = (t : Int)) (kt : x < 0 → Go p l e R s m args below meth c G M sh cells slots Z t ls st h) (kf : ¬ x < 0 → Go p l e R s m args below meth c G M sh cells slots Z (pc + 3) ls st h) : Go p l e R s m args below meth c G M sh cells slots Z pc ls (.int x :: st) h := by
  intro ok H locs la hl hr hS
  exact lv_if_lt ok.1 ok.2.1 hd ht (fun q => kt q ok H locs la hl hr hS) (fun q => kf q ok H locs la hl hr hS)
theorem go_if_ge {x : Int32} {off : Int} (t : Nat) (hd : decode M.2.1 pc = .ok (.ifCond .ge off, 3)) (ht : (pc : Int) + off = (t : Int)) (kt : 0 ≤ x → Go p l e R s m args below meth c G M sh cells slots Z t ls st h) (kf : ¬ 0 ≤ x → Go p l e R s m args below meth c G M sh cells slots Z (pc + 3) ls st h) : Go p l e R s m args below meth c G M sh cells slots Z pc ls (.int x :: st) h := by
  intro ok H locs la hl hr hS
  exact lv_if_ge ok.1 ok.2.1 hd ht (fun q => kt q ok H locs la hl hr hS) (fun q => kf q ok H locs la hl hr hS)
theorem go_if_gt {x : Int32} {off : Int} (t : Nat) (hd : decode M.2.1 pc = .ok (.ifCond .gt off, 3)) (ht : (pc : Int) + off = (t : Int)) (kt : 0 < x → Go p l e R s m args below meth c G M sh cells slots Z t ls st h) (kf : ¬ 0 < x → Go p l e R s m args below meth c G M sh cells slots Z (pc + 3) ls st h) : Go p l e R s m args below meth c G M sh cells slots Z pc ls (.int x :: st) h := by
  intro ok H locs la hl hr hS
  exact lv_if_gt ok.1 ok.2.1 hd ht (fun q => kt q ok H locs la hl hr hS) (fun q => kf q ok H locs la hl hr hS)
theorem go_if_le {x : Int32} {off : Int} (t : Nat) (hd : decode M.2.1 pc = .ok (.ifCond .le off, 3)) (ht : (pc : Int) + off = (t : Int)) (kt : x ≤ 0 → Go p l e R s m args below meth c G M sh cells slots Z t ls st h) (kf : ¬ x ≤ 0 → Go p l e R s m args below meth c G M sh cells slots Z (pc + 3) ls st h) : Go p l e R s m args below meth c G M sh cells slots Z pc ls (.int x :: st) h := by
  intro ok H locs la hl hr hS
  exact lv_if_le ok.1 ok.2.1 hd ht (fun q => kt q ok H locs la hl hr hS) (fun q => kf q ok H locs la hl hr hS)
theorem go_icmp_eq {x y : Int32} {off : Int} (t : Nat) (hd : decode M.2.1 pc = .ok (.if_icmp .eq off, 3)) (ht : (pc : Int) + off = (t : Int)) (kt : x = y → Go p l e R s m args below meth c G M sh cells slots Z t ls st h) (kf : ¬ x = y → Go p l e R s m args below meth c G M sh cells slots Z (pc + 3) ls st h) : Go p l e R s m args below meth c G M sh cells slots Z pc ls (.int y :: .int x :: st) h := by
  intro ok H locs la hl hr hS
  exact lv_icmp_eq ok.1 ok.2.1 hd ht (fun q => kt q ok H locs la hl hr hS) (fun q => kf q ok H locs la hl hr hS)
theorem go_icmp_ne {x y : Int32} {off : Int} (t : Nat) (hd : decode M.2.1 pc = .ok (.if_icmp .ne off, 3)) (ht : (pc : Int) + off = (t : Int)) (kt : ¬ x = y → Go p l e R s m args below meth c G M sh cells slots Z t ls st h) (kf : x = y → Go p l e R s m args below meth c G M sh cells slots Z (pc + 3) ls st h) : Go p l e R s m args below meth c G M sh cells slots Z pc ls (.int y :: .int x :: st) h := by
  intro ok H locs la hl hr hS
  exact lv_icmp_ne ok.1 ok.2.1 hd ht (fun q => kt q ok H locs la hl hr hS) (fun q => kf q ok H locs la hl hr hS)
theorem go_icmp_lt {x y : Int32} {off : Int} (t : Nat) (hd : decode M.2.1 pc = .ok (.if_icmp .lt off, 3)) (ht : (pc : Int) + off = (t : Int)) (kt : x < y → Go p l e R s m args below meth c G M sh cells slots Z t ls st h) (kf : ¬ x < y → Go p l e R s m args below meth c G M sh cells slots Z (pc + 3) ls st h) : Go p l e R s m args below meth c G M sh cells slots Z pc ls (.int y :: .int x :: st) h := by
  intro ok H locs la hl hr hS
  exact lv_icmp_lt ok.1 ok.2.1 hd ht (fun q => kt q ok H locs la hl hr hS) (fun q => kf q ok H locs la hl hr hS)
theorem go_icmp_ge {x y : Int32} {off : Int} (t : Nat) (hd : decode M.2.1 pc = .ok (.if_icmp .ge off, 3)) (ht : (pc : Int) + off = (t : Int)) (kt : y ≤ x → Go p l e R s m args below meth c G M sh cells slots Z t ls st h) (kf : ¬ y ≤ x → Go p l e R s m args below meth c G M sh cells slots Z (pc + 3) ls st h) : Go p l e R s m args below meth c G M sh cells slots Z pc ls (.int y :: .int x :: st) h := by
  intro ok H locs la hl hr hS
  exact lv_icmp_ge ok.1 ok.2.1 hd ht (fun q => kt q ok H locs la hl hr hS) (fun q => kf q ok H locs la hl hr hS)
theorem go_icmp_gt {x y : Int32} {off : Int} (t : Nat) (hd : decode M.2.1 pc = .ok (.if_icmp .gt off, 3)) (ht : (pc : Int) + off = (t : Int)) (kt : y < x → Go p l e R s m args below meth c G M sh cells slots Z t ls st h) (kf : ¬ y < x → Go p l e R s m args below meth c G M sh cells slots Z (pc + 3) ls st h) : Go p l e R s m args below meth c G M sh cells slots Z pc ls (.int y :: .int x :: st) h := by
  intro ok H locs la hl hr hS
  exact lv_icmp_gt ok.1 ok.2.1 hd ht (fun q => kt q ok H locs la hl hr hS) (fun q => kf q ok H locs la hl hr hS)
theorem go_icmp_le {x y : Int32} {off : Int} (t : Nat) (hd : decode M.2.1 pc = .ok (.if_icmp .le off, 3)) (ht : (pc : Int) + off = (t : Int)) (kt : x ≤ y → Go p l e R s m args below meth c G M sh cells slots Z t ls st h) (kf : ¬ x ≤ y → Go p l e R s m args below meth c G M sh cells slots Z (pc + 3) ls st h) : Go p l e R s m args below meth c G M sh cells slots Z pc ls (.int y :: .int x :: st) h := by
  intro ok H locs la hl hr hS
  exact lv_icmp_le ok.1 ok.2.1 hd ht (fun q => kt q ok H locs la hl hr hS) (fun q => kf q ok H locs la hl hr hS)
theorem go_tableOut {dflt lo hi : Int} {offs : Array Int} {len : Nat} {x : Int32} (t : Nat) (hd : decode M.2.1 pc = .ok (.tableswitch dflt lo hi offs, len)) (hx : x.toInt < lo ∨ hi < x.toInt) (ht : (pc : Int) + dflt = (t : Int)) (k : Go p l e R s m args below meth c G M sh cells slots Z t ls st h) : Go p l e R s m args below meth c G M sh cells slots Z pc ls (.int x :: st) h := by
  intro ok H locs la hl hr hS
  exact lv_tableOut ok.1 ok.2.1 hd hx ht (k ok H locs la hl hr hS)
theorem go_tableIn {dflt lo hi off : Int} {offs : Array Int} {len : Nat} {x : Int32} (t : Nat) (hd : decode M.2.1 pc = .ok (.tableswitch dflt lo hi offs, len)) (h1 : ¬ x.toInt < lo) (h2 : ¬ hi < x.toInt) (ho : offs[(x.toInt - lo).toNat]? = some off) (ht : (pc : Int) + off = (t : Int)) (k : Go p l e R s m args below meth c G M sh cells slots Z t ls st h) : Go p l e R s m args below meth c G M sh cells slots Z pc ls (.int x :: st) h := by
  intro ok H locs la hl hr hS
  exact lv_tableIn ok.1 ok.2.1 hd h1 h2 ho ht (k ok H locs la hl hr hS)
theorem go_lookup {dflt off : Int} {ps : Array (Int × Int)} {len : Nat} {x : Int32} (t : Nat) (hd : decode M.2.1 pc = .ok (.lookupswitch dflt ps, len)) (hp : (ps.toList.zip (ps.toList.drop 1)).all (fun (a, next) => a.1 < next.1) = true) (ho : Op.lookupswitch.offset ps.toList dflt x.toInt = off) (ht : (pc : Int) + off = (t : Int)) (k : Go p l e R s m args below meth c G M sh cells slots Z t ls st h) : Go p l e R s m args below meth c G M sh cells slots Z pc ls (.int x :: st) h := by
  intro ok H locs la hl hr hS
  exact lv_lookup ok.1 ok.2.1 hd hp ho ht (k ok H locs la hl hr hS)
theorem go_ifnull {x : Nat} {off : Int} (hd : decode M.2.1 pc = .ok (.ifnull off, 3)) (k : Go p l e R s m args below meth c G M sh cells slots Z (pc + 3) ls st h) : Go p l e R s m args below meth c G M sh cells slots Z pc ls (.ref x :: st) h := by
  intro ok H locs la hl hr hS
  exact lv_ifnull ok.1 ok.2.1 hd (k ok H locs la hl hr hS)
theorem go_ifnonnull {x : Nat} {off : Int} (t : Nat) (hd : decode M.2.1 pc = .ok (.ifnonnull off, 3)) (ht : (pc : Int) + off = (t : Int)) (k : Go p l e R s m args below meth c G M sh cells slots Z t ls st h) : Go p l e R s m args below meth c G M sh cells slots Z pc ls (.ref x :: st) h := by
  intro ok H locs la hl hr hS
  exact lv_ifnonnull ok.1 ok.2.1 hd ht (k ok H locs la hl hr hS)
theorem go_ifnullN {off : Int} (t : Nat) (hd : decode M.2.1 pc = .ok (.ifnull off, 3)) (ht : (pc : Int) + off = (t : Int)) (k : Go p l e R s m args below meth c G M sh cells slots Z t ls st h) : Go p l e R s m args below meth c G M sh cells slots Z pc ls (.null :: st) h := by
  intro ok H locs la hl hr hS
  exact lv_ifnullN ok.1 ok.2.1 hd ht (k ok H locs la hl hr hS)
theorem go_ifnonnullN {off : Int} (hd : decode M.2.1 pc = .ok (.ifnonnull off, 3)) (k : Go p l e R s m args below meth c G M sh cells slots Z (pc + 3) ls st h) : Go p l e R s m args below meth c G M sh cells slots Z pc ls (.null :: st) h := by
  intro ok H locs la hl hr hS
  exact lv_ifnonnullN ok.1 ok.2.1 hd (k ok H locs la hl hr hS)
theorem go_iret {Q : Option Value → gH → Prop} {she : gS} {mc ms : Nat} {v : Int32} (hd : decode M.2.1 pc = .ok (.ireturn, 1)) (hM : M.2.2.2 = some .int) (hq : Q (some (.int v)) h) (he : sh = she) (h1 : cells ≤ mc) (h2 : slots ≤ ms) : Go p l e R s m args below meth c G M sh cells slots (gZ below args s G she mc ms Q) pc ls ([.int v]) h := by
  subst he
  intro ok H locs la hl hr hS
  refine W.widen h1 h2 ?_
  exact W.iret (v := v) ok.1 ok.2.1 (ok.2.2.2.1.trans hM) (fun t ht _ => ⟨⟨_, h, rfl, hq, by rw [ht]; exact hr⟩, hS.F ht⟩) hS.2.2 hd ok.2.2.2.2.2.2.1
theorem go_zret {Q : Option Value → gH → Prop} {she : gS} {mc ms : Nat} {v : Int32} (hd : decode M.2.1 pc = .ok (.ireturn, 1)) (hM : M.2.2.2 = some .boolean) (hv : v = 0 ∨ v = 1) (hq : Q (some (.int v)) h) (he : sh = she) (h1 : cells ≤ mc) (h2 : slots ≤ ms) : Go p l e R s m args below meth c G M sh cells slots (gZ below args s G she mc ms Q) pc ls ([.int v]) h := by
  subst he
  intro ok H locs la hl hr hS
  refine W.widen h1 h2 ?_
  exact W.zret (v := v) (ty := .boolean) ok.1 ok.2.1 (ok.2.2.2.1.trans hM) (by rcases hv with rfl | rfl <;> rfl) (fun t ht _ => ⟨⟨_, h, rfl, hq, by rw [ht]; exact hr⟩, hS.F ht⟩) hS.2.2 hd ok.2.2.2.2.2.2.1
theorem go_lret {Q : Option Value → gH → Prop} {she : gS} {mc ms : Nat} {v : Int64} (hd : decode M.2.1 pc = .ok (.lreturn, 1)) (hM : M.2.2.2 = some .long) (hq : Q (some (.long v)) h) (he : sh = she) (h1 : cells ≤ mc) (h2 : slots ≤ ms) : Go p l e R s m args below meth c G M sh cells slots (gZ below args s G she mc ms Q) pc ls ([.long v]) h := by
  subst he
  intro ok H locs la hl hr hS
  refine W.widen h1 h2 ?_
  exact W.lret (v := v) ok.1 ok.2.1 (ok.2.2.2.1.trans hM) (fun t ht _ => ⟨⟨_, h, rfl, hq, by rw [ht]; exact hr⟩, hS.F ht⟩) hS.2.2 hd ok.2.2.2.2.2.2.1
theorem go_vret {Q : Option Value → gH → Prop} {she : gS} {mc ms : Nat} (hd : decode M.2.1 pc = .ok (.return_, 1)) (hM : M.2.2.2 = none) (hq : Q none h) (he : sh = she) (h1 : cells ≤ mc) (h2 : slots ≤ ms) : Go p l e R s m args below meth c G M sh cells slots (gZ below args s G she mc ms Q) pc ls [] h := by
  subst he
  intro ok H locs la hl hr hS
  refine W.widen h1 h2 ?_
  exact W.vret ok.1 ok.2.1 (ok.2.2.2.1.trans hM) (fun t ht _ => ⟨⟨_, h, rfl, hq, by rw [ht]; exact hr⟩, hS.F ht⟩) hS.2.2 hd ok.2.2.2.2.2.2.1
end GOP
