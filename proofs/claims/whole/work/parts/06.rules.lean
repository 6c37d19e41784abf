section GGR
variable {M : gg_M} {pc : Nat} {ls : List (Option Value)} {st : List Value} {w w' : va_W} {r : Option Value}
theorem gg_iconst {n : Int} (v : Int32) (hd : decode M.2.1 pc = .ok (.iconst n, 1)) (hv : Int32.ofInt n = v) (kk : gg_G M (pc + 1) ls (.int v :: st) w r w') : gg_G M pc ls (st) w r w' := by
  intro l p e s m args below meth c D k A i X H locs arr hP hD hS hl
  exact lv_iconst X.1 X.2.1 hd hv (kk l p e s m args below meth c D k A i X H locs arr hP hD hS hl)
theorem gg_bipush {n : Int} (v : Int32) (hd : decode M.2.1 pc = .ok (.bipush n, 2)) (hv : (Int8.ofInt n).toInt32 = v) (kk : gg_G M (pc + 2) ls (.int v :: st) w r w') : gg_G M pc ls (st) w r w' := by
  intro l p e s m args below meth c D k A i X H locs arr hP hD hS hl
  exact lv_bipush X.1 X.2.1 hd hv (kk l p e s m args below meth c D k A i X H locs arr hP hD hS hl)
theorem gg_sipush {n : Int} (v : Int32) (hd : decode M.2.1 pc = .ok (.sipush n, 3)) (hv : (Int16.ofInt n).toInt32 = v) (kk : gg_G M (pc + 3) ls (.int v :: st) w r w') : gg_G M pc ls (st) w r w' := by
  intro l p e s m args below meth c D k A i X H locs arr hP hD hS hl
  exact lv_sipush X.1 X.2.1 hd hv (kk l p e s m args below meth c D k A i X H locs arr hP hD hS hl)
theorem gg_lconst {n : Fin 2} (v : Int64) (hd : decode M.2.1 pc = .ok (.lconst n, 1)) (hv : Int64.ofNat (n : Nat) = v) (kk : gg_G M (pc + 1) ls (.long v :: st) w r w') : gg_G M pc ls (st) w r w' := by
  intro l p e s m args below meth c D k A i X H locs arr hP hD hS hl
  exact lv_lconst X.1 X.2.1 hd hv (kk l p e s m args below meth c D k A i X H locs arr hP hD hS hl)
theorem gg_ldc {n : Nat} (v : Int32) (hd : decode M.2.1 pc = .ok (.ldc n, 2)) (hm : Cond.constant M.1.cls n v ∈ gg_tbl) (kk : gg_G M (pc + 2) ls (.int v :: st) w r w') : gg_G M pc ls st w r w' := by
  intro l p e s m args below meth c D k A i X H locs arr hP hD hS hl
  exact lv_ldc X.1 X.2.1 X.2.2.2.2.1 (X.2.2.2.2.2.1 _ hm) hd (kk l p e s m args below meth c D k A i X H locs arr hP hD hS hl)
theorem gg_ldcw {n : Nat} (v : Int32) (hd : decode M.2.1 pc = .ok (.ldc_w n, 3)) (hm : Cond.constant M.1.cls n v ∈ gg_tbl) (kk : gg_G M (pc + 3) ls (.int v :: st) w r w') : gg_G M pc ls st w r w' := by
  intro l p e s m args below meth c D k A i X H locs arr hP hD hS hl
  exact lv_ldcw X.1 X.2.1 X.2.2.2.2.1 (X.2.2.2.2.2.1 _ hm) hd (kk l p e s m args below meth c D k A i X H locs arr hP hD hS hl)
theorem gg_ldc2 {n : Nat} (v : Int64) (hd : decode M.2.1 pc = .ok (.ldc2_w n, 3)) (hm : Cond.constantLong M.1.cls n v ∈ gg_tbl) (kk : gg_G M (pc + 3) ls (.long v :: st) w r w') : gg_G M pc ls st w r w' := by
  intro l p e s m args below meth c D k A i X H locs arr hP hD hS hl
  exact lv_ldc2 X.1 X.2.1 X.2.2.2.2.1 (X.2.2.2.2.2.1 _ hm) hd (kk l p e s m args below meth c D k A i X H locs arr hP hD hS hl)
theorem gg_iload {j : Nat} {x : Int32} (hd : decode M.2.1 pc = .ok (.iload j, 2)) (hv : ls[j]? = some (some (.int x))) (kk : gg_G M (pc + 2) ls (.int x :: st) w r w') : gg_G M pc ls st w r w' := by
  intro l p e s m args below meth c D k A i X H locs arr hP hD hS hl
  exact lv_iload X.1 X.2.1 hd (hl.2.2 _ _ hv) (kk l p e s m args below meth c D k A i X H locs arr hP hD hS hl)
theorem gg_iload_n {b : Fin 4} {x : Int32} (hd : decode M.2.1 pc = .ok (.iload_n b, 1)) (hv : ls[(b : Nat)]? = some (some (.int x))) (kk : gg_G M (pc + 1) ls (.int x :: st) w r w') : gg_G M pc ls st w r w' := by
  intro l p e s m args below meth c D k A i X H locs arr hP hD hS hl
  exact lv_iload_n X.1 X.2.1 hd rfl (hl.2.2 _ _ hv) (kk l p e s m args below meth c D k A i X H locs arr hP hD hS hl)
theorem gg_lload {j : Nat} {x : Int64} (hd : decode M.2.1 pc = .ok (.lload j, 2)) (hv : ls[j]? = some (some (.long x))) (kk : gg_G M (pc + 2) ls (.long x :: st) w r w') : gg_G M pc ls st w r w' := by
  intro l p e s m args below meth c D k A i X H locs arr hP hD hS hl
  exact lv_lload X.1 X.2.1 hd (hl.2.2 _ _ hv) (kk l p e s m args below meth c D k A i X H locs arr hP hD hS hl)
theorem gg_lload_n {b : Fin 4} {x : Int64} (hd : decode M.2.1 pc = .ok (.lload_n b, 1)) (hv : ls[(b : Nat)]? = some (some (.long x))) (kk : gg_G M (pc + 1) ls (.long x :: st) w r w') : gg_G M pc ls st w r w' := by
  intro l p e s m args below meth c D k A i X H locs arr hP hD hS hl
  exact lv_lload_n X.1 X.2.1 hd rfl (hl.2.2 _ _ hv) (kk l p e s m args below meth c D k A i X H locs arr hP hD hS hl)
theorem gg_aload {j : Nat} {x : Nat} (hd : decode M.2.1 pc = .ok (.aload j, 2)) (hv : ls[j]? = some (some (.ref x))) (kk : gg_G M (pc + 2) ls (.ref x :: st) w r w') : gg_G M pc ls st w r w' := by
  intro l p e s m args below meth c D k A i X H locs arr hP hD hS hl
  exact lv_aload X.1 X.2.1 hd (hl.2.2 _ _ hv) (kk l p e s m args below meth c D k A i X H locs arr hP hD hS hl)
theorem gg_aload_n {b : Fin 4} {x : Nat} (hd : decode M.2.1 pc = .ok (.aload_n b, 1)) (hv : ls[(b : Nat)]? = some (some (.ref x))) (kk : gg_G M (pc + 1) ls (.ref x :: st) w r w') : gg_G M pc ls st w r w' := by
  intro l p e s m args below meth c D k A i X H locs arr hP hD hS hl
  exact lv_aload_n X.1 X.2.1 hd rfl (hl.2.2 _ _ hv) (kk l p e s m args below meth c D k A i X H locs arr hP hD hS hl)
theorem gg_iadd {x y : Int32} (hd : decode M.2.1 pc = .ok (.iadd, 1))  (kk : gg_G M (pc + 1) ls (.int (x + y) :: st) w r w') : gg_G M pc ls (.int y :: .int x :: st) w r w' := by
  intro l p e s m args below meth c D k A i X H locs arr hP hD hS hl
  exact lv_iadd X.1 X.2.1 hd  (kk l p e s m args below meth c D k A i X H locs arr hP hD hS hl)
theorem gg_isub {x y : Int32} (hd : decode M.2.1 pc = .ok (.isub, 1))  (kk : gg_G M (pc + 1) ls (.int (x - y) :: st) w r w') : gg_G M pc ls (.int y :: .int x :: st) w r w' := by
  intro l p e s m args below meth c D k A i X H locs arr hP hD hS hl
  exact lv_isub X.1 X.2.1 hd  (kk l p e s m args below meth c D k A i X H locs arr hP hD hS hl)
theorem gg_imul {x y : Int32} (hd : decode M.2.1 pc = .ok (.imul, 1))  (kk : gg_G M (pc + 1) ls (.int (x * y) :: st) w r w') : gg_G M pc ls (.int y :: .int x :: st) w r w' := by
  intro l p e s m args below meth c D k A i X H locs arr hP hD hS hl
  exact lv_imul X.1 X.2.1 hd  (kk l p e s m args below meth c D k A i X H locs arr hP hD hS hl)
theorem gg_iand {x y : Int32} (hd : decode M.2.1 pc = .ok (.iand, 1))  (kk : gg_G M (pc + 1) ls (.int (x &&& y) :: st) w r w') : gg_G M pc ls (.int y :: .int x :: st) w r w' := by
  intro l p e s m args below meth c D k A i X H locs arr hP hD hS hl
  exact lv_iand X.1 X.2.1 hd  (kk l p e s m args below meth c D k A i X H locs arr hP hD hS hl)
theorem gg_ior {x y : Int32} (hd : decode M.2.1 pc = .ok (.ior, 1))  (kk : gg_G M (pc + 1) ls (.int (x ||| y) :: st) w r w') : gg_G M pc ls (.int y :: .int x :: st) w r w' := by
  intro l p e s m args below meth c D k A i X H locs arr hP hD hS hl
  exact lv_ior X.1 X.2.1 hd  (kk l p e s m args below meth c D k A i X H locs arr hP hD hS hl)
theorem gg_ixor {x y : Int32} (hd : decode M.2.1 pc = .ok (.ixor, 1))  (kk : gg_G M (pc + 1) ls (.int (x ^^^ y) :: st) w r w') : gg_G M pc ls (.int y :: .int x :: st) w r w' := by
  intro l p e s m args below meth c D k A i X H locs arr hP hD hS hl
  exact lv_ixor X.1 X.2.1 hd  (kk l p e s m args below meth c D k A i X H locs arr hP hD hS hl)
theorem gg_ishl {x y : Int32} (hd : decode M.2.1 pc = .ok (.ishl, 1))  (kk : gg_G M (pc + 1) ls (.int (x <<< (y &&& 31)) :: st) w r w') : gg_G M pc ls (.int y :: .int x :: st) w r w' := by
  intro l p e s m args below meth c D k A i X H locs arr hP hD hS hl
  exact lv_ishl X.1 X.2.1 hd  (kk l p e s m args below meth c D k A i X H locs arr hP hD hS hl)
theorem gg_ishr {x y : Int32} (hd : decode M.2.1 pc = .ok (.ishr, 1))  (kk : gg_G M (pc + 1) ls (.int (x >>> (y &&& 31)) :: st) w r w') : gg_G M pc ls (.int y :: .int x :: st) w r w' := by
  intro l p e s m args below meth c D k A i X H locs arr hP hD hS hl
  exact lv_ishr X.1 X.2.1 hd  (kk l p e s m args below meth c D k A i X H locs arr hP hD hS hl)
theorem gg_iushr {x y : Int32} (hd : decode M.2.1 pc = .ok (.iushr, 1))  (kk : gg_G M (pc + 1) ls (.int ((x.toUInt32 >>> (y.toUInt32 &&& Int32.toUInt32 31)).toInt32) :: st) w r w') : gg_G M pc ls (.int y :: .int x :: st) w r w' := by
  intro l p e s m args below meth c D k A i X H locs arr hP hD hS hl
  exact lv_iushr X.1 X.2.1 hd rfl (kk l p e s m args below meth c D k A i X H locs arr hP hD hS hl)
theorem gg_ladd {x y : Int64} (hd : decode M.2.1 pc = .ok (.ladd, 1))  (kk : gg_G M (pc + 1) ls (.long (x + y) :: st) w r w') : gg_G M pc ls (.long y :: .long x :: st) w r w' := by
  intro l p e s m args below meth c D k A i X H locs arr hP hD hS hl
  exact lv_ladd X.1 X.2.1 hd  (kk l p e s m args below meth c D k A i X H locs arr hP hD hS hl)
theorem gg_lsub {x y : Int64} (hd : decode M.2.1 pc = .ok (.lsub, 1))  (kk : gg_G M (pc + 1) ls (.long (x - y) :: st) w r w') : gg_G M pc ls (.long y :: .long x :: st) w r w' := by
  intro l p e s m args below meth c D k A i X H locs arr hP hD hS hl
  exact lv_lsub X.1 X.2.1 hd  (kk l p e s m args below meth c D k A i X H locs arr hP hD hS hl)
theorem gg_lmul {x y : Int64} (hd : decode M.2.1 pc = .ok (.lmul, 1))  (kk : gg_G M (pc + 1) ls (.long (x * y) :: st) w r w') : gg_G M pc ls (.long y :: .long x :: st) w r w' := by
  intro l p e s m args below meth c D k A i X H locs arr hP hD hS hl
  exact lv_lmul X.1 X.2.1 hd  (kk l p e s m args below meth c D k A i X H locs arr hP hD hS hl)
theorem gg_idiv {x y : Int32} (hd : decode M.2.1 pc = .ok (.idiv, 1)) (hne : ¬ y = 0) (kk : gg_G M (pc + 1) ls (.int (x / y) :: st) w r w') : gg_G M pc ls (.int y :: .int x :: st) w r w' := by
  intro l p e s m args below meth c D k A i X H locs arr hP hD hS hl
  exact lv_idiv X.1 X.2.1 hd hne (kk l p e s m args below meth c D k A i X H locs arr hP hD hS hl)
theorem gg_irem {x y : Int32} (hd : decode M.2.1 pc = .ok (.irem, 1)) (hne : ¬ y = 0) (kk : gg_G M (pc + 1) ls (.int (x - x / y * y) :: st) w r w') : gg_G M pc ls (.int y :: .int x :: st) w r w' := by
  intro l p e s m args below meth c D k A i X H locs arr hP hD hS hl
  exact lv_irem X.1 X.2.1 hd hne (kk l p e s m args below meth c D k A i X H locs arr hP hD hS hl)
theorem gg_ldiv {x y : Int64} (hd : decode M.2.1 pc = .ok (.ldiv, 1)) (hne : ¬ y = 0) (kk : gg_G M (pc + 1) ls (.long (x / y) :: st) w r w') : gg_G M pc ls (.long y :: .long x :: st) w r w' := by
  intro l p e s m args below meth c D k A i X H locs arr hP hD hS hl
  exact lv_ldiv X.1 X.2.1 hd hne (kk l p e s m args below meth c D k A i X H locs arr hP hD hS hl)
theorem gg_lrem {x y : Int64} (hd : decode M.2.1 pc = .ok (.lrem, 1)) (hne : ¬ y = 0) (kk : gg_G M (pc + 1) ls (.long (x - x / y * y) :: st) w r w') : gg_G M pc ls (.long y :: .long x :: st) w r w' := by
  intro l p e s m args below meth c D k A i X H locs arr hP hD hS hl
  exact lv_lrem X.1 X.2.1 hd hne (kk l p e s m args below meth c D k A i X H locs arr hP hD hS hl)
theorem gg_ineg {x : Int32} (hd : decode M.2.1 pc = .ok (.ineg, 1))  (kk : gg_G M (pc + 1) ls (.int (-x) :: st) w r w') : gg_G M pc ls (.int x :: st) w r w' := by
  intro l p e s m args below meth c D k A i X H locs arr hP hD hS hl
  exact lv_ineg X.1 X.2.1 hd  (kk l p e s m args below meth c D k A i X H locs arr hP hD hS hl)
theorem gg_i2l {x : Int32} (hd : decode M.2.1 pc = .ok (.i2l, 1))  (kk : gg_G M (pc + 1) ls (.long x.toInt64 :: st) w r w') : gg_G M pc ls (.int x :: st) w r w' := by
  intro l p e s m args below meth c D k A i X H locs arr hP hD hS hl
  exact lv_i2l X.1 X.2.1 hd rfl (kk l p e s m args below meth c D k A i X H locs arr hP hD hS hl)
theorem gg_l2i {x : Int64} (hd : decode M.2.1 pc = .ok (.l2i, 1))  (kk : gg_G M (pc + 1) ls (.int x.toInt32 :: st) w r w') : gg_G M pc ls (.long x :: st) w r w' := by
  intro l p e s m args below meth c D k A i X H locs arr hP hD hS hl
  exact lv_l2i X.1 X.2.1 hd rfl (kk l p e s m args below meth c D k A i X H locs arr hP hD hS hl)
theorem gg_i2b {x : Int32} (hd : decode M.2.1 pc = .ok (.i2b, 1))  (kk : gg_G M (pc + 1) ls (.int x.toInt8.toInt32 :: st) w r w') : gg_G M pc ls (.int x :: st) w r w' := by
  intro l p e s m args below meth c D k A i X H locs arr hP hD hS hl
  exact lv_i2b X.1 X.2.1 hd rfl (kk l p e s m args below meth c D k A i X H locs arr hP hD hS hl)
theorem gg_lcmp {x y : Int64} (hd : decode M.2.1 pc = .ok (.lcmp, 1))  (kk : gg_G M (pc + 1) ls (.int (lg_cmp x y) :: st) w r w') : gg_G M pc ls (.long y :: .long x :: st) w r w' := by
  intro l p e s m args below meth c D k A i X H locs arr hP hD hS hl
  exact W.lcmp X.1 X.2.1 hd  (kk l p e s m args below meth c D k A i X H locs arr hP hD hS hl)
theorem gg_dup {a : Value} (hd : decode M.2.1 pc = .ok (.dup, 1)) (ha : a.category = 1) (kk : gg_G M (pc + 1) ls (a :: a :: st) w r w') : gg_G M pc ls (a :: st) w r w' := by
  intro l p e s m args below meth c D k A i X H locs arr hP hD hS hl
  exact lv_dup X.1 X.2.1 hd (by rw [gg_cat]; exact ha) (kk l p e s m args below meth c D k A i X H locs arr hP hD hS hl)
theorem gg_pop {a : Value} (hd : decode M.2.1 pc = .ok (.pop, 1)) (ha : a.category = 1) (kk : gg_G M (pc + 1) ls st w r w') : gg_G M pc ls (a :: st) w r w' := by
  intro l p e s m args below meth c D k A i X H locs arr hP hD hS hl
  exact lv_pop X.1 X.2.1 hd (by rw [gg_cat]; exact ha) (kk l p e s m args below meth c D k A i X H locs arr hP hD hS hl)
theorem gg_dup2 {a b : Value} (hd : decode M.2.1 pc = .ok (.dup2, 1)) (ha : a.category = 1) (hb : b.category = 1) (kk : gg_G M (pc + 1) ls (a :: b :: a :: b :: st) w r w') : gg_G M pc ls (a :: b :: st) w r w' := by
  intro l p e s m args below meth c D k A i X H locs arr hP hD hS hl
  exact lv_dup2_11 X.1 X.2.1 hd (by rw [gg_cat]; exact ha) (by rw [gg_cat]; exact hb) (kk l p e s m args below meth c D k A i X H locs arr hP hD hS hl)
theorem gg_goto {off : Int} (tgt : Nat) (hd : decode M.2.1 pc = .ok (.goto off, 3)) (ht : (pc : Int) + off = (tgt : Int)) (kk : gg_G M tgt ls st w r w') : gg_G M pc ls st w r w' := by
  intro l p e s m args below meth c D k A i X H locs arr hP hD hS hl
  exact lv_goto X.1 X.2.1 hd ht (kk l p e s m args below meth c D k A i X H locs arr hP hD hS hl)
theorem gg_if_eq {x : Int32} {off : Int} (tgt : Nat) (hd : decode M.2.1 pc = .ok (.ifCond .eq off, 3)) (ht : (pc : Int) + off = (tgt : Int)) (kt : x = 0 → gg_G M tgt ls st w r w') (kf : ¬ x = 0 → gg_G M (pc + 3) ls st w r w') : gg_G M pc ls (.int x :: st) w r w' := by
  intro l p e s m args below meth c D k A i X H locs arr hP hD hS hl
  exact lv_if_eq X.1 X.2.1 hd ht (fun q => kt q l p e s m args below meth c D k A i X H locs arr hP hD hS hl) (fun q => kf q l p e s m args below meth c D k A i X H locs arr hP hD hS hl)
theorem gg_if_ne {x : Int32} {off : Int} (tgt : Nat) (hd : decode M.2.1 pc = .ok (.ifCond .ne off, 3)) (ht : (pc : Int) + off = (tgt : Int)) (kt : ¬ x = 0 → gg_G M tgt ls st w r w') (kf : x = 0 → gg_G M (pc + 3) ls st w r w') : gg_G M pc ls (.int x :: st) w r w' := by
  intro l p e s m args below meth c D k A i X H locs arr hP hD hS hl
  exact lv_if_ne X.1 X.2.1 hd ht (fun q => kt q l p e s m args below meth c D k A i X H locs arr hP hD hS hl) (fun q => kf q l p e s m args below meth c D k A i X H locs arr hP hD hS hl)
theorem gg_if_lt {x : Int32} {off : Int} (tgt : Nat) (hd : decode M.2.1 pc = .ok (.ifCond .lt off, 3)) (ht : (pc : Int) + off = (tgt : Int)) (kt : x < 0 → gg_G M tgt ls st w r w') (kf : ¬ x < 0 → gg_G M (pc + 3) ls st w r w') : gg_G M pc ls (.int x :: st) w r w' := by
  intro l p e s m args below meth c D k A i X H locs arr hP hD hS hl
  exact lv_if_lt X.1 X.2.1 hd ht (fun q => kt q l p e s m args below meth c D k A i X H locs arr hP hD hS hl) (fun q => kf q l p e s m args below meth c D k A i X H locs arr hP hD hS hl)
theorem gg_if_ge {x : Int32} {off : Int} (tgt : Nat) (hd : decode M.2.1 pc = .ok (.ifCond .ge off, 3)) (ht : (pc : Int) + off = (tgt : Int)) (kt : 0 ≤ x → gg_G M tgt ls st w r w') (kf : ¬ 0 ≤ x → gg_G M (pc + 3) ls st w r w') : gg_G M pc ls (.int x :: st) w r w' := by
  intro l p e s m args below meth c D k A i X H locs arr hP hD hS hl
  exact lv_if_ge X.1 X.2.1 hd ht (fun q => kt q l p e s m args below meth c D k A i X H locs arr hP hD hS hl) (fun q => kf q l p e s m args below meth c D k A i X H locs arr hP hD hS hl)
theorem gg_if_gt {x : Int32} {off : Int} (tgt : Nat) (hd : decode M.2.1 pc = .ok (.ifCond .gt off, 3)) (ht : (pc : Int) + off = (tgt : Int)) (kt : 0 < x → gg_G M tgt ls st w r w') (kf : ¬ 0 < x → gg_G M (pc + 3) ls st w r w') : gg_G M pc ls (.int x :: st) w r w' := by
  intro l p e s m args below meth c D k A i X H locs arr hP hD hS hl
  exact lv_if_gt X.1 X.2.1 hd ht (fun q => kt q l p e s m args below meth c D k A i X H locs arr hP hD hS hl) (fun q => kf q l p e s m args below meth c D k A i X H locs arr hP hD hS hl)
theorem gg_if_le {x : Int32} {off : Int} (tgt : Nat) (hd : decode M.2.1 pc = .ok (.ifCond .le off, 3)) (ht : (pc : Int) + off = (tgt : Int)) (kt : x ≤ 0 → gg_G M tgt ls st w r w') (kf : ¬ x ≤ 0 → gg_G M (pc + 3) ls st w r w') : gg_G M pc ls (.int x :: st) w r w' := by
  intro l p e s m args below meth c D k A i X H locs arr hP hD hS hl
  exact lv_if_le X.1 X.2.1 hd ht (fun q => kt q l p e s m args below meth c D k A i X H locs arr hP hD hS hl) (fun q => kf q l p e s m args below meth c D k A i X H locs arr hP hD hS hl)
theorem gg_icmp_eq {x y : Int32} {off : Int} (tgt : Nat) (hd : decode M.2.1 pc = .ok (.if_icmp .eq off, 3)) (ht : (pc : Int) + off = (tgt : Int)) (kt : x = y → gg_G M tgt ls st w r w') (kf : ¬ x = y → gg_G M (pc + 3) ls st w r w') : gg_G M pc ls (.int y :: .int x :: st) w r w' := by
  intro l p e s m args below meth c D k A i X H locs arr hP hD hS hl
  exact lv_icmp_eq X.1 X.2.1 hd ht (fun q => kt q l p e s m args below meth c D k A i X H locs arr hP hD hS hl) (fun q => kf q l p e s m args below meth c D k A i X H locs arr hP hD hS hl)
theorem gg_icmp_ne {x y : Int32} {off : Int} (tgt : Nat) (hd : decode M.2.1 pc = .ok (.if_icmp .ne off, 3)) (ht : (pc : Int) + off = (tgt : Int)) (kt : ¬ x = y → gg_G M tgt ls st w r w') (kf : x = y → gg_G M (pc + 3) ls st w r w') : gg_G M pc ls (.int y :: .int x :: st) w r w' := by
  intro l p e s m args below meth c D k A i X H locs arr hP hD hS hl
  exact lv_icmp_ne X.1 X.2.1 hd ht (fun q => kt q l p e s m args below meth c D k A i X H locs arr hP hD hS hl) (fun q => kf q l p e s m args below meth c D k A i X H locs arr hP hD hS hl)
theorem gg_icmp_lt {x y : Int32} {off : Int} (tgt : Nat) (hd : decode M.2.1 pc = .ok (.if_icmp .lt off, 3)) (ht : (pc : Int) + off = (tgt : Int)) (kt : x < y → gg_G M tgt ls st w r w') (kf : ¬ x < y → gg_G M (pc + 3) ls st w r w') : gg_G M pc ls (.int y :: .int x :: st) w r w' := by
  intro l p e s m args below meth c D k A i X H locs arr hP hD hS hl
  exact lv_icmp_lt X.1 X.2.1 hd ht (fun q => kt q l p e s m args below meth c D k A i X H locs arr hP hD hS hl) (fun q => kf q l p e s m args below meth c D k A i X H locs arr hP hD hS hl)
theorem gg_icmp_ge {x y : Int32} {off : Int} (tgt : Nat) (hd : decode M.2.1 pc = .ok (.if_icmp .ge off, 3)) (ht : (pc : Int) + off = (tgt : Int)) (kt : y ≤ x → gg_G M tgt ls st w r w') (kf : ¬ y ≤ x → gg_G M (pc + 3) ls st w r w') : gg_G M pc ls (.int y :: .int x :: st) w r w' := by
  intro l p e s m args below meth c D k A i X H locs arr hP hD hS hl
  exact lv_icmp_ge X.1 X.2.1 hd ht (fun q => kt q l p e s m args below meth c D k A i X H locs arr hP hD hS hl) (fun q => kf q l p e s m args below meth c D k A i X H locs arr hP hD hS hl)
theorem gg_icmp_gt {x y : Int32} {off : Int} (tgt : Nat) (hd : decode M.2.1 pc = .ok (.if_icmp .gt off, 3)) (ht : (pc : Int) + off = (tgt : Int)) (kt : y < x → gg_G M tgt ls st w r w') (kf : ¬ y < x → gg_G M (pc + 3) ls st w r w') : gg_G M pc ls (.int y :: .int x :: st) w r w' := by
  intro l p e s m args below meth c D k A i X H locs arr hP hD hS hl
  exact lv_icmp_gt X.1 X.2.1 hd ht (fun q => kt q l p e s m args below meth c D k A i X H locs arr hP hD hS hl) (fun q => kf q l p e s m args below meth c D k A i X H locs arr hP hD hS hl)
theorem gg_icmp_le {x y : Int32} {off : Int} (tgt : Nat) (hd : decode M.2.1 pc = .ok (.if_icmp .le off, 3)) (ht : (pc : Int) + off = (tgt : Int)) (kt : x ≤ y → gg_G M tgt ls st w r w') (kf : ¬ x ≤ y → gg_G M (pc + 3) ls st w r w') : gg_G M pc ls (.int y :: .int x :: st) w r w' := by
  intro l p e s m args below meth c D k A i X H locs arr hP hD hS hl
  exact lv_icmp_le X.1 X.2.1 hd ht (fun q => kt q l p e s m args below meth c D k A i X H locs arr hP hD hS hl) (fun q => kf q l p e s m args below meth c D k A i X H locs arr hP hD hS hl)
theorem gg_swIn {dflt lo hi : Int} {offs : Array Int} {len : Nat} {x : Int32} {off : Int} (tgt : Nat) (hd : decode M.2.1 pc = .ok (.tableswitch dflt lo hi offs, len)) (h1 : ¬ x.toInt < lo) (h2 : ¬ hi < x.toInt) (ho : offs[(x.toInt - lo).toNat]? = some off) (ht : (pc : Int) + off = (tgt : Int)) (kk : gg_G M tgt ls st w r w') : gg_G M pc ls (.int x :: st) w r w' := by
  intro l p e s m args below meth c D k A i X H locs arr hP hD hS hl
  exact lv_tableIn X.1 X.2.1 hd h1 h2 ho ht (kk l p e s m args below meth c D k A i X H locs arr hP hD hS hl)
theorem gg_swOut {dflt lo hi : Int} {offs : Array Int} {len : Nat} {x : Int32} (tgt : Nat) (hd : decode M.2.1 pc = .ok (.tableswitch dflt lo hi offs, len)) (h : x.toInt < lo ∨ hi < x.toInt) (ht : (pc : Int) + dflt = (tgt : Int)) (kk : gg_G M tgt ls st w r w') : gg_G M pc ls (.int x :: st) w r w' := by
  intro l p e s m args below meth c D k A i X H locs arr hP hD hS hl
  exact lv_tableOut X.1 X.2.1 hd h ht (kk l p e s m args below meth c D k A i X H locs arr hP hD hS hl)
def gg_lp (i : Nat → Nat) (ls : List (Option Value)) : List (Nat × Value) := (List.range ls.length).filterMap (fun j => match ls[j]? with
  | some (some v) => some (j, gg_v i v)
  | _ => none)
theorem gg_lp_mem {i : Nat → Nat} {ls : List (Option Value)} {q : Nat × Value} : q ∈ gg_lp i ls ↔ ∃ v, ls[q.1]? = some (some v) ∧ q.2 = gg_v i v := by
  unfold gg_lp
  rw [List.mem_filterMap]
  constructor
  · rintro ⟨j, -, h⟩
    split at h
    · rename_i v hv
      cases h
      exact ⟨v, hv, rfl⟩
    · cases h
  · rintro ⟨v, hv, he⟩
    refine ⟨q.1, List.mem_range.mpr (List.getElem?_eq_some_iff.mp hv).1, ?_⟩
    rw [hv]
    show some (q.1, gg_v i v) = some q
    rw [← he]
theorem gg_lp_has {i : Nat → Nat} {arr : Array Slot} {nL : Nat} {ls : List (Option Value)} (h : gg_l i arr nL ls) : lv_has arr nL (gg_lp i ls) := by
  refine ⟨h.1, h.2.1, fun q hq => ?_⟩
  obtain ⟨v, hv, he⟩ := gg_lp_mem.mp hq
  rw [he]
  exact h.2.2 _ _ hv
def gg_low (ls : List (Option Value)) (j : Nat) : Bool := match j with
  | 0 => true
  | n + 1 => match ls[n]? with
    | some (some v) => v.category == 1
    | _ => true
theorem gg_low_ok {ls : List (Option Value)} {j a : Nat} {v : Value} (h : gg_low ls j = true) (ha : a + 1 = j) (hv : ls[a]? = some (some v)) : v.category = 1 := by
  subst ha
  unfold gg_low at h
  simp only [hv] at h
  simpa using h
theorem gg_st1 {i : Nat → Nat} {arr : Array Slot} {nL j : Nat} {ls : List (Option Value)} {x : Value} (hlow : gg_low ls j = true) (h : lv_has arr nL ((j, gg_v i x) :: (gg_lp i ls).filter (fun q => !(q.1 == j) && !(q.1 + 1 == j && q.2.category == 2)))) : gg_l i arr nL (ls.set j (some x)) := by
  refine ⟨h.1, h.2.1, fun a v hv => ?_⟩
  by_cases ha : a = j
  · subst ha
    have hl : a < ls.length := by
      have := (List.getElem?_eq_some_iff.mp hv).1
      rwa [List.length_set] at this
    rw [List.getElem?_set_self hl] at hv
    cases hv
    exact h.2.2 (a, gg_v i x) List.mem_cons_self
  · rw [List.getElem?_set_ne (Ne.symm ha)] at hv
    refine h.2.2 (a, gg_v i v) (List.mem_cons_of_mem _ (List.mem_filter.mpr ⟨gg_lp_mem.mpr ⟨v, hv, rfl⟩, ?_⟩))
    by_cases hb : a + 1 = j
    · have hc := gg_low_ok hlow hb hv
      simp [ha, gg_cat, hc]
    · simp [ha, hb]
theorem gg_st2 {i : Nat → Nat} {arr : Array Slot} {nL j : Nat} {ls : List (Option Value)} {x : Value} (hlow : gg_low ls j = true) (h : lv_has arr nL ((j, gg_v i x) :: (gg_lp i ls).filter (fun q => !(q.1 == j) && (!(q.1 == j + 1) && !(q.1 + 1 == j && q.2.category == 2))))) : gg_l i arr nL ((ls.set j (some x)).set (j + 1) none) := by
  refine ⟨h.1, h.2.1, fun a v hv => ?_⟩
  by_cases hb1 : a = j + 1
  · subst hb1
    by_cases hl : j + 1 < (ls.set j (some x)).length
    · rw [List.getElem?_set_self hl] at hv
      cases hv
    · rw [List.getElem?_eq_none (by rw [List.length_set]; omega)] at hv
      cases hv
  · rw [List.getElem?_set_ne (Ne.symm hb1)] at hv
    by_cases ha : a = j
    · subst ha
      have hl : a < ls.length := by
        have := (List.getElem?_eq_some_iff.mp hv).1
        rwa [List.length_set] at this
      rw [List.getElem?_set_self hl] at hv
      cases hv
      exact h.2.2 (a, gg_v i x) List.mem_cons_self
    · rw [List.getElem?_set_ne (Ne.symm ha)] at hv
      refine h.2.2 (a, gg_v i v) (List.mem_cons_of_mem _ (List.mem_filter.mpr ⟨gg_lp_mem.mpr ⟨v, hv, rfl⟩, ?_⟩))
      by_cases hb : a + 1 = j
      · have hc := gg_low_ok hlow hb hv
        simp [ha, hb1, gg_cat, hc]
      · simp [ha, hb, hb1]
theorem gg_istore {j : Nat} {x : Int32} (ls2 : List (Option Value)) (hd : decode M.2.1 pc = .ok (.istore j, 2)) (hlow : gg_low ls j = true) (hn : j < M.2.2.1) (h2 : ls.set j (some (.int x)) = ls2) (kk : gg_G M (pc + 2) ls2 st w r w') : gg_G M pc ls (.int x :: st) w r w' := by
  intro l p e s m args below meth c D k A i X H locs arr hP hD hS hl
  subst h2
  exact lv_istore X.1 X.2.1 hd (gg_lp_has hl) hn rfl (fun ls' hl' => kk l p e s m args below meth c D k A i X H locs ls' hP hD hS (gg_st1 hlow hl'))
theorem gg_istore_n {b : Fin 4} {x : Int32} (ls2 : List (Option Value)) (hd : decode M.2.1 pc = .ok (.istore_n b, 1)) (hlow : gg_low ls (b : Nat) = true) (hn : (b : Nat) < M.2.2.1) (h2 : ls.set (b : Nat) (some (.int x)) = ls2) (kk : gg_G M (pc + 1) ls2 st w r w') : gg_G M pc ls (.int x :: st) w r w' := by
  intro l p e s m args below meth c D k A i X H locs arr hP hD hS hl
  subst h2
  exact lv_istore_n X.1 X.2.1 hd rfl (gg_lp_has hl) hn rfl (fun ls' hl' => kk l p e s m args below meth c D k A i X H locs ls' hP hD hS (gg_st1 hlow hl'))
theorem gg_astore_n {b : Fin 4} {x : Nat} (ls2 : List (Option Value)) (hd : decode M.2.1 pc = .ok (.astore_n b, 1)) (hlow : gg_low ls (b : Nat) = true) (hn : (b : Nat) < M.2.2.1) (h2 : ls.set (b : Nat) (some (.ref x)) = ls2) (kk : gg_G M (pc + 1) ls2 st w r w') : gg_G M pc ls (.ref x :: st) w r w' := by
  intro l p e s m args below meth c D k A i X H locs arr hP hD hS hl
  subst h2
  exact lv_astore_n X.1 X.2.1 hd rfl (gg_lp_has hl) hn rfl (fun ls' hl' => kk l p e s m args below meth c D k A i X H locs ls' hP hD hS (gg_st1 hlow hl'))
theorem gg_lstore {j : Nat} {x : Int64} (ls2 : List (Option Value)) (hd : decode M.2.1 pc = .ok (.lstore j, 2)) (hlow : gg_low ls j = true) (hn : j + 1 < M.2.2.1) (h2 : (ls.set j (some (.long x))).set (j + 1) none = ls2) (kk : gg_G M (pc + 2) ls2 st w r w') : gg_G M pc ls (.long x :: st) w r w' := by
  intro l p e s m args below meth c D k A i X H locs arr hP hD hS hl
  subst h2
  exact lv_lstore X.1 X.2.1 hd (gg_lp_has hl) hn rfl (fun ls' hl' => kk l p e s m args below meth c D k A i X H locs ls' hP hD hS (gg_st2 hlow hl'))
theorem gg_lstore_n {b : Fin 4} {x : Int64} (ls2 : List (Option Value)) (hd : decode M.2.1 pc = .ok (.lstore_n b, 1)) (hlow : gg_low ls (b : Nat) = true) (hn : (b : Nat) + 1 < M.2.2.1) (h2 : (ls.set (b : Nat) (some (.long x))).set ((b : Nat) + 1) none = ls2) (kk : gg_G M (pc + 1) ls2 st w r w') : gg_G M pc ls (.long x :: st) w r w' := by
  intro l p e s m args below meth c D k A i X H locs arr hP hD hS hl
  subst h2
  exact lv_lstore_n X.1 X.2.1 hd rfl (gg_lp_has hl) hn rfl (fun ls' hl' => kk l p e s m args below meth c D k A i X H locs ls' hP hD hS (gg_st2 hlow hl'))
theorem gg_iinc {j : Nat} {n : Int} {x : Int32} (v : Int32) (ls2 : List (Option Value)) (hd : decode M.2.1 pc = .ok (.iinc j n, 3)) (hv : ls[j]? = some (some (.int x))) (hx : x + Int32.ofInt n = v) (hlow : gg_low ls j = true) (hn : j < M.2.2.1) (h2 : ls.set j (some (.int v)) = ls2) (kk : gg_G M (pc + 3) ls2 st w r w') : gg_G M pc ls st w r w' := by
  intro l p e s m args below meth c D k A i X H locs arr hP hD hS hl
  subst h2
  obtain ⟨q, hq⟩ := List.getElem?_of_mem (gg_lp_mem (i := i) (ls := ls) (q := (j, .int x)) |>.mpr ⟨.int x, hv, rfl⟩)
  exact lv_iinc X.1 X.2.1 hd (gg_lp_has hl) hq hx hn rfl (fun ls' hl' => kk l p e s m args below meth c D k A i X H locs ls' hP hD hS (gg_st1 (x := .int v) hlow hl'))
end GGR
