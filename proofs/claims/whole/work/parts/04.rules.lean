section JR
variable {l : Launch} {M : jMt} {Z : jZ} {G : jG} {k n pc q : Nat} {ls st : List Value} {μ : jM}
theorem j_iconst {i : Int} (v : Int32) (hd : decode M.2.1 pc = .ok (.iconst i, 1)) (hq : pc + 1 = q) (hv : Int32.ofInt i = v) (K : J l M Z G k n q ls (.int v :: st) μ) : J l M Z G k n pc ls (st) μ := by
  intro p e s m args below meth c D cA ad0 ad A b H locs sl ok ex hAD hcs hR hL
  subst hq
  exact lv_iconst ok.1 ok.2.1 hd hv (K p e s m args below meth c D cA ad0 ad A b H locs sl ok ex hAD hcs hR hL)
theorem j_bipush {i : Int} (v : Int32) (hd : decode M.2.1 pc = .ok (.bipush i, 2)) (hq : pc + 2 = q) (hv : (Int8.ofInt i).toInt32 = v) (K : J l M Z G k n q ls (.int v :: st) μ) : J l M Z G k n pc ls (st) μ := by
  intro p e s m args below meth c D cA ad0 ad A b H locs sl ok ex hAD hcs hR hL
  subst hq
  exact lv_bipush ok.1 ok.2.1 hd hv (K p e s m args below meth c D cA ad0 ad A b H locs sl ok ex hAD hcs hR hL)
theorem j_sipush {i : Int} (v : Int32) (hd : decode M.2.1 pc = .ok (.sipush i, 3)) (hq : pc + 3 = q) (hv : (Int16.ofInt i).toInt32 = v) (K : J l M Z G k n q ls (.int v :: st) μ) : J l M Z G k n pc ls (st) μ := by
  intro p e s m args below meth c D cA ad0 ad A b H locs sl ok ex hAD hcs hR hL
  subst hq
  exact lv_sipush ok.1 ok.2.1 hd hv (K p e s m args below meth c D cA ad0 ad A b H locs sl ok ex hAD hcs hR hL)
theorem j_lconst {i : Fin 2} (v : Int64) (hd : decode M.2.1 pc = .ok (.lconst i, 1)) (hq : pc + 1 = q) (hv : Int64.ofNat (i : Nat) = v) (K : J l M Z G k n q ls (.long v :: st) μ) : J l M Z G k n pc ls (st) μ := by
  intro p e s m args below meth c D cA ad0 ad A b H locs sl ok ex hAD hcs hR hL
  subst hq
  exact lv_lconst ok.1 ok.2.1 hd hv (K p e s m args below meth c D cA ad0 ad A b H locs sl ok ex hAD hcs hR hL)
theorem j_ldc {i : Nat} (v : Int32) (hd : decode M.2.1 pc = .ok (.ldc i, 2)) (hq : pc + 2 = q) (hw : Cond.constant M.1.cls i v ∈ jtbl) (K : J l M Z G k n q ls (.int v :: st) μ) : J l M Z G k n pc ls (st) μ := by
  intro p e s m args below meth c D cA ad0 ad A b H locs sl ok ex hAD hcs hR hL
  subst hq
  exact lv_ldc ok.1 ok.2.1 ok.2.2.2.2.1 (ok.2.2.2.2.2.1 _ hw) hd (K p e s m args below meth c D cA ad0 ad A b H locs sl ok ex hAD hcs hR hL)
theorem j_ldcw {i : Nat} (v : Int32) (hd : decode M.2.1 pc = .ok (.ldc_w i, 3)) (hq : pc + 3 = q) (hw : Cond.constant M.1.cls i v ∈ jtbl) (K : J l M Z G k n q ls (.int v :: st) μ) : J l M Z G k n pc ls (st) μ := by
  intro p e s m args below meth c D cA ad0 ad A b H locs sl ok ex hAD hcs hR hL
  subst hq
  exact lv_ldcw ok.1 ok.2.1 ok.2.2.2.2.1 (ok.2.2.2.2.2.1 _ hw) hd (K p e s m args below meth c D cA ad0 ad A b H locs sl ok ex hAD hcs hR hL)
theorem j_ldc2 {i : Nat} (v : Int64) (hd : decode M.2.1 pc = .ok (.ldc2_w i, 3)) (hq : pc + 3 = q) (hw : Cond.constantLong M.1.cls i v ∈ jtbl) (K : J l M Z G k n q ls (.long v :: st) μ) : J l M Z G k n pc ls (st) μ := by
  intro p e s m args below meth c D cA ad0 ad A b H locs sl ok ex hAD hcs hR hL
  subst hq
  exact lv_ldc2 ok.1 ok.2.1 ok.2.2.2.2.1 (ok.2.2.2.2.2.1 _ hw) hd (K p e s m args below meth c D cA ad0 ad A b H locs sl ok ex hAD hcs hR hL)
theorem j_iload_n {i : Fin 4} {x : Int32} (hd : decode M.2.1 pc = .ok (.iload_n i, 1)) (hq : pc + 1 = q) (hx : ls[(i : Nat)]? = some (.int x)) (K : J l M Z G k n q ls (.int x :: st) μ) : J l M Z G k n pc ls st μ := by
  intro p e s m args below meth c D cA ad0 ad A b H locs sl ok ex hAD hcs hR hL
  subst hq
  exact lv_iload_n ok.1 ok.2.1 hd rfl (hL.2.2 _ _ hx (fun z => by cases z)) (K p e s m args below meth c D cA ad0 ad A b H locs sl ok ex hAD hcs hR hL)
theorem j_iload {i : Nat} {x : Int32} (hd : decode M.2.1 pc = .ok (.iload i, 2)) (hq : pc + 2 = q) (hx : ls[i]? = some (.int x)) (K : J l M Z G k n q ls (.int x :: st) μ) : J l M Z G k n pc ls st μ := by
  intro p e s m args below meth c D cA ad0 ad A b H locs sl ok ex hAD hcs hR hL
  subst hq
  exact lv_iload ok.1 ok.2.1 hd (hL.2.2 _ _ hx (fun z => by cases z)) (K p e s m args below meth c D cA ad0 ad A b H locs sl ok ex hAD hcs hR hL)
theorem j_lload_n {i : Fin 4} {x : Int64} (hd : decode M.2.1 pc = .ok (.lload_n i, 1)) (hq : pc + 1 = q) (hx : ls[(i : Nat)]? = some (.long x)) (K : J l M Z G k n q ls (.long x :: st) μ) : J l M Z G k n pc ls st μ := by
  intro p e s m args below meth c D cA ad0 ad A b H locs sl ok ex hAD hcs hR hL
  subst hq
  exact lv_lload_n ok.1 ok.2.1 hd rfl (hL.2.2 _ _ hx (fun z => by cases z)) (K p e s m args below meth c D cA ad0 ad A b H locs sl ok ex hAD hcs hR hL)
theorem j_lload {i : Nat} {x : Int64} (hd : decode M.2.1 pc = .ok (.lload i, 2)) (hq : pc + 2 = q) (hx : ls[i]? = some (.long x)) (K : J l M Z G k n q ls (.long x :: st) μ) : J l M Z G k n pc ls st μ := by
  intro p e s m args below meth c D cA ad0 ad A b H locs sl ok ex hAD hcs hR hL
  subst hq
  exact lv_lload ok.1 ok.2.1 hd (hL.2.2 _ _ hx (fun z => by cases z)) (K p e s m args below meth c D cA ad0 ad A b H locs sl ok ex hAD hcs hR hL)
theorem j_aload_n {i : Fin 4} {x : Nat} (hd : decode M.2.1 pc = .ok (.aload_n i, 1)) (hq : pc + 1 = q) (hx : ls[(i : Nat)]? = some (.ref x)) (K : J l M Z G k n q ls (.ref x :: st) μ) : J l M Z G k n pc ls st μ := by
  intro p e s m args below meth c D cA ad0 ad A b H locs sl ok ex hAD hcs hR hL
  subst hq
  exact lv_aload_n ok.1 ok.2.1 hd rfl (hL.2.2 _ _ hx (fun z => by cases z)) (K p e s m args below meth c D cA ad0 ad A b H locs sl ok ex hAD hcs hR hL)
theorem j_aload {i : Nat} {x : Nat} (hd : decode M.2.1 pc = .ok (.aload i, 2)) (hq : pc + 2 = q) (hx : ls[i]? = some (.ref x)) (K : J l M Z G k n q ls (.ref x :: st) μ) : J l M Z G k n pc ls st μ := by
  intro p e s m args below meth c D cA ad0 ad A b H locs sl ok ex hAD hcs hR hL
  subst hq
  exact lv_aload ok.1 ok.2.1 hd (hL.2.2 _ _ hx (fun z => by cases z)) (K p e s m args below meth c D cA ad0 ad A b H locs sl ok ex hAD hcs hR hL)
theorem j_aload_nF {i : Fin 4} {x : UInt32} (hd : decode M.2.1 pc = .ok (.aload_n i, 1)) (hq : pc + 1 = q) (hx : ls[(i : Nat)]? = some (.float x)) (K : J l M Z G k n q ls (.float x :: st) μ) : J l M Z G k n pc ls st μ := by
  intro p e s m args below meth c D cA ad0 ad A b H locs sl ok ex hAD hcs hR hL
  subst hq
  exact lv_aload_n ok.1 ok.2.1 hd rfl (hL.2.2 _ _ hx (fun z => by cases z)) (K p e s m args below meth c D cA ad0 ad A b H locs sl ok ex hAD hcs hR hL)
theorem j_iadd {x y : Int32} (hd : decode M.2.1 pc = .ok (.iadd, 1)) (hq : pc + 1 = q) (K : J l M Z G k n q ls (.int (x + y) :: st) μ) : J l M Z G k n pc ls (.int y :: .int x :: st) μ := by
  intro p e s m args below meth c D cA ad0 ad A b H locs sl ok ex hAD hcs hR hL
  subst hq
  exact lv_iadd ok.1 ok.2.1 hd (K p e s m args below meth c D cA ad0 ad A b H locs sl ok ex hAD hcs hR hL)
theorem j_isub {x y : Int32} (hd : decode M.2.1 pc = .ok (.isub, 1)) (hq : pc + 1 = q) (K : J l M Z G k n q ls (.int (x - y) :: st) μ) : J l M Z G k n pc ls (.int y :: .int x :: st) μ := by
  intro p e s m args below meth c D cA ad0 ad A b H locs sl ok ex hAD hcs hR hL
  subst hq
  exact lv_isub ok.1 ok.2.1 hd (K p e s m args below meth c D cA ad0 ad A b H locs sl ok ex hAD hcs hR hL)
theorem j_imul {x y : Int32} (hd : decode M.2.1 pc = .ok (.imul, 1)) (hq : pc + 1 = q) (K : J l M Z G k n q ls (.int (x * y) :: st) μ) : J l M Z G k n pc ls (.int y :: .int x :: st) μ := by
  intro p e s m args below meth c D cA ad0 ad A b H locs sl ok ex hAD hcs hR hL
  subst hq
  exact lv_imul ok.1 ok.2.1 hd (K p e s m args below meth c D cA ad0 ad A b H locs sl ok ex hAD hcs hR hL)
theorem j_iand {x y : Int32} (hd : decode M.2.1 pc = .ok (.iand, 1)) (hq : pc + 1 = q) (K : J l M Z G k n q ls (.int (x &&& y) :: st) μ) : J l M Z G k n pc ls (.int y :: .int x :: st) μ := by
  intro p e s m args below meth c D cA ad0 ad A b H locs sl ok ex hAD hcs hR hL
  subst hq
  exact lv_iand ok.1 ok.2.1 hd (K p e s m args below meth c D cA ad0 ad A b H locs sl ok ex hAD hcs hR hL)
theorem j_ior {x y : Int32} (hd : decode M.2.1 pc = .ok (.ior, 1)) (hq : pc + 1 = q) (K : J l M Z G k n q ls (.int (x ||| y) :: st) μ) : J l M Z G k n pc ls (.int y :: .int x :: st) μ := by
  intro p e s m args below meth c D cA ad0 ad A b H locs sl ok ex hAD hcs hR hL
  subst hq
  exact lv_ior ok.1 ok.2.1 hd (K p e s m args below meth c D cA ad0 ad A b H locs sl ok ex hAD hcs hR hL)
theorem j_ixor {x y : Int32} (hd : decode M.2.1 pc = .ok (.ixor, 1)) (hq : pc + 1 = q) (K : J l M Z G k n q ls (.int (x ^^^ y) :: st) μ) : J l M Z G k n pc ls (.int y :: .int x :: st) μ := by
  intro p e s m args below meth c D cA ad0 ad A b H locs sl ok ex hAD hcs hR hL
  subst hq
  exact lv_ixor ok.1 ok.2.1 hd (K p e s m args below meth c D cA ad0 ad A b H locs sl ok ex hAD hcs hR hL)
theorem j_ishl {x y : Int32} (hd : decode M.2.1 pc = .ok (.ishl, 1)) (hq : pc + 1 = q) (K : J l M Z G k n q ls (.int (x <<< (y &&& 31)) :: st) μ) : J l M Z G k n pc ls (.int y :: .int x :: st) μ := by
  intro p e s m args below meth c D cA ad0 ad A b H locs sl ok ex hAD hcs hR hL
  subst hq
  exact lv_ishl ok.1 ok.2.1 hd (K p e s m args below meth c D cA ad0 ad A b H locs sl ok ex hAD hcs hR hL)
theorem j_ishr {x y : Int32} (hd : decode M.2.1 pc = .ok (.ishr, 1)) (hq : pc + 1 = q) (K : J l M Z G k n q ls (.int (x >>> (y &&& 31)) :: st) μ) : J l M Z G k n pc ls (.int y :: .int x :: st) μ := by
  intro p e s m args below meth c D cA ad0 ad A b H locs sl ok ex hAD hcs hR hL
  subst hq
  exact lv_ishr ok.1 ok.2.1 hd (K p e s m args below meth c D cA ad0 ad A b H locs sl ok ex hAD hcs hR hL)
theorem j_idiv {x y : Int32} (hd : decode M.2.1 pc = .ok (.idiv, 1)) (hq : pc + 1 = q) (hne : ¬ y = 0) (K : J l M Z G k n q ls (.int (x / y) :: st) μ) : J l M Z G k n pc ls (.int y :: .int x :: st) μ := by
  intro p e s m args below meth c D cA ad0 ad A b H locs sl ok ex hAD hcs hR hL
  subst hq
  exact lv_idiv ok.1 ok.2.1 hd hne (K p e s m args below meth c D cA ad0 ad A b H locs sl ok ex hAD hcs hR hL)
theorem j_irem {x y : Int32} (hd : decode M.2.1 pc = .ok (.irem, 1)) (hq : pc + 1 = q) (hne : ¬ y = 0) (K : J l M Z G k n q ls (.int (x - x / y * y) :: st) μ) : J l M Z G k n pc ls (.int y :: .int x :: st) μ := by
  intro p e s m args below meth c D cA ad0 ad A b H locs sl ok ex hAD hcs hR hL
  subst hq
  exact lv_irem ok.1 ok.2.1 hd hne (K p e s m args below meth c D cA ad0 ad A b H locs sl ok ex hAD hcs hR hL)
theorem j_ladd {x y : Int64} (hd : decode M.2.1 pc = .ok (.ladd, 1)) (hq : pc + 1 = q) (K : J l M Z G k n q ls (.long (x + y) :: st) μ) : J l M Z G k n pc ls (.long y :: .long x :: st) μ := by
  intro p e s m args below meth c D cA ad0 ad A b H locs sl ok ex hAD hcs hR hL
  subst hq
  exact lv_ladd ok.1 ok.2.1 hd (K p e s m args below meth c D cA ad0 ad A b H locs sl ok ex hAD hcs hR hL)
theorem j_lsub {x y : Int64} (hd : decode M.2.1 pc = .ok (.lsub, 1)) (hq : pc + 1 = q) (K : J l M Z G k n q ls (.long (x - y) :: st) μ) : J l M Z G k n pc ls (.long y :: .long x :: st) μ := by
  intro p e s m args below meth c D cA ad0 ad A b H locs sl ok ex hAD hcs hR hL
  subst hq
  exact lv_lsub ok.1 ok.2.1 hd (K p e s m args below meth c D cA ad0 ad A b H locs sl ok ex hAD hcs hR hL)
theorem j_lmul {x y : Int64} (hd : decode M.2.1 pc = .ok (.lmul, 1)) (hq : pc + 1 = q) (K : J l M Z G k n q ls (.long (x * y) :: st) μ) : J l M Z G k n pc ls (.long y :: .long x :: st) μ := by
  intro p e s m args below meth c D cA ad0 ad A b H locs sl ok ex hAD hcs hR hL
  subst hq
  exact lv_lmul ok.1 ok.2.1 hd (K p e s m args below meth c D cA ad0 ad A b H locs sl ok ex hAD hcs hR hL)
theorem j_land {x y : Int64} (hd : decode M.2.1 pc = .ok (.land, 1)) (hq : pc + 1 = q) (K : J l M Z G k n q ls (.long (x &&& y) :: st) μ) : J l M Z G k n pc ls (.long y :: .long x :: st) μ := by
  intro p e s m args below meth c D cA ad0 ad A b H locs sl ok ex hAD hcs hR hL
  subst hq
  exact lv_land ok.1 ok.2.1 hd (K p e s m args below meth c D cA ad0 ad A b H locs sl ok ex hAD hcs hR hL)
theorem j_lor {x y : Int64} (hd : decode M.2.1 pc = .ok (.lor, 1)) (hq : pc + 1 = q) (K : J l M Z G k n q ls (.long (x ||| y) :: st) μ) : J l M Z G k n pc ls (.long y :: .long x :: st) μ := by
  intro p e s m args below meth c D cA ad0 ad A b H locs sl ok ex hAD hcs hR hL
  subst hq
  exact lv_lor ok.1 ok.2.1 hd (K p e s m args below meth c D cA ad0 ad A b H locs sl ok ex hAD hcs hR hL)
theorem j_lxor {x y : Int64} (hd : decode M.2.1 pc = .ok (.lxor, 1)) (hq : pc + 1 = q) (K : J l M Z G k n q ls (.long (x ^^^ y) :: st) μ) : J l M Z G k n pc ls (.long y :: .long x :: st) μ := by
  intro p e s m args below meth c D cA ad0 ad A b H locs sl ok ex hAD hcs hR hL
  subst hq
  exact lv_lxor ok.1 ok.2.1 hd (K p e s m args below meth c D cA ad0 ad A b H locs sl ok ex hAD hcs hR hL)
theorem j_iushr {x y : Int32} (hd : decode M.2.1 pc = .ok (.iushr, 1)) (hq : pc + 1 = q) (K : J l M Z G k n q ls (.int (x.toUInt32 >>> (y.toUInt32 &&& Int32.toUInt32 31)).toInt32 :: st) μ) : J l M Z G k n pc ls (.int y :: .int x :: st) μ := by
  intro p e s m args below meth c D cA ad0 ad A b H locs sl ok ex hAD hcs hR hL
  subst hq
  exact lv_iushr ok.1 ok.2.1 hd rfl (K p e s m args below meth c D cA ad0 ad A b H locs sl ok ex hAD hcs hR hL)
theorem j_lshl {x : Int64} {y : Int32} (hd : decode M.2.1 pc = .ok (.lshl, 1)) (hq : pc + 1 = q) (K : J l M Z G k n q ls (.long (x <<< (y.toInt64 &&& 63)) :: st) μ) : J l M Z G k n pc ls (.int y :: .long x :: st) μ := by
  intro p e s m args below meth c D cA ad0 ad A b H locs sl ok ex hAD hcs hR hL
  subst hq
  exact lv_lshl ok.1 ok.2.1 hd rfl (K p e s m args below meth c D cA ad0 ad A b H locs sl ok ex hAD hcs hR hL)
theorem j_i2l {x : Int32} (hd : decode M.2.1 pc = .ok (.i2l, 1)) (hq : pc + 1 = q) (K : J l M Z G k n q ls (.long x.toInt64 :: st) μ) : J l M Z G k n pc ls (.int x :: st) μ := by
  intro p e s m args below meth c D cA ad0 ad A b H locs sl ok ex hAD hcs hR hL
  subst hq
  exact lv_i2l ok.1 ok.2.1 hd rfl (K p e s m args below meth c D cA ad0 ad A b H locs sl ok ex hAD hcs hR hL)
theorem j_l2i {x : Int64} (hd : decode M.2.1 pc = .ok (.l2i, 1)) (hq : pc + 1 = q) (K : J l M Z G k n q ls (.int x.toInt32 :: st) μ) : J l M Z G k n pc ls (.long x :: st) μ := by
  intro p e s m args below meth c D cA ad0 ad A b H locs sl ok ex hAD hcs hR hL
  subst hq
  exact lv_l2i ok.1 ok.2.1 hd rfl (K p e s m args below meth c D cA ad0 ad A b H locs sl ok ex hAD hcs hR hL)
theorem j_i2b {x : Int32} (hd : decode M.2.1 pc = .ok (.i2b, 1)) (hq : pc + 1 = q) (K : J l M Z G k n q ls (.int x.toInt8.toInt32 :: st) μ) : J l M Z G k n pc ls (.int x :: st) μ := by
  intro p e s m args below meth c D cA ad0 ad A b H locs sl ok ex hAD hcs hR hL
  subst hq
  exact lv_i2b ok.1 ok.2.1 hd rfl (K p e s m args below meth c D cA ad0 ad A b H locs sl ok ex hAD hcs hR hL)
theorem j_lcmp {x y : Int64} (hd : decode M.2.1 pc = .ok (.lcmp, 1)) (hq : pc + 1 = q) (K : J l M Z G k n q ls (.int (lg_cmp x y) :: st) μ) : J l M Z G k n pc ls (.long y :: .long x :: st) μ := by
  intro p e s m args below meth c D cA ad0 ad A b H locs sl ok ex hAD hcs hR hL
  subst hq
  exact W.lcmp ok.1 ok.2.1 hd (K p e s m args below meth c D cA ad0 ad A b H locs sl ok ex hAD hcs hR hL)
theorem j_dup {v : Value} (hd : decode M.2.1 pc = .ok (.dup, 1)) (hq : pc + 1 = q) (hv : ∀ ad b, (jtr ad b v).category = 1) (K : J l M Z G k n q ls (v :: v :: st) μ) : J l M Z G k n pc ls (v :: st) μ := by
  intro p e s m args below meth c D cA ad0 ad A b H locs sl ok ex hAD hcs hR hL
  subst hq
  exact lv_dup ok.1 ok.2.1 hd (hv ad b) (K p e s m args below meth c D cA ad0 ad A b H locs sl ok ex hAD hcs hR hL)
theorem j_pop {v : Value} (hd : decode M.2.1 pc = .ok (.pop, 1)) (hq : pc + 1 = q) (hv : ∀ ad b, (jtr ad b v).category = 1) (K : J l M Z G k n q ls (st) μ) : J l M Z G k n pc ls (v :: st) μ := by
  intro p e s m args below meth c D cA ad0 ad A b H locs sl ok ex hAD hcs hR hL
  subst hq
  exact lv_pop ok.1 ok.2.1 hd (hv ad b) (K p e s m args below meth c D cA ad0 ad A b H locs sl ok ex hAD hcs hR hL)
theorem j_dup2 {v w : Value} (hd : decode M.2.1 pc = .ok (.dup2, 1)) (hq : pc + 1 = q) (hv : ∀ ad b, (jtr ad b v).category = 1) (hw : ∀ ad b, (jtr ad b w).category = 1) (K : J l M Z G k n q ls (v :: w :: v :: w :: st) μ) : J l M Z G k n pc ls (v :: w :: st) μ := by
  intro p e s m args below meth c D cA ad0 ad A b H locs sl ok ex hAD hcs hR hL
  subst hq
  exact lv_dup2_11 ok.1 ok.2.1 hd (hv ad b) (hw ad b) (K p e s m args below meth c D cA ad0 ad A b H locs sl ok ex hAD hcs hR hL)
theorem j_if_eq {x : Int32} {off : Int} (tgt : Nat) (hd : decode M.2.1 pc = .ok (.ifCond .eq off, 3)) (hq : pc + 3 = q) (ht : (pc : Int) + off = (tgt : Int)) (Kt : x = 0 → J l M Z G k n tgt ls st μ) (Kf : ¬ (x = 0) → J l M Z G k n q ls st μ) : J l M Z G k n pc ls (.int x :: st) μ := by
  intro p e s m args below meth c D cA ad0 ad A b H locs sl ok ex hAD hcs hR hL
  subst hq
  exact lv_if_eq ok.1 ok.2.1 hd ht (fun h => Kt h p e s m args below meth c D cA ad0 ad A b H locs sl ok ex hAD hcs hR hL) (fun h => Kf h p e s m args below meth c D cA ad0 ad A b H locs sl ok ex hAD hcs hR hL)
theorem j_icmp_eq {x y : Int32} {off : Int} (tgt : Nat) (hd : decode M.2.1 pc = .ok (.if_icmp .eq off, 3)) (hq : pc + 3 = q) (ht : (pc : Int) + off = (tgt : Int)) (Kt : x = y → J l M Z G k n tgt ls st μ) (Kf : ¬ (x = y) → J l M Z G k n q ls st μ) : J l M Z G k n pc ls (.int y :: .int x :: st) μ := by
  intro p e s m args below meth c D cA ad0 ad A b H locs sl ok ex hAD hcs hR hL
  subst hq
  exact lv_icmp_eq ok.1 ok.2.1 hd ht (fun h => Kt h p e s m args below meth c D cA ad0 ad A b H locs sl ok ex hAD hcs hR hL) (fun h => Kf h p e s m args below meth c D cA ad0 ad A b H locs sl ok ex hAD hcs hR hL)
theorem j_if_ne {x : Int32} {off : Int} (tgt : Nat) (hd : decode M.2.1 pc = .ok (.ifCond .ne off, 3)) (hq : pc + 3 = q) (ht : (pc : Int) + off = (tgt : Int)) (Kt : ¬ x = 0 → J l M Z G k n tgt ls st μ) (Kf : x = 0 → J l M Z G k n q ls st μ) : J l M Z G k n pc ls (.int x :: st) μ := by
  intro p e s m args below meth c D cA ad0 ad A b H locs sl ok ex hAD hcs hR hL
  subst hq
  exact lv_if_ne ok.1 ok.2.1 hd ht (fun h => Kt h p e s m args below meth c D cA ad0 ad A b H locs sl ok ex hAD hcs hR hL) (fun h => Kf h p e s m args below meth c D cA ad0 ad A b H locs sl ok ex hAD hcs hR hL)
theorem j_icmp_ne {x y : Int32} {off : Int} (tgt : Nat) (hd : decode M.2.1 pc = .ok (.if_icmp .ne off, 3)) (hq : pc + 3 = q) (ht : (pc : Int) + off = (tgt : Int)) (Kt : ¬ x = y → J l M Z G k n tgt ls st μ) (Kf : x = y → J l M Z G k n q ls st μ) : J l M Z G k n pc ls (.int y :: .int x :: st) μ := by
  intro p e s m args below meth c D cA ad0 ad A b H locs sl ok ex hAD hcs hR hL
  subst hq
  exact lv_icmp_ne ok.1 ok.2.1 hd ht (fun h => Kt h p e s m args below meth c D cA ad0 ad A b H locs sl ok ex hAD hcs hR hL) (fun h => Kf h p e s m args below meth c D cA ad0 ad A b H locs sl ok ex hAD hcs hR hL)
theorem j_if_lt {x : Int32} {off : Int} (tgt : Nat) (hd : decode M.2.1 pc = .ok (.ifCond .lt off, 3)) (hq : pc + 3 = q) (ht : (pc : Int) + off = (tgt : Int)) (Kt : x < 0 → J l M Z G k n tgt ls st μ) (Kf : ¬ (x < 0) → J l M Z G k n q ls st μ) : J l M Z G k n pc ls (.int x :: st) μ := by
  intro p e s m args below meth c D cA ad0 ad A b H locs sl ok ex hAD hcs hR hL
  subst hq
  exact lv_if_lt ok.1 ok.2.1 hd ht (fun h => Kt h p e s m args below meth c D cA ad0 ad A b H locs sl ok ex hAD hcs hR hL) (fun h => Kf h p e s m args below meth c D cA ad0 ad A b H locs sl ok ex hAD hcs hR hL)
theorem j_icmp_lt {x y : Int32} {off : Int} (tgt : Nat) (hd : decode M.2.1 pc = .ok (.if_icmp .lt off, 3)) (hq : pc + 3 = q) (ht : (pc : Int) + off = (tgt : Int)) (Kt : x < y → J l M Z G k n tgt ls st μ) (Kf : ¬ (x < y) → J l M Z G k n q ls st μ) : J l M Z G k n pc ls (.int y :: .int x :: st) μ := by
  intro p e s m args below meth c D cA ad0 ad A b H locs sl ok ex hAD hcs hR hL
  subst hq
  exact lv_icmp_lt ok.1 ok.2.1 hd ht (fun h => Kt h p e s m args below meth c D cA ad0 ad A b H locs sl ok ex hAD hcs hR hL) (fun h => Kf h p e s m args below meth c D cA ad0 ad A b H locs sl ok ex hAD hcs hR hL)
theorem j_if_ge {x : Int32} {off : Int} (tgt : Nat) (hd : decode M.2.1 pc = .ok (.ifCond .ge off, 3)) (hq : pc + 3 = q) (ht : (pc : Int) + off = (tgt : Int)) (Kt : 0 ≤ x → J l M Z G k n tgt ls st μ) (Kf : ¬ (0 ≤ x) → J l M Z G k n q ls st μ) : J l M Z G k n pc ls (.int x :: st) μ := by
  intro p e s m args below meth c D cA ad0 ad A b H locs sl ok ex hAD hcs hR hL
  subst hq
  exact lv_if_ge ok.1 ok.2.1 hd ht (fun h => Kt h p e s m args below meth c D cA ad0 ad A b H locs sl ok ex hAD hcs hR hL) (fun h => Kf h p e s m args below meth c D cA ad0 ad A b H locs sl ok ex hAD hcs hR hL)
theorem j_icmp_ge {x y : Int32} {off : Int} (tgt : Nat) (hd : decode M.2.1 pc = .ok (.if_icmp .ge off, 3)) (hq : pc + 3 = q) (ht : (pc : Int) + off = (tgt : Int)) (Kt : y ≤ x → J l M Z G k n tgt ls st μ) (Kf : ¬ (y ≤ x) → J l M Z G k n q ls st μ) : J l M Z G k n pc ls (.int y :: .int x :: st) μ := by
  intro p e s m args below meth c D cA ad0 ad A b H locs sl ok ex hAD hcs hR hL
  subst hq
  exact lv_icmp_ge ok.1 ok.2.1 hd ht (fun h => Kt h p e s m args below meth c D cA ad0 ad A b H locs sl ok ex hAD hcs hR hL) (fun h => Kf h p e s m args below meth c D cA ad0 ad A b H locs sl ok ex hAD hcs hR hL)
theorem j_if_gt {x : Int32} {off : Int} (tgt : Nat) (hd : decode M.2.1 pc = .ok (.ifCond .gt off, 3)) (hq : pc + 3 = q) (ht : (pc : Int) + off = (tgt : Int)) (Kt : 0 < x → J l M Z G k n tgt ls st μ) (Kf : ¬ (0 < x) → J l M Z G k n q ls st μ) : J l M Z G k n pc ls (.int x :: st) μ := by
  intro p e s m args below meth c D cA ad0 ad A b H locs sl ok ex hAD hcs hR hL
  subst hq
  exact lv_if_gt ok.1 ok.2.1 hd ht (fun h => Kt h p e s m args below meth c D cA ad0 ad A b H locs sl ok ex hAD hcs hR hL) (fun h => Kf h p e s m args below meth c D cA ad0 ad A b H locs sl ok ex hAD hcs hR hL)
theorem j_icmp_gt {x y : Int32} {off : Int} (tgt : Nat) (hd : decode M.2.1 pc = .ok (.if_icmp .gt off, 3)) (hq : pc + 3 = q) (ht : (pc : Int) + off = (tgt : Int)) (Kt : y < x → J l M Z G k n tgt ls st μ) (Kf : ¬ (y < x) → J l M Z G k n q ls st μ) : J l M Z G k n pc ls (.int y :: .int x :: st) μ := by
  intro p e s m args below meth c D cA ad0 ad A b H locs sl ok ex hAD hcs hR hL
  subst hq
  exact lv_icmp_gt ok.1 ok.2.1 hd ht (fun h => Kt h p e s m args below meth c D cA ad0 ad A b H locs sl ok ex hAD hcs hR hL) (fun h => Kf h p e s m args below meth c D cA ad0 ad A b H locs sl ok ex hAD hcs hR hL)
theorem j_if_le {x : Int32} {off : Int} (tgt : Nat) (hd : decode M.2.1 pc = .ok (.ifCond .le off, 3)) (hq : pc + 3 = q) (ht : (pc : Int) + off = (tgt : Int)) (Kt : x ≤ 0 → J l M Z G k n tgt ls st μ) (Kf : ¬ (x ≤ 0) → J l M Z G k n q ls st μ) : J l M Z G k n pc ls (.int x :: st) μ := by
  intro p e s m args below meth c D cA ad0 ad A b H locs sl ok ex hAD hcs hR hL
  subst hq
  exact lv_if_le ok.1 ok.2.1 hd ht (fun h => Kt h p e s m args below meth c D cA ad0 ad A b H locs sl ok ex hAD hcs hR hL) (fun h => Kf h p e s m args below meth c D cA ad0 ad A b H locs sl ok ex hAD hcs hR hL)
theorem j_icmp_le {x y : Int32} {off : Int} (tgt : Nat) (hd : decode M.2.1 pc = .ok (.if_icmp .le off, 3)) (hq : pc + 3 = q) (ht : (pc : Int) + off = (tgt : Int)) (Kt : x ≤ y → J l M Z G k n tgt ls st μ) (Kf : ¬ (x ≤ y) → J l M Z G k n q ls st μ) : J l M Z G k n pc ls (.int y :: .int x :: st) μ := by
  intro p e s m args below meth c D cA ad0 ad A b H locs sl ok ex hAD hcs hR hL
  subst hq
  exact lv_icmp_le ok.1 ok.2.1 hd ht (fun h => Kt h p e s m args below meth c D cA ad0 ad A b H locs sl ok ex hAD hcs hR hL) (fun h => Kf h p e s m args below meth c D cA ad0 ad A b H locs sl ok ex hAD hcs hR hL)
theorem j_goto {off : Int} (tgt : Nat) (hd : decode M.2.1 pc = .ok (.goto off, 3)) (ht : (pc : Int) + off = (tgt : Int)) (K : J l M Z G k n tgt ls st μ) : J l M Z G k n pc ls st μ := by
  intro p e s m args below meth c D cA ad0 ad A b H locs sl ok ex hAD hcs hR hL
  exact lv_goto ok.1 ok.2.1 hd ht (K p e s m args below meth c D cA ad0 ad A b H locs sl ok ex hAD hcs hR hL)
theorem j_ifnonnull {x : Nat} {off : Int} (tgt : Nat) (hd : decode M.2.1 pc = .ok (.ifnonnull off, 3)) (ht : (pc : Int) + off = (tgt : Int)) (K : J l M Z G k n tgt ls st μ) : J l M Z G k n pc ls (.ref x :: st) μ := by
  intro p e s m args below meth c D cA ad0 ad A b H locs sl ok ex hAD hcs hR hL
  exact lv_ifnonnull ok.1 ok.2.1 hd ht (K p e s m args below meth c D cA ad0 ad A b H locs sl ok ex hAD hcs hR hL)
theorem j_ifnonnullN {off : Int} (hd : decode M.2.1 pc = .ok (.ifnonnull off, 3)) (hq : pc + 3 = q) (K : J l M Z G k n q ls st μ) : J l M Z G k n pc ls (.null :: st) μ := by
  intro p e s m args below meth c D cA ad0 ad A b H locs sl ok ex hAD hcs hR hL
  subst hq
  exact lv_ifnonnullN ok.1 ok.2.1 hd (K p e s m args below meth c D cA ad0 ad A b H locs sl ok ex hAD hcs hR hL)
theorem j_lookup {dflt : Int} {ps : Array (Int × Int)} {len : Nat} {x : Int32} {off : Int} (tgt : Nat) (hd : decode M.2.1 pc = .ok (.lookupswitch dflt ps, len)) (hp : (ps.toList.zip (ps.toList.drop 1)).all (fun (a, next) => a.1 < next.1) = true) (ho : Op.lookupswitch.offset ps.toList dflt x.toInt = off) (ht : (pc : Int) + off = (tgt : Int)) (K : J l M Z G k n tgt ls st μ) : J l M Z G k n pc ls (.int x :: st) μ := by
  intro p e s m args below meth c D cA ad0 ad A b H locs sl ok ex hAD hcs hR hL
  exact lv_lookup ok.1 ok.2.1 hd hp ho ht (K p e s m args below meth c D cA ad0 ad A b H locs sl ok ex hAD hcs hR hL)
theorem j_tableOut {dflt lo hi : Int} {offs : Array Int} {len : Nat} {x : Int32} (tgt : Nat) (hd : decode M.2.1 pc = .ok (.tableswitch dflt lo hi offs, len)) (h : x.toInt < lo ∨ hi < x.toInt) (ht : (pc : Int) + dflt = (tgt : Int)) (K : J l M Z G k n tgt ls st μ) : J l M Z G k n pc ls (.int x :: st) μ := by
  intro p e s m args below meth c D cA ad0 ad A b H locs sl ok ex hAD hcs hR hL
  exact lv_tableOut ok.1 ok.2.1 hd h ht (K p e s m args below meth c D cA ad0 ad A b H locs sl ok ex hAD hcs hR hL)
theorem j_tableIn {dflt lo hi : Int} {offs : Array Int} {len : Nat} {x : Int32} {off : Int} (tgt : Nat) (hd : decode M.2.1 pc = .ok (.tableswitch dflt lo hi offs, len)) (h1 : ¬ x.toInt < lo) (h2 : ¬ hi < x.toInt) (ho : offs[(x.toInt - lo).toNat]? = some off) (ht : (pc : Int) + off = (tgt : Int)) (K : J l M Z G k n tgt ls st μ) : J l M Z G k n pc ls (.int x :: st) μ := by
  intro p e s m args below meth c D cA ad0 ad A b H locs sl ok ex hAD hcs hR hL
  exact lv_tableIn ok.1 ok.2.1 hd h1 h2 ho ht (K p e s m args below meth c D cA ad0 ad A b H locs sl ok ex hAD hcs hR hL)
/-! stores into locals -/
def jpre (ls : List Value) (i : Nat) : List Value := match i with
  | 0 => ls
  | j + 1 => match ls[j]? with
    | some (.long _) => ls.set j .null
    | some (.double _) => ls.set j .null
    | _ => ls
def jset1 (ls : List Value) (i : Nat) (v : Value) : List Value := (jpre ls i).set i v
def jset2 (ls : List Value) (i : Nat) (v : Value) : List Value := (jset1 ls i v).set (i + 1) .null
def jas (ad : Nat → Nat) (b : Nat) (ls : List Value) : List (Nat × Value) := (ls.mapIdx (fun i v => (i, v))).filterMap (fun q => if q.2 = .null then none else some (q.1, jtr ad b q.2))
theorem jas_mem {ad : Nat → Nat} {b : Nat} {ls : List Value} {i : Nat} {v : Value} (h : ls[i]? = some v) (hv : v ≠ .null) : (i, jtr ad b v) ∈ jas ad b ls := by
  unfold jas
  refine List.mem_filterMap.mpr ⟨(i, v), ?_, by simp [hv]⟩
  refine List.mem_of_getElem? (i := i) ?_
  rw [List.getElem?_mapIdx, h]; rfl
theorem jas_of {ad : Nat → Nat} {b : Nat} {ls : List Value} {q : Nat × Value} (h : q ∈ jas ad b ls) : ∃ v, ls[q.1]? = some v ∧ v ≠ .null ∧ q.2 = jtr ad b v := by
  unfold jas at h
  obtain ⟨⟨i, v⟩, h1, h2⟩ := List.mem_filterMap.mp h
  obtain ⟨j, hj⟩ := List.getElem?_of_mem h1
  rw [List.getElem?_mapIdx] at hj
  by_cases hv : v = .null
  · simp [hv] at h2
  · simp only [hv, if_false, Option.some.injEq] at h2
    subst h2
    cases hl : ls[j]? with
    | none => rw [hl] at hj; cases hj
    | some w =>
      rw [hl] at hj
      simp only [Option.map_some, Option.some.injEq, Prod.mk.injEq] at hj
      obtain ⟨e1, e2⟩ := hj
      subst e1; subst e2
      exact ⟨_, hl, hv, rfl⟩
theorem jL_has {sl : Array Slot} {nL : Nat} {ad : Nat → Nat} {b : Nat} {ls : List Value} (h : jL sl nL ad b ls) : lv_has sl nL (jas ad b ls) := by
  refine ⟨h.1, h.2.1, fun q hq => ?_⟩
  obtain ⟨v, h1, h2, h3⟩ := jas_of hq
  rw [h3]; exact h.2.2 _ _ h1 h2
theorem jtr_cat2 {ad : Nat → Nat} {b : Nat} {v : Value} (h : (jtr ad b v).category = 2) : (∃ x, v = .long x) ∨ ∃ x, v = .double x := by
  cases v with
  | long x => exact Or.inl ⟨x, rfl⟩
  | double x => exact Or.inr ⟨x, rfl⟩
  | _ => simp [jtr, Value.category] at h
theorem jset1_at {ls : List Value} {i j : Nat} {v w : Value} (h : (jset1 ls i v)[j]? = some w) (hw : w ≠ .null) : (j = i ∧ w = v) ∨ (j ≠ i ∧ ls[j]? = some w ∧ ¬ (j + 1 = i ∧ ∀ ad b, (jtr ad b w).category = 2)) := by
  unfold jset1 at h
  rw [List.getElem?_set] at h
  by_cases hi : i = j
  · subst hi
    rw [if_pos rfl] at h
    split at h
    · exact Or.inl ⟨rfl, (Option.some.inj h).symm⟩
    · cases h
  · rw [if_neg hi] at h
    refine Or.inr ⟨fun z => hi z.symm, ?_⟩
    cases i with
    | zero => exact ⟨h, fun z => by omega⟩
    | succ i =>
      unfold jpre at h
      simp only at h
      split at h
      next x hx =>
        rw [List.getElem?_set] at h
        by_cases hij : i = j
        · subst hij
          rw [if_pos rfl] at h
          split at h
          · exact absurd (Option.some.inj h).symm hw
          · cases h
        · rw [if_neg hij] at h
          exact ⟨h, fun z => hij (by omega)⟩
      next x hx =>
        rw [List.getElem?_set] at h
        by_cases hij : i = j
        · subst hij
          rw [if_pos rfl] at h
          split at h
          · exact absurd (Option.some.inj h).symm hw
          · cases h
        · rw [if_neg hij] at h
          exact ⟨h, fun z => hij (by omega)⟩
      next hx1 hx2 =>
        refine ⟨h, fun z => ?_⟩
        have e : j = i := by omega
        subst e
        rcases jtr_cat2 (z.2 (fun q => q) 0) with ⟨x, rfl⟩ | ⟨x, rfl⟩
        · exact hx1 x h
        · exact hx2 x h
theorem jL_set1 {sl : Array Slot} {nL : Nat} {ad : Nat → Nat} {b : Nat} {ls : List Value} {i : Nat} {v : Value} {x : Value} (hx : jtr ad b v = x) (h : lv_has sl nL ((i, x) :: (jas ad b ls).filter (fun q => !(q.1 == i) && !(q.1 + 1 == i && q.2.category == 2)))) : jL sl nL ad b (jset1 ls i v) := by
  subst hx
  refine ⟨h.1, h.2.1, fun j w hj hw => ?_⟩
  rcases jset1_at hj hw with ⟨e1, e2⟩ | ⟨h1, h2, h3⟩
  · subst e1; subst e2
    exact h.2.2 _ List.mem_cons_self
  · refine h.2.2 (j, jtr ad b w) (List.mem_cons_of_mem _ (List.mem_filter.mpr ⟨jas_mem h2 hw, ?_⟩))
    by_cases hc : j + 1 = i
    · have h4 : ¬ (jtr ad b w).category = 2 := fun z => h3 ⟨hc, fun ad' b' => by rcases jtr_cat2 z with ⟨x, rfl⟩ | ⟨x, rfl⟩ <;> rfl⟩
      simp [h1, hc, h4]
    · simp [h1, hc]
theorem jL_set2 {sl : Array Slot} {nL : Nat} {ad : Nat → Nat} {b : Nat} {ls : List Value} {i : Nat} {v : Value} {x : Value} (hx : jtr ad b v = x) (h : lv_has sl nL ((i, x) :: (jas ad b ls).filter (fun q => !(q.1 == i) && (!(q.1 == i + 1) && !(q.1 + 1 == i && q.2.category == 2))))) : jL sl nL ad b (jset2 ls i v) := by
  subst hx
  refine ⟨h.1, h.2.1, fun j w hj hw => ?_⟩
  unfold jset2 at hj
  rw [List.getElem?_set] at hj
  by_cases hij : i + 1 = j
  · rw [if_pos hij] at hj
    split at hj
    · exact absurd (Option.some.inj hj).symm hw
    · cases hj
  · rw [if_neg hij] at hj
    rcases jset1_at hj hw with ⟨e1, e2⟩ | ⟨h1, h2, h3⟩
    · subst e1; subst e2
      exact h.2.2 _ List.mem_cons_self
    · refine h.2.2 (j, jtr ad b w) (List.mem_cons_of_mem _ (List.mem_filter.mpr ⟨jas_mem h2 hw, ?_⟩))
      have hij' : ¬ j = i + 1 := fun z => hij z.symm
      by_cases hc : j + 1 = i
      · have h4 : ¬ (jtr ad b w).category = 2 := fun z => h3 ⟨hc, fun ad' b' => by rcases jtr_cat2 z with ⟨x, rfl⟩ | ⟨x, rfl⟩ <;> rfl⟩
        simp [h1, hc, h4, hij']
      · simp [h1, hc, hij']
theorem j_istore_n {j : Fin 4} {i : Nat} {x : Int32} {ls' : List Value} (hd : decode M.2.1 pc = .ok (.istore_n j, 1)) (hq : pc + 1 = q) (hi : (j : Nat) = i) (hn : i < M.2.2.1) (hl : jset1 ls i (.int x) = ls') (K : J l M Z G k n q ls' st μ) : J l M Z G k n pc ls (.int x :: st) μ := by
  intro p e s m args below meth c D cA ad0 ad A b H locs sl ok ex hAD hcs hR hL
  subst hq
  subst hl
  exact lv_istore_n ok.1 ok.2.1 hd hi (jL_has hL) hn rfl (fun sl' h => K p e s m args below meth c D cA ad0 ad A b H locs sl' ok ex hAD hcs hR (jL_set1 rfl h))
theorem j_istore {i : Nat} {x : Int32} {ls' : List Value} (hd : decode M.2.1 pc = .ok (.istore i, 2)) (hq : pc + 2 = q) (hn : i < M.2.2.1) (hl : jset1 ls i (.int x) = ls') (K : J l M Z G k n q ls' st μ) : J l M Z G k n pc ls (.int x :: st) μ := by
  intro p e s m args below meth c D cA ad0 ad A b H locs sl ok ex hAD hcs hR hL
  subst hq
  subst hl
  exact lv_istore ok.1 ok.2.1 hd (jL_has hL) hn rfl (fun sl' h => K p e s m args below meth c D cA ad0 ad A b H locs sl' ok ex hAD hcs hR (jL_set1 rfl h))
theorem j_lstore_n {j : Fin 4} {i : Nat} {x : Int64} {ls' : List Value} (hd : decode M.2.1 pc = .ok (.lstore_n j, 1)) (hq : pc + 1 = q) (hi : (j : Nat) = i) (hn : i + 1 < M.2.2.1) (hl : jset2 ls i (.long x) = ls') (K : J l M Z G k n q ls' st μ) : J l M Z G k n pc ls (.long x :: st) μ := by
  intro p e s m args below meth c D cA ad0 ad A b H locs sl ok ex hAD hcs hR hL
  subst hq
  subst hl
  exact lv_lstore_n ok.1 ok.2.1 hd hi (jL_has hL) hn rfl (fun sl' h => K p e s m args below meth c D cA ad0 ad A b H locs sl' ok ex hAD hcs hR (jL_set2 rfl h))
theorem j_lstore {i : Nat} {x : Int64} {ls' : List Value} (hd : decode M.2.1 pc = .ok (.lstore i, 2)) (hq : pc + 2 = q) (hn : i + 1 < M.2.2.1) (hl : jset2 ls i (.long x) = ls') (K : J l M Z G k n q ls' st μ) : J l M Z G k n pc ls (.long x :: st) μ := by
  intro p e s m args below meth c D cA ad0 ad A b H locs sl ok ex hAD hcs hR hL
  subst hq
  subst hl
  exact lv_lstore ok.1 ok.2.1 hd (jL_has hL) hn rfl (fun sl' h => K p e s m args below meth c D cA ad0 ad A b H locs sl' ok ex hAD hcs hR (jL_set2 rfl h))
theorem j_astore_n {j : Fin 4} {i : Nat} {x : Nat} {ls' : List Value} (hd : decode M.2.1 pc = .ok (.astore_n j, 1)) (hq : pc + 1 = q) (hi : (j : Nat) = i) (hn : i < M.2.2.1) (hl : jset1 ls i (.ref x) = ls') (K : J l M Z G k n q ls' st μ) : J l M Z G k n pc ls (.ref x :: st) μ := by
  intro p e s m args below meth c D cA ad0 ad A b H locs sl ok ex hAD hcs hR hL
  subst hq
  subst hl
  exact lv_astore_n ok.1 ok.2.1 hd hi (jL_has hL) hn rfl (fun sl' h => K p e s m args below meth c D cA ad0 ad A b H locs sl' ok ex hAD hcs hR (jL_set1 rfl h))
theorem j_astore {i : Nat} {x : Nat} {ls' : List Value} (hd : decode M.2.1 pc = .ok (.astore i, 2)) (hq : pc + 2 = q) (hn : i < M.2.2.1) (hl : jset1 ls i (.ref x) = ls') (K : J l M Z G k n q ls' st μ) : J l M Z G k n pc ls (.ref x :: st) μ := by
  intro p e s m args below meth c D cA ad0 ad A b H locs sl ok ex hAD hcs hR hL
  subst hq
  subst hl
  exact lv_astore ok.1 ok.2.1 hd (jL_has hL) hn rfl (fun sl' h => K p e s m args below meth c D cA ad0 ad A b H locs sl' ok ex hAD hcs hR (jL_set1 rfl h))
theorem j_iinc {i : Nat} {d : Int} {x : Int32} (v : Int32) {ls' : List Value} (hd : decode M.2.1 pc = .ok (.iinc i d, 3)) (hq : pc + 3 = q) (hx : ls[i]? = some (.int x)) (hv : x + Int32.ofInt d = v) (hn : i < M.2.2.1) (hl : jset1 ls i (.int v) = ls') (K : J l M Z G k n q ls' st μ) : J l M Z G k n pc ls st μ := by
  intro p e s m args below meth c D cA ad0 ad A b H locs sl ok ex hAD hcs hR hL
  subst hq
  subst hl
  obtain ⟨j, hj⟩ := List.getElem?_of_mem (jas_mem (ad := ad) (b := b) hx (fun z => by cases z))
  exact lv_iinc ok.1 ok.2.1 hd (jL_has hL) (k := j) hj hv hn rfl (fun sl' h => K p e s m args below meth c D cA ad0 ad A b H locs sl' ok ex hAD hcs hR (jL_set1 rfl h))
end JR
