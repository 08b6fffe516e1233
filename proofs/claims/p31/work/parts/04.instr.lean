section
variable {own : String} {cc : ByteArray} {nL : Nat} {ret : Option FieldType} {d pc : Nat} {ls st : List Value} {h : gH} {r : Option Value} {h2 : gH}
theorem R_iconst {n : Int} {v : Int32} (hd : decode cc pc = .ok (.iconst n, 1)) (hv : Int32.ofInt n = v) (k : gR own cc nL ret d (pc + 1) ls (.int v :: st) h r h2) : gR own cc nL ret d pc ls st h r h2 := by
  intro p l e s m args below meth c H locs w lsA X hP hS hL
  exact lv_iconst X.1 X.2.1 hd hv (k p l e s m args below meth c H locs w lsA X hP hS hL)
theorem R_bipush {n : Int} {v : Int32} (hd : decode cc pc = .ok (.bipush n, 2)) (hv : (Int8.ofInt n).toInt32 = v) (k : gR own cc nL ret d (pc + 2) ls (.int v :: st) h r h2) : gR own cc nL ret d pc ls st h r h2 := by
  intro p l e s m args below meth c H locs w lsA X hP hS hL
  exact lv_bipush X.1 X.2.1 hd hv (k p l e s m args below meth c H locs w lsA X hP hS hL)
theorem R_sipush {n : Int} {v : Int32} (hd : decode cc pc = .ok (.sipush n, 3)) (hv : (Int16.ofInt n).toInt32 = v) (k : gR own cc nL ret d (pc + 3) ls (.int v :: st) h r h2) : gR own cc nL ret d pc ls st h r h2 := by
  intro p l e s m args below meth c H locs w lsA X hP hS hL
  exact lv_sipush X.1 X.2.1 hd hv (k p l e s m args below meth c H locs w lsA X hP hS hL)
theorem R_lconst {n : Fin 2} {v : Int64} (hd : decode cc pc = .ok (.lconst n, 1)) (hv : Int64.ofNat (n : Nat) = v) (k : gR own cc nL ret d (pc + 1) ls (.long v :: st) h r h2) : gR own cc nL ret d pc ls st h r h2 := by
  intro p l e s m args below meth c H locs w lsA X hP hS hL
  exact lv_lconst X.1 X.2.1 hd hv (k p l e s m args below meth c H locs w lsA X hP hS hL)
def gKi (own : String) (index : Nat) (v : Int32) : Prop := Cond.constant own index v ∈ gW
def gKl (own : String) (index : Nat) (v : Int64) : Prop := Cond.constantLong own index v ∈ gW
theorem R_ldc {index : Nat} {v : Int32} (hd : decode cc pc = .ok (.ldc index, 2)) (hv : gKi own index v) (k : gR own cc nL ret d (pc + 2) ls (.int v :: st) h r h2) : gR own cc nL ret d pc ls st h r h2 := by
  intro p l e s m args below meth c H locs w lsA X hP hS hL
  exact lv_ldc X.1 X.2.1 X.2.2.2.2.1 (X.2.2.2.2.2.1 _ hv) hd (k p l e s m args below meth c H locs w lsA X hP hS hL)
theorem R_ldcw {index : Nat} {v : Int32} (hd : decode cc pc = .ok (.ldc_w index, 3)) (hv : gKi own index v) (k : gR own cc nL ret d (pc + 3) ls (.int v :: st) h r h2) : gR own cc nL ret d pc ls st h r h2 := by
  intro p l e s m args below meth c H locs w lsA X hP hS hL
  exact lv_ldcw X.1 X.2.1 X.2.2.2.2.1 (X.2.2.2.2.2.1 _ hv) hd (k p l e s m args below meth c H locs w lsA X hP hS hL)
theorem R_ldc2 {index : Nat} {v : Int64} (hd : decode cc pc = .ok (.ldc2_w index, 3)) (hv : gKl own index v) (k : gR own cc nL ret d (pc + 3) ls (.long v :: st) h r h2) : gR own cc nL ret d pc ls st h r h2 := by
  intro p l e s m args below meth c H locs w lsA X hP hS hL
  exact lv_ldc2 X.1 X.2.1 X.2.2.2.2.1 (X.2.2.2.2.2.1 _ hv) hd (k p l e s m args below meth c H locs w lsA X hP hS hL)
theorem gL_at {w : gw} {lsA : Array Slot} (hL : gL w lsA nL ls) {i : Nat} {v : Value} (h : ls[i]? = some v) (hn : v ≠ .null) : lsA[i]? = some (.val (gcv w v)) := hL.2.2.2 i v h hn
theorem R_iload_n {k0 : Fin 4} {i : Nat} {x : Int32} (hd : decode cc pc = .ok (.iload_n k0, 1)) (hi : (k0 : Nat) = i) (hx : ls[i]? = some (.int x)) (k : gR own cc nL ret d (pc + 1) ls (.int x :: st) h r h2) : gR own cc nL ret d pc ls st h r h2 := by
  intro p l e s m args below meth c H locs w lsA X hP hS hL
  exact lv_iload_n X.1 X.2.1 hd hi (gL_at hL hx (by intro q; cases q)) (k p l e s m args below meth c H locs w lsA X hP hS hL)
theorem R_iload {i : Nat} {x : Int32} (hd : decode cc pc = .ok (.iload i, 2)) (hx : ls[i]? = some (.int x)) (k : gR own cc nL ret d (pc + 2) ls (.int x :: st) h r h2) : gR own cc nL ret d pc ls st h r h2 := by
  intro p l e s m args below meth c H locs w lsA X hP hS hL
  exact lv_iload X.1 X.2.1 hd (gL_at hL hx (by intro q; cases q)) (k p l e s m args below meth c H locs w lsA X hP hS hL)
theorem R_aload_n {k0 : Fin 4} {i : Nat} {x : Nat} (hd : decode cc pc = .ok (.aload_n k0, 1)) (hi : (k0 : Nat) = i) (hx : ls[i]? = some (.ref x)) (k : gR own cc nL ret d (pc + 1) ls (.ref x :: st) h r h2) : gR own cc nL ret d pc ls st h r h2 := by
  intro p l e s m args below meth c H locs w lsA X hP hS hL
  exact lv_aload_n X.1 X.2.1 hd hi (gL_at hL hx (by intro q; cases q)) (k p l e s m args below meth c H locs w lsA X hP hS hL)
theorem R_aload {i : Nat} {x : Nat} (hd : decode cc pc = .ok (.aload i, 2)) (hx : ls[i]? = some (.ref x)) (k : gR own cc nL ret d (pc + 2) ls (.ref x :: st) h r h2) : gR own cc nL ret d pc ls st h r h2 := by
  intro p l e s m args below meth c H locs w lsA X hP hS hL
  exact lv_aload X.1 X.2.1 hd (gL_at hL hx (by intro q; cases q)) (k p l e s m args below meth c H locs w lsA X hP hS hL)
theorem R_lload_n {k0 : Fin 4} {i : Nat} {x : Int64} (hd : decode cc pc = .ok (.lload_n k0, 1)) (hi : (k0 : Nat) = i) (hx : ls[i]? = some (.long x)) (k : gR own cc nL ret d (pc + 1) ls (.long x :: st) h r h2) : gR own cc nL ret d pc ls st h r h2 := by
  intro p l e s m args below meth c H locs w lsA X hP hS hL
  exact lv_lload_n X.1 X.2.1 hd hi (gL_at hL hx (by intro q; cases q)) (k p l e s m args below meth c H locs w lsA X hP hS hL)
theorem R_lload {i : Nat} {x : Int64} (hd : decode cc pc = .ok (.lload i, 2)) (hx : ls[i]? = some (.long x)) (k : gR own cc nL ret d (pc + 2) ls (.long x :: st) h r h2) : gR own cc nL ret d pc ls st h r h2 := by
  intro p l e s m args below meth c H locs w lsA X hP hS hL
  exact lv_lload X.1 X.2.1 hd (gL_at hL hx (by intro q; cases q)) (k p l e s m args below meth c H locs w lsA X hP hS hL)
theorem gL_lt {w : gw} {lsA : Array Slot} {i : Nat} (hL : gL w lsA nL ls) (h : i < ls.length) : i < nL := by rw [hL.2.2.1] at h; exact h
theorem R_istore_n {k0 : Fin 4} {i : Nat} {x : Int32} {ls2 : List Value} (hd : decode cc pc = .ok (.istore_n k0, 1)) (hi : (k0 : Nat) = i) (hc : gn2 ls = true) (hb : i < ls.length) (hls : ls.set i (.int x) = ls2) (k : gR own cc nL ret d (pc + 1) ls2 st h r h2) : gR own cc nL ret d pc ls (.int x :: st) h r h2 := by
  intro p l e s m args below meth c H locs w lsA X hP hS hL
  exact lv_istore_n X.1 X.2.1 hd hi (gL_has hL) (gL_lt hL hb) rfl (fun lsB hB => k p l e s m args below meth c H locs w lsB X hP hS (hls ▸ gL_set hL.2.2.1 hc hB))
theorem R_istore {i : Nat} {x : Int32} {ls2 : List Value} (hd : decode cc pc = .ok (.istore i, 2)) (hc : gn2 ls = true) (hb : i < ls.length) (hls : ls.set i (.int x) = ls2) (k : gR own cc nL ret d (pc + 2) ls2 st h r h2) : gR own cc nL ret d pc ls (.int x :: st) h r h2 := by
  intro p l e s m args below meth c H locs w lsA X hP hS hL
  exact lv_istore X.1 X.2.1 hd (gL_has hL) (gL_lt hL hb) rfl (fun lsB hB => k p l e s m args below meth c H locs w lsB X hP hS (hls ▸ gL_set hL.2.2.1 hc hB))
theorem R_astore_n {k0 : Fin 4} {i : Nat} {x : Nat} {ls2 : List Value} (hd : decode cc pc = .ok (.astore_n k0, 1)) (hi : (k0 : Nat) = i) (hc : gn2 ls = true) (hb : i < ls.length) (hls : ls.set i (.ref x) = ls2) (k : gR own cc nL ret d (pc + 1) ls2 st h r h2) : gR own cc nL ret d pc ls (.ref x :: st) h r h2 := by
  intro p l e s m args below meth c H locs w lsA X hP hS hL
  exact lv_astore_n X.1 X.2.1 hd hi (gL_has hL) (gL_lt hL hb) rfl (fun lsB hB => k p l e s m args below meth c H locs w lsB X hP hS (hls ▸ gL_set hL.2.2.1 hc hB))
theorem R_astore {i : Nat} {x : Nat} {ls2 : List Value} (hd : decode cc pc = .ok (.astore i, 2)) (hc : gn2 ls = true) (hb : i < ls.length) (hls : ls.set i (.ref x) = ls2) (k : gR own cc nL ret d (pc + 2) ls2 st h r h2) : gR own cc nL ret d pc ls (.ref x :: st) h r h2 := by
  intro p l e s m args below meth c H locs w lsA X hP hS hL
  exact lv_astore X.1 X.2.1 hd (gL_has hL) (gL_lt hL hb) rfl (fun lsB hB => k p l e s m args below meth c H locs w lsB X hP hS (hls ▸ gL_set hL.2.2.1 hc hB))
theorem R_iinc {i : Nat} {n : Int} {x v : Int32} {ls2 : List Value} (hd : decode cc pc = .ok (.iinc i n, 3)) (hx : ls[i]? = some (.int x)) (hv : x + Int32.ofInt n = v) (hc : gn2 ls = true) (hb : i < ls.length) (hls : ls.set i (.int v) = ls2) (k : gR own cc nL ret d (pc + 3) ls2 st h r h2) : gR own cc nL ret d pc ls st h r h2 := by
  intro p l e s m args below meth c H locs w lsA X hP hS hL
  obtain ⟨kq, hkq⟩ := List.mem_iff_getElem?.mp (gasc_mem (w := w) hx (by intro q; cases q))
  exact lv_iinc X.1 X.2.1 hd (gL_has hL) hkq hv (gL_lt hL hb) rfl (fun lsB hB => k p l e s m args below meth c H locs w lsB X hP hS (hls ▸ gL_set hL.2.2.1 hc hB))
theorem R_iadd {x y : Int32} (hd : decode cc pc = .ok (.iadd, 1)) (k : gR own cc nL ret d (pc + 1) ls (.int (x + y) :: st) h r h2) : gR own cc nL ret d pc ls (.int y :: .int x :: st) h r h2 := by
  intro p l e s m args below meth c H locs w lsA X hP hS hL
  exact lv_iadd X.1 X.2.1 hd (k p l e s m args below meth c H locs w lsA X hP hS hL)
theorem R_isub {x y : Int32} (hd : decode cc pc = .ok (.isub, 1)) (k : gR own cc nL ret d (pc + 1) ls (.int (x - y) :: st) h r h2) : gR own cc nL ret d pc ls (.int y :: .int x :: st) h r h2 := by
  intro p l e s m args below meth c H locs w lsA X hP hS hL
  exact lv_isub X.1 X.2.1 hd (k p l e s m args below meth c H locs w lsA X hP hS hL)
theorem R_imul {x y : Int32} (hd : decode cc pc = .ok (.imul, 1)) (k : gR own cc nL ret d (pc + 1) ls (.int (x * y) :: st) h r h2) : gR own cc nL ret d pc ls (.int y :: .int x :: st) h r h2 := by
  intro p l e s m args below meth c H locs w lsA X hP hS hL
  exact lv_imul X.1 X.2.1 hd (k p l e s m args below meth c H locs w lsA X hP hS hL)
theorem R_iand {x y : Int32} (hd : decode cc pc = .ok (.iand, 1)) (k : gR own cc nL ret d (pc + 1) ls (.int (x &&& y) :: st) h r h2) : gR own cc nL ret d pc ls (.int y :: .int x :: st) h r h2 := by
  intro p l e s m args below meth c H locs w lsA X hP hS hL
  exact lv_iand X.1 X.2.1 hd (k p l e s m args below meth c H locs w lsA X hP hS hL)
theorem R_ior {x y : Int32} (hd : decode cc pc = .ok (.ior, 1)) (k : gR own cc nL ret d (pc + 1) ls (.int (x ||| y) :: st) h r h2) : gR own cc nL ret d pc ls (.int y :: .int x :: st) h r h2 := by
  intro p l e s m args below meth c H locs w lsA X hP hS hL
  exact lv_ior X.1 X.2.1 hd (k p l e s m args below meth c H locs w lsA X hP hS hL)
theorem R_ixor {x y : Int32} (hd : decode cc pc = .ok (.ixor, 1)) (k : gR own cc nL ret d (pc + 1) ls (.int (x ^^^ y) :: st) h r h2) : gR own cc nL ret d pc ls (.int y :: .int x :: st) h r h2 := by
  intro p l e s m args below meth c H locs w lsA X hP hS hL
  exact lv_ixor X.1 X.2.1 hd (k p l e s m args below meth c H locs w lsA X hP hS hL)
theorem R_ishl {x y : Int32} (hd : decode cc pc = .ok (.ishl, 1)) (k : gR own cc nL ret d (pc + 1) ls (.int (x <<< (y &&& 31)) :: st) h r h2) : gR own cc nL ret d pc ls (.int y :: .int x :: st) h r h2 := by
  intro p l e s m args below meth c H locs w lsA X hP hS hL
  exact lv_ishl X.1 X.2.1 hd (k p l e s m args below meth c H locs w lsA X hP hS hL)
theorem R_ishr {x y : Int32} (hd : decode cc pc = .ok (.ishr, 1)) (k : gR own cc nL ret d (pc + 1) ls (.int (x >>> (y &&& 31)) :: st) h r h2) : gR own cc nL ret d pc ls (.int y :: .int x :: st) h r h2 := by
  intro p l e s m args below meth c H locs w lsA X hP hS hL
  exact lv_ishr X.1 X.2.1 hd (k p l e s m args below meth c H locs w lsA X hP hS hL)
theorem R_idiv {x y : Int32} (hd : decode cc pc = .ok (.idiv, 1)) (hne : ¬ y = 0) (k : gR own cc nL ret d (pc + 1) ls (.int (x / y) :: st) h r h2) : gR own cc nL ret d pc ls (.int y :: .int x :: st) h r h2 := by
  intro p l e s m args below meth c H locs w lsA X hP hS hL
  exact lv_idiv X.1 X.2.1 hd hne (k p l e s m args below meth c H locs w lsA X hP hS hL)
theorem R_irem {x y : Int32} (hd : decode cc pc = .ok (.irem, 1)) (hne : ¬ y = 0) (k : gR own cc nL ret d (pc + 1) ls (.int (x - x / y * y) :: st) h r h2) : gR own cc nL ret d pc ls (.int y :: .int x :: st) h r h2 := by
  intro p l e s m args below meth c H locs w lsA X hP hS hL
  exact lv_irem X.1 X.2.1 hd hne (k p l e s m args below meth c H locs w lsA X hP hS hL)
theorem R_ineg {x : Int32} (hd : decode cc pc = .ok (.ineg, 1)) (k : gR own cc nL ret d (pc + 1) ls (.int (-x) :: st) h r h2) : gR own cc nL ret d pc ls (.int x :: st) h r h2 := by
  intro p l e s m args below meth c H locs w lsA X hP hS hL
  exact lv_ineg X.1 X.2.1 hd (k p l e s m args below meth c H locs w lsA X hP hS hL)
theorem R_iushr {x y : Int32} (hd : decode cc pc = .ok (.iushr, 1)) (k : gR own cc nL ret d (pc + 1) ls (.int ((x.toUInt32 >>> (y.toUInt32 &&& Int32.toUInt32 31)).toInt32) :: st) h r h2) : gR own cc nL ret d pc ls (.int y :: .int x :: st) h r h2 := by
  intro p l e s m args below meth c H locs w lsA X hP hS hL
  exact lv_iushr X.1 X.2.1 hd rfl (k p l e s m args below meth c H locs w lsA X hP hS hL)
theorem R_i2l {x : Int32} (hd : decode cc pc = .ok (.i2l, 1)) (k : gR own cc nL ret d (pc + 1) ls (.long x.toInt64 :: st) h r h2) : gR own cc nL ret d pc ls (.int x :: st) h r h2 := by
  intro p l e s m args below meth c H locs w lsA X hP hS hL
  exact lv_i2l X.1 X.2.1 hd rfl (k p l e s m args below meth c H locs w lsA X hP hS hL)
theorem R_i2b {x : Int32} (hd : decode cc pc = .ok (.i2b, 1)) (k : gR own cc nL ret d (pc + 1) ls (.int x.toInt8.toInt32 :: st) h r h2) : gR own cc nL ret d pc ls (.int x :: st) h r h2 := by
  intro p l e s m args below meth c H locs w lsA X hP hS hL
  exact lv_i2b X.1 X.2.1 hd rfl (k p l e s m args below meth c H locs w lsA X hP hS hL)
theorem R_i2s {x : Int32} (hd : decode cc pc = .ok (.i2s, 1)) (k : gR own cc nL ret d (pc + 1) ls (.int x.toInt16.toInt32 :: st) h r h2) : gR own cc nL ret d pc ls (.int x :: st) h r h2 := by
  intro p l e s m args below meth c H locs w lsA X hP hS hL
  exact lv_i2s X.1 X.2.1 hd rfl (k p l e s m args below meth c H locs w lsA X hP hS hL)
theorem R_i2c {x : Int32} (hd : decode cc pc = .ok (.i2c, 1)) (k : gR own cc nL ret d (pc + 1) ls (.int ((x.toUInt32 % 65536).toInt32) :: st) h r h2) : gR own cc nL ret d pc ls (.int x :: st) h r h2 := by
  intro p l e s m args below meth c H locs w lsA X hP hS hL
  exact lv_i2c X.1 X.2.1 hd rfl (k p l e s m args below meth c H locs w lsA X hP hS hL)
theorem R_lcmp {x y : Int64} (hd : decode cc pc = .ok (.lcmp, 1)) (k : gR own cc nL ret d (pc + 1) ls (.int (lg_cmp x y) :: st) h r h2) : gR own cc nL ret d pc ls (.long y :: .long x :: st) h r h2 := by
  intro p l e s m args below meth c H locs w lsA X hP hS hL
  exact W.lcmp X.1 X.2.1 hd (k p l e s m args below meth c H locs w lsA X hP hS hL)
theorem R_dup {v : Value} (hd : decode cc pc = .ok (.dup, 1)) (hv : v.category = 1) (k : gR own cc nL ret d (pc + 1) ls (v :: v :: st) h r h2) : gR own cc nL ret d pc ls (v :: st) h r h2 := by
  intro p l e s m args below meth c H locs w lsA X hP hS hL
  exact lv_dup X.1 X.2.1 hd (by rw [gcv_cat]; exact hv) (k p l e s m args below meth c H locs w lsA X hP hS hL)
theorem R_pop {v : Value} (hd : decode cc pc = .ok (.pop, 1)) (hv : v.category = 1) (k : gR own cc nL ret d (pc + 1) ls st h r h2) : gR own cc nL ret d pc ls (v :: st) h r h2 := by
  intro p l e s m args below meth c H locs w lsA X hP hS hL
  exact lv_pop X.1 X.2.1 hd (by rw [gcv_cat]; exact hv) (k p l e s m args below meth c H locs w lsA X hP hS hL)
theorem R_dup2 {u v : Value} (hd : decode cc pc = .ok (.dup2, 1)) (hu : u.category = 1) (hv : v.category = 1) (k : gR own cc nL ret d (pc + 1) ls (u :: v :: u :: v :: st) h r h2) : gR own cc nL ret d pc ls (u :: v :: st) h r h2 := by
  intro p l e s m args below meth c H locs w lsA X hP hS hL
  exact lv_dup2_11 X.1 X.2.1 hd (by rw [gcv_cat]; exact hu) (by rw [gcv_cat]; exact hv) (k p l e s m args below meth c H locs w lsA X hP hS hL)
theorem R_goto {off : Int} {tgt : Nat} (hd : decode cc pc = .ok (.goto off, 3)) (ht : (pc : Int) + off = (tgt : Int)) (k : gR own cc nL ret d tgt ls st h r h2) : gR own cc nL ret d pc ls st h r h2 := by
  intro p l e s m args below meth c H locs w lsA X hP hS hL
  exact lv_goto X.1 X.2.1 hd ht (k p l e s m args below meth c H locs w lsA X hP hS hL)
theorem R_if_eq {x : Int32} {off : Int} {tgt : Nat} (hd : decode cc pc = .ok (.ifCond .eq off, 3)) (ht : (pc : Int) + off = (tgt : Int)) (kt : (x = 0) → gR own cc nL ret d tgt ls st h r h2) (kf : (¬ x = 0) → gR own cc nL ret d (pc + 3) ls st h r h2) : gR own cc nL ret d pc ls (.int x :: st) h r h2 := by
  intro p l e s m args below meth c H locs w lsA X hP hS hL
  exact lv_if_eq X.1 X.2.1 hd ht (fun q => kt q p l e s m args below meth c H locs w lsA X hP hS hL) (fun q => kf q p l e s m args below meth c H locs w lsA X hP hS hL)
theorem R_if_ne {x : Int32} {off : Int} {tgt : Nat} (hd : decode cc pc = .ok (.ifCond .ne off, 3)) (ht : (pc : Int) + off = (tgt : Int)) (kt : (¬ x = 0) → gR own cc nL ret d tgt ls st h r h2) (kf : (x = 0) → gR own cc nL ret d (pc + 3) ls st h r h2) : gR own cc nL ret d pc ls (.int x :: st) h r h2 := by
  intro p l e s m args below meth c H locs w lsA X hP hS hL
  exact lv_if_ne X.1 X.2.1 hd ht (fun q => kt q p l e s m args below meth c H locs w lsA X hP hS hL) (fun q => kf q p l e s m args below meth c H locs w lsA X hP hS hL)
theorem R_if_lt {x : Int32} {off : Int} {tgt : Nat} (hd : decode cc pc = .ok (.ifCond .lt off, 3)) (ht : (pc : Int) + off = (tgt : Int)) (kt : (x < 0) → gR own cc nL ret d tgt ls st h r h2) (kf : (¬ x < 0) → gR own cc nL ret d (pc + 3) ls st h r h2) : gR own cc nL ret d pc ls (.int x :: st) h r h2 := by
  intro p l e s m args below meth c H locs w lsA X hP hS hL
  exact lv_if_lt X.1 X.2.1 hd ht (fun q => kt q p l e s m args below meth c H locs w lsA X hP hS hL) (fun q => kf q p l e s m args below meth c H locs w lsA X hP hS hL)
theorem R_if_gt {x : Int32} {off : Int} {tgt : Nat} (hd : decode cc pc = .ok (.ifCond .gt off, 3)) (ht : (pc : Int) + off = (tgt : Int)) (kt : (0 < x) → gR own cc nL ret d tgt ls st h r h2) (kf : (¬ 0 < x) → gR own cc nL ret d (pc + 3) ls st h r h2) : gR own cc nL ret d pc ls (.int x :: st) h r h2 := by
  intro p l e s m args below meth c H locs w lsA X hP hS hL
  exact lv_if_gt X.1 X.2.1 hd ht (fun q => kt q p l e s m args below meth c H locs w lsA X hP hS hL) (fun q => kf q p l e s m args below meth c H locs w lsA X hP hS hL)
theorem R_if_ge {x : Int32} {off : Int} {tgt : Nat} (hd : decode cc pc = .ok (.ifCond .ge off, 3)) (ht : (pc : Int) + off = (tgt : Int)) (kt : (¬ x < 0) → gR own cc nL ret d tgt ls st h r h2) (kf : (x < 0) → gR own cc nL ret d (pc + 3) ls st h r h2) : gR own cc nL ret d pc ls (.int x :: st) h r h2 := by
  intro p l e s m args below meth c H locs w lsA X hP hS hL
  exact lv_if_ge X.1 X.2.1 hd ht (fun q => kt (Int32.not_lt.mpr q) p l e s m args below meth c H locs w lsA X hP hS hL) (fun q => kf (Int32.not_le.mp q) p l e s m args below meth c H locs w lsA X hP hS hL)
theorem R_if_le {x : Int32} {off : Int} {tgt : Nat} (hd : decode cc pc = .ok (.ifCond .le off, 3)) (ht : (pc : Int) + off = (tgt : Int)) (kt : (¬ 0 < x) → gR own cc nL ret d tgt ls st h r h2) (kf : (0 < x) → gR own cc nL ret d (pc + 3) ls st h r h2) : gR own cc nL ret d pc ls (.int x :: st) h r h2 := by
  intro p l e s m args below meth c H locs w lsA X hP hS hL
  exact lv_if_le X.1 X.2.1 hd ht (fun q => kt (Int32.not_lt.mpr q) p l e s m args below meth c H locs w lsA X hP hS hL) (fun q => kf (Int32.not_le.mp q) p l e s m args below meth c H locs w lsA X hP hS hL)
theorem R_icmp_eq {x y : Int32} {off : Int} {tgt : Nat} (hd : decode cc pc = .ok (.if_icmp .eq off, 3)) (ht : (pc : Int) + off = (tgt : Int)) (kt : (x = y) → gR own cc nL ret d tgt ls st h r h2) (kf : (¬ x = y) → gR own cc nL ret d (pc + 3) ls st h r h2) : gR own cc nL ret d pc ls (.int y :: .int x :: st) h r h2 := by
  intro p l e s m args below meth c H locs w lsA X hP hS hL
  exact lv_icmp_eq X.1 X.2.1 hd ht (fun q => kt q p l e s m args below meth c H locs w lsA X hP hS hL) (fun q => kf q p l e s m args below meth c H locs w lsA X hP hS hL)
theorem R_icmp_ne {x y : Int32} {off : Int} {tgt : Nat} (hd : decode cc pc = .ok (.if_icmp .ne off, 3)) (ht : (pc : Int) + off = (tgt : Int)) (kt : (¬ x = y) → gR own cc nL ret d tgt ls st h r h2) (kf : (x = y) → gR own cc nL ret d (pc + 3) ls st h r h2) : gR own cc nL ret d pc ls (.int y :: .int x :: st) h r h2 := by
  intro p l e s m args below meth c H locs w lsA X hP hS hL
  exact lv_icmp_ne X.1 X.2.1 hd ht (fun q => kt q p l e s m args below meth c H locs w lsA X hP hS hL) (fun q => kf q p l e s m args below meth c H locs w lsA X hP hS hL)
theorem R_icmp_lt {x y : Int32} {off : Int} {tgt : Nat} (hd : decode cc pc = .ok (.if_icmp .lt off, 3)) (ht : (pc : Int) + off = (tgt : Int)) (kt : (x < y) → gR own cc nL ret d tgt ls st h r h2) (kf : (¬ x < y) → gR own cc nL ret d (pc + 3) ls st h r h2) : gR own cc nL ret d pc ls (.int y :: .int x :: st) h r h2 := by
  intro p l e s m args below meth c H locs w lsA X hP hS hL
  exact lv_icmp_lt X.1 X.2.1 hd ht (fun q => kt q p l e s m args below meth c H locs w lsA X hP hS hL) (fun q => kf q p l e s m args below meth c H locs w lsA X hP hS hL)
theorem R_icmp_gt {x y : Int32} {off : Int} {tgt : Nat} (hd : decode cc pc = .ok (.if_icmp .gt off, 3)) (ht : (pc : Int) + off = (tgt : Int)) (kt : (y < x) → gR own cc nL ret d tgt ls st h r h2) (kf : (¬ y < x) → gR own cc nL ret d (pc + 3) ls st h r h2) : gR own cc nL ret d pc ls (.int y :: .int x :: st) h r h2 := by
  intro p l e s m args below meth c H locs w lsA X hP hS hL
  exact lv_icmp_gt X.1 X.2.1 hd ht (fun q => kt q p l e s m args below meth c H locs w lsA X hP hS hL) (fun q => kf q p l e s m args below meth c H locs w lsA X hP hS hL)
theorem R_icmp_ge {x y : Int32} {off : Int} {tgt : Nat} (hd : decode cc pc = .ok (.if_icmp .ge off, 3)) (ht : (pc : Int) + off = (tgt : Int)) (kt : (¬ x < y) → gR own cc nL ret d tgt ls st h r h2) (kf : (x < y) → gR own cc nL ret d (pc + 3) ls st h r h2) : gR own cc nL ret d pc ls (.int y :: .int x :: st) h r h2 := by
  intro p l e s m args below meth c H locs w lsA X hP hS hL
  exact lv_icmp_ge X.1 X.2.1 hd ht (fun q => kt (Int32.not_lt.mpr q) p l e s m args below meth c H locs w lsA X hP hS hL) (fun q => kf (Int32.not_le.mp q) p l e s m args below meth c H locs w lsA X hP hS hL)
theorem R_icmp_le {x y : Int32} {off : Int} {tgt : Nat} (hd : decode cc pc = .ok (.if_icmp .le off, 3)) (ht : (pc : Int) + off = (tgt : Int)) (kt : (¬ y < x) → gR own cc nL ret d tgt ls st h r h2) (kf : (y < x) → gR own cc nL ret d (pc + 3) ls st h r h2) : gR own cc nL ret d pc ls (.int y :: .int x :: st) h r h2 := by
  intro p l e s m args below meth c H locs w lsA X hP hS hL
  exact lv_icmp_le X.1 X.2.1 hd ht (fun q => kt (Int32.not_lt.mpr q) p l e s m args below meth c H locs w lsA X hP hS hL) (fun q => kf (Int32.not_le.mp q) p l e s m args below meth c H locs w lsA X hP hS hL)
theorem R_lookup {dflt : Int} {ps : Array (Int × Int)} {len : Nat} {x : Int32} {off : Int} {tgt : Nat} (hd : decode cc pc = .ok (.lookupswitch dflt ps, len)) (hp : (ps.toList.zip (ps.toList.drop 1)).all (fun (a, next) => a.1 < next.1) = true) (ho : Op.lookupswitch.offset ps.toList dflt x.toInt = off) (ht : (pc : Int) + off = (tgt : Int)) (k : gR own cc nL ret d tgt ls st h r h2) : gR own cc nL ret d pc ls (.int x :: st) h r h2 := by
  intro p l e s m args below meth c H locs w lsA X hP hS hL
  exact lv_lookup X.1 X.2.1 hd hp ho ht (k p l e s m args below meth c H locs w lsA X hP hS hL)
theorem R_tableOut {dflt lo hi : Int} {offs : Array Int} {len : Nat} {x : Int32} {tgt : Nat} (hd : decode cc pc = .ok (.tableswitch dflt lo hi offs, len)) (hx : x.toInt < lo ∨ hi < x.toInt) (ht : (pc : Int) + dflt = (tgt : Int)) (k : gR own cc nL ret d tgt ls st h r h2) : gR own cc nL ret d pc ls (.int x :: st) h r h2 := by
  intro p l e s m args below meth c H locs w lsA X hP hS hL
  exact lv_tableOut X.1 X.2.1 hd hx ht (k p l e s m args below meth c H locs w lsA X hP hS hL)
theorem R_tableIn {dflt lo hi : Int} {offs : Array Int} {len : Nat} {x : Int32} {off : Int} {tgt : Nat} (hd : decode cc pc = .ok (.tableswitch dflt lo hi offs, len)) (g1 : ¬ x.toInt < lo) (g2 : ¬ hi < x.toInt) (ho : offs[(x.toInt - lo).toNat]? = some off) (ht : (pc : Int) + off = (tgt : Int)) (k : gR own cc nL ret d tgt ls st h r h2) : gR own cc nL ret d pc ls (.int x :: st) h r h2 := by
  intro p l e s m args below meth c H locs w lsA X hP hS hL
  exact lv_tableIn X.1 X.2.1 hd g1 g2 ho ht (k p l e s m args below meth c H locs w lsA X hP hS hL)
/-- a field's link: class ci's field k, by own's constant idx -/
def gF (own : String) (idx ci k : Nat) : Prop := ∃ (C : String) (T : u_T) (N : Nat), gcl[ci]? = some (C, T, N) ∧ k < N ∧ (∀ t ∈ u_ws C T N, t ∈ gW) ∧ (Cond.fieldLink own idx (T k).1 (T k).2.1 (T k).2.2.1 ∈ gW ∨ ∃ host, Cond.fieldLinkNest own idx (T k).1 (T k).2.1 (T k).2.2.1 host ∈ gN)
theorem gce_obj (w : gw) (h : gH) (o ci N : Nat) (rl : List (Option Nat)) : gce w h o (ci + 3, N, rl) = .inr (ci, (List.range N).map (fun k => gsl w (rl.getD k none) (h o k))) := rfl
theorem gfs_at (w : gw) (h : gH) (o N k : Nat) (rl : List (Option Nat)) (hk : k < N) : ((List.range N).map (fun k => gsl w (rl.getD k none) (h o k)))[k]? = some (gsl w (rl.getD k none) (h o k)) := by
  rw [List.getElem?_map, List.getElem?_range hk]; rfl
theorem R_getv {idx ci k o N : Nat} {rl : List (Option Nat)} {v : Value} (hd : decode cc pc = .ok (.getfield idx, 3)) (hF : gF own idx ci k) (hO : gK o (ci + 3, N, rl)) (hkN : k < N) (hv : ∀ w : gw, gsl w (rl.getD k none) (h o k) = gcv w v) (kk : gR own cc nL ret d (pc + 3) ls (v :: st) h r h2) : gR own cc nL ret d pc ls (.ref o :: st) h r h2 := by
  intro p l e s m args below meth c H locs w lsA X hP hS hL
  obtain ⟨C, T, N1, hc, hk, hin, hl⟩ := hF
  have he : (gws w h)[o]? = some (w.2.2 o, .inr (ci, (List.range N).map (fun k => gsl w (rl.getD k none) (h o k)))) := gws_at w h hO
  have hva := gfs_at w h o N k rl hkN
  rw [hv w] at hva
  have hk2 := kk p l e s m args below meth c H locs w lsA X hP hS hL
  rcases hl with hl | ⟨host, hl⟩
  · exact va_get X.1 X.2.1 X.2.2.2.2.2.1 hin X.2.2.2.2.1 X.2.2.2.2.2.2.2.1 hP o he hc k hk (X.2.2.2.2.2.1 _ hl) (fun _ q => q) hva hd hk2
  · exact va_getN X.1 X.2.1 X.2.2.2.2.2.1 hin X.2.2.2.2.1 X.2.2.2.2.2.2.2.1 hP o he hc k hk (X.2.2.2.2.2.2.2.2.1 _ hl) (fun _ q => q) hva hd hk2
theorem R_geti {idx ci k o N : Nat} {rl : List (Option Nat)} (hd : decode cc pc = .ok (.getfield idx, 3)) (hF : gF own idx ci k) (hO : gK o (ci + 3, N, rl)) (hkN : k < N) (hr : rl.getD k none = none) (kk : gR own cc nL ret d (pc + 3) ls (.int (h o k) :: st) h r h2) : gR own cc nL ret d pc ls (.ref o :: st) h r h2 :=
  R_getv hd hF hO hkN (fun w => by rw [hr]; rfl) kk
theorem R_getr {idx ci k o o2 N : Nat} {rl : List (Option Nat)} (hd : decode cc pc = .ok (.getfield idx, 3)) (hF : gF own idx ci k) (hO : gK o (ci + 3, N, rl)) (hkN : k < N) (hr : rl.getD k none = some o2) (kk : gR own cc nL ret d (pc + 3) ls (.ref o2 :: st) h r h2) : gR own cc nL ret d pc ls (.ref o :: st) h r h2 :=
  R_getv hd hF hO hkN (fun w => by rw [hr]; rfl) kk
/-- what a put needs besides: the field isn't final, its type -/
def gP (ci k : Nat) (ty : FieldType) : Prop := ∃ (C : String) (T : u_T) (N : Nat) (ty0 : Nat → FieldType), gcl[ci]? = some (C, T, N) ∧ (∀ k, k < N → parseFieldDescriptor (T k).2.2.1 = some (ty0 k)) ∧ (∀ a, a < N → ∀ b, b < N → a ≠ b → (T a).2.1 ≠ (T b).2.1) ∧ (T k).2.2.2 = false ∧ parseFieldDescriptor (T k).2.2.1 = some ty
theorem gce_hu (w : gw) (h : gH) (o ci N k : Nat) (rl : List (Option Nat)) (x : Int32) (hk : k < N) (hr : rl.getD k none = none) : gce w (hu h o k x) o (ci + 3, N, rl) = .inr (ci, ((List.range N).map (fun k => gsl w (rl.getD k none) (h o k))).set k (.int x)) := by
  rw [gce_obj]
  congr 2
  apply List.ext_getElem?
  intro i
  rw [List.getElem?_set, List.getElem?_map]
  by_cases hi : k = i
  · subst hi
    have e : gsl w (rl.getD k none) (hu h o k x o k) = .int x := by rw [hr]; simp [gsl, hu]
    rw [List.getElem?_range hk, if_pos rfl, if_pos (by simpa using hk)]
    exact congrArg some e
  · rw [if_neg hi, List.getElem?_map]
    by_cases hN : i < N
    · rw [List.getElem?_range hN]
      simp only [Option.map_some]
      have e : hu h o k x o i = h o i := by
        show (if o = o then (if i = k then x else h o i) else h o i) = h o i
        rw [if_pos rfl, if_neg (fun e => hi e.symm)]
      rw [e]
    · simp [List.getElem?_eq_none, hN]
theorem hu_ne {h : gH} {o k : Nat} {x : Int32} {a : Nat} (ha : a ≠ o) : hu h o k x a = h a := by
  funext b
  simp [hu, ha]
theorem R_put {idx ci k o N : Nat} {rl : List (Option Nat)} {ty : FieldType} {x : Int32} (hd : decode cc pc = .ok (.putfield idx, 3)) (hF : gF own idx ci k) (hp : gP ci k ty) (hn : narrow ty (.int x) = .int x) (hf : fits ty (.int x) = true) (hO : gK o (ci + 3, N, rl)) (hkN : k < N) (hr : rl.getD k none = none) (kk : gR own cc nL ret d (pc + 3) ls st (hu h o k x) r h2) : gR own cc nL ret d pc ls (.int x :: .ref o :: st) h r h2 := by
  intro p l e s m args below meth c H locs w lsA X hP hS hL
  obtain ⟨C, T, N1, hc, hk, hin, hl⟩ := hF
  obtain ⟨C2, T2, N2, ty0, hc2, hty, hnm, hfin, hty2⟩ := hp
  rw [hc] at hc2
  cases hc2
  have he : (gws w h)[o]? = some (w.2.2 o, .inr (ci, (List.range N).map (fun k => gsl w (rl.getD k none) (h o k)))) := gws_at w h hO
  have hlen : k < ((List.range N).map (fun k => gsl w (rl.getD k none) (h o k))).length := by simpa using hkN
  have hset := gws_set w (h := h) (h2 := hu h o k x) hO (gce_hu w h o ci N k rl x hkN hr) (fun a ha => hu_ne ha)
  have hDv := gD_va (h := h) X.2.2.2.2.2.2.2.2.2.1
  rcases hl with hl | ⟨host, hl⟩
  · exact va_put X.1 X.2.1 X.2.2.2.2.2.1 hin ty0 hty hnm X.2.2.2.2.1 X.2.2.2.2.2.2.2.1 hP hDv hS o he hc k hk (X.2.2.2.2.2.1 _ hl) (fun _ q => q) hfin hty2 hn hf hlen hd (fun H1 locs1 hP1 _ hS1 => kk p l e s m args below meth c H1 locs1 w lsA X (hset ▸ hP1) hS1 hL)
  · exact va_putN X.1 X.2.1 X.2.2.2.2.2.1 hin ty0 hty hnm X.2.2.2.2.1 X.2.2.2.2.2.2.2.1 hP hDv hS o he hc k hk (X.2.2.2.2.2.2.2.2.1 _ hl) (fun _ q => q) hfin hty2 hn hf hlen hd (fun H1 locs1 hP1 _ hS1 => kk p l e s m args below meth c H1 locs1 w lsA X (hset ▸ hP1) hS1 hL)
theorem R_puti {idx ci k o N : Nat} {rl : List (Option Nat)} {x : Int32} (hd : decode cc pc = .ok (.putfield idx, 3)) (hF : gF own idx ci k) (hp : gP ci k .int) (hO : gK o (ci + 3, N, rl)) (hkN : k < N) (hr : rl.getD k none = none) (kk : gR own cc nL ret d (pc + 3) ls st (hu h o k x) r h2) : gR own cc nL ret d pc ls (.int x :: .ref o :: st) h r h2 :=
  R_put hd hF hp rfl rfl hO hkN hr kk
theorem R_putz {idx ci k o N : Nat} {rl : List (Option Nat)} {x : Int32} (hd : decode cc pc = .ok (.putfield idx, 3)) (hF : gF own idx ci k) (hp : gP ci k .boolean) (hb : x = 0 ∨ x = 1) (hO : gK o (ci + 3, N, rl)) (hkN : k < N) (hr : rl.getD k none = none) (kk : gR own cc nL ret d (pc + 3) ls st (hu h o k x) r h2) : gR own cc nL ret d pc ls (.int x :: .ref o :: st) h r h2 :=
  R_put hd hF hp (by rcases hb with rfl | rfl <;> decide +kernel) (by rcases hb with rfl | rfl <;> decide +kernel) hO hkN hr kk
/-! arrays -/
theorem gty0 (w : gw) : (gty w)[0]? = some (w.2.1.1, .int) := rfl
theorem gty1 (w : gw) : (gty w)[1]? = some (w.2.1.2.1, .byte) := rfl
theorem gty2 (w : gw) : (gty w)[2]? = some (w.2.1.2.2, .object RX5) := rfl
theorem R_iald {o n : Nat} {rl : List (Option Nat)} {i : Int32} (hd : decode cc pc = .ok (.iaload, 1)) (hO : gK o (0, n, rl)) (hi : vp_in i n) (kk : gR own cc nL ret d (pc + 1) ls (.int (h o i.toNatClampNeg) :: st) h r h2) : gR own cc nL ret d pc ls (.int i :: .ref o :: st) h r h2 := by
  intro p l e s m args below meth c H locs w lsA X hP hS hL
  exact va_iald X.1 X.2.1 X.2.2.2.2.2.2.2.1 hP o 0 (gws_at w h hO) (gty0 w) hi hd (kk p l e s m args below meth c H locs w lsA X hP hS hL)
theorem R_aald {o n o2 : Nat} {rl : List (Option Nat)} {i : Int32} (hd : decode cc pc = .ok (.aaload, 1)) (hO : gK o (2, n, rl)) (hi : vp_in i n) (hr : rl.getD i.toNatClampNeg none = some o2) (kk : gR own cc nL ret d (pc + 1) ls (.ref o2 :: st) h r h2) : gR own cc nL ret d pc ls (.int i :: .ref o :: st) h r h2 := by
  intro p l e s m args below meth c H locs w lsA X hP hS hL
  refine va_aldq X.1 X.2.1 X.2.2.2.2.2.2.2.1 hP o 2 (gws_at w h hO) (gty2 w) hi hd ?_
  have := kk p l e s m args below meth c H locs w lsA X hP hS hL
  dsimp only
  rw [hr]
  exact this
theorem gce_iast (w : gw) (h : gH) (o n : Nat) (rl : List (Option Nat)) (k : Nat) (x : Int32) : gce w (hu h o k x) o (0, n, rl) = .inl (w.2.1.1, n, .inl (upd (h o) k x)) := by
  show Sum.inl (w.2.1.1, n, Sum.inl (hu h o k x o)) = _
  have e : hu h o k x o = upd (h o) k x := by funext b; simp [hu, upd]
  rw [e]
theorem R_iast {o n : Nat} {rl : List (Option Nat)} {i x : Int32} (hd : decode cc pc = .ok (.iastore, 1)) (hO : gK o (0, n, rl)) (hi : vp_in i n) (kk : gR own cc nL ret d (pc + 1) ls st (hu h o i.toNatClampNeg x) r h2) : gR own cc nL ret d pc ls (.int x :: .int i :: .ref o :: st) h r h2 := by
  intro p l e s m args below meth c H locs w lsA X hP hS hL
  exact va_iast X.1 X.2.1 X.2.2.2.2.2.2.2.1 hP (gD_va (h := h) X.2.2.2.2.2.2.2.2.2.1) hS o 0 (gws_at w h hO) (gty0 w) hi hd (fun H1 locs1 hP1 _ hS1 => kk p l e s m args below meth c H1 locs1 w lsA X ((gws_set w (h := h) hO (gce_iast w h o n rl i.toNatClampNeg x) (fun a ha => hu_ne ha)) ▸ hP1) hS1 hL)
theorem R_alen {o n : Nat} {rl : List (Option Nat)} (hd : decode cc pc = .ok (.arraylength, 1)) (hO : gK o (0, n, rl)) {v : Int32} (hv : Int32.ofNat n = v) (kk : gR own cc nL ret d (pc + 1) ls (.int v :: st) h r h2) : gR own cc nL ret d pc ls (.ref o :: st) h r h2 := by
  intro p l e s m args below meth c H locs w lsA X hP hS hL
  exact va_alen X.1 X.2.1 X.2.2.2.2.2.2.2.1 hP o 0 (gws_at w h hO) (gty0 w) hv hd (kk p l e s m args below meth c H locs w lsA X hP hS hL)
/-- System.arraycopy, between rows of ints -/
def gcp (h : gH) (a sp b dp n : Nat) : gH := fun o k => if o = b then va_cpy (h a) (h b) sp dp n k else h o k
theorem gcp_ne {h : gH} {a sp b dp n o : Nat} (ho : o ≠ b) : gcp h a sp b dp n o = h o := by
  funext k
  simp [gcp, ho]
theorem gce_cpy (w : gw) (h : gH) (a sp b dp n nb : Nat) (rl : List (Option Nat)) : gce w (gcp h a sp b dp n) b (0, nb, rl) = .inl (w.2.1.1, nb, .inl (va_cpy (h a) (h b) sp dp n)) := by
  show Sum.inl (w.2.1.1, nb, Sum.inl (gcp h a sp b dp n b)) = _
  have e : gcp h a sp b dp n b = va_cpy (h a) (h b) sp dp n := by funext k; simp [gcp]
  rw [e]
def gCy (own : String) (idx : Nat) : Prop := Cond.methodLink own idx arraycopyName ∈ gW ∧ Cond.native arraycopyName ∈ gW ∧ Cond.static arraycopyName ∈ gW ∧ Cond.initialized "java/lang/System" ∈ gW
theorem R_copy {idx a b na nb : Nat} {ra rb : List (Option Nat)} {sp dp n : Int32} (hd : decode cc pc = .ok (.invokestatic idx, 3)) (hc : gCy own idx) (hA : gK a (0, na, ra)) (hB : gK b (0, nb, rb)) (h1 : ¬ sp < 0) (h2' : ¬ dp < 0) (h3 : ¬ n < 0) (h4 : sp.toNatClampNeg + n.toNatClampNeg ≤ na) (h5 : dp.toNatClampNeg + n.toNatClampNeg ≤ nb) (hdd : 1 ≤ d) (hst : gcat st ≤ 8)
    (kk : gR own cc nL ret d (pc + 3) ls st (gcp h a sp.toNatClampNeg b dp.toNatClampNeg n.toNatClampNeg) r h2) : gR own cc nL ret d pc ls (.int n :: .int dp :: .ref b :: .int sp :: .ref a :: st) h r h2 := by
  intro p l e s m args below meth c H locs w lsA X hP hS hL
  refine va_copyi (rest := st.map (gcv w)) X.1 X.2.1 (X.2.2.2.1.trans hL.1.symm) X.2.2.2.2.1 (X.2.2.2.2.2.1 _ hc.1) (X.2.2.2.2.2.1 _ hc.2.1) (X.2.2.2.2.2.1 _ hc.2.2.1) (X.2.2.2.2.2.1 _ hc.2.2.2) X.2.2.2.2.2.2.2.1 hP (gD_va (h := h) X.2.2.2.2.2.2.2.2.2.1) hS a b 0 0 (gws_at w h hA) (gws_at w h hB) (gty0 w) (gty0 w) rfl h1 h2' h3 h4 h5 (fun _ _ => rfl) hdd ?_ hd (fun H1 locs1 hP1 _ hS1 => kk p l e s m args below meth c H1 locs1 w lsA X ((gws_set w (h := h) hB (gce_cpy w h a sp.toNatClampNeg b dp.toNatClampNeg n.toNatClampNeg nb rb) (fun o ho => gcp_ne ho)) ▸ hP1) hS1 hL)
  rw [gcat_eq]
  have e : nativeFrameWords "java/lang/System" "arraycopy" 5 = 7 := by decide +kernel
  rw [e]
  show _ ≤ 64 * d
  omega
/-! calls -/
def gLk (own : String) (idx : Nat) (y : MethodName) (n : Nat) : Prop := (Cond.methodLink own idx y ∈ gW ∨ ∃ host, Cond.methodLinkNest own idx y host ∈ gN) ∧ Cond.initialized y.cls ∈ gW ∧ (y.cls ≠ "java/lang/invoke/MethodHandle" ∧ y.cls ≠ "java/lang/invoke/VarHandle" ∧ (parseMethodDescriptor y.desc).map (fun d => d.parameters.length) = some n)
def gLV (own : String) (idx : Nat) (y : MethodName) (n : Nat) : Prop := gLk own idx y n ∧ Cond.instanceMethod y ∈ gW ∧ Cond.selects y.cls y y ∈ gW
def gLS (own : String) (idx : Nat) (y : MethodName) (n : Nat) : Prop := gLk own idx y n ∧ Cond.static y ∈ gW
theorem gPre_blind (w : gw) (h : gH) (av : List Value) : FrameBlind (va_Pc av (gPre w h)) := fun a U g mk q => ⟨q.1, q.2.1, va_K.moved (u := U) (U := U.calling g mk a) (Vm.Alike.refl U.vm) q.2.2.1, fun z hz => gN_same hz (u := U) (U := U.calling g mk a) rfl (q.2.2.2.1 z hz), gXt_same (u := U) (U := U.calling g mk a) rfl q.2.2.2.2⟩
theorem gPre_of {own : String} {cc : ByteArray} {nL : Nat} {ret : Option FieldType} {p : Program} {s : State} {m : MethodId} {args : Array Value} {meth : Method} {c : Code} {w : gw} {h : gH} {H : Heap} (X : gX own cc nL ret p s m args meth c w) {locs : List Loc} (hP : va_P w.1 gcl (gws w h) H) (hS : va_S (gA w) s.heap H locs) {U : State} (hU : U.heap = H) (hW : s.WarmedH U.vm) : gPre w h U :=
  ⟨by rw [hU]; exact hP, va_K.moved hW.alike X.2.2.2.2.2.2.2.1, fun z hz => gN_warm hz hW (X.2.2.2.2.2.2.2.2.1 z hz), gXt_moved hW (by rw [hU]; exact hS.2.1) X.2.2.2.2.2.2.2.2.2.2⟩
theorem gcall {p : Program} {l : Launch} {e : Env} {R : Room} {s : State} {m : MethodId} {args : Array Value} {below : List Frame} {meth : Method} {c : Code} {H H0 : Heap} {locs : List Loc} {Q : State → Prop} {w : gw} {lsA : Array Slot} {st0 rest : List Value} {a : Array Value} {r1 : Option Value} {h1 : gH} {pc : Nat}
    (hr : va_Run p l e R s m args below meth c H locs 0 0 0 0 (F0 m pc lsA st0) rest (gQ w r1 h1 a) (gA w)) (hS : va_S (gA w) H0 H locs)
    (kk : ∀ (H1 : Heap) (locs1 : List Loc), va_P w.1 gcl (gws w h1) H1 → va_S (gA w) H0 H1 locs1 → W p l e R s m args below meth c H1 locs1 0 0 Q (F0 m (pc + 3) lsA ((r1.map (gcv w)).toList ++ rest))) : W p l e R s m args below meth c H locs 0 0 Q (F0 m pc lsA st0) := by
  intro T hT X
  obtain ⟨v, st₀, t, T', L, h0, X', hL, e1, e2, ⟨⟨hv, hp⟩, hz, hk⟩, st⟩ := hr T hT X
  cases hv
  rw [h0] at hz hk
  obtain ⟨t2, a1, b1⟩ := kk T'.heap (locs ++ L) (by rw [e1]; exact hp.1)
    ⟨Nat.le_trans hS.1 (by rw [e1]; exact hz), fun q g1 g2 => by rw [e1, hk q (Nat.lt_of_lt_of_le g1 hS.1) g2]; exact hS.2.1 q g1 g2, fun q hq => by
      rcases List.mem_append.mp hq with g | g
      · exact hS.2.2 q g
      · exact hL q g⟩ T' rfl X'
  exact ⟨t2, st t2 a1, b1⟩
theorem gGood {y : MethodName} {bytes : ByteArray} {maxL : Nat} {ret : Option FieldType} (hc : Cond.code y bytes maxL ret ∈ gW) : GoodIn gW (Cond.code y bytes maxL ret :: gW) := fun w hw => by
  rcases List.mem_cons.mp hw with rfl | hw
  · exact ⟨hc, gW_good hc⟩
  · exact ⟨hw, gW_good hw⟩
theorem groom {d1 d maxL : Nat} (h1 : d1 + 1 ≤ d) (h2 : maxL ≤ 45) : (grm d1).frames + 1 ≤ (grm d).frames ∧ 8 + (maxL + 11) + (grm d1).locals ≤ (grm d).locals := by
  refine ⟨h1, ?_⟩
  show 8 + (maxL + 11) + 64 * d1 ≤ 64 * d
  omega
theorem gspl0 {n : Nat} {st as rest : List Value} (h : gspl n [] st = some (as, rest)) (w : gw) : (as.map (gcv w)).length = n ∧ st.map (gcv w) = (as.map (gcv w)).reverse ++ rest.map (gcv w) := by
  obtain ⟨pre, h1, h2, h3⟩ := gspl_eq n [] st as rest h
  rw [List.append_nil] at h3
  subst h3
  subst h2
  refine ⟨by simp [h1], by simp⟩
theorem R_callV {idx n d1 nL1 o ci N N1 : Nat} {T : u_T} {y : MethodName} {bytes : ByteArray} {ret1 : Option FieldType} {rl : List (Option Nat)} {as rest : List Value} {r1 : Option Value} {h1 : gH} (hd : decode cc pc = .ok (.invokevirtual idx, 3)) (hk : gLV own idx y n) (hco : Cond.code y bytes nL1 ret1 ∈ gW) (hnL : nL1 ≤ 45) (hO : gK o (ci + 3, N, rl)) (hci : gcl[ci]? = some (y.cls, T, N1)) (hsp : gspl n [] st = some (as, .ref o :: rest)) (hcat : gcat rest ≤ 8) (hdd : d1 + 1 ≤ d) (hC : gC y bytes nL1 ret1 d1 (.ref o :: as) h r1 h1) (kk : gR own cc nL ret d (pc + 3) ls (gpu r1 rest) h1 r h2) : gR own cc nL ret d pc ls st h r h2 := by
  intro p l e s m args below meth c H locs w lsA X hP hS hL
  obtain ⟨e1, e2⟩ := gspl0 hsp w
  rw [e2]
  have hfix : CallFix p m c cc nL s args gW own := ⟨X.1, X.2.1, X.2.2.2.1, X.2.2.2.2.1, X.2.2.2.2.2.1⟩
  have he : (gws w h)[o]? = some (w.2.2 o, .inr (ci, (List.range N).map (fun k => gsl w (rl.getD k none) (h o k)))) := gws_at w h hO
  have hrec := va_recv (s := s) X.2.2.2.2.2.2.2.1 hP hci he
  have hpv : PreV s H y.cls (w.2.2 o) (va_Pc ((Value.ref o :: as).map (gcv w)) (gPre w h)) (as.map (gcv w)) := ⟨gPre_blind w h _, hrec, fun U hU hW => ⟨rfl, gPre_of X hP hS hU hW⟩⟩
  refine gcall (w := w) (rest := rest.map (gcv w)) (r1 := r1) (h1 := h1) (a := (Value.ref (w.2.2 o) :: as.map (gcv w)).toArray) ?_ hS (fun H1 locs1 hP1 hS1 => ?_)
  · rcases hk.1.1 with hl | ⟨host, hl⟩
    · exact va_runV hfix (hC l w X.2.2.2.2.2.2.2.2.2.1) ⟨callB_of n X.2.2.2.2.2.1 (gGood hco) rfl rfl rfl (X.2.2.2.2.2.1 _ hk.1.2.1) (X.2.2.2.2.2.1 _ hl) hk.1.2.2 (groom hdd hnL), X.2.2.2.2.2.1 _ hk.2.1, X.2.2.2.2.2.1 _ hk.2.2⟩ hpv rfl e1 hL.1 rfl (lv_room (by rw [gcat_eq]; exact hcat)) hd ⟨Nat.le_refl _, Nat.le_refl _⟩
    · exact va_runVN hfix (hC l w X.2.2.2.2.2.2.2.2.2.1) ⟨va_cnB n X.2.2.2.2.2.1 (gGood hco) rfl rfl rfl (X.2.2.2.2.2.2.2.2.1 _ hl) (X.2.2.2.2.2.1 _ hk.1.2.1) hk.1.2.2 (groom hdd hnL), X.2.2.2.2.2.1 _ hk.2.1, X.2.2.2.2.2.1 _ hk.2.2⟩ hpv rfl e1 hL.1 rfl (lv_room (by rw [gcat_eq]; exact hcat)) hd ⟨Nat.le_refl _, Nat.le_refl _⟩
  · rw [← gpu_eq]
    exact kk p l e s m args below meth c H1 locs1 w lsA X hP1 hS1 hL
theorem R_callS {idx n d1 nL1 : Nat} {y : MethodName} {bytes : ByteArray} {ret1 : Option FieldType} {as rest : List Value} {r1 : Option Value} {h1 : gH} (hd : decode cc pc = .ok (.invokestatic idx, 3)) (hk : gLS own idx y n) (hco : Cond.code y bytes nL1 ret1 ∈ gW) (hnL : nL1 ≤ 45) (hsp : gspl n [] st = some (as, rest)) (hcat : gcat rest ≤ 8) (hdd : d1 + 1 ≤ d) (hC : gC y bytes nL1 ret1 d1 as h r1 h1) (kk : gR own cc nL ret d (pc + 3) ls (gpu r1 rest) h1 r h2) : gR own cc nL ret d pc ls st h r h2 := by
  intro p l e s m args below meth c H locs w lsA X hP hS hL
  obtain ⟨e1, e2⟩ := gspl0 hsp w
  rw [e2]
  have hfix : CallFix p m c cc nL s args gW own := ⟨X.1, X.2.1, X.2.2.2.1, X.2.2.2.2.1, X.2.2.2.2.2.1⟩
  have hpv : PreS s H (va_Pc (as.map (gcv w)) (gPre w h)) (as.map (gcv w)) := ⟨gPre_blind w h _, fun U hU hW => ⟨rfl, gPre_of X hP hS hU hW⟩⟩
  refine gcall (w := w) (rest := rest.map (gcv w)) (r1 := r1) (h1 := h1) (a := (as.map (gcv w)).toArray) ?_ hS (fun H1 locs1 hP1 hS1 => ?_)
  · rcases hk.1.1 with hl | ⟨host, hl⟩
    · exact va_runS hfix (hC l w X.2.2.2.2.2.2.2.2.2.1) ⟨callB_of n X.2.2.2.2.2.1 (gGood hco) rfl rfl rfl (X.2.2.2.2.2.1 _ hk.1.2.1) (X.2.2.2.2.2.1 _ hl) hk.1.2.2 (groom hdd hnL), X.2.2.2.2.2.1 _ hk.2⟩ hpv rfl e1 hL.1 rfl (lv_room (by rw [gcat_eq]; exact hcat)) hd ⟨Nat.le_refl _, Nat.le_refl _⟩
    · exact va_runSN hfix (hC l w X.2.2.2.2.2.2.2.2.2.1) ⟨va_cnB n X.2.2.2.2.2.1 (gGood hco) rfl rfl rfl (X.2.2.2.2.2.2.2.2.1 _ hl) (X.2.2.2.2.2.1 _ hk.1.2.1) hk.1.2.2 (groom hdd hnL), X.2.2.2.2.2.1 _ hk.2, trivial⟩ hpv rfl e1 hL.1 rfl (lv_room (by rw [gcat_eq]; exact hcat)) hd ⟨Nat.le_refl _, Nat.le_refl _⟩
  · rw [← gpu_eq]
    exact kk p l e s m args below meth c H1 locs1 w lsA X hP1 hS1 hL
/-! ends -/
theorem R_iret {v : Int32} (hd : decode cc pc = .ok (.ireturn, 1)) (hr : ret = some .int) : gR own cc nL ret d pc ls [.int v] h (some (.int v)) h := by
  intro p l e s m args below meth c H locs w lsA X hP hS hL
  have hlocks := X.2.2.2.2.2.2.1
  exact W.iret X.1 X.2.1 (X.2.2.1.trans hr) (fun t ht hW => ⟨⟨rfl, gPre_of X hP hS ht hW⟩, hS.F ht⟩) hS.2.2 hd
theorem R_zret {v : Int32} (hd : decode cc pc = .ok (.ireturn, 1)) (hr : ret = some .boolean) (hb : v = 0 ∨ v = 1) : gR own cc nL ret d pc ls [.int v] h (some (.int v)) h := by
  intro p l e s m args below meth c H locs w lsA X hP hS hL
  have hlocks := X.2.2.2.2.2.2.1
  exact W.zret X.1 X.2.1 (X.2.2.1.trans hr) (by rcases hb with rfl | rfl <;> decide +kernel) (fun t ht hW => ⟨⟨rfl, gPre_of X hP hS ht hW⟩, hS.F ht⟩) hS.2.2 hd
theorem R_lret {v : Int64} (hd : decode cc pc = .ok (.lreturn, 1)) (hr : ret = some .long) : gR own cc nL ret d pc ls [.long v] h (some (.long v)) h := by
  intro p l e s m args below meth c H locs w lsA X hP hS hL
  have hlocks := X.2.2.2.2.2.2.1
  exact W.lret X.1 X.2.1 (X.2.2.1.trans hr) (fun t ht hW => ⟨⟨rfl, gPre_of X hP hS ht hW⟩, hS.F ht⟩) hS.2.2 hd
theorem R_vret (hd : decode cc pc = .ok (.return_, 1)) (hr : ret = none) : gR own cc nL ret d pc ls [] h none h := by
  intro p l e s m args below meth c H locs w lsA X hP hS hL
  have hlocks := X.2.2.2.2.2.2.1
  exact W.vret X.1 X.2.1 (X.2.2.1.trans hr) (fun t ht hW => ⟨⟨rfl, gPre_of X hP hS ht hW⟩, hS.F ht⟩) hS.2.2 hd
/-! fewer locals known; the beginning of a method -/
def gle (a b : List Value) : Prop := a.length = b.length ∧ ∀ (i : Nat) (v : Value), a[i]? = some v → v ≠ .null → b[i]? = some v
theorem gle_nil : gle [] [] := ⟨rfl, fun _ _ h _ => h⟩
theorem gle_null {a b : List Value} {v : Value} (h : gle a b) : gle (.null :: a) (v :: b) := ⟨by simp [h.1], fun i u hi hu => by
  cases i with
  | zero => exact absurd (Option.some.inj hi).symm hu
  | succ i => exact h.2 i u hi hu⟩
theorem gle_same {a b : List Value} {v : Value} (h : gle a b) : gle (v :: a) (v :: b) := ⟨by simp [h.1], fun i u hi hu => by
  cases i with
  | zero => exact hi
  | succ i => exact h.2 i u hi hu⟩
theorem R_weak {ls1 : List Value} (hl : gle ls1 ls) (k : gR own cc nL ret d pc ls1 st h r h2) : gR own cc nL ret d pc ls st h r h2 := by
  intro p l e s m args below meth c H locs w lsA X hP hS hL
  exact k p l e s m args below meth c H locs w lsA X hP hS ⟨hL.1, hL.2.1, hl.1.trans hL.2.2.1, fun i v hi hv => hL.2.2.2 i v (hl.2 i v hi hv) hv⟩
def gent (av : List Value) : List Value := av.flatMap (fun v => if v.category = 2 then [v, .null] else [v])
theorem gent_at (w : gw) : ∀ (av : List Value) (i : Nat) (v : Value), (gent av)[i]? = some v → v ≠ .null → (lg_sl (av.map (gcv w)))[i]? = some (.val (gcv w v)) := by
  intro av
  induction av with
  | nil => intro i v h; simp [gent] at h
  | cons u av ih =>
    intro i v h hv
    by_cases hc : u.category = 2
    · have e1 : gent (u :: av) = u :: .null :: gent av := by simp [gent, hc]
      have e2 : lg_sl ((u :: av).map (gcv w)) = .val (gcv w u) :: .second :: lg_sl (av.map (gcv w)) := by simp [lg_sl, gcv_cat, hc]
      rw [e1] at h
      rw [e2]
      match i with
      | 0 => cases h; rfl
      | 1 => exact absurd (Option.some.inj h).symm hv
      | i + 2 => exact ih i v h hv
    · have e1 : gent (u :: av) = u :: gent av := by simp [gent, hc]
      have e2 : lg_sl ((u :: av).map (gcv w)) = .val (gcv w u) :: lg_sl (av.map (gcv w)) := by simp [lg_sl, gcv_cat, hc]
      rw [e1] at h
      rw [e2]
      match i with
      | 0 => cases h; rfl
      | i + 1 => exact ih i v h hv
theorem gent_len (w : gw) : ∀ (av : List Value), (lg_sl (av.map (gcv w))).length = (gent av).length := by
  intro av
  induction av with
  | nil => rfl
  | cons u av ih =>
    by_cases hc : u.category = 2
    · have e1 : gent (u :: av) = u :: .null :: gent av := by simp [gent, hc]
      have e2 : lg_sl ((u :: av).map (gcv w)) = .val (gcv w u) :: .second :: lg_sl (av.map (gcv w)) := by simp [lg_sl, gcv_cat, hc]
      rw [e1, e2]; simp [ih]
    · have e1 : gent (u :: av) = u :: gent av := by simp [gent, hc]
      have e2 : lg_sl ((u :: av).map (gcv w)) = .val (gcv w u) :: lg_sl (av.map (gcv w)) := by simp [lg_sl, gcv_cat, hc]
      rw [e1, e2]; simp [ih]
theorem gC_of {y : MethodName} {av : List Value} (hy : plainName y.cls = true) (hn : (gent av).length ≤ nL) (hls : gent av ++ List.replicate (nL - (gent av).length) Value.null = ls) (k : gR y.cls cc nL ret d 0 ls [] h r h2) : gC y cc nL ret d av h r h2 := by
  intro l w hDw
  refine Met.ofW (cc := cc) (maxL := nL) (ret := ret) hy rfl ?_
  intro p e s m args below meth c s₁ B hml hv
  obtain ⟨rfl, hP, hK, hZ, hXt⟩ := hv
  have hts := atoms_spec (ws := Cond.code y cc nL ret :: gW) B.pre
  rw [lg_entry_eq]
  have hlen := gent_len w av
  have hen := lv_entry (av.map (gcv w)) (n := nL) (by rw [hlen]; exact hn)
  refine k p l e s m _ below meth c s.heap [] w _ ⟨B.exec, B.bytes, B.returns, hml, findClass_of_methodNamed B.named, fun t ht => hts t (List.mem_cons_of_mem _ ht), B.notSynchronized, hK, hZ, hDw, hXt⟩ hP va_S.rf ⟨hen.1, hen.2.1, ?_, ?_⟩
  · rw [← hls]; simp; omega
  · intro i v hi hv
    rw [← hls] at hi
    rw [List.getElem?_toArray]
    by_cases hlt : i < (gent av).length
    · rw [List.getElem?_append_left hlt] at hi
      rw [List.getElem?_append_left (by rw [hlen]; exact hlt)]
      exact gent_at w av i v hi hv
    · rw [List.getElem?_append_right (by omega)] at hi
      exact absurd (List.mem_replicate.mp (List.mem_of_getElem? hi)).2 hv
/-! what a method's function says -/
theorem gif {α : Type} {c : Prop} [Decidable c] {t : Option α} {x : α} (h : (if c then t else none) = some x) : c ∧ t = some x := by
  by_cases hc : c
  · exact ⟨hc, by rwa [if_pos hc] at h⟩
  · rw [if_neg hc] at h; cases h
theorem gbi {α β : Type} {o : Option α} {f : α → Option β} {x : β} (h : o.bind f = some x) : ∃ a, o = some a ∧ f a = some x := by
  cases o with
  | none => cases h
  | some a => exact ⟨a, rfl, h⟩

end
