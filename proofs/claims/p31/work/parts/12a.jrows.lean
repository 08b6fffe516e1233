/-! constructors: a world that grows -/
def ctn (ct : ClassId × ClassId × ClassId) : List (ClassId × FieldType) := [(ct.1, .int), (ct.2.1, .byte), (ct.2.2, .object RX5)]
def jX (own : String) (cc : ByteArray) (nL : Nat) (p : Program) (s : State) (m : MethodId) (args : Array Value) (meth : Method) (c : Code) (D : va_G) (ct : ClassId × ClassId × ClassId) (ini : Bool) : Prop :=
  p.tables.exec = Jvm.exec ∧ c.code = cc ∧ meth.sig.returnType = none ∧ c.maxLocals = nL ∧ s.vm.findClass own = some m.cls ∧ (∀ t ∈ gW, t.before args s = true) ∧ meth.locks = false ∧ va_K D gcl (ctn ct) s ∧ (∀ z ∈ gN, va_Nw z s) ∧ va_AO RX5 s ∧ (ini = true → meth.name = "<init>")
def jPost (D : va_G) (ct : ClassId × ClassId × ClassId) (B : va_W → Prop) (A : Nat → Prop) (t : State) : Prop := ∃ ws, B ws ∧ va_P D gcl ws t.heap ∧ va_D A ws
def jPre (D : va_G) (ct : ClassId × ClassId × ClassId) (ws : va_W) (sz : Nat) (U : State) : Prop := U.heap.size = sz ∧ va_P D gcl ws U.heap ∧ va_K D gcl (ctn ct) U ∧ (∀ z ∈ gN, va_Nw z U) ∧ va_AO RX5 U ∧ va_D (fun _ => True) ws
/-- a constructor's contract -/
def jC (y : MethodName) (cc : ByteArray) (nL : Nat) (R : Room) (mc ms : Nat) (D : va_G) (ct : ClassId × ClassId × ClassId) (av : List Value) (ws : va_W) (B : va_W → Prop) : Prop :=
  ∀ (l : Launch) (sz : Nat), Met l y (Cond.code y cc nL none :: gW) R (va_Pc av (jPre D ct ws sz)) (va_Qv (fun _ : Unit => True) (fun _ t => jPost D ct B (va_A ws sz) t) (va_A ws sz)) mc ms (va_A ws sz)
/-- from here on, with this world and so much made, it comes to its end -/
def gJ (own : String) (cc : ByteArray) (nL : Nat) (R : Room) (D : va_G) (ct : ClassId × ClassId × ClassId) (ini : Bool) (mc ms : Nat) (B : va_W → Prop) (pc : Nat) (la : List (Nat × Value)) (st : List Value) (ws : va_W) (k n : Nat) : Prop :=
  ∀ (p : Program) (l : Launch) (e : Env) (s : State) (m : MethodId) (args : Array Value) (below : List Frame) (meth : Method) (c : Code) (H : Heap) (locs : List Loc) (A : Nat → Prop) (lsA : Array Slot),
    jX own cc nL p s m args meth c D ct ini → va_P D gcl ws H → va_D A ws → va_S A s.heap H locs → (∀ q, s.heap.size ≤ q → A q) → lv_has lsA nL la →
    W p l e R s m args below meth c H locs k n (MQ below (va_Qv (fun _ : Unit => True) (fun _ t => jPost D ct B A t) A) args s mc ms A) (F0 m pc lsA st)
section
variable {own : String} {cc : ByteArray} {nL : Nat} {R : Room} {D : va_G} {ct : ClassId × ClassId × ClassId} {ini : Bool} {mc ms : Nat} {B : va_W → Prop} {pc : Nat} {la : List (Nat × Value)} {st : List Value} {ws : va_W} {k n : Nat}
theorem J_iconst {i : Int} {v : Int32} (hd : decode cc pc = .ok (.iconst i, 1)) (hv : Int32.ofInt i = v) (kk : gJ own cc nL R D ct ini mc ms B (pc + 1) la (.int v :: st) ws k n) : gJ own cc nL R D ct ini mc ms B pc la st ws k n := by
  intro p l e s m args below meth c H locs A lsA X hP hD hS hA hL
  exact lv_iconst X.1 X.2.1 hd hv (kk p l e s m args below meth c H locs A lsA X hP hD hS hA hL)
theorem J_bipush {i : Int} {v : Int32} (hd : decode cc pc = .ok (.bipush i, 2)) (hv : (Int8.ofInt i).toInt32 = v) (kk : gJ own cc nL R D ct ini mc ms B (pc + 2) la (.int v :: st) ws k n) : gJ own cc nL R D ct ini mc ms B pc la st ws k n := by
  intro p l e s m args below meth c H locs A lsA X hP hD hS hA hL
  exact lv_bipush X.1 X.2.1 hd hv (kk p l e s m args below meth c H locs A lsA X hP hD hS hA hL)
theorem J_sipush {i : Int} {v : Int32} (hd : decode cc pc = .ok (.sipush i, 3)) (hv : (Int16.ofInt i).toInt32 = v) (kk : gJ own cc nL R D ct ini mc ms B (pc + 3) la (.int v :: st) ws k n) : gJ own cc nL R D ct ini mc ms B pc la st ws k n := by
  intro p l e s m args below meth c H locs A lsA X hP hD hS hA hL
  exact lv_sipush X.1 X.2.1 hd hv (kk p l e s m args below meth c H locs A lsA X hP hD hS hA hL)
theorem J_dup {a : Nat} (hd : decode cc pc = .ok (.dup, 1)) (kk : gJ own cc nL R D ct ini mc ms B (pc + 1) la (.ref a :: .ref a :: st) ws k n) : gJ own cc nL R D ct ini mc ms B pc la (.ref a :: st) ws k n := by
  intro p l e s m args below meth c H locs A lsA X hP hD hS hA hL
  exact lv_dup X.1 X.2.1 hd rfl (kk p l e s m args below meth c H locs A lsA X hP hD hS hA hL)
theorem J_aload (i : Nat) {k0 : Fin 4} {x a : Nat} (hd : decode cc pc = .ok (.aload_n k0, 1)) (hi : (k0 : Nat) = x) (hx : la[i]? = some (x, .ref a)) (kk : gJ own cc nL R D ct ini mc ms B (pc + 1) la (.ref a :: st) ws k n) : gJ own cc nL R D ct ini mc ms B pc la st ws k n := by
  intro p l e s m args below meth c H locs A lsA X hP hD hS hA hL
  exact lv_aload_n X.1 X.2.1 hd hi (lv_at hL i hx) (kk p l e s m args below meth c H locs A lsA X hP hD hS hA hL)
theorem J_aload4 (i : Nat) {x a : Nat} (hd : decode cc pc = .ok (.aload x, 2)) (hx : la[i]? = some (x, .ref a)) (kk : gJ own cc nL R D ct ini mc ms B (pc + 2) la (.ref a :: st) ws k n) : gJ own cc nL R D ct ini mc ms B pc la st ws k n := by
  intro p l e s m args below meth c H locs A lsA X hP hD hS hA hL
  exact lv_aload X.1 X.2.1 hd (lv_at hL i hx) (kk p l e s m args below meth c H locs A lsA X hP hD hS hA hL)
theorem J_iload (i : Nat) {k0 : Fin 4} {x : Nat} {v : Int32} (hd : decode cc pc = .ok (.iload_n k0, 1)) (hi : (k0 : Nat) = x) (hx : la[i]? = some (x, .int v)) (kk : gJ own cc nL R D ct ini mc ms B (pc + 1) la (.int v :: st) ws k n) : gJ own cc nL R D ct ini mc ms B pc la st ws k n := by
  intro p l e s m args below meth c H locs A lsA X hP hD hS hA hL
  exact lv_iload_n X.1 X.2.1 hd hi (lv_at hL i hx) (kk p l e s m args below meth c H locs A lsA X hP hD hS hA hL)
theorem J_istore {k0 : Fin 4} {x : Nat} {v : Int32} {la2 : List (Nat × Value)} (hd : decode cc pc = .ok (.istore_n k0, 1)) (hi : (k0 : Nat) = x) (hn : x < nL) (hl : (x, Value.int v) :: la.filter (fun q => !(q.1 == x) && !(q.1 + 1 == x && q.2.category == 2)) = la2) (kk : gJ own cc nL R D ct ini mc ms B (pc + 1) la2 st ws k n) : gJ own cc nL R D ct ini mc ms B pc la (.int v :: st) ws k n := by
  intro p l e s m args below meth c H locs A lsA X hP hD hS hA hL
  exact lv_istore_n X.1 X.2.1 hd hi hL hn hl (fun lsB hB => kk p l e s m args below meth c H locs A lsB X hP hD hS hA hB)
theorem J_iinc (i : Nat) {x : Nat} {z : Int} {v w : Int32} {la2 : List (Nat × Value)} (hd : decode cc pc = .ok (.iinc x z, 3)) (hx : la[i]? = some (x, .int v)) (hv : v + Int32.ofInt z = w) (hn : x < nL) (hl : (x, Value.int w) :: la.filter (fun q => !(q.1 == x) && !(q.1 + 1 == x && q.2.category == 2)) = la2) (kk : gJ own cc nL R D ct ini mc ms B (pc + 3) la2 st ws k n) : gJ own cc nL R D ct ini mc ms B pc la st ws k n := by
  intro p l e s m args below meth c H locs A lsA X hP hD hS hA hL
  exact lv_iinc X.1 X.2.1 hd hL hx hv hn hl (fun lsB hB => kk p l e s m args below meth c H locs A lsB X hP hD hS hA hB)
theorem J_goto {off : Int} {tgt : Nat} (hd : decode cc pc = .ok (.goto off, 3)) (ht : (pc : Int) + off = (tgt : Int)) (kk : gJ own cc nL R D ct ini mc ms B tgt la st ws k n) : gJ own cc nL R D ct ini mc ms B pc la st ws k n := by
  intro p l e s m args below meth c H locs A lsA X hP hD hS hA hL
  exact lv_goto X.1 X.2.1 hd ht (kk p l e s m args below meth c H locs A lsA X hP hD hS hA hL)
theorem J_icmp_ge {x y : Int32} {off : Int} {tgt : Nat} (hd : decode cc pc = .ok (.if_icmp .ge off, 3)) (ht : (pc : Int) + off = (tgt : Int)) (kt : (¬ x < y) → gJ own cc nL R D ct ini mc ms B tgt la st ws k n) (kf : (x < y) → gJ own cc nL R D ct ini mc ms B (pc + 3) la st ws k n) : gJ own cc nL R D ct ini mc ms B pc la (.int y :: .int x :: st) ws k n := by
  intro p l e s m args below meth c H locs A lsA X hP hD hS hA hL
  exact lv_icmp_ge X.1 X.2.1 hd ht (fun q => kt (Int32.not_lt.mpr q) p l e s m args below meth c H locs A lsA X hP hD hS hA hL) (fun q => kf (Int32.not_le.mp q) p l e s m args below meth c H locs A lsA X hP hD hS hA hL)
/-- the words that a constructor needs of Object's -/
def gOI (own : String) (idx : Nat) : Prop := Cond.methodLink own idx Lib.objectInit ∈ gW ∧ Cond.instanceMethod Lib.objectInit ∈ gW ∧ Cond.code Lib.objectInit ⟨#[0xb1]⟩ 1 none ∈ gW
theorem J_objInit {idx a : Nat} (hd : decode cc pc = .ok (.invokespecial idx, 3)) (ho : gOI own idx) (hf : 1 ≤ R.frames) (hl : 12 ≤ R.locals) (kk : gJ own cc nL R D ct ini mc ms B (pc + 3) la [] ws k n) : gJ own cc nL R D ct ini mc ms B pc la [.ref a] ws k n := by
  intro p l e s m args below meth c H locs A lsA X hP hD hS hA hL
  refine W.objInit X.1 X.2.1 X.2.2.2.2.1 (X.2.2.2.2.2.1 _ ho.1) (X.2.2.2.2.2.1 _ ho.2.1) (X.2.2.2.2.2.1 _ ho.2.2) rfl (by rw [X.2.2.2.1]; exact hL.1) rfl hd hf (by show 2 * 0 + 0 + 12 ≤ R.locals; omega) ?_
  refine W.eq (g2 := F0 m (pc + 3) lsA []) rfl ?_
  exact kk p l e s m args below meth c H locs A lsA X hP hD hS hA hL
theorem ct_uni {D : va_G} {ct : ClassId × ClassId × ClassId} {s : State} {cA cB : ClassId} {ty : FieldType} {t : Nat} (h : va_K D gcl (ctn ct ++ [(cA, ty)]) s) (ht : (ctn ct)[t]? = some (cB, ty)) : cA = cB := by
  have h1 := (h.2 3 (cA, ty) rfl).2
  have hl : t < (ctn ct).length := (List.getElem?_eq_some_iff.mp ht).1
  have h2 := (h.2 t (cB, ty) (by rw [List.getElem?_append_left hl]; exact ht)).2
  cases ty with
  | object C =>
    obtain ⟨-, -, -, -, -, e1⟩ := h1
    obtain ⟨-, -, -, -, -, e2⟩ := h2
    rw [e1] at e2; exact Option.some.inj e2
  | _ =>
    have h1 : s.vm.findClass _ = some cA := h1
    have h2 : s.vm.findClass _ = some cB := h2
    rw [h1] at h2; exact Option.some.inj h2
theorem J_newi {N : Nat} {nv : Int32} (hd : decode cc pc = .ok (.newarray .int, 2)) (hw : Cond.arrayClass .int ∈ gW) (hn : ¬ nv < 0) (hN : nv.toNatClampNeg = N) (hb : N * 4 ≤ 536870912) (hk : k + 1 ≤ R.cells) (hs : n + N ≤ R.slots) (kk : ∀ q, gJ own cc nL R D ct ini mc ms B (pc + 2) la (.ref q :: st) (ws ++ [(q, .inl (ct.1, N, .inl (fun _ => 0)))]) (k + 1) (n + N)) : gJ own cc nL R D ct ini mc ms B pc la (.int nv :: st) ws k n := by
  intro p l e s m args below meth c H locs A lsA X hP hD hS hA hL
  refine va_newa (atype := .int) (ty := .int) (a0 := (N, .inl (fun _ => 0))) X.1 X.2.1 (X.2.2.2.2.2.1 _ hw) rfl X.2.2.2.2.2.2.2.1 hP hD hS hA (fun cA => by rw [vp_cell_i]; rfl) hn hN hb hk hs hd (fun q cA H1 hK1 hP1 hD1 hS1 => ?_)
  have e1 := ct_uni hK1 (t := 0) (cB := ct.1) rfl
  subst e1
  exact kk q p l e s m args below meth c H1 locs A lsA X hP1 hD1 hS1 hA hL
theorem J_newb {N : Nat} {nv : Int32} (hd : decode cc pc = .ok (.newarray .byte, 2)) (hw : Cond.arrayClass .byte ∈ gW) (hn : ¬ nv < 0) (hN : nv.toNatClampNeg = N) (hb : N * 1 ≤ 536870912) (hk : k + 1 ≤ R.cells) (hs : n + N ≤ R.slots) (kk : ∀ q, gJ own cc nL R D ct ini mc ms B (pc + 2) la (.ref q :: st) (ws ++ [(q, .inl (ct.2.1, N, .inl (fun _ => 0)))]) (k + 1) (n + N)) : gJ own cc nL R D ct ini mc ms B pc la (.int nv :: st) ws k n := by
  intro p l e s m args below meth c H locs A lsA X hP hD hS hA hL
  refine va_newa (atype := .byte) (ty := .byte) (a0 := (N, .inl (fun _ => 0))) X.1 X.2.1 (X.2.2.2.2.2.1 _ hw) rfl X.2.2.2.2.2.2.2.1 hP hD hS hA (fun cA => by rw [vp_cell_i]; rfl) hn hN hb hk hs hd (fun q cA H1 hK1 hP1 hD1 hS1 => ?_)
  have e1 := ct_uni hK1 (t := 1) (cB := ct.2.1) rfl
  subst e1
  exact kk q p l e s m args below meth c H1 locs A lsA X hP1 hD1 hS1 hA hL
theorem J_newq {idx N : Nat} {nv : Int32} (hd : decode cc pc = .ok (.anewarray idx, 3)) (hw : Cond.classLink own idx RX5 ∈ gW) (hn : ¬ nv < 0) (hN : nv.toNatClampNeg = N) (hb : N * 4 ≤ 536870912) (hk : k + 1 ≤ R.cells) (hs : n + N ≤ R.slots) (kk : ∀ q, gJ own cc nL R D ct ini mc ms B (pc + 3) la (.ref q :: st) (ws ++ [(q, .inl (ct.2.2, N, .inr (.inr (.inr (.inr (fun _ => none))))))]) (k + 1) (n + N)) : gJ own cc nL R D ct ini mc ms B pc la (.int nv :: st) ws k n := by
  intro p l e s m args below meth c H locs A lsA X hP hD hS hA hL
  refine va_newq X.1 X.2.1 X.2.2.2.2.1 (X.2.2.2.2.2.1 _ hw) X.2.2.2.2.2.2.2.2.2.1 X.2.2.2.2.2.2.2.1 hP hD hS hA hn hN hb hk hs hd (fun q cA H1 hK1 hP1 hD1 hS1 => ?_)
  have e1 := ct_uni hK1 (t := 2) (cB := ct.2.2) rfl
  subst e1
  exact kk q p l e s m args below meth c H1 locs A lsA X hP1 hD1 hS1 hA hL
/-- a final field's put, in the class's own constructor -/
def gPF (own : String) (ci k : Nat) (ty : FieldType) : Prop := ∃ (C : String) (T : u_T) (N : Nat) (ty0 : Nat → FieldType), gcl[ci]? = some (C, T, N) ∧ (∀ k, k < N → parseFieldDescriptor (T k).2.2.1 = some (ty0 k)) ∧ (∀ a, a < N → ∀ b, b < N → a ≠ b → (T a).2.1 ≠ (T b).2.1) ∧ (T k).2.2.2 = true ∧ (T k).1 = own ∧ parseFieldDescriptor (T k).2.2.1 = some ty
theorem J_putF {idx ci j a : Nat} (q0 : Nat) {ty : FieldType} {fs : List Value} {v : Value} (hd : decode cc pc = .ok (.putfield idx, 3)) (hF : gF own idx ci j) (hp : gPF own ci j ty) (hn : narrow ty v = v) (hf : fits ty v = true) (he : ws[q0]? = some (a, .inr (ci, fs))) (hl : j < fs.length) (hi : ini = true) (hlk : ∃ (C : String) (T : u_T) (N : Nat), gcl[ci]? = some (C, T, N) ∧ Cond.fieldLink own idx (T j).1 (T j).2.1 (T j).2.2.1 ∈ gW) (kk : gJ own cc nL R D ct ini mc ms B (pc + 3) la st (ws.set q0 (a, .inr (ci, fs.set j v))) k n) : gJ own cc nL R D ct ini mc ms B pc la (v :: .ref a :: st) ws k n := by
  intro p l e s m args below meth c H locs A lsA X hP hD hS hA hL
  obtain ⟨C, T, N1, hc, hk, hin, -⟩ := hF
  obtain ⟨C2, T2, N2, ty0, hc2, hty, hnm, hfin, hdec, hty2⟩ := hp
  obtain ⟨C3, T3, N3, hc3, hlw⟩ := hlk
  rw [hc] at hc2 hc3
  cases hc2
  cases hc3
  exact va_putF X.1 X.2.1 X.2.2.2.2.2.1 hin ty0 hty hnm X.2.2.2.2.1 X.2.2.2.2.2.2.2.1 hP hD hS q0 he hc j hk (X.2.2.2.2.2.1 _ hlw) (fun _ q => q) hfin (X.2.2.2.2.2.2.2.2.2.2 hi) hdec hty2 hn hf hl hd (fun H1 locs1 hP1 hD1 hS1 => kk p l e s m args below meth c H1 locs1 A lsA X hP1 hD1 hS1 hA hL)
theorem J_put {idx ci j a : Nat} (q0 : Nat) {ty : FieldType} {fs : List Value} {v : Value} (hd : decode cc pc = .ok (.putfield idx, 3)) (hF : gF own idx ci j) (hp : gP ci j ty) (hn : narrow ty v = v) (hf : fits ty v = true) (he : ws[q0]? = some (a, .inr (ci, fs))) (hl : j < fs.length) (hlk : ∃ (C : String) (T : u_T) (N : Nat), gcl[ci]? = some (C, T, N) ∧ Cond.fieldLink own idx (T j).1 (T j).2.1 (T j).2.2.1 ∈ gW) (kk : gJ own cc nL R D ct ini mc ms B (pc + 3) la st (ws.set q0 (a, .inr (ci, fs.set j v))) k n) : gJ own cc nL R D ct ini mc ms B pc la (v :: .ref a :: st) ws k n := by
  intro p l e s m args below meth c H locs A lsA X hP hD hS hA hL
  obtain ⟨C, T, N1, hc, hk, hin, -⟩ := hF
  obtain ⟨C2, T2, N2, ty0, hc2, hty, hnm, hfin, hty2⟩ := hp
  obtain ⟨C3, T3, N3, hc3, hlw⟩ := hlk
  rw [hc] at hc2 hc3
  cases hc2
  cases hc3
  exact va_put X.1 X.2.1 X.2.2.2.2.2.1 hin ty0 hty hnm X.2.2.2.2.1 X.2.2.2.2.2.2.2.1 hP hD hS q0 he hc j hk (X.2.2.2.2.2.1 _ hlw) (fun _ q => q) hfin hty2 hn hf hl hd (fun H1 locs1 hP1 hD1 hS1 => kk p l e s m args below meth c H1 locs1 A lsA X hP1 hD1 hS1 hA hL)
theorem J_get {idx ci j a : Nat} (q0 : Nat) {fs : List Value} {v : Value} (hd : decode cc pc = .ok (.getfield idx, 3)) (hF : gF own idx ci j) (he : ws[q0]? = some (a, .inr (ci, fs))) (hv : fs[j]? = some v) (hlk : ∃ (C : String) (T : u_T) (N : Nat), gcl[ci]? = some (C, T, N) ∧ Cond.fieldLink own idx (T j).1 (T j).2.1 (T j).2.2.1 ∈ gW) (kk : gJ own cc nL R D ct ini mc ms B (pc + 3) la (v :: st) ws k n) : gJ own cc nL R D ct ini mc ms B pc la (.ref a :: st) ws k n := by
  intro p l e s m args below meth c H locs A lsA X hP hD hS hA hL
  obtain ⟨C, T, N1, hc, hk, hin, -⟩ := hF
  obtain ⟨C3, T3, N3, hc3, hlw⟩ := hlk
  rw [hc] at hc3
  cases hc3
  exact va_get X.1 X.2.1 X.2.2.2.2.2.1 hin X.2.2.2.2.1 X.2.2.2.2.2.2.2.1 hP q0 he hc j hk (X.2.2.2.2.2.1 _ hlw) (fun _ q => q) hv hd (kk p l e s m args below meth c H locs A lsA X hP hD hS hA hL)
theorem J_iast {a N : Nat} (q0 : Nat) {f : Nat → Int32} {i x : Int32} (hd : decode cc pc = .ok (.iastore, 1)) (he : ws[q0]? = some (a, .inl (ct.1, N, .inl f))) (hi : vp_in i N) (kk : gJ own cc nL R D ct ini mc ms B (pc + 1) la st (ws.set q0 (a, .inl (ct.1, N, .inl (upd f i.toNatClampNeg x)))) k n) : gJ own cc nL R D ct ini mc ms B pc la (.int x :: .int i :: .ref a :: st) ws k n := by
  intro p l e s m args below meth c H locs A lsA X hP hD hS hA hL
  exact va_iast X.1 X.2.1 X.2.2.2.2.2.2.2.1 hP hD hS q0 0 he rfl hi hd (fun H1 locs1 hP1 hD1 hS1 => kk p l e s m args below meth c H1 locs1 A lsA X hP1 hD1 hS1 hA hL)
theorem J_aast {a N v : Nat} (q0 qk : Nat) {f : Nat → Option Nat} {vs : List Value} {i : Int32} (hd : decode cc pc = .ok (.aastore, 1)) (he : ws[q0]? = some (a, .inl (ct.2.2, N, .inr (.inr (.inr (.inr f)))))) (hv : ws[qk]? = some (v, .inr (5, vs))) (hi : vp_in i N) (kk : gJ own cc nL R D ct ini mc ms B (pc + 1) la st (ws.set q0 (a, .inl (ct.2.2, N, .inr (.inr (.inr (.inr (va_up f i.toNatClampNeg (some v)))))))) k n) : gJ own cc nL R D ct ini mc ms B pc la (.ref v :: .int i :: .ref a :: st) ws k n := by
  intro p l e s m args below meth c H locs A lsA X hP hD hS hA hL
  exact va_astq (r := (RX5, TX5, 3)) X.1 X.2.1 X.2.2.2.2.2.2.2.1 hP hD hS q0 2 qk 5 he rfl hv rfl hi hd (fun H1 locs1 hP1 hD1 hS1 => kk p l e s m args below meth c H1 locs1 A lsA X hP1 hD1 hS1 hA hL)
theorem J_vret (hd : decode cc pc = .ok (.return_, 1)) (hB : B ws) (h1 : k = mc) (h2 : n = ms) : gJ own cc nL R D ct ini mc ms B pc la [] ws k n := by
  intro p l e s m args below meth c H locs A lsA X hP hD hS hA hL
  subst h1
  subst h2
  have hlocks := X.2.2.2.2.2.2.1
  exact W.vret X.1 X.2.1 X.2.2.1 (fun t ht hW => ⟨⟨(), rfl, trivial, ws, hB, by rw [ht]; exact hP, hD⟩, hS.F ht⟩) hS.2.2 hd
/-- a new object -/
def gNw (own : String) (idx ci : Nat) (fs : List Value) (N : Nat) : Prop := ∃ (C : String) (T : u_T) (ty : Nat → FieldType), gcl[ci]? = some (C, T, N) ∧ (∀ t ∈ u_ws C T N, t ∈ gW) ∧ (∀ k, k < N → parseFieldDescriptor (T k).2.2.1 = some (ty k)) ∧ Cond.classLink own idx C ∈ gW ∧ Cond.instantiable C N ∈ gW ∧ Cond.initialized C ∈ gW ∧ ∀ j, j < N → defaultValue (ty j) = vp_V fs j
theorem J_new {idx ci N : Nat} {fs : List Value} (hd : decode cc pc = .ok (.new idx, 3)) (hw : gNw own idx ci fs N) (hk : k + 1 ≤ R.cells) (hs : n + N ≤ R.slots) (kk : ∀ q, gJ own cc nL R D ct ini mc ms B (pc + 3) la (.ref q :: st) (ws ++ [(q, .inr (ci, fs))]) (k + 1) (n + N)) : gJ own cc nL R D ct ini mc ms B pc la st ws k n := by
  intro p l e s m args below meth c H locs A lsA X hP hD hS hA hL
  obtain ⟨C, T, ty, hc, hin, hty, w1, w2, w3, hfs⟩ := hw
  exact va_new X.1 X.2.1 X.2.2.2.2.2.1 hin ty hty X.2.2.2.2.1 (X.2.2.2.2.2.1 _ w1) (X.2.2.2.2.2.1 _ w2) (X.2.2.2.2.2.1 _ w3) X.2.2.2.2.2.2.2.1 hP hD hS hA hc hfs hk hs hd (fun q H1 hP1 hD1 hS1 => kk q p l e s m args below meth c H1 locs A lsA X hP1 hD1 hS1 hA hL)
end
