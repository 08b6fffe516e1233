/-! walks over a world that grows: rows for the JDK's texts and for the law -/
/-- a text outside the world: its address, its row's, its length, its letters -/
abbrev iT : Type := Nat × Nat × Nat × (Nat → Int32)
def iS (q : iT) (A : Nat → Prop) (U : State) (H : Heap) : Prop := va_O "java/lang/String" q.1 A U H ∧ va_OF "java/lang/String" "coder" "B" (.int 0) q.1 A U H ∧ va_OF "java/lang/String" "value" "[B" (.ref q.2.1) q.1 A U H ∧ va_T .byte q.2.1 q.2.2.1 (fun j => .int (q.2.2.2 j)) A U H
/-- a script outside the world -/
abbrev iI : Type := Nat × Nat × (Nat → Int32)
def iX (q : iI) (A : Nat → Prop) (U : State) (H : Heap) : Prop := va_X q.1 q.2.1 q.2.2 U H ∧ ¬ A q.1
/-- what stands outside: the JDK's switches, the digits, texts, scripts -/
abbrev iO : Type := Nat × List iT × List iI
def iE (x : iO) (A : Nat → Prop) (U : State) (H : Heap) : Prop := va_Z "java/lang/String" "COMPACT_STRINGS" "Z" (.int 1) A U H ∧ va_Zq "jdk/internal/util/Preconditions" "SIOOBE_FORMATTER" "Ljava/util/function/BiFunction;" A U H ∧ va_Z "java/lang/Integer" "DigitOnes" "[B" (.ref x.1) A U H ∧ va_T .byte x.1 100 (fun j => .int (nI (48 + j % 10))) A U H ∧ (∀ q ∈ x.2.1, iS q A U H) ∧ ∀ q ∈ x.2.2, iX q A U H
theorem iS.moved {q : iT} {A : Nat → Prop} {u U : State} {H : Heap} (hvm : u.vm.Alike U.vm) (h : iS q A u H) : iS q A U H := ⟨va_O.moved hvm h.1, va_OF.moved hvm h.2.1, va_OF.moved hvm h.2.2.1, va_T.moved hvm h.2.2.2⟩
theorem iS.kept {q : iT} {A : Nat → Prop} {U : State} {H H1 : Heap} (h : iS q A U H) (hq : ∀ a : Nat, a < H.size → ¬ A a → H1[a]? = H[a]?) : iS q A U H1 := ⟨h.1.kept hq, h.2.1.kept hq, h.2.2.1.kept hq, h.2.2.2.kept hq⟩
theorem iS.narrow {q : iT} {A B : Nat → Prop} {U : State} {H : Heap} (h : iS q A U H) (hAB : ∀ q, B q → A q) : iS q B U H := ⟨h.1.narrow hAB, h.2.1.narrow hAB, h.2.2.1.narrow hAB, h.2.2.2.narrow hAB⟩
theorem iX.moved {q : iI} {A : Nat → Prop} {u U : State} {H : Heap} (hvm : u.vm.Alike U.vm) (h : iX q A u H) : iX q A U H := ⟨va_X.moved hvm h.1, h.2⟩
theorem iX.lt {q : iI} {A : Nat → Prop} {U : State} {H : Heap} (h : iX q A U H) : q.1 < H.size := by
  obtain ⟨⟨scr, h1, -⟩, -⟩ := h
  exact (Array.getElem?_eq_some_iff.mp h1).1
theorem iX.kept {q : iI} {A : Nat → Prop} {U : State} {H H1 : Heap} (h : iX q A U H) (hq : ∀ a : Nat, a < H.size → ¬ A a → H1[a]? = H[a]?) : iX q A U H1 := ⟨h.1.kept (hq q.1 h.lt h.2), h.2⟩
theorem iX.narrow {q : iI} {A B : Nat → Prop} {U : State} {H : Heap} (h : iX q A U H) (hAB : ∀ q, B q → A q) : iX q B U H := ⟨h.1, fun z => h.2 (hAB _ z)⟩
theorem iE.moved {x : iO} {A : Nat → Prop} {u U : State} {H : Heap} (hvm : u.vm.Alike U.vm) (h : iE x A u H) : iE x A U H := ⟨va_Z.moved hvm h.1, va_Zq.moved hvm h.2.1, va_Z.moved hvm h.2.2.1, va_T.moved hvm h.2.2.2.1, fun q hq => (h.2.2.2.2.1 q hq).moved hvm, fun q hq => (h.2.2.2.2.2 q hq).moved hvm⟩
theorem iE.kept {x : iO} {A : Nat → Prop} {U : State} {H H1 : Heap} (h : iE x A U H) (hq : ∀ a : Nat, a < H.size → ¬ A a → H1[a]? = H[a]?) : iE x A U H1 := ⟨h.1.kept hq, h.2.1.kept hq, h.2.2.1.kept hq, h.2.2.2.1.kept hq, fun q hq2 => (h.2.2.2.2.1 q hq2).kept hq, fun q hq2 => (h.2.2.2.2.2 q hq2).kept hq⟩
theorem iE.narrow {x : iO} {A B : Nat → Prop} {U : State} {H : Heap} (h : iE x A U H) (hAB : ∀ q, B q → A q) : iE x B U H := ⟨h.1.narrow hAB, h.2.1.narrow hAB, h.2.2.1.narrow hAB, h.2.2.2.1.narrow hAB, fun q hq => (h.2.2.2.2.1 q hq).narrow hAB, fun q hq => (h.2.2.2.2.2 q hq).narrow hAB⟩
theorem iE.less {d : Nat} {ts ts2 : List iT} {sc sc2 : List iI} {A : Nat → Prop} {U : State} {H : Heap} (h : iE (d, ts, sc) A U H) (h1 : ∀ q ∈ ts2, q ∈ ts) (h2 : ∀ q ∈ sc2, q ∈ sc) : iE (d, ts2, sc2) A U H := ⟨h.1, h.2.1, h.2.2.1, h.2.2.2.1, fun q hq => h.2.2.2.2.1 q (h1 q hq), fun q hq => h.2.2.2.2.2 q (h2 q hq)⟩
abbrev iC3 : Type := ClassId × ClassId × ClassId
/-- the private methods of the builder, for a StringBuilder -/
def pW : List Cond := [.selects RJ4 yJ5_ensureCapacityInternal_d00df yJ5_ensureCapacityInternal_d00df, .selects RJ4 yJ5_putStringAt_47b60 yJ5_putStringAt_47b60, .selects RJ4 yJ5_inflateIfNeededFor_a7421 yJ5_inflateIfNeededFor_a7421]
def iN : List Cond := gN ++ pW
theorem pW_tab : ∀ z ∈ pW, z.onTables = true ∧ z.keeps = true := by
  intro z hz
  simp only [pW, List.mem_cons, List.not_mem_nil, or_false] at hz
  rcases hz with rfl | rfl | rfl <;> exact ⟨rfl, rfl⟩
theorem iN_warm {z : Cond} (hz : z ∈ iN) {s U : State} (hW : s.WarmedH U.vm) (h : va_Nw z s) : va_Nw z U := by
  rcases List.mem_append.mp hz with hz | hz
  · exact gN_warm hz hW h
  · obtain ⟨a, b⟩ := pW_tab z hz
    exact Cond.onTables_warm (T := U) hW a b h
theorem iN_same {z : Cond} (hz : z ∈ iN) {u U : State} (hv : u.vm = U.vm) (h : va_Nw z u) : va_Nw z U := by
  rcases List.mem_append.mp hz with hz | hz
  · exact gN_same hz hv h
  · exact va_tabs (pW_tab z hz).1 hv h
/-- what holds in a frame -/
def zX (own : String) (cc : ByteArray) (nL : Nat) (p : Program) (s : State) (m : MethodId) (args : Array Value) (meth : Method) (c : Code) (D : va_G) (ct : iC3) (x : iO) (A : Nat → Prop) : Prop :=
  p.tables.exec = Jvm.exec ∧ c.code = cc ∧ c.maxLocals = nL ∧ s.vm.findClass own = some m.cls ∧ (∀ t ∈ gW, t.before args s = true) ∧ meth.locks = false ∧ va_K D gcl (ctn ct) s ∧ (∀ z ∈ iN, va_Nw z s) ∧ iE x A s s.heap ∧ (∀ q, s.heap.size ≤ q → A q)
def zM (ret : Option FieldType) (nm : String) (meth : Method) : Prop := meth.sig.returnType = ret ∧ meth.name = nm
/-- from here on, with this world and so much made, it comes to a state with Q -/
def zJ (p : Program) (l : Launch) (e : Env) (R : Room) (s : State) (m : MethodId) (args : Array Value) (below : List Frame) (meth : Method) (c : Code) (A : Nat → Prop) (Q : State → Prop) (D : va_G) (nL pc : Nat) (la : List (Nat × Value)) (st : List Value) (ws : va_W) (k n : Nat) : Prop :=
  ∀ (H : Heap) (locs : List Loc) (lsA : Array Slot), va_P D gcl ws H → va_D A ws → va_S A s.heap H locs → lv_has lsA nL la → W p l e R s m args below meth c H locs k n Q (F0 m pc lsA st)
/-- a method's end: what it returns, and its world then -/
def iQ (B : Option Value → va_W → Prop) (D : va_G) (A : Nat → Prop) : Array Value → State → Outcome → State → Prop := fun _ st oc t => (∃ r w1, oc = .returned r ∧ B r w1 ∧ va_P D gcl w1 t.heap ∧ va_D A w1) ∧ va_F A st t
def iPre (D : va_G) (ct : iC3) (x : iO) (ws : va_W) (sz : Nat) (U : State) : Prop := U.heap.size = sz ∧ va_P D gcl ws U.heap ∧ va_K D gcl (ctn ct) U ∧ (∀ z ∈ iN, va_Nw z U) ∧ va_D (fun _ => True) ws ∧ iE x (va_A ws sz) U U.heap
/-- a method's contract -/
def iC (y : MethodName) (cc : ByteArray) (nL : Nat) (ret : Option FieldType) (R : Room) (mc ms : Nat) (D : va_G) (ct : iC3) (x : iO) (av : List Value) (ws : va_W) (B : Option Value → va_W → Prop) : Prop :=
  ∀ (l : Launch) (sz : Nat), Met l y (Cond.code y cc nL ret :: gW) R (va_Pc av (iPre D ct x ws sz)) (iQ B D (va_A ws sz)) mc ms (va_A ws sz)
theorem iPre_blind (D : va_G) (ct : iC3) (x : iO) (ws : va_W) (sz : Nat) (av : List Value) : FrameBlind (va_Pc av (iPre D ct x ws sz)) := fun a U g mk q => ⟨q.1, q.2.1, q.2.2.1, va_K.moved (u := U) (U := U.calling g mk a) (Vm.Alike.refl U.vm) q.2.2.2.1, fun z hz => iN_same hz (u := U) (U := U.calling g mk a) rfl (q.2.2.2.2.1 z hz), q.2.2.2.2.2.1, iE.moved (u := U) (U := U.calling g mk a) (Vm.Alike.refl U.vm) q.2.2.2.2.2.2⟩
theorem iC_of {y : MethodName} {cc : ByteArray} {nL : Nat} {ret : Option FieldType} {R : Room} {mc ms : Nat} {D : va_G} {ct : iC3} {x : iO} {av : List Value} {ws : va_W} {B : Option Value → va_W → Prop} (hy : plainName y.cls = true) (hn : (lg_sl av).length ≤ nL) (kk : ∀ (p : Program) (l : Launch) (e : Env) (s : State) (m : MethodId) (args : Array Value) (below : List Frame) (meth : Method) (c : Code) (A : Nat → Prop), zX y.cls cc nL p s m args meth c D ct x A → zM ret y.name meth → zJ p l e R s m args below meth c A (MQ below (iQ B D A) args s mc ms A) D nL 0 (lv_args 0 av) [] ws 0 0) : iC y cc nL ret R mc ms D ct x av ws B := by
  intro l sz
  refine Met.ofW (cc := cc) (maxL := nL) (ret := ret) hy rfl ?_
  intro p e s m args below meth c s₁ Bd hml hv
  obtain ⟨rfl, hsz, hP, hK, hZ, hD0, hE⟩ := hv
  have hts := atoms_spec (ws := Cond.code y cc nL ret :: gW) Bd.pre
  subst hsz
  rw [lg_entry_eq]
  exact kk p l e s m _ below meth c _ ⟨Bd.exec, Bd.bytes, hml, findClass_of_methodNamed Bd.named, fun t ht => hts t (List.mem_cons_of_mem _ ht), Bd.notSynchronized, hK, hZ, hE, fun q h => Or.inr h⟩ ⟨Bd.returns, (name_of_methodNamed Bd.named Bd.method).1⟩ s.heap [] _ hP hD0.self va_S.rf (lv_entry av hn)
section
variable {own : String} {cc : ByteArray} {nL : Nat} {p : Program} {l : Launch} {e : Env} {R : Room} {s : State} {m : MethodId} {args : Array Value} {below : List Frame} {meth : Method} {c : Code} {A : Nat → Prop} {Q : State → Prop} {D : va_G} {ct : iC3} {x : iO} {pc : Nat} {la : List (Nat × Value)} {st : List Value} {ws : va_W} {k n : Nat}
theorem Z_iconst {i : Int} {v : Int32} (X : zX own cc nL p s m args meth c D ct x A) (hd : decode cc pc = .ok (.iconst i, 1)) (hv : Int32.ofInt i = v) (kk : zJ p l e R s m args below meth c A Q D nL (pc + 1) la (.int v :: st) ws k n) : zJ p l e R s m args below meth c A Q D nL pc la st ws k n := by
  intro H locs lsA hP hD hS hL
  exact lv_iconst X.1 X.2.1 hd hv (kk H locs lsA hP hD hS hL)
theorem Z_bipush {i : Int} {v : Int32} (X : zX own cc nL p s m args meth c D ct x A) (hd : decode cc pc = .ok (.bipush i, 2)) (hv : (Int8.ofInt i).toInt32 = v) (kk : zJ p l e R s m args below meth c A Q D nL (pc + 2) la (.int v :: st) ws k n) : zJ p l e R s m args below meth c A Q D nL pc la st ws k n := by
  intro H locs lsA hP hD hS hL
  exact lv_bipush X.1 X.2.1 hd hv (kk H locs lsA hP hD hS hL)
theorem Z_sipush {i : Int} {v : Int32} (X : zX own cc nL p s m args meth c D ct x A) (hd : decode cc pc = .ok (.sipush i, 3)) (hv : (Int16.ofInt i).toInt32 = v) (kk : zJ p l e R s m args below meth c A Q D nL (pc + 3) la (.int v :: st) ws k n) : zJ p l e R s m args below meth c A Q D nL pc la st ws k n := by
  intro H locs lsA hP hD hS hL
  exact lv_sipush X.1 X.2.1 hd hv (kk H locs lsA hP hD hS hL)
theorem Z_lconst {i : Fin 2} {v : Int64} (X : zX own cc nL p s m args meth c D ct x A) (hd : decode cc pc = .ok (.lconst i, 1)) (hv : Int64.ofNat (i : Nat) = v) (kk : zJ p l e R s m args below meth c A Q D nL (pc + 1) la (.long v :: st) ws k n) : zJ p l e R s m args below meth c A Q D nL pc la st ws k n := by
  intro H locs lsA hP hD hS hL
  exact lv_lconst X.1 X.2.1 hd hv (kk H locs lsA hP hD hS hL)
theorem Z_null  (X : zX own cc nL p s m args meth c D ct x A) (hd : decode cc pc = .ok (.aconst_null, 1))  (kk : zJ p l e R s m args below meth c A Q D nL (pc + 1) la (.null :: st) ws k n) : zJ p l e R s m args below meth c A Q D nL pc la st ws k n := by
  intro H locs lsA hP hD hS hL
  exact lv_null X.1 X.2.1 hd (kk H locs lsA hP hD hS hL)
theorem Z_iload_n (j : Nat) {k0 : Fin 4} {i : Nat} {v : Int32} (X : zX own cc nL p s m args meth c D ct x A) (hd : decode cc pc = .ok (.iload_n k0, 1)) (hi : (k0 : Nat) = i) (hx : la[j]? = some (i, .int v)) (kk : zJ p l e R s m args below meth c A Q D nL (pc + 1) la (.int v :: st) ws k n) : zJ p l e R s m args below meth c A Q D nL pc la st ws k n := by
  intro H locs lsA hP hD hS hL
  exact lv_iload_n X.1 X.2.1 hd hi (lv_at hL j hx) (kk H locs lsA hP hD hS hL)
theorem Z_iload (j : Nat) {i : Nat} {v : Int32} (X : zX own cc nL p s m args meth c D ct x A) (hd : decode cc pc = .ok (.iload i, 2)) (hx : la[j]? = some (i, .int v)) (kk : zJ p l e R s m args below meth c A Q D nL (pc + 2) la (.int v :: st) ws k n) : zJ p l e R s m args below meth c A Q D nL pc la st ws k n := by
  intro H locs lsA hP hD hS hL
  exact lv_iload X.1 X.2.1 hd (lv_at hL j hx) (kk H locs lsA hP hD hS hL)
theorem Z_istore_n {k0 : Fin 4} {i : Nat} {v : Int32} {la2 : List (Nat × Value)} (X : zX own cc nL p s m args meth c D ct x A) (hd : decode cc pc = .ok (.istore_n k0, 1)) (hi : (k0 : Nat) = i) (hn : i < nL) (hl : (i, Value.int v) :: la.filter (fun q => !(q.1 == i) && !(q.1 + 1 == i && q.2.category == 2)) = la2) (kk : zJ p l e R s m args below meth c A Q D nL (pc + 1) la2 st ws k n) : zJ p l e R s m args below meth c A Q D nL pc la (.int v :: st) ws k n := by
  intro H locs lsA hP hD hS hL
  exact lv_istore_n X.1 X.2.1 hd hi hL hn hl (fun lsB hB => kk H locs lsB hP hD hS hB)
theorem Z_istore {i : Nat} {v : Int32} {la2 : List (Nat × Value)} (X : zX own cc nL p s m args meth c D ct x A) (hd : decode cc pc = .ok (.istore i, 2)) (hn : i < nL) (hl : (i, Value.int v) :: la.filter (fun q => !(q.1 == i) && !(q.1 + 1 == i && q.2.category == 2)) = la2) (kk : zJ p l e R s m args below meth c A Q D nL (pc + 2) la2 st ws k n) : zJ p l e R s m args below meth c A Q D nL pc la (.int v :: st) ws k n := by
  intro H locs lsA hP hD hS hL
  exact lv_istore X.1 X.2.1 hd hL hn hl (fun lsB hB => kk H locs lsB hP hD hS hB)
theorem Z_aload_n (j : Nat) {k0 : Fin 4} {i : Nat} {v : Nat} (X : zX own cc nL p s m args meth c D ct x A) (hd : decode cc pc = .ok (.aload_n k0, 1)) (hi : (k0 : Nat) = i) (hx : la[j]? = some (i, .ref v)) (kk : zJ p l e R s m args below meth c A Q D nL (pc + 1) la (.ref v :: st) ws k n) : zJ p l e R s m args below meth c A Q D nL pc la st ws k n := by
  intro H locs lsA hP hD hS hL
  exact lv_aload_n X.1 X.2.1 hd hi (lv_at hL j hx) (kk H locs lsA hP hD hS hL)
theorem Z_aload (j : Nat) {i : Nat} {v : Nat} (X : zX own cc nL p s m args meth c D ct x A) (hd : decode cc pc = .ok (.aload i, 2)) (hx : la[j]? = some (i, .ref v)) (kk : zJ p l e R s m args below meth c A Q D nL (pc + 2) la (.ref v :: st) ws k n) : zJ p l e R s m args below meth c A Q D nL pc la st ws k n := by
  intro H locs lsA hP hD hS hL
  exact lv_aload X.1 X.2.1 hd (lv_at hL j hx) (kk H locs lsA hP hD hS hL)
theorem Z_astore_n {k0 : Fin 4} {i : Nat} {v : Nat} {la2 : List (Nat × Value)} (X : zX own cc nL p s m args meth c D ct x A) (hd : decode cc pc = .ok (.astore_n k0, 1)) (hi : (k0 : Nat) = i) (hn : i < nL) (hl : (i, Value.ref v) :: la.filter (fun q => !(q.1 == i) && !(q.1 + 1 == i && q.2.category == 2)) = la2) (kk : zJ p l e R s m args below meth c A Q D nL (pc + 1) la2 st ws k n) : zJ p l e R s m args below meth c A Q D nL pc la (.ref v :: st) ws k n := by
  intro H locs lsA hP hD hS hL
  exact lv_astore_n X.1 X.2.1 hd hi hL hn hl (fun lsB hB => kk H locs lsB hP hD hS hB)
theorem Z_astore {i : Nat} {v : Nat} {la2 : List (Nat × Value)} (X : zX own cc nL p s m args meth c D ct x A) (hd : decode cc pc = .ok (.astore i, 2)) (hn : i < nL) (hl : (i, Value.ref v) :: la.filter (fun q => !(q.1 == i) && !(q.1 + 1 == i && q.2.category == 2)) = la2) (kk : zJ p l e R s m args below meth c A Q D nL (pc + 2) la2 st ws k n) : zJ p l e R s m args below meth c A Q D nL pc la (.ref v :: st) ws k n := by
  intro H locs lsA hP hD hS hL
  exact lv_astore X.1 X.2.1 hd hL hn hl (fun lsB hB => kk H locs lsB hP hD hS hB)
theorem Z_iinc (j : Nat) {i : Nat} {z : Int} {u v : Int32} {la2 : List (Nat × Value)} (X : zX own cc nL p s m args meth c D ct x A) (hd : decode cc pc = .ok (.iinc i z, 3)) (hx : la[j]? = some (i, .int u)) (hv : u + Int32.ofInt z = v) (hn : i < nL) (hl : (i, Value.int v) :: la.filter (fun q => !(q.1 == i) && !(q.1 + 1 == i && q.2.category == 2)) = la2) (kk : zJ p l e R s m args below meth c A Q D nL (pc + 3) la2 st ws k n) : zJ p l e R s m args below meth c A Q D nL pc la st ws k n := by
  intro H locs lsA hP hD hS hL
  exact lv_iinc X.1 X.2.1 hd hL hx hv hn hl (fun lsB hB => kk H locs lsB hP hD hS hB)
theorem Z_iadd {a b v : Int32} (X : zX own cc nL p s m args meth c D ct x A) (hd : decode cc pc = .ok (.iadd, 1)) (hv : a + b = v) (kk : zJ p l e R s m args below meth c A Q D nL (pc + 1) la (.int v :: st) ws k n) : zJ p l e R s m args below meth c A Q D nL pc la (.int b :: .int a :: st) ws k n := by
  intro H locs lsA hP hD hS hL
  subst hv
  exact lv_iadd X.1 X.2.1 hd (kk H locs lsA hP hD hS hL)
theorem Z_isub {a b v : Int32} (X : zX own cc nL p s m args meth c D ct x A) (hd : decode cc pc = .ok (.isub, 1)) (hv : a - b = v) (kk : zJ p l e R s m args below meth c A Q D nL (pc + 1) la (.int v :: st) ws k n) : zJ p l e R s m args below meth c A Q D nL pc la (.int b :: .int a :: st) ws k n := by
  intro H locs lsA hP hD hS hL
  subst hv
  exact lv_isub X.1 X.2.1 hd (kk H locs lsA hP hD hS hL)
theorem Z_imul {a b v : Int32} (X : zX own cc nL p s m args meth c D ct x A) (hd : decode cc pc = .ok (.imul, 1)) (hv : a * b = v) (kk : zJ p l e R s m args below meth c A Q D nL (pc + 1) la (.int v :: st) ws k n) : zJ p l e R s m args below meth c A Q D nL pc la (.int b :: .int a :: st) ws k n := by
  intro H locs lsA hP hD hS hL
  subst hv
  exact lv_imul X.1 X.2.1 hd (kk H locs lsA hP hD hS hL)
theorem Z_iand {a b v : Int32} (X : zX own cc nL p s m args meth c D ct x A) (hd : decode cc pc = .ok (.iand, 1)) (hv : a &&& b = v) (kk : zJ p l e R s m args below meth c A Q D nL (pc + 1) la (.int v :: st) ws k n) : zJ p l e R s m args below meth c A Q D nL pc la (.int b :: .int a :: st) ws k n := by
  intro H locs lsA hP hD hS hL
  subst hv
  exact lv_iand X.1 X.2.1 hd (kk H locs lsA hP hD hS hL)
theorem Z_ixor {a b v : Int32} (X : zX own cc nL p s m args meth c D ct x A) (hd : decode cc pc = .ok (.ixor, 1)) (hv : a ^^^ b = v) (kk : zJ p l e R s m args below meth c A Q D nL (pc + 1) la (.int v :: st) ws k n) : zJ p l e R s m args below meth c A Q D nL pc la (.int b :: .int a :: st) ws k n := by
  intro H locs lsA hP hD hS hL
  subst hv
  exact lv_ixor X.1 X.2.1 hd (kk H locs lsA hP hD hS hL)
theorem Z_ishl {a b v : Int32} (X : zX own cc nL p s m args meth c D ct x A) (hd : decode cc pc = .ok (.ishl, 1)) (hv : a <<< (b &&& 31) = v) (kk : zJ p l e R s m args below meth c A Q D nL (pc + 1) la (.int v :: st) ws k n) : zJ p l e R s m args below meth c A Q D nL pc la (.int b :: .int a :: st) ws k n := by
  intro H locs lsA hP hD hS hL
  subst hv
  exact lv_ishl X.1 X.2.1 hd (kk H locs lsA hP hD hS hL)
theorem Z_ishr {a b v : Int32} (X : zX own cc nL p s m args meth c D ct x A) (hd : decode cc pc = .ok (.ishr, 1)) (hv : a >>> (b &&& 31) = v) (kk : zJ p l e R s m args below meth c A Q D nL (pc + 1) la (.int v :: st) ws k n) : zJ p l e R s m args below meth c A Q D nL pc la (.int b :: .int a :: st) ws k n := by
  intro H locs lsA hP hD hS hL
  subst hv
  exact lv_ishr X.1 X.2.1 hd (kk H locs lsA hP hD hS hL)
theorem Z_iushr {a b v : Int32} (X : zX own cc nL p s m args meth c D ct x A) (hd : decode cc pc = .ok (.iushr, 1)) (hv : (a.toUInt32 >>> (b.toUInt32 &&& Int32.toUInt32 31)).toInt32 = v) (kk : zJ p l e R s m args below meth c A Q D nL (pc + 1) la (.int v :: st) ws k n) : zJ p l e R s m args below meth c A Q D nL pc la (.int b :: .int a :: st) ws k n := by
  intro H locs lsA hP hD hS hL
  exact lv_iushr X.1 X.2.1 hd hv (kk H locs lsA hP hD hS hL)
theorem Z_ineg {a v : Int32} (X : zX own cc nL p s m args meth c D ct x A) (hd : decode cc pc = .ok (.ineg, 1)) (hv : -a = v) (kk : zJ p l e R s m args below meth c A Q D nL (pc + 1) la (.int v :: st) ws k n) : zJ p l e R s m args below meth c A Q D nL pc la (.int a :: st) ws k n := by
  intro H locs lsA hP hD hS hL
  subst hv
  exact lv_ineg X.1 X.2.1 hd (kk H locs lsA hP hD hS hL)
theorem Z_idiv {a b v : Int32} (X : zX own cc nL p s m args meth c D ct x A) (hd : decode cc pc = .ok (.idiv, 1)) (hne : ¬ b = 0) (hv : a / b = v) (kk : zJ p l e R s m args below meth c A Q D nL (pc + 1) la (.int v :: st) ws k n) : zJ p l e R s m args below meth c A Q D nL pc la (.int b :: .int a :: st) ws k n := by
  intro H locs lsA hP hD hS hL
  subst hv
  exact lv_idiv X.1 X.2.1 hd hne (kk H locs lsA hP hD hS hL)
theorem Z_irem {a b v : Int32} (X : zX own cc nL p s m args meth c D ct x A) (hd : decode cc pc = .ok (.irem, 1)) (hne : ¬ b = 0) (hv : a - a / b * b = v) (kk : zJ p l e R s m args below meth c A Q D nL (pc + 1) la (.int v :: st) ws k n) : zJ p l e R s m args below meth c A Q D nL pc la (.int b :: .int a :: st) ws k n := by
  intro H locs lsA hP hD hS hL
  subst hv
  exact lv_irem X.1 X.2.1 hd hne (kk H locs lsA hP hD hS hL)
theorem Z_i2b {a v : Int32} (X : zX own cc nL p s m args meth c D ct x A) (hd : decode cc pc = .ok (.i2b, 1)) (hv : a.toInt8.toInt32 = v) (kk : zJ p l e R s m args below meth c A Q D nL (pc + 1) la (.int v :: st) ws k n) : zJ p l e R s m args below meth c A Q D nL pc la (.int a :: st) ws k n := by
  intro H locs lsA hP hD hS hL
  exact lv_i2b X.1 X.2.1 hd hv (kk H locs lsA hP hD hS hL)
theorem Z_i2c {a v : Int32} (X : zX own cc nL p s m args meth c D ct x A) (hd : decode cc pc = .ok (.i2c, 1)) (hv : (a.toUInt32 % 65536).toInt32 = v) (kk : zJ p l e R s m args below meth c A Q D nL (pc + 1) la (.int v :: st) ws k n) : zJ p l e R s m args below meth c A Q D nL pc la (.int a :: st) ws k n := by
  intro H locs lsA hP hD hS hL
  exact lv_i2c X.1 X.2.1 hd hv (kk H locs lsA hP hD hS hL)
theorem Z_lcmp {a b : Int64} (X : zX own cc nL p s m args meth c D ct x A) (hd : decode cc pc = .ok (.lcmp, 1))  (kk : zJ p l e R s m args below meth c A Q D nL (pc + 1) la (.int (lg_cmp a b) :: st) ws k n) : zJ p l e R s m args below meth c A Q D nL pc la (.long b :: .long a :: st) ws k n := by
  intro H locs lsA hP hD hS hL
  exact W.lcmp X.1 X.2.1 hd (kk H locs lsA hP hD hS hL)
theorem Z_dup {v : Value} (X : zX own cc nL p s m args meth c D ct x A) (hd : decode cc pc = .ok (.dup, 1)) (hv : v.category = 1) (kk : zJ p l e R s m args below meth c A Q D nL (pc + 1) la (v :: v :: st) ws k n) : zJ p l e R s m args below meth c A Q D nL pc la (v :: st) ws k n := by
  intro H locs lsA hP hD hS hL
  exact lv_dup X.1 X.2.1 hd hv (kk H locs lsA hP hD hS hL)
theorem Z_dup_x1 {u v : Value} (X : zX own cc nL p s m args meth c D ct x A) (hd : decode cc pc = .ok (.dup_x1, 1)) (hu : u.category = 1) (hv : v.category = 1) (kk : zJ p l e R s m args below meth c A Q D nL (pc + 1) la (u :: v :: u :: st) ws k n) : zJ p l e R s m args below meth c A Q D nL pc la (u :: v :: st) ws k n := by
  intro H locs lsA hP hD hS hL
  exact lv_dup_x1 X.1 X.2.1 hd hu hv (kk H locs lsA hP hD hS hL)
theorem Z_pop {v : Value} (X : zX own cc nL p s m args meth c D ct x A) (hd : decode cc pc = .ok (.pop, 1)) (hv : v.category = 1) (kk : zJ p l e R s m args below meth c A Q D nL (pc + 1) la st ws k n) : zJ p l e R s m args below meth c A Q D nL pc la (v :: st) ws k n := by
  intro H locs lsA hP hD hS hL
  exact lv_pop X.1 X.2.1 hd hv (kk H locs lsA hP hD hS hL)
theorem Z_goto {off : Int} {tgt : Nat} (X : zX own cc nL p s m args meth c D ct x A) (hd : decode cc pc = .ok (.goto off, 3)) (ht : (pc : Int) + off = (tgt : Int)) (kk : zJ p l e R s m args below meth c A Q D nL tgt la st ws k n) : zJ p l e R s m args below meth c A Q D nL pc la st ws k n := by
  intro H locs lsA hP hD hS hL
  exact lv_goto X.1 X.2.1 hd ht (kk H locs lsA hP hD hS hL)
theorem Z_ifnonnull {a : Nat} {off : Int} {tgt : Nat} (X : zX own cc nL p s m args meth c D ct x A) (hd : decode cc pc = .ok (.ifnonnull off, 3)) (ht : (pc : Int) + off = (tgt : Int)) (kk : zJ p l e R s m args below meth c A Q D nL tgt la st ws k n) : zJ p l e R s m args below meth c A Q D nL pc la (.ref a :: st) ws k n := by
  intro H locs lsA hP hD hS hL
  exact lv_ifnonnull X.1 X.2.1 hd ht (kk H locs lsA hP hD hS hL)
theorem Z_if_eq {a : Int32} {off : Int} {tgt : Nat} (X : zX own cc nL p s m args meth c D ct x A) (hd : decode cc pc = .ok (.ifCond .eq off, 3)) (ht : (pc : Int) + off = (tgt : Int)) (kt : (a = 0) → zJ p l e R s m args below meth c A Q D nL tgt la st ws k n) (kf : (¬ a = 0) → zJ p l e R s m args below meth c A Q D nL (pc + 3) la st ws k n) : zJ p l e R s m args below meth c A Q D nL pc la (.int a :: st) ws k n := by
  intro H locs lsA hP hD hS hL
  exact lv_if_eq X.1 X.2.1 hd ht (fun q => kt q H locs lsA hP hD hS hL) (fun q => kf q H locs lsA hP hD hS hL)
theorem Z_if_ne {a : Int32} {off : Int} {tgt : Nat} (X : zX own cc nL p s m args meth c D ct x A) (hd : decode cc pc = .ok (.ifCond .ne off, 3)) (ht : (pc : Int) + off = (tgt : Int)) (kt : (¬ a = 0) → zJ p l e R s m args below meth c A Q D nL tgt la st ws k n) (kf : (a = 0) → zJ p l e R s m args below meth c A Q D nL (pc + 3) la st ws k n) : zJ p l e R s m args below meth c A Q D nL pc la (.int a :: st) ws k n := by
  intro H locs lsA hP hD hS hL
  exact lv_if_ne X.1 X.2.1 hd ht (fun q => kt q H locs lsA hP hD hS hL) (fun q => kf q H locs lsA hP hD hS hL)
theorem Z_if_lt {a : Int32} {off : Int} {tgt : Nat} (X : zX own cc nL p s m args meth c D ct x A) (hd : decode cc pc = .ok (.ifCond .lt off, 3)) (ht : (pc : Int) + off = (tgt : Int)) (kt : (a < 0) → zJ p l e R s m args below meth c A Q D nL tgt la st ws k n) (kf : (¬ a < 0) → zJ p l e R s m args below meth c A Q D nL (pc + 3) la st ws k n) : zJ p l e R s m args below meth c A Q D nL pc la (.int a :: st) ws k n := by
  intro H locs lsA hP hD hS hL
  exact lv_if_lt X.1 X.2.1 hd ht (fun q => kt q H locs lsA hP hD hS hL) (fun q => kf q H locs lsA hP hD hS hL)
theorem Z_if_gt {a : Int32} {off : Int} {tgt : Nat} (X : zX own cc nL p s m args meth c D ct x A) (hd : decode cc pc = .ok (.ifCond .gt off, 3)) (ht : (pc : Int) + off = (tgt : Int)) (kt : (0 < a) → zJ p l e R s m args below meth c A Q D nL tgt la st ws k n) (kf : (¬ 0 < a) → zJ p l e R s m args below meth c A Q D nL (pc + 3) la st ws k n) : zJ p l e R s m args below meth c A Q D nL pc la (.int a :: st) ws k n := by
  intro H locs lsA hP hD hS hL
  exact lv_if_gt X.1 X.2.1 hd ht (fun q => kt q H locs lsA hP hD hS hL) (fun q => kf q H locs lsA hP hD hS hL)
theorem Z_if_ge {a : Int32} {off : Int} {tgt : Nat} (X : zX own cc nL p s m args meth c D ct x A) (hd : decode cc pc = .ok (.ifCond .ge off, 3)) (ht : (pc : Int) + off = (tgt : Int)) (kt : (¬ a < 0) → zJ p l e R s m args below meth c A Q D nL tgt la st ws k n) (kf : (a < 0) → zJ p l e R s m args below meth c A Q D nL (pc + 3) la st ws k n) : zJ p l e R s m args below meth c A Q D nL pc la (.int a :: st) ws k n := by
  intro H locs lsA hP hD hS hL
  exact lv_if_ge X.1 X.2.1 hd ht (fun q => kt (Int32.not_lt.mpr q) H locs lsA hP hD hS hL) (fun q => kf (Int32.not_le.mp q) H locs lsA hP hD hS hL)
theorem Z_if_le {a : Int32} {off : Int} {tgt : Nat} (X : zX own cc nL p s m args meth c D ct x A) (hd : decode cc pc = .ok (.ifCond .le off, 3)) (ht : (pc : Int) + off = (tgt : Int)) (kt : (¬ 0 < a) → zJ p l e R s m args below meth c A Q D nL tgt la st ws k n) (kf : (0 < a) → zJ p l e R s m args below meth c A Q D nL (pc + 3) la st ws k n) : zJ p l e R s m args below meth c A Q D nL pc la (.int a :: st) ws k n := by
  intro H locs lsA hP hD hS hL
  exact lv_if_le X.1 X.2.1 hd ht (fun q => kt (Int32.not_lt.mpr q) H locs lsA hP hD hS hL) (fun q => kf (Int32.not_le.mp q) H locs lsA hP hD hS hL)
theorem Z_icmp_eq {a b : Int32} {off : Int} {tgt : Nat} (X : zX own cc nL p s m args meth c D ct x A) (hd : decode cc pc = .ok (.if_icmp .eq off, 3)) (ht : (pc : Int) + off = (tgt : Int)) (kt : (a = b) → zJ p l e R s m args below meth c A Q D nL tgt la st ws k n) (kf : (¬ a = b) → zJ p l e R s m args below meth c A Q D nL (pc + 3) la st ws k n) : zJ p l e R s m args below meth c A Q D nL pc la (.int b :: .int a :: st) ws k n := by
  intro H locs lsA hP hD hS hL
  exact lv_icmp_eq X.1 X.2.1 hd ht (fun q => kt q H locs lsA hP hD hS hL) (fun q => kf q H locs lsA hP hD hS hL)
theorem Z_icmp_ne {a b : Int32} {off : Int} {tgt : Nat} (X : zX own cc nL p s m args meth c D ct x A) (hd : decode cc pc = .ok (.if_icmp .ne off, 3)) (ht : (pc : Int) + off = (tgt : Int)) (kt : (¬ a = b) → zJ p l e R s m args below meth c A Q D nL tgt la st ws k n) (kf : (a = b) → zJ p l e R s m args below meth c A Q D nL (pc + 3) la st ws k n) : zJ p l e R s m args below meth c A Q D nL pc la (.int b :: .int a :: st) ws k n := by
  intro H locs lsA hP hD hS hL
  exact lv_icmp_ne X.1 X.2.1 hd ht (fun q => kt q H locs lsA hP hD hS hL) (fun q => kf q H locs lsA hP hD hS hL)
theorem Z_icmp_lt {a b : Int32} {off : Int} {tgt : Nat} (X : zX own cc nL p s m args meth c D ct x A) (hd : decode cc pc = .ok (.if_icmp .lt off, 3)) (ht : (pc : Int) + off = (tgt : Int)) (kt : (a < b) → zJ p l e R s m args below meth c A Q D nL tgt la st ws k n) (kf : (¬ a < b) → zJ p l e R s m args below meth c A Q D nL (pc + 3) la st ws k n) : zJ p l e R s m args below meth c A Q D nL pc la (.int b :: .int a :: st) ws k n := by
  intro H locs lsA hP hD hS hL
  exact lv_icmp_lt X.1 X.2.1 hd ht (fun q => kt q H locs lsA hP hD hS hL) (fun q => kf q H locs lsA hP hD hS hL)
theorem Z_icmp_gt {a b : Int32} {off : Int} {tgt : Nat} (X : zX own cc nL p s m args meth c D ct x A) (hd : decode cc pc = .ok (.if_icmp .gt off, 3)) (ht : (pc : Int) + off = (tgt : Int)) (kt : (b < a) → zJ p l e R s m args below meth c A Q D nL tgt la st ws k n) (kf : (¬ b < a) → zJ p l e R s m args below meth c A Q D nL (pc + 3) la st ws k n) : zJ p l e R s m args below meth c A Q D nL pc la (.int b :: .int a :: st) ws k n := by
  intro H locs lsA hP hD hS hL
  exact lv_icmp_gt X.1 X.2.1 hd ht (fun q => kt q H locs lsA hP hD hS hL) (fun q => kf q H locs lsA hP hD hS hL)
theorem Z_icmp_ge {a b : Int32} {off : Int} {tgt : Nat} (X : zX own cc nL p s m args meth c D ct x A) (hd : decode cc pc = .ok (.if_icmp .ge off, 3)) (ht : (pc : Int) + off = (tgt : Int)) (kt : (¬ a < b) → zJ p l e R s m args below meth c A Q D nL tgt la st ws k n) (kf : (a < b) → zJ p l e R s m args below meth c A Q D nL (pc + 3) la st ws k n) : zJ p l e R s m args below meth c A Q D nL pc la (.int b :: .int a :: st) ws k n := by
  intro H locs lsA hP hD hS hL
  exact lv_icmp_ge X.1 X.2.1 hd ht (fun q => kt (Int32.not_lt.mpr q) H locs lsA hP hD hS hL) (fun q => kf (Int32.not_le.mp q) H locs lsA hP hD hS hL)
theorem Z_icmp_le {a b : Int32} {off : Int} {tgt : Nat} (X : zX own cc nL p s m args meth c D ct x A) (hd : decode cc pc = .ok (.if_icmp .le off, 3)) (ht : (pc : Int) + off = (tgt : Int)) (kt : (¬ b < a) → zJ p l e R s m args below meth c A Q D nL tgt la st ws k n) (kf : (b < a) → zJ p l e R s m args below meth c A Q D nL (pc + 3) la st ws k n) : zJ p l e R s m args below meth c A Q D nL pc la (.int b :: .int a :: st) ws k n := by
  intro H locs lsA hP hD hS hL
  exact lv_icmp_le X.1 X.2.1 hd ht (fun q => kt (Int32.not_lt.mpr q) H locs lsA hP hD hS hL) (fun q => kf (Int32.not_le.mp q) H locs lsA hP hD hS hL)
theorem Z_top {u v : Int32} (hv : u = v) (kk : zJ p l e R s m args below meth c A Q D nL pc la (.int v :: st) ws k n) : zJ p l e R s m args below meth c A Q D nL pc la (.int u :: st) ws k n := by
  subst hv
  exact kk
def zF (own : String) (idx ci j : Nat) : Prop := ∃ (C : String) (T : u_T) (N : Nat), gcl[ci]? = some (C, T, N) ∧ j < N ∧ (∀ t ∈ u_ws C T N, t ∈ gW) ∧ Cond.fieldLink own idx (T j).1 (T j).2.1 (T j).2.2.1 ∈ gW
theorem Z_get {idx ci j a : Nat} (q0 : Nat) {fs : List Value} {v : Value} (X : zX own cc nL p s m args meth c D ct x A) (hd : decode cc pc = .ok (.getfield idx, 3)) (hF : zF own idx ci j) (he : ws[q0]? = some (a, .inr (ci, fs))) (hv : fs[j]? = some v) (kk : zJ p l e R s m args below meth c A Q D nL (pc + 3) la (v :: st) ws k n) : zJ p l e R s m args below meth c A Q D nL pc la (.ref a :: st) ws k n := by
  intro H locs lsA hP hD hS hL
  obtain ⟨C, T, N1, hc, hk, hin, hlw⟩ := hF
  exact va_get X.1 X.2.1 X.2.2.2.2.1 hin X.2.2.2.1 X.2.2.2.2.2.2.1 hP q0 he hc j hk (X.2.2.2.2.1 _ hlw) (fun _ q => q) hv hd (kk H locs lsA hP hD hS hL)
theorem Z_put {idx ci j a : Nat} (q0 : Nat) {ty : FieldType} {fs : List Value} {v : Value} (X : zX own cc nL p s m args meth c D ct x A) (hd : decode cc pc = .ok (.putfield idx, 3)) (hF : zF own idx ci j) (hp : gP ci j ty) (hn : narrow ty v = v) (hf : fits ty v = true) (he : ws[q0]? = some (a, .inr (ci, fs))) (hl : j < fs.length) (kk : zJ p l e R s m args below meth c A Q D nL (pc + 3) la st (ws.set q0 (a, .inr (ci, fs.set j v))) k n) : zJ p l e R s m args below meth c A Q D nL pc la (v :: .ref a :: st) ws k n := by
  intro H locs lsA hP hD hS hL
  obtain ⟨C, T, N1, hc, hk, hin, hlw⟩ := hF
  obtain ⟨C2, T2, N2, ty0, hc2, hty, hnm, hfin, hty2⟩ := hp
  rw [hc] at hc2
  cases hc2
  exact va_put X.1 X.2.1 X.2.2.2.2.1 hin ty0 hty hnm X.2.2.2.1 X.2.2.2.2.2.2.1 hP hD hS q0 he hc j hk (X.2.2.2.2.1 _ hlw) (fun _ q => q) hfin hty2 hn hf hl hd (fun H1 locs1 hP1 hD1 hS1 => kk H1 locs1 lsA hP1 hD1 hS1 hL)
theorem Z_putF {idx ci j a : Nat} (q0 : Nat) {ret : Option FieldType} {ty : FieldType} {fs : List Value} {v : Value} (X : zX own cc nL p s m args meth c D ct x A) (hM : zM ret "<init>" meth) (hd : decode cc pc = .ok (.putfield idx, 3)) (hF : zF own idx ci j) (hp : gPF own ci j ty) (hn : narrow ty v = v) (hf : fits ty v = true) (he : ws[q0]? = some (a, .inr (ci, fs))) (hl : j < fs.length) (kk : zJ p l e R s m args below meth c A Q D nL (pc + 3) la st (ws.set q0 (a, .inr (ci, fs.set j v))) k n) : zJ p l e R s m args below meth c A Q D nL pc la (v :: .ref a :: st) ws k n := by
  intro H locs lsA hP hD hS hL
  obtain ⟨C, T, N1, hc, hk, hin, hlw⟩ := hF
  obtain ⟨C2, T2, N2, ty0, hc2, hty, hnm, hfin, hdec, hty2⟩ := hp
  rw [hc] at hc2
  cases hc2
  exact va_putF X.1 X.2.1 X.2.2.2.2.1 hin ty0 hty hnm X.2.2.2.1 X.2.2.2.2.2.2.1 hP hD hS q0 he hc j hk (X.2.2.2.2.1 _ hlw) (fun _ q => q) hfin hM.2 hdec hty2 hn hf hl hd (fun H1 locs1 hP1 hD1 hS1 => kk H1 locs1 lsA hP1 hD1 hS1 hL)
theorem Z_new {idx ci N : Nat} {fs : List Value} (X : zX own cc nL p s m args meth c D ct x A) (hd : decode cc pc = .ok (.new idx, 3)) (hw : gNw own idx ci fs N) (hk : k + 1 ≤ R.cells) (hs : n + N ≤ R.slots) (kk : ∀ q, zJ p l e R s m args below meth c A Q D nL (pc + 3) la (.ref q :: st) (ws ++ [(q, .inr (ci, fs))]) (k + 1) (n + N)) : zJ p l e R s m args below meth c A Q D nL pc la st ws k n := by
  intro H locs lsA hP hD hS hL
  obtain ⟨C, T, ty, hc, hin, hty, w1, w2, w3, hfs⟩ := hw
  exact va_new X.1 X.2.1 X.2.2.2.2.1 hin ty hty X.2.2.2.1 (X.2.2.2.2.1 _ w1) (X.2.2.2.2.1 _ w2) (X.2.2.2.2.1 _ w3) X.2.2.2.2.2.2.1 hP hD hS X.2.2.2.2.2.2.2.2.2 hc hfs hk hs hd (fun q H1 hP1 hD1 hS1 => kk q H1 locs lsA hP1 hD1 hS1 hL)
theorem Z_newb {N : Nat} {nv : Int32} (X : zX own cc nL p s m args meth c D ct x A) (hd : decode cc pc = .ok (.newarray .byte, 2)) (hw : Cond.arrayClass .byte ∈ gW) (hn : ¬ nv < 0) (hN : nv.toNatClampNeg = N) (hb : N * 1 ≤ 536870912) (hk : k + 1 ≤ R.cells) (hs : n + N ≤ R.slots) (kk : ∀ q, zJ p l e R s m args below meth c A Q D nL (pc + 2) la (.ref q :: st) (ws ++ [(q, .inl (ct.2.1, N, .inl (fun _ => 0)))]) (k + 1) (n + N)) : zJ p l e R s m args below meth c A Q D nL pc la (.int nv :: st) ws k n := by
  intro H locs lsA hP hD hS hL
  refine va_newa (atype := .byte) (ty := .byte) (a0 := (N, .inl (fun _ => 0))) X.1 X.2.1 (X.2.2.2.2.1 _ hw) rfl X.2.2.2.2.2.2.1 hP hD hS X.2.2.2.2.2.2.2.2.2 (fun cA => by rw [vp_cell_i]; rfl) hn hN hb hk hs hd (fun q cA H1 hK1 hP1 hD1 hS1 => ?_)
  have e1 := ct_uni hK1 (t := 1) (cB := ct.2.1) rfl
  subst e1
  exact kk q H1 locs lsA hP1 hD1 hS1 hL
theorem Z_alen {a N : Nat} (q0 : Nat) {f : Nat → Int32} {v : Int32} (X : zX own cc nL p s m args meth c D ct x A) (hd : decode cc pc = .ok (.arraylength, 1)) (he : ws[q0]? = some (a, .inl (ct.2.1, N, .inl f))) (hv : Int32.ofNat N = v) (kk : zJ p l e R s m args below meth c A Q D nL (pc + 1) la (.int v :: st) ws k n) : zJ p l e R s m args below meth c A Q D nL pc la (.ref a :: st) ws k n := by
  intro H locs lsA hP hD hS hL
  exact va_alen X.1 X.2.1 X.2.2.2.2.2.2.1 hP q0 1 he (ty := .byte) rfl hv hd (kk H locs lsA hP hD hS hL)
theorem Z_bast {a N kn : Nat} (q0 : Nat) {f : Nat → Int32} {i b v : Int32} (X : zX own cc nL p s m args meth c D ct x A) (hd : decode cc pc = .ok (.bastore, 1)) (he : ws[q0]? = some (a, .inl (ct.2.1, N, .inl f))) (hi : ¬ i < 0 ∧ kn < N) (hk : i.toNatClampNeg = kn) (hv : vp_nar .byte b = v) (kk : zJ p l e R s m args below meth c A Q D nL (pc + 1) la st (ws.set q0 (a, .inl (ct.2.1, N, .inl (upd f kn v)))) k n) : zJ p l e R s m args below meth c A Q D nL pc la (.int b :: .int i :: .ref a :: st) ws k n := by
  intro H locs lsA hP hD hS hL
  refine va_bast X.1 X.2.1 X.2.2.2.2.2.2.1 hP hD hS q0 1 he rfl (fun z => by rcases z with z | z; exact hi.1 z; rw [hk] at z; omega) hd (fun H1 locs1 hP1 hD1 hS1 => ?_)
  rw [hk, hv] at hP1 hD1
  exact kk H1 locs1 lsA hP1 hD1 hS1 hL
theorem Z_getc {idx : Nat} {q : iT} (i : Nat) (X : zX own cc nL p s m args meth c D ct x A) (hd : decode cc pc = .ok (.getfield idx, 3)) (hk : Cond.fieldLink own idx "java/lang/String" "coder" "B" ∈ gW) (hq : x.2.1[i]? = some q) (kk : zJ p l e R s m args below meth c A Q D nL (pc + 3) la (.int 0 :: st) ws k n) : zJ p l e R s m args below meth c A Q D nL pc la (.ref q.1 :: st) ws k n := by
  intro H locs lsA hP hD hS hL
  exact vk_getf X.1 X.2.1 (X.2.2.2.2.2.2.2.2.1.2.2.2.2.1 q (List.mem_of_getElem? hq)).2.1 hS X.2.2.2.1 (X.2.2.2.2.1 _ hk) (fun _ q => q) hd (kk H locs lsA hP hD hS hL)
theorem Z_getw {idx : Nat} {q : iT} (i : Nat) (X : zX own cc nL p s m args meth c D ct x A) (hd : decode cc pc = .ok (.getfield idx, 3)) (hk : Cond.fieldLink own idx "java/lang/String" "value" "[B" ∈ gW) (hq : x.2.1[i]? = some q) (kk : zJ p l e R s m args below meth c A Q D nL (pc + 3) la (.ref q.2.1 :: st) ws k n) : zJ p l e R s m args below meth c A Q D nL pc la (.ref q.1 :: st) ws k n := by
  intro H locs lsA hP hD hS hL
  exact vk_getf X.1 X.2.1 (X.2.2.2.2.2.2.2.2.1.2.2.2.2.1 q (List.mem_of_getElem? hq)).2.2.1 hS X.2.2.2.1 (X.2.2.2.2.1 _ hk) (fun _ q => q) hd (kk H locs lsA hP hD hS hL)
theorem Z_alenE {q : iT} (i : Nat) {v : Int32} (X : zX own cc nL p s m args meth c D ct x A) (hd : decode cc pc = .ok (.arraylength, 1)) (hq : x.2.1[i]? = some q) (hv : Int32.ofNat q.2.2.1 = v) (kk : zJ p l e R s m args below meth c A Q D nL (pc + 1) la (.int v :: st) ws k n) : zJ p l e R s m args below meth c A Q D nL pc la (.ref q.2.1 :: st) ws k n := by
  intro H locs lsA hP hD hS hL
  exact va_tlen X.1 X.2.1 (X.2.2.2.2.2.2.2.2.1.2.2.2.2.1 q (List.mem_of_getElem? hq)).2.2.2 hS hv hd (kk H locs lsA hP hD hS hL)
theorem Z_baldE {q : iT} (i : Nat) {j v : Int32} (X : zX own cc nL p s m args meth c D ct x A) (hd : decode cc pc = .ok (.baload, 1)) (hq : x.2.1[i]? = some q) (hi : vp_in j q.2.2.1) (hv : q.2.2.2 j.toNatClampNeg = v) (kk : zJ p l e R s m args below meth c A Q D nL (pc + 1) la (.int v :: st) ws k n) : zJ p l e R s m args below meth c A Q D nL pc la (.int j :: .ref q.2.1 :: st) ws k n := by
  intro H locs lsA hP hD hS hL
  subst hv
  exact va_tb X.1 X.2.1 (X.2.2.2.2.2.2.2.2.1.2.2.2.2.1 q (List.mem_of_getElem? hq)).2.2.2 hS hi rfl hd (kk H locs lsA hP hD hS hL)
theorem Z_gcs {idx : Nat} (X : zX own cc nL p s m args meth c D ct x A) (hd : decode cc pc = .ok (.getstatic idx, 3)) (hk : Cond.fieldLink own idx "java/lang/String" "COMPACT_STRINGS" "Z" ∈ gW) (kk : zJ p l e R s m args below meth c A Q D nL (pc + 3) la (.int 1 :: st) ws k n) : zJ p l e R s m args below meth c A Q D nL pc la st ws k n := by
  intro H locs lsA hP hD hS hL
  exact va_gets X.1 X.2.1 X.2.2.2.2.2.2.2.2.1.1 hS X.2.2.2.1 (X.2.2.2.2.1 _ hk) (fun _ q => q) hd (kk H locs lsA hP hD hS hL)
theorem Z_gsf {idx : Nat} (X : zX own cc nL p s m args meth c D ct x A) (hd : decode cc pc = .ok (.getstatic idx, 3)) (hk : Cond.fieldLink own idx "jdk/internal/util/Preconditions" "SIOOBE_FORMATTER" "Ljava/util/function/BiFunction;" ∈ gW) (kk : ∀ v : Value, v = .null ∨ (∃ t, v = .ref t) → zJ p l e R s m args below meth c A Q D nL (pc + 3) la (v :: st) ws k n) : zJ p l e R s m args below meth c A Q D nL pc la st ws k n := by
  intro H locs lsA hP hD hS hL
  rcases X.2.2.2.2.2.2.2.2.1.2.1 with hz | ⟨t, hz⟩
  · exact va_gets X.1 X.2.1 hz hS X.2.2.2.1 (X.2.2.2.2.1 _ hk) (fun _ q => q) hd (kk .null (Or.inl rfl) H locs lsA hP hD hS hL)
  · exact va_gets X.1 X.2.1 hz hS X.2.2.2.1 (X.2.2.2.2.1 _ hk) (fun _ q => q) hd (kk (.ref t) (Or.inr ⟨t, rfl⟩) H locs lsA hP hD hS hL)
theorem Z_gdo {idx : Nat} (X : zX own cc nL p s m args meth c D ct x A) (hd : decode cc pc = .ok (.getstatic idx, 3)) (hk : Cond.fieldLink own idx "java/lang/Integer" "DigitOnes" "[B" ∈ gW) (kk : zJ p l e R s m args below meth c A Q D nL (pc + 3) la (.ref x.1 :: st) ws k n) : zJ p l e R s m args below meth c A Q D nL pc la st ws k n := by
  intro H locs lsA hP hD hS hL
  exact va_gets X.1 X.2.1 X.2.2.2.2.2.2.2.2.1.2.2.1 hS X.2.2.2.1 (X.2.2.2.2.1 _ hk) (fun _ q => q) hd (kk H locs lsA hP hD hS hL)
theorem Z_baldD {j v : Int32} (X : zX own cc nL p s m args meth c D ct x A) (hd : decode cc pc = .ok (.baload, 1)) (hi : vp_in j 100) (hv : nI (48 + j.toNatClampNeg % 10) = v) (kk : zJ p l e R s m args below meth c A Q D nL (pc + 1) la (.int v :: st) ws k n) : zJ p l e R s m args below meth c A Q D nL pc la (.int j :: .ref x.1 :: st) ws k n := by
  intro H locs lsA hP hD hS hL
  subst hv
  exact va_tb X.1 X.2.1 X.2.2.2.2.2.2.2.2.1.2.2.2.1 hS hi rfl hd (kk H locs lsA hP hD hS hL)
theorem Z_slen {q : iI} (i : Nat) (X : zX own cc nL p s m args meth c D ct x A) (hd : decode cc pc = .ok (.arraylength, 1)) (hq : x.2.2[i]? = some q) (kk : zJ p l e R s m args below meth c A Q D nL (pc + 1) la (.int (Int32.ofNat q.2.1) :: st) ws k n) : zJ p l e R s m args below meth c A Q D nL pc la (.ref q.1 :: st) ws k n := by
  intro H locs lsA hP hD hS hL
  have hx := X.2.2.2.2.2.2.2.2.1.2.2.2.2.2 q (List.mem_of_getElem? hq)
  exact va_slen X.1 X.2.1 hx.1 hx.lt hx.2 hS hd (kk H locs lsA hP hD hS hL)
theorem Z_sld {q : iI} (i : Nat) {j : Int32} (X : zX own cc nL p s m args meth c D ct x A) (hd : decode cc pc = .ok (.iaload, 1)) (hq : x.2.2[i]? = some q) (hi : vp_in j q.2.1) (kk : zJ p l e R s m args below meth c A Q D nL (pc + 1) la (.int (q.2.2 j.toNatClampNeg) :: st) ws k n) : zJ p l e R s m args below meth c A Q D nL pc la (.int j :: .ref q.1 :: st) ws k n := by
  intro H locs lsA hP hD hS hL
  have hx := X.2.2.2.2.2.2.2.2.1.2.2.2.2.2 q (List.mem_of_getElem? hq)
  exact va_sld X.1 X.2.1 hx.1 hx.lt hx.2 hS hi hd (kk H locs lsA hP hD hS hL)
theorem Z_objInit {idx a : Nat} (X : zX own cc nL p s m args meth c D ct x A) (hd : decode cc pc = .ok (.invokespecial idx, 3)) (ho : gOI own idx) (hf : 1 ≤ R.frames) (hl : 12 ≤ R.locals) (kk : zJ p l e R s m args below meth c A Q D nL (pc + 3) la [] ws k n) : zJ p l e R s m args below meth c A Q D nL pc la [.ref a] ws k n := by
  intro H locs lsA hP hD hS hL
  refine W.objInit X.1 X.2.1 X.2.2.2.1 (X.2.2.2.2.1 _ ho.1) (X.2.2.2.2.1 _ ho.2.1) (X.2.2.2.2.1 _ ho.2.2) rfl (by rw [X.2.2.1]; exact hL.1) rfl hd hf (by show 2 * 0 + 0 + 12 ≤ R.locals; omega) ?_
  refine W.eq (g2 := F0 m (pc + 3) lsA []) rfl ?_
  exact kk H locs lsA hP hD hS hL
theorem Z_copyE {idx a N kd kn : Nat} {q : iT} (i q1 : Nat) {g : Nat → Int32} {dp m1 : Int32} (X : zX own cc nL p s m args meth c D ct x A) (hd : decode cc pc = .ok (.invokestatic idx, 3)) (hc : gCy own idx) (hq : x.2.1[i]? = some q) (he : ws[q1]? = some (a, .inl (ct.2.1, N, .inl g))) (hdp : ¬ dp < 0 ∧ dp.toNatClampNeg = kd) (hm : ¬ m1 < 0 ∧ m1.toNatClampNeg = kn) (hl : kn ≤ q.2.2.1 ∧ kd + kn ≤ N) (hfit : ∀ i, i < kn → fits .byte (.int (q.2.2.2 i)) = true) (hf : 1 ≤ R.frames) (hlo : (st.map fun v => v.category).sum + (nativeFrameWords "java/lang/System" "arraycopy" 5 + 11) ≤ R.locals) (kk : zJ p l e R s m args below meth c A Q D nL (pc + 3) la st (ws.set q1 (a, .inl (ct.2.1, N, .inl (va_cpy q.2.2.2 g 0 kd kn)))) k n) : zJ p l e R s m args below meth c A Q D nL pc la (.int m1 :: .int dp :: .ref a :: .int 0 :: .ref q.2.1 :: st) ws k n := by
  intro H locs lsA hP hD hS hL
  obtain ⟨d1, d2⟩ := hdp
  obtain ⟨m2, m3⟩ := hm
  refine vk_copyt (f := q.2.2.2) X.1 X.2.1 (X.2.2.1.trans hL.1.symm) X.2.2.2.1 (X.2.2.2.2.1 _ hc.1) (X.2.2.2.2.1 _ hc.2.1) (X.2.2.2.2.1 _ hc.2.2.1) (X.2.2.2.2.1 _ hc.2.2.2) X.2.2.2.2.2.2.1 hP hD hS (X.2.2.2.2.2.2.2.2.1.2.2.2.2.1 q (List.mem_of_getElem? hq)).2.2.2 q1 1 he rfl (by decide) d1 m2 (by rw [m3, show (0 : Int32).toNatClampNeg = 0 by decide]; omega) (by rw [m3, d2]; omega) (fun i hi => by rw [show (0 : Int32).toNatClampNeg = 0 by decide, Nat.zero_add]; exact hfit i (by omega)) hf hlo hd (fun H1 locs1 hP1 hD1 hS1 => ?_)
  rw [m3, d2, show (0 : Int32).toNatClampNeg = 0 by decide] at hP1 hD1
  exact kk H1 locs1 lsA hP1 hD1 hS1 hL
theorem Z_copyW {idx a0 a N0 N kn : Nat} (q0 q1 : Nat) {f g : Nat → Int32} {m1 : Int32} (X : zX own cc nL p s m args meth c D ct x A) (hd : decode cc pc = .ok (.invokestatic idx, 3)) (hc : gCy own idx) (he0 : ws[q0]? = some (a0, .inl (ct.2.1, N0, .inl f))) (he : ws[q1]? = some (a, .inl (ct.2.1, N, .inl g))) (hm : ¬ m1 < 0 ∧ m1.toNatClampNeg = kn) (hl : kn ≤ N0 ∧ kn ≤ N) (hfit : ∀ i, i < kn → fits .byte (.int (f i)) = true) (hf : 1 ≤ R.frames) (hlo : (st.map fun v => v.category).sum + (nativeFrameWords "java/lang/System" "arraycopy" 5 + 11) ≤ R.locals) (kk : zJ p l e R s m args below meth c A Q D nL (pc + 3) la st (ws.set q1 (a, .inl (ct.2.1, N, .inl (va_cpy f g 0 0 kn)))) k n) : zJ p l e R s m args below meth c A Q D nL pc la (.int m1 :: .int 0 :: .ref a :: .int 0 :: .ref a0 :: st) ws k n := by
  intro H locs lsA hP hD hS hL
  obtain ⟨m2, m3⟩ := hm
  have z0 : (0 : Int32).toNatClampNeg = 0 := by decide
  refine va_copyi X.1 X.2.1 (X.2.2.1.trans hL.1.symm) X.2.2.2.1 (X.2.2.2.2.1 _ hc.1) (X.2.2.2.2.1 _ hc.2.1) (X.2.2.2.2.1 _ hc.2.2.1) (X.2.2.2.2.1 _ hc.2.2.2) X.2.2.2.2.2.2.1 hP hD hS q0 q1 1 1 (ty := .byte) he0 he rfl rfl rfl (by decide) (by decide) m2 (by rw [m3, z0]; omega) (by rw [m3, z0]; omega) (fun i hi => by rw [z0, Nat.zero_add]; exact hfit i (by omega)) hf hlo hd (fun H1 locs1 hP1 hD1 hS1 => ?_)
  rw [m3, z0] at hP1 hD1
  exact kk H1 locs1 lsA hP1 hD1 hS1 hL
theorem Z_mmin {idx : Nat} {a b v : Int32} (X : zX own cc nL p s m args meth c D ct x A) (hd : decode cc pc = .ok (.invokestatic idx, 3)) (h1 : Cond.methodLink own idx Lib.Math.min.name ∈ gW) (h2 : Cond.static Lib.Math.min.name ∈ gW) (h3 : Cond.initialized "java/lang/Math" ∈ gW) (h4 : Cond.code Lib.Math.min.name Lib.Math.min.code 2 (some .int) ∈ gW) (hf : 1 ≤ R.frames) (hlo : (st.map fun v => v.category).sum + 13 ≤ R.locals) (hkc : k ≤ R.cells ∧ n ≤ R.slots) (hv : (if b < a then b else a) = v) (kk : zJ p l e R s m args below meth c A Q D nL (pc + 3) la (.int v :: st) ws k n) : zJ p l e R s m args below meth c A Q D nL pc la (.int b :: .int a :: st) ws k n := by
  intro H locs lsA hP hD hS hL
  subst hv
  exact va_mmin X.1 X.2.1 (X.2.2.1.trans hL.1.symm) X.2.2.2.1 (X.2.2.2.2.1 _ h1) (X.2.2.2.2.1 _ h2) (X.2.2.2.2.1 _ h3) (X.2.2.2.2.1 _ h4) hf hlo hkc.1 hkc.2 hd (kk H locs lsA hP hD hS hL)
end
