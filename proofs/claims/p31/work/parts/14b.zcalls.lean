/-! calls in a world that grows, and ends -/
theorem zpos {W0 es w : va_W} {a : Nat} (ha : W0.length = a) {is : List Nat} (h : is.map (fun i => es[i]?) = w.map some) : (is.map (fun i => a + i)).map (fun i => (W0 ++ es)[i]?) = w.map some := by
  rw [← h, List.map_map]
  refine List.map_congr_left (fun i _ => ?_)
  show (W0 ++ es)[a + i]? = es[i]?
  rw [List.getElem?_append_right (by omega), show a + i - W0.length = i by omega]
theorem zpre {W0 es : va_W} {a : Nat} (ha : W0.length = a) : (List.range a).map (fun i => (W0 ++ es)[i]?) = W0.map some := by
  subst ha
  apply List.ext_getElem?
  intro i
  rw [List.getElem?_map, List.getElem?_map]
  by_cases h : i < W0.length
  · rw [List.getElem?_range h, List.getElem?_eq_getElem h]
    show some ((W0 ++ es)[i]?) = _
    rw [List.getElem?_append_left h, List.getElem?_eq_getElem h]; rfl
  · rw [List.getElem?_eq_none (by rw [List.length_range]; omega), List.getElem?_eq_none (by omega)]; rfl
theorem zrest {W0 es w : va_W} {a : Nat} (ha : W0.length = a) {is : List Nat} (h : is.map (fun i => es[i]?) = w.map some) : (List.range a ++ is.map (fun i => a + i)).map (fun i => (W0 ++ es)[i]?) = (W0 ++ w).map some := by
  rw [List.map_append, zpre ha, zpos ha h, List.map_append]
/-- what a callee is told of the outside -/
def xsub (x x1 : iO) : Prop := x1.1 = x.1 ∧ (∀ q ∈ x1.2.1, q ∈ x.2.1) ∧ ∀ q ∈ x1.2.2, q ∈ x.2.2
theorem xsub_rf (x : iO) : xsub x x := ⟨rfl, fun _ h => h, fun _ h => h⟩
theorem xsub_nil (x : iO) : xsub x (x.1, [], []) := ⟨rfl, fun _ h => by (cases h), fun _ h => by (cases h)⟩
theorem iE_sub {x x1 : iO} (h : xsub x x1) {A : Nat → Prop} {U : State} {H : Heap} (g : iE x A U H) : iE x1 A U H := by
  obtain ⟨d, ts, sc⟩ := x
  obtain ⟨d1, ts1, sc1⟩ := x1
  obtain ⟨h1, h2, h3⟩ := h
  have h1 : d1 = d := h1
  subst h1
  exact g.less h2 h3
/-- a private method of a class above: which one a call of it runs -/
theorem zselP {C : String} {y z : MethodName} {s : State} {args : Array Value} (hy : y.cls ≠ "java/lang/invoke/MethodHandle" ∧ y.cls ≠ "java/lang/invoke/VarHandle") (hyz : z.cls = y.cls) (hsel : (Cond.selects C z z).before args s = true) (hpriv : (Cond.privateMethod y).before args s = true) (hinst : (Cond.instanceMethod y).before args s = true) : (Cond.selects C y y).before args s = true := by
  obtain ⟨c, r2, m2, hc, q2, q3, q4, kP, hkP, hkPi⟩ := Cond.selects_spec hsel
  obtain ⟨mk, methM, hnamed, hmethM, -, -⟩ := Cond.instanceMethod_spec hinst
  have hfound : s.methodFound? y.cls y.name y.desc = some mk := State.methodFound?_of_named hnamed hy
  have hcls : mk.cls = m2.cls := by
    have e1 := findClass_of_methodNamed hnamed
    have e2 := findClass_of_methodNamed q3
    rw [hyz] at e2
    exact Option.some.inj (e1.symm.trans e2)
  have hs2 : selectMethod {} s.vm c mk = .method mk := selectMethod_private hmethM (Cond.privateMethod_at hpriv mk methM hnamed hmethM)
  simp only [Cond.before, Cond.holds, Cond.value, hc, hfound, hnamed, hs2, hcls, hkP]
  simp [hkPi]
section
variable {own : String} {cc : ByteArray} {nL : Nat} {p : Program} {l : Launch} {e : Env} {R : Room} {s : State} {m : MethodId} {args : Array Value} {below : List Frame} {meth : Method} {c : Code} {A : Nat → Prop} {Q : State → Prop} {D : va_G} {ct : iC3} {x : iO} {pc : Nat} {la : List (Nat × Value)} {st : List Value} {ws : va_W} {k n : Nat}
theorem zFree (X : zX own cc nL p s m args meth c D ct x A) {ws wc : va_W} {H : Heap} {locs : List Loc} (hD : va_D A ws) (hS : va_S A s.heap H locs) (is : List Nat) (hC : is.map (fun i => ws[i]?) = wc.map some) : ∀ q, va_A wc H.size q → A q := va_free hD hS X.2.2.2.2.2.2.2.2.2 is hC
theorem iPre_at (X : zX own cc nL p s m args meth c D ct x A) {x1 : iO} (hx : xsub x x1) {ws wc : va_W} {H : Heap} {locs : List Loc} (hP : va_P D gcl ws H) (hD : va_D A ws) (hS : va_S A s.heap H locs) (is : List Nat) (hn : va_nd is = true) (hC : is.map (fun i => ws[i]?) = wc.map some) {U : State} (hU : U.heap = H) (hW : s.WarmedH U.vm) : iPre D ct x1 wc H.size U :=
  ⟨by rw [hU], by rw [hU]; exact hP.sub is (fm_of hC), va_K.moved hW.alike X.2.2.2.2.2.2.1, fun z hz => iN_warm hz hW (X.2.2.2.2.2.2.2.1 z hz), (hD.sub is hn hC).weaken (fun _ _ _ _ => trivial),
    by rw [hU]; exact iE_sub hx (((X.2.2.2.2.2.2.2.2.1.moved hW.alike).kept hS.2.1).narrow (zFree X hD hS is hC))⟩
/-- behind a call -/
theorem zgo (X : zX own cc nL p s m args meth c D ct x A) {W0 es wc wr : va_W} {a0 : Nat} (ha : W0.length = a0) {H : Heap} {locs : List Loc} {lsA : Array Slot} {st0 rest : List Value} {av : Array Value} {B1 : Option Value → va_W → Prop} {mc1 ms1 : Nat} (isC isR : List Nat) (hC1 : isC.map (fun i => es[i]?) = wc.map some) (hR1 : isR.map (fun i => es[i]?) = wr.map some) (hnd : va_nd (List.range a0 ++ isR.map (fun i => a0 + i)) = true) (hdis : ∀ i ∈ List.range a0 ++ isR.map (fun i => a0 + i), i ∉ isC.map (fun i => a0 + i))
    (hP : va_P D gcl (W0 ++ es) H) (hD : va_D A (W0 ++ es)) (hS : va_S A s.heap H locs) (hL : lv_has lsA nL la)
    (hr : va_Run p l e R s m args below meth c H locs k n mc1 ms1 (F0 m pc lsA st0) rest (iQ B1 D (va_A wc H.size) av) (va_A wc H.size))
    (kk : ∀ r w1, B1 r w1 → zJ p l e R s m args below meth c A Q D nL (pc + 3) la (r.toList ++ rest) (W0 ++ (wr ++ w1)) (k + mc1) (n + ms1)) : W p l e R s m args below meth c H locs k n Q (F0 m pc lsA st0) := by
  have hFc := zFree X hD hS _ (zpos ha hC1)
  intro T hT XX
  obtain ⟨v, st₀, t, T', L, h0, X', hLs, e1, e2, ⟨⟨r, w1, hv, hB, hP1, hD1⟩, hz, hk⟩, st⟩ := hr T hT XX
  cases hv
  rw [h0] at hz hk
  obtain ⟨hP2, hD2⟩ := va_join (wr := W0 ++ wr) (w1 := w1) hP hD _ _ (zpos ha hC1) (zrest ha hR1) hnd hdis hk hFc hP1 hD1
  rw [List.append_assoc] at hP2 hD2
  obtain ⟨t2, a1, b1⟩ := kk v w1 hB T'.heap (locs ++ L) lsA (by rw [e1]; exact hP2) hD2
    ⟨Nat.le_trans hS.1 (by rw [e1]; exact hz), fun q g1 g2 => by rw [e1, hk q (Nat.lt_of_lt_of_le g1 hS.1) (fun z => g2 (hFc q z))]; exact hS.2.1 q g1 g2, fun q hq => by
      rcases List.mem_append.mp hq with g | g
      · exact hS.2.2 q g
      · exact hFc _ (hLs q g)⟩ hL T' rfl X'
  exact ⟨t2, st t2 a1, b1⟩
theorem zFix (X : zX own cc nL p s m args meth c D ct x A) : CallFix p m c cc nL s args gW own := ⟨X.1, X.2.1, X.2.2.1, X.2.2.2.1, X.2.2.2.2.1⟩
theorem zLink (X : zX own cc nL p s m args meth c D ct x A) {idx nA : Nat} {y : MethodName} (hk : gLk own idx y nA) : (Cond.methodLink own idx y).before args s = true ∨ ∃ host, va_Nw (.methodLinkNest own idx y host) s := by
  rcases hk.1 with h | ⟨host, h⟩
  · exact Or.inl (X.2.2.2.2.1 _ h)
  · exact Or.inr ⟨host, X.2.2.2.2.2.2.2.1 _ (List.mem_append_left _ h)⟩
def zroom (R1 R : Room) (nL1 : Nat) : Prop := R1.frames + 1 ≤ R.frames ∧ 8 + (nL1 + 11) + R1.locals ≤ R.locals
/-- the cells of a call: the callee's, and the others -/
def zcut (a0 : Nat) (es wc wr : va_W) (isC isR : List Nat) : Prop := isC.map (fun i => es[i]?) = wc.map some ∧ isR.map (fun i => es[i]?) = wr.map some ∧ va_nd (isC.map (fun i => a0 + i)) = true ∧ va_nd (List.range a0 ++ isR.map (fun i => a0 + i)) = true ∧ ∀ i ∈ List.range a0 ++ isR.map (fun i => a0 + i), i ∉ isC.map (fun i => a0 + i)
theorem Z_callS {idx nA nL1 mc1 ms1 a0 : Nat} {y : MethodName} {bytes : ByteArray} {ret1 : Option FieldType} {R1 : Room} {As rest : List Value} {x1 : iO} {W0 es wc wr : va_W} {B1 : Option Value → va_W → Prop} (isC isR : List Nat) (X : zX own cc nL p s m args meth c D ct x A) (hd : decode cc pc = .ok (.invokestatic idx, 3)) (hk : gLS own idx y nA) (hco : Cond.code y bytes nL1 ret1 ∈ gW) (hn : As.length = nA) (hst : st = As.reverse ++ rest) (hcat : (rest.map fun v => v.category).sum ≤ 8) (hR : zroom R1 R nL1) (hmc : R1.cells = mc1) (hms : R1.slots = ms1) (hk2 : k + mc1 ≤ R.cells ∧ n + ms1 ≤ R.slots) (hC : iC y bytes nL1 ret1 R1 mc1 ms1 D ct x1 As wc B1) (hx : xsub x x1) (ha : W0.length = a0) (hcut : zcut a0 es wc wr isC isR)
    (kk : ∀ r w1, B1 r w1 → zJ p l e R s m args below meth c A Q D nL (pc + 3) la (r.toList ++ rest) (W0 ++ (wr ++ w1)) (k + mc1) (n + ms1)) : zJ p l e R s m args below meth c A Q D nL pc la st (W0 ++ es) k n := by
  intro H locs lsA hP hD hS hL
  subst hst
  obtain ⟨c1, c2, c3, c4, c5⟩ := hcut
  have hps : PreS s H (va_Pc As (iPre D ct x1 wc H.size)) As := ⟨iPre_blind D ct x1 wc H.size _, fun U hU hW => ⟨rfl, iPre_at X hx hP hD hS _ c3 (zpos ha c1) hU hW⟩⟩
  refine zgo (av := As.toArray) X ha isC isR c1 c2 c4 c5 hP hD hS hL ?_ kk
  rcases zLink X hk.1 with hl | ⟨host, hl⟩
  · exact va_runS (zFix X) (hC l H.size) ⟨callB_of nA X.2.2.2.2.1 (gGood hco) rfl hmc hms (X.2.2.2.2.1 _ hk.1.2.1) hl hk.1.2.2 hR, X.2.2.2.2.1 _ hk.2⟩ hps rfl hn hL.1 rfl (lv_room hcat) hd hk2
  · exact va_runSN (zFix X) (hC l H.size) ⟨va_cnB nA X.2.2.2.2.1 (gGood hco) rfl hmc hms hl (X.2.2.2.2.1 _ hk.1.2.1) hk.1.2.2 hR, X.2.2.2.2.1 _ hk.2, trivial⟩ hps rfl hn hL.1 rfl (lv_room hcat) hd hk2
theorem Z_callI {idx nA nL1 mc1 ms1 a0 b : Nat} {y : MethodName} {bytes : ByteArray} {R1 : Room} {As rest : List Value} {x1 : iO} {W0 es wc wr : va_W} {B1 : Option Value → va_W → Prop} (isC isR : List Nat) (X : zX own cc nL p s m args meth c D ct x A) (hd : decode cc pc = .ok (.invokespecial idx, 3)) (hk : gLk own idx y nA) (hl : Cond.methodLink own idx y ∈ gW) (hy1 : y.name = "<init>") (hin : Cond.instanceMethod y ∈ gW) (hco : Cond.code y bytes nL1 none ∈ gW) (hn : As.length = nA) (hst : st = As.reverse ++ .ref b :: rest) (hcat : (rest.map fun v => v.category).sum ≤ 8) (hR : zroom R1 R nL1) (hmc : R1.cells = mc1) (hms : R1.slots = ms1) (hk2 : k + mc1 ≤ R.cells ∧ n + ms1 ≤ R.slots) (hC : iC y bytes nL1 none R1 mc1 ms1 D ct x1 (.ref b :: As) wc B1) (hx : xsub x x1) (ha : W0.length = a0) (hcut : zcut a0 es wc wr isC isR)
    (kk : ∀ r w1, B1 r w1 → zJ p l e R s m args below meth c A Q D nL (pc + 3) la (r.toList ++ rest) (W0 ++ (wr ++ w1)) (k + mc1) (n + ms1)) : zJ p l e R s m args below meth c A Q D nL pc la st (W0 ++ es) k n := by
  intro H locs lsA hP hD hS hL
  subst hst
  obtain ⟨c1, c2, c3, c4, c5⟩ := hcut
  have hps : PreS s H (va_Pc (.ref b :: As) (iPre D ct x1 wc H.size)) (.ref b :: As) := ⟨iPre_blind D ct x1 wc H.size _, fun U hU hW => ⟨rfl, iPre_at X hx hP hD hS _ c3 (zpos ha c1) hU hW⟩⟩
  refine zgo (av := (Value.ref b :: As).toArray) X ha isC isR c1 c2 c4 c5 hP hD hS hL ?_ kk
  exact va_runI (zFix X) (hC l H.size) ⟨callB_of nA X.2.2.2.2.1 (gGood hco) rfl hmc hms (X.2.2.2.2.1 _ hk.2.1) (X.2.2.2.2.1 _ hl) hk.2.2 hR, hy1, X.2.2.2.2.1 _ hin⟩ hps rfl hn hL.1 rfl (lv_room hcat) hd hk2
theorem Z_callV {idx nA nL1 mc1 ms1 a0 b ci N1 : Nat} {T : u_T} {fs : List Value} {y : MethodName} {bytes : ByteArray} {ret1 : Option FieldType} {R1 : Room} {As rest : List Value} {x1 : iO} {W0 es wc wr : va_W} {B1 : Option Value → va_W → Prop} (isC isR : List Nat) (X : zX own cc nL p s m args meth c D ct x A) (hd : decode cc pc = .ok (.invokevirtual idx, 3)) (hk : gLV own idx y nA) (hco : Cond.code y bytes nL1 ret1 ∈ gW) (hci : gcl[ci]? = some (y.cls, T, N1)) (hrc : wc[0]? = some (b, .inr (ci, fs))) (hn : As.length = nA) (hst : st = As.reverse ++ .ref b :: rest) (hcat : (rest.map fun v => v.category).sum ≤ 8) (hR : zroom R1 R nL1) (hmc : R1.cells = mc1) (hms : R1.slots = ms1) (hk2 : k + mc1 ≤ R.cells ∧ n + ms1 ≤ R.slots) (hC : iC y bytes nL1 ret1 R1 mc1 ms1 D ct x1 (.ref b :: As) wc B1) (hx : xsub x x1) (ha : W0.length = a0) (hcut : zcut a0 es wc wr isC isR)
    (kk : ∀ r w1, B1 r w1 → zJ p l e R s m args below meth c A Q D nL (pc + 3) la (r.toList ++ rest) (W0 ++ (wr ++ w1)) (k + mc1) (n + ms1)) : zJ p l e R s m args below meth c A Q D nL pc la st (W0 ++ es) k n := by
  intro H locs lsA hP hD hS hL
  subst hst
  obtain ⟨c1, c2, c3, c4, c5⟩ := hcut
  have hPc := hP.sub (ws' := wc) _ (fm_of (zpos ha c1))
  have hpv : PreV s H y.cls b (va_Pc (.ref b :: As) (iPre D ct x1 wc H.size)) As := ⟨iPre_blind D ct x1 wc H.size _, va_recv (s := s) X.2.2.2.2.2.2.1 hPc hci hrc, fun U hU hW => ⟨rfl, iPre_at X hx hP hD hS _ c3 (zpos ha c1) hU hW⟩⟩
  refine zgo (av := (Value.ref b :: As).toArray) X ha isC isR c1 c2 c4 c5 hP hD hS hL ?_ kk
  rcases zLink X hk.1 with hl | ⟨host, hl⟩
  · exact va_runV (zFix X) (hC l H.size) ⟨callB_of nA X.2.2.2.2.1 (gGood hco) rfl hmc hms (X.2.2.2.2.1 _ hk.1.2.1) hl hk.1.2.2 hR, X.2.2.2.2.1 _ hk.2.1, X.2.2.2.2.1 _ hk.2.2⟩ hpv rfl hn hL.1 rfl (lv_room hcat) hd hk2
  · exact va_runVN (zFix X) (hC l H.size) ⟨va_cnB nA X.2.2.2.2.1 (gGood hco) rfl hmc hms hl (X.2.2.2.2.1 _ hk.1.2.1) hk.1.2.2 hR, X.2.2.2.2.1 _ hk.2.1, X.2.2.2.2.1 _ hk.2.2⟩ hpv rfl hn hL.1 rfl (lv_room hcat) hd hk2
/-- of a text outside -/
theorem Z_callE {idx nA nL1 mc1 ms1 a0 : Nat} {q : iT} {y : MethodName} {bytes : ByteArray} {ret1 : Option FieldType} {R1 : Room} {As rest : List Value} {x1 : iO} {W0 es wc wr : va_W} {B1 : Option Value → va_W → Prop} (i : Nat) (isC isR : List Nat) (X : zX own cc nL p s m args meth c D ct x A) (hd : decode cc pc = .ok (.invokevirtual idx, 3)) (hk : gLV own idx y nA) (hco : Cond.code y bytes nL1 ret1 ∈ gW) (hyc : y.cls = "java/lang/String") (hq : x.2.1[i]? = some q) (hn : As.length = nA) (hst : st = As.reverse ++ .ref q.1 :: rest) (hcat : (rest.map fun v => v.category).sum ≤ 8) (hR : zroom R1 R nL1) (hmc : R1.cells = mc1) (hms : R1.slots = ms1) (hk2 : k + mc1 ≤ R.cells ∧ n + ms1 ≤ R.slots) (hC : iC y bytes nL1 ret1 R1 mc1 ms1 D ct x1 (.ref q.1 :: As) wc B1) (hx : xsub x x1) (ha : W0.length = a0) (hcut : zcut a0 es wc wr isC isR)
    (kk : ∀ r w1, B1 r w1 → zJ p l e R s m args below meth c A Q D nL (pc + 3) la (r.toList ++ rest) (W0 ++ (wr ++ w1)) (k + mc1) (n + ms1)) : zJ p l e R s m args below meth c A Q D nL pc la st (W0 ++ es) k n := by
  intro H locs lsA hP hD hS hL
  subst hst
  obtain ⟨c1, c2, c3, c4, c5⟩ := hcut
  have hrec := va_Orecv (X.2.2.2.2.2.2.2.2.1.2.2.2.2.1 q (List.mem_of_getElem? hq)).1 hS
  rw [← hyc] at hrec
  have hpv : PreV s H y.cls q.1 (va_Pc (.ref q.1 :: As) (iPre D ct x1 wc H.size)) As := ⟨iPre_blind D ct x1 wc H.size _, hrec, fun U hU hW => ⟨rfl, iPre_at X hx hP hD hS _ c3 (zpos ha c1) hU hW⟩⟩
  refine zgo (av := (Value.ref q.1 :: As).toArray) X ha isC isR c1 c2 c4 c5 hP hD hS hL ?_ kk
  rcases zLink X hk.1 with hl | ⟨host, hl⟩
  · exact va_runV (zFix X) (hC l H.size) ⟨callB_of nA X.2.2.2.2.1 (gGood hco) rfl hmc hms (X.2.2.2.2.1 _ hk.1.2.1) hl hk.1.2.2 hR, X.2.2.2.2.1 _ hk.2.1, X.2.2.2.2.1 _ hk.2.2⟩ hpv rfl hn hL.1 rfl (lv_room hcat) hd hk2
  · exact va_runVN (zFix X) (hC l H.size) ⟨va_cnB nA X.2.2.2.2.1 (gGood hco) rfl hmc hms hl (X.2.2.2.2.1 _ hk.1.2.1) hk.1.2.2 hR, X.2.2.2.2.1 _ hk.2.1, X.2.2.2.2.1 _ hk.2.2⟩ hpv rfl hn hL.1 rfl (lv_room hcat) hd hk2
/-- a method that the class above declares: which names which -/
def zU (own : String) (idx : Nat) (C : String) (x y : MethodName) (nA : Nat) : Prop := Cond.methodLink own idx x ∈ gW ∧ Cond.sameMethod x.cls x.cls x.name x.desc ∈ gW ∧ Cond.instanceMethod x ∈ gW ∧ (∃ b m r, Cond.code ⟨x.cls, x.name, x.desc⟩ b m r ∈ gW) ∧ (Cond.selects C x y ∈ gW ∨ Cond.selects C x y ∈ pW) ∧ Cond.instanceMethod y ∈ gW ∧ Cond.initialized y.cls ∈ gW ∧ (x.cls ≠ "java/lang/invoke/MethodHandle" ∧ x.cls ≠ "java/lang/invoke/VarHandle" ∧ (parseMethodDescriptor x.desc).map (fun d => d.parameters.length) = some nA)
theorem Z_callU {idx nA nL1 mc1 ms1 a0 b ci N1 : Nat} {C : String} {T : u_T} {fs : List Value} {x0 y : MethodName} {bytes : ByteArray} {ret1 : Option FieldType} {R1 : Room} {As rest : List Value} {x1 : iO} {W0 es wc wr : va_W} {B1 : Option Value → va_W → Prop} (isC isR : List Nat) (X : zX own cc nL p s m args meth c D ct x A) (hd : decode cc pc = .ok (.invokevirtual idx, 3)) (hk : zU own idx C x0 y nA) (hco : Cond.code y bytes nL1 ret1 ∈ gW) (hci : gcl[ci]? = some (C, T, N1)) (hrc : wc[0]? = some (b, .inr (ci, fs))) (hn : As.length = nA) (hst : st = As.reverse ++ .ref b :: rest) (hcat : (rest.map fun v => v.category).sum ≤ 8) (hR : zroom R1 R nL1) (hmc : R1.cells = mc1) (hms : R1.slots = ms1) (hk2 : k + mc1 ≤ R.cells ∧ n + ms1 ≤ R.slots) (hC : iC y bytes nL1 ret1 R1 mc1 ms1 D ct x1 (.ref b :: As) wc B1) (hx : xsub x x1) (ha : W0.length = a0) (hcut : zcut a0 es wc wr isC isR)
    (kk : ∀ r w1, B1 r w1 → zJ p l e R s m args below meth c A Q D nL (pc + 3) la (r.toList ++ rest) (W0 ++ (wr ++ w1)) (k + mc1) (n + ms1)) : zJ p l e R s m args below meth c A Q D nL pc la st (W0 ++ es) k n := by
  intro H locs lsA hP hD hS hL
  subst hst
  obtain ⟨c1, c2, c3, c4, c5⟩ := hcut
  obtain ⟨k1, k2, k3, ⟨kb, km, kr, k4⟩, k5, k6, k7, k8, k9, k10⟩ := hk
  have hPc := hP.sub (ws' := wc) _ (fm_of (zpos ha c1))
  have hpv : PreV s H C b (va_Pc (.ref b :: As) (iPre D ct x1 wc H.size)) As := ⟨iPre_blind D ct x1 wc H.size _, va_recv (s := s) X.2.2.2.2.2.2.1 hPc hci hrc, fun U hU hW => ⟨rfl, iPre_at X hx hP hD hS _ c3 (zpos ha c1) hU hW⟩⟩
  have hsel : (Cond.selects C x0 y).before args s = true := by
    rcases k5 with h | h
    · exact X.2.2.2.2.1 _ h
    · exact va_tabs rfl rfl (X.2.2.2.2.2.2.2.1 _ (List.mem_append_right _ h))
  have hmem : Cond.code y bytes nL1 ret1 ∈ Cond.code y bytes nL1 ret1 :: gW := List.mem_cons_self
  have cw : va_CU R s args own C x0.cls idx x0 y bytes nL1 ret1 (Cond.code y bytes nL1 ret1 :: gW) R1 mc1 ms1 nA :=
    ⟨⟨hmc, hms, hR.1, hR.2, pay_in X.2.2.2.2.1 (gGood hco), hmem⟩, X.2.2.2.2.1 _ hco, X.2.2.2.2.1 _ k7, ⟨k8, k9⟩, fun sig h => by
      rw [h] at k10
      exact (Option.some.inj k10).symm, X.2.2.2.2.1 _ k1, X.2.2.2.2.1 _ k2, va_Decl.of (X.2.2.2.2.1 _ k3) (X.2.2.2.2.1 _ k4), hsel, X.2.2.2.2.1 _ k6⟩
  refine zgo (av := (Value.ref b :: As).toArray) X ha isC isR c1 c2 c4 c5 hP hD hS hL ?_ kk
  exact va_runU (zFix X) (hC l H.size) cw hpv rfl hn hL.1 rfl (lv_room hcat) hd hk2
/-- super.m(..) -/
def zSU (own : String) (idx : Nat) (y : MethodName) (nA : Nat) : Prop := Cond.methodLink own idx y ∈ gW ∧ Cond.sameMethod y.cls y.cls y.name y.desc ∈ gW ∧ Cond.superclass own y.cls ∈ gW ∧ Cond.instanceMethod y ∈ gW ∧ Cond.initialized y.cls ∈ gW ∧ y.name ≠ "<init>" ∧ (parseMethodDescriptor y.desc).map (fun d => d.parameters.length) = some nA
theorem Z_callSU {idx nA nL1 mc1 ms1 a0 b ci N1 : Nat} {C : String} {T : u_T} {fs : List Value} {y : MethodName} {bytes : ByteArray} {ret1 : Option FieldType} {R1 : Room} {As rest : List Value} {x1 : iO} {W0 es wc wr : va_W} {B1 : Option Value → va_W → Prop} (isC isR : List Nat) (X : zX own cc nL p s m args meth c D ct x A) (hd : decode cc pc = .ok (.invokespecial idx, 3)) (hk : zSU own idx y nA) (hco : Cond.code y bytes nL1 ret1 ∈ gW) (hci : gcl[ci]? = some (C, T, N1)) (hrc : wc[0]? = some (b, .inr (ci, fs))) (hn : As.length = nA) (hst : st = As.reverse ++ .ref b :: rest) (hcat : (rest.map fun v => v.category).sum ≤ 8) (hR : zroom R1 R nL1) (hmc : R1.cells = mc1) (hms : R1.slots = ms1) (hk2 : k + mc1 ≤ R.cells ∧ n + ms1 ≤ R.slots) (hC : iC y bytes nL1 ret1 R1 mc1 ms1 D ct x1 (.ref b :: As) wc B1) (hx : xsub x x1) (ha : W0.length = a0) (hcut : zcut a0 es wc wr isC isR)
    (kk : ∀ r w1, B1 r w1 → zJ p l e R s m args below meth c A Q D nL (pc + 3) la (r.toList ++ rest) (W0 ++ (wr ++ w1)) (k + mc1) (n + ms1)) : zJ p l e R s m args below meth c A Q D nL pc la st (W0 ++ es) k n := by
  intro H locs lsA hP hD hS hL
  subst hst
  obtain ⟨c1, c2, c3, c4, c5⟩ := hcut
  obtain ⟨k1, k2, k3, k4, k5, k6, k7⟩ := hk
  have hPc := hP.sub (ws' := wc) _ (fm_of (zpos ha c1))
  have hpv : PreV s H C b (va_Pc (.ref b :: As) (iPre D ct x1 wc H.size)) As := ⟨iPre_blind D ct x1 wc H.size _, va_recv (s := s) X.2.2.2.2.2.2.1 hPc hci hrc, fun U hU hW => ⟨rfl, iPre_at X hx hP hD hS _ c3 (zpos ha c1) hU hW⟩⟩
  have hmem : Cond.code y bytes nL1 ret1 ∈ Cond.code y bytes nL1 ret1 :: gW := List.mem_cons_self
  have cw : va_CS R s args own idx y bytes nL1 ret1 (Cond.code y bytes nL1 ret1 :: gW) R1 mc1 ms1 nA :=
    ⟨⟨hmc, hms, hR.1, hR.2, pay_in X.2.2.2.2.1 (gGood hco), hmem⟩, X.2.2.2.2.1 _ k1, X.2.2.2.2.1 _ k2, X.2.2.2.2.1 _ k3, X.2.2.2.2.1 _ k4, X.2.2.2.2.1 _ k5, X.2.2.2.2.1 _ hco, k6, fun sig h => by
      rw [h] at k7
      exact (Option.some.inj k7).symm⟩
  refine zgo (av := (Value.ref b :: As).toArray) X ha isC isR c1 c2 c4 c5 hP hD hS hL ?_ kk
  exact va_runSU (X.2.2.2.2.2.2.1.1 ci _ hci).2 (zFix X) (hC l H.size) cw hpv rfl hn hL.1 rfl (lv_room hcat) hd hk2
/-! ends -/
theorem Z_vret {nm : String} {mc ms : Nat} {B : Option Value → va_W → Prop} (X : zX own cc nL p s m args meth c D ct x A) (hM : zM none nm meth) (hd : decode cc pc = .ok (.return_, 1)) (hB : B none ws) (h1 : k = mc) (h2 : n = ms) : zJ p l e R s m args below meth c A (MQ below (iQ B D A) args s mc ms A) D nL pc la [] ws k n := by
  intro H locs lsA hP hD hS hL
  subst h1
  subst h2
  have hlocks := X.2.2.2.2.2.1
  exact W.vret X.1 X.2.1 hM.1 (fun t ht hW => ⟨⟨none, ws, rfl, hB, by rw [ht]; exact hP, hD⟩, hS.F ht⟩) hS.2.2 hd
theorem Z_zret {nm : String} {mc ms : Nat} {ty : FieldType} {v : Int32} {B : Option Value → va_W → Prop} (X : zX own cc nL p s m args meth c D ct x A) (hM : zM (some ty) nm meth) (hv : narrow ty (.int v) = .int v) (hd : decode cc pc = .ok (.ireturn, 1)) (hB : B (some (.int v)) ws) (h1 : k = mc) (h2 : n = ms) : zJ p l e R s m args below meth c A (MQ below (iQ B D A) args s mc ms A) D nL pc la [.int v] ws k n := by
  intro H locs lsA hP hD hS hL
  subst h1
  subst h2
  have hlocks := X.2.2.2.2.2.1
  exact W.zret X.1 X.2.1 hM.1 hv (fun t ht hW => ⟨⟨some (.int v), ws, rfl, hB, by rw [ht]; exact hP, hD⟩, hS.F ht⟩) hS.2.2 hd
theorem Z_aret {nm : String} {mc ms a : Nat} {rt : FieldType} {B : Option Value → va_W → Prop} (X : zX own cc nL p s m args meth c D ct x A) (hM : zM (some rt) nm meth) (hrt : (∃ n, rt = .object n) ∨ ∃ t, rt = .array t) (hd : decode cc pc = .ok (.areturn, 1)) (hB : B (some (.ref a)) ws) (h1 : k = mc) (h2 : n = ms) : zJ p l e R s m args below meth c A (MQ below (iQ B D A) args s mc ms A) D nL pc la [.ref a] ws k n := by
  intro H locs lsA hP hD hS hL
  subst h1
  subst h2
  have hlocks := X.2.2.2.2.2.1
  exact W.aret X.1 X.2.1 hM.1 hrt (Or.inr ⟨a, rfl⟩) (fun t ht hW => ⟨⟨some (.ref a), ws, rfl, hB, by rw [ht]; exact hP, hD⟩, hS.F ht⟩) hS.2.2 hd
end
