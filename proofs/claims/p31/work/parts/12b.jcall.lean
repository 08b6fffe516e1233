/-! calls between constructors -/
section
variable {own : String} {cc : ByteArray} {nL : Nat} {R : Room} {D : va_G} {ct : ClassId × ClassId × ClassId} {ini : Bool} {mc ms : Nat} {B : va_W → Prop} {pc : Nat} {la : List (Nat × Value)} {st : List Value} {ws : va_W} {k n : Nat}
theorem jPre_blind (D : va_G) (ct : ClassId × ClassId × ClassId) (ws : va_W) (sz : Nat) (av : List Value) : FrameBlind (va_Pc av (jPre D ct ws sz)) := fun a U g mk q => ⟨q.1, q.2.1, q.2.2.1, va_K.moved (u := U) (U := U.calling g mk a) (Vm.Alike.refl U.vm) q.2.2.2.1, fun z hz => gN_same hz (u := U) (U := U.calling g mk a) rfl (q.2.2.2.2.1 z hz), va_AO.moved (u := U) (U := U.calling g mk a) (Vm.Alike.refl U.vm) q.2.2.2.2.2.1, q.2.2.2.2.2.2⟩
theorem jPre_of {p : Program} {s : State} {m : MethodId} {args : Array Value} {meth : Method} {c : Code} {H : Heap} {A : Nat → Prop} (X : jX own cc nL p s m args meth c D ct ini) (hP : va_P D gcl ws H) (hD : va_D A ws) {U : State} (hU : U.heap = H) (hW : s.WarmedH U.vm) : jPre D ct ws H.size U :=
  ⟨by rw [hU], by rw [hU]; exact hP, va_K.moved hW.alike X.2.2.2.2.2.2.2.1, fun z hz => gN_warm hz hW (X.2.2.2.2.2.2.2.2.1 z hz), X.2.2.2.2.2.2.2.2.2.1.moved hW.alike, hD.weaken (fun _ _ _ _ => trivial)⟩
theorem fm_of {α β : Type} {f : α → Option β} {l : List α} {w : List β} (h : l.map f = w.map some) : l.filterMap f = w := by
  have e : l.filterMap f = (l.map f).filterMap id := by rw [List.filterMap_map]; rfl
  rw [e, h]
  simp
theorem jC_of {y : MethodName} {av : List Value} (hy : plainName y.cls = true) (hn : (lg_sl av).length ≤ nL) (hi : ini = true → y.name = "<init>") (kk : gJ y.cls cc nL R D ct ini mc ms B 0 (lv_args 0 av) [] ws 0 0) : jC y cc nL R mc ms D ct av ws B := by
  intro l sz
  refine Met.ofW (cc := cc) (maxL := nL) (ret := none) hy rfl ?_
  intro p e s m args below meth c s₁ Bd hml hv
  obtain ⟨rfl, hsz, hP, hK, hZ, hO, hD0⟩ := hv
  have hts := atoms_spec (ws := Cond.code y cc nL none :: gW) Bd.pre
  subst hsz
  rw [lg_entry_eq]
  exact kk p l e s m _ below meth c s.heap [] _ _ ⟨Bd.exec, Bd.bytes, Bd.returns, hml, findClass_of_methodNamed Bd.named, fun t ht => hts t (List.mem_cons_of_mem _ ht), Bd.notSynchronized, hK, hZ, hO, fun z => (name_of_methodNamed Bd.named Bd.method).1.trans (hi z)⟩ hP hD0.self va_S.rf (fun q h => Or.inr h) (lv_entry av hn)
theorem J_callI {idx nA nL1 mc1 ms1 b : Nat} {y : MethodName} {bytes : ByteArray} {R1 : Room} {As rest : List Value} {wc wr : va_W} {B1 : va_W → Prop} (isC isR : List Nat) (hd : decode cc pc = .ok (.invokespecial idx, 3)) (hk : gLk own idx y nA) (hy1 : y.name = "<init>") (hin : Cond.instanceMethod y ∈ gW) (hco : Cond.code y bytes nL1 none ∈ gW) (hn : As.length = nA) (hst : st = As.reverse ++ .ref b :: rest) (hcat : (rest.map fun v => v.category).sum ≤ 8) (hR : R1.frames + 1 ≤ R.frames ∧ 8 + (nL1 + 11) + R1.locals ≤ R.locals) (hmc : R1.cells = mc1) (hms : R1.slots = ms1) (hk2 : k + mc1 ≤ R.cells ∧ n + ms1 ≤ R.slots) (hC : jC y bytes nL1 R1 mc1 ms1 D ct (.ref b :: As) wc B1) (hC1 : isC.map (fun i => ws[i]?) = wc.map some) (hR1 : isR.map (fun i => ws[i]?) = wr.map some) (hnc : va_nd isC = true) (hnd : va_nd isR = true) (hdis : ∀ i ∈ isR, i ∉ isC)
    (kk : ∀ w1, B1 w1 → gJ own cc nL R D ct ini mc ms B (pc + 3) la rest (wr ++ w1) (k + mc1) (n + ms1)) : gJ own cc nL R D ct ini mc ms B pc la st ws k n := by
  intro p l e s m args below meth c H locs A lsA X hP hD hS hA hL
  subst hst
  have hfix : CallFix p m c cc nL s args gW own := ⟨X.1, X.2.1, X.2.2.2.1, X.2.2.2.2.1, X.2.2.2.2.2.1⟩
  have hPc := hP.sub (ws' := wc) isC (fm_of hC1)
  have hDc := hD.sub (ws' := wc) isC hnc hC1
  have hFc := va_free (wc := wc) hD hS hA isC hC1
  have hps : PreS s H (va_Pc (.ref b :: As) (jPre D ct wc H.size)) (.ref b :: As) := ⟨jPre_blind D ct wc H.size _, fun U hU hW => ⟨rfl, jPre_of X hPc hDc hU hW⟩⟩
  have hrun : va_Run p l e R s m args below meth c H locs k n mc1 ms1 (F0 m pc lsA (As.reverse ++ .ref b :: rest)) rest (va_Qv (fun _ : Unit => True) (fun _ t => jPost D ct B1 (va_A wc H.size) t) (va_A wc H.size) (Value.ref b :: As).toArray) (va_A wc H.size) := by
    rcases hk.1 with hl | ⟨host, hl⟩
    · exact va_runI hfix (hC l H.size) ⟨callB_of nA X.2.2.2.2.2.1 (gGood hco) rfl hmc hms (X.2.2.2.2.2.1 _ hk.2.1) (X.2.2.2.2.2.1 _ hl) hk.2.2 hR, hy1, X.2.2.2.2.2.1 _ hin⟩ hps rfl hn hL.1 rfl (lv_room hcat) hd hk2
    · exact va_runIN hfix (hC l H.size) ⟨va_cnB nA X.2.2.2.2.2.1 (gGood hco) rfl hmc hms (X.2.2.2.2.2.2.2.2.1 _ hl) (X.2.2.2.2.2.1 _ hk.2.1) hk.2.2 hR, hy1, X.2.2.2.2.2.1 _ hin⟩ hps rfl hn hL.1 rfl (lv_room hcat) hd hk2
  refine va_callv hrun hS (fun q _ h => hFc q h) hFc (fun u t H1 locs1 ht hvm hw hB hz1 hk1 hS1 => ?_)
  obtain ⟨w1, hB1, hP1, hD1⟩ := hB
  rw [ht] at hP1
  obtain ⟨hP2, hD2⟩ := va_join (wr := wr) (w1 := w1) hP hD isC isR hC1 hR1 hnd hdis hk1 hFc hP1 hD1
  exact kk w1 hB1 p l e s m args below meth c H1 locs1 A lsA X hP2 hD2 hS1 hA hL
theorem J_callV {idx nA nL1 mc1 ms1 b ci N1 : Nat} {T : u_T} {y : MethodName} {bytes : ByteArray} {R1 : Room} {As rest : List Value} {wc wr : va_W} {B1 : va_W → Prop} {fs : List Value} (isC isR : List Nat) (hd : decode cc pc = .ok (.invokevirtual idx, 3)) (hk : gLV own idx y nA) (hco : Cond.code y bytes nL1 none ∈ gW) (hci : gcl[ci]? = some (y.cls, T, N1)) (hrc : wc[0]? = some (b, .inr (ci, fs))) (hn : As.length = nA) (hst : st = As.reverse ++ .ref b :: rest) (hcat : (rest.map fun v => v.category).sum ≤ 8) (hR : R1.frames + 1 ≤ R.frames ∧ 8 + (nL1 + 11) + R1.locals ≤ R.locals) (hmc : R1.cells = mc1) (hms : R1.slots = ms1) (hk2 : k + mc1 ≤ R.cells ∧ n + ms1 ≤ R.slots) (hC : jC y bytes nL1 R1 mc1 ms1 D ct (.ref b :: As) wc B1) (hC1 : isC.map (fun i => ws[i]?) = wc.map some) (hR1 : isR.map (fun i => ws[i]?) = wr.map some) (hnc : va_nd isC = true) (hnd : va_nd isR = true) (hdis : ∀ i ∈ isR, i ∉ isC)
    (kk : ∀ w1, B1 w1 → gJ own cc nL R D ct ini mc ms B (pc + 3) la rest (wr ++ w1) (k + mc1) (n + ms1)) : gJ own cc nL R D ct ini mc ms B pc la st ws k n := by
  intro p l e s m args below meth c H locs A lsA X hP hD hS hA hL
  subst hst
  have hfix : CallFix p m c cc nL s args gW own := ⟨X.1, X.2.1, X.2.2.2.1, X.2.2.2.2.1, X.2.2.2.2.2.1⟩
  have hPc := hP.sub (ws' := wc) isC (fm_of hC1)
  have hDc := hD.sub (ws' := wc) isC hnc hC1
  have hFc := va_free (wc := wc) hD hS hA isC hC1
  have hpv : PreV s H y.cls b (va_Pc (.ref b :: As) (jPre D ct wc H.size)) As := ⟨jPre_blind D ct wc H.size _, va_recv (s := s) X.2.2.2.2.2.2.2.1 hPc hci hrc, fun U hU hW => ⟨rfl, jPre_of X hPc hDc hU hW⟩⟩
  have hrun : va_Run p l e R s m args below meth c H locs k n mc1 ms1 (F0 m pc lsA (As.reverse ++ .ref b :: rest)) rest (va_Qv (fun _ : Unit => True) (fun _ t => jPost D ct B1 (va_A wc H.size) t) (va_A wc H.size) (Value.ref b :: As).toArray) (va_A wc H.size) := by
    rcases hk.1.1 with hl | ⟨host, hl⟩
    · exact va_runV hfix (hC l H.size) ⟨callB_of nA X.2.2.2.2.2.1 (gGood hco) rfl hmc hms (X.2.2.2.2.2.1 _ hk.1.2.1) (X.2.2.2.2.2.1 _ hl) hk.1.2.2 hR, X.2.2.2.2.2.1 _ hk.2.1, X.2.2.2.2.2.1 _ hk.2.2⟩ hpv rfl hn hL.1 rfl (lv_room hcat) hd hk2
    · exact va_runVN hfix (hC l H.size) ⟨va_cnB nA X.2.2.2.2.2.1 (gGood hco) rfl hmc hms (X.2.2.2.2.2.2.2.2.1 _ hl) (X.2.2.2.2.2.1 _ hk.1.2.1) hk.1.2.2 hR, X.2.2.2.2.2.1 _ hk.2.1, X.2.2.2.2.2.1 _ hk.2.2⟩ hpv rfl hn hL.1 rfl (lv_room hcat) hd hk2
  refine va_callv hrun hS (fun q _ h => hFc q h) hFc (fun u t H1 locs1 ht hvm hw hB hz1 hk1 hS1 => ?_)
  obtain ⟨w1, hB1, hP1, hD1⟩ := hB
  rw [ht] at hP1
  obtain ⟨hP2, hD2⟩ := va_join (wr := wr) (w1 := w1) hP hD isC isR hC1 hR1 hnd hdis hk1 hFc hP1 hD1
  exact kk w1 hB1 p l e s m args below meth c H1 locs1 A lsA X hP2 hD2 hS1 hA hL
/-- aload_0, a size, newarray, putfield of a final field: the object first in the world, the arrays behind it -/
theorem J_put0 {idx ci j a : Nat} {ty : FieldType} {fs : List Value} {L : va_W} {v : Value} (hd : decode cc pc = .ok (.putfield idx, 3)) (hF : gF own idx ci j) (hp : gPF own ci j ty) (hn : narrow ty v = v) (hf : fits ty v = true) (hl : j < fs.length) (hi : ini = true) (hlk : ∃ (C : String) (T : u_T) (N : Nat), gcl[ci]? = some (C, T, N) ∧ Cond.fieldLink own idx (T j).1 (T j).2.1 (T j).2.2.1 ∈ gW) (kk : gJ own cc nL R D ct ini mc ms B (pc + 3) la st ((a, .inr (ci, fs.set j v)) :: L) k n) : gJ own cc nL R D ct ini mc ms B pc la (v :: .ref a :: st) ((a, .inr (ci, fs)) :: L) k n :=
  J_putF 0 hd hF hp hn hf rfl hl hi hlk kk
end
