/-! the law's body -/
def lX (p : Program) (s : State) (m : MethodId) (meth : Method) (c : Code) (w : gw) (b L : Nat) (xs : Nat → Int32) : Prop :=
  p.tables.exec = Jvm.exec ∧ c.code = code ∧ meth.sig.returnType = ret ∧ c.maxLocals = 4 ∧ s.vm.findClass R_law = some m.cls ∧ (∀ t ∈ gW, t.before #[Value.ref b] s = true) ∧ meth.locks = false ∧ va_K w.1 gcl (gty w) s ∧ (∀ z ∈ gN, va_Nw z s) ∧ gD w ∧ gXt w s s.heap ∧ va_X b L xs s s.heap ∧ b < s.heap.size ∧ (∀ o, o < 107 → s.heap.size ≤ w.2.2 o) ∧ L ≤ 3072
def lA (s : State) : Nat → Prop := fun q => s.heap.size ≤ q
section
variable {p : Program} {l : Launch} {e : Env} {s : State} {m : MethodId} {below : List Frame} {meth : Method} {c : Code} {w : gw} {b L : Nat} {xs : Nat → Int32}
def lJ (p : Program) (l : Launch) (e : Env) (s : State) (m : MethodId) (below : List Frame) (meth : Method) (c : Code) (w : gw) (b : Nat) (pc i : Nat) (st : List Value) (h : gH) : Prop :=
  ∀ (H : Heap) (locs : List Loc) (lsA : Array Slot), va_P w.1 gcl (gws w h) H → va_S (lA s) s.heap H locs → lv_has lsA 4 [(3, .int (nI i)), (2, .ref (w.2.2 65)), (1, .ref (w.2.2 0)), (0, .ref b)] →
    W p l e room_1 s m #[Value.ref b] below meth c H locs 600000 7302250 (lw_Z below #[Value.ref b] s) (F0 m pc lsA (st.map (gcv w)))
theorem lA_g (X : lX p s m meth c w b L xs) : ∀ q, gA w q → lA s q := by
  rintro q ⟨o, ho, rfl⟩
  exact X.2.2.2.2.2.2.2.2.2.2.2.2.2.1 o ho
theorem L_x {pc i : Nat} {st : List Value} {h : gH} (X : lX p s m meth c w b L xs) (hd : decode code pc = .ok (.aload_n 1, 1)) (kk : lJ p l e s m below meth c w b (pc + 1) i (.ref 0 :: st) h) : lJ p l e s m below meth c w b pc i st h := by
  intro H locs lsA hP hS hL
  exact lv_aload_n X.1 X.2.1 hd rfl (lv_at hL 2 rfl) (kk H locs lsA hP hS hL)
theorem L_m {pc i : Nat} {st : List Value} {h : gH} (X : lX p s m meth c w b L xs) (hd : decode code pc = .ok (.aload_n 2, 1)) (kk : lJ p l e s m below meth c w b (pc + 1) i (.ref 65 :: st) h) : lJ p l e s m below meth c w b pc i st h := by
  intro H locs lsA hP hS hL
  exact lv_aload_n X.1 X.2.1 hd rfl (lv_at hL 1 rfl) (kk H locs lsA hP hS hL)
theorem L_arg (j : Nat) {n : Int} {pc i : Nat} {st : List Value} {h : gH} (X : lX p s m meth c w b L xs) (h1 : decode code pc = .ok (.aload_n 0, 1)) (h2 : decode code (pc + 1) = .ok (.iload_n 3, 1)) (h3 : decode code (pc + 1 + 1) = .ok (.iconst n, 1)) (h4 : decode code (pc + 1 + 1 + 1) = .ok (.iadd, 1)) (h5 : decode code (pc + 1 + 1 + 1 + 1) = .ok (.iaload, 1)) (hn : Int32.ofInt n = nI j) (hj : i + j < L) (kk : lJ p l e s m below meth c w b (pc + 1 + 1 + 1 + 1 + 1) i (.int (xs (i + j)) :: st) h) : lJ p l e s m below meth c w b pc i st h := by
  intro H locs lsA hP hS hL
  have hL3 := X.2.2.2.2.2.2.2.2.2.2.2.2.2.2
  refine lv_aload_n X.1 X.2.1 h1 rfl (lv_at hL 3 rfl) ?_
  refine lv_iload_n X.1 X.2.1 h2 rfl (lv_at hL 0 rfl) ?_
  refine lv_iconst X.1 X.2.1 h3 hn ?_
  refine lv_iadd X.1 X.2.1 h4 ?_
  rw [nI_add]
  refine va_sld X.1 X.2.1 X.2.2.2.2.2.2.2.2.2.2.2.1 X.2.2.2.2.2.2.2.2.2.2.2.2.1 (Nat.not_le.mpr X.2.2.2.2.2.2.2.2.2.2.2.2.1) hS (vp_in_nI hj (by omega)) h5 ?_
  rw [clampn (by omega)]
  exact kk H locs lsA hP hS hL
theorem lcall {H : Heap} {locs : List Loc} {Q : State → Prop} {lsA : Array Slot} {st0 rest : List Value} {a : Array Value} {r1 : Option Value} {h1 : gH} {pc k n : Nat}
    (hr : va_Run p l e room_1 s m #[Value.ref b] below meth c H locs k n 0 0 (F0 m pc lsA st0) rest (gQ w r1 h1 a) (gA w)) (hS : va_S (lA s) s.heap H locs) (hA : ∀ q, gA w q → lA s q)
    (kk : ∀ (H1 : Heap) (locs1 : List Loc), va_P w.1 gcl (gws w h1) H1 → va_S (lA s) s.heap H1 locs1 → W p l e room_1 s m #[Value.ref b] below meth c H1 locs1 k n Q (F0 m (pc + 3) lsA ((r1.map (gcv w)).toList ++ rest))) : W p l e room_1 s m #[Value.ref b] below meth c H locs k n Q (F0 m pc lsA st0) := by
  intro T hT X
  obtain ⟨v, st₀, t, T', L, h0, X', hL, e1, e2, ⟨⟨hv, hp⟩, hz, hk⟩, st⟩ := hr T hT X
  cases hv
  rw [h0] at hz hk
  obtain ⟨t2, a1, b1⟩ := kk T'.heap (locs ++ L) (by rw [e1]; exact hp.1)
    ⟨Nat.le_trans hS.1 (by rw [e1]; exact hz), fun q g1 g2 => by rw [e1, hk q (Nat.lt_of_lt_of_le g1 hS.1) (fun z => g2 (hA q z))]; exact hS.2.1 q g1 g2, fun q hq => by
      rcases List.mem_append.mp hq with g | g
      · exact hS.2.2 q g
      · exact hA _ (hL q g)⟩ T' rfl X'
  exact ⟨t2, st t2 a1, b1⟩
theorem L_call {idx n d1 nL1 o ci N N1 pc i : Nat} {T : u_T} {y : MethodName} {bytes : ByteArray} {ret1 : Option FieldType} {rl : List (Option Nat)} {st as rest : List Value} {r1 : Option Value} {h h1 : gH} (X : lX p s m meth c w b L xs) (hd : decode code pc = .ok (.invokevirtual idx, 3)) (hk : gLV R_law idx y n) (hco : Cond.code y bytes nL1 ret1 ∈ gW) (hnL : nL1 ≤ 45) (hO : gK o (ci + 3, N, rl)) (hci : gcl[ci]? = some (y.cls, T, N1)) (hsp : gspl n [] st = some (as, .ref o :: rest)) (hcat : gcat rest ≤ 8) (hdd : d1 ≤ 1000) (hC : gC y bytes nL1 ret1 d1 (.ref o :: as) h r1 h1) (kk : lJ p l e s m below meth c w b (pc + 3) i (gpu r1 rest) h1) : lJ p l e s m below meth c w b pc i st h := by
  intro H locs lsA hP hS hL
  obtain ⟨e1, e2⟩ := gspl0 hsp w
  rw [e2]
  obtain ⟨x1, x2, x3, x4, x5, x6, x7, x8, x9, x10, x11, x12, x13, x14, x15⟩ := id X
  have hfix : CallFix p m c code 4 s #[Value.ref b] gW R_law := ⟨x1, x2, x4, x5, x6⟩
  have he : (gws w h)[o]? = some (w.2.2 o, .inr (ci, (List.range N).map (fun k => gsl w (rl.getD k none) (h o k)))) := gws_at w h hO
  have hrec := va_recv (s := s) x8 hP hci he
  have hgp : ∀ U : State, U.heap = H → s.WarmedH U.vm → gPre w h U := fun U hU hW => ⟨by rw [hU]; exact hP, va_K.moved hW.alike x8, fun z hz => gN_warm hz hW (x9 z hz), gXt_moved hW (fun a ha _ => by rw [hU]; exact hS.2.1 a ha (Nat.not_le.mpr ha)) x11⟩
  have hpv : PreV s H y.cls (w.2.2 o) (va_Pc ((Value.ref o :: as).map (gcv w)) (gPre w h)) (as.map (gcv w)) := ⟨gPre_blind w h _, hrec, fun U hU hW => ⟨rfl, hgp U hU hW⟩⟩
  have hroom : (grm d1).frames + 1 ≤ room_1.frames ∧ 8 + (nL1 + 11) + (grm d1).locals ≤ room_1.locals := by
    refine ⟨?_, ?_⟩
    · show d1 + 1 ≤ 2048
      omega
    · show 8 + (nL1 + 11) + 64 * d1 ≤ 84000
      omega
  refine lcall (w := w) (rest := rest.map (gcv w)) (r1 := r1) (h1 := h1) (a := (Value.ref (w.2.2 o) :: as.map (gcv w)).toArray) ?_ hS (lA_g X) (fun H1 locs1 hP1 hS1 => ?_)
  · rcases hk.1.1 with hl | ⟨host, hl⟩
    · exact va_runV hfix (hC l w x10) ⟨callB_of n x6 (gGood hco) rfl rfl rfl (x6 _ hk.1.2.1) (x6 _ hl) hk.1.2.2 hroom, x6 _ hk.2.1, x6 _ hk.2.2⟩ hpv rfl e1 hL.1 rfl (lv_room (by rw [gcat_eq]; exact hcat)) hd ⟨Nat.le_refl _, Nat.le_refl _⟩
    · exact va_runVN hfix (hC l w x10) ⟨va_cnB n x6 (gGood hco) rfl rfl rfl (x9 _ hl) (x6 _ hk.1.2.1) hk.1.2.2 hroom, x6 _ hk.2.1, x6 _ hk.2.2⟩ hpv rfl e1 hL.1 rfl (lv_room (by rw [gcat_eq]; exact hcat)) hd ⟨Nat.le_refl _, Nat.le_refl _⟩
  · rw [← gpu_eq]
    exact kk H1 locs1 lsA hP1 hS1 hL
theorem L_eq {pc i : Nat} {off : Int} {x y : Int32} {h : gH} (X : lX p s m meth c w b L xs) (hd : decode code pc = .ok (.if_icmp .eq off, 3)) (ht : (pc : Int) + off = ((1015 : Nat) : Int)) (exy : y = x) (kk : lJ p l e s m below meth c w b 1015 i [] h) : lJ p l e s m below meth c w b pc i [.int y, .int x] h := by
  intro H locs lsA hP hS hL
  exact lv_icmp_eq X.1 X.2.1 hd ht (fun _ => kk H locs lsA hP hS hL) (fun q => absurd exy.symm q)
theorem L_leq {pc i : Nat} {off : Int} {x y : Int64} {h : gH} (X : lX p s m meth c w b L xs) (h1 : decode code pc = .ok (.lcmp, 1)) (hd : decode code (pc + 1) = .ok (.ifCond .eq off, 3)) (ht : ((pc + 1 : Nat) : Int) + off = ((1015 : Nat) : Int)) (exy : y = x) (kk : lJ p l e s m below meth c w b 1015 i [] h) : lJ p l e s m below meth c w b pc i [.long y, .long x] h := by
  intro H locs lsA hP hS hL
  refine W.lcmp X.1 X.2.1 h1 ?_
  subst exy
  refine lv_if_eq X.1 X.2.1 hd ht (fun _ => kk H locs lsA hP hS hL) (fun q => absurd ?_ q)
  unfold lg_cmp
  simp
theorem L_next {i : Nat} {h : gH} (X : lX p s m meth c w b L xs) (kk : lJ p l e s m below meth c w b 18 (i + 6) [] h) : lJ p l e s m below meth c w b 1015 i [] h := by
  intro H locs lsA hP hS hL
  refine lv_iinc (k := 0) (v := nI (i + 6)) (lv' := [(3, .int (nI (i + 6))), (2, .ref (w.2.2 65)), (1, .ref (w.2.2 0)), (0, .ref b)]) X.1 X.2.1 (gxd kLE 0 rfl) hL rfl (nI_add i 6) (by decide) rfl (fun lsB hB => ?_)
  exact lv_goto (tgt := 18) X.1 X.2.1 (gxd kLE 1 rfl) rfl (kk H locs lsB hP hS hB)
theorem and31 (x : Int32) : ∃ k : Nat, k < 32 ∧ x &&& 31 = nI k := by
  have h : (x &&& 31).toBitVec.toNat ≤ 31 := by
    rw [Int32.toBitVec_and, BitVec.toNat_and]
    exact Nat.and_le_right
  refine ⟨(x &&& 31).toBitVec.toNat, by omega, ?_⟩
  apply Int32.toBitVec_inj.mp
  apply BitVec.eq_of_toNat_eq
  show _ = (Int32.ofNat (x &&& 31).toBitVec.toNat).toBitVec.toNat
  rw [Int32.toBitVec_ofNat', BitVec.toNat_ofNat]
  omega
/-- the head of the law's loop -/
theorem L_head {i : Nat} {h : gH} (X : lX p s m meth c w b L xs) (hi : i ≤ L) (kk : ∀ k, k < 32 → i + 6 ≤ L → lJ p l e s m below meth c w b (if k = 28 ∨ k = 29 ∨ k = 30 ∨ k = 31 then 1015 else [160, 183, 196, 229, 282, 315, 348, 361, 374, 387, 400, 423, 456, 489, 522, 555, 608, 622, 655, 688, 731, 744, 757, 780, 823, 866, 899, 962].getD k 0) i [] h) : lJ p l e s m below meth c w b 18 i [] h := by
  intro H locs lsA hP hS hL
  obtain ⟨x1, x2, x3, x4, x5, x6, x7, x8, x9, x10, x11, x12, x13, x14, x15⟩ := id X
  have hbA : ¬ lA s b := Nat.not_le.mpr x13
  refine lv_iload_n x1 x2 (gxd kLP 10 rfl) rfl (lv_at hL 0 rfl) ?_
  refine lv_aload_n x1 x2 (gxd kLP 11 rfl) rfl (lv_at hL 3 rfl) ?_
  refine va_slen x1 x2 x12 x13 hbA hS (gxd kLP 12 rfl) ?_
  refine lv_bipush (v := 6) x1 x2 (gxd kLP 13 rfl) (by decide) ?_
  refine lv_isub x1 x2 (gxd kLP 14 rfl) ?_
  have l6 : (6 : Int32).toInt = 6 := by decide
  have e6 : (Int32.ofNat L - 6).toInt = (L : Int) - 6 := by
    rw [Int32.toInt_sub, l6, show (Int32.ofNat L).toInt = (L : Int) from nI_toInt (by omega)]
    rw [Int.bmod_def]
    omega
  refine lv_icmp_gt (tgt := 1021) x1 x2 (gxd kLP 15 rfl) rfl (fun _ => ?_) (fun q => ?_)
  · refine lv_iconst (v := 1) x1 x2 (gxd kLE 2 rfl) (by decide) ?_
    refine va_forget (fun q hq => hS.2.2 q hq) ?_
    exact lw_ret x1 x2 x3 x7 (gxd kLE 3 rfl)
  · have h6 : i + 6 ≤ L := by
      rw [Int32.lt_iff_toInt_lt, e6, nI_toInt (by omega)] at q
      omega
    refine lv_aload_n x1 x2 (gxd kLP 16 rfl) rfl (lv_at hL 3 rfl) ?_
    refine lv_iload_n x1 x2 (gxd kLP 17 rfl) rfl (lv_at hL 0 rfl) ?_
    refine va_sld x1 x2 x12 x13 hbA hS (vp_in_nI (show i < L by omega) (by omega)) (gxd kLP 18 rfl) ?_
    refine lv_bipush (v := 31) x1 x2 (gxd kLP 19 rfl) (by decide) ?_
    refine lv_iand x1 x2 (gxd kLP 20 rfl) ?_
    obtain ⟨k, hk, ek⟩ := and31 (xs (nI i).toNatClampNeg)
    rw [ek]
    have tk := nI_toInt (show k < 2 ^ 31 by omega)
    have K := kk k hk h6
    by_cases hk28 : k < 28
    · rw [if_neg (by omega)] at K
      have hof : ∃ off : Int, (#[127, 150, 163, 196, 249, 282, 315, 328, 341, 354, 367, 390, 423, 456, 489, 522, 575, 589, 622, 655, 698, 711, 724, 747, 790, 833, 866, 929] : Array Int)[k]? = some off ∧ ((33 : Nat) : Int) + off = (([160, 183, 196, 229, 282, 315, 348, 361, 374, 387, 400, 423, 456, 489, 522, 555, 608, 622, 655, 688, 731, 744, 757, 780, 823, 866, 899, 962].getD k 0 : Nat) : Int) := by
        have e : k = 0 ∨ k = 1 ∨ k = 2 ∨ k = 3 ∨ k = 4 ∨ k = 5 ∨ k = 6 ∨ k = 7 ∨ k = 8 ∨ k = 9 ∨ k = 10 ∨ k = 11 ∨ k = 12 ∨ k = 13 ∨ k = 14 ∨ k = 15 ∨ k = 16 ∨ k = 17 ∨ k = 18 ∨ k = 19 ∨ k = 20 ∨ k = 21 ∨ k = 22 ∨ k = 23 ∨ k = 24 ∨ k = 25 ∨ k = 26 ∨ k = 27 := by omega
        rcases e with e | e | e | e | e | e | e | e | e | e | e | e | e | e | e | e | e | e | e | e | e | e | e | e | e | e | e | e <;> subst e <;> exact ⟨_, rfl, rfl⟩
      obtain ⟨off, o1, o2⟩ := hof
      exact lv_tableIn x1 x2 (gxd kLP 21 rfl) (by rw [tk]; omega) (by rw [tk]; omega) (by rw [tk, show ((k : Int) - 0).toNat = k by omega]; exact o1) o2 (K H locs lsA hP hS hL)
    · rw [if_pos (by omega)] at K
      exact lv_tableOut (tgt := 1015) x1 x2 (gxd kLP 21 rfl) (Or.inr (by rw [tk]; omega)) rfl (K H locs lsA hP hS hL)
end
