def gStr (o : Nat) : Prop := o < 2
theorem gs0 : gStr 0 := by unfold gStr; omega
theorem gs1 : gStr 1 := by unfold gStr; omega
def gsle (o : Nat) : Nat := [8, 10].getD o 0
def gsb (o : Nat) (i : Int32) : Int32 := (gSb.getD o []).getD i.toNatClampNeg 0
def gch (v : Int32) : Bool := decide (narrow .char (.int v) = .int v)
def gby (v : Int32) : Bool := decide (narrow .byte (.int v) = .int v)
theorem gch_ok {v : Int32} (h : gch v = true) : narrow .char (.int v) = .int v := of_decide_eq_true h
theorem gby_ok {v : Int32} (h : gby v = true) : narrow .byte (.int v) = .int v := of_decide_eq_true h
section
variable {own : String} {cc : ByteArray} {nL : Nat} {ret : Option FieldType} {d pc : Nat} {ls st : List Value} {h : gH} {r : Option Value} {h2 : gH}
theorem R_lds96 (ho : own = RX2) (hd : decode cc pc = .ok (.ldc 96, 2)) (k : gR own cc nL ret d (pc + 2) ls (.ref (107 + 0) :: st) h r h2) : gR own cc nL ret d pc ls st h r h2 := by
  subst ho
  intro p l e s m args below meth c H locs w lsA X hP hS hL
  exact va_ldcS X.1 X.2.1 X.2.2.2.2.1 X.2.2.2.2.2.2.2.2.2.2.2.1 hd (k p l e s m args below meth c H locs w lsA X hP hS hL)
theorem R_lds89 (ho : own = RX2) (hd : decode cc pc = .ok (.ldc 89, 2)) (k : gR own cc nL ret d (pc + 2) ls (.ref (107 + 1) :: st) h r h2) : gR own cc nL ret d pc ls st h r h2 := by
  subst ho
  intro p l e s m args below meth c H locs w lsA X hP hS hL
  exact va_ldcS X.1 X.2.1 X.2.2.2.2.1 X.2.2.2.2.2.2.2.2.2.2.2.2.1 hd (k p l e s m args below meth c H locs w lsA X hP hS hL)
theorem R_gcs {idx : Nat} (hk : Cond.fieldLink own idx "java/lang/String" "COMPACT_STRINGS" "Z" ∈ gW) (hd : decode cc pc = .ok (.getstatic idx, 3)) (k : gR own cc nL ret d (pc + 3) ls (.int 1 :: st) h r h2) : gR own cc nL ret d pc ls st h r h2 := by
  intro p l e s m args below meth c H locs w lsA X hP hS hL
  exact va_gets X.1 X.2.1 X.2.2.2.2.2.2.2.2.2.2.2.2.2.1 hS X.2.2.2.2.1 (X.2.2.2.2.2.1 _ hk) (fun _ q => q) hd (k p l e s m args below meth c H locs w lsA X hP hS hL)
theorem R_gsf {idx : Nat} (hk : Cond.fieldLink own idx "jdk/internal/util/Preconditions" "SIOOBE_FORMATTER" "Ljava/util/function/BiFunction;" ∈ gW) (hd : decode cc pc = .ok (.getstatic idx, 3)) (k : ∀ v : Value, v = .null ∨ v = .ref 111 → gR own cc nL ret d (pc + 3) ls (v :: st) h r h2) : gR own cc nL ret d pc ls st h r h2 := by
  intro p l e s m args below meth c H locs w lsA X hP hS hL
  rcases X.2.2.2.2.2.2.2.2.2.2.2.2.2.2 with hz | hz
  · exact va_gets X.1 X.2.1 hz hS X.2.2.2.2.1 (X.2.2.2.2.2.1 _ hk) (fun _ q => q) hd (k .null (Or.inl rfl) p l e s m args below meth c H locs w lsA X hP hS hL)
  · exact va_gets X.1 X.2.1 hz hS X.2.2.2.2.1 (X.2.2.2.2.2.1 _ hk) (fun _ q => q) hd (k (.ref 111) (Or.inr rfl) p l e s m args below meth c H locs w lsA X hP hS hL)
theorem R_scoder {idx o : Nat} (ho : gStr o) (hk : Cond.fieldLink own idx "java/lang/String" "coder" "B" ∈ gW) (hd : decode cc pc = .ok (.getfield idx, 3)) (k : gR own cc nL ret d (pc + 3) ls (.int 0 :: st) h r h2) : gR own cc nL ret d pc ls (.ref (107 + o) :: st) h r h2 := by
  intro p l e s m args below meth c H locs w lsA X hP hS hL
  exact vk_getf X.1 X.2.1 (X.2.2.2.2.2.2.2.2.2.2.1.1 o ho).2.1 hS X.2.2.2.2.1 (X.2.2.2.2.2.1 _ hk) (fun _ q => q) hd (k p l e s m args below meth c H locs w lsA X hP hS hL)
theorem R_svalue {idx o : Nat} (ho : gStr o) (hk : Cond.fieldLink own idx "java/lang/String" "value" "[B" ∈ gW) (hd : decode cc pc = .ok (.getfield idx, 3)) (k : gR own cc nL ret d (pc + 3) ls (.ref (109 + o) :: st) h r h2) : gR own cc nL ret d pc ls (.ref (107 + o) :: st) h r h2 := by
  intro p l e s m args below meth c H locs w lsA X hP hS hL
  exact vk_getf X.1 X.2.1 (X.2.2.2.2.2.2.2.2.2.2.1.1 o ho).2.2.1 hS X.2.2.2.2.1 (X.2.2.2.2.2.1 _ hk) (fun _ q => q) hd (k p l e s m args below meth c H locs w lsA X hP hS hL)
theorem R_blen {o : Nat} (ho : gStr o) (hd : decode cc pc = .ok (.arraylength, 1)) (k : gR own cc nL ret d (pc + 1) ls (.int (Int32.ofNat (gsle o)) :: st) h r h2) : gR own cc nL ret d pc ls (.ref (109 + o) :: st) h r h2 := by
  intro p l e s m args below meth c H locs w lsA X hP hS hL
  exact va_tlen X.1 X.2.1 (X.2.2.2.2.2.2.2.2.2.2.1.1 o ho).2.2.2 hS rfl hd (k p l e s m args below meth c H locs w lsA X hP hS hL)
theorem R_bald {o : Nat} {i : Int32} (ho : gStr o) (hi : vp_in i (gsle o)) (hd : decode cc pc = .ok (.baload, 1)) (k : gR own cc nL ret d (pc + 1) ls (.int (gsb o i) :: st) h r h2) : gR own cc nL ret d pc ls (.int i :: .ref (109 + o) :: st) h r h2 := by
  intro p l e s m args below meth c H locs w lsA X hP hS hL
  exact va_tb X.1 X.2.1 (X.2.2.2.2.2.2.2.2.2.2.1.1 o ho).2.2.2 hS hi rfl hd (k p l e s m args below meth c H locs w lsA X hP hS hL)
theorem R_nret {v : Int32} {ty : FieldType} (hd : decode cc pc = .ok (.ireturn, 1)) (hr : ret = some ty) (hn : narrow ty (.int v) = .int v) : gR own cc nL ret d pc ls [.int v] h (some (.int v)) h := by
  intro p l e s m args below meth c H locs w lsA X hP hS hL
  have hlocks := X.2.2.2.2.2.2.1
  exact W.zret X.1 X.2.1 (X.2.2.1.trans hr) hn (fun t ht hW => ⟨⟨rfl, gPre_of X hP hS ht hW⟩, hS.F ht⟩) hS.2.2 hd
theorem R_callTi {idx n d1 nL1 o : Nat} {y : MethodName} {bytes : ByteArray} {ret1 : Option FieldType} {as rest : List Value} {r1 : Int32} {h1 : gH} (hd : decode cc pc = .ok (.invokevirtual idx, 3)) (hk : gLV own idx y n) (hco : Cond.code y bytes nL1 ret1 ∈ gW) (hnL : nL1 ≤ 45) (ho : gStr o) (hy : y.cls = "java/lang/String") (hsp : gspl n [] st = some (as, .ref (107 + o) :: rest)) (hcat : gcat rest ≤ 8) (hdd : d1 + 1 ≤ d) (hC : gC y bytes nL1 ret1 d1 (.ref (107 + o) :: as) h (some (.int r1)) h1) (kk : gR own cc nL ret d (pc + 3) ls (.int r1 :: rest) h1 r h2) : gR own cc nL ret d pc ls st h r h2 := by
  intro p l e s m args below meth c H locs w lsA X hP hS hL
  obtain ⟨e1, e2⟩ := gspl0 hsp w
  rw [e2]
  have hfix : CallFix p m c cc nL s args gW own := ⟨X.1, X.2.1, X.2.2.2.1, X.2.2.2.2.1, X.2.2.2.2.2.1⟩
  have hrec := vk_recv X.2.2.2.2.2.2.2.2.2.2.1 ho hS
  rw [← hy] at hrec
  have hpv : PreV s H y.cls (w.2.2 (107 + o)) (va_Pc ((Value.ref (107 + o) :: as).map (gcv w)) (gPre w h)) (as.map (gcv w)) := ⟨gPre_blind w h _, hrec, fun U hU hW => ⟨rfl, gPre_of X hP hS hU hW⟩⟩
  refine gcall (w := w) (rest := rest.map (gcv w)) (r1 := some (.int r1)) (h1 := h1) (a := (Value.ref (w.2.2 (107 + o)) :: as.map (gcv w)).toArray) ?_ hS (fun H1 locs1 hP1 hS1 => ?_)
  · rcases hk.1.1 with hl | ⟨host, hl⟩
    · exact va_runV hfix (hC l w X.2.2.2.2.2.2.2.2.2.1) ⟨callB_of n X.2.2.2.2.2.1 (gGood hco) rfl rfl rfl (X.2.2.2.2.2.1 _ hk.1.2.1) (X.2.2.2.2.2.1 _ hl) hk.1.2.2 (groom hdd hnL), X.2.2.2.2.2.1 _ hk.2.1, X.2.2.2.2.2.1 _ hk.2.2⟩ hpv rfl e1 hL.1 rfl (lv_room (by rw [gcat_eq]; exact hcat)) hd ⟨Nat.le_refl _, Nat.le_refl _⟩
    · exact va_runVN hfix (hC l w X.2.2.2.2.2.2.2.2.2.1) ⟨va_cnB n X.2.2.2.2.2.1 (gGood hco) rfl rfl rfl (X.2.2.2.2.2.2.2.2.1 _ hl) (X.2.2.2.2.2.1 _ hk.1.2.1) hk.1.2.2 (groom hdd hnL), X.2.2.2.2.2.1 _ hk.2.1, X.2.2.2.2.2.1 _ hk.2.2⟩ hpv rfl e1 hL.1 rfl (lv_room (by rw [gcat_eq]; exact hcat)) hd ⟨Nat.le_refl _, Nat.le_refl _⟩
  · exact kk p l e s m args below meth c H1 locs1 w lsA X hP1 hS1 hL
theorem R_callSv {idx n d1 nL1 : Nat} {y : MethodName} {bytes : ByteArray} {ret1 : Option FieldType} {as rest : List Value} {h1 : gH} (hd : decode cc pc = .ok (.invokestatic idx, 3)) (hk : gLS own idx y n) (hco : Cond.code y bytes nL1 ret1 ∈ gW) (hnL : nL1 ≤ 45) (hsp : gspl n [] st = some (as, rest)) (hcat : gcat rest ≤ 8) (hdd : d1 + 1 ≤ d) (hC : gC y bytes nL1 ret1 d1 as h none h1) (kk : gR own cc nL ret d (pc + 3) ls rest h1 r h2) : gR own cc nL ret d pc ls st h r h2 := R_callS hd hk hco hnL hsp hcat hdd hC kk
theorem R_mmax {x y : Int32} (ho : own = RJ1) (hd : decode cc pc = .ok (.invokestatic 92, 3)) (hst : gcat st ≤ 8) (hdd : 1 ≤ d) (k : gR own cc nL ret d (pc + 3) ls (.int (if x < y then y else x) :: st) h r h2) : gR own cc nL ret d pc ls (.int y :: .int x :: st) h r h2 := by
  subst ho
  intro p l e s m args below meth c H locs w lsA X hP hS hL
  refine va_mmax (rest := st.map (gcv w)) X.1 X.2.1 (X.2.2.2.1.trans hL.1.symm) X.2.2.2.2.1 (X.2.2.2.2.2.1 _ (gW_at 724 (by decide +kernel) rfl)) (X.2.2.2.2.2.1 _ (gW_at 725 (by decide +kernel) rfl)) (X.2.2.2.2.2.1 _ (gW_at 74 (by decide +kernel) rfl)) (X.2.2.2.2.2.1 _ (gW_at 726 (by decide +kernel) rfl)) hdd ?_ (Nat.zero_le _) (Nat.zero_le _) hd (k p l e s m args below meth c H locs w lsA X hP hS hL)
  rw [gcat_eq]
  show _ ≤ 64 * d
  omega
theorem R_mmin {x y : Int32} (ho : own = RJ1) (hd : decode cc pc = .ok (.invokestatic 38, 3)) (hst : gcat st ≤ 8) (hdd : 1 ≤ d) (k : gR own cc nL ret d (pc + 3) ls (.int (if y < x then y else x) :: st) h r h2) : gR own cc nL ret d pc ls (.int y :: .int x :: st) h r h2 := by
  subst ho
  intro p l e s m args below meth c H locs w lsA X hP hS hL
  refine va_mmin (rest := st.map (gcv w)) X.1 X.2.1 (X.2.2.2.1.trans hL.1.symm) X.2.2.2.2.1 (X.2.2.2.2.2.1 _ (gW_at 727 (by decide +kernel) rfl)) (X.2.2.2.2.2.1 _ (gW_at 728 (by decide +kernel) rfl)) (X.2.2.2.2.2.1 _ (gW_at 74 (by decide +kernel) rfl)) (X.2.2.2.2.2.1 _ (gW_at 729 (by decide +kernel) rfl)) hdd ?_ (Nat.zero_le _) (Nat.zero_le _) hd (k p l e s m args below meth c H locs w lsA X hP hS hL)
  rw [gcat_eq]
  show _ ≤ 64 * d
  omega
end
