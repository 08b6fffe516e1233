/-! the law from its entry -/
theorem jN_R_law_24 : gNw R_law 24 6 fz6 13 := ⟨RX6, TX6, tyX6, rfl, gu_6, tyX6_ok, gW_at 81 (by decide +kernel) rfl, gW_at 82 (by decide +kernel) rfl, gW_at 62 (by decide +kernel) rfl, by decide +kernel⟩
theorem jL_R_law_32 : gLk R_law 32 yX6_init 0 := ⟨Or.inl (gW_at 83 (by decide +kernel) rfl), gW_at 62 (by decide +kernel) rfl, by decide +kernel⟩
theorem jL_R_law_32i : Cond.instanceMethod yX6_init ∈ gW := gW_at 84 (by decide +kernel) rfl
theorem jW_X6_init : Cond.code yX6_init cX6_init 2 none ∈ gW := gW_at 85 (by decide +kernel) rfl
theorem tb_at {s : State} {args : Array Value} (hts : ∀ w ∈ lw_tbl, w.before args s = true) (i : Nat) {w : Cond} (h : lw_tbl[i]? = some w) : w.before args s = true := hts w (List.mem_of_getElem? h)
theorem AX0 {f1 f2 f3 f4 fm : Nat → Int32} (h1 : (∀ x, x < 8 → f1 x = 1023) ∧ f1 8 = 1) (h2 : f2 8 = 1) (h3 : f3 8 = 1) (h4 : f4 8 = 1) : AX (hini f1 f2 f3 f4 fm) S00 := by
  have z := hini_z f1 f2 f3 f4 fm
  generalize hh : hini f1 f2 f3 f4 fm = h at z
  have e18 : h 18 = f1 := by rw [← hh]; rfl
  have e29 : h 29 = f2 := by rw [← hh]; rfl
  have e34 : h 34 = f3 := by rw [← hh]; rfl
  have e45 : h 45 = f4 := by rw [← hh]; rfl
  have esh : ∀ i, i < 4 → h (56 + 2 * i) = fsh := by
    intro i hi
    have e : i = 0 ∨ i = 1 ∨ i = 2 ∨ i = 3 := by omega
    rw [← hh]
    rcases e with e | e | e | e <;> subst e <;> rfl
  have nE : ∀ r, Eact (Et S00.1) r = false := fun r => by rw [Eact0]
  refine ⟨⟨⟨by decide, by decide, z 1 (by decide) 8, fun r hr => absurd hr (Nat.not_lt_zero _), fun r hr => absurd hr (Nat.not_lt_zero _), fun r hr => (by rw [nE r] at hr; cases hr), fun x _ => ⟨?_, fun r hr => (by rw [nE r] at hr; cases hr)⟩⟩, fun r hr => absurd hr (Nat.not_lt_zero _)⟩,
    ⟨⟨fun x hx => ?_, ?_, ?_, z 17 (by decide) 9, ⟨z 17 (by decide) 5, fun i a e => by (have e : ([] : qT)[i]? = some a := e; rw [List.getElem?_nil] at e; cases e)⟩, ?_, TW0⟩, z 17 (by decide) 8, ⟨by decide, z 22 (by decide) 5, fun i hi => absurd hi (Nat.not_lt_zero _)⟩, ⟨z 22 (by decide) 6, fun i hi => absurd hi (Nat.not_lt_zero _)⟩⟩,
    z 0 (by decide) 12, ⟨z 10 (by decide) 6, fun i hi => absurd hi (Nat.not_lt_zero _)⟩, fun i hi => ⟨?_, ?_, fun j hj => absurd hj (Nat.not_lt_zero _)⟩, ⟨z 17 (by decide) 10, ?_⟩, ⟨z 28 (by decide) 10, z 33 (by decide) 10, ?_, ?_⟩⟩
  · rw [z 5 (by decide) x]; exact m24b
  · show h 18 x = _
    rw [e18, h1.1 x hx]; exact mm1023
  · show h 18 8 = 1
    rw [e18]; exact h1.2
  · rw [z 17 (by decide) 7]; exact m24z
  · rw [z 17 (by decide) 6, Eact0]; exact m24z
  · rw [esh i hi]; rfl
  · rw [esh i hi]; rfl
  · rw [e45]; exact h4
  · rw [e29]; exact h2
  · rw [e34]; exact h3
def lSb : List (List Int32) := [[62], [43], [104, 58, 98, 62, 97, 43]]
set_option maxRecDepth 100000 in
theorem texts1 {s : State} {b : Nat} (hts : ∀ w ∈ lw_tbl, w.before #[Value.ref b] s = true) (hgv : (Jvm.Cond.and given_1 narrow_1).before #[Value.ref b] s = true) {A : Nat → Prop} (hA : ∀ a : Nat, a < s.heap.size → ¬ A a) :
    ∃ (adK adV : Nat → Nat) (fm : Nat), vk_S 2 [8, 10] gSb adK adV A s s.heap ∧ vk_R RX2 96 "distinct" (adK 0) s ∧ vk_R RX2 89 "():+-*<=>!" (adK 1) s ∧ va_Z "java/lang/String" "COMPACT_STRINGS" "Z" (.int 1) A s s.heap ∧ (va_Z "jdk/internal/util/Preconditions" "SIOOBE_FORMATTER" "Ljava/util/function/BiFunction;" .null A s s.heap ∨ va_Z "jdk/internal/util/Preconditions" "SIOOBE_FORMATTER" "Ljava/util/function/BiFunction;" (.ref fm) A s s.heap) := by
  have hs := flat_of_before _ hgv
  have two : ∀ i : Nat, i < 2 → i = 0 ∨ i = 1 := fun i h => by omega
  obtain ⟨adK, adV, hS, hev⟩ := vk_Sof (args := #[Value.ref b]) (s := s) (N := 2) (tm := fun i => if i = 0 then .string RX2 96 else .string RX2 89) (len := [8, 10]) (byt := gSb) (A := A)
    (fun i hi => by rcases two i hi with e | e <;> subst e <;> decide)
    (fun i hi => by rcases two i hi with e | e <;> subst e <;> exact hs _ (by decide +kernel))
    (fun i hi => by rcases two i hi with e | e <;> subst e <;> exact hs _ (by decide +kernel))
    (fun i hi => by rcases two i hi with e | e <;> subst e <;> exact hs _ (by decide +kernel))
    (fun i hi => by rcases two i hi with e | e <;> subst e <;> exact hs _ (by decide +kernel))
    (fun i hi j hj => by
      rcases two i hi with e | e <;> subst e
      · have hj : j < 8 := hj
        have e : j = 0 ∨ j = 1 ∨ j = 2 ∨ j = 3 ∨ j = 4 ∨ j = 5 ∨ j = 6 ∨ j = 7 := by omega
        rcases e with e | e | e | e | e | e | e | e <;> subst e <;> exact hs _ (by decide +kernel)
      · have hj : j < 10 := hj
        have e : j = 0 ∨ j = 1 ∨ j = 2 ∨ j = 3 ∨ j = 4 ∨ j = 5 ∨ j = 6 ∨ j = 7 ∨ j = 8 ∨ j = 9 := by omega
        rcases e with e | e | e | e | e | e | e | e | e | e <;> subst e <;> exact hs _ (by decide +kernel))
    (fun i j hi hj hne => by
      rcases two i hi with e | e <;> rcases two j hj with e2 | e2 <;> subst e <;> subst e2
      · exact absurd rfl hne
      · exact Or.inl (hs _ (by decide +kernel))
      · exact Or.inr (hs _ (by decide +kernel))
      · exact absurd rfl hne) hA
  have z := va_Zqof (args := #[Value.ref b]) (s := s) (A := A) (tb_at hts 639 (by decide +kernel)) (tb_at hts 78 (by decide +kernel)) (show (Cond.isRef (.static "jdk/internal/util/Preconditions" "SIOOBE_FORMATTER" "Ljava/util/function/BiFunction;")).before #[Value.ref b] s = true from hs _ (by decide +kernel)) hA
  have v0 := vk_R.of (own := RX2) (tx := "distinct") (k := 96) (tb_at hts 705 (by decide +kernel)) (hev 0 (by decide))
  have v1 := vk_R.of (own := RX2) (tx := "():+-*<=>!") (k := 89) (tb_at hts 708 (by decide +kernel)) (hev 1 (by decide))
  have v2 := va_Zof (A := A) (tb_at hts 623 (by decide +kernel)) (tb_at hts 71 (by decide +kernel)) (va_eqt (show (Cond.eq (.static "java/lang/String" "COMPACT_STRINGS" "Z") (.int 1)).before #[Value.ref b] s = true from hs _ (by decide +kernel))) hA
  rcases z with z | ⟨fm, z⟩
  · exact ⟨adK, adV, 0, hS, v0, v1, v2, Or.inl z⟩
  · exact ⟨adK, adV, fm, hS, v0, v1, v2, Or.inr z⟩
set_option maxRecDepth 100000 in
theorem texts2 {s : State} {b : Nat} (hts : ∀ w ∈ lw_tbl, w.before #[Value.ref b] s = true) (hgv : (Jvm.Cond.and given_1 narrow_1).before #[Value.ref b] s = true) {A : Nat → Prop} (hA : ∀ a : Nat, a < s.heap.size → ¬ A a) :
    ∃ (aK aV : Nat → Nat), vk_S 3 [1, 1, 6] lSb aK aV A s s.heap ∧ vk_R R_law 47 ">" (aK 0) s ∧ vk_R R_law 52 "+" (aK 1) s ∧ vk_R R_law 65 "h:b>a+" (aK 2) s := by
  have hs := flat_of_before _ hgv
  have three : ∀ i : Nat, i < 3 → i = 0 ∨ i = 1 ∨ i = 2 := fun i h => by omega
  obtain ⟨adK, adV, hS, hev⟩ := vk_Sof (args := #[Value.ref b]) (s := s) (N := 3) (tm := fun i => if i = 0 then .string R_law 47 else if i = 1 then .string R_law 52 else .string R_law 65) (len := [1, 1, 6]) (byt := lSb) (A := A)
    (fun i hi => by rcases three i hi with e | e | e <;> subst e <;> decide)
    (fun i hi => by rcases three i hi with e | e | e <;> subst e <;> exact hs _ (by decide +kernel))
    (fun i hi => by rcases three i hi with e | e | e <;> subst e <;> exact hs _ (by decide +kernel))
    (fun i hi => by rcases three i hi with e | e | e <;> subst e <;> exact hs _ (by decide +kernel))
    (fun i hi => by rcases three i hi with e | e | e <;> subst e <;> exact hs _ (by decide +kernel))
    (fun i hi j hj => by
      rcases three i hi with e | e | e <;> subst e
      · have hj : j < 1 := hj
        have e : j = 0 := by omega
        subst e; exact hs _ (by decide +kernel)
      · have hj : j < 1 := hj
        have e : j = 0 := by omega
        subst e; exact hs _ (by decide +kernel)
      · have hj : j < 6 := hj
        have e : j = 0 ∨ j = 1 ∨ j = 2 ∨ j = 3 ∨ j = 4 ∨ j = 5 := by omega
        rcases e with e | e | e | e | e | e <;> subst e <;> exact hs _ (by decide +kernel))
    (fun i j hi hj hne => by
      rcases three i hi with e | e | e <;> rcases three j hj with e2 | e2 | e2 <;> subst e <;> subst e2
      · exact absurd rfl hne
      · exact Or.inl (hs _ (by decide +kernel))
      · exact Or.inl (hs _ (by decide +kernel))
      · exact Or.inr (hs _ (by decide +kernel))
      · exact absurd rfl hne
      · exact Or.inl (hs _ (by decide +kernel))
      · exact Or.inr (hs _ (by decide +kernel))
      · exact Or.inr (hs _ (by decide +kernel))
      · exact absurd rfl hne) hA
  exact ⟨adK, adV, hS, vk_R.of (own := R_law) (tx := ">") (k := 47) (tb_at hts 1072 (by decide +kernel)) (hev 0 (by decide)), vk_R.of (own := R_law) (tx := "+") (k := 52) (tb_at hts 1073 (by decide +kernel)) (hev 1 (by decide)), vk_R.of (own := R_law) (tx := "h:b>a+") (k := 65) (tb_at hts 1074 (by decide +kernel)) (hev 2 (by decide))⟩
def dgC (j : Nat) : Cond := .eq (.elem (.static "java/lang/Integer" "DigitOnes" "[B") (.int (Int32.ofNat j))) (.int (nI (48 + j % 10)))
set_option maxRecDepth 100000 in
theorem dg_in : ∀ j, j < 100 → dgC j ∈ flatC (Jvm.Cond.and given_1 narrow_1) := by decide +kernel
set_option maxRecDepth 100000 in
theorem texts3 {s : State} {b : Nat} (hts : ∀ w ∈ lw_tbl, w.before #[Value.ref b] s = true) (hgv : (Jvm.Cond.and given_1 narrow_1).before #[Value.ref b] s = true) {A : Nat → Prop} (hA : ∀ a : Nat, a < s.heap.size → ¬ A a) :
    ∃ d : Nat, va_Z "java/lang/Integer" "DigitOnes" "[B" (.ref d) A s s.heap ∧ va_T .byte d 100 (fun j => .int (nI (48 + j % 10))) A s s.heap := by
  have hs := flat_of_before _ hgv
  obtain ⟨d, hd, hT⟩ := va_Tof (args := #[Value.ref b]) (s := s) (tm := .static "java/lang/Integer" "DigitOnes" "[B") (ty := .byte) (N := 100) (f := fun j => .int (nI (48 + j % 10))) (A := A) (by decide) (hs _ (by decide +kernel)) (va_eqt (show (Cond.eq (.length (.static "java/lang/Integer" "DigitOnes" "[B")) (.int 100)).before #[Value.ref b] s = true from hs _ (by decide +kernel))) (fun j hj => va_eqt (show (dgC j).before #[Value.ref b] s = true from hs _ (dg_in j hj))) hA
  exact ⟨d, va_Zof (A := A) (tb_at hts 1004 (by decide +kernel)) (tb_at hts 79 (by decide +kernel)) hd hA, hT⟩
def adr (l : List Nat) (adK adV : Nat → Nat) (fm : Nat) : Nat → Nat := fun o => if o < 107 then l.getD o 0 else if o < 109 then adK (o - 107) else if o < 111 then adV (o - 109) else fm
def prm : List Nat := [0, 1, 2, 3, 4, 5, 6, 7, 8, 9, 10, 11, 12, 13, 14, 15, 16, 20, 21, 17, 18, 19, 22, 23, 24, 25, 26, 27, 31, 32, 28, 29, 30, 36, 37, 33, 34, 35, 38, 39, 40, 41, 42, 43, 47, 48, 44, 45, 46, 49, 50, 51, 52, 53, 54, 55, 56, 57, 58, 59, 60, 61, 62, 63, 64]
theorem prm_nd : va_nd prm = true := by decide +kernel
set_option maxHeartbeats 8000000 in
set_option maxRecDepth 100000 in
theorem gws0 (D : va_G) (ct : ClassId × ClassId × ClassId) {a0 o1 o1q1 o1q2 o1q3 o1q4 o1q5 o1q6 o1q7 o1q8 o2 o2q1 o2q2 o2q3 o2q4 o2q5 o2q6 o3 o3q1 o3q2 o3q3 o3q4 o4 o4q1 o4q2 o4q3 o4q4 o4q5 o5 o5q1 o5q2 o5q3 o5q4 o6 o6q1 o6q2 o6q3 o6q4 o7 o7q1 o7q2 o7q3 o7q4 o7q5 o8 o8q1 o8q2 o8q3 o8q4 o9 o9q1 o9q2 o9q3 o9q4 o9q5 qs o10 o10q1 o11 o11q1 o12 o12q1 o13 o13q1 qt : Nat} {o3f o5f o6f o8f : Nat → Int32} {sf : Nat → Option Nat} (hsf : sf 0 = some o10 ∧ sf 1 = some o11 ∧ sf 2 = some o12 ∧ sf 3 = some o13 ∧ ∀ j, 4 ≤ j → sf j = none) (adK adV : Nat → Nat) (fm : Nat) : prm.map (fun i => (([(a0, .inr (6, [.ref o1, .ref o2, .ref o3, .ref o4, .ref o5, .ref o6, .ref o7, .ref o8, .ref o9, .ref qs, .ref qt, .int 0, .int 0])), (o1, .inr (3, [.ref o1q1, .ref o1q2, .ref o1q3, .ref o1q4, .ref o1q5, .ref o1q6, .ref o1q7, .ref o1q8, .int 0])), (o1q1, .inl (ct.1, 16, .inl (fun _ => 0))), (o1q2, .inl (ct.1, 24, .inl (fun _ => 0))), (o1q3, .inl (ct.1, 24, .inl (fun _ => 0))), (o1q4, .inl (ct.1, 8, .inl (fun _ => 0))), (o1q5, .inl (ct.1, 48, .inl (fun _ => 0))), (o1q6, .inl (ct.1, 1600, .inl (fun _ => 0))), (o1q7, .inl (ct.1, 64, .inl (fun _ => 0))), (o1q8, .inl (ct.1, 9, .inl (fun _ => 0))), (o2, .inr (2, [.ref o2q1, .ref o2q2, .ref o2q3, .ref o2q4, .ref o2q5, .ref o2q6, .int 0, .int 0, .int 0, .int 0, .int 0, .int 0, .int 0, .int 0])), (o2q1, .inl (ct.1, 90, .inl (fun _ => 0))), (o2q2, .inl (ct.1, 91, .inl (fun _ => 0))), (o2q3, .inl (ct.1, 91, .inl (fun _ => 0))), (o2q4, .inl (ct.1, 91, .inl (fun _ => 0))), (o2q5, .inl (ct.1, 90, .inl (fun _ => 0))), (o2q6, .inl (ct.1, 90, .inl (fun _ => 0))), (o3q2, .inl (ct.1, 9, .inl (fun _ => 0))), (o3q3, .inl (ct.1, 80, .inl (fun _ => 0))), (o3q4, .inl (ct.1, 80, .inl (fun _ => 0))), (o3, .inr (0, [.ref o1, .ref o3q1, .ref o3q2, .ref o3q3, .ref o3q4, .int 0, .int 0, .int 0, .int 0, .int 0, .int 0, .int 0])), (o3q1, .inl (ct.1, 9, .inl (o3f))), (o4, .inr (1, [.ref o4q1, .ref o4q2, .ref o4q3, .ref o4q4, .ref o4q5, .int 0, .int 0])), (o4q1, .inl (ct.1, 12, .inl (fun _ => 0))), (o4q2, .inl (ct.1, 12, .inl (fun _ => 0))), (o4q3, .inl (ct.1, 8, .inl (fun _ => 0))), (o4q4, .inl (ct.1, 8, .inl (fun _ => 0))), (o4q5, .inl (ct.1, 8, .inl (fun _ => 0))), (o5q2, .inl (ct.1, 9, .inl (fun _ => 0))), (o5q3, .inl (ct.1, 80, .inl (fun _ => 0))), (o5q4, .inl (ct.1, 80, .inl (fun _ => 0))), (o5, .inr (0, [.ref o1, .ref o5q1, .ref o5q2, .ref o5q3, .ref o5q4, .int 0, .int 0, .int 0, .int 0, .int 0, .int 0, .int 0])), (o5q1, .inl (ct.1, 9, .inl (o5f))), (o6q2, .inl (ct.1, 9, .inl (fun _ => 0))), (o6q3, .inl (ct.1, 80, .inl (fun _ => 0))), (o6q4, .inl (ct.1, 80, .inl (fun _ => 0))), (o6, .inr (0, [.ref o1, .ref o6q1, .ref o6q2, .ref o6q3, .ref o6q4, .int 0, .int 0, .int 0, .int 0, .int 0, .int 0, .int 0])), (o6q1, .inl (ct.1, 9, .inl (o6f))), (o7, .inr (4, [.ref o1, .ref o4, .ref o5, .ref o6, .ref o7q1, .ref o7q2, .ref o7q3, .ref o7q4, .ref o7q5, .int 0, .int 0, .int 0, .int 0, .int 0, .int 0])), (o7q1, .inl (ct.1, 8, .inl (fun _ => 0))), (o7q2, .inl (ct.1, 8, .inl (fun _ => 0))), (o7q3, .inl (ct.1, 8, .inl (fun _ => 0))), (o7q4, .inl (ct.1, 8, .inl (fun _ => 0))), (o7q5, .inl (ct.1, 8, .inl (fun _ => 0))), (o8q2, .inl (ct.1, 9, .inl (fun _ => 0))), (o8q3, .inl (ct.1, 80, .inl (fun _ => 0))), (o8q4, .inl (ct.1, 80, .inl (fun _ => 0))), (o8, .inr (0, [.ref o1, .ref o8q1, .ref o8q2, .ref o8q3, .ref o8q4, .int 0, .int 0, .int 0, .int 0, .int 0, .int 0, .int 0])), (o8q1, .inl (ct.1, 9, .inl (o8f))), (o9, .inr (1, [.ref o9q1, .ref o9q2, .ref o9q3, .ref o9q4, .ref o9q5, .int 0, .int 0])), (o9q1, .inl (ct.1, 12, .inl (fun _ => 0))), (o9q2, .inl (ct.1, 12, .inl (fun _ => 0))), (o9q3, .inl (ct.1, 8, .inl (fun _ => 0))), (o9q4, .inl (ct.1, 8, .inl (fun _ => 0))), (o9q5, .inl (ct.1, 8, .inl (fun _ => 0))), (qs, .inl (ct.2.2, 4, .inr (.inr (.inr (.inr sf))))), (o10, .inr (5, [.ref o10q1, .int (-1), .int 0])), (o10q1, .inl (ct.1, 40, .inl (fun _ => 0))), (o11, .inr (5, [.ref o11q1, .int (-1), .int 0])), (o11q1, .inl (ct.1, 40, .inl (fun _ => 0))), (o12, .inr (5, [.ref o12q1, .int (-1), .int 0])), (o12q1, .inl (ct.1, 40, .inl (fun _ => 0))), (o13, .inr (5, [.ref o13q1, .int (-1), .int 0])), (o13q1, .inl (ct.1, 40, .inl (fun _ => 0))), (qt, .inl (ct.1, 9, .inl (fun _ => 0)))] : va_W))[i]?) = (gws (D, ct, adr [a0, o1, o1q1, o1q2, o1q3, o1q4, o1q5, o1q6, o1q7, o1q8, o2, o2q1, o2q2, o2q3, o2q4, o2q5, o2q6, o3, o3q1, o3q2, o3q3, o3q4, o4, o4q1, o4q2, o4q3, o4q4, o4q5, o5, o5q1, o5q2, o5q3, o5q4, o6, o6q1, o6q2, o6q3, o6q4, o7, o7q1, o7q2, o7q3, o7q4, o7q5, o8, o8q1, o8q2, o8q3, o8q4, o9, o9q1, o9q2, o9q3, o9q4, o9q5, qs, o10, o10q1, o11, o11q1, o12, o12q1, o13, o13q1, qt] adK adV fm) (hini o3f o5f o6f o8f (fun _ => 0))).map some := by
  have e : sf = fun j => (([some 56, some 58, some 60, some 62] : List (Option Nat)).getD j none).map (adr [a0, o1, o1q1, o1q2, o1q3, o1q4, o1q5, o1q6, o1q7, o1q8, o2, o2q1, o2q2, o2q3, o2q4, o2q5, o2q6, o3, o3q1, o3q2, o3q3, o3q4, o4, o4q1, o4q2, o4q3, o4q4, o4q5, o5, o5q1, o5q2, o5q3, o5q4, o6, o6q1, o6q2, o6q3, o6q4, o7, o7q1, o7q2, o7q3, o7q4, o7q5, o8, o8q1, o8q2, o8q3, o8q4, o9, o9q1, o9q2, o9q3, o9q4, o9q5, qs, o10, o10q1, o11, o11q1, o12, o12q1, o13, o13q1, qt] adK adV fm) := funext fun j => by
    match j with
    | 0 => exact hsf.1
    | 1 => exact hsf.2.1
    | 2 => exact hsf.2.2.1
    | 3 => exact hsf.2.2.2.1
    | j + 4 => exact hsf.2.2.2.2 (j + 4) (by omega)
  subst e
  rfl
theorem pW_has {s : State} {b : Nat} (hts : ∀ w ∈ lw_tbl, w.before #[Value.ref b] s = true) : ∀ z ∈ pW, va_Nw z s := by
  intro z hz
  simp only [pW, List.mem_cons, List.not_mem_nil, or_false] at hz
  rcases hz with rfl | rfl | rfl
  · exact va_Nw.of rfl (zselP (y := yJ5_ensureCapacityInternal_d00df) (z := yJ5_isLatin1_aae02) ⟨by decide, by decide⟩ rfl (tb_at hts 934 (by decide +kernel)) (tb_at hts 903 (by decide +kernel)) (tb_at hts 904 (by decide +kernel)))
  · exact va_Nw.of rfl (zselP (y := yJ5_putStringAt_47b60) (z := yJ5_isLatin1_aae02) ⟨by decide, by decide⟩ rfl (tb_at hts 934 (by decide +kernel)) (tb_at hts 944 (by decide +kernel)) (tb_at hts 945 (by decide +kernel)))
  · exact va_Nw.of rfl (zselP (y := yJ5_inflateIfNeededFor_a7421) (z := yJ5_isLatin1_aae02) ⟨by decide, by decide⟩ rfl (tb_at hts 934 (by decide +kernel)) (tb_at hts 948 (by decide +kernel)) (tb_at hts 949 (by decide +kernel)))
set_option maxHeartbeats 8000000 in
set_option maxRecDepth 100000 in
theorem whole_start {p : Program} {e : Env} {s : State} {m : MethodId} {below : List Frame} {meth : Method} {c : Code} (l : Launch) (hflags : l.flags = flags0) {b L : Nat} {xs : Nat → Int32} (hL : L ≤ 260) (C0 : lw_At p s m meth c b L xs) : W p l e room_1 s m #[Value.ref b] below meth c s.heap [] 0 0 (lw_Z below #[Value.ref b] s) (entryFrame m ([Value.ref b] : List Value).toArray 10) := by
  obtain ⟨hx, hb, hr, hml, hown, hts, hX, hbl, hlocks, hgv⟩ := id C0
  have hA : ∀ q : Nat, s.heap.size ≤ q → lA s q := fun _ h => h
  have hnA : ∀ a : Nat, a < s.heap.size → ¬ lA s a := fun a ha => Nat.not_le.mpr ha
  have hgW : ∀ t ∈ gW, t.before #[Value.ref b] s = true := fun t ht => hts t (List.mem_filter.mp ht).1
  have hgN : ∀ z ∈ gN, va_Nw z s := fun z hz => by
    have h1 := List.mem_filter.mp hz
    refine va_Nw.of ?_ (hts z h1.1)
    cases z <;> first | rfl | exact absurd h1.2 (by simp [gisN])
  have hiN : ∀ z ∈ iN, va_Nw z s := fun z hz => by
    rcases List.mem_append.mp hz with hz | hz
    · exact hgN z hz
    · exact pW_has hts z hz
  obtain ⟨c0, i0, k0⟩ := u_known (C := RX0) (T := TX0) (N := 12) (n := 12) hgW gu_0 (hgW (.instantiable RX0 12) (gW_at 182 (by decide +kernel) rfl))
  obtain ⟨c1, i1, k1⟩ := u_known (C := RX1) (T := TX1) (N := 7) (n := 7) hgW gu_1 (hgW (.instantiable RX1 7) (gW_at 241 (by decide +kernel) rfl))
  obtain ⟨c2, i2, k2⟩ := u_known (C := RX2) (T := TX2) (N := 14) (n := 14) hgW gu_2 (hgW (.instantiable RX2 14) (gW_at 130 (by decide +kernel) rfl))
  obtain ⟨c3, i3, k3⟩ := u_known (C := RX3) (T := TX3) (N := 9) (n := 9) hgW gu_3 (hgW (.instantiable RX3 9) (gW_at 90 (by decide +kernel) rfl))
  obtain ⟨c4, i4, k4⟩ := u_known (C := RX4) (T := TX4) (N := 15) (n := 15) hgW gu_4 (hgW (.instantiable RX4 15) (gW_at 276 (by decide +kernel) rfl))
  obtain ⟨c5, i5, k5⟩ := u_known (C := RX5) (T := TX5) (N := 3) (n := 3) hgW gu_5 (hgW (.instantiable RX5 3) (gW_at 334 (by decide +kernel) rfl))
  obtain ⟨c6, i6, k6⟩ := u_known (C := RX6) (T := TX6) (N := 13) (n := 13) hgW gu_6 (hgW (.instantiable RX6 13) (gW_at 82 (by decide +kernel) rfl))
  obtain ⟨c7, i7, k7⟩ := u_known (C := RJ0) (T := TJ0) (N := 4) (n := 4) hgW gu_7 (hgW (.instantiable RJ0 4) (gW_at 1020 (by decide +kernel) rfl))
  obtain ⟨c8, i8, k8⟩ := u_known (C := RJ4) (T := TJ4) (N := 4) (n := 4) hgW gu_8 (hgW (.instantiable RJ4 4) (gW_at 862 (by decide +kernel) rfl))
  obtain ⟨dC, dI, hKc⟩ : ∃ (dC : Nat → ClassId) (dI : Nat → Nat → Nat), ∀ (k : Nat) (q : vw_C), gcl[k]? = some q → u_Kn s q.1 q.2.1 q.2.2 (dC k) (dI k) := by
    refine ⟨fun k => if k = 0 then c0 else if k = 1 then c1 else if k = 2 then c2 else if k = 3 then c3 else if k = 4 then c4 else if k = 5 then c5 else if k = 6 then c6 else if k = 7 then c7 else c8, fun k => if k = 0 then i0 else if k = 1 then i1 else if k = 2 then i2 else if k = 3 then i3 else if k = 4 then i4 else if k = 5 then i5 else if k = 6 then i6 else if k = 7 then i7 else i8, ?_⟩
    intro k q hq
    match k, hq with
    | 0, hq => cases hq; exact k0
    | 1, hq => cases hq; exact k1
    | 2, hq => cases hq; exact k2
    | 3, hq => cases hq; exact k3
    | 4, hq => cases hq; exact k4
    | 5, hq => cases hq; exact k5
    | 6, hq => cases hq; exact k6
    | 7, hq => cases hq; exact k7
    | 8, hq => cases hq; exact k8
    | k + 9, hq => simp [gcl] at hq
  obtain ⟨cI, kI, coI, a1, a2, a3⟩ := Cond.arrayClass_spec (hgW _ jAi)
  obtain ⟨cB, kB, coB, b1, b2, b3⟩ := Cond.arrayClass_spec (hgW _ jAb)
  have hAO : va_AO RX5 s := va_AO.of (tb_at hts 333 (by decide +kernel))
  obtain ⟨comp, cS, kS, s1, s2, s3, s4, s5⟩ := Cond.arrayOver_spec hAO
  have hK : va_K (dC, dI) gcl (ctn (cI, cB, cS)) s := ⟨hKc, fun k q hq => by
    match k, hq with
    | 0, hq => cases hq; exact ⟨fun N z => ⟨fun k h => (by cases h), kI, a2, coI, a3⟩, a1⟩
    | 1, hq => cases hq; exact ⟨fun N z => ⟨fun k h => (by cases h), kB, b2, coB, b3⟩, b1⟩
    | 2, hq => cases hq; exact ⟨fun N z => ⟨fun k h => (by cases h), kS, s3, comp, s4⟩, kS, comp, s3, s4, s1, s5⟩
    | k + 3, hq => simp [ctn] at hq⟩
  obtain ⟨adK, adV, fm, t1, t2, t3, t4, t5⟩ := texts1 hts hgv (A := lA s) hnA
  obtain ⟨aK, aV, r1, r2, r3, r4⟩ := texts2 hts hgv (A := lA s) hnA
  obtain ⟨dg, g1, g2⟩ := texts3 hts hgv (A := lA s) hnA
  generalize hct : (cI, cB, cS) = ct at hK
  generalize hD0 : (dC, dI) = D at hK
  have hS : va_S (lA s) s.heap s.heap [] := va_S.rf
  have hP : va_P D gcl [] s.heap := fun k q h => by simp at h
  have hD : va_D (lA s) [] := ⟨fun i j p q h => by simp at h, fun k q h => by simp at h⟩
  have hl := lv_entry ([.ref b]) (n := 10) (Nat.le_of_ble_eq_true rfl)
  rw [lg_entry_eq]
  generalize (lg_sl ([.ref b]) ++ List.replicate (10 - (lg_sl ([.ref b])).length) Slot.unset).toArray = ls at hl ⊢
  have hl : lv_has ls 10 [(0, .ref b)] := hl
  have hfix : CallFix p m c code 10 s #[Value.ref b] gW R_law := ⟨hx, hb, hml, hown, hgW⟩
  have hpre : ∀ (ws : va_W) (H : Heap), va_P D gcl ws H → va_D (lA s) ws → ∀ U : State, U.heap = H → s.WarmedH U.vm → jPre D ct ws H.size U := fun ws H hP hD U hU hW => ⟨by rw [hU], by rw [hU]; exact hP, va_K.moved hW.alike hK, fun z hz => gN_warm hz hW (hgN z hz), hAO.moved hW.alike, hD.weaken (fun _ _ _ _ => trivial)⟩
  obtain ⟨nC, nT, nty, nc, nin, nty2, nw1, nw2, nw3, nfs⟩ := jN_R_law_24
  refine va_new hx hb hgW nin nty nty2 hown (hgW _ nw1) (hgW _ nw2) (hgW _ nw3) hK hP hD hS hA nc nfs (Nat.le_of_ble_eq_true rfl) (Nat.le_of_ble_eq_true rfl) (gxd kLw0 0 rfl) (fun a0 H hP hD hS => ?_)
  clear nc nin nty2 nw1 nw2 nw3 nfs
  refine lv_dup hx hb (gxd kLw0 1 rfl) rfl ?_
  have hP : va_P D gcl [(a0, .inr (6, fz6))] H := hP
  have hD : va_D (lA s) [(a0, .inr (6, fz6))] := hD
  have hFc := va_free (wc := [(a0, .inr (6, fz6))]) hD hS hA [0] rfl
  have hps : PreS s H (va_Pc [.ref a0] (jPre D ct [(a0, .inr (6, fz6))] H.size)) [.ref a0] := ⟨jPre_blind D ct _ H.size _, fun U hU hW => ⟨rfl, hpre _ H hP hD U hU hW⟩⟩
  have hl1 : Cond.methodLink R_law 32 yX6_init ∈ gW := gW_at 83 (by decide +kernel) rfl
  refine va_callv (va_runI (As := []) (rest := [.ref a0]) hfix (c_X6_init D ct (h0 := a0) l H.size) ⟨callB_of 0 hgW (gGood jW_X6_init) rfl rfl rfl (hgW _ jL_R_law_32.2.1) (hgW _ hl1) jL_R_law_32.2.2 ⟨(Nat.le_of_ble_eq_true rfl), (Nat.le_of_ble_eq_true rfl)⟩, rfl, hgW _ jL_R_law_32i⟩ hps rfl rfl hl.1 rfl (lv_room (Nat.le_of_ble_eq_true rfl)) (gxd kLw0 2 rfl) ⟨(Nat.le_of_ble_eq_true rfl), (Nat.le_of_ble_eq_true rfl)⟩) hS (fun q _ h => hFc q h) hFc (fun u t H1 locs ht hvm hw hB hz1 hk1 hS => ?_)
  obtain ⟨w1, hB1, hP1, hD1⟩ := hB
  rw [ht] at hP1
  obtain ⟨hP, hD⟩ := va_join (wr := []) (w1 := w1) hP hD [0] [] rfl rfl (by decide) (by decide) hk1 hFc hP1 hD1
  clear hP1 hD1 hps hFc
  rw [List.nil_append] at hP hD
  generalize H1 = H at hP hS ⊢
  refine W.widen (k := 90000) (n := 1000000) (Nat.le_of_ble_eq_true rfl) (Nat.le_of_ble_eq_true rfl) ?_
  obtain ⟨o1, o1q1, o1q2, o1q3, o1q4, o1q5, o1q6, o1q7, o1q8, o2, o2q1, o2q2, o2q3, o2q4, o2q5, o2q6, o3, o3q1, o3q2, o3q3, o3q4, o4, o4q1, o4q2, o4q3, o4q4, o4q5, o5, o5q1, o5q2, o5q3, o5q4, o6, o6q1, o6q2, o6q3, o6q4, o7, o7q1, o7q2, o7q3, o7q4, o7q5, o8, o8q1, o8q2, o8q3, o8q4, o9, o9q1, o9q2, o9q3, o9q4, o9q5, qs, o10, o10q1, o11, o11q1, o12, o12q1, o13, o13q1, qt, o3f, o5f, o6f, o8f, sf, o3e, o3g, o5e, o5g, o6e, o6g, o8e, o8g, hsf, rfl⟩ := hB1
  have hpm := gws0 D ct hsf adK adV fm (a0 := a0) (o3f := o3f) (o5f := o5f) (o6f := o6f) (o8f := o8f) (o1 := o1) (o1q1 := o1q1) (o1q2 := o1q2) (o1q3 := o1q3) (o1q4 := o1q4) (o1q5 := o1q5) (o1q6 := o1q6) (o1q7 := o1q7) (o1q8 := o1q8) (o2 := o2) (o2q1 := o2q1) (o2q2 := o2q2) (o2q3 := o2q3) (o2q4 := o2q4) (o2q5 := o2q5) (o2q6 := o2q6) (o3 := o3) (o3q1 := o3q1) (o3q2 := o3q2) (o3q3 := o3q3) (o3q4 := o3q4) (o4 := o4) (o4q1 := o4q1) (o4q2 := o4q2) (o4q3 := o4q3) (o4q4 := o4q4) (o4q5 := o4q5) (o5 := o5) (o5q1 := o5q1) (o5q2 := o5q2) (o5q3 := o5q3) (o5q4 := o5q4) (o6 := o6) (o6q1 := o6q1) (o6q2 := o6q2) (o6q3 := o6q3) (o6q4 := o6q4) (o7 := o7) (o7q1 := o7q1) (o7q2 := o7q2) (o7q3 := o7q3) (o7q4 := o7q4) (o7q5 := o7q5) (o8 := o8) (o8q1 := o8q1) (o8q2 := o8q2) (o8q3 := o8q3) (o8q4 := o8q4) (o9 := o9) (o9q1 := o9q1) (o9q2 := o9q2) (o9q3 := o9q3) (o9q4 := o9q4) (o9q5 := o9q5) (qs := qs) (o10 := o10) (o10q1 := o10q1) (o11 := o11) (o11q1 := o11q1) (o12 := o12) (o12q1 := o12q1) (o13 := o13) (o13q1 := o13q1) (qt := qt)
  obtain ⟨w, hw0⟩ : ∃ w : gw, w = (D, ct, adr [a0, o1, o1q1, o1q2, o1q3, o1q4, o1q5, o1q6, o1q7, o1q8, o2, o2q1, o2q2, o2q3, o2q4, o2q5, o2q6, o3, o3q1, o3q2, o3q3, o3q4, o4, o4q1, o4q2, o4q3, o4q4, o4q5, o5, o5q1, o5q2, o5q3, o5q4, o6, o6q1, o6q2, o6q3, o6q4, o7, o7q1, o7q2, o7q3, o7q4, o7q5, o8, o8q1, o8q2, o8q3, o8q4, o9, o9q1, o9q2, o9q3, o9q4, o9q5, qs, o10, o10q1, o11, o11q1, o12, o12q1, o13, o13q1, qt] adK adV fm) := ⟨_, rfl⟩
  rw [← hw0] at hpm
  have hPg := hP.sub prm (fm_of hpm)
  have hDg := hD.sub prm prm_nd hpm
  have hgD : gD w := fun i j hi hj e => hDg.1 i j _ _ (gws_at w _ ⟨hi, rfl⟩) (gws_at w _ ⟨hj, rfl⟩) e
  have hge : ∀ o, o < 65 → s.heap.size ≤ w.2.2 o := fun o ho => hDg.2 o _ (gws_at w _ ⟨ho, rfl⟩)
  have hnar : ∀ q, gA w q → lA s q := by
    rintro q ⟨o, ho, rfl⟩
    exact hge o ho
  have hKw : va_K w.1 gcl (ctn w.2.1) s := by rw [hw0]; exact hK
  have hXt : gXt w s s.heap := by
    refine ⟨⟨fun i hi => ?_, fun i j hi hj e => t1.2 i j hi hj ?_⟩, ?_, ?_, t4.narrow hnar, ?_⟩
    · have e : i = 0 ∨ i = 1 := by omega
      have t1 := t1.narrow hnar
      rcases e with e | e <;> subst e
      · have := t1.1 0 hi
        rw [hw0] at this ⊢
        exact this
      · have := t1.1 1 hi
        rw [hw0] at this ⊢
        exact this
    · have e1 : i = 0 ∨ i = 1 := by omega
      have e2 : j = 0 ∨ j = 1 := by omega
      rw [hw0] at e
      rcases e1 with e1 | e1 <;> rcases e2 with e2 | e2 <;> subst e1 <;> subst e2 <;> exact e
    · rw [hw0]; exact t2
    · rw [hw0]; exact t3
    · rcases t5 with t5 | t5
      · exact Or.inl (t5.narrow hnar)
      · refine Or.inr ?_
        have t5 := t5.narrow hnar
        rw [hw0] at t5 ⊢
        exact t5
  have hE : iE (dg, [(aK 0, aV 0, 1, fun j => (lSb.getD 0 []).getD j 0), (aK 1, aV 1, 1, fun j => (lSb.getD 1 []).getD j 0), (aK 2, aV 2, 6, fun j => (lSb.getD 2 []).getD j 0)], [(b, L, xs)]) (lA s) s s.heap := by
    refine ⟨t4, ?_, g1, g2, fun q hq => ?_, fun q hq => ?_⟩
    · rcases t5 with t5 | t5
      · exact Or.inl t5
      · exact Or.inr ⟨fm, t5⟩
    · simp only [List.mem_cons, List.not_mem_nil, or_false] at hq
      rcases hq with rfl | rfl | rfl
      · exact r1.1 0 (by decide)
      · exact r1.1 1 (by decide)
      · exact r1.1 2 (by decide)
    · rw [List.mem_singleton] at hq
      rw [hq]
      exact ⟨hX, hnA b hbl⟩
  have X : zX R_law code 10 p s m #[Value.ref b] meth c w.1 w.2.1 (dg, [(aK 0, aV 0, 1, fun j => (lSb.getD 0 []).getD j 0), (aK 1, aV 1, 1, fun j => (lSb.getD 1 []).getD j 0), (aK 2, aV 2, 6, fun j => (lSb.getD 2 []).getD j 0)], [(b, L, xs)]) (lA s) := ⟨hx, hb, hml, hown, hgW, hlocks, hKw, hiN, hE, fun q h => h⟩
  have Y : zW w s (lA s) := ⟨hgD, hXt, fun a ha h => absurd h (hnA a ha), hnar⟩
  have I := AX0 (f1 := o3f) (f2 := o5f) (f3 := o6f) (f4 := o8f) (fm := fun _ => 0) ⟨o3e, o3g⟩ o5g o6g o8g
  have J := lw_walk7 (l := l) (e := e) (below := below) (k := 90000) (n := 1000000) X Y hr rfl (by omega) rfl rfl r2 r3 rfl rfl rfl r4 (by decide) (Nat.le_refl _) (Nat.le_refl _) I
  have J := zJ_nil2 J
  have ea : w.2.2 0 = a0 := by rw [hw0]; rfl
  rw [ea] at J
  exact J H locs ls (by rw [show w.1 = D by rw [hw0]]; exact hPg) hDg hS hl
