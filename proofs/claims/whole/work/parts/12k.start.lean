/-! the law from its entry -/
theorem jN_R_law_7 : gNw R_law 7 6 fz6 13 := ⟨RX6, TX6, tyX6, rfl, gu_6, tyX6_ok, gW_at 142 (by decide +kernel) rfl, gW_at 143 (by decide +kernel) rfl, gW_at 126 (by decide +kernel) rfl, by decide +kernel⟩
theorem jN_R_law_10 : gNw R_law 10 7 fz7 81 := ⟨RX7, TX7, tyX7, rfl, gu_7, tyX7_ok, gW_at 1060 (by decide +kernel) rfl, gW_at 1061 (by decide +kernel) rfl, gW_at 133 (by decide +kernel) rfl, by decide +kernel⟩
theorem jL_R_law_9 : gLk R_law 9 yX6_init 0 := ⟨Or.inl (gW_at 144 (by decide +kernel) rfl), gW_at 126 (by decide +kernel) rfl, by decide +kernel⟩
theorem jL_R_law_9i : Cond.instanceMethod yX6_init ∈ gW := gW_at 145 (by decide +kernel) rfl
theorem jL_R_law_12 : gLk R_law 12 yX7_init 0 := ⟨Or.inl (gW_at 1062 (by decide +kernel) rfl), gW_at 133 (by decide +kernel) rfl, by decide +kernel⟩
theorem jL_R_law_12i : Cond.instanceMethod yX7_init ∈ gW := gW_at 1063 (by decide +kernel) rfl
theorem jW_X6_init : Cond.code yX6_init cX6_init 2 none ∈ gW := gW_at 146 (by decide +kernel) rfl
theorem jW_X7_init : Cond.code yX7_init cX7_init 2 none ∈ gW := gW_at 1064 (by decide +kernel) rfl
def adr (l : List Nat) (adK adV : Nat → Nat) (fm : Nat) : Nat → Nat := fun o => if o < 107 then l.getD o 0 else if o < 109 then adK (o - 107) else if o < 111 then adV (o - 109) else fm
def prm : List Nat := [0, 1, 2, 3, 4, 5, 6, 7, 8, 9, 10, 11, 12, 13, 14, 15, 16, 20, 21, 17, 18, 19, 22, 23, 24, 25, 26, 27, 31, 32, 28, 29, 30, 36, 37, 33, 34, 35, 38, 39, 40, 41, 42, 43, 47, 48, 44, 45, 46, 49, 50, 51, 52, 53, 54, 55, 56, 57, 58, 59, 60, 61, 62, 63, 64, 65, 66, 67, 68, 69, 70, 71, 72, 73, 74, 75, 76, 77, 78, 79, 80, 81, 82, 83, 84, 85, 86, 87, 88, 89, 90, 91, 92, 93, 94, 95, 96, 97, 98, 99, 100, 101, 102, 103, 104, 105, 106]
theorem prm_nd : va_nd prm = true := by decide +kernel
set_option maxHeartbeats 8000000 in
set_option maxRecDepth 100000 in
theorem gws0 (D : va_G) (ct : ClassId × ClassId × ClassId) {a0 o1 o1q1 o1q2 o1q3 o1q4 o1q5 o1q6 o1q7 o1q8 o2 o2q1 o2q2 o2q3 o2q4 o2q5 o2q6 o3 o3q1 o3q2 o3q3 o3q4 o4 o4q1 o4q2 o4q3 o4q4 o4q5 o5 o5q1 o5q2 o5q3 o5q4 o6 o6q1 o6q2 o6q3 o6q4 o7 o7q1 o7q2 o7q3 o7q4 o7q5 o8 o8q1 o8q2 o8q3 o8q4 o9 o9q1 o9q2 o9q3 o9q4 o9q5 qs o10 o10q1 o11 o11q1 o12 o12q1 o13 o13q1 qt m0 m1 m2 m3 m4 m5 m6 m7 m8 m9 m10 m11 m12 m13 m14 m15 m16 m17 m18 m19 m20 m21 m22 m23 m24 m25 m26 m27 m28 m29 m30 m31 m32 m33 m34 m35 m36 m37 m38 m39 m40 m41 : Nat} {o3f o5f o6f o8f mf : Nat → Int32} {sf : Nat → Option Nat} (hsf : sf 0 = some o10 ∧ sf 1 = some o11 ∧ sf 2 = some o12 ∧ sf 3 = some o13 ∧ ∀ j, 4 ≤ j → sf j = none) (adK adV : Nat → Nat) (fm : Nat) : prm.map (fun i => (([(a0, .inr (6, [.ref o1, .ref o2, .ref o3, .ref o4, .ref o5, .ref o6, .ref o7, .ref o8, .ref o9, .ref qs, .ref qt, .int 0, .int 0])), (o1, .inr (3, [.ref o1q1, .ref o1q2, .ref o1q3, .ref o1q4, .ref o1q5, .ref o1q6, .ref o1q7, .ref o1q8, .int 0])), (o1q1, .inl (ct.1, 16, .inl (fun _ => 0))), (o1q2, .inl (ct.1, 24, .inl (fun _ => 0))), (o1q3, .inl (ct.1, 24, .inl (fun _ => 0))), (o1q4, .inl (ct.1, 8, .inl (fun _ => 0))), (o1q5, .inl (ct.1, 48, .inl (fun _ => 0))), (o1q6, .inl (ct.1, 1600, .inl (fun _ => 0))), (o1q7, .inl (ct.1, 64, .inl (fun _ => 0))), (o1q8, .inl (ct.1, 9, .inl (fun _ => 0))), (o2, .inr (2, [.ref o2q1, .ref o2q2, .ref o2q3, .ref o2q4, .ref o2q5, .ref o2q6, .int 0, .int 0, .int 0, .int 0, .int 0, .int 0, .int 0, .int 0])), (o2q1, .inl (ct.1, 90, .inl (fun _ => 0))), (o2q2, .inl (ct.1, 91, .inl (fun _ => 0))), (o2q3, .inl (ct.1, 91, .inl (fun _ => 0))), (o2q4, .inl (ct.1, 91, .inl (fun _ => 0))), (o2q5, .inl (ct.1, 90, .inl (fun _ => 0))), (o2q6, .inl (ct.1, 90, .inl (fun _ => 0))), (o3q2, .inl (ct.1, 9, .inl (fun _ => 0))), (o3q3, .inl (ct.1, 80, .inl (fun _ => 0))), (o3q4, .inl (ct.1, 80, .inl (fun _ => 0))), (o3, .inr (0, [.ref o1, .ref o3q1, .ref o3q2, .ref o3q3, .ref o3q4, .int 0, .int 0, .int 0, .int 0, .int 0, .int 0, .int 0])), (o3q1, .inl (ct.1, 9, .inl (o3f))), (o4, .inr (1, [.ref o4q1, .ref o4q2, .ref o4q3, .ref o4q4, .ref o4q5, .int 0, .int 0])), (o4q1, .inl (ct.1, 12, .inl (fun _ => 0))), (o4q2, .inl (ct.1, 12, .inl (fun _ => 0))), (o4q3, .inl (ct.1, 8, .inl (fun _ => 0))), (o4q4, .inl (ct.1, 8, .inl (fun _ => 0))), (o4q5, .inl (ct.1, 8, .inl (fun _ => 0))), (o5q2, .inl (ct.1, 9, .inl (fun _ => 0))), (o5q3, .inl (ct.1, 80, .inl (fun _ => 0))), (o5q4, .inl (ct.1, 80, .inl (fun _ => 0))), (o5, .inr (0, [.ref o1, .ref o5q1, .ref o5q2, .ref o5q3, .ref o5q4, .int 0, .int 0, .int 0, .int 0, .int 0, .int 0, .int 0])), (o5q1, .inl (ct.1, 9, .inl (o5f))), (o6q2, .inl (ct.1, 9, .inl (fun _ => 0))), (o6q3, .inl (ct.1, 80, .inl (fun _ => 0))), (o6q4, .inl (ct.1, 80, .inl (fun _ => 0))), (o6, .inr (0, [.ref o1, .ref o6q1, .ref o6q2, .ref o6q3, .ref o6q4, .int 0, .int 0, .int 0, .int 0, .int 0, .int 0, .int 0])), (o6q1, .inl (ct.1, 9, .inl (o6f))), (o7, .inr (4, [.ref o1, .ref o4, .ref o5, .ref o6, .ref o7q1, .ref o7q2, .ref o7q3, .ref o7q4, .ref o7q5, .int 0, .int 0, .int 0, .int 0, .int 0, .int 0])), (o7q1, .inl (ct.1, 8, .inl (fun _ => 0))), (o7q2, .inl (ct.1, 8, .inl (fun _ => 0))), (o7q3, .inl (ct.1, 8, .inl (fun _ => 0))), (o7q4, .inl (ct.1, 8, .inl (fun _ => 0))), (o7q5, .inl (ct.1, 8, .inl (fun _ => 0))), (o8q2, .inl (ct.1, 9, .inl (fun _ => 0))), (o8q3, .inl (ct.1, 80, .inl (fun _ => 0))), (o8q4, .inl (ct.1, 80, .inl (fun _ => 0))), (o8, .inr (0, [.ref o1, .ref o8q1, .ref o8q2, .ref o8q3, .ref o8q4, .int 0, .int 0, .int 0, .int 0, .int 0, .int 0, .int 0])), (o8q1, .inl (ct.1, 9, .inl (o8f))), (o9, .inr (1, [.ref o9q1, .ref o9q2, .ref o9q3, .ref o9q4, .ref o9q5, .int 0, .int 0])), (o9q1, .inl (ct.1, 12, .inl (fun _ => 0))), (o9q2, .inl (ct.1, 12, .inl (fun _ => 0))), (o9q3, .inl (ct.1, 8, .inl (fun _ => 0))), (o9q4, .inl (ct.1, 8, .inl (fun _ => 0))), (o9q5, .inl (ct.1, 8, .inl (fun _ => 0))), (qs, .inl (ct.2.2, 4, .inr (.inr (.inr (.inr sf))))), (o10, .inr (5, [.ref o10q1, .int (-1), .int 0])), (o10q1, .inl (ct.1, 40, .inl (fun _ => 0))), (o11, .inr (5, [.ref o11q1, .int (-1), .int 0])), (o11q1, .inl (ct.1, 40, .inl (fun _ => 0))), (o12, .inr (5, [.ref o12q1, .int (-1), .int 0])), (o12q1, .inl (ct.1, 40, .inl (fun _ => 0))), (o13, .inr (5, [.ref o13q1, .int (-1), .int 0])), (o13q1, .inl (ct.1, 40, .inl (fun _ => 0))), (qt, .inl (ct.1, 9, .inl (fun _ => 0)))] ++ [(m0, .inr (7, [.int 0, .ref m1, .int 0, .ref m2, .ref m3, .ref m4, .ref m5, .ref m6, .int 0, .int 0, .ref m7, .ref m8, .int 0, .ref m9, .ref m10, .int 0, .ref m11, .ref m12, .ref m13, .int 0, .int 0, .ref m14, .int 0, .ref m15, .int 0, .int 0, .int 0, .int 0, .int 0, .int 0, .int 0, .int 0, .int 0, .ref m16, .int 0, .int 0, .int 0, .ref m17, .ref m18, .int 0, .int 0, .ref m19, .ref m20, .ref m21, .int 0, .int 0, .int 0, .int 0, .int 0, .int 0, .int 0, .ref m22, .ref m23, .int 0, .int 0, .ref m24, .ref m25, .int 0, .ref m26, .ref m27, .ref m28, .ref m29, .ref m30, .ref m31, .ref m32, .ref m33, .ref m34, .ref m35, .ref m36, .ref m37, .int 0, .int 0, .int 0, .int 0, .int 0, .int 0, .int 0, .ref m38, .ref m39, .ref m40, .ref m41])), (m1, .inl (ct.1, 8, .inl (mf))), (m2, .inl (ct.1, 24, .inl (fun _ => 0))), (m3, .inl (ct.1, 24, .inl (fun _ => 0))), (m4, .inl (ct.2.1, 16000, .inl (fun _ => 0))), (m5, .inl (ct.1, 64, .inl (fun _ => 0))), (m6, .inl (ct.2.1, 24, .inl (fun _ => 0))), (m7, .inl (ct.1, 12, .inl (fun _ => 0))), (m8, .inl (ct.1, 12, .inl (fun _ => 0))), (m9, .inl (ct.1, 80, .inl (fun _ => 0))), (m10, .inl (ct.1, 80, .inl (fun _ => 0))), (m11, .inl (ct.1, 8, .inl (fun _ => 0))), (m12, .inl (ct.1, 8, .inl (fun _ => 0))), (m13, .inl (ct.1, 8, .inl (fun _ => 0))), (m14, .inl (ct.1, 90, .inl (fun _ => 0))), (m15, .inl (ct.1, 8, .inl (fun _ => 0))), (m16, .inl (ct.1, 3, .inl (fun _ => 0))), (m17, .inl (ct.1, 8, .inl (fun _ => 0))), (m18, .inl (ct.2.1, 24, .inl (fun _ => 0))), (m19, .inl (ct.1, 16, .inl (fun _ => 0))), (m20, .inl (ct.1, 16, .inl (fun _ => 0))), (m21, .inl (ct.1, 8, .inl (fun _ => 0))), (m22, .inl (ct.1, 8, .inl (fun _ => 0))), (m23, .inl (ct.1, 128, .inl (fun _ => 0))), (m24, .inl (ct.1, 8, .inl (fun _ => 0))), (m25, .inl (ct.2.1, 24, .inl (fun _ => 0))), (m26, .inl (ct.1, 16, .inl (fun _ => 0))), (m27, .inl (ct.1, 16, .inl (fun _ => 0))), (m28, .inl (ct.2.1, 16000, .inl (fun _ => 0))), (m29, .inl (ct.2.1, 16, .inl (fun _ => 0))), (m30, .inl (ct.1, 8, .inl (fun _ => 0))), (m31, .inl (ct.1, 12, .inl (fun _ => 0))), (m32, .inl (ct.1, 12, .inl (fun _ => 0))), (m33, .inl (ct.1, 80, .inl (fun _ => 0))), (m34, .inl (ct.1, 80, .inl (fun _ => 0))), (m35, .inl (ct.1, 8, .inl (fun _ => 0))), (m36, .inl (ct.1, 8, .inl (fun _ => 0))), (m37, .inl (ct.1, 8, .inl (fun _ => 0))), (m38, .inl (ct.2.1, 4, .inl (fun _ => 0))), (m39, .inl (ct.1, 4, .inl (fun _ => 0))), (m40, .inl (ct.1, 4, .inl (fun _ => 0))), (m41, .inl (ct.1, 160, .inl (fun _ => 0)))] : va_W))[i]?) = (gws (D, ct, adr [a0, o1, o1q1, o1q2, o1q3, o1q4, o1q5, o1q6, o1q7, o1q8, o2, o2q1, o2q2, o2q3, o2q4, o2q5, o2q6, o3, o3q1, o3q2, o3q3, o3q4, o4, o4q1, o4q2, o4q3, o4q4, o4q5, o5, o5q1, o5q2, o5q3, o5q4, o6, o6q1, o6q2, o6q3, o6q4, o7, o7q1, o7q2, o7q3, o7q4, o7q5, o8, o8q1, o8q2, o8q3, o8q4, o9, o9q1, o9q2, o9q3, o9q4, o9q5, qs, o10, o10q1, o11, o11q1, o12, o12q1, o13, o13q1, qt, m0, m1, m2, m3, m4, m5, m6, m7, m8, m9, m10, m11, m12, m13, m14, m15, m16, m17, m18, m19, m20, m21, m22, m23, m24, m25, m26, m27, m28, m29, m30, m31, m32, m33, m34, m35, m36, m37, m38, m39, m40, m41] adK adV fm) (hini o3f o5f o6f o8f mf)).map some := by
  have e : sf = fun j => (([some 56, some 58, some 60, some 62] : List (Option Nat)).getD j none).map (adr [a0, o1, o1q1, o1q2, o1q3, o1q4, o1q5, o1q6, o1q7, o1q8, o2, o2q1, o2q2, o2q3, o2q4, o2q5, o2q6, o3, o3q1, o3q2, o3q3, o3q4, o4, o4q1, o4q2, o4q3, o4q4, o4q5, o5, o5q1, o5q2, o5q3, o5q4, o6, o6q1, o6q2, o6q3, o6q4, o7, o7q1, o7q2, o7q3, o7q4, o7q5, o8, o8q1, o8q2, o8q3, o8q4, o9, o9q1, o9q2, o9q3, o9q4, o9q5, qs, o10, o10q1, o11, o11q1, o12, o12q1, o13, o13q1, qt, m0, m1, m2, m3, m4, m5, m6, m7, m8, m9, m10, m11, m12, m13, m14, m15, m16, m17, m18, m19, m20, m21, m22, m23, m24, m25, m26, m27, m28, m29, m30, m31, m32, m33, m34, m35, m36, m37, m38, m39, m40, m41] adK adV fm) := funext fun j => by
    match j with
    | 0 => exact hsf.1
    | 1 => exact hsf.2.1
    | 2 => exact hsf.2.2.1
    | 3 => exact hsf.2.2.2.1
    | j + 4 => exact hsf.2.2.2.2 (j + 4) (by omega)
  subst e
  rfl
set_option maxHeartbeats 8000000 in
set_option maxRecDepth 100000 in
theorem whole_start {p : Program} {e : Env} {s : State} {m : MethodId} {below : List Frame} {meth : Method} {c : Code} (l : Launch) (hflags : l.flags = flags0) {b L : Nat} {xs : Nat → Int32} (hL : L ≤ 3072) (C0 : lw_At p s m meth c b L xs) : W p l e room_1 s m #[Value.ref b] below meth c s.heap [] 0 0 (lw_Z below #[Value.ref b] s) (entryFrame m ([Value.ref b] : List Value).toArray 4) := by
  obtain ⟨hx, hb, hr, hml, hown, hts, hX, hbl, hlocks, hgv⟩ := id C0
  have hA : ∀ q : Nat, s.heap.size ≤ q → lA s q := fun _ h => h
  have hgW : ∀ t ∈ gW, t.before #[Value.ref b] s = true := fun t ht => hts t (List.mem_filter.mp ht).1
  have hgN : ∀ z ∈ gN, va_Nw z s := fun z hz => by
    have h1 := List.mem_filter.mp hz
    refine va_Nw.of ?_ (hts z h1.1)
    cases z <;> first | rfl | exact absurd h1.2 (by simp [gisN])
  obtain ⟨c0, i0, k0⟩ := u_known (C := RX0) (T := TX0) (N := 12) (n := 12) hgW gu_0 (hgW (.instantiable RX0 12) (gW_at 246 (by decide +kernel) rfl))
  obtain ⟨c1, i1, k1⟩ := u_known (C := RX1) (T := TX1) (N := 7) (n := 7) hgW gu_1 (hgW (.instantiable RX1 7) (gW_at 305 (by decide +kernel) rfl))
  obtain ⟨c2, i2, k2⟩ := u_known (C := RX2) (T := TX2) (N := 14) (n := 14) hgW gu_2 (hgW (.instantiable RX2 14) (gW_at 194 (by decide +kernel) rfl))
  obtain ⟨c3, i3, k3⟩ := u_known (C := RX3) (T := TX3) (N := 9) (n := 9) hgW gu_3 (hgW (.instantiable RX3 9) (gW_at 151 (by decide +kernel) rfl))
  obtain ⟨c4, i4, k4⟩ := u_known (C := RX4) (T := TX4) (N := 15) (n := 15) hgW gu_4 (hgW (.instantiable RX4 15) (gW_at 342 (by decide +kernel) rfl))
  obtain ⟨c5, i5, k5⟩ := u_known (C := RX5) (T := TX5) (N := 3) (n := 3) hgW gu_5 (hgW (.instantiable RX5 3) (gW_at 401 (by decide +kernel) rfl))
  obtain ⟨c6, i6, k6⟩ := u_known (C := RX6) (T := TX6) (N := 13) (n := 13) hgW gu_6 (hgW (.instantiable RX6 13) (gW_at 143 (by decide +kernel) rfl))
  obtain ⟨c7, i7, k7⟩ := u_known (C := RX7) (T := TX7) (N := 81) (n := 81) hgW gu_7 (hgW (.instantiable RX7 81) (gW_at 1061 (by decide +kernel) rfl))
  obtain ⟨dC, dI, hKc⟩ : ∃ (dC : Nat → ClassId) (dI : Nat → Nat → Nat), ∀ (k : Nat) (q : vw_C), gcl[k]? = some q → u_Kn s q.1 q.2.1 q.2.2 (dC k) (dI k) := by
    refine ⟨fun k => if k = 0 then c0 else if k = 1 then c1 else if k = 2 then c2 else if k = 3 then c3 else if k = 4 then c4 else if k = 5 then c5 else if k = 6 then c6 else c7, fun k => if k = 0 then i0 else if k = 1 then i1 else if k = 2 then i2 else if k = 3 then i3 else if k = 4 then i4 else if k = 5 then i5 else if k = 6 then i6 else i7, ?_⟩
    intro k q hq
    match k, hq with
    | 0, hq => cases hq; exact k0
    | 1, hq => cases hq; exact k1
    | 2, hq => cases hq; exact k2
    | 3, hq => cases hq; exact k3
    | 4, hq => cases hq; exact k4
    | 5, hq => cases hq; exact k5
    | 6, hq => cases hq; exact k6
    | 7, hq => cases hq; exact k7
    | k + 8, hq => simp [gcl] at hq
  obtain ⟨cI, kI, coI, a1, a2, a3⟩ := Cond.arrayClass_spec (hgW _ jAi)
  obtain ⟨cB, kB, coB, b1, b2, b3⟩ := Cond.arrayClass_spec (hgW _ jAz)
  have hAO : va_AO RX5 s := va_AO.of (tb_at hts 400 (by decide +kernel))
  obtain ⟨comp, cS, kS, s1, s2, s3, s4, s5⟩ := Cond.arrayOver_spec hAO
  have hK : va_K (dC, dI) gcl (ctn (cI, cB, cS)) s := ⟨hKc, fun k q hq => by
    match k, hq with
    | 0, hq => cases hq; exact ⟨fun N z => ⟨fun k h => (by cases h), kI, a2, coI, a3⟩, a1⟩
    | 1, hq => cases hq; exact ⟨fun N z => ⟨fun k h => (by cases h), kB, b2, coB, b3⟩, b1⟩
    | 2, hq => cases hq; exact ⟨fun N z => ⟨fun k h => (by cases h), kS, s3, comp, s4⟩, kS, comp, s3, s4, s1, s5⟩
    | k + 3, hq => simp [ctn] at hq⟩
  obtain ⟨adK, adV, fm, t1, t2, t3, t4, t5⟩ := texts0 hts hgv (A := lA s) (fun a ha => Nat.not_le.mpr ha)
  generalize hct : (cI, cB, cS) = ct at hK
  generalize hD0 : (dC, dI) = D at hK
  have hS : va_S (lA s) s.heap s.heap [] := va_S.rf
  have hP : va_P D gcl [] s.heap := fun k q h => by simp at h
  have hD : va_D (lA s) [] := ⟨fun i j p q h => by simp at h, fun k q h => by simp at h⟩
  have hl := lv_entry ([.ref b]) (n := 4) (Nat.le_of_ble_eq_true rfl)
  rw [lg_entry_eq]
  generalize (lg_sl ([.ref b]) ++ List.replicate (4 - (lg_sl ([.ref b])).length) Slot.unset).toArray = ls at hl ⊢
  have hl : lv_has ls 4 [(0, .ref b)] := hl
  have hfix : CallFix p m c code 4 s #[Value.ref b] gW R_law := ⟨hx, hb, hml, hown, hgW⟩
  have hpre : ∀ (ws : va_W) (H : Heap), va_P D gcl ws H → va_D (lA s) ws → ∀ U : State, U.heap = H → s.WarmedH U.vm → jPre D ct ws H.size U := fun ws H hP hD U hU hW => ⟨by rw [hU], by rw [hU]; exact hP, va_K.moved hW.alike hK, fun z hz => gN_warm hz hW (hgN z hz), hAO.moved hW.alike, hD.weaken (fun _ _ _ _ => trivial)⟩
  obtain ⟨nC, nT, nty, nc, nin, nty2, nw1, nw2, nw3, nfs⟩ := jN_R_law_7
  refine va_new hx hb hgW nin nty nty2 hown (hgW _ nw1) (hgW _ nw2) (hgW _ nw3) hK hP hD hS hA nc nfs (Nat.le_of_ble_eq_true rfl) (Nat.le_of_ble_eq_true rfl) (gxd kLP 0 rfl) (fun a0 H hP hD hS => ?_)
  clear nc nin nty2 nw1 nw2 nw3 nfs
  refine lv_dup hx hb (gxd kLP 1 rfl) rfl ?_
  have hP : va_P D gcl [(a0, .inr (6, fz6))] H := hP
  have hD : va_D (lA s) [(a0, .inr (6, fz6))] := hD
  have hFc := va_free (wc := [(a0, .inr (6, fz6))]) hD hS hA [0] rfl
  have hps : PreS s H (va_Pc [.ref a0] (jPre D ct [(a0, .inr (6, fz6))] H.size)) [.ref a0] := ⟨jPre_blind D ct _ H.size _, fun U hU hW => ⟨rfl, hpre _ H hP hD U hU hW⟩⟩
  have hl1 : Cond.methodLink R_law 9 yX6_init ∈ gW := gW_at 144 (by decide +kernel) rfl
  have hl2 : Cond.methodLink R_law 12 yX7_init ∈ gW := gW_at 1062 (by decide +kernel) rfl
  refine va_callv (va_runI (As := []) (rest := [.ref a0]) hfix (c_X6_init D ct (h0 := a0) l H.size) ⟨callB_of 0 hgW (gGood jW_X6_init) rfl rfl rfl (hgW _ jL_R_law_9.2.1) (hgW _ hl1) jL_R_law_9.2.2 ⟨(Nat.le_of_ble_eq_true rfl), (Nat.le_of_ble_eq_true rfl)⟩, rfl, hgW _ jL_R_law_9i⟩ hps rfl rfl hl.1 rfl (lv_room (Nat.le_of_ble_eq_true rfl)) (gxd kLP 2 rfl) ⟨(Nat.le_of_ble_eq_true rfl), (Nat.le_of_ble_eq_true rfl)⟩) hS (fun q _ h => hFc q h) hFc (fun u t H1 locs ht hvm hw hB hz1 hk1 hS => ?_)
  obtain ⟨w1, hB1, hP1, hD1⟩ := hB
  rw [ht] at hP1
  obtain ⟨hP, hD⟩ := va_join (wr := []) (w1 := w1) hP hD [0] [] rfl rfl (by decide) (by decide) hk1 hFc hP1 hD1
  clear hP1 hD1 hps hFc
  rw [List.nil_append] at hP hD
  generalize H1 = H at hP hS ⊢
  refine lv_astore_n (lv' := [(1, .ref a0), (0, .ref b)]) hx hb (gxd kLP 3 rfl) rfl hl (by decide) rfl (fun ls hl => ?_)
  obtain ⟨nC, nT, nty, nc, nin, nty2, nw1, nw2, nw3, nfs⟩ := jN_R_law_10
  refine va_new hx hb hgW nin nty nty2 hown (hgW _ nw1) (hgW _ nw2) (hgW _ nw3) hK hP hD hS hA nc nfs (Nat.le_of_ble_eq_true rfl) (Nat.le_of_ble_eq_true rfl) (gxd kLP 4 rfl) (fun m0 H hP hD hS => ?_)
  clear nc nin nty2 nw1 nw2 nw3 nfs
  refine lv_dup hx hb (gxd kLP 5 rfl) rfl ?_
  have hw65 : w1.length = 65 := by obtain ⟨o1, o1q1, o1q2, o1q3, o1q4, o1q5, o1q6, o1q7, o1q8, o2, o2q1, o2q2, o2q3, o2q4, o2q5, o2q6, o3, o3q1, o3q2, o3q3, o3q4, o4, o4q1, o4q2, o4q3, o4q4, o4q5, o5, o5q1, o5q2, o5q3, o5q4, o6, o6q1, o6q2, o6q3, o6q4, o7, o7q1, o7q2, o7q3, o7q4, o7q5, o8, o8q1, o8q2, o8q3, o8q4, o9, o9q1, o9q2, o9q3, o9q4, o9q5, qs, o10, o10q1, o11, o11q1, o12, o12q1, o13, o13q1, qt, o3f, o5f, o6f, o8f, sf, o3e, o3g, o5e, o5g, o6e, o6g, o8e, o8g, hsf, rfl⟩ := hB1; rfl
  have hiC : [65].map (fun i => (w1 ++ [(m0, (.inr (7, fz7) : va_E))])[i]?) = [(m0, (.inr (7, fz7) : va_E))].map some := by
    rw [List.map_cons, List.map_nil, List.getElem?_append_right (by omega), hw65]; rfl
  have hiR : (List.range 65).map (fun i => (w1 ++ [(m0, (.inr (7, fz7) : va_E))])[i]?) = w1.map some := by
    apply List.ext_getElem?
    intro i
    rw [List.getElem?_map, List.getElem?_map]
    by_cases hi : i < 65
    · rw [List.getElem?_range hi]
      show some ((w1 ++ _)[i]?) = _
      rw [List.getElem?_append_left (by omega), List.getElem?_eq_getElem (by omega)]; rfl
    · rw [List.getElem?_eq_none (by rw [List.length_range]; omega), List.getElem?_eq_none (by omega)]; rfl
  have hFc := va_free (wc := [(m0, .inr (7, fz7))]) hD hS hA [65] hiC
  have hPc := hP.sub (ws' := [(m0, .inr (7, fz7))]) [65] (fm_of hiC)
  have hDc := hD.sub (ws' := [(m0, .inr (7, fz7))]) [65] (by decide) hiC
  have hps : PreS s H (va_Pc [.ref m0] (jPre D ct [(m0, .inr (7, fz7))] H.size)) [.ref m0] := ⟨jPre_blind D ct _ H.size _, fun U hU hW => ⟨rfl, hpre _ H hPc hDc U hU hW⟩⟩
  refine va_callv (va_runI (As := []) (rest := [.ref m0]) hfix (c_X7_init D ct (h0 := m0) l H.size) ⟨callB_of 0 hgW (gGood jW_X7_init) rfl rfl rfl (hgW _ jL_R_law_12.2.1) (hgW _ hl2) jL_R_law_12.2.2 ⟨(Nat.le_of_ble_eq_true rfl), (Nat.le_of_ble_eq_true rfl)⟩, rfl, hgW _ jL_R_law_12i⟩ hps rfl rfl hl.1 rfl (lv_room (Nat.le_of_ble_eq_true rfl)) (gxd kLP 6 rfl) ⟨(Nat.le_of_ble_eq_true rfl), (Nat.le_of_ble_eq_true rfl)⟩) hS (fun q _ h => hFc q h) hFc (fun u t H1 locs ht hvm hw hB2 hz1 hk1 hS => ?_)
  obtain ⟨w2, hB2, hP1, hD1⟩ := hB2
  rw [ht] at hP1
  obtain ⟨hP, hD⟩ := va_join (wr := w1) (w1 := w2) hP hD [65] (List.range 65) hiC hiR (by decide +kernel) (by decide) hk1 hFc hP1 hD1
  clear hP1 hD1 hps hFc hPc hDc hiC hiR
  refine lv_astore_n (lv' := [(2, .ref m0), (1, .ref a0), (0, .ref b)]) hx hb (gxd kLP 7 rfl) rfl hl (by decide) rfl (fun ls hl => ?_)
  refine lv_iconst (v := 0) hx hb (gxd kLP 8 rfl) (by decide) ?_
  refine lv_istore_n (lv' := [(3, .int 0), (2, .ref m0), (1, .ref a0), (0, .ref b)]) hx hb (gxd kLP 9 rfl) rfl hl (by decide) rfl (fun ls hl => ?_)
  refine W.widen (k := 600000) (n := 7302250) (Nat.le_of_ble_eq_true rfl) (Nat.le_of_ble_eq_true rfl) ?_
  obtain ⟨o1, o1q1, o1q2, o1q3, o1q4, o1q5, o1q6, o1q7, o1q8, o2, o2q1, o2q2, o2q3, o2q4, o2q5, o2q6, o3, o3q1, o3q2, o3q3, o3q4, o4, o4q1, o4q2, o4q3, o4q4, o4q5, o5, o5q1, o5q2, o5q3, o5q4, o6, o6q1, o6q2, o6q3, o6q4, o7, o7q1, o7q2, o7q3, o7q4, o7q5, o8, o8q1, o8q2, o8q3, o8q4, o9, o9q1, o9q2, o9q3, o9q4, o9q5, qs, o10, o10q1, o11, o11q1, o12, o12q1, o13, o13q1, qt, o3f, o5f, o6f, o8f, sf, o3e, o3g, o5e, o5g, o6e, o6g, o8e, o8g, hsf, rfl⟩ := hB1
  obtain ⟨m1, m2, m3, m4, m5, m6, m7, m8, m9, m10, m11, m12, m13, m14, m15, m16, m17, m18, m19, m20, m21, m22, m23, m24, m25, m26, m27, m28, m29, m30, m31, m32, m33, m34, m35, m36, m37, m38, m39, m40, m41, mf, hmf, rfl⟩ := hB2
  have hpm := gws0 D ct (mf := mf) hsf adK adV fm (a0 := a0) (m0 := m0) (o3f := o3f) (o5f := o5f) (o6f := o6f) (o8f := o8f) (o1 := o1) (o1q1 := o1q1) (o1q2 := o1q2) (o1q3 := o1q3) (o1q4 := o1q4) (o1q5 := o1q5) (o1q6 := o1q6) (o1q7 := o1q7) (o1q8 := o1q8) (o2 := o2) (o2q1 := o2q1) (o2q2 := o2q2) (o2q3 := o2q3) (o2q4 := o2q4) (o2q5 := o2q5) (o2q6 := o2q6) (o3 := o3) (o3q1 := o3q1) (o3q2 := o3q2) (o3q3 := o3q3) (o3q4 := o3q4) (o4 := o4) (o4q1 := o4q1) (o4q2 := o4q2) (o4q3 := o4q3) (o4q4 := o4q4) (o4q5 := o4q5) (o5 := o5) (o5q1 := o5q1) (o5q2 := o5q2) (o5q3 := o5q3) (o5q4 := o5q4) (o6 := o6) (o6q1 := o6q1) (o6q2 := o6q2) (o6q3 := o6q3) (o6q4 := o6q4) (o7 := o7) (o7q1 := o7q1) (o7q2 := o7q2) (o7q3 := o7q3) (o7q4 := o7q4) (o7q5 := o7q5) (o8 := o8) (o8q1 := o8q1) (o8q2 := o8q2) (o8q3 := o8q3) (o8q4 := o8q4) (o9 := o9) (o9q1 := o9q1) (o9q2 := o9q2) (o9q3 := o9q3) (o9q4 := o9q4) (o9q5 := o9q5) (qs := qs) (o10 := o10) (o10q1 := o10q1) (o11 := o11) (o11q1 := o11q1) (o12 := o12) (o12q1 := o12q1) (o13 := o13) (o13q1 := o13q1) (qt := qt) (m1 := m1) (m2 := m2) (m3 := m3) (m4 := m4) (m5 := m5) (m6 := m6) (m7 := m7) (m8 := m8) (m9 := m9) (m10 := m10) (m11 := m11) (m12 := m12) (m13 := m13) (m14 := m14) (m15 := m15) (m16 := m16) (m17 := m17) (m18 := m18) (m19 := m19) (m20 := m20) (m21 := m21) (m22 := m22) (m23 := m23) (m24 := m24) (m25 := m25) (m26 := m26) (m27 := m27) (m28 := m28) (m29 := m29) (m30 := m30) (m31 := m31) (m32 := m32) (m33 := m33) (m34 := m34) (m35 := m35) (m36 := m36) (m37 := m37) (m38 := m38) (m39 := m39) (m40 := m40) (m41 := m41)
  obtain ⟨w, hw0⟩ : ∃ w : gw, w = (D, ct, adr [a0, o1, o1q1, o1q2, o1q3, o1q4, o1q5, o1q6, o1q7, o1q8, o2, o2q1, o2q2, o2q3, o2q4, o2q5, o2q6, o3, o3q1, o3q2, o3q3, o3q4, o4, o4q1, o4q2, o4q3, o4q4, o4q5, o5, o5q1, o5q2, o5q3, o5q4, o6, o6q1, o6q2, o6q3, o6q4, o7, o7q1, o7q2, o7q3, o7q4, o7q5, o8, o8q1, o8q2, o8q3, o8q4, o9, o9q1, o9q2, o9q3, o9q4, o9q5, qs, o10, o10q1, o11, o11q1, o12, o12q1, o13, o13q1, qt, m0, m1, m2, m3, m4, m5, m6, m7, m8, m9, m10, m11, m12, m13, m14, m15, m16, m17, m18, m19, m20, m21, m22, m23, m24, m25, m26, m27, m28, m29, m30, m31, m32, m33, m34, m35, m36, m37, m38, m39, m40, m41] adK adV fm) := ⟨_, rfl⟩
  rw [← hw0] at hpm
  have hPg := hP.sub prm (fm_of hpm)
  have hDg := hD.sub prm prm_nd hpm
  have hgD : gD w := fun i j hi hj e => hDg.1 i j _ _ (gws_at w _ ⟨hi, rfl⟩) (gws_at w _ ⟨hj, rfl⟩) e
  have hge : ∀ o, o < 107 → s.heap.size ≤ w.2.2 o := fun o ho => hDg.2 o _ (gws_at w _ ⟨ho, rfl⟩)
  have hnar : ∀ q, gA w q → lA s q := by
    rintro q ⟨o, ho, rfl⟩
    exact hge o ho
  have hKw : va_K w.1 gcl (gty w) s := by rw [hw0]; exact hK
  have hXt : gXt w s s.heap := by
    refine ⟨⟨fun i hi => ?_, fun i j hi hj e => t1.2 i j hi hj ?_⟩, ?_, ?_, t4.narrow hnar, ?_⟩
    · have e : i = 0 ∨ i = 1 := by omega
      have t1 := t1.narrow hnar
      rcases e with e | e <;> subst e
      · have := t1.1 0 hi
        rw [hw0] at this ⊢
        exact this
      · have := t1.1 1 hi
        rw [hw0] at this ⊢
        exact this
    · have e1 : i = 0 ∨ i = 1 := by omega
      have e2 : j = 0 ∨ j = 1 := by omega
      rw [hw0] at e
      rcases e1 with e1 | e1 <;> rcases e2 with e2 | e2 <;> subst e1 <;> subst e2 <;> exact e
    · rw [hw0]; exact t2
    · rw [hw0]; exact t3
    · rcases t5 with t5 | t5
      · exact Or.inl (t5.narrow hnar)
      · refine Or.inr ?_
        have t5 := t5.narrow hnar
        rw [hw0] at t5 ⊢
        exact t5
  have X : lX p s m meth c w b L xs := ⟨hx, hb, hr, hml, hown, hgW, hlocks, hKw, hgN, hgD, hXt, hX, hbl, hge, hL⟩
  have I := Inv0 (f1 := o3f) (f2 := o5f) (f3 := o6f) (f4 := o8f) (fm := mf) ⟨o3e, o3g⟩ o5g o6g o8g hmf
  have J := law_loop (l := l) (e := e) (below := below) X (L + 1) 0 _ (by omega) (Nat.zero_le _) I
  refine J _ _ _ (by rw [show w.1 = D by rw [hw0]]; exact hPg) hS ?_
  rw [hw0]
  exact hl
