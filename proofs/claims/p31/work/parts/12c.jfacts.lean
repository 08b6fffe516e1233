section
variable {own : String} {cc : ByteArray} {nL : Nat} {R : Room} {D : va_G} {ct : ClassId × ClassId × ClassId} {ini : Bool} {mc ms : Nat} {B : va_W → Prop} {pc : Nat} {la : List (Nat × Value)} {st : List Value} {ws : va_W} {k n : Nat}
theorem J_iast2 {a N kn : Nat} (q0 : Nat) {f : Nat → Int32} {i x : Int32} (hd : decode cc pc = .ok (.iastore, 1)) (he : ws[q0]? = some (a, .inl (ct.1, N, .inl f))) (hi : ¬ i < 0 ∧ kn < N) (hk : i.toNatClampNeg = kn) (kk : gJ own cc nL R D ct ini mc ms B (pc + 1) la st (ws.set q0 (a, .inl (ct.1, N, .inl (upd f kn x)))) k n) : gJ own cc nL R D ct ini mc ms B pc la (.int x :: .int i :: .ref a :: st) ws k n :=
  J_iast q0 hd he (fun z => by rcases z with z | z; exact hi.1 z; rw [hk] at z; omega) (by rw [hk]; exact kk)
theorem J_aast2 {a N v kn : Nat} (q0 qk : Nat) {f : Nat → Option Nat} {vs : List Value} {i : Int32} (hd : decode cc pc = .ok (.aastore, 1)) (he : ws[q0]? = some (a, .inl (ct.2.2, N, .inr (.inr (.inr (.inr f)))))) (hv : ws[qk]? = some (v, .inr (5, vs))) (hi : ¬ i < 0 ∧ kn < N) (hk : i.toNatClampNeg = kn) (kk : gJ own cc nL R D ct ini mc ms B (pc + 1) la st (ws.set q0 (a, .inl (ct.2.2, N, .inr (.inr (.inr (.inr (va_up f kn (some v)))))))) k n) : gJ own cc nL R D ct ini mc ms B pc la (.ref v :: .int i :: .ref a :: st) ws k n :=
  J_aast q0 qk hd he hv (fun z => by rcases z with z | z; exact hi.1 z; rw [hk] at z; omega) (by rw [hk]; exact kk)
end
/-! facts of the constructors -/
theorem jAi : Cond.arrayClass .int ∈ gW := gW_at 128 (by decide +kernel) rfl
theorem jAb : Cond.arrayClass .byte ∈ gW := gW_at 853 (by decide +kernel) rfl
abbrev fz0 : List Value := [.null, .null, .null, .null, .null, .int 0, .int 0, .int 0, .int 0, .int 0, .int 0, .int 0]
abbrev fz1 : List Value := [.null, .null, .null, .null, .null, .int 0, .int 0]
abbrev fz2 : List Value := [.null, .null, .null, .null, .null, .null, .int 0, .int 0, .int 0, .int 0, .int 0, .int 0, .int 0, .int 0]
abbrev fz3 : List Value := [.null, .null, .null, .null, .null, .null, .null, .null, .int 0]
abbrev fz4 : List Value := [.null, .null, .null, .null, .null, .null, .null, .null, .null, .int 0, .int 0, .int 0, .int 0, .int 0, .int 0]
abbrev fz5 : List Value := [.null, .int 0, .int 0]
abbrev fz6 : List Value := [.null, .null, .null, .null, .null, .null, .null, .null, .null, .null, .null, .int 0, .int 0]
abbrev fz7 : List Value := [.null, .int 0, .int 0, .int 0]
abbrev fz8 : List Value := [.null, .int 0, .int 0, .int 0]
theorem jF_RX0_9 : gF RX0 9 0 1 := ⟨RX0, TX0, 12, rfl, by decide, gu_0, Or.inl (gW_at 192 (by decide +kernel) rfl)⟩
theorem jK_RX0_9 : ∃ (C : String) (T : u_T) (N : Nat), gcl[0]? = some (C, T, N) ∧ Cond.fieldLink RX0 9 (T 1).1 (T 1).2.1 (T 1).2.2.1 ∈ gW := ⟨RX0, TX0, 12, rfl, gW_at 192 (by decide +kernel) rfl⟩
theorem jP_RX0_9 : gPF RX0 0 1 (.array .int) := ⟨RX0, TX0, 12, tyX0, rfl, tyX0_ok, nmX0, rfl, rfl, by decide +kernel⟩
theorem jF_RX0_32 : gF RX0 32 0 5 := ⟨RX0, TX0, 12, rfl, by decide, gu_0, Or.inl (gW_at 200 (by decide +kernel) rfl)⟩
theorem jK_RX0_32 : ∃ (C : String) (T : u_T) (N : Nat), gcl[0]? = some (C, T, N) ∧ Cond.fieldLink RX0 32 (T 5).1 (T 5).2.1 (T 5).2.2.1 ∈ gW := ⟨RX0, TX0, 12, rfl, gW_at 200 (by decide +kernel) rfl⟩
theorem jP_RX0_32 : gP 0 5 .int := ⟨RX0, TX0, 12, tyX0, rfl, tyX0_ok, nmX0, rfl, by decide +kernel⟩
theorem jF_RX0_36 : gF RX0 36 0 6 := ⟨RX0, TX0, 12, rfl, by decide, gu_0, Or.inl (gW_at 203 (by decide +kernel) rfl)⟩
theorem jK_RX0_36 : ∃ (C : String) (T : u_T) (N : Nat), gcl[0]? = some (C, T, N) ∧ Cond.fieldLink RX0 36 (T 6).1 (T 6).2.1 (T 6).2.2.1 ∈ gW := ⟨RX0, TX0, 12, rfl, gW_at 203 (by decide +kernel) rfl⟩
theorem jP_RX0_36 : gP 0 6 .int := ⟨RX0, TX0, 12, tyX0, rfl, tyX0_ok, nmX0, rfl, by decide +kernel⟩
theorem jF_RX0_39 : gF RX0 39 0 7 := ⟨RX0, TX0, 12, rfl, by decide, gu_0, Or.inl (gW_at 206 (by decide +kernel) rfl)⟩
theorem jK_RX0_39 : ∃ (C : String) (T : u_T) (N : Nat), gcl[0]? = some (C, T, N) ∧ Cond.fieldLink RX0 39 (T 7).1 (T 7).2.1 (T 7).2.2.1 ∈ gW := ⟨RX0, TX0, 12, rfl, gW_at 206 (by decide +kernel) rfl⟩
theorem jP_RX0_39 : gP 0 7 .int := ⟨RX0, TX0, 12, tyX0, rfl, tyX0_ok, nmX0, rfl, by decide +kernel⟩
theorem jF_RX0_42 : gF RX0 42 0 9 := ⟨RX0, TX0, 12, rfl, by decide, gu_0, Or.inl (gW_at 210 (by decide +kernel) rfl)⟩
theorem jK_RX0_42 : ∃ (C : String) (T : u_T) (N : Nat), gcl[0]? = some (C, T, N) ∧ Cond.fieldLink RX0 42 (T 9).1 (T 9).2.1 (T 9).2.2.1 ∈ gW := ⟨RX0, TX0, 12, rfl, gW_at 210 (by decide +kernel) rfl⟩
theorem jP_RX0_42 : gP 0 9 .boolean := ⟨RX0, TX0, 12, tyX0, rfl, tyX0_ok, nmX0, rfl, by decide +kernel⟩
theorem jO_RX1_3 : gOI RX1 3 := ⟨gW_at 245 (by decide +kernel) rfl, gW_at 87 (by decide +kernel) rfl, gW_at 88 (by decide +kernel) rfl⟩
theorem jF_RX1_9 : gF RX1 9 1 0 := ⟨RX1, TX1, 7, rfl, by decide, gu_1, Or.inl (gW_at 246 (by decide +kernel) rfl)⟩
theorem jK_RX1_9 : ∃ (C : String) (T : u_T) (N : Nat), gcl[1]? = some (C, T, N) ∧ Cond.fieldLink RX1 9 (T 0).1 (T 0).2.1 (T 0).2.2.1 ∈ gW := ⟨RX1, TX1, 7, rfl, gW_at 246 (by decide +kernel) rfl⟩
theorem jP_RX1_9 : gPF RX1 1 0 (.array .int) := ⟨RX1, TX1, 7, tyX1, rfl, tyX1_ok, nmX1, rfl, rfl, by decide +kernel⟩
theorem jF_RX1_15 : gF RX1 15 1 1 := ⟨RX1, TX1, 7, rfl, by decide, gu_1, Or.inl (gW_at 248 (by decide +kernel) rfl)⟩
theorem jK_RX1_15 : ∃ (C : String) (T : u_T) (N : Nat), gcl[1]? = some (C, T, N) ∧ Cond.fieldLink RX1 15 (T 1).1 (T 1).2.1 (T 1).2.2.1 ∈ gW := ⟨RX1, TX1, 7, rfl, gW_at 248 (by decide +kernel) rfl⟩
theorem jP_RX1_15 : gPF RX1 1 1 (.array .int) := ⟨RX1, TX1, 7, tyX1, rfl, tyX1_ok, nmX1, rfl, rfl, by decide +kernel⟩
theorem jF_RX1_18 : gF RX1 18 1 2 := ⟨RX1, TX1, 7, rfl, by decide, gu_1, Or.inl (gW_at 250 (by decide +kernel) rfl)⟩
theorem jK_RX1_18 : ∃ (C : String) (T : u_T) (N : Nat), gcl[1]? = some (C, T, N) ∧ Cond.fieldLink RX1 18 (T 2).1 (T 2).2.1 (T 2).2.2.1 ∈ gW := ⟨RX1, TX1, 7, rfl, gW_at 250 (by decide +kernel) rfl⟩
theorem jP_RX1_18 : gPF RX1 1 2 (.array .int) := ⟨RX1, TX1, 7, tyX1, rfl, tyX1_ok, nmX1, rfl, rfl, by decide +kernel⟩
theorem jF_RX1_21 : gF RX1 21 1 3 := ⟨RX1, TX1, 7, rfl, by decide, gu_1, Or.inl (gW_at 252 (by decide +kernel) rfl)⟩
theorem jK_RX1_21 : ∃ (C : String) (T : u_T) (N : Nat), gcl[1]? = some (C, T, N) ∧ Cond.fieldLink RX1 21 (T 3).1 (T 3).2.1 (T 3).2.2.1 ∈ gW := ⟨RX1, TX1, 7, rfl, gW_at 252 (by decide +kernel) rfl⟩
theorem jP_RX1_21 : gPF RX1 1 3 (.array .int) := ⟨RX1, TX1, 7, tyX1, rfl, tyX1_ok, nmX1, rfl, rfl, by decide +kernel⟩
theorem jF_RX1_24 : gF RX1 24 1 4 := ⟨RX1, TX1, 7, rfl, by decide, gu_1, Or.inl (gW_at 253 (by decide +kernel) rfl)⟩
theorem jK_RX1_24 : ∃ (C : String) (T : u_T) (N : Nat), gcl[1]? = some (C, T, N) ∧ Cond.fieldLink RX1 24 (T 4).1 (T 4).2.1 (T 4).2.2.1 ∈ gW := ⟨RX1, TX1, 7, rfl, gW_at 253 (by decide +kernel) rfl⟩
theorem jP_RX1_24 : gPF RX1 1 4 (.array .int) := ⟨RX1, TX1, 7, tyX1, rfl, tyX1_ok, nmX1, rfl, rfl, by decide +kernel⟩
theorem jO_RX2_5 : gOI RX2 5 := ⟨gW_at 134 (by decide +kernel) rfl, gW_at 87 (by decide +kernel) rfl, gW_at 88 (by decide +kernel) rfl⟩
theorem jF_RX2_11 : gF RX2 11 2 0 := ⟨RX2, TX2, 14, rfl, by decide, gu_2, Or.inl (gW_at 135 (by decide +kernel) rfl)⟩
theorem jK_RX2_11 : ∃ (C : String) (T : u_T) (N : Nat), gcl[2]? = some (C, T, N) ∧ Cond.fieldLink RX2 11 (T 0).1 (T 0).2.1 (T 0).2.2.1 ∈ gW := ⟨RX2, TX2, 14, rfl, gW_at 135 (by decide +kernel) rfl⟩
theorem jP_RX2_11 : gPF RX2 2 0 (.array .int) := ⟨RX2, TX2, 14, tyX2, rfl, tyX2_ok, nmX2, rfl, rfl, by decide +kernel⟩
theorem jF_RX2_15 : gF RX2 15 2 1 := ⟨RX2, TX2, 14, rfl, by decide, gu_2, Or.inl (gW_at 136 (by decide +kernel) rfl)⟩
theorem jK_RX2_15 : ∃ (C : String) (T : u_T) (N : Nat), gcl[2]? = some (C, T, N) ∧ Cond.fieldLink RX2 15 (T 1).1 (T 1).2.1 (T 1).2.2.1 ∈ gW := ⟨RX2, TX2, 14, rfl, gW_at 136 (by decide +kernel) rfl⟩
theorem jP_RX2_15 : gPF RX2 2 1 (.array .int) := ⟨RX2, TX2, 14, tyX2, rfl, tyX2_ok, nmX2, rfl, rfl, by decide +kernel⟩
theorem jF_RX2_18 : gF RX2 18 2 2 := ⟨RX2, TX2, 14, rfl, by decide, gu_2, Or.inl (gW_at 137 (by decide +kernel) rfl)⟩
theorem jK_RX2_18 : ∃ (C : String) (T : u_T) (N : Nat), gcl[2]? = some (C, T, N) ∧ Cond.fieldLink RX2 18 (T 2).1 (T 2).2.1 (T 2).2.2.1 ∈ gW := ⟨RX2, TX2, 14, rfl, gW_at 137 (by decide +kernel) rfl⟩
theorem jP_RX2_18 : gPF RX2 2 2 (.array .int) := ⟨RX2, TX2, 14, tyX2, rfl, tyX2_ok, nmX2, rfl, rfl, by decide +kernel⟩
theorem jF_RX2_21 : gF RX2 21 2 3 := ⟨RX2, TX2, 14, rfl, by decide, gu_2, Or.inl (gW_at 138 (by decide +kernel) rfl)⟩
theorem jK_RX2_21 : ∃ (C : String) (T : u_T) (N : Nat), gcl[2]? = some (C, T, N) ∧ Cond.fieldLink RX2 21 (T 3).1 (T 3).2.1 (T 3).2.2.1 ∈ gW := ⟨RX2, TX2, 14, rfl, gW_at 138 (by decide +kernel) rfl⟩
theorem jP_RX2_21 : gPF RX2 2 3 (.array .int) := ⟨RX2, TX2, 14, tyX2, rfl, tyX2_ok, nmX2, rfl, rfl, by decide +kernel⟩
theorem jF_RX2_24 : gF RX2 24 2 4 := ⟨RX2, TX2, 14, rfl, by decide, gu_2, Or.inl (gW_at 139 (by decide +kernel) rfl)⟩
theorem jK_RX2_24 : ∃ (C : String) (T : u_T) (N : Nat), gcl[2]? = some (C, T, N) ∧ Cond.fieldLink RX2 24 (T 4).1 (T 4).2.1 (T 4).2.2.1 ∈ gW := ⟨RX2, TX2, 14, rfl, gW_at 139 (by decide +kernel) rfl⟩
theorem jP_RX2_24 : gPF RX2 2 4 (.array .int) := ⟨RX2, TX2, 14, tyX2, rfl, tyX2_ok, nmX2, rfl, rfl, by decide +kernel⟩
theorem jF_RX2_27 : gF RX2 27 2 5 := ⟨RX2, TX2, 14, rfl, by decide, gu_2, Or.inl (gW_at 140 (by decide +kernel) rfl)⟩
theorem jK_RX2_27 : ∃ (C : String) (T : u_T) (N : Nat), gcl[2]? = some (C, T, N) ∧ Cond.fieldLink RX2 27 (T 5).1 (T 5).2.1 (T 5).2.2.1 ∈ gW := ⟨RX2, TX2, 14, rfl, gW_at 140 (by decide +kernel) rfl⟩
theorem jP_RX2_27 : gPF RX2 2 5 (.array .int) := ⟨RX2, TX2, 14, tyX2, rfl, tyX2_ok, nmX2, rfl, rfl, by decide +kernel⟩
theorem jO_RX3_3 : gOI RX3 3 := ⟨gW_at 94 (by decide +kernel) rfl, gW_at 87 (by decide +kernel) rfl, gW_at 88 (by decide +kernel) rfl⟩
theorem jF_RX3_9 : gF RX3 9 3 0 := ⟨RX3, TX3, 9, rfl, by decide, gu_3, Or.inl (gW_at 95 (by decide +kernel) rfl)⟩
theorem jK_RX3_9 : ∃ (C : String) (T : u_T) (N : Nat), gcl[3]? = some (C, T, N) ∧ Cond.fieldLink RX3 9 (T 0).1 (T 0).2.1 (T 0).2.2.1 ∈ gW := ⟨RX3, TX3, 9, rfl, gW_at 95 (by decide +kernel) rfl⟩
theorem jP_RX3_9 : gPF RX3 3 0 (.array .int) := ⟨RX3, TX3, 9, tyX3, rfl, tyX3_ok, nmX3, rfl, rfl, by decide +kernel⟩
theorem jF_RX3_15 : gF RX3 15 3 1 := ⟨RX3, TX3, 9, rfl, by decide, gu_3, Or.inl (gW_at 96 (by decide +kernel) rfl)⟩
theorem jK_RX3_15 : ∃ (C : String) (T : u_T) (N : Nat), gcl[3]? = some (C, T, N) ∧ Cond.fieldLink RX3 15 (T 1).1 (T 1).2.1 (T 1).2.2.1 ∈ gW := ⟨RX3, TX3, 9, rfl, gW_at 96 (by decide +kernel) rfl⟩
theorem jP_RX3_15 : gPF RX3 3 1 (.array .int) := ⟨RX3, TX3, 9, tyX3, rfl, tyX3_ok, nmX3, rfl, rfl, by decide +kernel⟩
theorem jF_RX3_18 : gF RX3 18 3 2 := ⟨RX3, TX3, 9, rfl, by decide, gu_3, Or.inl (gW_at 98 (by decide +kernel) rfl)⟩
theorem jK_RX3_18 : ∃ (C : String) (T : u_T) (N : Nat), gcl[3]? = some (C, T, N) ∧ Cond.fieldLink RX3 18 (T 2).1 (T 2).2.1 (T 2).2.2.1 ∈ gW := ⟨RX3, TX3, 9, rfl, gW_at 98 (by decide +kernel) rfl⟩
theorem jP_RX3_18 : gPF RX3 3 2 (.array .int) := ⟨RX3, TX3, 9, tyX3, rfl, tyX3_ok, nmX3, rfl, rfl, by decide +kernel⟩
theorem jF_RX3_21 : gF RX3 21 3 3 := ⟨RX3, TX3, 9, rfl, by decide, gu_3, Or.inl (gW_at 100 (by decide +kernel) rfl)⟩
theorem jK_RX3_21 : ∃ (C : String) (T : u_T) (N : Nat), gcl[3]? = some (C, T, N) ∧ Cond.fieldLink RX3 21 (T 3).1 (T 3).2.1 (T 3).2.2.1 ∈ gW := ⟨RX3, TX3, 9, rfl, gW_at 100 (by decide +kernel) rfl⟩
theorem jP_RX3_21 : gPF RX3 3 3 (.array .int) := ⟨RX3, TX3, 9, tyX3, rfl, tyX3_ok, nmX3, rfl, rfl, by decide +kernel⟩
theorem jF_RX3_24 : gF RX3 24 3 4 := ⟨RX3, TX3, 9, rfl, by decide, gu_3, Or.inl (gW_at 103 (by decide +kernel) rfl)⟩
theorem jK_RX3_24 : ∃ (C : String) (T : u_T) (N : Nat), gcl[3]? = some (C, T, N) ∧ Cond.fieldLink RX3 24 (T 4).1 (T 4).2.1 (T 4).2.2.1 ∈ gW := ⟨RX3, TX3, 9, rfl, gW_at 103 (by decide +kernel) rfl⟩
theorem jP_RX3_24 : gPF RX3 3 4 (.array .int) := ⟨RX3, TX3, 9, tyX3, rfl, tyX3_ok, nmX3, rfl, rfl, by decide +kernel⟩
theorem jF_RX3_27 : gF RX3 27 3 5 := ⟨RX3, TX3, 9, rfl, by decide, gu_3, Or.inl (gW_at 104 (by decide +kernel) rfl)⟩
theorem jK_RX3_27 : ∃ (C : String) (T : u_T) (N : Nat), gcl[3]? = some (C, T, N) ∧ Cond.fieldLink RX3 27 (T 5).1 (T 5).2.1 (T 5).2.2.1 ∈ gW := ⟨RX3, TX3, 9, rfl, gW_at 104 (by decide +kernel) rfl⟩
theorem jP_RX3_27 : gPF RX3 3 5 (.array .int) := ⟨RX3, TX3, 9, tyX3, rfl, tyX3_ok, nmX3, rfl, rfl, by decide +kernel⟩
theorem jF_RX3_30 : gF RX3 30 3 6 := ⟨RX3, TX3, 9, rfl, by decide, gu_3, Or.inl (gW_at 105 (by decide +kernel) rfl)⟩
theorem jK_RX3_30 : ∃ (C : String) (T : u_T) (N : Nat), gcl[3]? = some (C, T, N) ∧ Cond.fieldLink RX3 30 (T 6).1 (T 6).2.1 (T 6).2.2.1 ∈ gW := ⟨RX3, TX3, 9, rfl, gW_at 105 (by decide +kernel) rfl⟩
theorem jP_RX3_30 : gPF RX3 3 6 (.array .int) := ⟨RX3, TX3, 9, tyX3, rfl, tyX3_ok, nmX3, rfl, rfl, by decide +kernel⟩
theorem jF_RX3_33 : gF RX3 33 3 7 := ⟨RX3, TX3, 9, rfl, by decide, gu_3, Or.inl (gW_at 106 (by decide +kernel) rfl)⟩
theorem jK_RX3_33 : ∃ (C : String) (T : u_T) (N : Nat), gcl[3]? = some (C, T, N) ∧ Cond.fieldLink RX3 33 (T 7).1 (T 7).2.1 (T 7).2.2.1 ∈ gW := ⟨RX3, TX3, 9, rfl, gW_at 106 (by decide +kernel) rfl⟩
theorem jP_RX3_33 : gPF RX3 3 7 (.array .int) := ⟨RX3, TX3, 9, tyX3, rfl, tyX3_ok, nmX3, rfl, rfl, by decide +kernel⟩
theorem jO_RX4_3 : gOI RX4 3 := ⟨gW_at 280 (by decide +kernel) rfl, gW_at 87 (by decide +kernel) rfl, gW_at 88 (by decide +kernel) rfl⟩
theorem jF_RX4_9 : gF RX4 9 4 4 := ⟨RX4, TX4, 15, rfl, by decide, gu_4, Or.inl (gW_at 285 (by decide +kernel) rfl)⟩
theorem jK_RX4_9 : ∃ (C : String) (T : u_T) (N : Nat), gcl[4]? = some (C, T, N) ∧ Cond.fieldLink RX4 9 (T 4).1 (T 4).2.1 (T 4).2.2.1 ∈ gW := ⟨RX4, TX4, 15, rfl, gW_at 285 (by decide +kernel) rfl⟩
theorem jP_RX4_9 : gPF RX4 4 4 (.array .int) := ⟨RX4, TX4, 15, tyX4, rfl, tyX4_ok, nmX4, rfl, rfl, by decide +kernel⟩
theorem jF_RX4_15 : gF RX4 15 4 5 := ⟨RX4, TX4, 15, rfl, by decide, gu_4, Or.inl (gW_at 286 (by decide +kernel) rfl)⟩
theorem jK_RX4_15 : ∃ (C : String) (T : u_T) (N : Nat), gcl[4]? = some (C, T, N) ∧ Cond.fieldLink RX4 15 (T 5).1 (T 5).2.1 (T 5).2.2.1 ∈ gW := ⟨RX4, TX4, 15, rfl, gW_at 286 (by decide +kernel) rfl⟩
theorem jP_RX4_15 : gPF RX4 4 5 (.array .int) := ⟨RX4, TX4, 15, tyX4, rfl, tyX4_ok, nmX4, rfl, rfl, by decide +kernel⟩
theorem jF_RX4_18 : gF RX4 18 4 6 := ⟨RX4, TX4, 15, rfl, by decide, gu_4, Or.inl (gW_at 287 (by decide +kernel) rfl)⟩
theorem jK_RX4_18 : ∃ (C : String) (T : u_T) (N : Nat), gcl[4]? = some (C, T, N) ∧ Cond.fieldLink RX4 18 (T 6).1 (T 6).2.1 (T 6).2.2.1 ∈ gW := ⟨RX4, TX4, 15, rfl, gW_at 287 (by decide +kernel) rfl⟩
theorem jP_RX4_18 : gPF RX4 4 6 (.array .int) := ⟨RX4, TX4, 15, tyX4, rfl, tyX4_ok, nmX4, rfl, rfl, by decide +kernel⟩
theorem jF_RX4_21 : gF RX4 21 4 7 := ⟨RX4, TX4, 15, rfl, by decide, gu_4, Or.inl (gW_at 288 (by decide +kernel) rfl)⟩
theorem jK_RX4_21 : ∃ (C : String) (T : u_T) (N : Nat), gcl[4]? = some (C, T, N) ∧ Cond.fieldLink RX4 21 (T 7).1 (T 7).2.1 (T 7).2.2.1 ∈ gW := ⟨RX4, TX4, 15, rfl, gW_at 288 (by decide +kernel) rfl⟩
theorem jP_RX4_21 : gPF RX4 4 7 (.array .int) := ⟨RX4, TX4, 15, tyX4, rfl, tyX4_ok, nmX4, rfl, rfl, by decide +kernel⟩
theorem jF_RX4_24 : gF RX4 24 4 8 := ⟨RX4, TX4, 15, rfl, by decide, gu_4, Or.inl (gW_at 289 (by decide +kernel) rfl)⟩
theorem jK_RX4_24 : ∃ (C : String) (T : u_T) (N : Nat), gcl[4]? = some (C, T, N) ∧ Cond.fieldLink RX4 24 (T 8).1 (T 8).2.1 (T 8).2.2.1 ∈ gW := ⟨RX4, TX4, 15, rfl, gW_at 289 (by decide +kernel) rfl⟩
theorem jP_RX4_24 : gPF RX4 4 8 (.array .int) := ⟨RX4, TX4, 15, tyX4, rfl, tyX4_ok, nmX4, rfl, rfl, by decide +kernel⟩
theorem jF_RX4_27 : gF RX4 27 4 0 := ⟨RX4, TX4, 15, rfl, by decide, gu_4, Or.inl (gW_at 281 (by decide +kernel) rfl)⟩
theorem jK_RX4_27 : ∃ (C : String) (T : u_T) (N : Nat), gcl[4]? = some (C, T, N) ∧ Cond.fieldLink RX4 27 (T 0).1 (T 0).2.1 (T 0).2.2.1 ∈ gW := ⟨RX4, TX4, 15, rfl, gW_at 281 (by decide +kernel) rfl⟩
theorem jP_RX4_27 : gPF RX4 4 0 (.object "ValuesGo$Rules") := ⟨RX4, TX4, 15, tyX4, rfl, tyX4_ok, nmX4, rfl, rfl, by decide +kernel⟩
theorem jF_RX4_31 : gF RX4 31 4 1 := ⟨RX4, TX4, 15, rfl, by decide, gu_4, Or.inl (gW_at 282 (by decide +kernel) rfl)⟩
theorem jK_RX4_31 : ∃ (C : String) (T : u_T) (N : Nat), gcl[4]? = some (C, T, N) ∧ Cond.fieldLink RX4 31 (T 1).1 (T 1).2.1 (T 1).2.2.1 ∈ gW := ⟨RX4, TX4, 15, rfl, gW_at 282 (by decide +kernel) rfl⟩
theorem jP_RX4_31 : gPF RX4 4 1 (.object "ValuesGo$Past") := ⟨RX4, TX4, 15, tyX4, rfl, tyX4_ok, nmX4, rfl, rfl, by decide +kernel⟩
theorem jF_RX4_35 : gF RX4 35 4 2 := ⟨RX4, TX4, 15, rfl, by decide, gu_4, Or.inl (gW_at 283 (by decide +kernel) rfl)⟩
theorem jK_RX4_35 : ∃ (C : String) (T : u_T) (N : Nat), gcl[4]? = some (C, T, N) ∧ Cond.fieldLink RX4 35 (T 2).1 (T 2).2.1 (T 2).2.2.1 ∈ gW := ⟨RX4, TX4, 15, rfl, gW_at 283 (by decide +kernel) rfl⟩
theorem jP_RX4_35 : gPF RX4 4 2 (.object "ValuesGo$Hall") := ⟨RX4, TX4, 15, tyX4, rfl, tyX4_ok, nmX4, rfl, rfl, by decide +kernel⟩
theorem jF_RX4_39 : gF RX4 39 4 3 := ⟨RX4, TX4, 15, rfl, by decide, gu_4, Or.inl (gW_at 284 (by decide +kernel) rfl)⟩
theorem jK_RX4_39 : ∃ (C : String) (T : u_T) (N : Nat), gcl[4]? = some (C, T, N) ∧ Cond.fieldLink RX4 39 (T 3).1 (T 3).2.1 (T 3).2.2.1 ∈ gW := ⟨RX4, TX4, 15, rfl, gW_at 284 (by decide +kernel) rfl⟩
theorem jP_RX4_39 : gPF RX4 4 3 (.object "ValuesGo$Hall") := ⟨RX4, TX4, 15, tyX4, rfl, tyX4_ok, nmX4, rfl, rfl, by decide +kernel⟩
theorem jO_RX5_3 : gOI RX5 3 := ⟨gW_at 338 (by decide +kernel) rfl, gW_at 87 (by decide +kernel) rfl, gW_at 88 (by decide +kernel) rfl⟩
theorem jF_RX5_9 : gF RX5 9 5 0 := ⟨RX5, TX5, 3, rfl, by decide, gu_5, Or.inl (gW_at 339 (by decide +kernel) rfl)⟩
theorem jK_RX5_9 : ∃ (C : String) (T : u_T) (N : Nat), gcl[5]? = some (C, T, N) ∧ Cond.fieldLink RX5 9 (T 0).1 (T 0).2.1 (T 0).2.2.1 ∈ gW := ⟨RX5, TX5, 3, rfl, gW_at 339 (by decide +kernel) rfl⟩
theorem jP_RX5_9 : gPF RX5 5 0 (.array .int) := ⟨RX5, TX5, 3, tyX5, rfl, tyX5_ok, nmX5, rfl, rfl, by decide +kernel⟩
theorem jF_RX5_15 : gF RX5 15 5 1 := ⟨RX5, TX5, 3, rfl, by decide, gu_5, Or.inl (gW_at 340 (by decide +kernel) rfl)⟩
theorem jK_RX5_15 : ∃ (C : String) (T : u_T) (N : Nat), gcl[5]? = some (C, T, N) ∧ Cond.fieldLink RX5 15 (T 1).1 (T 1).2.1 (T 1).2.2.1 ∈ gW := ⟨RX5, TX5, 3, rfl, gW_at 340 (by decide +kernel) rfl⟩
theorem jP_RX5_15 : gP 5 1 .int := ⟨RX5, TX5, 3, tyX5, rfl, tyX5_ok, nmX5, rfl, by decide +kernel⟩
theorem jO_RX0_3 : gOI RX0 3 := ⟨gW_at 186 (by decide +kernel) rfl, gW_at 87 (by decide +kernel) rfl, gW_at 88 (by decide +kernel) rfl⟩
theorem jF_RX0_15 : gF RX0 15 0 2 := ⟨RX0, TX0, 12, rfl, by decide, gu_0, Or.inl (gW_at 195 (by decide +kernel) rfl)⟩
theorem jK_RX0_15 : ∃ (C : String) (T : u_T) (N : Nat), gcl[0]? = some (C, T, N) ∧ Cond.fieldLink RX0 15 (T 2).1 (T 2).2.1 (T 2).2.2.1 ∈ gW := ⟨RX0, TX0, 12, rfl, gW_at 195 (by decide +kernel) rfl⟩
theorem jP_RX0_15 : gPF RX0 0 2 (.array .int) := ⟨RX0, TX0, 12, tyX0, rfl, tyX0_ok, nmX0, rfl, rfl, by decide +kernel⟩
theorem jF_RX0_18 : gF RX0 18 0 3 := ⟨RX0, TX0, 12, rfl, by decide, gu_0, Or.inl (gW_at 196 (by decide +kernel) rfl)⟩
theorem jK_RX0_18 : ∃ (C : String) (T : u_T) (N : Nat), gcl[0]? = some (C, T, N) ∧ Cond.fieldLink RX0 18 (T 3).1 (T 3).2.1 (T 3).2.2.1 ∈ gW := ⟨RX0, TX0, 12, rfl, gW_at 196 (by decide +kernel) rfl⟩
theorem jP_RX0_18 : gPF RX0 0 3 (.array .int) := ⟨RX0, TX0, 12, tyX0, rfl, tyX0_ok, nmX0, rfl, rfl, by decide +kernel⟩
theorem jF_RX0_21 : gF RX0 21 0 4 := ⟨RX0, TX0, 12, rfl, by decide, gu_0, Or.inl (gW_at 198 (by decide +kernel) rfl)⟩
theorem jK_RX0_21 : ∃ (C : String) (T : u_T) (N : Nat), gcl[0]? = some (C, T, N) ∧ Cond.fieldLink RX0 21 (T 4).1 (T 4).2.1 (T 4).2.2.1 ∈ gW := ⟨RX0, TX0, 12, rfl, gW_at 198 (by decide +kernel) rfl⟩
theorem jP_RX0_21 : gPF RX0 0 4 (.array .int) := ⟨RX0, TX0, 12, tyX0, rfl, tyX0_ok, nmX0, rfl, rfl, by decide +kernel⟩
theorem jF_RX0_24 : gF RX0 24 0 0 := ⟨RX0, TX0, 12, rfl, by decide, gu_0, Or.inl (gW_at 191 (by decide +kernel) rfl)⟩
theorem jK_RX0_24 : ∃ (C : String) (T : u_T) (N : Nat), gcl[0]? = some (C, T, N) ∧ Cond.fieldLink RX0 24 (T 0).1 (T 0).2.1 (T 0).2.2.1 ∈ gW := ⟨RX0, TX0, 12, rfl, gW_at 191 (by decide +kernel) rfl⟩
theorem jP_RX0_24 : gPF RX0 0 0 (.object "ValuesGo$Rules") := ⟨RX0, TX0, 12, tyX0, rfl, tyX0_ok, nmX0, rfl, rfl, by decide +kernel⟩
theorem jV_clear : gLV RX0 28 yX0_clear 1 := ⟨⟨Or.inl (gW_at 187 (by decide +kernel) rfl), gW_at 65 (by decide +kernel) rfl, by decide +kernel⟩, gW_at 189 (by decide +kernel) rfl, gW_at 0 (by decide +kernel) rfl⟩
theorem jO_RX6_3 : gOI RX6 3 := ⟨gW_at 86 (by decide +kernel) rfl, gW_at 87 (by decide +kernel) rfl, gW_at 88 (by decide +kernel) rfl⟩
theorem jN_RX6_9 : gNw RX6 9 3 fz3 9 := ⟨RX3, TX3, tyX3, rfl, gu_3, tyX3_ok, gW_at 89 (by decide +kernel) rfl, gW_at 90 (by decide +kernel) rfl, gW_at 63 (by decide +kernel) rfl, by decide +kernel⟩
theorem jL_RX6_11 : gLk RX6 11 yX3_init 0 := ⟨Or.inr ⟨"ValuesGo", gN_at 91 (by decide +kernel) rfl⟩, gW_at 63 (by decide +kernel) rfl, by decide +kernel⟩
theorem jL_RX6_11i : Cond.instanceMethod yX3_init ∈ gW := gW_at 92 (by decide +kernel) rfl
theorem jW_X3_init : Cond.code yX3_init cX3_init 1 none ∈ gW := gW_at 93 (by decide +kernel) rfl
theorem jF_RX6_12 : gF RX6 12 6 0 := ⟨RX6, TX6, 13, rfl, by decide, gu_6, Or.inl (gW_at 348 (by decide +kernel) rfl)⟩
theorem jK_RX6_12 : ∃ (C : String) (T : u_T) (N : Nat), gcl[6]? = some (C, T, N) ∧ Cond.fieldLink RX6 12 (T 0).1 (T 0).2.1 (T 0).2.2.1 ∈ gW := ⟨RX6, TX6, 13, rfl, gW_at 348 (by decide +kernel) rfl⟩
theorem jP_RX6_12 : gPF RX6 6 0 (.object "ValuesGo$Rules") := ⟨RX6, TX6, 13, tyX6, rfl, tyX6_ok, nmX6, rfl, rfl, by decide +kernel⟩
theorem jN_RX6_16 : gNw RX6 16 2 fz2 14 := ⟨RX2, TX2, tyX2, rfl, gu_2, tyX2_ok, gW_at 129 (by decide +kernel) rfl, gW_at 130 (by decide +kernel) rfl, gW_at 64 (by decide +kernel) rfl, by decide +kernel⟩
theorem jL_RX6_18 : gLk RX6 18 yX2_init 0 := ⟨Or.inr ⟨"ValuesGo", gN_at 131 (by decide +kernel) rfl⟩, gW_at 64 (by decide +kernel) rfl, by decide +kernel⟩
theorem jL_RX6_18i : Cond.instanceMethod yX2_init ∈ gW := gW_at 132 (by decide +kernel) rfl
theorem jW_X2_init : Cond.code yX2_init cX2_init 1 none ∈ gW := gW_at 133 (by decide +kernel) rfl
theorem jF_RX6_19 : gF RX6 19 6 1 := ⟨RX6, TX6, 13, rfl, by decide, gu_6, Or.inl (gW_at 349 (by decide +kernel) rfl)⟩
theorem jK_RX6_19 : ∃ (C : String) (T : u_T) (N : Nat), gcl[6]? = some (C, T, N) ∧ Cond.fieldLink RX6 19 (T 1).1 (T 1).2.1 (T 1).2.2.1 ∈ gW := ⟨RX6, TX6, 13, rfl, gW_at 349 (by decide +kernel) rfl⟩
theorem jP_RX6_19 : gPF RX6 6 1 (.object "ValuesGo$Reader") := ⟨RX6, TX6, 13, tyX6, rfl, tyX6_ok, nmX6, rfl, rfl, by decide +kernel⟩
theorem jN_RX6_23 : gNw RX6 23 0 fz0 12 := ⟨RX0, TX0, tyX0, rfl, gu_0, tyX0_ok, gW_at 181 (by decide +kernel) rfl, gW_at 182 (by decide +kernel) rfl, gW_at 65 (by decide +kernel) rfl, by decide +kernel⟩
theorem jL_RX6_25 : gLk RX6 25 yX0_init 1 := ⟨Or.inr ⟨"ValuesGo", gN_at 183 (by decide +kernel) rfl⟩, gW_at 65 (by decide +kernel) rfl, by decide +kernel⟩
theorem jL_RX6_25i : Cond.instanceMethod yX0_init ∈ gW := gW_at 184 (by decide +kernel) rfl
theorem jW_X0_init : Cond.code yX0_init cX0_init 2 none ∈ gW := gW_at 185 (by decide +kernel) rfl
theorem jF_RX6_28 : gF RX6 28 6 2 := ⟨RX6, TX6, 13, rfl, by decide, gu_6, Or.inl (gW_at 350 (by decide +kernel) rfl)⟩
theorem jK_RX6_28 : ∃ (C : String) (T : u_T) (N : Nat), gcl[6]? = some (C, T, N) ∧ Cond.fieldLink RX6 28 (T 2).1 (T 2).2.1 (T 2).2.2.1 ∈ gW := ⟨RX6, TX6, 13, rfl, gW_at 350 (by decide +kernel) rfl⟩
theorem jP_RX6_28 : gPF RX6 6 2 (.object "ValuesGo$Hall") := ⟨RX6, TX6, 13, tyX6, rfl, tyX6_ok, nmX6, rfl, rfl, by decide +kernel⟩
theorem jN_RX6_32 : gNw RX6 32 1 fz1 7 := ⟨RX1, TX1, tyX1, rfl, gu_1, tyX1_ok, gW_at 240 (by decide +kernel) rfl, gW_at 241 (by decide +kernel) rfl, gW_at 66 (by decide +kernel) rfl, by decide +kernel⟩
theorem jL_RX6_34 : gLk RX6 34 yX1_init 0 := ⟨Or.inr ⟨"ValuesGo", gN_at 242 (by decide +kernel) rfl⟩, gW_at 66 (by decide +kernel) rfl, by decide +kernel⟩
theorem jL_RX6_34i : Cond.instanceMethod yX1_init ∈ gW := gW_at 243 (by decide +kernel) rfl
theorem jW_X1_init : Cond.code yX1_init cX1_init 1 none ∈ gW := gW_at 244 (by decide +kernel) rfl
theorem jF_RX6_35 : gF RX6 35 6 3 := ⟨RX6, TX6, 13, rfl, by decide, gu_6, Or.inl (gW_at 351 (by decide +kernel) rfl)⟩
theorem jK_RX6_35 : ∃ (C : String) (T : u_T) (N : Nat), gcl[6]? = some (C, T, N) ∧ Cond.fieldLink RX6 35 (T 3).1 (T 3).2.1 (T 3).2.2.1 ∈ gW := ⟨RX6, TX6, 13, rfl, gW_at 351 (by decide +kernel) rfl⟩
theorem jP_RX6_35 : gPF RX6 6 3 (.object "ValuesGo$Past") := ⟨RX6, TX6, 13, tyX6, rfl, tyX6_ok, nmX6, rfl, rfl, by decide +kernel⟩
theorem jF_RX6_39 : gF RX6 39 6 4 := ⟨RX6, TX6, 13, rfl, by decide, gu_6, Or.inl (gW_at 352 (by decide +kernel) rfl)⟩
theorem jK_RX6_39 : ∃ (C : String) (T : u_T) (N : Nat), gcl[6]? = some (C, T, N) ∧ Cond.fieldLink RX6 39 (T 4).1 (T 4).2.1 (T 4).2.2.1 ∈ gW := ⟨RX6, TX6, 13, rfl, gW_at 352 (by decide +kernel) rfl⟩
theorem jP_RX6_39 : gPF RX6 6 4 (.object "ValuesGo$Hall") := ⟨RX6, TX6, 13, tyX6, rfl, tyX6_ok, nmX6, rfl, rfl, by decide +kernel⟩
theorem jF_RX6_42 : gF RX6 42 6 5 := ⟨RX6, TX6, 13, rfl, by decide, gu_6, Or.inl (gW_at 353 (by decide +kernel) rfl)⟩
theorem jK_RX6_42 : ∃ (C : String) (T : u_T) (N : Nat), gcl[6]? = some (C, T, N) ∧ Cond.fieldLink RX6 42 (T 5).1 (T 5).2.1 (T 5).2.2.1 ∈ gW := ⟨RX6, TX6, 13, rfl, gW_at 353 (by decide +kernel) rfl⟩
theorem jP_RX6_42 : gPF RX6 6 5 (.object "ValuesGo$Hall") := ⟨RX6, TX6, 13, tyX6, rfl, tyX6_ok, nmX6, rfl, rfl, by decide +kernel⟩
theorem jN_RX6_45 : gNw RX6 45 4 fz4 15 := ⟨RX4, TX4, tyX4, rfl, gu_4, tyX4_ok, gW_at 275 (by decide +kernel) rfl, gW_at 276 (by decide +kernel) rfl, gW_at 67 (by decide +kernel) rfl, by decide +kernel⟩
theorem jL_RX6_47 : gLk RX6 47 yX4_init 4 := ⟨Or.inr ⟨"ValuesGo", gN_at 277 (by decide +kernel) rfl⟩, gW_at 67 (by decide +kernel) rfl, by decide +kernel⟩
theorem jL_RX6_47i : Cond.instanceMethod yX4_init ∈ gW := gW_at 278 (by decide +kernel) rfl
theorem jW_X4_init : Cond.code yX4_init cX4_init 5 none ∈ gW := gW_at 279 (by decide +kernel) rfl
theorem jF_RX6_50 : gF RX6 50 6 6 := ⟨RX6, TX6, 13, rfl, by decide, gu_6, Or.inl (gW_at 354 (by decide +kernel) rfl)⟩
theorem jK_RX6_50 : ∃ (C : String) (T : u_T) (N : Nat), gcl[6]? = some (C, T, N) ∧ Cond.fieldLink RX6 50 (T 6).1 (T 6).2.1 (T 6).2.2.1 ∈ gW := ⟨RX6, TX6, 13, rfl, gW_at 354 (by decide +kernel) rfl⟩
theorem jP_RX6_50 : gPF RX6 6 6 (.object "ValuesGo$Search") := ⟨RX6, TX6, 13, tyX6, rfl, tyX6_ok, nmX6, rfl, rfl, by decide +kernel⟩
theorem jF_RX6_54 : gF RX6 54 6 7 := ⟨RX6, TX6, 13, rfl, by decide, gu_6, Or.inl (gW_at 355 (by decide +kernel) rfl)⟩
theorem jK_RX6_54 : ∃ (C : String) (T : u_T) (N : Nat), gcl[6]? = some (C, T, N) ∧ Cond.fieldLink RX6 54 (T 7).1 (T 7).2.1 (T 7).2.2.1 ∈ gW := ⟨RX6, TX6, 13, rfl, gW_at 355 (by decide +kernel) rfl⟩
theorem jP_RX6_54 : gPF RX6 6 7 (.object "ValuesGo$Hall") := ⟨RX6, TX6, 13, tyX6, rfl, tyX6_ok, nmX6, rfl, rfl, by decide +kernel⟩
theorem jF_RX6_57 : gF RX6 57 6 8 := ⟨RX6, TX6, 13, rfl, by decide, gu_6, Or.inl (gW_at 356 (by decide +kernel) rfl)⟩
theorem jK_RX6_57 : ∃ (C : String) (T : u_T) (N : Nat), gcl[6]? = some (C, T, N) ∧ Cond.fieldLink RX6 57 (T 8).1 (T 8).2.1 (T 8).2.2.1 ∈ gW := ⟨RX6, TX6, 13, rfl, gW_at 356 (by decide +kernel) rfl⟩
theorem jP_RX6_57 : gPF RX6 6 8 (.object "ValuesGo$Past") := ⟨RX6, TX6, 13, tyX6, rfl, tyX6_ok, nmX6, rfl, rfl, by decide +kernel⟩
theorem jCS : Cond.classLink RX6 60 RX5 ∈ gW := gW_at 332 (by decide +kernel) rfl
theorem jF_RX6_62 : gF RX6 62 6 9 := ⟨RX6, TX6, 13, rfl, by decide, gu_6, Or.inl (gW_at 357 (by decide +kernel) rfl)⟩
theorem jK_RX6_62 : ∃ (C : String) (T : u_T) (N : Nat), gcl[6]? = some (C, T, N) ∧ Cond.fieldLink RX6 62 (T 9).1 (T 9).2.1 (T 9).2.2.1 ∈ gW := ⟨RX6, TX6, 13, rfl, gW_at 357 (by decide +kernel) rfl⟩
theorem jP_RX6_62 : gPF RX6 6 9 (.array (.object "ValuesGo$Sheet")) := ⟨RX6, TX6, 13, tyX6, rfl, tyX6_ok, nmX6, rfl, rfl, by decide +kernel⟩
theorem jN_RX6_60 : gNw RX6 60 5 fz5 3 := ⟨RX5, TX5, tyX5, rfl, gu_5, tyX5_ok, gW_at 332 (by decide +kernel) rfl, gW_at 334 (by decide +kernel) rfl, gW_at 68 (by decide +kernel) rfl, by decide +kernel⟩
theorem jL_RX6_66 : gLk RX6 66 yX5_init 0 := ⟨Or.inr ⟨"ValuesGo", gN_at 335 (by decide +kernel) rfl⟩, gW_at 68 (by decide +kernel) rfl, by decide +kernel⟩
theorem jL_RX6_66i : Cond.instanceMethod yX5_init ∈ gW := gW_at 336 (by decide +kernel) rfl
theorem jW_X5_init : Cond.code yX5_init cX5_init 1 none ∈ gW := gW_at 337 (by decide +kernel) rfl
theorem jF_RX6_67 : gF RX6 67 6 10 := ⟨RX6, TX6, 13, rfl, by decide, gu_6, Or.inl (gW_at 358 (by decide +kernel) rfl)⟩
theorem jK_RX6_67 : ∃ (C : String) (T : u_T) (N : Nat), gcl[6]? = some (C, T, N) ∧ Cond.fieldLink RX6 67 (T 10).1 (T 10).2.1 (T 10).2.2.1 ∈ gW := ⟨RX6, TX6, 13, rfl, gW_at 358 (by decide +kernel) rfl⟩
theorem jP_RX6_67 : gPF RX6 6 10 (.array .int) := ⟨RX6, TX6, 13, tyX6, rfl, tyX6_ok, nmX6, rfl, rfl, by decide +kernel⟩
theorem jF_RX6_71 : gF RX6 71 6 11 := ⟨RX6, TX6, 13, rfl, by decide, gu_6, Or.inl (gW_at 359 (by decide +kernel) rfl)⟩
theorem jK_RX6_71 : ∃ (C : String) (T : u_T) (N : Nat), gcl[6]? = some (C, T, N) ∧ Cond.fieldLink RX6 71 (T 11).1 (T 11).2.1 (T 11).2.2.1 ∈ gW := ⟨RX6, TX6, 13, rfl, gW_at 359 (by decide +kernel) rfl⟩
theorem jP_RX6_71 : gP 6 11 .int := ⟨RX6, TX6, 13, tyX6, rfl, tyX6_ok, nmX6, rfl, by decide +kernel⟩
theorem jF_RX6_75 : gF RX6 75 6 12 := ⟨RX6, TX6, 13, rfl, by decide, gu_6, Or.inl (gW_at 360 (by decide +kernel) rfl)⟩
theorem jK_RX6_75 : ∃ (C : String) (T : u_T) (N : Nat), gcl[6]? = some (C, T, N) ∧ Cond.fieldLink RX6 75 (T 12).1 (T 12).2.1 (T 12).2.2.1 ∈ gW := ⟨RX6, TX6, 13, rfl, gW_at 360 (by decide +kernel) rfl⟩
theorem jP_RX6_75 : gP 6 12 .boolean := ⟨RX6, TX6, 13, tyX6, rfl, tyX6_ok, nmX6, rfl, by decide +kernel⟩
