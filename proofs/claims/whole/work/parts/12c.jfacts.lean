section
variable {own : String} {cc : ByteArray} {nL : Nat} {R : Room} {D : va_G} {ct : ClassId × ClassId × ClassId} {ini : Bool} {mc ms : Nat} {B : va_W → Prop} {pc : Nat} {la : List (Nat × Value)} {st : List Value} {ws : va_W} {k n : Nat}
theorem J_iast2 {a N kn : Nat} (q0 : Nat) {f : Nat → Int32} {i x : Int32} (hd : decode cc pc = .ok (.iastore, 1)) (he : ws[q0]? = some (a, .inl (ct.1, N, .inl f))) (hi : ¬ i < 0 ∧ kn < N) (hk : i.toNatClampNeg = kn) (kk : gJ own cc nL R D ct ini mc ms B (pc + 1) la st (ws.set q0 (a, .inl (ct.1, N, .inl (upd f kn x)))) k n) : gJ own cc nL R D ct ini mc ms B pc la (.int x :: .int i :: .ref a :: st) ws k n :=
  J_iast q0 hd he (fun z => by rcases z with z | z; exact hi.1 z; rw [hk] at z; omega) (by rw [hk]; exact kk)
theorem J_aast2 {a N v kn : Nat} (q0 qk : Nat) {f : Nat → Option Nat} {vs : List Value} {i : Int32} (hd : decode cc pc = .ok (.aastore, 1)) (he : ws[q0]? = some (a, .inl (ct.2.2, N, .inr (.inr (.inr (.inr f)))))) (hv : ws[qk]? = some (v, .inr (5, vs))) (hi : ¬ i < 0 ∧ kn < N) (hk : i.toNatClampNeg = kn) (kk : gJ own cc nL R D ct ini mc ms B (pc + 1) la st (ws.set q0 (a, .inl (ct.2.2, N, .inr (.inr (.inr (.inr (va_up f kn (some v)))))))) k n) : gJ own cc nL R D ct ini mc ms B pc la (.ref v :: .int i :: .ref a :: st) ws k n :=
  J_aast q0 qk hd he hv (fun z => by rcases z with z | z; exact hi.1 z; rw [hk] at z; omega) (by rw [hk]; exact kk)
end
/-! facts of the constructors -/
theorem jAi : Cond.arrayClass .int ∈ gW := gW_at 192 (by decide +kernel) rfl
theorem jAz : Cond.arrayClass .boolean ∈ gW := gW_at 1309 (by decide +kernel) rfl
abbrev fz0 : List Value := [.null, .null, .null, .null, .null, .int 0, .int 0, .int 0, .int 0, .int 0, .int 0, .int 0]
abbrev fz1 : List Value := [.null, .null, .null, .null, .null, .int 0, .int 0]
abbrev fz2 : List Value := [.null, .null, .null, .null, .null, .null, .int 0, .int 0, .int 0, .int 0, .int 0, .int 0, .int 0, .int 0]
abbrev fz3 : List Value := [.null, .null, .null, .null, .null, .null, .null, .null, .int 0]
abbrev fz4 : List Value := [.null, .null, .null, .null, .null, .null, .null, .null, .null, .int 0, .int 0, .int 0, .int 0, .int 0, .int 0]
abbrev fz5 : List Value := [.null, .int 0, .int 0]
abbrev fz6 : List Value := [.null, .null, .null, .null, .null, .null, .null, .null, .null, .null, .null, .int 0, .int 0]
abbrev fz7 : List Value := [.int 0, .null, .int 0, .null, .null, .null, .null, .null, .int 0, .int 0, .null, .null, .int 0, .null, .null, .int 0, .null, .null, .null, .int 0, .int 0, .null, .int 0, .null, .int 0, .int 0, .int 0, .int 0, .int 0, .int 0, .int 0, .int 0, .int 0, .null, .int 0, .int 0, .int 0, .null, .null, .int 0, .int 0, .null, .null, .null, .int 0, .int 0, .int 0, .int 0, .int 0, .int 0, .int 0, .null, .null, .int 0, .int 0, .null, .null, .int 0, .null, .null, .null, .null, .null, .null, .null, .null, .null, .null, .null, .null, .int 0, .int 0, .int 0, .int 0, .int 0, .int 0, .int 0, .null, .null, .null, .null]
theorem jF_RX0_9 : gF RX0 9 0 1 := ⟨RX0, TX0, 12, rfl, by decide, gu_0, Or.inl (gW_at 256 (by decide +kernel) rfl)⟩
theorem jK_RX0_9 : ∃ (C : String) (T : u_T) (N : Nat), gcl[0]? = some (C, T, N) ∧ Cond.fieldLink RX0 9 (T 1).1 (T 1).2.1 (T 1).2.2.1 ∈ gW := ⟨RX0, TX0, 12, rfl, gW_at 256 (by decide +kernel) rfl⟩
theorem jP_RX0_9 : gPF RX0 0 1 (.array .int) := ⟨RX0, TX0, 12, tyX0, rfl, tyX0_ok, nmX0, rfl, rfl, by decide +kernel⟩
theorem jF_RX0_32 : gF RX0 32 0 5 := ⟨RX0, TX0, 12, rfl, by decide, gu_0, Or.inl (gW_at 264 (by decide +kernel) rfl)⟩
theorem jK_RX0_32 : ∃ (C : String) (T : u_T) (N : Nat), gcl[0]? = some (C, T, N) ∧ Cond.fieldLink RX0 32 (T 5).1 (T 5).2.1 (T 5).2.2.1 ∈ gW := ⟨RX0, TX0, 12, rfl, gW_at 264 (by decide +kernel) rfl⟩
theorem jP_RX0_32 : gP 0 5 .int := ⟨RX0, TX0, 12, tyX0, rfl, tyX0_ok, nmX0, rfl, by decide +kernel⟩
theorem jF_RX0_36 : gF RX0 36 0 6 := ⟨RX0, TX0, 12, rfl, by decide, gu_0, Or.inl (gW_at 267 (by decide +kernel) rfl)⟩
theorem jK_RX0_36 : ∃ (C : String) (T : u_T) (N : Nat), gcl[0]? = some (C, T, N) ∧ Cond.fieldLink RX0 36 (T 6).1 (T 6).2.1 (T 6).2.2.1 ∈ gW := ⟨RX0, TX0, 12, rfl, gW_at 267 (by decide +kernel) rfl⟩
theorem jP_RX0_36 : gP 0 6 .int := ⟨RX0, TX0, 12, tyX0, rfl, tyX0_ok, nmX0, rfl, by decide +kernel⟩
theorem jF_RX0_39 : gF RX0 39 0 7 := ⟨RX0, TX0, 12, rfl, by decide, gu_0, Or.inl (gW_at 270 (by decide +kernel) rfl)⟩
theorem jK_RX0_39 : ∃ (C : String) (T : u_T) (N : Nat), gcl[0]? = some (C, T, N) ∧ Cond.fieldLink RX0 39 (T 7).1 (T 7).2.1 (T 7).2.2.1 ∈ gW := ⟨RX0, TX0, 12, rfl, gW_at 270 (by decide +kernel) rfl⟩
theorem jP_RX0_39 : gP 0 7 .int := ⟨RX0, TX0, 12, tyX0, rfl, tyX0_ok, nmX0, rfl, by decide +kernel⟩
theorem jF_RX0_42 : gF RX0 42 0 9 := ⟨RX0, TX0, 12, rfl, by decide, gu_0, Or.inl (gW_at 274 (by decide +kernel) rfl)⟩
theorem jK_RX0_42 : ∃ (C : String) (T : u_T) (N : Nat), gcl[0]? = some (C, T, N) ∧ Cond.fieldLink RX0 42 (T 9).1 (T 9).2.1 (T 9).2.2.1 ∈ gW := ⟨RX0, TX0, 12, rfl, gW_at 274 (by decide +kernel) rfl⟩
theorem jP_RX0_42 : gP 0 9 .boolean := ⟨RX0, TX0, 12, tyX0, rfl, tyX0_ok, nmX0, rfl, by decide +kernel⟩
theorem jO_RX1_3 : gOI RX1 3 := ⟨gW_at 309 (by decide +kernel) rfl, gW_at 148 (by decide +kernel) rfl, gW_at 149 (by decide +kernel) rfl⟩
theorem jF_RX1_9 : gF RX1 9 1 0 := ⟨RX1, TX1, 7, rfl, by decide, gu_1, Or.inl (gW_at 310 (by decide +kernel) rfl)⟩
theorem jK_RX1_9 : ∃ (C : String) (T : u_T) (N : Nat), gcl[1]? = some (C, T, N) ∧ Cond.fieldLink RX1 9 (T 0).1 (T 0).2.1 (T 0).2.2.1 ∈ gW := ⟨RX1, TX1, 7, rfl, gW_at 310 (by decide +kernel) rfl⟩
theorem jP_RX1_9 : gPF RX1 1 0 (.array .int) := ⟨RX1, TX1, 7, tyX1, rfl, tyX1_ok, nmX1, rfl, rfl, by decide +kernel⟩
theorem jF_RX1_15 : gF RX1 15 1 1 := ⟨RX1, TX1, 7, rfl, by decide, gu_1, Or.inl (gW_at 313 (by decide +kernel) rfl)⟩
theorem jK_RX1_15 : ∃ (C : String) (T : u_T) (N : Nat), gcl[1]? = some (C, T, N) ∧ Cond.fieldLink RX1 15 (T 1).1 (T 1).2.1 (T 1).2.2.1 ∈ gW := ⟨RX1, TX1, 7, rfl, gW_at 313 (by decide +kernel) rfl⟩
theorem jP_RX1_15 : gPF RX1 1 1 (.array .int) := ⟨RX1, TX1, 7, tyX1, rfl, tyX1_ok, nmX1, rfl, rfl, by decide +kernel⟩
theorem jF_RX1_18 : gF RX1 18 1 2 := ⟨RX1, TX1, 7, rfl, by decide, gu_1, Or.inl (gW_at 316 (by decide +kernel) rfl)⟩
theorem jK_RX1_18 : ∃ (C : String) (T : u_T) (N : Nat), gcl[1]? = some (C, T, N) ∧ Cond.fieldLink RX1 18 (T 2).1 (T 2).2.1 (T 2).2.2.1 ∈ gW := ⟨RX1, TX1, 7, rfl, gW_at 316 (by decide +kernel) rfl⟩
theorem jP_RX1_18 : gPF RX1 1 2 (.array .int) := ⟨RX1, TX1, 7, tyX1, rfl, tyX1_ok, nmX1, rfl, rfl, by decide +kernel⟩
theorem jF_RX1_21 : gF RX1 21 1 3 := ⟨RX1, TX1, 7, rfl, by decide, gu_1, Or.inl (gW_at 318 (by decide +kernel) rfl)⟩
theorem jK_RX1_21 : ∃ (C : String) (T : u_T) (N : Nat), gcl[1]? = some (C, T, N) ∧ Cond.fieldLink RX1 21 (T 3).1 (T 3).2.1 (T 3).2.2.1 ∈ gW := ⟨RX1, TX1, 7, rfl, gW_at 318 (by decide +kernel) rfl⟩
theorem jP_RX1_21 : gPF RX1 1 3 (.array .int) := ⟨RX1, TX1, 7, tyX1, rfl, tyX1_ok, nmX1, rfl, rfl, by decide +kernel⟩
theorem jF_RX1_24 : gF RX1 24 1 4 := ⟨RX1, TX1, 7, rfl, by decide, gu_1, Or.inl (gW_at 319 (by decide +kernel) rfl)⟩
theorem jK_RX1_24 : ∃ (C : String) (T : u_T) (N : Nat), gcl[1]? = some (C, T, N) ∧ Cond.fieldLink RX1 24 (T 4).1 (T 4).2.1 (T 4).2.2.1 ∈ gW := ⟨RX1, TX1, 7, rfl, gW_at 319 (by decide +kernel) rfl⟩
theorem jP_RX1_24 : gPF RX1 1 4 (.array .int) := ⟨RX1, TX1, 7, tyX1, rfl, tyX1_ok, nmX1, rfl, rfl, by decide +kernel⟩
theorem jO_RX2_5 : gOI RX2 5 := ⟨gW_at 198 (by decide +kernel) rfl, gW_at 148 (by decide +kernel) rfl, gW_at 149 (by decide +kernel) rfl⟩
theorem jF_RX2_11 : gF RX2 11 2 0 := ⟨RX2, TX2, 14, rfl, by decide, gu_2, Or.inl (gW_at 199 (by decide +kernel) rfl)⟩
theorem jK_RX2_11 : ∃ (C : String) (T : u_T) (N : Nat), gcl[2]? = some (C, T, N) ∧ Cond.fieldLink RX2 11 (T 0).1 (T 0).2.1 (T 0).2.2.1 ∈ gW := ⟨RX2, TX2, 14, rfl, gW_at 199 (by decide +kernel) rfl⟩
theorem jP_RX2_11 : gPF RX2 2 0 (.array .int) := ⟨RX2, TX2, 14, tyX2, rfl, tyX2_ok, nmX2, rfl, rfl, by decide +kernel⟩
theorem jF_RX2_15 : gF RX2 15 2 1 := ⟨RX2, TX2, 14, rfl, by decide, gu_2, Or.inl (gW_at 200 (by decide +kernel) rfl)⟩
theorem jK_RX2_15 : ∃ (C : String) (T : u_T) (N : Nat), gcl[2]? = some (C, T, N) ∧ Cond.fieldLink RX2 15 (T 1).1 (T 1).2.1 (T 1).2.2.1 ∈ gW := ⟨RX2, TX2, 14, rfl, gW_at 200 (by decide +kernel) rfl⟩
theorem jP_RX2_15 : gPF RX2 2 1 (.array .int) := ⟨RX2, TX2, 14, tyX2, rfl, tyX2_ok, nmX2, rfl, rfl, by decide +kernel⟩
theorem jF_RX2_18 : gF RX2 18 2 2 := ⟨RX2, TX2, 14, rfl, by decide, gu_2, Or.inl (gW_at 201 (by decide +kernel) rfl)⟩
theorem jK_RX2_18 : ∃ (C : String) (T : u_T) (N : Nat), gcl[2]? = some (C, T, N) ∧ Cond.fieldLink RX2 18 (T 2).1 (T 2).2.1 (T 2).2.2.1 ∈ gW := ⟨RX2, TX2, 14, rfl, gW_at 201 (by decide +kernel) rfl⟩
theorem jP_RX2_18 : gPF RX2 2 2 (.array .int) := ⟨RX2, TX2, 14, tyX2, rfl, tyX2_ok, nmX2, rfl, rfl, by decide +kernel⟩
theorem jF_RX2_21 : gF RX2 21 2 3 := ⟨RX2, TX2, 14, rfl, by decide, gu_2, Or.inl (gW_at 202 (by decide +kernel) rfl)⟩
theorem jK_RX2_21 : ∃ (C : String) (T : u_T) (N : Nat), gcl[2]? = some (C, T, N) ∧ Cond.fieldLink RX2 21 (T 3).1 (T 3).2.1 (T 3).2.2.1 ∈ gW := ⟨RX2, TX2, 14, rfl, gW_at 202 (by decide +kernel) rfl⟩
theorem jP_RX2_21 : gPF RX2 2 3 (.array .int) := ⟨RX2, TX2, 14, tyX2, rfl, tyX2_ok, nmX2, rfl, rfl, by decide +kernel⟩
theorem jF_RX2_24 : gF RX2 24 2 4 := ⟨RX2, TX2, 14, rfl, by decide, gu_2, Or.inl (gW_at 203 (by decide +kernel) rfl)⟩
theorem jK_RX2_24 : ∃ (C : String) (T : u_T) (N : Nat), gcl[2]? = some (C, T, N) ∧ Cond.fieldLink RX2 24 (T 4).1 (T 4).2.1 (T 4).2.2.1 ∈ gW := ⟨RX2, TX2, 14, rfl, gW_at 203 (by decide +kernel) rfl⟩
theorem jP_RX2_24 : gPF RX2 2 4 (.array .int) := ⟨RX2, TX2, 14, tyX2, rfl, tyX2_ok, nmX2, rfl, rfl, by decide +kernel⟩
theorem jF_RX2_27 : gF RX2 27 2 5 := ⟨RX2, TX2, 14, rfl, by decide, gu_2, Or.inl (gW_at 204 (by decide +kernel) rfl)⟩
theorem jK_RX2_27 : ∃ (C : String) (T : u_T) (N : Nat), gcl[2]? = some (C, T, N) ∧ Cond.fieldLink RX2 27 (T 5).1 (T 5).2.1 (T 5).2.2.1 ∈ gW := ⟨RX2, TX2, 14, rfl, gW_at 204 (by decide +kernel) rfl⟩
theorem jP_RX2_27 : gPF RX2 2 5 (.array .int) := ⟨RX2, TX2, 14, tyX2, rfl, tyX2_ok, nmX2, rfl, rfl, by decide +kernel⟩
theorem jO_RX3_3 : gOI RX3 3 := ⟨gW_at 155 (by decide +kernel) rfl, gW_at 148 (by decide +kernel) rfl, gW_at 149 (by decide +kernel) rfl⟩
theorem jF_RX3_9 : gF RX3 9 3 0 := ⟨RX3, TX3, 9, rfl, by decide, gu_3, Or.inl (gW_at 156 (by decide +kernel) rfl)⟩
theorem jK_RX3_9 : ∃ (C : String) (T : u_T) (N : Nat), gcl[3]? = some (C, T, N) ∧ Cond.fieldLink RX3 9 (T 0).1 (T 0).2.1 (T 0).2.2.1 ∈ gW := ⟨RX3, TX3, 9, rfl, gW_at 156 (by decide +kernel) rfl⟩
theorem jP_RX3_9 : gPF RX3 3 0 (.array .int) := ⟨RX3, TX3, 9, tyX3, rfl, tyX3_ok, nmX3, rfl, rfl, by decide +kernel⟩
theorem jF_RX3_15 : gF RX3 15 3 1 := ⟨RX3, TX3, 9, rfl, by decide, gu_3, Or.inl (gW_at 158 (by decide +kernel) rfl)⟩
theorem jK_RX3_15 : ∃ (C : String) (T : u_T) (N : Nat), gcl[3]? = some (C, T, N) ∧ Cond.fieldLink RX3 15 (T 1).1 (T 1).2.1 (T 1).2.2.1 ∈ gW := ⟨RX3, TX3, 9, rfl, gW_at 158 (by decide +kernel) rfl⟩
theorem jP_RX3_15 : gPF RX3 3 1 (.array .int) := ⟨RX3, TX3, 9, tyX3, rfl, tyX3_ok, nmX3, rfl, rfl, by decide +kernel⟩
theorem jF_RX3_18 : gF RX3 18 3 2 := ⟨RX3, TX3, 9, rfl, by decide, gu_3, Or.inl (gW_at 161 (by decide +kernel) rfl)⟩
theorem jK_RX3_18 : ∃ (C : String) (T : u_T) (N : Nat), gcl[3]? = some (C, T, N) ∧ Cond.fieldLink RX3 18 (T 2).1 (T 2).2.1 (T 2).2.2.1 ∈ gW := ⟨RX3, TX3, 9, rfl, gW_at 161 (by decide +kernel) rfl⟩
theorem jP_RX3_18 : gPF RX3 3 2 (.array .int) := ⟨RX3, TX3, 9, tyX3, rfl, tyX3_ok, nmX3, rfl, rfl, by decide +kernel⟩
theorem jF_RX3_21 : gF RX3 21 3 3 := ⟨RX3, TX3, 9, rfl, by decide, gu_3, Or.inl (gW_at 164 (by decide +kernel) rfl)⟩
theorem jK_RX3_21 : ∃ (C : String) (T : u_T) (N : Nat), gcl[3]? = some (C, T, N) ∧ Cond.fieldLink RX3 21 (T 3).1 (T 3).2.1 (T 3).2.2.1 ∈ gW := ⟨RX3, TX3, 9, rfl, gW_at 164 (by decide +kernel) rfl⟩
theorem jP_RX3_21 : gPF RX3 3 3 (.array .int) := ⟨RX3, TX3, 9, tyX3, rfl, tyX3_ok, nmX3, rfl, rfl, by decide +kernel⟩
theorem jF_RX3_24 : gF RX3 24 3 4 := ⟨RX3, TX3, 9, rfl, by decide, gu_3, Or.inl (gW_at 167 (by decide +kernel) rfl)⟩
theorem jK_RX3_24 : ∃ (C : String) (T : u_T) (N : Nat), gcl[3]? = some (C, T, N) ∧ Cond.fieldLink RX3 24 (T 4).1 (T 4).2.1 (T 4).2.2.1 ∈ gW := ⟨RX3, TX3, 9, rfl, gW_at 167 (by decide +kernel) rfl⟩
theorem jP_RX3_24 : gPF RX3 3 4 (.array .int) := ⟨RX3, TX3, 9, tyX3, rfl, tyX3_ok, nmX3, rfl, rfl, by decide +kernel⟩
theorem jF_RX3_27 : gF RX3 27 3 5 := ⟨RX3, TX3, 9, rfl, by decide, gu_3, Or.inl (gW_at 168 (by decide +kernel) rfl)⟩
theorem jK_RX3_27 : ∃ (C : String) (T : u_T) (N : Nat), gcl[3]? = some (C, T, N) ∧ Cond.fieldLink RX3 27 (T 5).1 (T 5).2.1 (T 5).2.2.1 ∈ gW := ⟨RX3, TX3, 9, rfl, gW_at 168 (by decide +kernel) rfl⟩
theorem jP_RX3_27 : gPF RX3 3 5 (.array .int) := ⟨RX3, TX3, 9, tyX3, rfl, tyX3_ok, nmX3, rfl, rfl, by decide +kernel⟩
theorem jF_RX3_30 : gF RX3 30 3 6 := ⟨RX3, TX3, 9, rfl, by decide, gu_3, Or.inl (gW_at 169 (by decide +kernel) rfl)⟩
theorem jK_RX3_30 : ∃ (C : String) (T : u_T) (N : Nat), gcl[3]? = some (C, T, N) ∧ Cond.fieldLink RX3 30 (T 6).1 (T 6).2.1 (T 6).2.2.1 ∈ gW := ⟨RX3, TX3, 9, rfl, gW_at 169 (by decide +kernel) rfl⟩
theorem jP_RX3_30 : gPF RX3 3 6 (.array .int) := ⟨RX3, TX3, 9, tyX3, rfl, tyX3_ok, nmX3, rfl, rfl, by decide +kernel⟩
theorem jF_RX3_33 : gF RX3 33 3 7 := ⟨RX3, TX3, 9, rfl, by decide, gu_3, Or.inl (gW_at 170 (by decide +kernel) rfl)⟩
theorem jK_RX3_33 : ∃ (C : String) (T : u_T) (N : Nat), gcl[3]? = some (C, T, N) ∧ Cond.fieldLink RX3 33 (T 7).1 (T 7).2.1 (T 7).2.2.1 ∈ gW := ⟨RX3, TX3, 9, rfl, gW_at 170 (by decide +kernel) rfl⟩
theorem jP_RX3_33 : gPF RX3 3 7 (.array .int) := ⟨RX3, TX3, 9, tyX3, rfl, tyX3_ok, nmX3, rfl, rfl, by decide +kernel⟩
theorem jO_RX4_3 : gOI RX4 3 := ⟨gW_at 346 (by decide +kernel) rfl, gW_at 148 (by decide +kernel) rfl, gW_at 149 (by decide +kernel) rfl⟩
theorem jF_RX4_9 : gF RX4 9 4 4 := ⟨RX4, TX4, 15, rfl, by decide, gu_4, Or.inl (gW_at 351 (by decide +kernel) rfl)⟩
theorem jK_RX4_9 : ∃ (C : String) (T : u_T) (N : Nat), gcl[4]? = some (C, T, N) ∧ Cond.fieldLink RX4 9 (T 4).1 (T 4).2.1 (T 4).2.2.1 ∈ gW := ⟨RX4, TX4, 15, rfl, gW_at 351 (by decide +kernel) rfl⟩
theorem jP_RX4_9 : gPF RX4 4 4 (.array .int) := ⟨RX4, TX4, 15, tyX4, rfl, tyX4_ok, nmX4, rfl, rfl, by decide +kernel⟩
theorem jF_RX4_15 : gF RX4 15 4 5 := ⟨RX4, TX4, 15, rfl, by decide, gu_4, Or.inl (gW_at 352 (by decide +kernel) rfl)⟩
theorem jK_RX4_15 : ∃ (C : String) (T : u_T) (N : Nat), gcl[4]? = some (C, T, N) ∧ Cond.fieldLink RX4 15 (T 5).1 (T 5).2.1 (T 5).2.2.1 ∈ gW := ⟨RX4, TX4, 15, rfl, gW_at 352 (by decide +kernel) rfl⟩
theorem jP_RX4_15 : gPF RX4 4 5 (.array .int) := ⟨RX4, TX4, 15, tyX4, rfl, tyX4_ok, nmX4, rfl, rfl, by decide +kernel⟩
theorem jF_RX4_18 : gF RX4 18 4 6 := ⟨RX4, TX4, 15, rfl, by decide, gu_4, Or.inl (gW_at 353 (by decide +kernel) rfl)⟩
theorem jK_RX4_18 : ∃ (C : String) (T : u_T) (N : Nat), gcl[4]? = some (C, T, N) ∧ Cond.fieldLink RX4 18 (T 6).1 (T 6).2.1 (T 6).2.2.1 ∈ gW := ⟨RX4, TX4, 15, rfl, gW_at 353 (by decide +kernel) rfl⟩
theorem jP_RX4_18 : gPF RX4 4 6 (.array .int) := ⟨RX4, TX4, 15, tyX4, rfl, tyX4_ok, nmX4, rfl, rfl, by decide +kernel⟩
theorem jF_RX4_21 : gF RX4 21 4 7 := ⟨RX4, TX4, 15, rfl, by decide, gu_4, Or.inl (gW_at 354 (by decide +kernel) rfl)⟩
theorem jK_RX4_21 : ∃ (C : String) (T : u_T) (N : Nat), gcl[4]? = some (C, T, N) ∧ Cond.fieldLink RX4 21 (T 7).1 (T 7).2.1 (T 7).2.2.1 ∈ gW := ⟨RX4, TX4, 15, rfl, gW_at 354 (by decide +kernel) rfl⟩
theorem jP_RX4_21 : gPF RX4 4 7 (.array .int) := ⟨RX4, TX4, 15, tyX4, rfl, tyX4_ok, nmX4, rfl, rfl, by decide +kernel⟩
theorem jF_RX4_24 : gF RX4 24 4 8 := ⟨RX4, TX4, 15, rfl, by decide, gu_4, Or.inl (gW_at 355 (by decide +kernel) rfl)⟩
theorem jK_RX4_24 : ∃ (C : String) (T : u_T) (N : Nat), gcl[4]? = some (C, T, N) ∧ Cond.fieldLink RX4 24 (T 8).1 (T 8).2.1 (T 8).2.2.1 ∈ gW := ⟨RX4, TX4, 15, rfl, gW_at 355 (by decide +kernel) rfl⟩
theorem jP_RX4_24 : gPF RX4 4 8 (.array .int) := ⟨RX4, TX4, 15, tyX4, rfl, tyX4_ok, nmX4, rfl, rfl, by decide +kernel⟩
theorem jF_RX4_27 : gF RX4 27 4 0 := ⟨RX4, TX4, 15, rfl, by decide, gu_4, Or.inl (gW_at 347 (by decide +kernel) rfl)⟩
theorem jK_RX4_27 : ∃ (C : String) (T : u_T) (N : Nat), gcl[4]? = some (C, T, N) ∧ Cond.fieldLink RX4 27 (T 0).1 (T 0).2.1 (T 0).2.2.1 ∈ gW := ⟨RX4, TX4, 15, rfl, gW_at 347 (by decide +kernel) rfl⟩
theorem jP_RX4_27 : gPF RX4 4 0 (.object "ValuesGo$Rules") := ⟨RX4, TX4, 15, tyX4, rfl, tyX4_ok, nmX4, rfl, rfl, by decide +kernel⟩
theorem jF_RX4_31 : gF RX4 31 4 1 := ⟨RX4, TX4, 15, rfl, by decide, gu_4, Or.inl (gW_at 348 (by decide +kernel) rfl)⟩
theorem jK_RX4_31 : ∃ (C : String) (T : u_T) (N : Nat), gcl[4]? = some (C, T, N) ∧ Cond.fieldLink RX4 31 (T 1).1 (T 1).2.1 (T 1).2.2.1 ∈ gW := ⟨RX4, TX4, 15, rfl, gW_at 348 (by decide +kernel) rfl⟩
theorem jP_RX4_31 : gPF RX4 4 1 (.object "ValuesGo$Past") := ⟨RX4, TX4, 15, tyX4, rfl, tyX4_ok, nmX4, rfl, rfl, by decide +kernel⟩
theorem jF_RX4_35 : gF RX4 35 4 2 := ⟨RX4, TX4, 15, rfl, by decide, gu_4, Or.inl (gW_at 349 (by decide +kernel) rfl)⟩
theorem jK_RX4_35 : ∃ (C : String) (T : u_T) (N : Nat), gcl[4]? = some (C, T, N) ∧ Cond.fieldLink RX4 35 (T 2).1 (T 2).2.1 (T 2).2.2.1 ∈ gW := ⟨RX4, TX4, 15, rfl, gW_at 349 (by decide +kernel) rfl⟩
theorem jP_RX4_35 : gPF RX4 4 2 (.object "ValuesGo$Hall") := ⟨RX4, TX4, 15, tyX4, rfl, tyX4_ok, nmX4, rfl, rfl, by decide +kernel⟩
theorem jF_RX4_39 : gF RX4 39 4 3 := ⟨RX4, TX4, 15, rfl, by decide, gu_4, Or.inl (gW_at 350 (by decide +kernel) rfl)⟩
theorem jK_RX4_39 : ∃ (C : String) (T : u_T) (N : Nat), gcl[4]? = some (C, T, N) ∧ Cond.fieldLink RX4 39 (T 3).1 (T 3).2.1 (T 3).2.2.1 ∈ gW := ⟨RX4, TX4, 15, rfl, gW_at 350 (by decide +kernel) rfl⟩
theorem jP_RX4_39 : gPF RX4 4 3 (.object "ValuesGo$Hall") := ⟨RX4, TX4, 15, tyX4, rfl, tyX4_ok, nmX4, rfl, rfl, by decide +kernel⟩
theorem jO_RX5_3 : gOI RX5 3 := ⟨gW_at 405 (by decide +kernel) rfl, gW_at 148 (by decide +kernel) rfl, gW_at 149 (by decide +kernel) rfl⟩
theorem jF_RX5_9 : gF RX5 9 5 0 := ⟨RX5, TX5, 3, rfl, by decide, gu_5, Or.inl (gW_at 406 (by decide +kernel) rfl)⟩
theorem jK_RX5_9 : ∃ (C : String) (T : u_T) (N : Nat), gcl[5]? = some (C, T, N) ∧ Cond.fieldLink RX5 9 (T 0).1 (T 0).2.1 (T 0).2.2.1 ∈ gW := ⟨RX5, TX5, 3, rfl, gW_at 406 (by decide +kernel) rfl⟩
theorem jP_RX5_9 : gPF RX5 5 0 (.array .int) := ⟨RX5, TX5, 3, tyX5, rfl, tyX5_ok, nmX5, rfl, rfl, by decide +kernel⟩
theorem jF_RX5_15 : gF RX5 15 5 1 := ⟨RX5, TX5, 3, rfl, by decide, gu_5, Or.inl (gW_at 408 (by decide +kernel) rfl)⟩
theorem jK_RX5_15 : ∃ (C : String) (T : u_T) (N : Nat), gcl[5]? = some (C, T, N) ∧ Cond.fieldLink RX5 15 (T 1).1 (T 1).2.1 (T 1).2.2.1 ∈ gW := ⟨RX5, TX5, 3, rfl, gW_at 408 (by decide +kernel) rfl⟩
theorem jP_RX5_15 : gP 5 1 .int := ⟨RX5, TX5, 3, tyX5, rfl, tyX5_ok, nmX5, rfl, by decide +kernel⟩
theorem jO_RX0_3 : gOI RX0 3 := ⟨gW_at 250 (by decide +kernel) rfl, gW_at 148 (by decide +kernel) rfl, gW_at 149 (by decide +kernel) rfl⟩
theorem jF_RX0_15 : gF RX0 15 0 2 := ⟨RX0, TX0, 12, rfl, by decide, gu_0, Or.inl (gW_at 259 (by decide +kernel) rfl)⟩
theorem jK_RX0_15 : ∃ (C : String) (T : u_T) (N : Nat), gcl[0]? = some (C, T, N) ∧ Cond.fieldLink RX0 15 (T 2).1 (T 2).2.1 (T 2).2.2.1 ∈ gW := ⟨RX0, TX0, 12, rfl, gW_at 259 (by decide +kernel) rfl⟩
theorem jP_RX0_15 : gPF RX0 0 2 (.array .int) := ⟨RX0, TX0, 12, tyX0, rfl, tyX0_ok, nmX0, rfl, rfl, by decide +kernel⟩
theorem jF_RX0_18 : gF RX0 18 0 3 := ⟨RX0, TX0, 12, rfl, by decide, gu_0, Or.inl (gW_at 260 (by decide +kernel) rfl)⟩
theorem jK_RX0_18 : ∃ (C : String) (T : u_T) (N : Nat), gcl[0]? = some (C, T, N) ∧ Cond.fieldLink RX0 18 (T 3).1 (T 3).2.1 (T 3).2.2.1 ∈ gW := ⟨RX0, TX0, 12, rfl, gW_at 260 (by decide +kernel) rfl⟩
theorem jP_RX0_18 : gPF RX0 0 3 (.array .int) := ⟨RX0, TX0, 12, tyX0, rfl, tyX0_ok, nmX0, rfl, rfl, by decide +kernel⟩
theorem jF_RX0_21 : gF RX0 21 0 4 := ⟨RX0, TX0, 12, rfl, by decide, gu_0, Or.inl (gW_at 262 (by decide +kernel) rfl)⟩
theorem jK_RX0_21 : ∃ (C : String) (T : u_T) (N : Nat), gcl[0]? = some (C, T, N) ∧ Cond.fieldLink RX0 21 (T 4).1 (T 4).2.1 (T 4).2.2.1 ∈ gW := ⟨RX0, TX0, 12, rfl, gW_at 262 (by decide +kernel) rfl⟩
theorem jP_RX0_21 : gPF RX0 0 4 (.array .int) := ⟨RX0, TX0, 12, tyX0, rfl, tyX0_ok, nmX0, rfl, rfl, by decide +kernel⟩
theorem jF_RX0_24 : gF RX0 24 0 0 := ⟨RX0, TX0, 12, rfl, by decide, gu_0, Or.inl (gW_at 255 (by decide +kernel) rfl)⟩
theorem jK_RX0_24 : ∃ (C : String) (T : u_T) (N : Nat), gcl[0]? = some (C, T, N) ∧ Cond.fieldLink RX0 24 (T 0).1 (T 0).2.1 (T 0).2.2.1 ∈ gW := ⟨RX0, TX0, 12, rfl, gW_at 255 (by decide +kernel) rfl⟩
theorem jP_RX0_24 : gPF RX0 0 0 (.object "ValuesGo$Rules") := ⟨RX0, TX0, 12, tyX0, rfl, tyX0_ok, nmX0, rfl, rfl, by decide +kernel⟩
theorem jV_clear : gLV RX0 28 yX0_clear 1 := ⟨⟨Or.inl (gW_at 251 (by decide +kernel) rfl), gW_at 129 (by decide +kernel) rfl, by decide +kernel⟩, gW_at 253 (by decide +kernel) rfl, gW_at 0 (by decide +kernel) rfl⟩
theorem jO_RX7_7 : gOI RX7 7 := ⟨gW_at 1065 (by decide +kernel) rfl, gW_at 148 (by decide +kernel) rfl, gW_at 149 (by decide +kernel) rfl⟩
theorem jF_RX7_13 : gF RX7 13 7 1 := ⟨RX7, TX7, 81, rfl, by decide, gu_7, Or.inl (gW_at 1066 (by decide +kernel) rfl)⟩
theorem jK_RX7_13 : ∃ (C : String) (T : u_T) (N : Nat), gcl[7]? = some (C, T, N) ∧ Cond.fieldLink RX7 13 (T 1).1 (T 1).2.1 (T 1).2.2.1 ∈ gW := ⟨RX7, TX7, 81, rfl, gW_at 1066 (by decide +kernel) rfl⟩
theorem jP_RX7_13 : gPF RX7 7 1 (.array .int) := ⟨RX7, TX7, 81, tyX7, rfl, tyX7_ok, nmX7, rfl, rfl, by decide +kernel⟩
theorem jF_RX7_17 : gF RX7 17 7 3 := ⟨RX7, TX7, 81, rfl, by decide, gu_7, Or.inl (gW_at 1068 (by decide +kernel) rfl)⟩
theorem jK_RX7_17 : ∃ (C : String) (T : u_T) (N : Nat), gcl[7]? = some (C, T, N) ∧ Cond.fieldLink RX7 17 (T 3).1 (T 3).2.1 (T 3).2.2.1 ∈ gW := ⟨RX7, TX7, 81, rfl, gW_at 1068 (by decide +kernel) rfl⟩
theorem jP_RX7_17 : gPF RX7 7 3 (.array .int) := ⟨RX7, TX7, 81, tyX7, rfl, tyX7_ok, nmX7, rfl, rfl, by decide +kernel⟩
theorem jF_RX7_20 : gF RX7 20 7 4 := ⟨RX7, TX7, 81, rfl, by decide, gu_7, Or.inl (gW_at 1069 (by decide +kernel) rfl)⟩
theorem jK_RX7_20 : ∃ (C : String) (T : u_T) (N : Nat), gcl[7]? = some (C, T, N) ∧ Cond.fieldLink RX7 20 (T 4).1 (T 4).2.1 (T 4).2.2.1 ∈ gW := ⟨RX7, TX7, 81, rfl, gW_at 1069 (by decide +kernel) rfl⟩
theorem jP_RX7_20 : gPF RX7 7 4 (.array .int) := ⟨RX7, TX7, 81, tyX7, rfl, tyX7_ok, nmX7, rfl, rfl, by decide +kernel⟩
theorem jF_RX7_23 : gF RX7 23 7 5 := ⟨RX7, TX7, 81, rfl, by decide, gu_7, Or.inl (gW_at 1070 (by decide +kernel) rfl)⟩
theorem jK_RX7_23 : ∃ (C : String) (T : u_T) (N : Nat), gcl[7]? = some (C, T, N) ∧ Cond.fieldLink RX7 23 (T 5).1 (T 5).2.1 (T 5).2.2.1 ∈ gW := ⟨RX7, TX7, 81, rfl, gW_at 1070 (by decide +kernel) rfl⟩
theorem jP_RX7_23 : gPF RX7 7 5 (.array .boolean) := ⟨RX7, TX7, 81, tyX7, rfl, tyX7_ok, nmX7, rfl, rfl, by decide +kernel⟩
theorem jF_RX7_27 : gF RX7 27 7 6 := ⟨RX7, TX7, 81, rfl, by decide, gu_7, Or.inl (gW_at 1071 (by decide +kernel) rfl)⟩
theorem jK_RX7_27 : ∃ (C : String) (T : u_T) (N : Nat), gcl[7]? = some (C, T, N) ∧ Cond.fieldLink RX7 27 (T 6).1 (T 6).2.1 (T 6).2.2.1 ∈ gW := ⟨RX7, TX7, 81, rfl, gW_at 1071 (by decide +kernel) rfl⟩
theorem jP_RX7_27 : gPF RX7 7 6 (.array .int) := ⟨RX7, TX7, 81, tyX7, rfl, tyX7_ok, nmX7, rfl, rfl, by decide +kernel⟩
theorem jF_RX7_30 : gF RX7 30 7 7 := ⟨RX7, TX7, 81, rfl, by decide, gu_7, Or.inl (gW_at 1072 (by decide +kernel) rfl)⟩
theorem jK_RX7_30 : ∃ (C : String) (T : u_T) (N : Nat), gcl[7]? = some (C, T, N) ∧ Cond.fieldLink RX7 30 (T 7).1 (T 7).2.1 (T 7).2.2.1 ∈ gW := ⟨RX7, TX7, 81, rfl, gW_at 1072 (by decide +kernel) rfl⟩
theorem jP_RX7_30 : gPF RX7 7 7 (.array .boolean) := ⟨RX7, TX7, 81, tyX7, rfl, tyX7_ok, nmX7, rfl, rfl, by decide +kernel⟩
theorem jF_RX7_33 : gF RX7 33 7 10 := ⟨RX7, TX7, 81, rfl, by decide, gu_7, Or.inl (gW_at 1075 (by decide +kernel) rfl)⟩
theorem jK_RX7_33 : ∃ (C : String) (T : u_T) (N : Nat), gcl[7]? = some (C, T, N) ∧ Cond.fieldLink RX7 33 (T 10).1 (T 10).2.1 (T 10).2.2.1 ∈ gW := ⟨RX7, TX7, 81, rfl, gW_at 1075 (by decide +kernel) rfl⟩
theorem jP_RX7_33 : gPF RX7 7 10 (.array .int) := ⟨RX7, TX7, 81, tyX7, rfl, tyX7_ok, nmX7, rfl, rfl, by decide +kernel⟩
theorem jF_RX7_36 : gF RX7 36 7 11 := ⟨RX7, TX7, 81, rfl, by decide, gu_7, Or.inl (gW_at 1076 (by decide +kernel) rfl)⟩
theorem jK_RX7_36 : ∃ (C : String) (T : u_T) (N : Nat), gcl[7]? = some (C, T, N) ∧ Cond.fieldLink RX7 36 (T 11).1 (T 11).2.1 (T 11).2.2.1 ∈ gW := ⟨RX7, TX7, 81, rfl, gW_at 1076 (by decide +kernel) rfl⟩
theorem jP_RX7_36 : gPF RX7 7 11 (.array .int) := ⟨RX7, TX7, 81, tyX7, rfl, tyX7_ok, nmX7, rfl, rfl, by decide +kernel⟩
theorem jF_RX7_39 : gF RX7 39 7 13 := ⟨RX7, TX7, 81, rfl, by decide, gu_7, Or.inl (gW_at 1078 (by decide +kernel) rfl)⟩
theorem jK_RX7_39 : ∃ (C : String) (T : u_T) (N : Nat), gcl[7]? = some (C, T, N) ∧ Cond.fieldLink RX7 39 (T 13).1 (T 13).2.1 (T 13).2.2.1 ∈ gW := ⟨RX7, TX7, 81, rfl, gW_at 1078 (by decide +kernel) rfl⟩
theorem jP_RX7_39 : gPF RX7 7 13 (.array .int) := ⟨RX7, TX7, 81, tyX7, rfl, tyX7_ok, nmX7, rfl, rfl, by decide +kernel⟩
theorem jF_RX7_42 : gF RX7 42 7 14 := ⟨RX7, TX7, 81, rfl, by decide, gu_7, Or.inl (gW_at 1079 (by decide +kernel) rfl)⟩
theorem jK_RX7_42 : ∃ (C : String) (T : u_T) (N : Nat), gcl[7]? = some (C, T, N) ∧ Cond.fieldLink RX7 42 (T 14).1 (T 14).2.1 (T 14).2.2.1 ∈ gW := ⟨RX7, TX7, 81, rfl, gW_at 1079 (by decide +kernel) rfl⟩
theorem jP_RX7_42 : gPF RX7 7 14 (.array .int) := ⟨RX7, TX7, 81, tyX7, rfl, tyX7_ok, nmX7, rfl, rfl, by decide +kernel⟩
theorem jF_RX7_45 : gF RX7 45 7 16 := ⟨RX7, TX7, 81, rfl, by decide, gu_7, Or.inl (gW_at 1081 (by decide +kernel) rfl)⟩
theorem jK_RX7_45 : ∃ (C : String) (T : u_T) (N : Nat), gcl[7]? = some (C, T, N) ∧ Cond.fieldLink RX7 45 (T 16).1 (T 16).2.1 (T 16).2.2.1 ∈ gW := ⟨RX7, TX7, 81, rfl, gW_at 1081 (by decide +kernel) rfl⟩
theorem jP_RX7_45 : gPF RX7 7 16 (.array .int) := ⟨RX7, TX7, 81, tyX7, rfl, tyX7_ok, nmX7, rfl, rfl, by decide +kernel⟩
theorem jF_RX7_48 : gF RX7 48 7 17 := ⟨RX7, TX7, 81, rfl, by decide, gu_7, Or.inl (gW_at 1082 (by decide +kernel) rfl)⟩
theorem jK_RX7_48 : ∃ (C : String) (T : u_T) (N : Nat), gcl[7]? = some (C, T, N) ∧ Cond.fieldLink RX7 48 (T 17).1 (T 17).2.1 (T 17).2.2.1 ∈ gW := ⟨RX7, TX7, 81, rfl, gW_at 1082 (by decide +kernel) rfl⟩
theorem jP_RX7_48 : gPF RX7 7 17 (.array .int) := ⟨RX7, TX7, 81, tyX7, rfl, tyX7_ok, nmX7, rfl, rfl, by decide +kernel⟩
theorem jF_RX7_51 : gF RX7 51 7 18 := ⟨RX7, TX7, 81, rfl, by decide, gu_7, Or.inl (gW_at 1083 (by decide +kernel) rfl)⟩
theorem jK_RX7_51 : ∃ (C : String) (T : u_T) (N : Nat), gcl[7]? = some (C, T, N) ∧ Cond.fieldLink RX7 51 (T 18).1 (T 18).2.1 (T 18).2.2.1 ∈ gW := ⟨RX7, TX7, 81, rfl, gW_at 1083 (by decide +kernel) rfl⟩
theorem jP_RX7_51 : gPF RX7 7 18 (.array .int) := ⟨RX7, TX7, 81, tyX7, rfl, tyX7_ok, nmX7, rfl, rfl, by decide +kernel⟩
theorem jF_RX7_54 : gF RX7 54 7 21 := ⟨RX7, TX7, 81, rfl, by decide, gu_7, Or.inl (gW_at 1086 (by decide +kernel) rfl)⟩
theorem jK_RX7_54 : ∃ (C : String) (T : u_T) (N : Nat), gcl[7]? = some (C, T, N) ∧ Cond.fieldLink RX7 54 (T 21).1 (T 21).2.1 (T 21).2.2.1 ∈ gW := ⟨RX7, TX7, 81, rfl, gW_at 1086 (by decide +kernel) rfl⟩
theorem jP_RX7_54 : gPF RX7 7 21 (.array .int) := ⟨RX7, TX7, 81, tyX7, rfl, tyX7_ok, nmX7, rfl, rfl, by decide +kernel⟩
theorem jF_RX7_57 : gF RX7 57 7 23 := ⟨RX7, TX7, 81, rfl, by decide, gu_7, Or.inl (gW_at 1088 (by decide +kernel) rfl)⟩
theorem jK_RX7_57 : ∃ (C : String) (T : u_T) (N : Nat), gcl[7]? = some (C, T, N) ∧ Cond.fieldLink RX7 57 (T 23).1 (T 23).2.1 (T 23).2.2.1 ∈ gW := ⟨RX7, TX7, 81, rfl, gW_at 1088 (by decide +kernel) rfl⟩
theorem jP_RX7_57 : gPF RX7 7 23 (.array .int) := ⟨RX7, TX7, 81, tyX7, rfl, tyX7_ok, nmX7, rfl, rfl, by decide +kernel⟩
theorem jF_RX7_60 : gF RX7 60 7 33 := ⟨RX7, TX7, 81, rfl, by decide, gu_7, Or.inl (gW_at 1098 (by decide +kernel) rfl)⟩
theorem jK_RX7_60 : ∃ (C : String) (T : u_T) (N : Nat), gcl[7]? = some (C, T, N) ∧ Cond.fieldLink RX7 60 (T 33).1 (T 33).2.1 (T 33).2.2.1 ∈ gW := ⟨RX7, TX7, 81, rfl, gW_at 1098 (by decide +kernel) rfl⟩
theorem jP_RX7_60 : gPF RX7 7 33 (.array .int) := ⟨RX7, TX7, 81, tyX7, rfl, tyX7_ok, nmX7, rfl, rfl, by decide +kernel⟩
theorem jF_RX7_63 : gF RX7 63 7 37 := ⟨RX7, TX7, 81, rfl, by decide, gu_7, Or.inl (gW_at 1102 (by decide +kernel) rfl)⟩
theorem jK_RX7_63 : ∃ (C : String) (T : u_T) (N : Nat), gcl[7]? = some (C, T, N) ∧ Cond.fieldLink RX7 63 (T 37).1 (T 37).2.1 (T 37).2.2.1 ∈ gW := ⟨RX7, TX7, 81, rfl, gW_at 1102 (by decide +kernel) rfl⟩
theorem jP_RX7_63 : gPF RX7 7 37 (.array .int) := ⟨RX7, TX7, 81, tyX7, rfl, tyX7_ok, nmX7, rfl, rfl, by decide +kernel⟩
theorem jF_RX7_66 : gF RX7 66 7 38 := ⟨RX7, TX7, 81, rfl, by decide, gu_7, Or.inl (gW_at 1103 (by decide +kernel) rfl)⟩
theorem jK_RX7_66 : ∃ (C : String) (T : u_T) (N : Nat), gcl[7]? = some (C, T, N) ∧ Cond.fieldLink RX7 66 (T 38).1 (T 38).2.1 (T 38).2.2.1 ∈ gW := ⟨RX7, TX7, 81, rfl, gW_at 1103 (by decide +kernel) rfl⟩
theorem jP_RX7_66 : gPF RX7 7 38 (.array .boolean) := ⟨RX7, TX7, 81, tyX7, rfl, tyX7_ok, nmX7, rfl, rfl, by decide +kernel⟩
theorem jF_RX7_69 : gF RX7 69 7 41 := ⟨RX7, TX7, 81, rfl, by decide, gu_7, Or.inl (gW_at 1106 (by decide +kernel) rfl)⟩
theorem jK_RX7_69 : ∃ (C : String) (T : u_T) (N : Nat), gcl[7]? = some (C, T, N) ∧ Cond.fieldLink RX7 69 (T 41).1 (T 41).2.1 (T 41).2.2.1 ∈ gW := ⟨RX7, TX7, 81, rfl, gW_at 1106 (by decide +kernel) rfl⟩
theorem jP_RX7_69 : gPF RX7 7 41 (.array .int) := ⟨RX7, TX7, 81, tyX7, rfl, tyX7_ok, nmX7, rfl, rfl, by decide +kernel⟩
theorem jF_RX7_72 : gF RX7 72 7 42 := ⟨RX7, TX7, 81, rfl, by decide, gu_7, Or.inl (gW_at 1107 (by decide +kernel) rfl)⟩
theorem jK_RX7_72 : ∃ (C : String) (T : u_T) (N : Nat), gcl[7]? = some (C, T, N) ∧ Cond.fieldLink RX7 72 (T 42).1 (T 42).2.1 (T 42).2.2.1 ∈ gW := ⟨RX7, TX7, 81, rfl, gW_at 1107 (by decide +kernel) rfl⟩
theorem jP_RX7_72 : gPF RX7 7 42 (.array .int) := ⟨RX7, TX7, 81, tyX7, rfl, tyX7_ok, nmX7, rfl, rfl, by decide +kernel⟩
theorem jF_RX7_75 : gF RX7 75 7 43 := ⟨RX7, TX7, 81, rfl, by decide, gu_7, Or.inl (gW_at 1108 (by decide +kernel) rfl)⟩
theorem jK_RX7_75 : ∃ (C : String) (T : u_T) (N : Nat), gcl[7]? = some (C, T, N) ∧ Cond.fieldLink RX7 75 (T 43).1 (T 43).2.1 (T 43).2.2.1 ∈ gW := ⟨RX7, TX7, 81, rfl, gW_at 1108 (by decide +kernel) rfl⟩
theorem jP_RX7_75 : gPF RX7 7 43 (.array .int) := ⟨RX7, TX7, 81, tyX7, rfl, tyX7_ok, nmX7, rfl, rfl, by decide +kernel⟩
theorem jF_RX7_78 : gF RX7 78 7 51 := ⟨RX7, TX7, 81, rfl, by decide, gu_7, Or.inl (gW_at 1116 (by decide +kernel) rfl)⟩
theorem jK_RX7_78 : ∃ (C : String) (T : u_T) (N : Nat), gcl[7]? = some (C, T, N) ∧ Cond.fieldLink RX7 78 (T 51).1 (T 51).2.1 (T 51).2.2.1 ∈ gW := ⟨RX7, TX7, 81, rfl, gW_at 1116 (by decide +kernel) rfl⟩
theorem jP_RX7_78 : gPF RX7 7 51 (.array .int) := ⟨RX7, TX7, 81, tyX7, rfl, tyX7_ok, nmX7, rfl, rfl, by decide +kernel⟩
theorem jF_RX7_81 : gF RX7 81 7 52 := ⟨RX7, TX7, 81, rfl, by decide, gu_7, Or.inl (gW_at 1117 (by decide +kernel) rfl)⟩
theorem jK_RX7_81 : ∃ (C : String) (T : u_T) (N : Nat), gcl[7]? = some (C, T, N) ∧ Cond.fieldLink RX7 81 (T 52).1 (T 52).2.1 (T 52).2.2.1 ∈ gW := ⟨RX7, TX7, 81, rfl, gW_at 1117 (by decide +kernel) rfl⟩
theorem jP_RX7_81 : gPF RX7 7 52 (.array .int) := ⟨RX7, TX7, 81, tyX7, rfl, tyX7_ok, nmX7, rfl, rfl, by decide +kernel⟩
theorem jF_RX7_84 : gF RX7 84 7 55 := ⟨RX7, TX7, 81, rfl, by decide, gu_7, Or.inl (gW_at 1120 (by decide +kernel) rfl)⟩
theorem jK_RX7_84 : ∃ (C : String) (T : u_T) (N : Nat), gcl[7]? = some (C, T, N) ∧ Cond.fieldLink RX7 84 (T 55).1 (T 55).2.1 (T 55).2.2.1 ∈ gW := ⟨RX7, TX7, 81, rfl, gW_at 1120 (by decide +kernel) rfl⟩
theorem jP_RX7_84 : gPF RX7 7 55 (.array .int) := ⟨RX7, TX7, 81, tyX7, rfl, tyX7_ok, nmX7, rfl, rfl, by decide +kernel⟩
theorem jF_RX7_87 : gF RX7 87 7 56 := ⟨RX7, TX7, 81, rfl, by decide, gu_7, Or.inl (gW_at 1121 (by decide +kernel) rfl)⟩
theorem jK_RX7_87 : ∃ (C : String) (T : u_T) (N : Nat), gcl[7]? = some (C, T, N) ∧ Cond.fieldLink RX7 87 (T 56).1 (T 56).2.1 (T 56).2.2.1 ∈ gW := ⟨RX7, TX7, 81, rfl, gW_at 1121 (by decide +kernel) rfl⟩
theorem jP_RX7_87 : gPF RX7 7 56 (.array .boolean) := ⟨RX7, TX7, 81, tyX7, rfl, tyX7_ok, nmX7, rfl, rfl, by decide +kernel⟩
theorem jF_RX7_90 : gF RX7 90 7 58 := ⟨RX7, TX7, 81, rfl, by decide, gu_7, Or.inl (gW_at 1123 (by decide +kernel) rfl)⟩
theorem jK_RX7_90 : ∃ (C : String) (T : u_T) (N : Nat), gcl[7]? = some (C, T, N) ∧ Cond.fieldLink RX7 90 (T 58).1 (T 58).2.1 (T 58).2.2.1 ∈ gW := ⟨RX7, TX7, 81, rfl, gW_at 1123 (by decide +kernel) rfl⟩
theorem jP_RX7_90 : gPF RX7 7 58 (.array .int) := ⟨RX7, TX7, 81, tyX7, rfl, tyX7_ok, nmX7, rfl, rfl, by decide +kernel⟩
theorem jF_RX7_93 : gF RX7 93 7 59 := ⟨RX7, TX7, 81, rfl, by decide, gu_7, Or.inl (gW_at 1124 (by decide +kernel) rfl)⟩
theorem jK_RX7_93 : ∃ (C : String) (T : u_T) (N : Nat), gcl[7]? = some (C, T, N) ∧ Cond.fieldLink RX7 93 (T 59).1 (T 59).2.1 (T 59).2.2.1 ∈ gW := ⟨RX7, TX7, 81, rfl, gW_at 1124 (by decide +kernel) rfl⟩
theorem jP_RX7_93 : gPF RX7 7 59 (.array .int) := ⟨RX7, TX7, 81, tyX7, rfl, tyX7_ok, nmX7, rfl, rfl, by decide +kernel⟩
theorem jF_RX7_96 : gF RX7 96 7 60 := ⟨RX7, TX7, 81, rfl, by decide, gu_7, Or.inl (gW_at 1125 (by decide +kernel) rfl)⟩
theorem jK_RX7_96 : ∃ (C : String) (T : u_T) (N : Nat), gcl[7]? = some (C, T, N) ∧ Cond.fieldLink RX7 96 (T 60).1 (T 60).2.1 (T 60).2.2.1 ∈ gW := ⟨RX7, TX7, 81, rfl, gW_at 1125 (by decide +kernel) rfl⟩
theorem jP_RX7_96 : gPF RX7 7 60 (.array .boolean) := ⟨RX7, TX7, 81, tyX7, rfl, tyX7_ok, nmX7, rfl, rfl, by decide +kernel⟩
theorem jF_RX7_99 : gF RX7 99 7 61 := ⟨RX7, TX7, 81, rfl, by decide, gu_7, Or.inl (gW_at 1126 (by decide +kernel) rfl)⟩
theorem jK_RX7_99 : ∃ (C : String) (T : u_T) (N : Nat), gcl[7]? = some (C, T, N) ∧ Cond.fieldLink RX7 99 (T 61).1 (T 61).2.1 (T 61).2.2.1 ∈ gW := ⟨RX7, TX7, 81, rfl, gW_at 1126 (by decide +kernel) rfl⟩
theorem jP_RX7_99 : gPF RX7 7 61 (.array .boolean) := ⟨RX7, TX7, 81, tyX7, rfl, tyX7_ok, nmX7, rfl, rfl, by decide +kernel⟩
theorem jF_RX7_102 : gF RX7 102 7 62 := ⟨RX7, TX7, 81, rfl, by decide, gu_7, Or.inl (gW_at 1127 (by decide +kernel) rfl)⟩
theorem jK_RX7_102 : ∃ (C : String) (T : u_T) (N : Nat), gcl[7]? = some (C, T, N) ∧ Cond.fieldLink RX7 102 (T 62).1 (T 62).2.1 (T 62).2.2.1 ∈ gW := ⟨RX7, TX7, 81, rfl, gW_at 1127 (by decide +kernel) rfl⟩
theorem jP_RX7_102 : gPF RX7 7 62 (.array .int) := ⟨RX7, TX7, 81, tyX7, rfl, tyX7_ok, nmX7, rfl, rfl, by decide +kernel⟩
theorem jF_RX7_105 : gF RX7 105 7 63 := ⟨RX7, TX7, 81, rfl, by decide, gu_7, Or.inl (gW_at 1128 (by decide +kernel) rfl)⟩
theorem jK_RX7_105 : ∃ (C : String) (T : u_T) (N : Nat), gcl[7]? = some (C, T, N) ∧ Cond.fieldLink RX7 105 (T 63).1 (T 63).2.1 (T 63).2.2.1 ∈ gW := ⟨RX7, TX7, 81, rfl, gW_at 1128 (by decide +kernel) rfl⟩
theorem jP_RX7_105 : gPF RX7 7 63 (.array .int) := ⟨RX7, TX7, 81, tyX7, rfl, tyX7_ok, nmX7, rfl, rfl, by decide +kernel⟩
theorem jF_RX7_108 : gF RX7 108 7 64 := ⟨RX7, TX7, 81, rfl, by decide, gu_7, Or.inl (gW_at 1129 (by decide +kernel) rfl)⟩
theorem jK_RX7_108 : ∃ (C : String) (T : u_T) (N : Nat), gcl[7]? = some (C, T, N) ∧ Cond.fieldLink RX7 108 (T 64).1 (T 64).2.1 (T 64).2.2.1 ∈ gW := ⟨RX7, TX7, 81, rfl, gW_at 1129 (by decide +kernel) rfl⟩
theorem jP_RX7_108 : gPF RX7 7 64 (.array .int) := ⟨RX7, TX7, 81, tyX7, rfl, tyX7_ok, nmX7, rfl, rfl, by decide +kernel⟩
theorem jF_RX7_111 : gF RX7 111 7 65 := ⟨RX7, TX7, 81, rfl, by decide, gu_7, Or.inl (gW_at 1130 (by decide +kernel) rfl)⟩
theorem jK_RX7_111 : ∃ (C : String) (T : u_T) (N : Nat), gcl[7]? = some (C, T, N) ∧ Cond.fieldLink RX7 111 (T 65).1 (T 65).2.1 (T 65).2.2.1 ∈ gW := ⟨RX7, TX7, 81, rfl, gW_at 1130 (by decide +kernel) rfl⟩
theorem jP_RX7_111 : gPF RX7 7 65 (.array .int) := ⟨RX7, TX7, 81, tyX7, rfl, tyX7_ok, nmX7, rfl, rfl, by decide +kernel⟩
theorem jF_RX7_114 : gF RX7 114 7 66 := ⟨RX7, TX7, 81, rfl, by decide, gu_7, Or.inl (gW_at 1131 (by decide +kernel) rfl)⟩
theorem jK_RX7_114 : ∃ (C : String) (T : u_T) (N : Nat), gcl[7]? = some (C, T, N) ∧ Cond.fieldLink RX7 114 (T 66).1 (T 66).2.1 (T 66).2.2.1 ∈ gW := ⟨RX7, TX7, 81, rfl, gW_at 1131 (by decide +kernel) rfl⟩
theorem jP_RX7_114 : gPF RX7 7 66 (.array .int) := ⟨RX7, TX7, 81, tyX7, rfl, tyX7_ok, nmX7, rfl, rfl, by decide +kernel⟩
theorem jF_RX7_117 : gF RX7 117 7 67 := ⟨RX7, TX7, 81, rfl, by decide, gu_7, Or.inl (gW_at 1132 (by decide +kernel) rfl)⟩
theorem jK_RX7_117 : ∃ (C : String) (T : u_T) (N : Nat), gcl[7]? = some (C, T, N) ∧ Cond.fieldLink RX7 117 (T 67).1 (T 67).2.1 (T 67).2.2.1 ∈ gW := ⟨RX7, TX7, 81, rfl, gW_at 1132 (by decide +kernel) rfl⟩
theorem jP_RX7_117 : gPF RX7 7 67 (.array .int) := ⟨RX7, TX7, 81, tyX7, rfl, tyX7_ok, nmX7, rfl, rfl, by decide +kernel⟩
theorem jF_RX7_120 : gF RX7 120 7 68 := ⟨RX7, TX7, 81, rfl, by decide, gu_7, Or.inl (gW_at 1133 (by decide +kernel) rfl)⟩
theorem jK_RX7_120 : ∃ (C : String) (T : u_T) (N : Nat), gcl[7]? = some (C, T, N) ∧ Cond.fieldLink RX7 120 (T 68).1 (T 68).2.1 (T 68).2.2.1 ∈ gW := ⟨RX7, TX7, 81, rfl, gW_at 1133 (by decide +kernel) rfl⟩
theorem jP_RX7_120 : gPF RX7 7 68 (.array .int) := ⟨RX7, TX7, 81, tyX7, rfl, tyX7_ok, nmX7, rfl, rfl, by decide +kernel⟩
theorem jF_RX7_123 : gF RX7 123 7 69 := ⟨RX7, TX7, 81, rfl, by decide, gu_7, Or.inl (gW_at 1134 (by decide +kernel) rfl)⟩
theorem jK_RX7_123 : ∃ (C : String) (T : u_T) (N : Nat), gcl[7]? = some (C, T, N) ∧ Cond.fieldLink RX7 123 (T 69).1 (T 69).2.1 (T 69).2.2.1 ∈ gW := ⟨RX7, TX7, 81, rfl, gW_at 1134 (by decide +kernel) rfl⟩
theorem jP_RX7_123 : gPF RX7 7 69 (.array .int) := ⟨RX7, TX7, 81, tyX7, rfl, tyX7_ok, nmX7, rfl, rfl, by decide +kernel⟩
theorem jF_RX7_126 : gF RX7 126 7 77 := ⟨RX7, TX7, 81, rfl, by decide, gu_7, Or.inl (gW_at 1142 (by decide +kernel) rfl)⟩
theorem jK_RX7_126 : ∃ (C : String) (T : u_T) (N : Nat), gcl[7]? = some (C, T, N) ∧ Cond.fieldLink RX7 126 (T 77).1 (T 77).2.1 (T 77).2.2.1 ∈ gW := ⟨RX7, TX7, 81, rfl, gW_at 1142 (by decide +kernel) rfl⟩
theorem jP_RX7_126 : gPF RX7 7 77 (.array .boolean) := ⟨RX7, TX7, 81, tyX7, rfl, tyX7_ok, nmX7, rfl, rfl, by decide +kernel⟩
theorem jF_RX7_129 : gF RX7 129 7 78 := ⟨RX7, TX7, 81, rfl, by decide, gu_7, Or.inl (gW_at 1143 (by decide +kernel) rfl)⟩
theorem jK_RX7_129 : ∃ (C : String) (T : u_T) (N : Nat), gcl[7]? = some (C, T, N) ∧ Cond.fieldLink RX7 129 (T 78).1 (T 78).2.1 (T 78).2.2.1 ∈ gW := ⟨RX7, TX7, 81, rfl, gW_at 1143 (by decide +kernel) rfl⟩
theorem jP_RX7_129 : gPF RX7 7 78 (.array .int) := ⟨RX7, TX7, 81, tyX7, rfl, tyX7_ok, nmX7, rfl, rfl, by decide +kernel⟩
theorem jF_RX7_132 : gF RX7 132 7 79 := ⟨RX7, TX7, 81, rfl, by decide, gu_7, Or.inl (gW_at 1144 (by decide +kernel) rfl)⟩
theorem jK_RX7_132 : ∃ (C : String) (T : u_T) (N : Nat), gcl[7]? = some (C, T, N) ∧ Cond.fieldLink RX7 132 (T 79).1 (T 79).2.1 (T 79).2.2.1 ∈ gW := ⟨RX7, TX7, 81, rfl, gW_at 1144 (by decide +kernel) rfl⟩
theorem jP_RX7_132 : gPF RX7 7 79 (.array .int) := ⟨RX7, TX7, 81, tyX7, rfl, tyX7_ok, nmX7, rfl, rfl, by decide +kernel⟩
theorem jF_RX7_135 : gF RX7 135 7 80 := ⟨RX7, TX7, 81, rfl, by decide, gu_7, Or.inl (gW_at 1145 (by decide +kernel) rfl)⟩
theorem jK_RX7_135 : ∃ (C : String) (T : u_T) (N : Nat), gcl[7]? = some (C, T, N) ∧ Cond.fieldLink RX7 135 (T 80).1 (T 80).2.1 (T 80).2.2.1 ∈ gW := ⟨RX7, TX7, 81, rfl, gW_at 1145 (by decide +kernel) rfl⟩
theorem jP_RX7_135 : gPF RX7 7 80 (.array .int) := ⟨RX7, TX7, 81, tyX7, rfl, tyX7_ok, nmX7, rfl, rfl, by decide +kernel⟩
theorem jO_RX6_3 : gOI RX6 3 := ⟨gW_at 147 (by decide +kernel) rfl, gW_at 148 (by decide +kernel) rfl, gW_at 149 (by decide +kernel) rfl⟩
theorem jN_RX6_9 : gNw RX6 9 3 fz3 9 := ⟨RX3, TX3, tyX3, rfl, gu_3, tyX3_ok, gW_at 150 (by decide +kernel) rfl, gW_at 151 (by decide +kernel) rfl, gW_at 127 (by decide +kernel) rfl, by decide +kernel⟩
theorem jL_RX6_11 : gLk RX6 11 yX3_init 0 := ⟨Or.inr ⟨"ValuesGo", gN_at 152 (by decide +kernel) rfl⟩, gW_at 127 (by decide +kernel) rfl, by decide +kernel⟩
theorem jL_RX6_11i : Cond.instanceMethod yX3_init ∈ gW := gW_at 153 (by decide +kernel) rfl
theorem jW_X3_init : Cond.code yX3_init cX3_init 1 none ∈ gW := gW_at 154 (by decide +kernel) rfl
theorem jF_RX6_12 : gF RX6 12 6 0 := ⟨RX6, TX6, 13, rfl, by decide, gu_6, Or.inl (gW_at 419 (by decide +kernel) rfl)⟩
theorem jK_RX6_12 : ∃ (C : String) (T : u_T) (N : Nat), gcl[6]? = some (C, T, N) ∧ Cond.fieldLink RX6 12 (T 0).1 (T 0).2.1 (T 0).2.2.1 ∈ gW := ⟨RX6, TX6, 13, rfl, gW_at 419 (by decide +kernel) rfl⟩
theorem jP_RX6_12 : gPF RX6 6 0 (.object "ValuesGo$Rules") := ⟨RX6, TX6, 13, tyX6, rfl, tyX6_ok, nmX6, rfl, rfl, by decide +kernel⟩
theorem jN_RX6_16 : gNw RX6 16 2 fz2 14 := ⟨RX2, TX2, tyX2, rfl, gu_2, tyX2_ok, gW_at 193 (by decide +kernel) rfl, gW_at 194 (by decide +kernel) rfl, gW_at 128 (by decide +kernel) rfl, by decide +kernel⟩
theorem jL_RX6_18 : gLk RX6 18 yX2_init 0 := ⟨Or.inr ⟨"ValuesGo", gN_at 195 (by decide +kernel) rfl⟩, gW_at 128 (by decide +kernel) rfl, by decide +kernel⟩
theorem jL_RX6_18i : Cond.instanceMethod yX2_init ∈ gW := gW_at 196 (by decide +kernel) rfl
theorem jW_X2_init : Cond.code yX2_init cX2_init 1 none ∈ gW := gW_at 197 (by decide +kernel) rfl
theorem jF_RX6_19 : gF RX6 19 6 1 := ⟨RX6, TX6, 13, rfl, by decide, gu_6, Or.inl (gW_at 420 (by decide +kernel) rfl)⟩
theorem jK_RX6_19 : ∃ (C : String) (T : u_T) (N : Nat), gcl[6]? = some (C, T, N) ∧ Cond.fieldLink RX6 19 (T 1).1 (T 1).2.1 (T 1).2.2.1 ∈ gW := ⟨RX6, TX6, 13, rfl, gW_at 420 (by decide +kernel) rfl⟩
theorem jP_RX6_19 : gPF RX6 6 1 (.object "ValuesGo$Reader") := ⟨RX6, TX6, 13, tyX6, rfl, tyX6_ok, nmX6, rfl, rfl, by decide +kernel⟩
theorem jN_RX6_23 : gNw RX6 23 0 fz0 12 := ⟨RX0, TX0, tyX0, rfl, gu_0, tyX0_ok, gW_at 245 (by decide +kernel) rfl, gW_at 246 (by decide +kernel) rfl, gW_at 129 (by decide +kernel) rfl, by decide +kernel⟩
theorem jL_RX6_25 : gLk RX6 25 yX0_init 1 := ⟨Or.inr ⟨"ValuesGo", gN_at 247 (by decide +kernel) rfl⟩, gW_at 129 (by decide +kernel) rfl, by decide +kernel⟩
theorem jL_RX6_25i : Cond.instanceMethod yX0_init ∈ gW := gW_at 248 (by decide +kernel) rfl
theorem jW_X0_init : Cond.code yX0_init cX0_init 2 none ∈ gW := gW_at 249 (by decide +kernel) rfl
theorem jF_RX6_28 : gF RX6 28 6 2 := ⟨RX6, TX6, 13, rfl, by decide, gu_6, Or.inl (gW_at 421 (by decide +kernel) rfl)⟩
theorem jK_RX6_28 : ∃ (C : String) (T : u_T) (N : Nat), gcl[6]? = some (C, T, N) ∧ Cond.fieldLink RX6 28 (T 2).1 (T 2).2.1 (T 2).2.2.1 ∈ gW := ⟨RX6, TX6, 13, rfl, gW_at 421 (by decide +kernel) rfl⟩
theorem jP_RX6_28 : gPF RX6 6 2 (.object "ValuesGo$Hall") := ⟨RX6, TX6, 13, tyX6, rfl, tyX6_ok, nmX6, rfl, rfl, by decide +kernel⟩
theorem jN_RX6_32 : gNw RX6 32 1 fz1 7 := ⟨RX1, TX1, tyX1, rfl, gu_1, tyX1_ok, gW_at 304 (by decide +kernel) rfl, gW_at 305 (by decide +kernel) rfl, gW_at 130 (by decide +kernel) rfl, by decide +kernel⟩
theorem jL_RX6_34 : gLk RX6 34 yX1_init 0 := ⟨Or.inr ⟨"ValuesGo", gN_at 306 (by decide +kernel) rfl⟩, gW_at 130 (by decide +kernel) rfl, by decide +kernel⟩
theorem jL_RX6_34i : Cond.instanceMethod yX1_init ∈ gW := gW_at 307 (by decide +kernel) rfl
theorem jW_X1_init : Cond.code yX1_init cX1_init 1 none ∈ gW := gW_at 308 (by decide +kernel) rfl
theorem jF_RX6_35 : gF RX6 35 6 3 := ⟨RX6, TX6, 13, rfl, by decide, gu_6, Or.inl (gW_at 422 (by decide +kernel) rfl)⟩
theorem jK_RX6_35 : ∃ (C : String) (T : u_T) (N : Nat), gcl[6]? = some (C, T, N) ∧ Cond.fieldLink RX6 35 (T 3).1 (T 3).2.1 (T 3).2.2.1 ∈ gW := ⟨RX6, TX6, 13, rfl, gW_at 422 (by decide +kernel) rfl⟩
theorem jP_RX6_35 : gPF RX6 6 3 (.object "ValuesGo$Past") := ⟨RX6, TX6, 13, tyX6, rfl, tyX6_ok, nmX6, rfl, rfl, by decide +kernel⟩
theorem jF_RX6_39 : gF RX6 39 6 4 := ⟨RX6, TX6, 13, rfl, by decide, gu_6, Or.inl (gW_at 423 (by decide +kernel) rfl)⟩
theorem jK_RX6_39 : ∃ (C : String) (T : u_T) (N : Nat), gcl[6]? = some (C, T, N) ∧ Cond.fieldLink RX6 39 (T 4).1 (T 4).2.1 (T 4).2.2.1 ∈ gW := ⟨RX6, TX6, 13, rfl, gW_at 423 (by decide +kernel) rfl⟩
theorem jP_RX6_39 : gPF RX6 6 4 (.object "ValuesGo$Hall") := ⟨RX6, TX6, 13, tyX6, rfl, tyX6_ok, nmX6, rfl, rfl, by decide +kernel⟩
theorem jF_RX6_42 : gF RX6 42 6 5 := ⟨RX6, TX6, 13, rfl, by decide, gu_6, Or.inl (gW_at 424 (by decide +kernel) rfl)⟩
theorem jK_RX6_42 : ∃ (C : String) (T : u_T) (N : Nat), gcl[6]? = some (C, T, N) ∧ Cond.fieldLink RX6 42 (T 5).1 (T 5).2.1 (T 5).2.2.1 ∈ gW := ⟨RX6, TX6, 13, rfl, gW_at 424 (by decide +kernel) rfl⟩
theorem jP_RX6_42 : gPF RX6 6 5 (.object "ValuesGo$Hall") := ⟨RX6, TX6, 13, tyX6, rfl, tyX6_ok, nmX6, rfl, rfl, by decide +kernel⟩
theorem jN_RX6_45 : gNw RX6 45 4 fz4 15 := ⟨RX4, TX4, tyX4, rfl, gu_4, tyX4_ok, gW_at 341 (by decide +kernel) rfl, gW_at 342 (by decide +kernel) rfl, gW_at 131 (by decide +kernel) rfl, by decide +kernel⟩
theorem jL_RX6_47 : gLk RX6 47 yX4_init 4 := ⟨Or.inr ⟨"ValuesGo", gN_at 343 (by decide +kernel) rfl⟩, gW_at 131 (by decide +kernel) rfl, by decide +kernel⟩
theorem jL_RX6_47i : Cond.instanceMethod yX4_init ∈ gW := gW_at 344 (by decide +kernel) rfl
theorem jW_X4_init : Cond.code yX4_init cX4_init 5 none ∈ gW := gW_at 345 (by decide +kernel) rfl
theorem jF_RX6_50 : gF RX6 50 6 6 := ⟨RX6, TX6, 13, rfl, by decide, gu_6, Or.inl (gW_at 425 (by decide +kernel) rfl)⟩
theorem jK_RX6_50 : ∃ (C : String) (T : u_T) (N : Nat), gcl[6]? = some (C, T, N) ∧ Cond.fieldLink RX6 50 (T 6).1 (T 6).2.1 (T 6).2.2.1 ∈ gW := ⟨RX6, TX6, 13, rfl, gW_at 425 (by decide +kernel) rfl⟩
theorem jP_RX6_50 : gPF RX6 6 6 (.object "ValuesGo$Search") := ⟨RX6, TX6, 13, tyX6, rfl, tyX6_ok, nmX6, rfl, rfl, by decide +kernel⟩
theorem jF_RX6_54 : gF RX6 54 6 7 := ⟨RX6, TX6, 13, rfl, by decide, gu_6, Or.inl (gW_at 426 (by decide +kernel) rfl)⟩
theorem jK_RX6_54 : ∃ (C : String) (T : u_T) (N : Nat), gcl[6]? = some (C, T, N) ∧ Cond.fieldLink RX6 54 (T 7).1 (T 7).2.1 (T 7).2.2.1 ∈ gW := ⟨RX6, TX6, 13, rfl, gW_at 426 (by decide +kernel) rfl⟩
theorem jP_RX6_54 : gPF RX6 6 7 (.object "ValuesGo$Hall") := ⟨RX6, TX6, 13, tyX6, rfl, tyX6_ok, nmX6, rfl, rfl, by decide +kernel⟩
theorem jF_RX6_57 : gF RX6 57 6 8 := ⟨RX6, TX6, 13, rfl, by decide, gu_6, Or.inl (gW_at 427 (by decide +kernel) rfl)⟩
theorem jK_RX6_57 : ∃ (C : String) (T : u_T) (N : Nat), gcl[6]? = some (C, T, N) ∧ Cond.fieldLink RX6 57 (T 8).1 (T 8).2.1 (T 8).2.2.1 ∈ gW := ⟨RX6, TX6, 13, rfl, gW_at 427 (by decide +kernel) rfl⟩
theorem jP_RX6_57 : gPF RX6 6 8 (.object "ValuesGo$Past") := ⟨RX6, TX6, 13, tyX6, rfl, tyX6_ok, nmX6, rfl, rfl, by decide +kernel⟩
theorem jCS : Cond.classLink RX6 60 RX5 ∈ gW := gW_at 399 (by decide +kernel) rfl
theorem jF_RX6_62 : gF RX6 62 6 9 := ⟨RX6, TX6, 13, rfl, by decide, gu_6, Or.inl (gW_at 428 (by decide +kernel) rfl)⟩
theorem jK_RX6_62 : ∃ (C : String) (T : u_T) (N : Nat), gcl[6]? = some (C, T, N) ∧ Cond.fieldLink RX6 62 (T 9).1 (T 9).2.1 (T 9).2.2.1 ∈ gW := ⟨RX6, TX6, 13, rfl, gW_at 428 (by decide +kernel) rfl⟩
theorem jP_RX6_62 : gPF RX6 6 9 (.array (.object "ValuesGo$Sheet")) := ⟨RX6, TX6, 13, tyX6, rfl, tyX6_ok, nmX6, rfl, rfl, by decide +kernel⟩
theorem jN_RX6_60 : gNw RX6 60 5 fz5 3 := ⟨RX5, TX5, tyX5, rfl, gu_5, tyX5_ok, gW_at 399 (by decide +kernel) rfl, gW_at 401 (by decide +kernel) rfl, gW_at 132 (by decide +kernel) rfl, by decide +kernel⟩
theorem jL_RX6_66 : gLk RX6 66 yX5_init 0 := ⟨Or.inr ⟨"ValuesGo", gN_at 402 (by decide +kernel) rfl⟩, gW_at 132 (by decide +kernel) rfl, by decide +kernel⟩
theorem jL_RX6_66i : Cond.instanceMethod yX5_init ∈ gW := gW_at 403 (by decide +kernel) rfl
theorem jW_X5_init : Cond.code yX5_init cX5_init 1 none ∈ gW := gW_at 404 (by decide +kernel) rfl
theorem jF_RX6_67 : gF RX6 67 6 10 := ⟨RX6, TX6, 13, rfl, by decide, gu_6, Or.inl (gW_at 429 (by decide +kernel) rfl)⟩
theorem jK_RX6_67 : ∃ (C : String) (T : u_T) (N : Nat), gcl[6]? = some (C, T, N) ∧ Cond.fieldLink RX6 67 (T 10).1 (T 10).2.1 (T 10).2.2.1 ∈ gW := ⟨RX6, TX6, 13, rfl, gW_at 429 (by decide +kernel) rfl⟩
theorem jP_RX6_67 : gPF RX6 6 10 (.array .int) := ⟨RX6, TX6, 13, tyX6, rfl, tyX6_ok, nmX6, rfl, rfl, by decide +kernel⟩
theorem jF_RX6_71 : gF RX6 71 6 11 := ⟨RX6, TX6, 13, rfl, by decide, gu_6, Or.inl (gW_at 430 (by decide +kernel) rfl)⟩
theorem jK_RX6_71 : ∃ (C : String) (T : u_T) (N : Nat), gcl[6]? = some (C, T, N) ∧ Cond.fieldLink RX6 71 (T 11).1 (T 11).2.1 (T 11).2.2.1 ∈ gW := ⟨RX6, TX6, 13, rfl, gW_at 430 (by decide +kernel) rfl⟩
theorem jP_RX6_71 : gP 6 11 .int := ⟨RX6, TX6, 13, tyX6, rfl, tyX6_ok, nmX6, rfl, by decide +kernel⟩
theorem jF_RX6_75 : gF RX6 75 6 12 := ⟨RX6, TX6, 13, rfl, by decide, gu_6, Or.inl (gW_at 431 (by decide +kernel) rfl)⟩
theorem jK_RX6_75 : ∃ (C : String) (T : u_T) (N : Nat), gcl[6]? = some (C, T, N) ∧ Cond.fieldLink RX6 75 (T 12).1 (T 12).2.1 (T 12).2.2.1 ∈ gW := ⟨RX6, TX6, 13, rfl, gW_at 431 (by decide +kernel) rfl⟩
theorem jP_RX6_75 : gP 6 12 .boolean := ⟨RX6, TX6, 13, tyX6, rfl, tyX6_ok, nmX6, rfl, by decide +kernel⟩
