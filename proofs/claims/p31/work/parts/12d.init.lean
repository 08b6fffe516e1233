/-! the constructors -/
theorem c_clear (D : va_G) (ct : ClassId × ClassId × ClassId) {h0 hr q1 q2 q3 q4 : Nat} {f : Nat → Int32} : jC yX0_clear cX0_clear 3 { frames := 0, cells := 0, slots := 0, locals := 0 } 0 0 D ct [.ref h0, .int 0] [(h0, .inr (0, [.ref hr, .ref q1, .ref q2, .ref q3, .ref q4, .int 0, .int 0, .int 0, .int 0, .int 0, .int 0, .int 0])), (q1, .inl (ct.1, 9, .inl f))] (fun ws => ∃ f2 : Nat → Int32, (∀ x, x < 8 → f2 x = 1023) ∧ f2 8 = f 8 ∧ ws = [(h0, .inr (0, [.ref hr, .ref q1, .ref q2, .ref q3, .ref q4, .int 0, .int 0, .int 0, .int 0, .int 0, .int 0, .int 0])), (q1, .inl (ct.1, 9, .inl f2))]) := by
  refine jC_of (ini := false) (by decide +kernel) (Nat.le_of_ble_eq_true rfl) (fun z => by cases z) ?_
  refine J_iconst (v := 0) (gxd kX0_clear 0 rfl) (by decide) ?_
  refine J_istore (x := 2) (la2 := [(2, .int 0), (0, .ref h0), (1, .int 0)]) (gxd kX0_clear 1 rfl) rfl (by decide) rfl ?_
  refine J_iload 0 (gxd kX0_clear 2 rfl) rfl rfl ?_
  refine J_bipush (v := 8) (gxd kX0_clear 3 rfl) (by decide) ?_
  refine J_icmp_ge (gxd kX0_clear 4 rfl) (tgt := 23) rfl (fun z => absurd (by decide) z) (fun _ => ?_)
  refine J_aload 1 (gxd kX0_clear 5 rfl) rfl rfl ?_
  refine J_get 0 (gxd kX0_clear 6 rfl) jF_RX0_9 rfl rfl jK_RX0_9 ?_
  refine J_iload 0 (gxd kX0_clear 7 rfl) rfl rfl ?_
  refine J_sipush (v := 1023) (gxd kX0_clear 8 rfl) (by decide) ?_
  refine J_iast2 (N := 9) (kn := 0) 1 (gxd kX0_clear 9 rfl) rfl (by decide) (by decide) ?_
  dsimp only [List.set_cons_zero, List.set_cons_succ, List.cons_append, List.nil_append]
  refine J_iinc 0 (w := 1) (la2 := [(2, .int 1), (0, .ref h0), (1, .int 0)]) (gxd kX0_clear 10 rfl) rfl (by decide) (by decide) rfl ?_
  refine J_goto (gxd kX0_clear 11 rfl) rfl ?_
  refine J_iload 0 (gxd kX0_clear 2 rfl) rfl rfl ?_
  refine J_bipush (v := 8) (gxd kX0_clear 3 rfl) (by decide) ?_
  refine J_icmp_ge (gxd kX0_clear 4 rfl) (tgt := 23) rfl (fun z => absurd (by decide) z) (fun _ => ?_)
  refine J_aload 1 (gxd kX0_clear 5 rfl) rfl rfl ?_
  refine J_get 0 (gxd kX0_clear 6 rfl) jF_RX0_9 rfl rfl jK_RX0_9 ?_
  refine J_iload 0 (gxd kX0_clear 7 rfl) rfl rfl ?_
  refine J_sipush (v := 1023) (gxd kX0_clear 8 rfl) (by decide) ?_
  refine J_iast2 (N := 9) (kn := 1) 1 (gxd kX0_clear 9 rfl) rfl (by decide) (by decide) ?_
  dsimp only [List.set_cons_zero, List.set_cons_succ, List.cons_append, List.nil_append]
  refine J_iinc 0 (w := 2) (la2 := [(2, .int 2), (0, .ref h0), (1, .int 0)]) (gxd kX0_clear 10 rfl) rfl (by decide) (by decide) rfl ?_
  refine J_goto (gxd kX0_clear 11 rfl) rfl ?_
  refine J_iload 0 (gxd kX0_clear 2 rfl) rfl rfl ?_
  refine J_bipush (v := 8) (gxd kX0_clear 3 rfl) (by decide) ?_
  refine J_icmp_ge (gxd kX0_clear 4 rfl) (tgt := 23) rfl (fun z => absurd (by decide) z) (fun _ => ?_)
  refine J_aload 1 (gxd kX0_clear 5 rfl) rfl rfl ?_
  refine J_get 0 (gxd kX0_clear 6 rfl) jF_RX0_9 rfl rfl jK_RX0_9 ?_
  refine J_iload 0 (gxd kX0_clear 7 rfl) rfl rfl ?_
  refine J_sipush (v := 1023) (gxd kX0_clear 8 rfl) (by decide) ?_
  refine J_iast2 (N := 9) (kn := 2) 1 (gxd kX0_clear 9 rfl) rfl (by decide) (by decide) ?_
  dsimp only [List.set_cons_zero, List.set_cons_succ, List.cons_append, List.nil_append]
  refine J_iinc 0 (w := 3) (la2 := [(2, .int 3), (0, .ref h0), (1, .int 0)]) (gxd kX0_clear 10 rfl) rfl (by decide) (by decide) rfl ?_
  refine J_goto (gxd kX0_clear 11 rfl) rfl ?_
  refine J_iload 0 (gxd kX0_clear 2 rfl) rfl rfl ?_
  refine J_bipush (v := 8) (gxd kX0_clear 3 rfl) (by decide) ?_
  refine J_icmp_ge (gxd kX0_clear 4 rfl) (tgt := 23) rfl (fun z => absurd (by decide) z) (fun _ => ?_)
  refine J_aload 1 (gxd kX0_clear 5 rfl) rfl rfl ?_
  refine J_get 0 (gxd kX0_clear 6 rfl) jF_RX0_9 rfl rfl jK_RX0_9 ?_
  refine J_iload 0 (gxd kX0_clear 7 rfl) rfl rfl ?_
  refine J_sipush (v := 1023) (gxd kX0_clear 8 rfl) (by decide) ?_
  refine J_iast2 (N := 9) (kn := 3) 1 (gxd kX0_clear 9 rfl) rfl (by decide) (by decide) ?_
  dsimp only [List.set_cons_zero, List.set_cons_succ, List.cons_append, List.nil_append]
  refine J_iinc 0 (w := 4) (la2 := [(2, .int 4), (0, .ref h0), (1, .int 0)]) (gxd kX0_clear 10 rfl) rfl (by decide) (by decide) rfl ?_
  refine J_goto (gxd kX0_clear 11 rfl) rfl ?_
  refine J_iload 0 (gxd kX0_clear 2 rfl) rfl rfl ?_
  refine J_bipush (v := 8) (gxd kX0_clear 3 rfl) (by decide) ?_
  refine J_icmp_ge (gxd kX0_clear 4 rfl) (tgt := 23) rfl (fun z => absurd (by decide) z) (fun _ => ?_)
  refine J_aload 1 (gxd kX0_clear 5 rfl) rfl rfl ?_
  refine J_get 0 (gxd kX0_clear 6 rfl) jF_RX0_9 rfl rfl jK_RX0_9 ?_
  refine J_iload 0 (gxd kX0_clear 7 rfl) rfl rfl ?_
  refine J_sipush (v := 1023) (gxd kX0_clear 8 rfl) (by decide) ?_
  refine J_iast2 (N := 9) (kn := 4) 1 (gxd kX0_clear 9 rfl) rfl (by decide) (by decide) ?_
  dsimp only [List.set_cons_zero, List.set_cons_succ, List.cons_append, List.nil_append]
  refine J_iinc 0 (w := 5) (la2 := [(2, .int 5), (0, .ref h0), (1, .int 0)]) (gxd kX0_clear 10 rfl) rfl (by decide) (by decide) rfl ?_
  refine J_goto (gxd kX0_clear 11 rfl) rfl ?_
  refine J_iload 0 (gxd kX0_clear 2 rfl) rfl rfl ?_
  refine J_bipush (v := 8) (gxd kX0_clear 3 rfl) (by decide) ?_
  refine J_icmp_ge (gxd kX0_clear 4 rfl) (tgt := 23) rfl (fun z => absurd (by decide) z) (fun _ => ?_)
  refine J_aload 1 (gxd kX0_clear 5 rfl) rfl rfl ?_
  refine J_get 0 (gxd kX0_clear 6 rfl) jF_RX0_9 rfl rfl jK_RX0_9 ?_
  refine J_iload 0 (gxd kX0_clear 7 rfl) rfl rfl ?_
  refine J_sipush (v := 1023) (gxd kX0_clear 8 rfl) (by decide) ?_
  refine J_iast2 (N := 9) (kn := 5) 1 (gxd kX0_clear 9 rfl) rfl (by decide) (by decide) ?_
  dsimp only [List.set_cons_zero, List.set_cons_succ, List.cons_append, List.nil_append]
  refine J_iinc 0 (w := 6) (la2 := [(2, .int 6), (0, .ref h0), (1, .int 0)]) (gxd kX0_clear 10 rfl) rfl (by decide) (by decide) rfl ?_
  refine J_goto (gxd kX0_clear 11 rfl) rfl ?_
  refine J_iload 0 (gxd kX0_clear 2 rfl) rfl rfl ?_
  refine J_bipush (v := 8) (gxd kX0_clear 3 rfl) (by decide) ?_
  refine J_icmp_ge (gxd kX0_clear 4 rfl) (tgt := 23) rfl (fun z => absurd (by decide) z) (fun _ => ?_)
  refine J_aload 1 (gxd kX0_clear 5 rfl) rfl rfl ?_
  refine J_get 0 (gxd kX0_clear 6 rfl) jF_RX0_9 rfl rfl jK_RX0_9 ?_
  refine J_iload 0 (gxd kX0_clear 7 rfl) rfl rfl ?_
  refine J_sipush (v := 1023) (gxd kX0_clear 8 rfl) (by decide) ?_
  refine J_iast2 (N := 9) (kn := 6) 1 (gxd kX0_clear 9 rfl) rfl (by decide) (by decide) ?_
  dsimp only [List.set_cons_zero, List.set_cons_succ, List.cons_append, List.nil_append]
  refine J_iinc 0 (w := 7) (la2 := [(2, .int 7), (0, .ref h0), (1, .int 0)]) (gxd kX0_clear 10 rfl) rfl (by decide) (by decide) rfl ?_
  refine J_goto (gxd kX0_clear 11 rfl) rfl ?_
  refine J_iload 0 (gxd kX0_clear 2 rfl) rfl rfl ?_
  refine J_bipush (v := 8) (gxd kX0_clear 3 rfl) (by decide) ?_
  refine J_icmp_ge (gxd kX0_clear 4 rfl) (tgt := 23) rfl (fun z => absurd (by decide) z) (fun _ => ?_)
  refine J_aload 1 (gxd kX0_clear 5 rfl) rfl rfl ?_
  refine J_get 0 (gxd kX0_clear 6 rfl) jF_RX0_9 rfl rfl jK_RX0_9 ?_
  refine J_iload 0 (gxd kX0_clear 7 rfl) rfl rfl ?_
  refine J_sipush (v := 1023) (gxd kX0_clear 8 rfl) (by decide) ?_
  refine J_iast2 (N := 9) (kn := 7) 1 (gxd kX0_clear 9 rfl) rfl (by decide) (by decide) ?_
  dsimp only [List.set_cons_zero, List.set_cons_succ, List.cons_append, List.nil_append]
  refine J_iinc 0 (w := 8) (la2 := [(2, .int 8), (0, .ref h0), (1, .int 0)]) (gxd kX0_clear 10 rfl) rfl (by decide) (by decide) rfl ?_
  refine J_goto (gxd kX0_clear 11 rfl) rfl ?_
  refine J_iload 0 (gxd kX0_clear 2 rfl) rfl rfl ?_
  refine J_bipush (v := 8) (gxd kX0_clear 3 rfl) (by decide) ?_
  refine J_icmp_ge (gxd kX0_clear 4 rfl) (tgt := 23) rfl (fun _ => ?_) (fun z => absurd z (by decide))
  refine J_aload 1 (gxd kX0_clear 12 rfl) rfl rfl ?_
  refine J_iconst (v := 0) (gxd kX0_clear 13 rfl) (by decide) ?_
  refine J_put 0 (gxd kX0_clear 14 rfl) jF_RX0_32 jP_RX0_32 rfl rfl rfl (Nat.le_of_ble_eq_true rfl) jK_RX0_32 ?_
  dsimp only [List.set_cons_zero, List.set_cons_succ, List.cons_append, List.nil_append]
  refine J_aload 1 (gxd kX0_clear 15 rfl) rfl rfl ?_
  refine J_iload 2 (gxd kX0_clear 16 rfl) rfl rfl ?_
  refine J_put 0 (gxd kX0_clear 17 rfl) jF_RX0_36 jP_RX0_36 rfl rfl rfl (Nat.le_of_ble_eq_true rfl) jK_RX0_36 ?_
  dsimp only [List.set_cons_zero, List.set_cons_succ, List.cons_append, List.nil_append]
  refine J_aload 1 (gxd kX0_clear 18 rfl) rfl rfl ?_
  refine J_iconst (v := 0) (gxd kX0_clear 19 rfl) (by decide) ?_
  refine J_put 0 (gxd kX0_clear 20 rfl) jF_RX0_39 jP_RX0_39 rfl rfl rfl (Nat.le_of_ble_eq_true rfl) jK_RX0_39 ?_
  dsimp only [List.set_cons_zero, List.set_cons_succ, List.cons_append, List.nil_append]
  refine J_aload 1 (gxd kX0_clear 21 rfl) rfl rfl ?_
  refine J_iconst (v := 0) (gxd kX0_clear 22 rfl) (by decide) ?_
  refine J_put 0 (gxd kX0_clear 23 rfl) jF_RX0_42 jP_RX0_42 rfl rfl rfl (Nat.le_of_ble_eq_true rfl) jK_RX0_42 ?_
  dsimp only [List.set_cons_zero, List.set_cons_succ, List.cons_append, List.nil_append]
  refine J_vret (gxd kX0_clear 24 rfl) ⟨_, fun x hx => ?_, ?_, rfl⟩ rfl rfl
  · have e : x = 0 ∨ x = 1 ∨ x = 2 ∨ x = 3 ∨ x = 4 ∨ x = 5 ∨ x = 6 ∨ x = 7 := by omega
    rcases e with e | e | e | e | e | e | e | e <;> subst e <;> rfl
  · rfl
theorem c_X1_init (D : va_G) (ct : ClassId × ClassId × ClassId) {h0 : Nat} : jC yX1_init cX1_init 1 { frames := 1, cells := 5, slots := 48, locals := 12 } 5 48 D ct [.ref h0] [(h0, .inr (1, fz1))] (fun ws => ∃ q1 q2 q3 q4 q5 : Nat, ws = [(h0, .inr (1, [.ref q1, .ref q2, .ref q3, .ref q4, .ref q5, .int 0, .int 0])), (q1, .inl (ct.1, 12, .inl (fun _ => 0))), (q2, .inl (ct.1, 12, .inl (fun _ => 0))), (q3, .inl (ct.1, 8, .inl (fun _ => 0))), (q4, .inl (ct.1, 8, .inl (fun _ => 0))), (q5, .inl (ct.1, 8, .inl (fun _ => 0)))]) := by
  refine jC_of (ini := true) (by decide +kernel) (Nat.le_of_ble_eq_true rfl) (fun _ => rfl) ?_
  refine J_aload 0 (gxd kX1_init 0 rfl) rfl rfl ?_
  refine J_objInit (gxd kX1_init 1 rfl) jO_RX1_3 (Nat.le_of_ble_eq_true rfl) (Nat.le_of_ble_eq_true rfl) ?_
  refine J_aload 0 (gxd kX1_init 2 rfl) rfl rfl ?_
  refine J_bipush (v := 12) (gxd kX1_init 3 rfl) (by decide) ?_
  refine J_newi (N := 12) (gxd kX1_init 4 rfl) jAi (by decide) (by decide) (Nat.le_of_ble_eq_true rfl) (Nat.le_of_ble_eq_true rfl) (Nat.le_of_ble_eq_true rfl) (fun q1 => ?_)
  refine J_putF 0 (gxd kX1_init 5 rfl) jF_RX1_9 jP_RX1_9 rfl rfl rfl (Nat.le_of_ble_eq_true rfl) rfl jK_RX1_9 ?_
  dsimp only [List.set_cons_zero, List.set_cons_succ, List.cons_append, List.nil_append]
  refine J_aload 0 (gxd kX1_init 6 rfl) rfl rfl ?_
  refine J_bipush (v := 12) (gxd kX1_init 7 rfl) (by decide) ?_
  refine J_newi (N := 12) (gxd kX1_init 8 rfl) jAi (by decide) (by decide) (Nat.le_of_ble_eq_true rfl) (Nat.le_of_ble_eq_true rfl) (Nat.le_of_ble_eq_true rfl) (fun q2 => ?_)
  refine J_putF 0 (gxd kX1_init 9 rfl) jF_RX1_15 jP_RX1_15 rfl rfl rfl (Nat.le_of_ble_eq_true rfl) rfl jK_RX1_15 ?_
  dsimp only [List.set_cons_zero, List.set_cons_succ, List.cons_append, List.nil_append]
  refine J_aload 0 (gxd kX1_init 10 rfl) rfl rfl ?_
  refine J_bipush (v := 8) (gxd kX1_init 11 rfl) (by decide) ?_
  refine J_newi (N := 8) (gxd kX1_init 12 rfl) jAi (by decide) (by decide) (Nat.le_of_ble_eq_true rfl) (Nat.le_of_ble_eq_true rfl) (Nat.le_of_ble_eq_true rfl) (fun q3 => ?_)
  refine J_putF 0 (gxd kX1_init 13 rfl) jF_RX1_18 jP_RX1_18 rfl rfl rfl (Nat.le_of_ble_eq_true rfl) rfl jK_RX1_18 ?_
  dsimp only [List.set_cons_zero, List.set_cons_succ, List.cons_append, List.nil_append]
  refine J_aload 0 (gxd kX1_init 14 rfl) rfl rfl ?_
  refine J_bipush (v := 8) (gxd kX1_init 15 rfl) (by decide) ?_
  refine J_newi (N := 8) (gxd kX1_init 16 rfl) jAi (by decide) (by decide) (Nat.le_of_ble_eq_true rfl) (Nat.le_of_ble_eq_true rfl) (Nat.le_of_ble_eq_true rfl) (fun q4 => ?_)
  refine J_putF 0 (gxd kX1_init 17 rfl) jF_RX1_21 jP_RX1_21 rfl rfl rfl (Nat.le_of_ble_eq_true rfl) rfl jK_RX1_21 ?_
  dsimp only [List.set_cons_zero, List.set_cons_succ, List.cons_append, List.nil_append]
  refine J_aload 0 (gxd kX1_init 18 rfl) rfl rfl ?_
  refine J_bipush (v := 8) (gxd kX1_init 19 rfl) (by decide) ?_
  refine J_newi (N := 8) (gxd kX1_init 20 rfl) jAi (by decide) (by decide) (Nat.le_of_ble_eq_true rfl) (Nat.le_of_ble_eq_true rfl) (Nat.le_of_ble_eq_true rfl) (fun q5 => ?_)
  refine J_putF 0 (gxd kX1_init 21 rfl) jF_RX1_24 jP_RX1_24 rfl rfl rfl (Nat.le_of_ble_eq_true rfl) rfl jK_RX1_24 ?_
  dsimp only [List.set_cons_zero, List.set_cons_succ, List.cons_append, List.nil_append]
  exact J_vret (gxd kX1_init 22 rfl) ⟨q1, q2, q3, q4, q5, rfl⟩ rfl rfl
theorem c_X2_init (D : va_G) (ct : ClassId × ClassId × ClassId) {h0 : Nat} : jC yX2_init cX2_init 1 { frames := 1, cells := 6, slots := 543, locals := 12 } 6 543 D ct [.ref h0] [(h0, .inr (2, fz2))] (fun ws => ∃ q1 q2 q3 q4 q5 q6 : Nat, ws = [(h0, .inr (2, [.ref q1, .ref q2, .ref q3, .ref q4, .ref q5, .ref q6, .int 0, .int 0, .int 0, .int 0, .int 0, .int 0, .int 0, .int 0])), (q1, .inl (ct.1, 90, .inl (fun _ => 0))), (q2, .inl (ct.1, 91, .inl (fun _ => 0))), (q3, .inl (ct.1, 91, .inl (fun _ => 0))), (q4, .inl (ct.1, 91, .inl (fun _ => 0))), (q5, .inl (ct.1, 90, .inl (fun _ => 0))), (q6, .inl (ct.1, 90, .inl (fun _ => 0)))]) := by
  refine jC_of (ini := true) (by decide +kernel) (Nat.le_of_ble_eq_true rfl) (fun _ => rfl) ?_
  refine J_aload 0 (gxd kX2_init 0 rfl) rfl rfl ?_
  refine J_objInit (gxd kX2_init 1 rfl) jO_RX2_5 (Nat.le_of_ble_eq_true rfl) (Nat.le_of_ble_eq_true rfl) ?_
  refine J_aload 0 (gxd kX2_init 2 rfl) rfl rfl ?_
  refine J_bipush (v := 90) (gxd kX2_init 3 rfl) (by decide) ?_
  refine J_newi (N := 90) (gxd kX2_init 4 rfl) jAi (by decide) (by decide) (Nat.le_of_ble_eq_true rfl) (Nat.le_of_ble_eq_true rfl) (Nat.le_of_ble_eq_true rfl) (fun q1 => ?_)
  refine J_putF 0 (gxd kX2_init 5 rfl) jF_RX2_11 jP_RX2_11 rfl rfl rfl (Nat.le_of_ble_eq_true rfl) rfl jK_RX2_11 ?_
  dsimp only [List.set_cons_zero, List.set_cons_succ, List.cons_append, List.nil_append]
  refine J_aload 0 (gxd kX2_init 6 rfl) rfl rfl ?_
  refine J_bipush (v := 91) (gxd kX2_init 7 rfl) (by decide) ?_
  refine J_newi (N := 91) (gxd kX2_init 8 rfl) jAi (by decide) (by decide) (Nat.le_of_ble_eq_true rfl) (Nat.le_of_ble_eq_true rfl) (Nat.le_of_ble_eq_true rfl) (fun q2 => ?_)
  refine J_putF 0 (gxd kX2_init 9 rfl) jF_RX2_15 jP_RX2_15 rfl rfl rfl (Nat.le_of_ble_eq_true rfl) rfl jK_RX2_15 ?_
  dsimp only [List.set_cons_zero, List.set_cons_succ, List.cons_append, List.nil_append]
  refine J_aload 0 (gxd kX2_init 10 rfl) rfl rfl ?_
  refine J_bipush (v := 91) (gxd kX2_init 11 rfl) (by decide) ?_
  refine J_newi (N := 91) (gxd kX2_init 12 rfl) jAi (by decide) (by decide) (Nat.le_of_ble_eq_true rfl) (Nat.le_of_ble_eq_true rfl) (Nat.le_of_ble_eq_true rfl) (fun q3 => ?_)
  refine J_putF 0 (gxd kX2_init 13 rfl) jF_RX2_18 jP_RX2_18 rfl rfl rfl (Nat.le_of_ble_eq_true rfl) rfl jK_RX2_18 ?_
  dsimp only [List.set_cons_zero, List.set_cons_succ, List.cons_append, List.nil_append]
  refine J_aload 0 (gxd kX2_init 14 rfl) rfl rfl ?_
  refine J_bipush (v := 91) (gxd kX2_init 15 rfl) (by decide) ?_
  refine J_newi (N := 91) (gxd kX2_init 16 rfl) jAi (by decide) (by decide) (Nat.le_of_ble_eq_true rfl) (Nat.le_of_ble_eq_true rfl) (Nat.le_of_ble_eq_true rfl) (fun q4 => ?_)
  refine J_putF 0 (gxd kX2_init 17 rfl) jF_RX2_21 jP_RX2_21 rfl rfl rfl (Nat.le_of_ble_eq_true rfl) rfl jK_RX2_21 ?_
  dsimp only [List.set_cons_zero, List.set_cons_succ, List.cons_append, List.nil_append]
  refine J_aload 0 (gxd kX2_init 18 rfl) rfl rfl ?_
  refine J_bipush (v := 90) (gxd kX2_init 19 rfl) (by decide) ?_
  refine J_newi (N := 90) (gxd kX2_init 20 rfl) jAi (by decide) (by decide) (Nat.le_of_ble_eq_true rfl) (Nat.le_of_ble_eq_true rfl) (Nat.le_of_ble_eq_true rfl) (fun q5 => ?_)
  refine J_putF 0 (gxd kX2_init 21 rfl) jF_RX2_24 jP_RX2_24 rfl rfl rfl (Nat.le_of_ble_eq_true rfl) rfl jK_RX2_24 ?_
  dsimp only [List.set_cons_zero, List.set_cons_succ, List.cons_append, List.nil_append]
  refine J_aload 0 (gxd kX2_init 22 rfl) rfl rfl ?_
  refine J_bipush (v := 90) (gxd kX2_init 23 rfl) (by decide) ?_
  refine J_newi (N := 90) (gxd kX2_init 24 rfl) jAi (by decide) (by decide) (Nat.le_of_ble_eq_true rfl) (Nat.le_of_ble_eq_true rfl) (Nat.le_of_ble_eq_true rfl) (fun q6 => ?_)
  refine J_putF 0 (gxd kX2_init 25 rfl) jF_RX2_27 jP_RX2_27 rfl rfl rfl (Nat.le_of_ble_eq_true rfl) rfl jK_RX2_27 ?_
  dsimp only [List.set_cons_zero, List.set_cons_succ, List.cons_append, List.nil_append]
  exact J_vret (gxd kX2_init 26 rfl) ⟨q1, q2, q3, q4, q5, q6, rfl⟩ rfl rfl
theorem c_X3_init (D : va_G) (ct : ClassId × ClassId × ClassId) {h0 : Nat} : jC yX3_init cX3_init 1 { frames := 1, cells := 8, slots := 1793, locals := 12 } 8 1793 D ct [.ref h0] [(h0, .inr (3, fz3))] (fun ws => ∃ q1 q2 q3 q4 q5 q6 q7 q8 : Nat, ws = [(h0, .inr (3, [.ref q1, .ref q2, .ref q3, .ref q4, .ref q5, .ref q6, .ref q7, .ref q8, .int 0])), (q1, .inl (ct.1, 16, .inl (fun _ => 0))), (q2, .inl (ct.1, 24, .inl (fun _ => 0))), (q3, .inl (ct.1, 24, .inl (fun _ => 0))), (q4, .inl (ct.1, 8, .inl (fun _ => 0))), (q5, .inl (ct.1, 48, .inl (fun _ => 0))), (q6, .inl (ct.1, 1600, .inl (fun _ => 0))), (q7, .inl (ct.1, 64, .inl (fun _ => 0))), (q8, .inl (ct.1, 9, .inl (fun _ => 0)))]) := by
  refine jC_of (ini := true) (by decide +kernel) (Nat.le_of_ble_eq_true rfl) (fun _ => rfl) ?_
  refine J_aload 0 (gxd kX3_init 0 rfl) rfl rfl ?_
  refine J_objInit (gxd kX3_init 1 rfl) jO_RX3_3 (Nat.le_of_ble_eq_true rfl) (Nat.le_of_ble_eq_true rfl) ?_
  refine J_aload 0 (gxd kX3_init 2 rfl) rfl rfl ?_
  refine J_bipush (v := 16) (gxd kX3_init 3 rfl) (by decide) ?_
  refine J_newi (N := 16) (gxd kX3_init 4 rfl) jAi (by decide) (by decide) (Nat.le_of_ble_eq_true rfl) (Nat.le_of_ble_eq_true rfl) (Nat.le_of_ble_eq_true rfl) (fun q1 => ?_)
  refine J_putF 0 (gxd kX3_init 5 rfl) jF_RX3_9 jP_RX3_9 rfl rfl rfl (Nat.le_of_ble_eq_true rfl) rfl jK_RX3_9 ?_
  dsimp only [List.set_cons_zero, List.set_cons_succ, List.cons_append, List.nil_append]
  refine J_aload 0 (gxd kX3_init 6 rfl) rfl rfl ?_
  refine J_bipush (v := 24) (gxd kX3_init 7 rfl) (by decide) ?_
  refine J_newi (N := 24) (gxd kX3_init 8 rfl) jAi (by decide) (by decide) (Nat.le_of_ble_eq_true rfl) (Nat.le_of_ble_eq_true rfl) (Nat.le_of_ble_eq_true rfl) (fun q2 => ?_)
  refine J_putF 0 (gxd kX3_init 9 rfl) jF_RX3_15 jP_RX3_15 rfl rfl rfl (Nat.le_of_ble_eq_true rfl) rfl jK_RX3_15 ?_
  dsimp only [List.set_cons_zero, List.set_cons_succ, List.cons_append, List.nil_append]
  refine J_aload 0 (gxd kX3_init 10 rfl) rfl rfl ?_
  refine J_bipush (v := 24) (gxd kX3_init 11 rfl) (by decide) ?_
  refine J_newi (N := 24) (gxd kX3_init 12 rfl) jAi (by decide) (by decide) (Nat.le_of_ble_eq_true rfl) (Nat.le_of_ble_eq_true rfl) (Nat.le_of_ble_eq_true rfl) (fun q3 => ?_)
  refine J_putF 0 (gxd kX3_init 13 rfl) jF_RX3_18 jP_RX3_18 rfl rfl rfl (Nat.le_of_ble_eq_true rfl) rfl jK_RX3_18 ?_
  dsimp only [List.set_cons_zero, List.set_cons_succ, List.cons_append, List.nil_append]
  refine J_aload 0 (gxd kX3_init 14 rfl) rfl rfl ?_
  refine J_bipush (v := 8) (gxd kX3_init 15 rfl) (by decide) ?_
  refine J_newi (N := 8) (gxd kX3_init 16 rfl) jAi (by decide) (by decide) (Nat.le_of_ble_eq_true rfl) (Nat.le_of_ble_eq_true rfl) (Nat.le_of_ble_eq_true rfl) (fun q4 => ?_)
  refine J_putF 0 (gxd kX3_init 17 rfl) jF_RX3_21 jP_RX3_21 rfl rfl rfl (Nat.le_of_ble_eq_true rfl) rfl jK_RX3_21 ?_
  dsimp only [List.set_cons_zero, List.set_cons_succ, List.cons_append, List.nil_append]
  refine J_aload 0 (gxd kX3_init 18 rfl) rfl rfl ?_
  refine J_bipush (v := 48) (gxd kX3_init 19 rfl) (by decide) ?_
  refine J_newi (N := 48) (gxd kX3_init 20 rfl) jAi (by decide) (by decide) (Nat.le_of_ble_eq_true rfl) (Nat.le_of_ble_eq_true rfl) (Nat.le_of_ble_eq_true rfl) (fun q5 => ?_)
  refine J_putF 0 (gxd kX3_init 21 rfl) jF_RX3_24 jP_RX3_24 rfl rfl rfl (Nat.le_of_ble_eq_true rfl) rfl jK_RX3_24 ?_
  dsimp only [List.set_cons_zero, List.set_cons_succ, List.cons_append, List.nil_append]
  refine J_aload 0 (gxd kX3_init 22 rfl) rfl rfl ?_
  refine J_sipush (v := 1600) (gxd kX3_init 23 rfl) (by decide) ?_
  refine J_newi (N := 1600) (gxd kX3_init 24 rfl) jAi (by decide) (by decide) (Nat.le_of_ble_eq_true rfl) (Nat.le_of_ble_eq_true rfl) (Nat.le_of_ble_eq_true rfl) (fun q6 => ?_)
  refine J_putF 0 (gxd kX3_init 25 rfl) jF_RX3_27 jP_RX3_27 rfl rfl rfl (Nat.le_of_ble_eq_true rfl) rfl jK_RX3_27 ?_
  dsimp only [List.set_cons_zero, List.set_cons_succ, List.cons_append, List.nil_append]
  refine J_aload 0 (gxd kX3_init 26 rfl) rfl rfl ?_
  refine J_bipush (v := 64) (gxd kX3_init 27 rfl) (by decide) ?_
  refine J_newi (N := 64) (gxd kX3_init 28 rfl) jAi (by decide) (by decide) (Nat.le_of_ble_eq_true rfl) (Nat.le_of_ble_eq_true rfl) (Nat.le_of_ble_eq_true rfl) (fun q7 => ?_)
  refine J_putF 0 (gxd kX3_init 29 rfl) jF_RX3_30 jP_RX3_30 rfl rfl rfl (Nat.le_of_ble_eq_true rfl) rfl jK_RX3_30 ?_
  dsimp only [List.set_cons_zero, List.set_cons_succ, List.cons_append, List.nil_append]
  refine J_aload 0 (gxd kX3_init 30 rfl) rfl rfl ?_
  refine J_bipush (v := 9) (gxd kX3_init 31 rfl) (by decide) ?_
  refine J_newi (N := 9) (gxd kX3_init 32 rfl) jAi (by decide) (by decide) (Nat.le_of_ble_eq_true rfl) (Nat.le_of_ble_eq_true rfl) (Nat.le_of_ble_eq_true rfl) (fun q8 => ?_)
  refine J_putF 0 (gxd kX3_init 33 rfl) jF_RX3_33 jP_RX3_33 rfl rfl rfl (Nat.le_of_ble_eq_true rfl) rfl jK_RX3_33 ?_
  dsimp only [List.set_cons_zero, List.set_cons_succ, List.cons_append, List.nil_append]
  exact J_vret (gxd kX3_init 34 rfl) ⟨q1, q2, q3, q4, q5, q6, q7, q8, rfl⟩ rfl rfl
theorem c_X4_init (D : va_G) (ct : ClassId × ClassId × ClassId) {h0 a1 a2 a3 a4 : Nat} : jC yX4_init cX4_init 5 { frames := 1, cells := 5, slots := 40, locals := 12 } 5 40 D ct [.ref h0, .ref a1, .ref a2, .ref a3, .ref a4] [(h0, .inr (4, fz4))] (fun ws => ∃ q1 q2 q3 q4 q5 : Nat, ws = [(h0, .inr (4, [.ref a1, .ref a2, .ref a3, .ref a4, .ref q1, .ref q2, .ref q3, .ref q4, .ref q5, .int 0, .int 0, .int 0, .int 0, .int 0, .int 0])), (q1, .inl (ct.1, 8, .inl (fun _ => 0))), (q2, .inl (ct.1, 8, .inl (fun _ => 0))), (q3, .inl (ct.1, 8, .inl (fun _ => 0))), (q4, .inl (ct.1, 8, .inl (fun _ => 0))), (q5, .inl (ct.1, 8, .inl (fun _ => 0)))]) := by
  refine jC_of (ini := true) (by decide +kernel) (Nat.le_of_ble_eq_true rfl) (fun _ => rfl) ?_
  refine J_aload 0 (gxd kX4_init 0 rfl) rfl rfl ?_
  refine J_objInit (gxd kX4_init 1 rfl) jO_RX4_3 (Nat.le_of_ble_eq_true rfl) (Nat.le_of_ble_eq_true rfl) ?_
  refine J_aload 0 (gxd kX4_init 2 rfl) rfl rfl ?_
  refine J_bipush (v := 8) (gxd kX4_init 3 rfl) (by decide) ?_
  refine J_newi (N := 8) (gxd kX4_init 4 rfl) jAi (by decide) (by decide) (Nat.le_of_ble_eq_true rfl) (Nat.le_of_ble_eq_true rfl) (Nat.le_of_ble_eq_true rfl) (fun q1 => ?_)
  refine J_putF 0 (gxd kX4_init 5 rfl) jF_RX4_9 jP_RX4_9 rfl rfl rfl (Nat.le_of_ble_eq_true rfl) rfl jK_RX4_9 ?_
  dsimp only [List.set_cons_zero, List.set_cons_succ, List.cons_append, List.nil_append]
  refine J_aload 0 (gxd kX4_init 6 rfl) rfl rfl ?_
  refine J_bipush (v := 8) (gxd kX4_init 7 rfl) (by decide) ?_
  refine J_newi (N := 8) (gxd kX4_init 8 rfl) jAi (by decide) (by decide) (Nat.le_of_ble_eq_true rfl) (Nat.le_of_ble_eq_true rfl) (Nat.le_of_ble_eq_true rfl) (fun q2 => ?_)
  refine J_putF 0 (gxd kX4_init 9 rfl) jF_RX4_15 jP_RX4_15 rfl rfl rfl (Nat.le_of_ble_eq_true rfl) rfl jK_RX4_15 ?_
  dsimp only [List.set_cons_zero, List.set_cons_succ, List.cons_append, List.nil_append]
  refine J_aload 0 (gxd kX4_init 10 rfl) rfl rfl ?_
  refine J_bipush (v := 8) (gxd kX4_init 11 rfl) (by decide) ?_
  refine J_newi (N := 8) (gxd kX4_init 12 rfl) jAi (by decide) (by decide) (Nat.le_of_ble_eq_true rfl) (Nat.le_of_ble_eq_true rfl) (Nat.le_of_ble_eq_true rfl) (fun q3 => ?_)
  refine J_putF 0 (gxd kX4_init 13 rfl) jF_RX4_18 jP_RX4_18 rfl rfl rfl (Nat.le_of_ble_eq_true rfl) rfl jK_RX4_18 ?_
  dsimp only [List.set_cons_zero, List.set_cons_succ, List.cons_append, List.nil_append]
  refine J_aload 0 (gxd kX4_init 14 rfl) rfl rfl ?_
  refine J_bipush (v := 8) (gxd kX4_init 15 rfl) (by decide) ?_
  refine J_newi (N := 8) (gxd kX4_init 16 rfl) jAi (by decide) (by decide) (Nat.le_of_ble_eq_true rfl) (Nat.le_of_ble_eq_true rfl) (Nat.le_of_ble_eq_true rfl) (fun q4 => ?_)
  refine J_putF 0 (gxd kX4_init 17 rfl) jF_RX4_21 jP_RX4_21 rfl rfl rfl (Nat.le_of_ble_eq_true rfl) rfl jK_RX4_21 ?_
  dsimp only [List.set_cons_zero, List.set_cons_succ, List.cons_append, List.nil_append]
  refine J_aload 0 (gxd kX4_init 18 rfl) rfl rfl ?_
  refine J_bipush (v := 8) (gxd kX4_init 19 rfl) (by decide) ?_
  refine J_newi (N := 8) (gxd kX4_init 20 rfl) jAi (by decide) (by decide) (Nat.le_of_ble_eq_true rfl) (Nat.le_of_ble_eq_true rfl) (Nat.le_of_ble_eq_true rfl) (fun q5 => ?_)
  refine J_putF 0 (gxd kX4_init 21 rfl) jF_RX4_24 jP_RX4_24 rfl rfl rfl (Nat.le_of_ble_eq_true rfl) rfl jK_RX4_24 ?_
  dsimp only [List.set_cons_zero, List.set_cons_succ, List.cons_append, List.nil_append]
  refine J_aload 0 (gxd kX4_init 22 rfl) rfl rfl ?_
  refine J_aload 1 (gxd kX4_init 23 rfl) rfl rfl ?_
  refine J_putF 0 (gxd kX4_init 24 rfl) jF_RX4_27 jP_RX4_27 rfl rfl rfl (Nat.le_of_ble_eq_true rfl) rfl jK_RX4_27 ?_
  dsimp only [List.set_cons_zero, List.set_cons_succ, List.cons_append, List.nil_append]
  refine J_aload 0 (gxd kX4_init 25 rfl) rfl rfl ?_
  refine J_aload 2 (gxd kX4_init 26 rfl) rfl rfl ?_
  refine J_putF 0 (gxd kX4_init 27 rfl) jF_RX4_31 jP_RX4_31 rfl rfl rfl (Nat.le_of_ble_eq_true rfl) rfl jK_RX4_31 ?_
  dsimp only [List.set_cons_zero, List.set_cons_succ, List.cons_append, List.nil_append]
  refine J_aload 0 (gxd kX4_init 28 rfl) rfl rfl ?_
  refine J_aload 3 (gxd kX4_init 29 rfl) rfl rfl ?_
  refine J_putF 0 (gxd kX4_init 30 rfl) jF_RX4_35 jP_RX4_35 rfl rfl rfl (Nat.le_of_ble_eq_true rfl) rfl jK_RX4_35 ?_
  dsimp only [List.set_cons_zero, List.set_cons_succ, List.cons_append, List.nil_append]
  refine J_aload 0 (gxd kX4_init 31 rfl) rfl rfl ?_
  refine J_aload4 4 (gxd kX4_init 32 rfl) rfl ?_
  refine J_putF 0 (gxd kX4_init 33 rfl) jF_RX4_39 jP_RX4_39 rfl rfl rfl (Nat.le_of_ble_eq_true rfl) rfl jK_RX4_39 ?_
  dsimp only [List.set_cons_zero, List.set_cons_succ, List.cons_append, List.nil_append]
  exact J_vret (gxd kX4_init 34 rfl) ⟨q1, q2, q3, q4, q5, rfl⟩ rfl rfl
theorem c_X5_init (D : va_G) (ct : ClassId × ClassId × ClassId) {h0 : Nat} : jC yX5_init cX5_init 1 { frames := 1, cells := 1, slots := 40, locals := 12 } 1 40 D ct [.ref h0] [(h0, .inr (5, fz5))] (fun ws => ∃ q1 : Nat, ws = [(h0, .inr (5, [.ref q1, .int (-1), .int 0])), (q1, .inl (ct.1, 40, .inl (fun _ => 0)))]) := by
  refine jC_of (ini := true) (by decide +kernel) (Nat.le_of_ble_eq_true rfl) (fun _ => rfl) ?_
  refine J_aload 0 (gxd kX5_init 0 rfl) rfl rfl ?_
  refine J_objInit (gxd kX5_init 1 rfl) jO_RX5_3 (Nat.le_of_ble_eq_true rfl) (Nat.le_of_ble_eq_true rfl) ?_
  refine J_aload 0 (gxd kX5_init 2 rfl) rfl rfl ?_
  refine J_bipush (v := 40) (gxd kX5_init 3 rfl) (by decide) ?_
  refine J_newi (N := 40) (gxd kX5_init 4 rfl) jAi (by decide) (by decide) (Nat.le_of_ble_eq_true rfl) (Nat.le_of_ble_eq_true rfl) (Nat.le_of_ble_eq_true rfl) (fun q1 => ?_)
  refine J_putF 0 (gxd kX5_init 5 rfl) jF_RX5_9 jP_RX5_9 rfl rfl rfl (Nat.le_of_ble_eq_true rfl) rfl jK_RX5_9 ?_
  dsimp only [List.set_cons_zero, List.set_cons_succ, List.cons_append, List.nil_append]
  refine J_aload 0 (gxd kX5_init 6 rfl) rfl rfl ?_
  refine J_iconst (v := (-1)) (gxd kX5_init 7 rfl) (by decide) ?_
  refine J_put 0 (gxd kX5_init 8 rfl) jF_RX5_15 jP_RX5_15 rfl rfl rfl (Nat.le_of_ble_eq_true rfl) jK_RX5_15 ?_
  dsimp only [List.set_cons_zero, List.set_cons_succ, List.cons_append, List.nil_append]
  exact J_vret (gxd kX5_init 9 rfl) ⟨q1, rfl⟩ rfl rfl
theorem c_X0_init (D : va_G) (ct : ClassId × ClassId × ClassId) {h0 hr : Nat} : jC yX0_init cX0_init 2 { frames := 1, cells := 4, slots := 178, locals := 22 } 4 178 D ct [.ref h0, .ref hr] [(h0, .inr (0, fz0))] (fun ws => ∃ (q1 q2 q3 q4 : Nat) (f : Nat → Int32), (∀ x, x < 8 → f x = 1023) ∧ f 8 = 1 ∧ ws = [(q2, .inl (ct.1, 9, .inl (fun _ => 0))), (q3, .inl (ct.1, 80, .inl (fun _ => 0))), (q4, .inl (ct.1, 80, .inl (fun _ => 0)))] ++ [(h0, .inr (0, [.ref hr, .ref q1, .ref q2, .ref q3, .ref q4, .int 0, .int 0, .int 0, .int 0, .int 0, .int 0, .int 0])), (q1, .inl (ct.1, 9, .inl f))]) := by
  refine jC_of (ini := true) (by decide +kernel) (Nat.le_of_ble_eq_true rfl) (fun _ => rfl) ?_
  refine J_aload 0 (gxd kX0_init 0 rfl) rfl rfl ?_
  refine J_objInit (gxd kX0_init 1 rfl) jO_RX0_3 (Nat.le_of_ble_eq_true rfl) (Nat.le_of_ble_eq_true rfl) ?_
  refine J_aload 0 (gxd kX0_init 2 rfl) rfl rfl ?_
  refine J_bipush (v := 9) (gxd kX0_init 3 rfl) (by decide) ?_
  refine J_newi (N := 9) (gxd kX0_init 4 rfl) jAi (by decide) (by decide) (Nat.le_of_ble_eq_true rfl) (Nat.le_of_ble_eq_true rfl) (Nat.le_of_ble_eq_true rfl) (fun q1 => ?_)
  refine J_putF 0 (gxd kX0_init 5 rfl) jF_RX0_9 jP_RX0_9 rfl rfl rfl (Nat.le_of_ble_eq_true rfl) rfl jK_RX0_9 ?_
  dsimp only [List.set_cons_zero, List.set_cons_succ, List.cons_append, List.nil_append]
  refine J_aload 0 (gxd kX0_init 6 rfl) rfl rfl ?_
  refine J_bipush (v := 9) (gxd kX0_init 7 rfl) (by decide) ?_
  refine J_newi (N := 9) (gxd kX0_init 8 rfl) jAi (by decide) (by decide) (Nat.le_of_ble_eq_true rfl) (Nat.le_of_ble_eq_true rfl) (Nat.le_of_ble_eq_true rfl) (fun q2 => ?_)
  refine J_putF 0 (gxd kX0_init 9 rfl) jF_RX0_15 jP_RX0_15 rfl rfl rfl (Nat.le_of_ble_eq_true rfl) rfl jK_RX0_15 ?_
  dsimp only [List.set_cons_zero, List.set_cons_succ, List.cons_append, List.nil_append]
  refine J_aload 0 (gxd kX0_init 10 rfl) rfl rfl ?_
  refine J_bipush (v := 80) (gxd kX0_init 11 rfl) (by decide) ?_
  refine J_newi (N := 80) (gxd kX0_init 12 rfl) jAi (by decide) (by decide) (Nat.le_of_ble_eq_true rfl) (Nat.le_of_ble_eq_true rfl) (Nat.le_of_ble_eq_true rfl) (fun q3 => ?_)
  refine J_putF 0 (gxd kX0_init 13 rfl) jF_RX0_18 jP_RX0_18 rfl rfl rfl (Nat.le_of_ble_eq_true rfl) rfl jK_RX0_18 ?_
  dsimp only [List.set_cons_zero, List.set_cons_succ, List.cons_append, List.nil_append]
  refine J_aload 0 (gxd kX0_init 14 rfl) rfl rfl ?_
  refine J_bipush (v := 80) (gxd kX0_init 15 rfl) (by decide) ?_
  refine J_newi (N := 80) (gxd kX0_init 16 rfl) jAi (by decide) (by decide) (Nat.le_of_ble_eq_true rfl) (Nat.le_of_ble_eq_true rfl) (Nat.le_of_ble_eq_true rfl) (fun q4 => ?_)
  refine J_putF 0 (gxd kX0_init 17 rfl) jF_RX0_21 jP_RX0_21 rfl rfl rfl (Nat.le_of_ble_eq_true rfl) rfl jK_RX0_21 ?_
  dsimp only [List.set_cons_zero, List.set_cons_succ, List.cons_append, List.nil_append]
  refine J_aload 0 (gxd kX0_init 18 rfl) rfl rfl ?_
  refine J_aload 1 (gxd kX0_init 19 rfl) rfl rfl ?_
  refine J_putF 0 (gxd kX0_init 20 rfl) jF_RX0_24 jP_RX0_24 rfl rfl rfl (Nat.le_of_ble_eq_true rfl) rfl jK_RX0_24 ?_
  dsimp only [List.set_cons_zero, List.set_cons_succ, List.cons_append, List.nil_append]
  refine J_aload 0 (gxd kX0_init 21 rfl) rfl rfl ?_
  refine J_get 0 (gxd kX0_init 22 rfl) jF_RX0_9 rfl rfl jK_RX0_9 ?_
  refine J_bipush (v := 8) (gxd kX0_init 23 rfl) (by decide) ?_
  refine J_iconst (v := 1) (gxd kX0_init 24 rfl) (by decide) ?_
  refine J_iast2 (N := 9) (kn := 8) 1 (gxd kX0_init 25 rfl) rfl (by decide) (by decide) ?_
  dsimp only [List.set_cons_zero, List.set_cons_succ, List.cons_append, List.nil_append]
  refine J_aload 0 (gxd kX0_init 26 rfl) rfl rfl ?_
  refine J_iconst (v := 0) (gxd kX0_init 27 rfl) (by decide) ?_
  refine J_callV (T := TX0) (N1 := 12) (ci := 0) (As := [.int 0]) (rest := []) (wr := [(q2, .inl (ct.1, 9, .inl (fun _ => 0))), (q3, .inl (ct.1, 80, .inl (fun _ => 0))), (q4, .inl (ct.1, 80, .inl (fun _ => 0)))]) [0, 1] [2, 3, 4] (gxd kX0_init 28 rfl) jV_clear wX0_clear rfl rfl rfl rfl (by decide) ⟨(Nat.le_of_ble_eq_true rfl), (Nat.le_of_ble_eq_true rfl)⟩ rfl rfl ⟨(Nat.le_of_ble_eq_true rfl), (Nat.le_of_ble_eq_true rfl)⟩ (c_clear D ct) rfl rfl rfl rfl (by decide) ?_
  rintro w1 ⟨f2, e1, e2, rfl⟩
  exact J_vret (gxd kX0_init 29 rfl) ⟨q1, q2, q3, q4, f2, e1, e2, rfl⟩ rfl rfl
def bX6 (ct : ClassId × ClassId × ClassId) (h0 : Nat) : va_W → Prop := fun ws => ∃ (o1 o1q1 o1q2 o1q3 o1q4 o1q5 o1q6 o1q7 o1q8 o2 o2q1 o2q2 o2q3 o2q4 o2q5 o2q6 o3 o3q1 o3q2 o3q3 o3q4 o4 o4q1 o4q2 o4q3 o4q4 o4q5 o5 o5q1 o5q2 o5q3 o5q4 o6 o6q1 o6q2 o6q3 o6q4 o7 o7q1 o7q2 o7q3 o7q4 o7q5 o8 o8q1 o8q2 o8q3 o8q4 o9 o9q1 o9q2 o9q3 o9q4 o9q5 qs o10 o10q1 o11 o11q1 o12 o12q1 o13 o13q1 qt : Nat) (o3f : Nat → Int32) (o5f : Nat → Int32) (o6f : Nat → Int32) (o8f : Nat → Int32) (sf : Nat → Option Nat), (∀ x, x < 8 → o3f x = 1023) ∧ o3f 8 = 1 ∧ (∀ x, x < 8 → o5f x = 1023) ∧ o5f 8 = 1 ∧ (∀ x, x < 8 → o6f x = 1023) ∧ o6f 8 = 1 ∧ (∀ x, x < 8 → o8f x = 1023) ∧ o8f 8 = 1 ∧ (sf 0 = some o10 ∧ sf 1 = some o11 ∧ sf 2 = some o12 ∧ sf 3 = some o13 ∧ ∀ j, 4 ≤ j → sf j = none) ∧ ws = [(h0, .inr (6, [.ref o1, .ref o2, .ref o3, .ref o4, .ref o5, .ref o6, .ref o7, .ref o8, .ref o9, .ref qs, .ref qt, .int 0, .int 0])), (o1, .inr (3, [.ref o1q1, .ref o1q2, .ref o1q3, .ref o1q4, .ref o1q5, .ref o1q6, .ref o1q7, .ref o1q8, .int 0])), (o1q1, .inl (ct.1, 16, .inl (fun _ => 0))), (o1q2, .inl (ct.1, 24, .inl (fun _ => 0))), (o1q3, .inl (ct.1, 24, .inl (fun _ => 0))), (o1q4, .inl (ct.1, 8, .inl (fun _ => 0))), (o1q5, .inl (ct.1, 48, .inl (fun _ => 0))), (o1q6, .inl (ct.1, 1600, .inl (fun _ => 0))), (o1q7, .inl (ct.1, 64, .inl (fun _ => 0))), (o1q8, .inl (ct.1, 9, .inl (fun _ => 0))), (o2, .inr (2, [.ref o2q1, .ref o2q2, .ref o2q3, .ref o2q4, .ref o2q5, .ref o2q6, .int 0, .int 0, .int 0, .int 0, .int 0, .int 0, .int 0, .int 0])), (o2q1, .inl (ct.1, 90, .inl (fun _ => 0))), (o2q2, .inl (ct.1, 91, .inl (fun _ => 0))), (o2q3, .inl (ct.1, 91, .inl (fun _ => 0))), (o2q4, .inl (ct.1, 91, .inl (fun _ => 0))), (o2q5, .inl (ct.1, 90, .inl (fun _ => 0))), (o2q6, .inl (ct.1, 90, .inl (fun _ => 0))), (o3q2, .inl (ct.1, 9, .inl (fun _ => 0))), (o3q3, .inl (ct.1, 80, .inl (fun _ => 0))), (o3q4, .inl (ct.1, 80, .inl (fun _ => 0))), (o3, .inr (0, [.ref o1, .ref o3q1, .ref o3q2, .ref o3q3, .ref o3q4, .int 0, .int 0, .int 0, .int 0, .int 0, .int 0, .int 0])), (o3q1, .inl (ct.1, 9, .inl (o3f))), (o4, .inr (1, [.ref o4q1, .ref o4q2, .ref o4q3, .ref o4q4, .ref o4q5, .int 0, .int 0])), (o4q1, .inl (ct.1, 12, .inl (fun _ => 0))), (o4q2, .inl (ct.1, 12, .inl (fun _ => 0))), (o4q3, .inl (ct.1, 8, .inl (fun _ => 0))), (o4q4, .inl (ct.1, 8, .inl (fun _ => 0))), (o4q5, .inl (ct.1, 8, .inl (fun _ => 0))), (o5q2, .inl (ct.1, 9, .inl (fun _ => 0))), (o5q3, .inl (ct.1, 80, .inl (fun _ => 0))), (o5q4, .inl (ct.1, 80, .inl (fun _ => 0))), (o5, .inr (0, [.ref o1, .ref o5q1, .ref o5q2, .ref o5q3, .ref o5q4, .int 0, .int 0, .int 0, .int 0, .int 0, .int 0, .int 0])), (o5q1, .inl (ct.1, 9, .inl (o5f))), (o6q2, .inl (ct.1, 9, .inl (fun _ => 0))), (o6q3, .inl (ct.1, 80, .inl (fun _ => 0))), (o6q4, .inl (ct.1, 80, .inl (fun _ => 0))), (o6, .inr (0, [.ref o1, .ref o6q1, .ref o6q2, .ref o6q3, .ref o6q4, .int 0, .int 0, .int 0, .int 0, .int 0, .int 0, .int 0])), (o6q1, .inl (ct.1, 9, .inl (o6f))), (o7, .inr (4, [.ref o1, .ref o4, .ref o5, .ref o6, .ref o7q1, .ref o7q2, .ref o7q3, .ref o7q4, .ref o7q5, .int 0, .int 0, .int 0, .int 0, .int 0, .int 0])), (o7q1, .inl (ct.1, 8, .inl (fun _ => 0))), (o7q2, .inl (ct.1, 8, .inl (fun _ => 0))), (o7q3, .inl (ct.1, 8, .inl (fun _ => 0))), (o7q4, .inl (ct.1, 8, .inl (fun _ => 0))), (o7q5, .inl (ct.1, 8, .inl (fun _ => 0))), (o8q2, .inl (ct.1, 9, .inl (fun _ => 0))), (o8q3, .inl (ct.1, 80, .inl (fun _ => 0))), (o8q4, .inl (ct.1, 80, .inl (fun _ => 0))), (o8, .inr (0, [.ref o1, .ref o8q1, .ref o8q2, .ref o8q3, .ref o8q4, .int 0, .int 0, .int 0, .int 0, .int 0, .int 0, .int 0])), (o8q1, .inl (ct.1, 9, .inl (o8f))), (o9, .inr (1, [.ref o9q1, .ref o9q2, .ref o9q3, .ref o9q4, .ref o9q5, .int 0, .int 0])), (o9q1, .inl (ct.1, 12, .inl (fun _ => 0))), (o9q2, .inl (ct.1, 12, .inl (fun _ => 0))), (o9q3, .inl (ct.1, 8, .inl (fun _ => 0))), (o9q4, .inl (ct.1, 8, .inl (fun _ => 0))), (o9q5, .inl (ct.1, 8, .inl (fun _ => 0))), (qs, .inl (ct.2.2, 4, .inr (.inr (.inr (.inr sf))))), (o10, .inr (5, [.ref o10q1, .int (-1), .int 0])), (o10q1, .inl (ct.1, 40, .inl (fun _ => 0))), (o11, .inr (5, [.ref o11q1, .int (-1), .int 0])), (o11q1, .inl (ct.1, 40, .inl (fun _ => 0))), (o12, .inr (5, [.ref o12q1, .int (-1), .int 0])), (o12q1, .inl (ct.1, 40, .inl (fun _ => 0))), (o13, .inr (5, [.ref o13q1, .int (-1), .int 0])), (o13q1, .inl (ct.1, 40, .inl (fun _ => 0))), (qt, .inl (ct.1, 9, .inl (fun _ => 0)))]
set_option maxHeartbeats 4000000 in
set_option maxRecDepth 100000 in
theorem c_X6_init (D : va_G) (ct : ClassId × ClassId × ClassId) {h0 : Nat} : jC yX6_init cX6_init 2 { frames := 2, cells := 64, slots := 3469, locals := 43 } 64 3469 D ct [.ref h0] [(h0, .inr (6, fz6))] (bX6 ct h0) := by
  refine jC_of (ini := true) (by decide +kernel) (Nat.le_of_ble_eq_true rfl) (fun _ => rfl) ?_
  refine J_aload 0 (gxd kX6_init 0 rfl) rfl rfl ?_
  refine J_objInit (gxd kX6_init 1 rfl) jO_RX6_3 (Nat.le_of_ble_eq_true rfl) (Nat.le_of_ble_eq_true rfl) ?_
  refine J_aload 0 (gxd kX6_init 2 rfl) rfl rfl ?_
  refine J_new (gxd kX6_init 3 rfl) jN_RX6_9 (Nat.le_of_ble_eq_true rfl) (Nat.le_of_ble_eq_true rfl) (fun o1 => ?_)
  dsimp only [List.set_cons_zero, List.set_cons_succ, List.cons_append, List.nil_append]
  refine J_dup (gxd kX6_init 4 rfl) ?_
  refine J_callI (As := []) (rest := [.ref o1, .ref h0]) (wr := [(h0, .inr (6, [.null, .null, .null, .null, .null, .null, .null, .null, .null, .null, .null, .int 0, .int 0]))]) [1] [0] (gxd kX6_init 5 rfl) jL_RX6_11 rfl jL_RX6_11i jW_X3_init rfl rfl (Nat.le_of_ble_eq_true rfl) ⟨(Nat.le_of_ble_eq_true rfl), (Nat.le_of_ble_eq_true rfl)⟩ rfl rfl ⟨(Nat.le_of_ble_eq_true rfl), (Nat.le_of_ble_eq_true rfl)⟩ (c_X3_init D ct) rfl rfl rfl rfl (by decide) ?_
  rintro w1 ⟨o1q1, o1q2, o1q3, o1q4, o1q5, o1q6, o1q7, o1q8, rfl⟩
  dsimp only [List.set_cons_zero, List.set_cons_succ, List.cons_append, List.nil_append]
  refine J_putF 0 (gxd kX6_init 6 rfl) jF_RX6_12 jP_RX6_12 rfl rfl rfl (Nat.le_of_ble_eq_true rfl) rfl jK_RX6_12 ?_
  dsimp only [List.set_cons_zero, List.set_cons_succ, List.cons_append, List.nil_append]
  refine J_aload 0 (gxd kX6_init 7 rfl) rfl rfl ?_
  refine J_new (gxd kX6_init 8 rfl) jN_RX6_16 (Nat.le_of_ble_eq_true rfl) (Nat.le_of_ble_eq_true rfl) (fun o2 => ?_)
  dsimp only [List.set_cons_zero, List.set_cons_succ, List.cons_append, List.nil_append]
  refine J_dup (gxd kX6_init 9 rfl) ?_
  refine J_callI (As := []) (rest := [.ref o2, .ref h0]) (wr := [(h0, .inr (6, [.ref o1, .null, .null, .null, .null, .null, .null, .null, .null, .null, .null, .int 0, .int 0])), (o1, .inr (3, [.ref o1q1, .ref o1q2, .ref o1q3, .ref o1q4, .ref o1q5, .ref o1q6, .ref o1q7, .ref o1q8, .int 0])), (o1q1, .inl (ct.1, 16, .inl (fun _ => 0))), (o1q2, .inl (ct.1, 24, .inl (fun _ => 0))), (o1q3, .inl (ct.1, 24, .inl (fun _ => 0))), (o1q4, .inl (ct.1, 8, .inl (fun _ => 0))), (o1q5, .inl (ct.1, 48, .inl (fun _ => 0))), (o1q6, .inl (ct.1, 1600, .inl (fun _ => 0))), (o1q7, .inl (ct.1, 64, .inl (fun _ => 0))), (o1q8, .inl (ct.1, 9, .inl (fun _ => 0)))]) [10] [0, 1, 2, 3, 4, 5, 6, 7, 8, 9] (gxd kX6_init 10 rfl) jL_RX6_18 rfl jL_RX6_18i jW_X2_init rfl rfl (Nat.le_of_ble_eq_true rfl) ⟨(Nat.le_of_ble_eq_true rfl), (Nat.le_of_ble_eq_true rfl)⟩ rfl rfl ⟨(Nat.le_of_ble_eq_true rfl), (Nat.le_of_ble_eq_true rfl)⟩ (c_X2_init D ct) rfl rfl rfl rfl (by decide) ?_
  rintro w1 ⟨o2q1, o2q2, o2q3, o2q4, o2q5, o2q6, rfl⟩
  dsimp only [List.set_cons_zero, List.set_cons_succ, List.cons_append, List.nil_append]
  refine J_putF 0 (gxd kX6_init 11 rfl) jF_RX6_19 jP_RX6_19 rfl rfl rfl (Nat.le_of_ble_eq_true rfl) rfl jK_RX6_19 ?_
  dsimp only [List.set_cons_zero, List.set_cons_succ, List.cons_append, List.nil_append]
  refine J_aload 0 (gxd kX6_init 12 rfl) rfl rfl ?_
  refine J_new (gxd kX6_init 13 rfl) jN_RX6_23 (Nat.le_of_ble_eq_true rfl) (Nat.le_of_ble_eq_true rfl) (fun o3 => ?_)
  dsimp only [List.set_cons_zero, List.set_cons_succ, List.cons_append, List.nil_append]
  refine J_dup (gxd kX6_init 14 rfl) ?_
  refine J_aload 0 (gxd kX6_init 15 rfl) rfl rfl ?_
  refine J_get 0 (gxd kX6_init 16 rfl) jF_RX6_12 rfl rfl jK_RX6_12 ?_
  refine J_callI (As := [.ref o1]) (rest := [.ref o3, .ref h0]) (wr := [(h0, .inr (6, [.ref o1, .ref o2, .null, .null, .null, .null, .null, .null, .null, .null, .null, .int 0, .int 0])), (o1, .inr (3, [.ref o1q1, .ref o1q2, .ref o1q3, .ref o1q4, .ref o1q5, .ref o1q6, .ref o1q7, .ref o1q8, .int 0])), (o1q1, .inl (ct.1, 16, .inl (fun _ => 0))), (o1q2, .inl (ct.1, 24, .inl (fun _ => 0))), (o1q3, .inl (ct.1, 24, .inl (fun _ => 0))), (o1q4, .inl (ct.1, 8, .inl (fun _ => 0))), (o1q5, .inl (ct.1, 48, .inl (fun _ => 0))), (o1q6, .inl (ct.1, 1600, .inl (fun _ => 0))), (o1q7, .inl (ct.1, 64, .inl (fun _ => 0))), (o1q8, .inl (ct.1, 9, .inl (fun _ => 0))), (o2, .inr (2, [.ref o2q1, .ref o2q2, .ref o2q3, .ref o2q4, .ref o2q5, .ref o2q6, .int 0, .int 0, .int 0, .int 0, .int 0, .int 0, .int 0, .int 0])), (o2q1, .inl (ct.1, 90, .inl (fun _ => 0))), (o2q2, .inl (ct.1, 91, .inl (fun _ => 0))), (o2q3, .inl (ct.1, 91, .inl (fun _ => 0))), (o2q4, .inl (ct.1, 91, .inl (fun _ => 0))), (o2q5, .inl (ct.1, 90, .inl (fun _ => 0))), (o2q6, .inl (ct.1, 90, .inl (fun _ => 0)))]) [17] [0, 1, 2, 3, 4, 5, 6, 7, 8, 9, 10, 11, 12, 13, 14, 15, 16] (gxd kX6_init 17 rfl) jL_RX6_25 rfl jL_RX6_25i jW_X0_init rfl rfl (Nat.le_of_ble_eq_true rfl) ⟨(Nat.le_of_ble_eq_true rfl), (Nat.le_of_ble_eq_true rfl)⟩ rfl rfl ⟨(Nat.le_of_ble_eq_true rfl), (Nat.le_of_ble_eq_true rfl)⟩ (c_X0_init D ct) rfl rfl rfl rfl (by decide) ?_
  rintro w1 ⟨o3q1, o3q2, o3q3, o3q4, o3f, o3e, o3g, rfl⟩
  dsimp only [List.set_cons_zero, List.set_cons_succ, List.cons_append, List.nil_append]
  refine J_putF 0 (gxd kX6_init 18 rfl) jF_RX6_28 jP_RX6_28 rfl rfl rfl (Nat.le_of_ble_eq_true rfl) rfl jK_RX6_28 ?_
  dsimp only [List.set_cons_zero, List.set_cons_succ, List.cons_append, List.nil_append]
  refine J_aload 0 (gxd kX6_init 19 rfl) rfl rfl ?_
  refine J_new (gxd kX6_init 20 rfl) jN_RX6_32 (Nat.le_of_ble_eq_true rfl) (Nat.le_of_ble_eq_true rfl) (fun o4 => ?_)
  dsimp only [List.set_cons_zero, List.set_cons_succ, List.cons_append, List.nil_append]
  refine J_dup (gxd kX6_init 21 rfl) ?_
  refine J_callI (As := []) (rest := [.ref o4, .ref h0]) (wr := [(h0, .inr (6, [.ref o1, .ref o2, .ref o3, .null, .null, .null, .null, .null, .null, .null, .null, .int 0, .int 0])), (o1, .inr (3, [.ref o1q1, .ref o1q2, .ref o1q3, .ref o1q4, .ref o1q5, .ref o1q6, .ref o1q7, .ref o1q8, .int 0])), (o1q1, .inl (ct.1, 16, .inl (fun _ => 0))), (o1q2, .inl (ct.1, 24, .inl (fun _ => 0))), (o1q3, .inl (ct.1, 24, .inl (fun _ => 0))), (o1q4, .inl (ct.1, 8, .inl (fun _ => 0))), (o1q5, .inl (ct.1, 48, .inl (fun _ => 0))), (o1q6, .inl (ct.1, 1600, .inl (fun _ => 0))), (o1q7, .inl (ct.1, 64, .inl (fun _ => 0))), (o1q8, .inl (ct.1, 9, .inl (fun _ => 0))), (o2, .inr (2, [.ref o2q1, .ref o2q2, .ref o2q3, .ref o2q4, .ref o2q5, .ref o2q6, .int 0, .int 0, .int 0, .int 0, .int 0, .int 0, .int 0, .int 0])), (o2q1, .inl (ct.1, 90, .inl (fun _ => 0))), (o2q2, .inl (ct.1, 91, .inl (fun _ => 0))), (o2q3, .inl (ct.1, 91, .inl (fun _ => 0))), (o2q4, .inl (ct.1, 91, .inl (fun _ => 0))), (o2q5, .inl (ct.1, 90, .inl (fun _ => 0))), (o2q6, .inl (ct.1, 90, .inl (fun _ => 0))), (o3q2, .inl (ct.1, 9, .inl (fun _ => 0))), (o3q3, .inl (ct.1, 80, .inl (fun _ => 0))), (o3q4, .inl (ct.1, 80, .inl (fun _ => 0))), (o3, .inr (0, [.ref o1, .ref o3q1, .ref o3q2, .ref o3q3, .ref o3q4, .int 0, .int 0, .int 0, .int 0, .int 0, .int 0, .int 0])), (o3q1, .inl (ct.1, 9, .inl (o3f)))]) [22] [0, 1, 2, 3, 4, 5, 6, 7, 8, 9, 10, 11, 12, 13, 14, 15, 16, 17, 18, 19, 20, 21] (gxd kX6_init 22 rfl) jL_RX6_34 rfl jL_RX6_34i jW_X1_init rfl rfl (Nat.le_of_ble_eq_true rfl) ⟨(Nat.le_of_ble_eq_true rfl), (Nat.le_of_ble_eq_true rfl)⟩ rfl rfl ⟨(Nat.le_of_ble_eq_true rfl), (Nat.le_of_ble_eq_true rfl)⟩ (c_X1_init D ct) rfl rfl rfl rfl (by decide) ?_
  rintro w1 ⟨o4q1, o4q2, o4q3, o4q4, o4q5, rfl⟩
  dsimp only [List.set_cons_zero, List.set_cons_succ, List.cons_append, List.nil_append]
  refine J_putF 0 (gxd kX6_init 23 rfl) jF_RX6_35 jP_RX6_35 rfl rfl rfl (Nat.le_of_ble_eq_true rfl) rfl jK_RX6_35 ?_
  dsimp only [List.set_cons_zero, List.set_cons_succ, List.cons_append, List.nil_append]
  refine J_aload 0 (gxd kX6_init 24 rfl) rfl rfl ?_
  refine J_new (gxd kX6_init 25 rfl) jN_RX6_23 (Nat.le_of_ble_eq_true rfl) (Nat.le_of_ble_eq_true rfl) (fun o5 => ?_)
  dsimp only [List.set_cons_zero, List.set_cons_succ, List.cons_append, List.nil_append]
  refine J_dup (gxd kX6_init 26 rfl) ?_
  refine J_aload 0 (gxd kX6_init 27 rfl) rfl rfl ?_
  refine J_get 0 (gxd kX6_init 28 rfl) jF_RX6_12 rfl rfl jK_RX6_12 ?_
  refine J_callI (As := [.ref o1]) (rest := [.ref o5, .ref h0]) (wr := [(h0, .inr (6, [.ref o1, .ref o2, .ref o3, .ref o4, .null, .null, .null, .null, .null, .null, .null, .int 0, .int 0])), (o1, .inr (3, [.ref o1q1, .ref o1q2, .ref o1q3, .ref o1q4, .ref o1q5, .ref o1q6, .ref o1q7, .ref o1q8, .int 0])), (o1q1, .inl (ct.1, 16, .inl (fun _ => 0))), (o1q2, .inl (ct.1, 24, .inl (fun _ => 0))), (o1q3, .inl (ct.1, 24, .inl (fun _ => 0))), (o1q4, .inl (ct.1, 8, .inl (fun _ => 0))), (o1q5, .inl (ct.1, 48, .inl (fun _ => 0))), (o1q6, .inl (ct.1, 1600, .inl (fun _ => 0))), (o1q7, .inl (ct.1, 64, .inl (fun _ => 0))), (o1q8, .inl (ct.1, 9, .inl (fun _ => 0))), (o2, .inr (2, [.ref o2q1, .ref o2q2, .ref o2q3, .ref o2q4, .ref o2q5, .ref o2q6, .int 0, .int 0, .int 0, .int 0, .int 0, .int 0, .int 0, .int 0])), (o2q1, .inl (ct.1, 90, .inl (fun _ => 0))), (o2q2, .inl (ct.1, 91, .inl (fun _ => 0))), (o2q3, .inl (ct.1, 91, .inl (fun _ => 0))), (o2q4, .inl (ct.1, 91, .inl (fun _ => 0))), (o2q5, .inl (ct.1, 90, .inl (fun _ => 0))), (o2q6, .inl (ct.1, 90, .inl (fun _ => 0))), (o3q2, .inl (ct.1, 9, .inl (fun _ => 0))), (o3q3, .inl (ct.1, 80, .inl (fun _ => 0))), (o3q4, .inl (ct.1, 80, .inl (fun _ => 0))), (o3, .inr (0, [.ref o1, .ref o3q1, .ref o3q2, .ref o3q3, .ref o3q4, .int 0, .int 0, .int 0, .int 0, .int 0, .int 0, .int 0])), (o3q1, .inl (ct.1, 9, .inl (o3f))), (o4, .inr (1, [.ref o4q1, .ref o4q2, .ref o4q3, .ref o4q4, .ref o4q5, .int 0, .int 0])), (o4q1, .inl (ct.1, 12, .inl (fun _ => 0))), (o4q2, .inl (ct.1, 12, .inl (fun _ => 0))), (o4q3, .inl (ct.1, 8, .inl (fun _ => 0))), (o4q4, .inl (ct.1, 8, .inl (fun _ => 0))), (o4q5, .inl (ct.1, 8, .inl (fun _ => 0)))]) [28] [0, 1, 2, 3, 4, 5, 6, 7, 8, 9, 10, 11, 12, 13, 14, 15, 16, 17, 18, 19, 20, 21, 22, 23, 24, 25, 26, 27] (gxd kX6_init 29 rfl) jL_RX6_25 rfl jL_RX6_25i jW_X0_init rfl rfl (Nat.le_of_ble_eq_true rfl) ⟨(Nat.le_of_ble_eq_true rfl), (Nat.le_of_ble_eq_true rfl)⟩ rfl rfl ⟨(Nat.le_of_ble_eq_true rfl), (Nat.le_of_ble_eq_true rfl)⟩ (c_X0_init D ct) rfl rfl rfl rfl (by decide) ?_
  rintro w1 ⟨o5q1, o5q2, o5q3, o5q4, o5f, o5e, o5g, rfl⟩
  dsimp only [List.set_cons_zero, List.set_cons_succ, List.cons_append, List.nil_append]
  refine J_putF 0 (gxd kX6_init 30 rfl) jF_RX6_39 jP_RX6_39 rfl rfl rfl (Nat.le_of_ble_eq_true rfl) rfl jK_RX6_39 ?_
  dsimp only [List.set_cons_zero, List.set_cons_succ, List.cons_append, List.nil_append]
  refine J_aload 0 (gxd kX6_init 31 rfl) rfl rfl ?_
  refine J_new (gxd kX6_init 32 rfl) jN_RX6_23 (Nat.le_of_ble_eq_true rfl) (Nat.le_of_ble_eq_true rfl) (fun o6 => ?_)
  dsimp only [List.set_cons_zero, List.set_cons_succ, List.cons_append, List.nil_append]
  refine J_dup (gxd kX6_init 33 rfl) ?_
  refine J_aload 0 (gxd kX6_init 34 rfl) rfl rfl ?_
  refine J_get 0 (gxd kX6_init 35 rfl) jF_RX6_12 rfl rfl jK_RX6_12 ?_
  refine J_callI (As := [.ref o1]) (rest := [.ref o6, .ref h0]) (wr := [(h0, .inr (6, [.ref o1, .ref o2, .ref o3, .ref o4, .ref o5, .null, .null, .null, .null, .null, .null, .int 0, .int 0])), (o1, .inr (3, [.ref o1q1, .ref o1q2, .ref o1q3, .ref o1q4, .ref o1q5, .ref o1q6, .ref o1q7, .ref o1q8, .int 0])), (o1q1, .inl (ct.1, 16, .inl (fun _ => 0))), (o1q2, .inl (ct.1, 24, .inl (fun _ => 0))), (o1q3, .inl (ct.1, 24, .inl (fun _ => 0))), (o1q4, .inl (ct.1, 8, .inl (fun _ => 0))), (o1q5, .inl (ct.1, 48, .inl (fun _ => 0))), (o1q6, .inl (ct.1, 1600, .inl (fun _ => 0))), (o1q7, .inl (ct.1, 64, .inl (fun _ => 0))), (o1q8, .inl (ct.1, 9, .inl (fun _ => 0))), (o2, .inr (2, [.ref o2q1, .ref o2q2, .ref o2q3, .ref o2q4, .ref o2q5, .ref o2q6, .int 0, .int 0, .int 0, .int 0, .int 0, .int 0, .int 0, .int 0])), (o2q1, .inl (ct.1, 90, .inl (fun _ => 0))), (o2q2, .inl (ct.1, 91, .inl (fun _ => 0))), (o2q3, .inl (ct.1, 91, .inl (fun _ => 0))), (o2q4, .inl (ct.1, 91, .inl (fun _ => 0))), (o2q5, .inl (ct.1, 90, .inl (fun _ => 0))), (o2q6, .inl (ct.1, 90, .inl (fun _ => 0))), (o3q2, .inl (ct.1, 9, .inl (fun _ => 0))), (o3q3, .inl (ct.1, 80, .inl (fun _ => 0))), (o3q4, .inl (ct.1, 80, .inl (fun _ => 0))), (o3, .inr (0, [.ref o1, .ref o3q1, .ref o3q2, .ref o3q3, .ref o3q4, .int 0, .int 0, .int 0, .int 0, .int 0, .int 0, .int 0])), (o3q1, .inl (ct.1, 9, .inl (o3f))), (o4, .inr (1, [.ref o4q1, .ref o4q2, .ref o4q3, .ref o4q4, .ref o4q5, .int 0, .int 0])), (o4q1, .inl (ct.1, 12, .inl (fun _ => 0))), (o4q2, .inl (ct.1, 12, .inl (fun _ => 0))), (o4q3, .inl (ct.1, 8, .inl (fun _ => 0))), (o4q4, .inl (ct.1, 8, .inl (fun _ => 0))), (o4q5, .inl (ct.1, 8, .inl (fun _ => 0))), (o5q2, .inl (ct.1, 9, .inl (fun _ => 0))), (o5q3, .inl (ct.1, 80, .inl (fun _ => 0))), (o5q4, .inl (ct.1, 80, .inl (fun _ => 0))), (o5, .inr (0, [.ref o1, .ref o5q1, .ref o5q2, .ref o5q3, .ref o5q4, .int 0, .int 0, .int 0, .int 0, .int 0, .int 0, .int 0])), (o5q1, .inl (ct.1, 9, .inl (o5f)))]) [33] [0, 1, 2, 3, 4, 5, 6, 7, 8, 9, 10, 11, 12, 13, 14, 15, 16, 17, 18, 19, 20, 21, 22, 23, 24, 25, 26, 27, 28, 29, 30, 31, 32] (gxd kX6_init 36 rfl) jL_RX6_25 rfl jL_RX6_25i jW_X0_init rfl rfl (Nat.le_of_ble_eq_true rfl) ⟨(Nat.le_of_ble_eq_true rfl), (Nat.le_of_ble_eq_true rfl)⟩ rfl rfl ⟨(Nat.le_of_ble_eq_true rfl), (Nat.le_of_ble_eq_true rfl)⟩ (c_X0_init D ct) rfl rfl rfl rfl (by decide) ?_
  rintro w1 ⟨o6q1, o6q2, o6q3, o6q4, o6f, o6e, o6g, rfl⟩
  dsimp only [List.set_cons_zero, List.set_cons_succ, List.cons_append, List.nil_append]
  refine J_putF 0 (gxd kX6_init 37 rfl) jF_RX6_42 jP_RX6_42 rfl rfl rfl (Nat.le_of_ble_eq_true rfl) rfl jK_RX6_42 ?_
  dsimp only [List.set_cons_zero, List.set_cons_succ, List.cons_append, List.nil_append]
  refine J_aload 0 (gxd kX6_init 38 rfl) rfl rfl ?_
  refine J_new (gxd kX6_init 39 rfl) jN_RX6_45 (Nat.le_of_ble_eq_true rfl) (Nat.le_of_ble_eq_true rfl) (fun o7 => ?_)
  dsimp only [List.set_cons_zero, List.set_cons_succ, List.cons_append, List.nil_append]
  refine J_dup (gxd kX6_init 40 rfl) ?_
  refine J_aload 0 (gxd kX6_init 41 rfl) rfl rfl ?_
  refine J_get 0 (gxd kX6_init 42 rfl) jF_RX6_12 rfl rfl jK_RX6_12 ?_
  refine J_aload 0 (gxd kX6_init 43 rfl) rfl rfl ?_
  refine J_get 0 (gxd kX6_init 44 rfl) jF_RX6_35 rfl rfl jK_RX6_35 ?_
  refine J_aload 0 (gxd kX6_init 45 rfl) rfl rfl ?_
  refine J_get 0 (gxd kX6_init 46 rfl) jF_RX6_39 rfl rfl jK_RX6_39 ?_
  refine J_aload 0 (gxd kX6_init 47 rfl) rfl rfl ?_
  refine J_get 0 (gxd kX6_init 48 rfl) jF_RX6_42 rfl rfl jK_RX6_42 ?_
  refine J_callI (As := [.ref o1, .ref o4, .ref o5, .ref o6]) (rest := [.ref o7, .ref h0]) (wr := [(h0, .inr (6, [.ref o1, .ref o2, .ref o3, .ref o4, .ref o5, .ref o6, .null, .null, .null, .null, .null, .int 0, .int 0])), (o1, .inr (3, [.ref o1q1, .ref o1q2, .ref o1q3, .ref o1q4, .ref o1q5, .ref o1q6, .ref o1q7, .ref o1q8, .int 0])), (o1q1, .inl (ct.1, 16, .inl (fun _ => 0))), (o1q2, .inl (ct.1, 24, .inl (fun _ => 0))), (o1q3, .inl (ct.1, 24, .inl (fun _ => 0))), (o1q4, .inl (ct.1, 8, .inl (fun _ => 0))), (o1q5, .inl (ct.1, 48, .inl (fun _ => 0))), (o1q6, .inl (ct.1, 1600, .inl (fun _ => 0))), (o1q7, .inl (ct.1, 64, .inl (fun _ => 0))), (o1q8, .inl (ct.1, 9, .inl (fun _ => 0))), (o2, .inr (2, [.ref o2q1, .ref o2q2, .ref o2q3, .ref o2q4, .ref o2q5, .ref o2q6, .int 0, .int 0, .int 0, .int 0, .int 0, .int 0, .int 0, .int 0])), (o2q1, .inl (ct.1, 90, .inl (fun _ => 0))), (o2q2, .inl (ct.1, 91, .inl (fun _ => 0))), (o2q3, .inl (ct.1, 91, .inl (fun _ => 0))), (o2q4, .inl (ct.1, 91, .inl (fun _ => 0))), (o2q5, .inl (ct.1, 90, .inl (fun _ => 0))), (o2q6, .inl (ct.1, 90, .inl (fun _ => 0))), (o3q2, .inl (ct.1, 9, .inl (fun _ => 0))), (o3q3, .inl (ct.1, 80, .inl (fun _ => 0))), (o3q4, .inl (ct.1, 80, .inl (fun _ => 0))), (o3, .inr (0, [.ref o1, .ref o3q1, .ref o3q2, .ref o3q3, .ref o3q4, .int 0, .int 0, .int 0, .int 0, .int 0, .int 0, .int 0])), (o3q1, .inl (ct.1, 9, .inl (o3f))), (o4, .inr (1, [.ref o4q1, .ref o4q2, .ref o4q3, .ref o4q4, .ref o4q5, .int 0, .int 0])), (o4q1, .inl (ct.1, 12, .inl (fun _ => 0))), (o4q2, .inl (ct.1, 12, .inl (fun _ => 0))), (o4q3, .inl (ct.1, 8, .inl (fun _ => 0))), (o4q4, .inl (ct.1, 8, .inl (fun _ => 0))), (o4q5, .inl (ct.1, 8, .inl (fun _ => 0))), (o5q2, .inl (ct.1, 9, .inl (fun _ => 0))), (o5q3, .inl (ct.1, 80, .inl (fun _ => 0))), (o5q4, .inl (ct.1, 80, .inl (fun _ => 0))), (o5, .inr (0, [.ref o1, .ref o5q1, .ref o5q2, .ref o5q3, .ref o5q4, .int 0, .int 0, .int 0, .int 0, .int 0, .int 0, .int 0])), (o5q1, .inl (ct.1, 9, .inl (o5f))), (o6q2, .inl (ct.1, 9, .inl (fun _ => 0))), (o6q3, .inl (ct.1, 80, .inl (fun _ => 0))), (o6q4, .inl (ct.1, 80, .inl (fun _ => 0))), (o6, .inr (0, [.ref o1, .ref o6q1, .ref o6q2, .ref o6q3, .ref o6q4, .int 0, .int 0, .int 0, .int 0, .int 0, .int 0, .int 0])), (o6q1, .inl (ct.1, 9, .inl (o6f)))]) [38] [0, 1, 2, 3, 4, 5, 6, 7, 8, 9, 10, 11, 12, 13, 14, 15, 16, 17, 18, 19, 20, 21, 22, 23, 24, 25, 26, 27, 28, 29, 30, 31, 32, 33, 34, 35, 36, 37] (gxd kX6_init 49 rfl) jL_RX6_47 rfl jL_RX6_47i jW_X4_init rfl rfl (Nat.le_of_ble_eq_true rfl) ⟨(Nat.le_of_ble_eq_true rfl), (Nat.le_of_ble_eq_true rfl)⟩ rfl rfl ⟨(Nat.le_of_ble_eq_true rfl), (Nat.le_of_ble_eq_true rfl)⟩ (c_X4_init D ct) rfl rfl rfl rfl (by decide) ?_
  rintro w1 ⟨o7q1, o7q2, o7q3, o7q4, o7q5, rfl⟩
  dsimp only [List.set_cons_zero, List.set_cons_succ, List.cons_append, List.nil_append]
  refine J_putF 0 (gxd kX6_init 50 rfl) jF_RX6_50 jP_RX6_50 rfl rfl rfl (Nat.le_of_ble_eq_true rfl) rfl jK_RX6_50 ?_
  dsimp only [List.set_cons_zero, List.set_cons_succ, List.cons_append, List.nil_append]
  refine J_aload 0 (gxd kX6_init 51 rfl) rfl rfl ?_
  refine J_new (gxd kX6_init 52 rfl) jN_RX6_23 (Nat.le_of_ble_eq_true rfl) (Nat.le_of_ble_eq_true rfl) (fun o8 => ?_)
  dsimp only [List.set_cons_zero, List.set_cons_succ, List.cons_append, List.nil_append]
  refine J_dup (gxd kX6_init 53 rfl) ?_
  refine J_aload 0 (gxd kX6_init 54 rfl) rfl rfl ?_
  refine J_get 0 (gxd kX6_init 55 rfl) jF_RX6_12 rfl rfl jK_RX6_12 ?_
  refine J_callI (As := [.ref o1]) (rest := [.ref o8, .ref h0]) (wr := [(h0, .inr (6, [.ref o1, .ref o2, .ref o3, .ref o4, .ref o5, .ref o6, .ref o7, .null, .null, .null, .null, .int 0, .int 0])), (o1, .inr (3, [.ref o1q1, .ref o1q2, .ref o1q3, .ref o1q4, .ref o1q5, .ref o1q6, .ref o1q7, .ref o1q8, .int 0])), (o1q1, .inl (ct.1, 16, .inl (fun _ => 0))), (o1q2, .inl (ct.1, 24, .inl (fun _ => 0))), (o1q3, .inl (ct.1, 24, .inl (fun _ => 0))), (o1q4, .inl (ct.1, 8, .inl (fun _ => 0))), (o1q5, .inl (ct.1, 48, .inl (fun _ => 0))), (o1q6, .inl (ct.1, 1600, .inl (fun _ => 0))), (o1q7, .inl (ct.1, 64, .inl (fun _ => 0))), (o1q8, .inl (ct.1, 9, .inl (fun _ => 0))), (o2, .inr (2, [.ref o2q1, .ref o2q2, .ref o2q3, .ref o2q4, .ref o2q5, .ref o2q6, .int 0, .int 0, .int 0, .int 0, .int 0, .int 0, .int 0, .int 0])), (o2q1, .inl (ct.1, 90, .inl (fun _ => 0))), (o2q2, .inl (ct.1, 91, .inl (fun _ => 0))), (o2q3, .inl (ct.1, 91, .inl (fun _ => 0))), (o2q4, .inl (ct.1, 91, .inl (fun _ => 0))), (o2q5, .inl (ct.1, 90, .inl (fun _ => 0))), (o2q6, .inl (ct.1, 90, .inl (fun _ => 0))), (o3q2, .inl (ct.1, 9, .inl (fun _ => 0))), (o3q3, .inl (ct.1, 80, .inl (fun _ => 0))), (o3q4, .inl (ct.1, 80, .inl (fun _ => 0))), (o3, .inr (0, [.ref o1, .ref o3q1, .ref o3q2, .ref o3q3, .ref o3q4, .int 0, .int 0, .int 0, .int 0, .int 0, .int 0, .int 0])), (o3q1, .inl (ct.1, 9, .inl (o3f))), (o4, .inr (1, [.ref o4q1, .ref o4q2, .ref o4q3, .ref o4q4, .ref o4q5, .int 0, .int 0])), (o4q1, .inl (ct.1, 12, .inl (fun _ => 0))), (o4q2, .inl (ct.1, 12, .inl (fun _ => 0))), (o4q3, .inl (ct.1, 8, .inl (fun _ => 0))), (o4q4, .inl (ct.1, 8, .inl (fun _ => 0))), (o4q5, .inl (ct.1, 8, .inl (fun _ => 0))), (o5q2, .inl (ct.1, 9, .inl (fun _ => 0))), (o5q3, .inl (ct.1, 80, .inl (fun _ => 0))), (o5q4, .inl (ct.1, 80, .inl (fun _ => 0))), (o5, .inr (0, [.ref o1, .ref o5q1, .ref o5q2, .ref o5q3, .ref o5q4, .int 0, .int 0, .int 0, .int 0, .int 0, .int 0, .int 0])), (o5q1, .inl (ct.1, 9, .inl (o5f))), (o6q2, .inl (ct.1, 9, .inl (fun _ => 0))), (o6q3, .inl (ct.1, 80, .inl (fun _ => 0))), (o6q4, .inl (ct.1, 80, .inl (fun _ => 0))), (o6, .inr (0, [.ref o1, .ref o6q1, .ref o6q2, .ref o6q3, .ref o6q4, .int 0, .int 0, .int 0, .int 0, .int 0, .int 0, .int 0])), (o6q1, .inl (ct.1, 9, .inl (o6f))), (o7, .inr (4, [.ref o1, .ref o4, .ref o5, .ref o6, .ref o7q1, .ref o7q2, .ref o7q3, .ref o7q4, .ref o7q5, .int 0, .int 0, .int 0, .int 0, .int 0, .int 0])), (o7q1, .inl (ct.1, 8, .inl (fun _ => 0))), (o7q2, .inl (ct.1, 8, .inl (fun _ => 0))), (o7q3, .inl (ct.1, 8, .inl (fun _ => 0))), (o7q4, .inl (ct.1, 8, .inl (fun _ => 0))), (o7q5, .inl (ct.1, 8, .inl (fun _ => 0)))]) [44] [0, 1, 2, 3, 4, 5, 6, 7, 8, 9, 10, 11, 12, 13, 14, 15, 16, 17, 18, 19, 20, 21, 22, 23, 24, 25, 26, 27, 28, 29, 30, 31, 32, 33, 34, 35, 36, 37, 38, 39, 40, 41, 42, 43] (gxd kX6_init 56 rfl) jL_RX6_25 rfl jL_RX6_25i jW_X0_init rfl rfl (Nat.le_of_ble_eq_true rfl) ⟨(Nat.le_of_ble_eq_true rfl), (Nat.le_of_ble_eq_true rfl)⟩ rfl rfl ⟨(Nat.le_of_ble_eq_true rfl), (Nat.le_of_ble_eq_true rfl)⟩ (c_X0_init D ct) rfl rfl rfl rfl (by decide) ?_
  rintro w1 ⟨o8q1, o8q2, o8q3, o8q4, o8f, o8e, o8g, rfl⟩
  dsimp only [List.set_cons_zero, List.set_cons_succ, List.cons_append, List.nil_append]
  refine J_putF 0 (gxd kX6_init 57 rfl) jF_RX6_54 jP_RX6_54 rfl rfl rfl (Nat.le_of_ble_eq_true rfl) rfl jK_RX6_54 ?_
  dsimp only [List.set_cons_zero, List.set_cons_succ, List.cons_append, List.nil_append]
  refine J_aload 0 (gxd kX6_init 58 rfl) rfl rfl ?_
  refine J_new (gxd kX6_init 59 rfl) jN_RX6_32 (Nat.le_of_ble_eq_true rfl) (Nat.le_of_ble_eq_true rfl) (fun o9 => ?_)
  dsimp only [List.set_cons_zero, List.set_cons_succ, List.cons_append, List.nil_append]
  refine J_dup (gxd kX6_init 60 rfl) ?_
  refine J_callI (As := []) (rest := [.ref o9, .ref h0]) (wr := [(h0, .inr (6, [.ref o1, .ref o2, .ref o3, .ref o4, .ref o5, .ref o6, .ref o7, .ref o8, .null, .null, .null, .int 0, .int 0])), (o1, .inr (3, [.ref o1q1, .ref o1q2, .ref o1q3, .ref o1q4, .ref o1q5, .ref o1q6, .ref o1q7, .ref o1q8, .int 0])), (o1q1, .inl (ct.1, 16, .inl (fun _ => 0))), (o1q2, .inl (ct.1, 24, .inl (fun _ => 0))), (o1q3, .inl (ct.1, 24, .inl (fun _ => 0))), (o1q4, .inl (ct.1, 8, .inl (fun _ => 0))), (o1q5, .inl (ct.1, 48, .inl (fun _ => 0))), (o1q6, .inl (ct.1, 1600, .inl (fun _ => 0))), (o1q7, .inl (ct.1, 64, .inl (fun _ => 0))), (o1q8, .inl (ct.1, 9, .inl (fun _ => 0))), (o2, .inr (2, [.ref o2q1, .ref o2q2, .ref o2q3, .ref o2q4, .ref o2q5, .ref o2q6, .int 0, .int 0, .int 0, .int 0, .int 0, .int 0, .int 0, .int 0])), (o2q1, .inl (ct.1, 90, .inl (fun _ => 0))), (o2q2, .inl (ct.1, 91, .inl (fun _ => 0))), (o2q3, .inl (ct.1, 91, .inl (fun _ => 0))), (o2q4, .inl (ct.1, 91, .inl (fun _ => 0))), (o2q5, .inl (ct.1, 90, .inl (fun _ => 0))), (o2q6, .inl (ct.1, 90, .inl (fun _ => 0))), (o3q2, .inl (ct.1, 9, .inl (fun _ => 0))), (o3q3, .inl (ct.1, 80, .inl (fun _ => 0))), (o3q4, .inl (ct.1, 80, .inl (fun _ => 0))), (o3, .inr (0, [.ref o1, .ref o3q1, .ref o3q2, .ref o3q3, .ref o3q4, .int 0, .int 0, .int 0, .int 0, .int 0, .int 0, .int 0])), (o3q1, .inl (ct.1, 9, .inl (o3f))), (o4, .inr (1, [.ref o4q1, .ref o4q2, .ref o4q3, .ref o4q4, .ref o4q5, .int 0, .int 0])), (o4q1, .inl (ct.1, 12, .inl (fun _ => 0))), (o4q2, .inl (ct.1, 12, .inl (fun _ => 0))), (o4q3, .inl (ct.1, 8, .inl (fun _ => 0))), (o4q4, .inl (ct.1, 8, .inl (fun _ => 0))), (o4q5, .inl (ct.1, 8, .inl (fun _ => 0))), (o5q2, .inl (ct.1, 9, .inl (fun _ => 0))), (o5q3, .inl (ct.1, 80, .inl (fun _ => 0))), (o5q4, .inl (ct.1, 80, .inl (fun _ => 0))), (o5, .inr (0, [.ref o1, .ref o5q1, .ref o5q2, .ref o5q3, .ref o5q4, .int 0, .int 0, .int 0, .int 0, .int 0, .int 0, .int 0])), (o5q1, .inl (ct.1, 9, .inl (o5f))), (o6q2, .inl (ct.1, 9, .inl (fun _ => 0))), (o6q3, .inl (ct.1, 80, .inl (fun _ => 0))), (o6q4, .inl (ct.1, 80, .inl (fun _ => 0))), (o6, .inr (0, [.ref o1, .ref o6q1, .ref o6q2, .ref o6q3, .ref o6q4, .int 0, .int 0, .int 0, .int 0, .int 0, .int 0, .int 0])), (o6q1, .inl (ct.1, 9, .inl (o6f))), (o7, .inr (4, [.ref o1, .ref o4, .ref o5, .ref o6, .ref o7q1, .ref o7q2, .ref o7q3, .ref o7q4, .ref o7q5, .int 0, .int 0, .int 0, .int 0, .int 0, .int 0])), (o7q1, .inl (ct.1, 8, .inl (fun _ => 0))), (o7q2, .inl (ct.1, 8, .inl (fun _ => 0))), (o7q3, .inl (ct.1, 8, .inl (fun _ => 0))), (o7q4, .inl (ct.1, 8, .inl (fun _ => 0))), (o7q5, .inl (ct.1, 8, .inl (fun _ => 0))), (o8q2, .inl (ct.1, 9, .inl (fun _ => 0))), (o8q3, .inl (ct.1, 80, .inl (fun _ => 0))), (o8q4, .inl (ct.1, 80, .inl (fun _ => 0))), (o8, .inr (0, [.ref o1, .ref o8q1, .ref o8q2, .ref o8q3, .ref o8q4, .int 0, .int 0, .int 0, .int 0, .int 0, .int 0, .int 0])), (o8q1, .inl (ct.1, 9, .inl (o8f)))]) [49] [0, 1, 2, 3, 4, 5, 6, 7, 8, 9, 10, 11, 12, 13, 14, 15, 16, 17, 18, 19, 20, 21, 22, 23, 24, 25, 26, 27, 28, 29, 30, 31, 32, 33, 34, 35, 36, 37, 38, 39, 40, 41, 42, 43, 44, 45, 46, 47, 48] (gxd kX6_init 61 rfl) jL_RX6_34 rfl jL_RX6_34i jW_X1_init rfl rfl (Nat.le_of_ble_eq_true rfl) ⟨(Nat.le_of_ble_eq_true rfl), (Nat.le_of_ble_eq_true rfl)⟩ rfl rfl ⟨(Nat.le_of_ble_eq_true rfl), (Nat.le_of_ble_eq_true rfl)⟩ (c_X1_init D ct) rfl rfl rfl rfl (by decide) ?_
  rintro w1 ⟨o9q1, o9q2, o9q3, o9q4, o9q5, rfl⟩
  dsimp only [List.set_cons_zero, List.set_cons_succ, List.cons_append, List.nil_append]
  refine J_putF 0 (gxd kX6_init 62 rfl) jF_RX6_57 jP_RX6_57 rfl rfl rfl (Nat.le_of_ble_eq_true rfl) rfl jK_RX6_57 ?_
  dsimp only [List.set_cons_zero, List.set_cons_succ, List.cons_append, List.nil_append]
  refine J_aload 0 (gxd kX6_init 63 rfl) rfl rfl ?_
  refine J_iconst (v := 4) (gxd kX6_init 64 rfl) (by decide) ?_
  refine J_newq (N := 4) (gxd kX6_init 65 rfl) jCS (by decide) (by decide) (Nat.le_of_ble_eq_true rfl) (Nat.le_of_ble_eq_true rfl) (Nat.le_of_ble_eq_true rfl) (fun qs => ?_)
  dsimp only [List.set_cons_zero, List.set_cons_succ, List.cons_append, List.nil_append]
  refine J_putF 0 (gxd kX6_init 66 rfl) jF_RX6_62 jP_RX6_62 rfl rfl rfl (Nat.le_of_ble_eq_true rfl) rfl jK_RX6_62 ?_
  dsimp only [List.set_cons_zero, List.set_cons_succ, List.cons_append, List.nil_append]
  refine J_iconst (v := 0) (gxd kX6_init 67 rfl) (by decide) ?_
  refine J_istore (x := 1) (la2 := [(1, .int 0), (0, .ref h0)]) (gxd kX6_init 68 rfl) rfl (by decide) rfl ?_
  refine J_iload 0 (gxd kX6_init 69 rfl) rfl rfl ?_
  refine J_iconst (v := 4) (gxd kX6_init 70 rfl) (by decide) ?_
  refine J_icmp_ge (gxd kX6_init 71 rfl) (tgt := 169) rfl (fun z => absurd (by decide) z) (fun _ => ?_)
  refine J_aload 1 (gxd kX6_init 72 rfl) rfl rfl ?_
  refine J_get 0 (gxd kX6_init 73 rfl) jF_RX6_62 rfl rfl jK_RX6_62 ?_
  refine J_iload 0 (gxd kX6_init 74 rfl) rfl rfl ?_
  refine J_new (gxd kX6_init 75 rfl) jN_RX6_60 (Nat.le_of_ble_eq_true rfl) (Nat.le_of_ble_eq_true rfl) (fun o10 => ?_)
  dsimp only [List.set_cons_zero, List.set_cons_succ, List.cons_append, List.nil_append]
  refine J_dup (gxd kX6_init 76 rfl) ?_
  refine J_callI (As := []) (rest := [.ref o10, .int 0, .ref qs]) (wr := [(h0, .inr (6, [.ref o1, .ref o2, .ref o3, .ref o4, .ref o5, .ref o6, .ref o7, .ref o8, .ref o9, .ref qs, .null, .int 0, .int 0])), (o1, .inr (3, [.ref o1q1, .ref o1q2, .ref o1q3, .ref o1q4, .ref o1q5, .ref o1q6, .ref o1q7, .ref o1q8, .int 0])), (o1q1, .inl (ct.1, 16, .inl (fun _ => 0))), (o1q2, .inl (ct.1, 24, .inl (fun _ => 0))), (o1q3, .inl (ct.1, 24, .inl (fun _ => 0))), (o1q4, .inl (ct.1, 8, .inl (fun _ => 0))), (o1q5, .inl (ct.1, 48, .inl (fun _ => 0))), (o1q6, .inl (ct.1, 1600, .inl (fun _ => 0))), (o1q7, .inl (ct.1, 64, .inl (fun _ => 0))), (o1q8, .inl (ct.1, 9, .inl (fun _ => 0))), (o2, .inr (2, [.ref o2q1, .ref o2q2, .ref o2q3, .ref o2q4, .ref o2q5, .ref o2q6, .int 0, .int 0, .int 0, .int 0, .int 0, .int 0, .int 0, .int 0])), (o2q1, .inl (ct.1, 90, .inl (fun _ => 0))), (o2q2, .inl (ct.1, 91, .inl (fun _ => 0))), (o2q3, .inl (ct.1, 91, .inl (fun _ => 0))), (o2q4, .inl (ct.1, 91, .inl (fun _ => 0))), (o2q5, .inl (ct.1, 90, .inl (fun _ => 0))), (o2q6, .inl (ct.1, 90, .inl (fun _ => 0))), (o3q2, .inl (ct.1, 9, .inl (fun _ => 0))), (o3q3, .inl (ct.1, 80, .inl (fun _ => 0))), (o3q4, .inl (ct.1, 80, .inl (fun _ => 0))), (o3, .inr (0, [.ref o1, .ref o3q1, .ref o3q2, .ref o3q3, .ref o3q4, .int 0, .int 0, .int 0, .int 0, .int 0, .int 0, .int 0])), (o3q1, .inl (ct.1, 9, .inl (o3f))), (o4, .inr (1, [.ref o4q1, .ref o4q2, .ref o4q3, .ref o4q4, .ref o4q5, .int 0, .int 0])), (o4q1, .inl (ct.1, 12, .inl (fun _ => 0))), (o4q2, .inl (ct.1, 12, .inl (fun _ => 0))), (o4q3, .inl (ct.1, 8, .inl (fun _ => 0))), (o4q4, .inl (ct.1, 8, .inl (fun _ => 0))), (o4q5, .inl (ct.1, 8, .inl (fun _ => 0))), (o5q2, .inl (ct.1, 9, .inl (fun _ => 0))), (o5q3, .inl (ct.1, 80, .inl (fun _ => 0))), (o5q4, .inl (ct.1, 80, .inl (fun _ => 0))), (o5, .inr (0, [.ref o1, .ref o5q1, .ref o5q2, .ref o5q3, .ref o5q4, .int 0, .int 0, .int 0, .int 0, .int 0, .int 0, .int 0])), (o5q1, .inl (ct.1, 9, .inl (o5f))), (o6q2, .inl (ct.1, 9, .inl (fun _ => 0))), (o6q3, .inl (ct.1, 80, .inl (fun _ => 0))), (o6q4, .inl (ct.1, 80, .inl (fun _ => 0))), (o6, .inr (0, [.ref o1, .ref o6q1, .ref o6q2, .ref o6q3, .ref o6q4, .int 0, .int 0, .int 0, .int 0, .int 0, .int 0, .int 0])), (o6q1, .inl (ct.1, 9, .inl (o6f))), (o7, .inr (4, [.ref o1, .ref o4, .ref o5, .ref o6, .ref o7q1, .ref o7q2, .ref o7q3, .ref o7q4, .ref o7q5, .int 0, .int 0, .int 0, .int 0, .int 0, .int 0])), (o7q1, .inl (ct.1, 8, .inl (fun _ => 0))), (o7q2, .inl (ct.1, 8, .inl (fun _ => 0))), (o7q3, .inl (ct.1, 8, .inl (fun _ => 0))), (o7q4, .inl (ct.1, 8, .inl (fun _ => 0))), (o7q5, .inl (ct.1, 8, .inl (fun _ => 0))), (o8q2, .inl (ct.1, 9, .inl (fun _ => 0))), (o8q3, .inl (ct.1, 80, .inl (fun _ => 0))), (o8q4, .inl (ct.1, 80, .inl (fun _ => 0))), (o8, .inr (0, [.ref o1, .ref o8q1, .ref o8q2, .ref o8q3, .ref o8q4, .int 0, .int 0, .int 0, .int 0, .int 0, .int 0, .int 0])), (o8q1, .inl (ct.1, 9, .inl (o8f))), (o9, .inr (1, [.ref o9q1, .ref o9q2, .ref o9q3, .ref o9q4, .ref o9q5, .int 0, .int 0])), (o9q1, .inl (ct.1, 12, .inl (fun _ => 0))), (o9q2, .inl (ct.1, 12, .inl (fun _ => 0))), (o9q3, .inl (ct.1, 8, .inl (fun _ => 0))), (o9q4, .inl (ct.1, 8, .inl (fun _ => 0))), (o9q5, .inl (ct.1, 8, .inl (fun _ => 0))), (qs, .inl (ct.2.2, 4, .inr (.inr (.inr (.inr (fun _ => none))))))]) [56] [0, 1, 2, 3, 4, 5, 6, 7, 8, 9, 10, 11, 12, 13, 14, 15, 16, 17, 18, 19, 20, 21, 22, 23, 24, 25, 26, 27, 28, 29, 30, 31, 32, 33, 34, 35, 36, 37, 38, 39, 40, 41, 42, 43, 44, 45, 46, 47, 48, 49, 50, 51, 52, 53, 54, 55] (gxd kX6_init 77 rfl) jL_RX6_66 rfl jL_RX6_66i jW_X5_init rfl rfl (Nat.le_of_ble_eq_true rfl) ⟨(Nat.le_of_ble_eq_true rfl), (Nat.le_of_ble_eq_true rfl)⟩ rfl rfl ⟨(Nat.le_of_ble_eq_true rfl), (Nat.le_of_ble_eq_true rfl)⟩ (c_X5_init D ct) rfl rfl rfl rfl (by decide) ?_
  rintro w1 ⟨o10q1, rfl⟩
  dsimp only [List.set_cons_zero, List.set_cons_succ, List.cons_append, List.nil_append]
  refine J_aast2 (N := 4) (kn := 0) 55 56 (gxd kX6_init 78 rfl) rfl rfl (by decide) (by decide) ?_
  dsimp only [List.set_cons_zero, List.set_cons_succ, List.cons_append, List.nil_append]
  refine J_iinc 0 (w := 1) (la2 := [(1, .int 1), (0, .ref h0)]) (gxd kX6_init 79 rfl) rfl (by decide) (by decide) rfl ?_
  refine J_goto (gxd kX6_init 80 rfl) rfl ?_
  refine J_iload 0 (gxd kX6_init 69 rfl) rfl rfl ?_
  refine J_iconst (v := 4) (gxd kX6_init 70 rfl) (by decide) ?_
  refine J_icmp_ge (gxd kX6_init 71 rfl) (tgt := 169) rfl (fun z => absurd (by decide) z) (fun _ => ?_)
  refine J_aload 1 (gxd kX6_init 72 rfl) rfl rfl ?_
  refine J_get 0 (gxd kX6_init 73 rfl) jF_RX6_62 rfl rfl jK_RX6_62 ?_
  refine J_iload 0 (gxd kX6_init 74 rfl) rfl rfl ?_
  refine J_new (gxd kX6_init 75 rfl) jN_RX6_60 (Nat.le_of_ble_eq_true rfl) (Nat.le_of_ble_eq_true rfl) (fun o11 => ?_)
  dsimp only [List.set_cons_zero, List.set_cons_succ, List.cons_append, List.nil_append]
  refine J_dup (gxd kX6_init 76 rfl) ?_
  refine J_callI (As := []) (rest := [.ref o11, .int 1, .ref qs]) (wr := [(h0, .inr (6, [.ref o1, .ref o2, .ref o3, .ref o4, .ref o5, .ref o6, .ref o7, .ref o8, .ref o9, .ref qs, .null, .int 0, .int 0])), (o1, .inr (3, [.ref o1q1, .ref o1q2, .ref o1q3, .ref o1q4, .ref o1q5, .ref o1q6, .ref o1q7, .ref o1q8, .int 0])), (o1q1, .inl (ct.1, 16, .inl (fun _ => 0))), (o1q2, .inl (ct.1, 24, .inl (fun _ => 0))), (o1q3, .inl (ct.1, 24, .inl (fun _ => 0))), (o1q4, .inl (ct.1, 8, .inl (fun _ => 0))), (o1q5, .inl (ct.1, 48, .inl (fun _ => 0))), (o1q6, .inl (ct.1, 1600, .inl (fun _ => 0))), (o1q7, .inl (ct.1, 64, .inl (fun _ => 0))), (o1q8, .inl (ct.1, 9, .inl (fun _ => 0))), (o2, .inr (2, [.ref o2q1, .ref o2q2, .ref o2q3, .ref o2q4, .ref o2q5, .ref o2q6, .int 0, .int 0, .int 0, .int 0, .int 0, .int 0, .int 0, .int 0])), (o2q1, .inl (ct.1, 90, .inl (fun _ => 0))), (o2q2, .inl (ct.1, 91, .inl (fun _ => 0))), (o2q3, .inl (ct.1, 91, .inl (fun _ => 0))), (o2q4, .inl (ct.1, 91, .inl (fun _ => 0))), (o2q5, .inl (ct.1, 90, .inl (fun _ => 0))), (o2q6, .inl (ct.1, 90, .inl (fun _ => 0))), (o3q2, .inl (ct.1, 9, .inl (fun _ => 0))), (o3q3, .inl (ct.1, 80, .inl (fun _ => 0))), (o3q4, .inl (ct.1, 80, .inl (fun _ => 0))), (o3, .inr (0, [.ref o1, .ref o3q1, .ref o3q2, .ref o3q3, .ref o3q4, .int 0, .int 0, .int 0, .int 0, .int 0, .int 0, .int 0])), (o3q1, .inl (ct.1, 9, .inl (o3f))), (o4, .inr (1, [.ref o4q1, .ref o4q2, .ref o4q3, .ref o4q4, .ref o4q5, .int 0, .int 0])), (o4q1, .inl (ct.1, 12, .inl (fun _ => 0))), (o4q2, .inl (ct.1, 12, .inl (fun _ => 0))), (o4q3, .inl (ct.1, 8, .inl (fun _ => 0))), (o4q4, .inl (ct.1, 8, .inl (fun _ => 0))), (o4q5, .inl (ct.1, 8, .inl (fun _ => 0))), (o5q2, .inl (ct.1, 9, .inl (fun _ => 0))), (o5q3, .inl (ct.1, 80, .inl (fun _ => 0))), (o5q4, .inl (ct.1, 80, .inl (fun _ => 0))), (o5, .inr (0, [.ref o1, .ref o5q1, .ref o5q2, .ref o5q3, .ref o5q4, .int 0, .int 0, .int 0, .int 0, .int 0, .int 0, .int 0])), (o5q1, .inl (ct.1, 9, .inl (o5f))), (o6q2, .inl (ct.1, 9, .inl (fun _ => 0))), (o6q3, .inl (ct.1, 80, .inl (fun _ => 0))), (o6q4, .inl (ct.1, 80, .inl (fun _ => 0))), (o6, .inr (0, [.ref o1, .ref o6q1, .ref o6q2, .ref o6q3, .ref o6q4, .int 0, .int 0, .int 0, .int 0, .int 0, .int 0, .int 0])), (o6q1, .inl (ct.1, 9, .inl (o6f))), (o7, .inr (4, [.ref o1, .ref o4, .ref o5, .ref o6, .ref o7q1, .ref o7q2, .ref o7q3, .ref o7q4, .ref o7q5, .int 0, .int 0, .int 0, .int 0, .int 0, .int 0])), (o7q1, .inl (ct.1, 8, .inl (fun _ => 0))), (o7q2, .inl (ct.1, 8, .inl (fun _ => 0))), (o7q3, .inl (ct.1, 8, .inl (fun _ => 0))), (o7q4, .inl (ct.1, 8, .inl (fun _ => 0))), (o7q5, .inl (ct.1, 8, .inl (fun _ => 0))), (o8q2, .inl (ct.1, 9, .inl (fun _ => 0))), (o8q3, .inl (ct.1, 80, .inl (fun _ => 0))), (o8q4, .inl (ct.1, 80, .inl (fun _ => 0))), (o8, .inr (0, [.ref o1, .ref o8q1, .ref o8q2, .ref o8q3, .ref o8q4, .int 0, .int 0, .int 0, .int 0, .int 0, .int 0, .int 0])), (o8q1, .inl (ct.1, 9, .inl (o8f))), (o9, .inr (1, [.ref o9q1, .ref o9q2, .ref o9q3, .ref o9q4, .ref o9q5, .int 0, .int 0])), (o9q1, .inl (ct.1, 12, .inl (fun _ => 0))), (o9q2, .inl (ct.1, 12, .inl (fun _ => 0))), (o9q3, .inl (ct.1, 8, .inl (fun _ => 0))), (o9q4, .inl (ct.1, 8, .inl (fun _ => 0))), (o9q5, .inl (ct.1, 8, .inl (fun _ => 0))), (qs, .inl (ct.2.2, 4, .inr (.inr (.inr (.inr (va_up (fun _ => none) 0 (some o10))))))), (o10, .inr (5, [.ref o10q1, .int (-1), .int 0])), (o10q1, .inl (ct.1, 40, .inl (fun _ => 0)))]) [58] [0, 1, 2, 3, 4, 5, 6, 7, 8, 9, 10, 11, 12, 13, 14, 15, 16, 17, 18, 19, 20, 21, 22, 23, 24, 25, 26, 27, 28, 29, 30, 31, 32, 33, 34, 35, 36, 37, 38, 39, 40, 41, 42, 43, 44, 45, 46, 47, 48, 49, 50, 51, 52, 53, 54, 55, 56, 57] (gxd kX6_init 77 rfl) jL_RX6_66 rfl jL_RX6_66i jW_X5_init rfl rfl (Nat.le_of_ble_eq_true rfl) ⟨(Nat.le_of_ble_eq_true rfl), (Nat.le_of_ble_eq_true rfl)⟩ rfl rfl ⟨(Nat.le_of_ble_eq_true rfl), (Nat.le_of_ble_eq_true rfl)⟩ (c_X5_init D ct) rfl rfl rfl rfl (by decide) ?_
  rintro w1 ⟨o11q1, rfl⟩
  dsimp only [List.set_cons_zero, List.set_cons_succ, List.cons_append, List.nil_append]
  refine J_aast2 (N := 4) (kn := 1) 55 58 (gxd kX6_init 78 rfl) rfl rfl (by decide) (by decide) ?_
  dsimp only [List.set_cons_zero, List.set_cons_succ, List.cons_append, List.nil_append]
  refine J_iinc 0 (w := 2) (la2 := [(1, .int 2), (0, .ref h0)]) (gxd kX6_init 79 rfl) rfl (by decide) (by decide) rfl ?_
  refine J_goto (gxd kX6_init 80 rfl) rfl ?_
  refine J_iload 0 (gxd kX6_init 69 rfl) rfl rfl ?_
  refine J_iconst (v := 4) (gxd kX6_init 70 rfl) (by decide) ?_
  refine J_icmp_ge (gxd kX6_init 71 rfl) (tgt := 169) rfl (fun z => absurd (by decide) z) (fun _ => ?_)
  refine J_aload 1 (gxd kX6_init 72 rfl) rfl rfl ?_
  refine J_get 0 (gxd kX6_init 73 rfl) jF_RX6_62 rfl rfl jK_RX6_62 ?_
  refine J_iload 0 (gxd kX6_init 74 rfl) rfl rfl ?_
  refine J_new (gxd kX6_init 75 rfl) jN_RX6_60 (Nat.le_of_ble_eq_true rfl) (Nat.le_of_ble_eq_true rfl) (fun o12 => ?_)
  dsimp only [List.set_cons_zero, List.set_cons_succ, List.cons_append, List.nil_append]
  refine J_dup (gxd kX6_init 76 rfl) ?_
  refine J_callI (As := []) (rest := [.ref o12, .int 2, .ref qs]) (wr := [(h0, .inr (6, [.ref o1, .ref o2, .ref o3, .ref o4, .ref o5, .ref o6, .ref o7, .ref o8, .ref o9, .ref qs, .null, .int 0, .int 0])), (o1, .inr (3, [.ref o1q1, .ref o1q2, .ref o1q3, .ref o1q4, .ref o1q5, .ref o1q6, .ref o1q7, .ref o1q8, .int 0])), (o1q1, .inl (ct.1, 16, .inl (fun _ => 0))), (o1q2, .inl (ct.1, 24, .inl (fun _ => 0))), (o1q3, .inl (ct.1, 24, .inl (fun _ => 0))), (o1q4, .inl (ct.1, 8, .inl (fun _ => 0))), (o1q5, .inl (ct.1, 48, .inl (fun _ => 0))), (o1q6, .inl (ct.1, 1600, .inl (fun _ => 0))), (o1q7, .inl (ct.1, 64, .inl (fun _ => 0))), (o1q8, .inl (ct.1, 9, .inl (fun _ => 0))), (o2, .inr (2, [.ref o2q1, .ref o2q2, .ref o2q3, .ref o2q4, .ref o2q5, .ref o2q6, .int 0, .int 0, .int 0, .int 0, .int 0, .int 0, .int 0, .int 0])), (o2q1, .inl (ct.1, 90, .inl (fun _ => 0))), (o2q2, .inl (ct.1, 91, .inl (fun _ => 0))), (o2q3, .inl (ct.1, 91, .inl (fun _ => 0))), (o2q4, .inl (ct.1, 91, .inl (fun _ => 0))), (o2q5, .inl (ct.1, 90, .inl (fun _ => 0))), (o2q6, .inl (ct.1, 90, .inl (fun _ => 0))), (o3q2, .inl (ct.1, 9, .inl (fun _ => 0))), (o3q3, .inl (ct.1, 80, .inl (fun _ => 0))), (o3q4, .inl (ct.1, 80, .inl (fun _ => 0))), (o3, .inr (0, [.ref o1, .ref o3q1, .ref o3q2, .ref o3q3, .ref o3q4, .int 0, .int 0, .int 0, .int 0, .int 0, .int 0, .int 0])), (o3q1, .inl (ct.1, 9, .inl (o3f))), (o4, .inr (1, [.ref o4q1, .ref o4q2, .ref o4q3, .ref o4q4, .ref o4q5, .int 0, .int 0])), (o4q1, .inl (ct.1, 12, .inl (fun _ => 0))), (o4q2, .inl (ct.1, 12, .inl (fun _ => 0))), (o4q3, .inl (ct.1, 8, .inl (fun _ => 0))), (o4q4, .inl (ct.1, 8, .inl (fun _ => 0))), (o4q5, .inl (ct.1, 8, .inl (fun _ => 0))), (o5q2, .inl (ct.1, 9, .inl (fun _ => 0))), (o5q3, .inl (ct.1, 80, .inl (fun _ => 0))), (o5q4, .inl (ct.1, 80, .inl (fun _ => 0))), (o5, .inr (0, [.ref o1, .ref o5q1, .ref o5q2, .ref o5q3, .ref o5q4, .int 0, .int 0, .int 0, .int 0, .int 0, .int 0, .int 0])), (o5q1, .inl (ct.1, 9, .inl (o5f))), (o6q2, .inl (ct.1, 9, .inl (fun _ => 0))), (o6q3, .inl (ct.1, 80, .inl (fun _ => 0))), (o6q4, .inl (ct.1, 80, .inl (fun _ => 0))), (o6, .inr (0, [.ref o1, .ref o6q1, .ref o6q2, .ref o6q3, .ref o6q4, .int 0, .int 0, .int 0, .int 0, .int 0, .int 0, .int 0])), (o6q1, .inl (ct.1, 9, .inl (o6f))), (o7, .inr (4, [.ref o1, .ref o4, .ref o5, .ref o6, .ref o7q1, .ref o7q2, .ref o7q3, .ref o7q4, .ref o7q5, .int 0, .int 0, .int 0, .int 0, .int 0, .int 0])), (o7q1, .inl (ct.1, 8, .inl (fun _ => 0))), (o7q2, .inl (ct.1, 8, .inl (fun _ => 0))), (o7q3, .inl (ct.1, 8, .inl (fun _ => 0))), (o7q4, .inl (ct.1, 8, .inl (fun _ => 0))), (o7q5, .inl (ct.1, 8, .inl (fun _ => 0))), (o8q2, .inl (ct.1, 9, .inl (fun _ => 0))), (o8q3, .inl (ct.1, 80, .inl (fun _ => 0))), (o8q4, .inl (ct.1, 80, .inl (fun _ => 0))), (o8, .inr (0, [.ref o1, .ref o8q1, .ref o8q2, .ref o8q3, .ref o8q4, .int 0, .int 0, .int 0, .int 0, .int 0, .int 0, .int 0])), (o8q1, .inl (ct.1, 9, .inl (o8f))), (o9, .inr (1, [.ref o9q1, .ref o9q2, .ref o9q3, .ref o9q4, .ref o9q5, .int 0, .int 0])), (o9q1, .inl (ct.1, 12, .inl (fun _ => 0))), (o9q2, .inl (ct.1, 12, .inl (fun _ => 0))), (o9q3, .inl (ct.1, 8, .inl (fun _ => 0))), (o9q4, .inl (ct.1, 8, .inl (fun _ => 0))), (o9q5, .inl (ct.1, 8, .inl (fun _ => 0))), (qs, .inl (ct.2.2, 4, .inr (.inr (.inr (.inr (va_up (va_up (fun _ => none) 0 (some o10)) 1 (some o11))))))), (o10, .inr (5, [.ref o10q1, .int (-1), .int 0])), (o10q1, .inl (ct.1, 40, .inl (fun _ => 0))), (o11, .inr (5, [.ref o11q1, .int (-1), .int 0])), (o11q1, .inl (ct.1, 40, .inl (fun _ => 0)))]) [60] [0, 1, 2, 3, 4, 5, 6, 7, 8, 9, 10, 11, 12, 13, 14, 15, 16, 17, 18, 19, 20, 21, 22, 23, 24, 25, 26, 27, 28, 29, 30, 31, 32, 33, 34, 35, 36, 37, 38, 39, 40, 41, 42, 43, 44, 45, 46, 47, 48, 49, 50, 51, 52, 53, 54, 55, 56, 57, 58, 59] (gxd kX6_init 77 rfl) jL_RX6_66 rfl jL_RX6_66i jW_X5_init rfl rfl (Nat.le_of_ble_eq_true rfl) ⟨(Nat.le_of_ble_eq_true rfl), (Nat.le_of_ble_eq_true rfl)⟩ rfl rfl ⟨(Nat.le_of_ble_eq_true rfl), (Nat.le_of_ble_eq_true rfl)⟩ (c_X5_init D ct) rfl rfl rfl rfl (by decide) ?_
  rintro w1 ⟨o12q1, rfl⟩
  dsimp only [List.set_cons_zero, List.set_cons_succ, List.cons_append, List.nil_append]
  refine J_aast2 (N := 4) (kn := 2) 55 60 (gxd kX6_init 78 rfl) rfl rfl (by decide) (by decide) ?_
  dsimp only [List.set_cons_zero, List.set_cons_succ, List.cons_append, List.nil_append]
  refine J_iinc 0 (w := 3) (la2 := [(1, .int 3), (0, .ref h0)]) (gxd kX6_init 79 rfl) rfl (by decide) (by decide) rfl ?_
  refine J_goto (gxd kX6_init 80 rfl) rfl ?_
  refine J_iload 0 (gxd kX6_init 69 rfl) rfl rfl ?_
  refine J_iconst (v := 4) (gxd kX6_init 70 rfl) (by decide) ?_
  refine J_icmp_ge (gxd kX6_init 71 rfl) (tgt := 169) rfl (fun z => absurd (by decide) z) (fun _ => ?_)
  refine J_aload 1 (gxd kX6_init 72 rfl) rfl rfl ?_
  refine J_get 0 (gxd kX6_init 73 rfl) jF_RX6_62 rfl rfl jK_RX6_62 ?_
  refine J_iload 0 (gxd kX6_init 74 rfl) rfl rfl ?_
  refine J_new (gxd kX6_init 75 rfl) jN_RX6_60 (Nat.le_of_ble_eq_true rfl) (Nat.le_of_ble_eq_true rfl) (fun o13 => ?_)
  dsimp only [List.set_cons_zero, List.set_cons_succ, List.cons_append, List.nil_append]
  refine J_dup (gxd kX6_init 76 rfl) ?_
  refine J_callI (As := []) (rest := [.ref o13, .int 3, .ref qs]) (wr := [(h0, .inr (6, [.ref o1, .ref o2, .ref o3, .ref o4, .ref o5, .ref o6, .ref o7, .ref o8, .ref o9, .ref qs, .null, .int 0, .int 0])), (o1, .inr (3, [.ref o1q1, .ref o1q2, .ref o1q3, .ref o1q4, .ref o1q5, .ref o1q6, .ref o1q7, .ref o1q8, .int 0])), (o1q1, .inl (ct.1, 16, .inl (fun _ => 0))), (o1q2, .inl (ct.1, 24, .inl (fun _ => 0))), (o1q3, .inl (ct.1, 24, .inl (fun _ => 0))), (o1q4, .inl (ct.1, 8, .inl (fun _ => 0))), (o1q5, .inl (ct.1, 48, .inl (fun _ => 0))), (o1q6, .inl (ct.1, 1600, .inl (fun _ => 0))), (o1q7, .inl (ct.1, 64, .inl (fun _ => 0))), (o1q8, .inl (ct.1, 9, .inl (fun _ => 0))), (o2, .inr (2, [.ref o2q1, .ref o2q2, .ref o2q3, .ref o2q4, .ref o2q5, .ref o2q6, .int 0, .int 0, .int 0, .int 0, .int 0, .int 0, .int 0, .int 0])), (o2q1, .inl (ct.1, 90, .inl (fun _ => 0))), (o2q2, .inl (ct.1, 91, .inl (fun _ => 0))), (o2q3, .inl (ct.1, 91, .inl (fun _ => 0))), (o2q4, .inl (ct.1, 91, .inl (fun _ => 0))), (o2q5, .inl (ct.1, 90, .inl (fun _ => 0))), (o2q6, .inl (ct.1, 90, .inl (fun _ => 0))), (o3q2, .inl (ct.1, 9, .inl (fun _ => 0))), (o3q3, .inl (ct.1, 80, .inl (fun _ => 0))), (o3q4, .inl (ct.1, 80, .inl (fun _ => 0))), (o3, .inr (0, [.ref o1, .ref o3q1, .ref o3q2, .ref o3q3, .ref o3q4, .int 0, .int 0, .int 0, .int 0, .int 0, .int 0, .int 0])), (o3q1, .inl (ct.1, 9, .inl (o3f))), (o4, .inr (1, [.ref o4q1, .ref o4q2, .ref o4q3, .ref o4q4, .ref o4q5, .int 0, .int 0])), (o4q1, .inl (ct.1, 12, .inl (fun _ => 0))), (o4q2, .inl (ct.1, 12, .inl (fun _ => 0))), (o4q3, .inl (ct.1, 8, .inl (fun _ => 0))), (o4q4, .inl (ct.1, 8, .inl (fun _ => 0))), (o4q5, .inl (ct.1, 8, .inl (fun _ => 0))), (o5q2, .inl (ct.1, 9, .inl (fun _ => 0))), (o5q3, .inl (ct.1, 80, .inl (fun _ => 0))), (o5q4, .inl (ct.1, 80, .inl (fun _ => 0))), (o5, .inr (0, [.ref o1, .ref o5q1, .ref o5q2, .ref o5q3, .ref o5q4, .int 0, .int 0, .int 0, .int 0, .int 0, .int 0, .int 0])), (o5q1, .inl (ct.1, 9, .inl (o5f))), (o6q2, .inl (ct.1, 9, .inl (fun _ => 0))), (o6q3, .inl (ct.1, 80, .inl (fun _ => 0))), (o6q4, .inl (ct.1, 80, .inl (fun _ => 0))), (o6, .inr (0, [.ref o1, .ref o6q1, .ref o6q2, .ref o6q3, .ref o6q4, .int 0, .int 0, .int 0, .int 0, .int 0, .int 0, .int 0])), (o6q1, .inl (ct.1, 9, .inl (o6f))), (o7, .inr (4, [.ref o1, .ref o4, .ref o5, .ref o6, .ref o7q1, .ref o7q2, .ref o7q3, .ref o7q4, .ref o7q5, .int 0, .int 0, .int 0, .int 0, .int 0, .int 0])), (o7q1, .inl (ct.1, 8, .inl (fun _ => 0))), (o7q2, .inl (ct.1, 8, .inl (fun _ => 0))), (o7q3, .inl (ct.1, 8, .inl (fun _ => 0))), (o7q4, .inl (ct.1, 8, .inl (fun _ => 0))), (o7q5, .inl (ct.1, 8, .inl (fun _ => 0))), (o8q2, .inl (ct.1, 9, .inl (fun _ => 0))), (o8q3, .inl (ct.1, 80, .inl (fun _ => 0))), (o8q4, .inl (ct.1, 80, .inl (fun _ => 0))), (o8, .inr (0, [.ref o1, .ref o8q1, .ref o8q2, .ref o8q3, .ref o8q4, .int 0, .int 0, .int 0, .int 0, .int 0, .int 0, .int 0])), (o8q1, .inl (ct.1, 9, .inl (o8f))), (o9, .inr (1, [.ref o9q1, .ref o9q2, .ref o9q3, .ref o9q4, .ref o9q5, .int 0, .int 0])), (o9q1, .inl (ct.1, 12, .inl (fun _ => 0))), (o9q2, .inl (ct.1, 12, .inl (fun _ => 0))), (o9q3, .inl (ct.1, 8, .inl (fun _ => 0))), (o9q4, .inl (ct.1, 8, .inl (fun _ => 0))), (o9q5, .inl (ct.1, 8, .inl (fun _ => 0))), (qs, .inl (ct.2.2, 4, .inr (.inr (.inr (.inr (va_up (va_up (va_up (fun _ => none) 0 (some o10)) 1 (some o11)) 2 (some o12))))))), (o10, .inr (5, [.ref o10q1, .int (-1), .int 0])), (o10q1, .inl (ct.1, 40, .inl (fun _ => 0))), (o11, .inr (5, [.ref o11q1, .int (-1), .int 0])), (o11q1, .inl (ct.1, 40, .inl (fun _ => 0))), (o12, .inr (5, [.ref o12q1, .int (-1), .int 0])), (o12q1, .inl (ct.1, 40, .inl (fun _ => 0)))]) [62] [0, 1, 2, 3, 4, 5, 6, 7, 8, 9, 10, 11, 12, 13, 14, 15, 16, 17, 18, 19, 20, 21, 22, 23, 24, 25, 26, 27, 28, 29, 30, 31, 32, 33, 34, 35, 36, 37, 38, 39, 40, 41, 42, 43, 44, 45, 46, 47, 48, 49, 50, 51, 52, 53, 54, 55, 56, 57, 58, 59, 60, 61] (gxd kX6_init 77 rfl) jL_RX6_66 rfl jL_RX6_66i jW_X5_init rfl rfl (Nat.le_of_ble_eq_true rfl) ⟨(Nat.le_of_ble_eq_true rfl), (Nat.le_of_ble_eq_true rfl)⟩ rfl rfl ⟨(Nat.le_of_ble_eq_true rfl), (Nat.le_of_ble_eq_true rfl)⟩ (c_X5_init D ct) rfl rfl rfl rfl (by decide) ?_
  rintro w1 ⟨o13q1, rfl⟩
  dsimp only [List.set_cons_zero, List.set_cons_succ, List.cons_append, List.nil_append]
  refine J_aast2 (N := 4) (kn := 3) 55 62 (gxd kX6_init 78 rfl) rfl rfl (by decide) (by decide) ?_
  dsimp only [List.set_cons_zero, List.set_cons_succ, List.cons_append, List.nil_append]
  refine J_iinc 0 (w := 4) (la2 := [(1, .int 4), (0, .ref h0)]) (gxd kX6_init 79 rfl) rfl (by decide) (by decide) rfl ?_
  refine J_goto (gxd kX6_init 80 rfl) rfl ?_
  refine J_iload 0 (gxd kX6_init 69 rfl) rfl rfl ?_
  refine J_iconst (v := 4) (gxd kX6_init 70 rfl) (by decide) ?_
  refine J_icmp_ge (gxd kX6_init 71 rfl) (tgt := 169) rfl (fun _ => ?_) (fun z => absurd z (by decide))
  refine J_aload 1 (gxd kX6_init 81 rfl) rfl rfl ?_
  refine J_bipush (v := 9) (gxd kX6_init 82 rfl) (by decide) ?_
  refine J_newi (N := 9) (gxd kX6_init 83 rfl) jAi (by decide) (by decide) (Nat.le_of_ble_eq_true rfl) (Nat.le_of_ble_eq_true rfl) (Nat.le_of_ble_eq_true rfl) (fun qt => ?_)
  refine J_putF 0 (gxd kX6_init 84 rfl) jF_RX6_67 jP_RX6_67 rfl rfl rfl (Nat.le_of_ble_eq_true rfl) rfl jK_RX6_67 ?_
  dsimp only [List.set_cons_zero, List.set_cons_succ, List.cons_append, List.nil_append]
  refine J_aload 1 (gxd kX6_init 85 rfl) rfl rfl ?_
  refine J_iconst (v := 0) (gxd kX6_init 86 rfl) (by decide) ?_
  refine J_put 0 (gxd kX6_init 87 rfl) jF_RX6_71 jP_RX6_71 rfl rfl rfl (Nat.le_of_ble_eq_true rfl) jK_RX6_71 ?_
  dsimp only [List.set_cons_zero, List.set_cons_succ, List.cons_append, List.nil_append]
  refine J_aload 1 (gxd kX6_init 88 rfl) rfl rfl ?_
  refine J_iconst (v := 0) (gxd kX6_init 89 rfl) (by decide) ?_
  refine J_put 0 (gxd kX6_init 90 rfl) jF_RX6_75 jP_RX6_75 rfl rfl rfl (Nat.le_of_ble_eq_true rfl) jK_RX6_75 ?_
  dsimp only [List.set_cons_zero, List.set_cons_succ, List.cons_append, List.nil_append]
  refine J_vret (gxd kX6_init 91 rfl) ⟨o1, o1q1, o1q2, o1q3, o1q4, o1q5, o1q6, o1q7, o1q8, o2, o2q1, o2q2, o2q3, o2q4, o2q5, o2q6, o3, o3q1, o3q2, o3q3, o3q4, o4, o4q1, o4q2, o4q3, o4q4, o4q5, o5, o5q1, o5q2, o5q3, o5q4, o6, o6q1, o6q2, o6q3, o6q4, o7, o7q1, o7q2, o7q3, o7q4, o7q5, o8, o8q1, o8q2, o8q3, o8q4, o9, o9q1, o9q2, o9q3, o9q4, o9q5, qs, o10, o10q1, o11, o11q1, o12, o12q1, o13, o13q1, qt, o3f, o5f, o6f, o8f, _, o3e, o3g, o5e, o5g, o6e, o6g, o8e, o8g, ⟨rfl, rfl, rfl, rfl, fun j hj => ?_⟩, rfl⟩ rfl rfl
  unfold va_up
  rw [if_neg (by omega), if_neg (by omega), if_neg (by omega), if_neg (by omega)]
