/-! the JDK's methods over texts -/
def zr (d c s : Nat) : Room := { frames := d, cells := c, slots := s, locals := 64 * d }
theorem shr0 (a : Int32) : a >>> ((0 : Int32) &&& 31) = a := by
  refine bt_ext (fun i hi => ?_)
  have h := bt_shr a (v := 0) (by omega) hi
  rw [Nat.zero_add, if_pos hi] at h
  exact h
theorem shl0 (a : Int32) : a <<< ((0 : Int32) &&& 31) = a := by
  apply Int32.toBitVec_inj.mp
  rw [Int32.toBitVec_shiftLeft]
  have e : ((0 : Int32) &&& 31).toBitVec.smod 32 = 0#32 := by decide
  rw [e]
  simp
theorem and255 : ∀ b : Nat, b < 128 → nI b &&& 255 = nI b := by decide +kernel
theorem chr_ok : ∀ b : Nat, b < 128 → ((nI b).toUInt32 % 65536).toInt32 = nI b := by decide +kernel
theorem chr_nar : ∀ b : Nat, b < 128 → narrow .char (.int (nI b)) = .int (nI b) := by decide +kernel
theorem byt_ok : ∀ b : Nat, b < 128 → (nI b).toInt8.toInt32 = nI b := by decide +kernel
theorem byt_nar : ∀ b : Nat, b < 128 → vp_nar .byte (nI b) = nI b := by decide +kernel
theorem byt_fit : ∀ b : Nat, b < 128 → fits .byte (.int (nI b)) = true := by decide +kernel
theorem ens_all : ∀ u : Nat, u < 17 → ¬ 0 < nI u - 16 := by decide +kernel
theorem ens_ok {u : Nat} (h : u < 17) : ¬ 0 < nI u - 16 := ens_all u h
theorem neg_ok : ∀ a : Nat, a < 10 → ¬ ¬ (-10 : Int32) < -(nI a) := by decide +kernel
theorem neg100 : ∀ a : Nat, a < 10 → (-100 : Int32) < -(nI a) := by decide +kernel
theorem neg9 : ∀ a : Nat, a < 10 → ¬ -(nI a) < (-9 : Int32) := by decide +kernel
theorem negneg (a : Nat) : - - nI a = nI a := Int32.neg_neg
theorem dec_ok (j : Nat) : nI (j + 1) + Int32.ofInt (-1) = nI j := by
  rw [show Int32.ofInt (-1) = -1 from by decide, ← Int32.sub_eq_add_neg]
  exact nI_pred j
theorem sub0 (a : Int32) : a - 0 = a := by
  apply Int32.toBitVec_inj.mp
  rw [Int32.toBitVec_sub]
  exact BitVec.sub_zero _
theorem min16 {j : Nat} (h : j < 16) : (if nI j < (16 : Int32) then nI j else 16) = nI j := if_pos (nI_lt (a := j) (b := 16) h (by decide))
theorem ne16 {j : Nat} (h : j < 16) : ¬ nI j = (16 : Int32) := fun z => by
  have := (nI_eq (a := j) (b := 16) (by omega) (by decide)).mp z
  omega
theorem shr3 (v : Int32) : ∃ u : Nat, u < 2 ^ 29 ∧ (v.toUInt32 >>> ((3 : Int32).toUInt32 &&& Int32.toUInt32 31)).toInt32 = nI u := by
  refine ⟨v.toUInt32.toNat / 8, ?_, ?_⟩
  · have := v.toUInt32.toNat_lt
    omega
  · apply Int32.toBitVec_inj.mp
    apply BitVec.eq_of_toNat_eq
    have e : ((3 : Int32).toUInt32 &&& Int32.toUInt32 31) = 3 := by decide
    rw [e]
    show (v.toUInt32 >>> 3).toBitVec.toNat = (Int32.ofNat (v.toUInt32.toNat / 8)).toBitVec.toNat
    rw [Int32.toBitVec_ofNat', BitVec.toNat_ofNat]
    have h1 : (v.toUInt32 >>> 3).toBitVec.toNat = v.toUInt32.toNat / 8 := by
      have := UInt32.toNat_shiftRight v.toUInt32 3
      rw [show (v.toUInt32 >>> 3).toBitVec.toNat = (v.toUInt32 >>> 3).toNat from rfl, this, Nat.shiftRight_eq_div_pow]
      rfl
    have := v.toUInt32.toNat_lt
    rw [h1]
    omega
theorem i_coder {D : va_G} {ct : iC3} {d : Nat} {q : iT} : iC yJ0_coder_7d493 cJ0_coder_7d493 1 (some .byte) (zr 0 0 0) 0 0 D ct (d, [q], []) [.ref q.1] [] (fun r w1 => r = some (.int 0) ∧ w1 = []) := by
  refine iC_of (by decide +kernel) (Nat.le_of_ble_eq_true rfl) ?_
  intro p l e s m args below meth c A X hM
  refine Z_gcs X (gxd kJ0_coder_7d493 0 rfl) ig_RJ0_38 ?_
  refine Z_if_eq (tgt := 13) X (gxd kJ0_coder_7d493 1 rfl) rfl (fun z => absurd z (by decide)) (fun _ => ?_)
  refine Z_aload_n 0 X (gxd kJ0_coder_7d493 2 rfl) rfl rfl ?_
  refine Z_getc (q := q) 0 X (gxd kJ0_coder_7d493 3 rfl) ig_RJ0_15 rfl ?_
  refine Z_goto (tgt := 14) X (gxd kJ0_coder_7d493 4 rfl) rfl ?_
  refine Z_zret X hM rfl (gxd kJ0_coder_7d493 6 rfl) ⟨rfl, rfl⟩ rfl rfl
theorem i_latin {D : va_G} {ct : iC3} {d : Nat} {q : iT} : iC yJ0_isLatin1_aae02 cJ0_isLatin1_aae02 1 (some .boolean) (zr 0 0 0) 0 0 D ct (d, [q], []) [.ref q.1] [] (fun r w1 => r = some (.int 1) ∧ w1 = []) := by
  refine iC_of (by decide +kernel) (Nat.le_of_ble_eq_true rfl) ?_
  intro p l e s m args below meth c A X hM
  refine Z_gcs X (gxd kJ0_isLatin1_aae02 0 rfl) ig_RJ0_38 ?_
  refine Z_if_eq (tgt := 17) X (gxd kJ0_isLatin1_aae02 1 rfl) rfl (fun z => absurd z (by decide)) (fun _ => ?_)
  refine Z_aload_n 0 X (gxd kJ0_isLatin1_aae02 2 rfl) rfl rfl ?_
  refine Z_getc (q := q) 0 X (gxd kJ0_isLatin1_aae02 3 rfl) ig_RJ0_15 rfl ?_
  refine Z_if_ne (tgt := 17) X (gxd kJ0_isLatin1_aae02 4 rfl) rfl (fun z => absurd z (by decide)) (fun _ => ?_)
  refine Z_iconst (v := 1) X (gxd kJ0_isLatin1_aae02 5 rfl) (by decide) ?_
  refine Z_goto (tgt := 18) X (gxd kJ0_isLatin1_aae02 6 rfl) rfl ?_
  refine Z_zret X hM rfl (gxd kJ0_isLatin1_aae02 8 rfl) ⟨rfl, rfl⟩ rfl rfl
theorem i_length {D : va_G} {ct : iC3} {d : Nat} {q : iT} : iC yJ0_length_8abf5 cJ0_length_8abf5 1 (some .int) (zr 1 0 0) 0 0 D ct (d, [q], []) [.ref q.1] [] (fun r w1 => r = some (.int (nI q.2.2.1)) ∧ w1 = []) := by
  refine iC_of (by decide +kernel) (Nat.le_of_ble_eq_true rfl) ?_
  intro p l e s m args below meth c A X hM
  refine Z_aload_n 0 X (gxd kJ0_length_8abf5 0 rfl) rfl rfl ?_
  refine Z_getw (q := q) 0 X (gxd kJ0_length_8abf5 1 rfl) ig_RJ0_9 rfl ?_
  refine Z_alenE (q := q) 0 (v := nI q.2.2.1) X (gxd kJ0_length_8abf5 2 rfl) rfl rfl ?_
  refine Z_aload_n 0 X (gxd kJ0_length_8abf5 3 rfl) rfl rfl ?_
  refine Z_callE (q := q) (As := []) (rest := [.int (nI q.2.2.1)]) (W0 := []) (es := []) (wc := []) (wr := []) (a0 := 0) 0 [] [] X (gxd kJ0_length_8abf5 4 rfl) iv_RJ0_335 iw_J0_coder_7d493 rfl rfl rfl rfl (Nat.le_of_ble_eq_true rfl) ⟨(Nat.le_of_ble_eq_true rfl), (Nat.le_of_ble_eq_true rfl)⟩ rfl rfl ⟨(Nat.le_of_ble_eq_true rfl), (Nat.le_of_ble_eq_true rfl)⟩ i_coder (xsub_rf _) rfl ⟨rfl, rfl, by decide, by decide, by decide⟩ ?_
  rintro _ _ ⟨rfl, rfl⟩
  show zJ p l e _ s m args below meth c A _ D _ 9 [(0, .ref q.1)] [.int 0, .int (nI q.2.2.1)] [] 0 0
  refine Z_ishr (v := nI q.2.2.1) X (gxd kJ0_length_8abf5 5 rfl) (shr0 _) ?_
  refine Z_zret X hM rfl (gxd kJ0_length_8abf5 6 rfl) ⟨rfl, rfl⟩ rfl rfl
theorem i_check3 {D : va_G} {ct : iC3} {d i N : Nat} {v : Value} (hi : i < N) (hN : N < 2 ^ 31) (hv : v = .null ∨ ∃ t, v = .ref t) : iC yJ3_checkIndex_8e157 cJ3_checkIndex_8e157 3 (some .int) (zr 0 0 0) 0 0 D ct (d, [], []) [.int (nI i), .int (nI N), v] [] (fun r w1 => r = some (.int (nI i)) ∧ w1 = []) := by
  rcases hv with rfl | ⟨t, rfl⟩
  all_goals refine iC_of (by decide +kernel) (Nat.le_of_ble_eq_true rfl) ?_
  all_goals intro p l e s m args below meth c A X hM
  all_goals refine Z_iload_n 0 X (gxd kJ3_checkIndex_8e157 0 rfl) rfl rfl ?_
  all_goals refine Z_if_lt (tgt := 9) X (gxd kJ3_checkIndex_8e157 1 rfl) rfl (fun z => absurd z (nI_pos (by omega))) (fun _ => ?_)
  all_goals refine Z_iload_n 0 X (gxd kJ3_checkIndex_8e157 2 rfl) rfl rfl ?_
  all_goals refine Z_iload_n 1 X (gxd kJ3_checkIndex_8e157 3 rfl) rfl rfl ?_
  all_goals refine Z_icmp_lt (tgt := 16) X (gxd kJ3_checkIndex_8e157 4 rfl) rfl (fun _ => ?_) (fun z => absurd (nI_lt hi hN) z)
  all_goals refine Z_iload_n 0 X (gxd kJ3_checkIndex_8e157 10 rfl) rfl rfl ?_
  all_goals refine Z_zret X hM rfl (gxd kJ3_checkIndex_8e157 11 rfl) ⟨rfl, rfl⟩ rfl rfl
theorem i_check {D : va_G} {ct : iC3} {d i N : Nat} (hi : i < N) (hN : N < 2 ^ 31) : iC yJ0_checkIndex_df160 cJ0_checkIndex_df160 2 none (zr 1 0 0) 0 0 D ct (d, [], []) [.int (nI i), .int (nI N)] [] (fun r w1 => r = none ∧ w1 = []) := by
  refine iC_of (by decide +kernel) (Nat.le_of_ble_eq_true rfl) ?_
  intro p l e s m args below meth c A X hM
  refine Z_iload_n 0 X (gxd kJ0_checkIndex_df160 0 rfl) rfl rfl ?_
  refine Z_iload_n 1 X (gxd kJ0_checkIndex_df160 1 rfl) rfl rfl ?_
  refine Z_gsf X (gxd kJ0_checkIndex_df160 2 rfl) ig_RJ0_1053 (fun v hv => ?_)
  refine Z_callS (As := [.int (nI i), .int (nI N), v]) (rest := []) (W0 := []) (es := []) (wc := []) (wr := []) (a0 := 0) [] [] X (gxd kJ0_checkIndex_df160 3 rfl) is_RJ0_1059 iw_J3_checkIndex_8e157 rfl rfl (Nat.le_of_ble_eq_true rfl) ⟨(Nat.le_of_ble_eq_true rfl), (Nat.le_of_ble_eq_true rfl)⟩ rfl rfl ⟨(Nat.le_of_ble_eq_true rfl), (Nat.le_of_ble_eq_true rfl)⟩ (i_check3 hi hN hv) (xsub_nil _) rfl ⟨rfl, rfl, by decide, by decide, by decide⟩ ?_
  rintro _ _ ⟨rfl, rfl⟩
  show zJ p l e _ s m args below meth c A _ D _ 8 [(0, .int (nI i)), (1, .int (nI N))] [.int (nI i)] [] 0 0
  refine Z_pop X (gxd kJ0_checkIndex_df160 4 rfl) rfl ?_
  refine Z_vret X hM (gxd kJ0_checkIndex_df160 5 rfl) ⟨rfl, rfl⟩ rfl rfl
theorem i_char1 {D : va_G} {ct : iC3} {d i b : Nat} {q : iT} (hi : i < q.2.2.1) (hN : q.2.2.1 < 2 ^ 31) (hb : q.2.2.2 i = nI b) (hb2 : b < 128) : iC yJ1_charAt_3b067 cJ1_charAt_3b067 2 (some .char) (zr 2 0 0) 0 0 D ct (d, [q], []) [.ref q.2.1, .int (nI i)] [] (fun r w1 => r = some (.int (nI b)) ∧ w1 = []) := by
  refine iC_of (by decide +kernel) (Nat.le_of_ble_eq_true rfl) ?_
  intro p l e s m args below meth c A X hM
  refine Z_iload_n 1 X (gxd kJ1_charAt_3b067 0 rfl) rfl rfl ?_
  refine Z_aload_n 0 X (gxd kJ1_charAt_3b067 1 rfl) rfl rfl ?_
  refine Z_alenE (q := q) 0 (v := nI q.2.2.1) X (gxd kJ1_charAt_3b067 2 rfl) rfl rfl ?_
  refine Z_callS (As := [.int (nI i), .int (nI q.2.2.1)]) (rest := []) (W0 := []) (es := []) (wc := []) (wr := []) (a0 := 0) [] [] X (gxd kJ1_charAt_3b067 3 rfl) is_RJ1_9 iw_J0_checkIndex_df160 rfl rfl (Nat.le_of_ble_eq_true rfl) ⟨(Nat.le_of_ble_eq_true rfl), (Nat.le_of_ble_eq_true rfl)⟩ rfl rfl ⟨(Nat.le_of_ble_eq_true rfl), (Nat.le_of_ble_eq_true rfl)⟩ (i_check hi hN) (xsub_nil _) rfl ⟨rfl, rfl, by decide, by decide, by decide⟩ ?_
  rintro _ _ ⟨rfl, rfl⟩
  show zJ p l e _ s m args below meth c A _ D _ 6 [(0, .ref q.2.1), (1, .int (nI i))] [] [] 0 0
  refine Z_aload_n 0 X (gxd kJ1_charAt_3b067 4 rfl) rfl rfl ?_
  refine Z_iload_n 1 X (gxd kJ1_charAt_3b067 5 rfl) rfl rfl ?_
  refine Z_baldE (q := q) 0 (v := nI b) X (gxd kJ1_charAt_3b067 6 rfl) rfl (vp_in_nI hi hN) (by rw [nI_clamp (by omega)]; exact hb) ?_
  refine Z_sipush (v := 255) X (gxd kJ1_charAt_3b067 7 rfl) (by decide) ?_
  refine Z_iand (v := nI b) X (gxd kJ1_charAt_3b067 8 rfl) (and255 b hb2) ?_
  refine Z_i2c (v := nI b) X (gxd kJ1_charAt_3b067 9 rfl) (chr_ok b hb2) ?_
  refine Z_zret X hM (chr_nar b hb2) (gxd kJ1_charAt_3b067 10 rfl) ⟨rfl, rfl⟩ rfl rfl
theorem i_charAt {D : va_G} {ct : iC3} {d i b : Nat} {q : iT} (hi : i < q.2.2.1) (hN : q.2.2.1 < 2 ^ 31) (hb : q.2.2.2 i = nI b) (hb2 : b < 128) : iC yJ0_charAt_5068e cJ0_charAt_5068e 2 (some .char) (zr 3 0 0) 0 0 D ct (d, [q], []) [.ref q.1, .int (nI i)] [] (fun r w1 => r = some (.int (nI b)) ∧ w1 = []) := by
  refine iC_of (by decide +kernel) (Nat.le_of_ble_eq_true rfl) ?_
  intro p l e s m args below meth c A X hM
  refine Z_aload_n 0 X (gxd kJ0_charAt_5068e 0 rfl) rfl rfl ?_
  refine Z_callE (q := q) (As := []) (rest := []) (W0 := []) (es := []) (wc := []) (wr := []) (a0 := 0) 0 [] [] X (gxd kJ0_charAt_5068e 1 rfl) iv_RJ0_492 iw_J0_isLatin1_aae02 rfl rfl rfl rfl (Nat.le_of_ble_eq_true rfl) ⟨(Nat.le_of_ble_eq_true rfl), (Nat.le_of_ble_eq_true rfl)⟩ rfl rfl ⟨(Nat.le_of_ble_eq_true rfl), (Nat.le_of_ble_eq_true rfl)⟩ i_latin (xsub_rf _) rfl ⟨rfl, rfl, by decide, by decide, by decide⟩ ?_
  rintro _ _ ⟨rfl, rfl⟩
  show zJ p l e _ s m args below meth c A _ D _ 4 [(0, .ref q.1), (1, .int (nI i))] [.int 1] [] 0 0
  refine Z_if_eq (tgt := 16) X (gxd kJ0_charAt_5068e 2 rfl) rfl (fun z => absurd z (by decide)) (fun _ => ?_)
  refine Z_aload_n 0 X (gxd kJ0_charAt_5068e 3 rfl) rfl rfl ?_
  refine Z_getw (q := q) 0 X (gxd kJ0_charAt_5068e 4 rfl) ig_RJ0_9 rfl ?_
  refine Z_iload_n 1 X (gxd kJ0_charAt_5068e 5 rfl) rfl rfl ?_
  refine Z_callS (As := [.ref q.2.1, .int (nI i)]) (rest := []) (W0 := []) (es := []) (wc := []) (wr := []) (a0 := 0) [] [] X (gxd kJ0_charAt_5068e 6 rfl) is_RJ0_495 iw_J1_charAt_3b067 rfl rfl (Nat.le_of_ble_eq_true rfl) ⟨(Nat.le_of_ble_eq_true rfl), (Nat.le_of_ble_eq_true rfl)⟩ rfl rfl ⟨(Nat.le_of_ble_eq_true rfl), (Nat.le_of_ble_eq_true rfl)⟩ (i_char1 hi hN hb hb2) (xsub_rf _) rfl ⟨rfl, rfl, by decide, by decide, by decide⟩ ?_
  rintro _ _ ⟨rfl, rfl⟩
  show zJ p l e _ s m args below meth c A _ D _ 15 [(0, .ref q.1), (1, .int (nI i))] [.int (nI b)] [] 0 0
  refine Z_zret X hM (chr_nar b hb2) (gxd kJ0_charAt_5068e 7 rfl) ⟨rfl, rfl⟩ rfl rfl
theorem i_ainit {D : va_G} {ct : iC3} {d b : Nat} : iC yJ5_init_d00df cJ5_init_d00df 2 none (zr 1 1 16) 1 16 D ct (d, [], []) [.ref b, .int 16] [(b, .inr (8, fz8))] (fun r w1 => ∃ v : Nat, r = none ∧ w1 = [(b, .inr (8, [.ref v, .int 0, .int 0, .int 0])), (v, .inl (ct.2.1, 16, .inl (fun _ => 0)))]) := by
  refine iC_of (by decide +kernel) (Nat.le_of_ble_eq_true rfl) ?_
  intro p l e s m args below meth c A X hM
  refine Z_aload_n 0 X (gxd kJ5_init_d00df 0 rfl) rfl rfl ?_
  refine Z_objInit X (gxd kJ5_init_d00df 1 rfl) io_RJ5_3 (Nat.le_of_ble_eq_true rfl) (Nat.le_of_ble_eq_true rfl) ?_
  refine Z_gcs X (gxd kJ5_init_d00df 2 rfl) ig_RJ5_18 ?_
  refine Z_if_eq (tgt := 25) X (gxd kJ5_init_d00df 3 rfl) rfl (fun z => absurd z (by decide)) (fun _ => ?_)
  refine Z_aload_n 0 X (gxd kJ5_init_d00df 4 rfl) rfl rfl ?_
  refine Z_iload_n 1 X (gxd kJ5_init_d00df 5 rfl) rfl rfl ?_
  refine Z_newb (N := 16) X (gxd kJ5_init_d00df 6 rfl) jAb (by decide) (by decide) (Nat.le_of_ble_eq_true rfl) (Nat.le_of_ble_eq_true rfl) (Nat.le_of_ble_eq_true rfl) (fun v => ?_)
  show zJ p l e _ s m args below meth c A _ D _ 14 [(0, .ref b), (1, .int 16)] [.ref v, .ref b] [(b, .inr (8, fz8)), (v, .inl (ct.2.1, 16, .inl (fun _ => 0)))] 1 16
  refine Z_put 0 X (gxd kJ5_init_d00df 7 rfl) if_RJ5_15 ip_8_0 rfl rfl rfl (Nat.le_of_ble_eq_true rfl) ?_
  show zJ p l e _ s m args below meth c A _ D _ 17 [(0, .ref b), (1, .int 16)] [] [(b, .inr (8, [.ref v, .int 0, .int 0, .int 0])), (v, .inl (ct.2.1, 16, .inl (fun _ => 0)))] 1 16
  refine Z_aload_n 0 X (gxd kJ5_init_d00df 8 rfl) rfl rfl ?_
  refine Z_iconst (v := 0) X (gxd kJ5_init_d00df 9 rfl) (by decide) ?_
  refine Z_put 0 X (gxd kJ5_init_d00df 10 rfl) if_RJ5_22 ip_8_1 rfl rfl rfl (Nat.le_of_ble_eq_true rfl) ?_
  show zJ p l e _ s m args below meth c A _ D _ 22 [(0, .ref b), (1, .int 16)] [] [(b, .inr (8, [.ref v, .int 0, .int 0, .int 0])), (v, .inl (ct.2.1, 16, .inl (fun _ => 0)))] 1 16
  refine Z_goto (tgt := 38) X (gxd kJ5_init_d00df 11 rfl) rfl ?_
  refine Z_vret X hM (gxd kJ5_init_d00df 19 rfl) ⟨v, rfl, rfl⟩ rfl rfl
theorem i_binit {D : va_G} {ct : iC3} {d b : Nat} : iC yJ4_init_da8c8 cJ4_init_da8c8 1 none (zr 2 1 16) 1 16 D ct (d, [], []) [.ref b] [(b, .inr (8, fz8))] (fun r w1 => ∃ v : Nat, r = none ∧ w1 = [(b, .inr (8, [.ref v, .int 0, .int 0, .int 0])), (v, .inl (ct.2.1, 16, .inl (fun _ => 0)))]) := by
  refine iC_of (by decide +kernel) (Nat.le_of_ble_eq_true rfl) ?_
  intro p l e s m args below meth c A X hM
  refine Z_aload_n 0 X (gxd kJ4_init_da8c8 0 rfl) rfl rfl ?_
  refine Z_bipush (v := 16) X (gxd kJ4_init_da8c8 1 rfl) (by decide) ?_
  refine Z_callI (As := [.int 16]) (rest := []) (W0 := []) (es := [(b, .inr (8, fz8))]) (wc := [(b, .inr (8, fz8))]) (wr := []) (a0 := 0) [0] [] X (gxd kJ4_init_da8c8 2 rfl) il_RJ4_1 il_RJ4_1m rfl ii_J5_init_d00df iw_J5_init_d00df rfl rfl (Nat.le_of_ble_eq_true rfl) ⟨(Nat.le_of_ble_eq_true rfl), (Nat.le_of_ble_eq_true rfl)⟩ rfl rfl ⟨(Nat.le_of_ble_eq_true rfl), (Nat.le_of_ble_eq_true rfl)⟩ i_ainit (xsub_nil _) rfl ⟨rfl, rfl, by decide, by decide, by decide⟩ ?_
  rintro _ _ ⟨v, rfl, rfl⟩
  show zJ p l e _ s m args below meth c A _ D _ 6 [(0, .ref b)] [] [(b, .inr (8, [.ref v, .int 0, .int 0, .int 0])), (v, .inl (ct.2.1, 16, .inl (fun _ => 0)))] 1 16
  refine Z_vret X hM (gxd kJ4_init_da8c8 3 rfl) ⟨v, rfl, rfl⟩ rfl rfl
theorem i_ensure {D : va_G} {ct : iC3} {d b v : Nat} {f : Nat → Int32} {cnt : Int32} {u : Nat} (hu : u < 17) : iC yJ5_ensureCapacityInternal_d00df cJ5_ensureCapacityInternal_d00df 3 none (zr 0 0 0) 0 0 D ct (d, [], []) [.ref b, .int (nI u)] [(b, .inr (8, [.ref v, .int 0, .int 0, .int cnt])), (v, .inl (ct.2.1, 16, .inl (f)))] (fun r w1 => r = none ∧ w1 = [(b, .inr (8, [.ref v, .int 0, .int 0, .int cnt])), (v, .inl (ct.2.1, 16, .inl (f)))]) := by
  refine iC_of (by decide +kernel) (Nat.le_of_ble_eq_true rfl) ?_
  intro p l e s m args below meth c A X hM
  refine Z_aload_n 0 X (gxd kJ5_ensureCapacityInternal_d00df 0 rfl) rfl rfl ?_
  refine Z_get (v := .ref v) 0 X (gxd kJ5_ensureCapacityInternal_d00df 1 rfl) if_RJ5_15 rfl rfl ?_
  refine Z_alen (N := 16) 1 (v := 16) X (gxd kJ5_ensureCapacityInternal_d00df 2 rfl) rfl rfl ?_
  refine Z_aload_n 0 X (gxd kJ5_ensureCapacityInternal_d00df 3 rfl) rfl rfl ?_
  refine Z_get (v := .int 0) 0 X (gxd kJ5_ensureCapacityInternal_d00df 4 rfl) if_RJ5_22 rfl rfl ?_
  refine Z_ishr (v := 16) X (gxd kJ5_ensureCapacityInternal_d00df 5 rfl) rfl ?_
  refine Z_istore_n (la2 := [(2, .int 16), (0, .ref b), (1, .int (nI u))]) X (gxd kJ5_ensureCapacityInternal_d00df 6 rfl) rfl (by decide) rfl ?_
  refine Z_iload_n 2 X (gxd kJ5_ensureCapacityInternal_d00df 7 rfl) rfl rfl ?_
  refine Z_iload_n 0 X (gxd kJ5_ensureCapacityInternal_d00df 8 rfl) rfl rfl ?_
  refine Z_isub (v := nI u - 16) X (gxd kJ5_ensureCapacityInternal_d00df 9 rfl) rfl ?_
  refine Z_if_le (tgt := 38) X (gxd kJ5_ensureCapacityInternal_d00df 10 rfl) rfl (fun _ => ?_) (fun z => absurd z (ens_ok hu))
  refine Z_vret X hM (gxd kJ5_ensureCapacityInternal_d00df 22 rfl) ⟨rfl, rfl⟩ rfl rfl
theorem i_blatin {D : va_G} {ct : iC3} {d b v : Nat} {cnt : Int32} : iC yJ5_isLatin1_aae02 cJ5_isLatin1_aae02 1 (some .boolean) (zr 0 0 0) 0 0 D ct (d, [], []) [.ref b] [(b, .inr (8, [.ref v, .int 0, .int 0, .int cnt]))] (fun r w1 => r = some (.int 1) ∧ w1 = [(b, .inr (8, [.ref v, .int 0, .int 0, .int cnt]))]) := by
  refine iC_of (by decide +kernel) (Nat.le_of_ble_eq_true rfl) ?_
  intro p l e s m args below meth c A X hM
  refine Z_gcs X (gxd kJ5_isLatin1_aae02 0 rfl) ig_RJ5_18 ?_
  refine Z_if_eq (tgt := 17) X (gxd kJ5_isLatin1_aae02 1 rfl) rfl (fun z => absurd z (by decide)) (fun _ => ?_)
  refine Z_aload_n 0 X (gxd kJ5_isLatin1_aae02 2 rfl) rfl rfl ?_
  refine Z_get (v := .int 0) 0 X (gxd kJ5_isLatin1_aae02 3 rfl) if_RJ5_22 rfl rfl ?_
  refine Z_if_ne (tgt := 17) X (gxd kJ5_isLatin1_aae02 4 rfl) rfl (fun z => absurd z (by decide)) (fun _ => ?_)
  refine Z_iconst (v := 1) X (gxd kJ5_isLatin1_aae02 5 rfl) (by decide) ?_
  refine Z_goto (tgt := 18) X (gxd kJ5_isLatin1_aae02 6 rfl) rfl ?_
  refine Z_zret X hM rfl (gxd kJ5_isLatin1_aae02 8 rfl) ⟨rfl, rfl⟩ rfl rfl
theorem i_canenc {D : va_G} {ct : iC3} {d a : Nat} (ha : a < 128) : iC yJ1_canEncode_fc78d cJ1_canEncode_fc78d 1 (some .boolean) (zr 0 0 0) 0 0 D ct (d, [], []) [.int (nI a)] [] (fun r w1 => r = some (.int 1) ∧ w1 = []) := by
  refine iC_of (by decide +kernel) (Nat.le_of_ble_eq_true rfl) ?_
  intro p l e s m args below meth c A X hM
  refine Z_iload_n 0 X (gxd kJ1_canEncode_fc78d 0 rfl) rfl rfl ?_
  refine Z_sipush (v := 255) X (gxd kJ1_canEncode_fc78d 1 rfl) (by decide) ?_
  refine Z_icmp_gt (tgt := 11) X (gxd kJ1_canEncode_fc78d 2 rfl) rfl (fun z => absurd z (nI_nlt (a := 255) (by omega) (by omega))) (fun _ => ?_)
  refine Z_iconst (v := 1) X (gxd kJ1_canEncode_fc78d 3 rfl) (by decide) ?_
  refine Z_goto (tgt := 12) X (gxd kJ1_canEncode_fc78d 4 rfl) rfl ?_
  refine Z_zret X hM rfl (gxd kJ1_canEncode_fc78d 6 rfl) ⟨rfl, rfl⟩ rfl rfl
theorem i_aapc {D : va_G} {ct : iC3} {d b v : Nat} {f : Nat → Int32} {j a : Nat} (hj : j < 16) (ha : a < 128) : iC yJ5_append_3fe6f cJ5_append_3fe6f 2 (some (.object "java/lang/AbstractStringBuilder")) (zr 1 0 0) 0 0 D ct (d, [], []) [.ref b, .int (nI a)] [(b, .inr (8, [.ref v, .int 0, .int 0, .int (nI j)])), (v, .inl (ct.2.1, 16, .inl (f)))] (fun r w1 => r = some (.ref b) ∧ w1 = [(v, .inl (ct.2.1, 16, .inl (upd f j (nI a)))), (b, .inr (8, [.ref v, .int 0, .int 0, .int (nI (j + 1))]))]) := by
  refine iC_of (by decide +kernel) (Nat.le_of_ble_eq_true rfl) ?_
  intro p l e s m args below meth c A X hM
  refine Z_aload_n 0 X (gxd kJ5_append_3fe6f 0 rfl) rfl rfl ?_
  refine Z_aload_n 0 X (gxd kJ5_append_3fe6f 1 rfl) rfl rfl ?_
  refine Z_get (v := .int (nI j)) 0 X (gxd kJ5_append_3fe6f 2 rfl) if_RJ5_79 rfl rfl ?_
  refine Z_iconst (v := 1) X (gxd kJ5_append_3fe6f 3 rfl) (by decide) ?_
  refine Z_iadd (v := nI (j + 1)) X (gxd kJ5_append_3fe6f 4 rfl) (nadd_l j 1) ?_
  refine Z_callU (C := RJ4) (T := TJ4) (N1 := 4) (ci := 8) (As := [.int (nI (j + 1))]) (rest := []) (W0 := []) (es := [(b, .inr (8, [.ref v, .int 0, .int 0, .int (nI j)])), (v, .inl (ct.2.1, 16, .inl (f)))]) (wc := [(b, .inr (8, [.ref v, .int 0, .int 0, .int (nI j)])), (v, .inl (ct.2.1, 16, .inl (f)))]) (wr := []) (a0 := 0) [0, 1] [] X (gxd kJ5_append_3fe6f 5 rfl) iu_RJ5_100 iw_J5_ensureCapacityInternal_d00df rfl rfl rfl rfl (Nat.le_of_ble_eq_true rfl) ⟨(Nat.le_of_ble_eq_true rfl), (Nat.le_of_ble_eq_true rfl)⟩ rfl rfl ⟨(Nat.le_of_ble_eq_true rfl), (Nat.le_of_ble_eq_true rfl)⟩ (i_ensure (by omega)) (xsub_nil _) rfl ⟨rfl, rfl, by decide, by decide, by decide⟩ ?_
  rintro _ _ ⟨rfl, rfl⟩
  show zJ p l e _ s m args below meth c A _ D _ 10 [(0, .ref b), (1, .int (nI a))] [] [(b, .inr (8, [.ref v, .int 0, .int 0, .int (nI j)])), (v, .inl (ct.2.1, 16, .inl (f)))] 0 0
  refine Z_aload_n 0 X (gxd kJ5_append_3fe6f 6 rfl) rfl rfl ?_
  refine Z_callU (C := RJ4) (T := TJ4) (N1 := 4) (ci := 8) (As := []) (rest := []) (W0 := []) (es := [(b, .inr (8, [.ref v, .int 0, .int 0, .int (nI j)])), (v, .inl (ct.2.1, 16, .inl (f)))]) (wc := [(b, .inr (8, [.ref v, .int 0, .int 0, .int (nI j)]))]) (wr := [(v, .inl (ct.2.1, 16, .inl (f)))]) (a0 := 0) [0] [1] X (gxd kJ5_append_3fe6f 7 rfl) iu_RJ5_83 iw_J5_isLatin1_aae02 rfl rfl rfl rfl (Nat.le_of_ble_eq_true rfl) ⟨(Nat.le_of_ble_eq_true rfl), (Nat.le_of_ble_eq_true rfl)⟩ rfl rfl ⟨(Nat.le_of_ble_eq_true rfl), (Nat.le_of_ble_eq_true rfl)⟩ i_blatin (xsub_nil _) rfl ⟨rfl, rfl, by decide, by decide, by decide⟩ ?_
  rintro _ _ ⟨rfl, rfl⟩
  show zJ p l e _ s m args below meth c A _ D _ 14 [(0, .ref b), (1, .int (nI a))] [.int 1] [(v, .inl (ct.2.1, 16, .inl (f))), (b, .inr (8, [.ref v, .int 0, .int 0, .int (nI j)]))] 0 0
  refine Z_if_eq (tgt := 45) X (gxd kJ5_append_3fe6f 8 rfl) rfl (fun z => absurd z (by decide)) (fun _ => ?_)
  refine Z_iload_n 1 X (gxd kJ5_append_3fe6f 9 rfl) rfl rfl ?_
  refine Z_callS (As := [.int (nI a)]) (rest := []) (W0 := []) (es := [(v, .inl (ct.2.1, 16, .inl (f))), (b, .inr (8, [.ref v, .int 0, .int 0, .int (nI j)]))]) (wc := []) (wr := [(v, .inl (ct.2.1, 16, .inl (f))), (b, .inr (8, [.ref v, .int 0, .int 0, .int (nI j)]))]) (a0 := 0) [] [0, 1] X (gxd kJ5_append_3fe6f 10 rfl) is_RJ5_191 iw_J1_canEncode_fc78d rfl rfl (Nat.le_of_ble_eq_true rfl) ⟨(Nat.le_of_ble_eq_true rfl), (Nat.le_of_ble_eq_true rfl)⟩ rfl rfl ⟨(Nat.le_of_ble_eq_true rfl), (Nat.le_of_ble_eq_true rfl)⟩ (i_canenc ha) (xsub_nil _) rfl ⟨rfl, rfl, by decide, by decide, by decide⟩ ?_
  rintro _ _ ⟨rfl, rfl⟩
  show zJ p l e _ s m args below meth c A _ D _ 21 [(0, .ref b), (1, .int (nI a))] [.int 1] [(v, .inl (ct.2.1, 16, .inl (f))), (b, .inr (8, [.ref v, .int 0, .int 0, .int (nI j)]))] 0 0
  refine Z_if_eq (tgt := 45) X (gxd kJ5_append_3fe6f 11 rfl) rfl (fun z => absurd z (by decide)) (fun _ => ?_)
  refine Z_aload_n 0 X (gxd kJ5_append_3fe6f 12 rfl) rfl rfl ?_
  refine Z_get (v := .ref v) 1 X (gxd kJ5_append_3fe6f 13 rfl) if_RJ5_15 rfl rfl ?_
  refine Z_aload_n 0 X (gxd kJ5_append_3fe6f 14 rfl) rfl rfl ?_
  refine Z_dup X (gxd kJ5_append_3fe6f 15 rfl) rfl ?_
  refine Z_get (v := .int (nI j)) 1 X (gxd kJ5_append_3fe6f 16 rfl) if_RJ5_79 rfl rfl ?_
  refine Z_dup_x1 X (gxd kJ5_append_3fe6f 17 rfl) rfl rfl ?_
  refine Z_iconst (v := 1) X (gxd kJ5_append_3fe6f 18 rfl) (by decide) ?_
  refine Z_iadd (v := nI (j + 1)) X (gxd kJ5_append_3fe6f 19 rfl) (nadd_l j 1) ?_
  refine Z_put 1 X (gxd kJ5_append_3fe6f 20 rfl) if_RJ5_79 ip_8_3 rfl rfl rfl (Nat.le_of_ble_eq_true rfl) ?_
  show zJ p l e _ s m args below meth c A _ D _ 39 [(0, .ref b), (1, .int (nI a))] [.int (nI j), .ref v] [(v, .inl (ct.2.1, 16, .inl (f))), (b, .inr (8, [.ref v, .int 0, .int 0, .int (nI (j + 1))]))] 0 0
  refine Z_iload_n 1 X (gxd kJ5_append_3fe6f 21 rfl) rfl rfl ?_
  refine Z_i2b (v := nI a) X (gxd kJ5_append_3fe6f 22 rfl) (byt_ok a ha) ?_
  refine Z_bast (N := 16) (kn := j) (v := nI a) 0 X (gxd kJ5_append_3fe6f 23 rfl) rfl ⟨nI_pos (by omega), hj⟩ (nI_clamp (by omega)) (byt_nar a ha) ?_
  show zJ p l e _ s m args below meth c A _ D _ 42 [(0, .ref b), (1, .int (nI a))] [] [(v, .inl (ct.2.1, 16, .inl (upd f j (nI a)))), (b, .inr (8, [.ref v, .int 0, .int 0, .int (nI (j + 1))]))] 0 0
  refine Z_goto (tgt := 75) X (gxd kJ5_append_3fe6f 24 rfl) rfl ?_
  refine Z_aload_n 0 X (gxd kJ5_append_3fe6f 41 rfl) rfl rfl ?_
  refine Z_aret X hM (Or.inl ⟨_, rfl⟩) (gxd kJ5_append_3fe6f 42 rfl) ⟨rfl, rfl⟩ rfl rfl
theorem i_apc {D : va_G} {ct : iC3} {d b v : Nat} {f : Nat → Int32} {j a : Nat} (hj : j < 16) (ha : a < 128) : iC yJ4_append_cf468 cJ4_append_cf468 2 (some (.object "java/lang/StringBuilder")) (zr 2 0 0) 0 0 D ct (d, [], []) [.ref b, .int (nI a)] [(b, .inr (8, [.ref v, .int 0, .int 0, .int (nI j)])), (v, .inl (ct.2.1, 16, .inl (f)))] (fun r w1 => r = some (.ref b) ∧ w1 = [(v, .inl (ct.2.1, 16, .inl (upd f j (nI a)))), (b, .inr (8, [.ref v, .int 0, .int 0, .int (nI (j + 1))]))]) := by
  refine iC_of (by decide +kernel) (Nat.le_of_ble_eq_true rfl) ?_
  intro p l e s m args below meth c A X hM
  refine Z_aload_n 0 X (gxd kJ4_append_cf468 0 rfl) rfl rfl ?_
  refine Z_iload_n 1 X (gxd kJ4_append_cf468 1 rfl) rfl rfl ?_
  refine Z_callSU (C := RJ4) (T := TJ4) (N1 := 4) (ci := 8) (As := [.int (nI a)]) (rest := []) (W0 := []) (es := [(b, .inr (8, [.ref v, .int 0, .int 0, .int (nI j)])), (v, .inl (ct.2.1, 16, .inl (f)))]) (wc := [(b, .inr (8, [.ref v, .int 0, .int 0, .int (nI j)])), (v, .inl (ct.2.1, 16, .inl (f)))]) (wr := []) (a0 := 0) [0, 1] [] X (gxd kJ4_append_cf468 2 rfl) iz_RJ4_50 iw_J5_append_3fe6f rfl rfl rfl rfl (Nat.le_of_ble_eq_true rfl) ⟨(Nat.le_of_ble_eq_true rfl), (Nat.le_of_ble_eq_true rfl)⟩ rfl rfl ⟨(Nat.le_of_ble_eq_true rfl), (Nat.le_of_ble_eq_true rfl)⟩ (i_aapc hj ha) (xsub_nil _) rfl ⟨rfl, rfl, by decide, by decide, by decide⟩ ?_
  rintro _ _ ⟨rfl, rfl⟩
  show zJ p l e _ s m args below meth c A _ D _ 5 [(0, .ref b), (1, .int (nI a))] [.ref b] [(v, .inl (ct.2.1, 16, .inl (upd f j (nI a)))), (b, .inr (8, [.ref v, .int 0, .int 0, .int (nI (j + 1))]))] 0 0
  refine Z_pop X (gxd kJ4_append_cf468 3 rfl) rfl ?_
  refine Z_aload_n 0 X (gxd kJ4_append_cf468 4 rfl) rfl rfl ?_
  refine Z_aret X hM (Or.inl ⟨_, rfl⟩) (gxd kJ4_append_cf468 5 rfl) ⟨rfl, rfl⟩ rfl rfl
theorem i_ssize {D : va_G} {ct : iC3} {d a : Nat} (ha : a < 10) : iC yJ6_stringSize_0f7a4 cJ6_stringSize_0f7a4 4 (some .int) (zr 0 0 0) 0 0 D ct (d, [], []) [.int (nI a)] [] (fun r w1 => r = some (.int 1) ∧ w1 = []) := by
  refine iC_of (by decide +kernel) (Nat.le_of_ble_eq_true rfl) ?_
  intro p l e s m args below meth c A X hM
  refine Z_iconst (v := 1) X (gxd kJ6_stringSize_0f7a4 0 rfl) (by decide) ?_
  refine Z_istore_n (la2 := [(1, .int 1), (0, .int (nI a))]) X (gxd kJ6_stringSize_0f7a4 1 rfl) rfl (by decide) rfl ?_
  refine Z_iload_n 1 X (gxd kJ6_stringSize_0f7a4 2 rfl) rfl rfl ?_
  refine Z_if_lt (tgt := 11) X (gxd kJ6_stringSize_0f7a4 3 rfl) rfl (fun z => absurd z (nI_pos (by omega))) (fun _ => ?_)
  refine Z_iconst (v := 0) X (gxd kJ6_stringSize_0f7a4 4 rfl) (by decide) ?_
  refine Z_istore_n (la2 := [(1, .int 0), (0, .int (nI a))]) X (gxd kJ6_stringSize_0f7a4 5 rfl) rfl (by decide) rfl ?_
  refine Z_iload_n 1 X (gxd kJ6_stringSize_0f7a4 6 rfl) rfl rfl ?_
  refine Z_ineg (v := - nI a) X (gxd kJ6_stringSize_0f7a4 7 rfl) rfl ?_
  refine Z_istore_n (la2 := [(0, .int (- nI a)), (1, .int 0)]) X (gxd kJ6_stringSize_0f7a4 8 rfl) rfl (by decide) rfl ?_
  refine Z_bipush (v := (-10)) X (gxd kJ6_stringSize_0f7a4 9 rfl) (by decide) ?_
  refine Z_istore_n (la2 := [(2, .int (-10)), (0, .int (- nI a)), (1, .int 0)]) X (gxd kJ6_stringSize_0f7a4 10 rfl) rfl (by decide) rfl ?_
  refine Z_iconst (v := 1) X (gxd kJ6_stringSize_0f7a4 11 rfl) (by decide) ?_
  refine Z_istore_n (la2 := [(3, .int 1), (2, .int (-10)), (0, .int (- nI a)), (1, .int 0)]) X (gxd kJ6_stringSize_0f7a4 12 rfl) rfl (by decide) rfl ?_
  refine Z_iload_n 0 X (gxd kJ6_stringSize_0f7a4 13 rfl) rfl rfl ?_
  refine Z_bipush (v := 10) X (gxd kJ6_stringSize_0f7a4 14 rfl) (by decide) ?_
  refine Z_icmp_ge (tgt := 42) X (gxd kJ6_stringSize_0f7a4 15 rfl) rfl (fun z => absurd z (by decide)) (fun _ => ?_)
  refine Z_iload_n 2 X (gxd kJ6_stringSize_0f7a4 16 rfl) rfl rfl ?_
  refine Z_iload_n 1 X (gxd kJ6_stringSize_0f7a4 17 rfl) rfl rfl ?_
  refine Z_icmp_le (tgt := 31) X (gxd kJ6_stringSize_0f7a4 18 rfl) rfl (fun z => absurd z (neg_ok a ha)) (fun _ => ?_)
  refine Z_iload_n 0 X (gxd kJ6_stringSize_0f7a4 19 rfl) rfl rfl ?_
  refine Z_iload_n 3 X (gxd kJ6_stringSize_0f7a4 20 rfl) rfl rfl ?_
  refine Z_iadd (v := 1) X (gxd kJ6_stringSize_0f7a4 21 rfl) rfl ?_
  refine Z_zret X hM rfl (gxd kJ6_stringSize_0f7a4 22 rfl) ⟨rfl, rfl⟩ rfl rfl
theorem i_getch {D : va_G} {ct : iC3} {d v : Nat} {f : Nat → Int32} {j a : Nat} (hj : j < 16) (ha : a < 10) : iC yJ6_getChars_ba4f3 cJ6_getChars_ba4f3 7 (some .int) (zr 0 0 0) 0 0 D ct (d, [], []) [.int (nI a), .int (nI (j + 1)), .ref v] [(v, .inl (ct.2.1, 16, .inl (f)))] (fun r w1 => r = some (.int (nI j)) ∧ w1 = [(v, .inl (ct.2.1, 16, .inl (upd f j (nI (48 + a)))))]) := by
  refine iC_of (by decide +kernel) (Nat.le_of_ble_eq_true rfl) ?_
  intro p l e s m args below meth c A X hM
  refine Z_iload_n 1 X (gxd kJ6_getChars_ba4f3 0 rfl) rfl rfl ?_
  refine Z_istore (la2 := [(5, .int (nI (j + 1))), (0, .int (nI a)), (1, .int (nI (j + 1))), (2, .ref v)]) X (gxd kJ6_getChars_ba4f3 1 rfl) (by decide) rfl ?_
  refine Z_iload_n 1 X (gxd kJ6_getChars_ba4f3 2 rfl) rfl rfl ?_
  refine Z_if_ge (tgt := 11) X (gxd kJ6_getChars_ba4f3 3 rfl) rfl (fun _ => ?_) (fun z => absurd z (nI_pos (by omega)))
  refine Z_iconst (v := 0) X (gxd kJ6_getChars_ba4f3 6 rfl) (by decide) ?_
  refine Z_istore (la2 := [(6, .int 0), (5, .int (nI (j + 1))), (0, .int (nI a)), (1, .int (nI (j + 1))), (2, .ref v)]) X (gxd kJ6_getChars_ba4f3 7 rfl) (by decide) rfl ?_
  refine Z_iload 0 X (gxd kJ6_getChars_ba4f3 8 rfl) rfl ?_
  refine Z_if_ne (tgt := 22) X (gxd kJ6_getChars_ba4f3 9 rfl) rfl (fun z => absurd z (fun q => q rfl)) (fun _ => ?_)
  refine Z_iload_n 2 X (gxd kJ6_getChars_ba4f3 10 rfl) rfl rfl ?_
  refine Z_ineg (v := - nI a) X (gxd kJ6_getChars_ba4f3 11 rfl) rfl ?_
  refine Z_istore_n (la2 := [(0, .int (- nI a)), (6, .int 0), (5, .int (nI (j + 1))), (1, .int (nI (j + 1))), (2, .ref v)]) X (gxd kJ6_getChars_ba4f3 12 rfl) rfl (by decide) rfl ?_
  refine Z_iload_n 0 X (gxd kJ6_getChars_ba4f3 13 rfl) rfl rfl ?_
  refine Z_bipush (v := (-100)) X (gxd kJ6_getChars_ba4f3 14 rfl) (by decide) ?_
  refine Z_icmp_gt (tgt := 72) X (gxd kJ6_getChars_ba4f3 15 rfl) rfl (fun _ => ?_) (fun z => absurd (neg100 a ha) z)
  refine Z_aload_n 4 X (gxd kJ6_getChars_ba4f3 43 rfl) rfl rfl ?_
  refine Z_iinc 2 (v := nI j) (la2 := [(5, .int (nI j)), (0, .int (- nI a)), (6, .int 0), (1, .int (nI (j + 1))), (2, .ref v)]) X (gxd kJ6_getChars_ba4f3 44 rfl) rfl (dec_ok j) (by decide) rfl ?_
  refine Z_iload 0 X (gxd kJ6_getChars_ba4f3 45 rfl) rfl ?_
  refine Z_gdo X (gxd kJ6_getChars_ba4f3 46 rfl) ig_RJ6_83 ?_
  refine Z_iload_n 1 X (gxd kJ6_getChars_ba4f3 47 rfl) rfl rfl ?_
  refine Z_ineg (v := nI a) X (gxd kJ6_getChars_ba4f3 48 rfl) (negneg a) ?_
  refine Z_baldD (v := nI (48 + a)) X (gxd kJ6_getChars_ba4f3 49 rfl) (vp_in_nI (by omega) (by omega)) (by rw [nI_clamp (by omega), Nat.mod_eq_of_lt ha]) ?_
  refine Z_bast (N := 16) (kn := j) (v := nI (48 + a)) 0 X (gxd kJ6_getChars_ba4f3 50 rfl) rfl ⟨nI_pos (by omega), hj⟩ (nI_clamp (by omega)) (byt_nar (48 + a) (by omega)) ?_
  show zJ p l e _ s m args below meth c A _ D _ 85 [(5, .int (nI j)), (0, .int (- nI a)), (6, .int 0), (1, .int (nI (j + 1))), (2, .ref v)] [] [(v, .inl (ct.2.1, 16, .inl (upd f j (nI (48 + a)))))] 0 0
  refine Z_iload_n 1 X (gxd kJ6_getChars_ba4f3 51 rfl) rfl rfl ?_
  refine Z_bipush (v := (-9)) X (gxd kJ6_getChars_ba4f3 52 rfl) (by decide) ?_
  refine Z_icmp_ge (tgt := 104) X (gxd kJ6_getChars_ba4f3 53 rfl) rfl (fun _ => ?_) (fun z => absurd z (neg9 a ha))
  refine Z_iload 2 X (gxd kJ6_getChars_ba4f3 62 rfl) rfl ?_
  refine Z_if_eq (tgt := 118) X (gxd kJ6_getChars_ba4f3 63 rfl) rfl (fun _ => ?_) (fun z => absurd rfl z)
  refine Z_iload 0 X (gxd kJ6_getChars_ba4f3 69 rfl) rfl ?_
  refine Z_zret X hM rfl (gxd kJ6_getChars_ba4f3 70 rfl) ⟨rfl, rfl⟩ rfl rfl
theorem i_aapi {D : va_G} {ct : iC3} {d b v : Nat} {f : Nat → Int32} {j a : Nat} (hj : j < 16) (ha : a < 10) : iC yJ5_append_c97b9 cJ5_append_c97b9 4 (some (.object "java/lang/AbstractStringBuilder")) (zr 1 0 0) 0 0 D ct (d, [], []) [.ref b, .int (nI a)] [(b, .inr (8, [.ref v, .int 0, .int 0, .int (nI j)])), (v, .inl (ct.2.1, 16, .inl (f)))] (fun r w1 => r = some (.ref b) ∧ w1 = [(b, .inr (8, [.ref v, .int 0, .int 0, .int (nI (j + 1))])), (v, .inl (ct.2.1, 16, .inl (upd f j (nI (48 + a)))))]) := by
  refine iC_of (by decide +kernel) (Nat.le_of_ble_eq_true rfl) ?_
  intro p l e s m args below meth c A X hM
  refine Z_aload_n 0 X (gxd kJ5_append_c97b9 0 rfl) rfl rfl ?_
  refine Z_get (v := .int (nI j)) 0 X (gxd kJ5_append_c97b9 1 rfl) if_RJ5_79 rfl rfl ?_
  refine Z_istore_n (la2 := [(2, .int (nI j)), (0, .ref b), (1, .int (nI a))]) X (gxd kJ5_append_c97b9 2 rfl) rfl (by decide) rfl ?_
  refine Z_iload_n 0 X (gxd kJ5_append_c97b9 3 rfl) rfl rfl ?_
  refine Z_iload_n 2 X (gxd kJ5_append_c97b9 4 rfl) rfl rfl ?_
  refine Z_callS (As := [.int (nI a)]) (rest := [.int (nI j)]) (W0 := []) (es := [(b, .inr (8, [.ref v, .int 0, .int 0, .int (nI j)])), (v, .inl (ct.2.1, 16, .inl (f)))]) (wc := []) (wr := [(b, .inr (8, [.ref v, .int 0, .int 0, .int (nI j)])), (v, .inl (ct.2.1, 16, .inl (f)))]) (a0 := 0) [] [0, 1] X (gxd kJ5_append_c97b9 5 rfl) is_RJ5_245 iw_J6_stringSize_0f7a4 rfl rfl (Nat.le_of_ble_eq_true rfl) ⟨(Nat.le_of_ble_eq_true rfl), (Nat.le_of_ble_eq_true rfl)⟩ rfl rfl ⟨(Nat.le_of_ble_eq_true rfl), (Nat.le_of_ble_eq_true rfl)⟩ (i_ssize ha) (xsub_nil _) rfl ⟨rfl, rfl, by decide, by decide, by decide⟩ ?_
  rintro _ _ ⟨rfl, rfl⟩
  show zJ p l e _ s m args below meth c A _ D _ 10 [(2, .int (nI j)), (0, .ref b), (1, .int (nI a))] [.int 1, .int (nI j)] [(b, .inr (8, [.ref v, .int 0, .int 0, .int (nI j)])), (v, .inl (ct.2.1, 16, .inl (f)))] 0 0
  refine Z_iadd (v := nI (j + 1)) X (gxd kJ5_append_c97b9 6 rfl) (nadd_l j 1) ?_
  refine Z_istore_n (la2 := [(3, .int (nI (j + 1))), (2, .int (nI j)), (0, .ref b), (1, .int (nI a))]) X (gxd kJ5_append_c97b9 7 rfl) rfl (by decide) rfl ?_
  refine Z_aload_n 2 X (gxd kJ5_append_c97b9 8 rfl) rfl rfl ?_
  refine Z_iload_n 0 X (gxd kJ5_append_c97b9 9 rfl) rfl rfl ?_
  refine Z_callU (C := RJ4) (T := TJ4) (N1 := 4) (ci := 8) (As := [.int (nI (j + 1))]) (rest := []) (W0 := []) (es := [(b, .inr (8, [.ref v, .int 0, .int 0, .int (nI j)])), (v, .inl (ct.2.1, 16, .inl (f)))]) (wc := [(b, .inr (8, [.ref v, .int 0, .int 0, .int (nI j)])), (v, .inl (ct.2.1, 16, .inl (f)))]) (wr := []) (a0 := 0) [0, 1] [] X (gxd kJ5_append_c97b9 10 rfl) iu_RJ5_100 iw_J5_ensureCapacityInternal_d00df rfl rfl rfl rfl (Nat.le_of_ble_eq_true rfl) ⟨(Nat.le_of_ble_eq_true rfl), (Nat.le_of_ble_eq_true rfl)⟩ rfl rfl ⟨(Nat.le_of_ble_eq_true rfl), (Nat.le_of_ble_eq_true rfl)⟩ (i_ensure (by omega)) (xsub_nil _) rfl ⟨rfl, rfl, by decide, by decide, by decide⟩ ?_
  rintro _ _ ⟨rfl, rfl⟩
  show zJ p l e _ s m args below meth c A _ D _ 17 [(3, .int (nI (j + 1))), (2, .int (nI j)), (0, .ref b), (1, .int (nI a))] [] [(b, .inr (8, [.ref v, .int 0, .int 0, .int (nI j)])), (v, .inl (ct.2.1, 16, .inl (f)))] 0 0
  refine Z_aload_n 2 X (gxd kJ5_append_c97b9 11 rfl) rfl rfl ?_
  refine Z_callU (C := RJ4) (T := TJ4) (N1 := 4) (ci := 8) (As := []) (rest := []) (W0 := []) (es := [(b, .inr (8, [.ref v, .int 0, .int 0, .int (nI j)])), (v, .inl (ct.2.1, 16, .inl (f)))]) (wc := [(b, .inr (8, [.ref v, .int 0, .int 0, .int (nI j)]))]) (wr := [(v, .inl (ct.2.1, 16, .inl (f)))]) (a0 := 0) [0] [1] X (gxd kJ5_append_c97b9 12 rfl) iu_RJ5_83 iw_J5_isLatin1_aae02 rfl rfl rfl rfl (Nat.le_of_ble_eq_true rfl) ⟨(Nat.le_of_ble_eq_true rfl), (Nat.le_of_ble_eq_true rfl)⟩ rfl rfl ⟨(Nat.le_of_ble_eq_true rfl), (Nat.le_of_ble_eq_true rfl)⟩ i_blatin (xsub_nil _) rfl ⟨rfl, rfl, by decide, by decide, by decide⟩ ?_
  rintro _ _ ⟨rfl, rfl⟩
  show zJ p l e _ s m args below meth c A _ D _ 21 [(3, .int (nI (j + 1))), (2, .int (nI j)), (0, .ref b), (1, .int (nI a))] [.int 1] [(v, .inl (ct.2.1, 16, .inl (f))), (b, .inr (8, [.ref v, .int 0, .int 0, .int (nI j)]))] 0 0
  refine Z_if_eq (tgt := 37) X (gxd kJ5_append_c97b9 13 rfl) rfl (fun z => absurd z (by decide)) (fun _ => ?_)
  refine Z_iload_n 3 X (gxd kJ5_append_c97b9 14 rfl) rfl rfl ?_
  refine Z_iload_n 0 X (gxd kJ5_append_c97b9 15 rfl) rfl rfl ?_
  refine Z_aload_n 2 X (gxd kJ5_append_c97b9 16 rfl) rfl rfl ?_
  refine Z_get (v := .ref v) 1 X (gxd kJ5_append_c97b9 17 rfl) if_RJ5_15 rfl rfl ?_
  refine Z_callS (As := [.int (nI a), .int (nI (j + 1)), .ref v]) (rest := []) (W0 := []) (es := [(v, .inl (ct.2.1, 16, .inl (f))), (b, .inr (8, [.ref v, .int 0, .int 0, .int (nI j)]))]) (wc := [(v, .inl (ct.2.1, 16, .inl (f)))]) (wr := [(b, .inr (8, [.ref v, .int 0, .int 0, .int (nI j)]))]) (a0 := 0) [0] [1] X (gxd kJ5_append_c97b9 18 rfl) is_RJ5_248 iw_J6_getChars_ba4f3 rfl rfl (Nat.le_of_ble_eq_true rfl) ⟨(Nat.le_of_ble_eq_true rfl), (Nat.le_of_ble_eq_true rfl)⟩ rfl rfl ⟨(Nat.le_of_ble_eq_true rfl), (Nat.le_of_ble_eq_true rfl)⟩ (i_getch hj ha) (xsub_nil _) rfl ⟨rfl, rfl, by decide, by decide, by decide⟩ ?_
  rintro _ _ ⟨rfl, rfl⟩
  show zJ p l e _ s m args below meth c A _ D _ 33 [(3, .int (nI (j + 1))), (2, .int (nI j)), (0, .ref b), (1, .int (nI a))] [.int (nI j)] [(b, .inr (8, [.ref v, .int 0, .int 0, .int (nI j)])), (v, .inl (ct.2.1, 16, .inl (upd f j (nI (48 + a)))))] 0 0
  refine Z_pop X (gxd kJ5_append_c97b9 19 rfl) rfl ?_
  refine Z_goto (tgt := 48) X (gxd kJ5_append_c97b9 20 rfl) rfl ?_
  refine Z_aload_n 2 X (gxd kJ5_append_c97b9 28 rfl) rfl rfl ?_
  refine Z_iload_n 0 X (gxd kJ5_append_c97b9 29 rfl) rfl rfl ?_
  refine Z_put 0 X (gxd kJ5_append_c97b9 30 rfl) if_RJ5_79 ip_8_3 rfl rfl rfl (Nat.le_of_ble_eq_true rfl) ?_
  show zJ p l e _ s m args below meth c A _ D _ 53 [(3, .int (nI (j + 1))), (2, .int (nI j)), (0, .ref b), (1, .int (nI a))] [] [(b, .inr (8, [.ref v, .int 0, .int 0, .int (nI (j + 1))])), (v, .inl (ct.2.1, 16, .inl (upd f j (nI (48 + a)))))] 0 0
  refine Z_aload_n 2 X (gxd kJ5_append_c97b9 31 rfl) rfl rfl ?_
  refine Z_aret X hM (Or.inl ⟨_, rfl⟩) (gxd kJ5_append_c97b9 32 rfl) ⟨rfl, rfl⟩ rfl rfl
theorem i_api {D : va_G} {ct : iC3} {d b v : Nat} {f : Nat → Int32} {j a : Nat} (hj : j < 16) (ha : a < 10) : iC yJ4_append_bf812 cJ4_append_bf812 2 (some (.object "java/lang/StringBuilder")) (zr 2 0 0) 0 0 D ct (d, [], []) [.ref b, .int (nI a)] [(b, .inr (8, [.ref v, .int 0, .int 0, .int (nI j)])), (v, .inl (ct.2.1, 16, .inl (f)))] (fun r w1 => r = some (.ref b) ∧ w1 = [(b, .inr (8, [.ref v, .int 0, .int 0, .int (nI (j + 1))])), (v, .inl (ct.2.1, 16, .inl (upd f j (nI (48 + a)))))]) := by
  refine iC_of (by decide +kernel) (Nat.le_of_ble_eq_true rfl) ?_
  intro p l e s m args below meth c A X hM
  refine Z_aload_n 0 X (gxd kJ4_append_bf812 0 rfl) rfl rfl ?_
  refine Z_iload_n 1 X (gxd kJ4_append_bf812 1 rfl) rfl rfl ?_
  refine Z_callSU (C := RJ4) (T := TJ4) (N1 := 4) (ci := 8) (As := [.int (nI a)]) (rest := []) (W0 := []) (es := [(b, .inr (8, [.ref v, .int 0, .int 0, .int (nI j)])), (v, .inl (ct.2.1, 16, .inl (f)))]) (wc := [(b, .inr (8, [.ref v, .int 0, .int 0, .int (nI j)])), (v, .inl (ct.2.1, 16, .inl (f)))]) (wr := []) (a0 := 0) [0, 1] [] X (gxd kJ4_append_bf812 2 rfl) iz_RJ4_53 iw_J5_append_c97b9 rfl rfl rfl rfl (Nat.le_of_ble_eq_true rfl) ⟨(Nat.le_of_ble_eq_true rfl), (Nat.le_of_ble_eq_true rfl)⟩ rfl rfl ⟨(Nat.le_of_ble_eq_true rfl), (Nat.le_of_ble_eq_true rfl)⟩ (i_aapi hj ha) (xsub_nil _) rfl ⟨rfl, rfl, by decide, by decide, by decide⟩ ?_
  rintro _ _ ⟨rfl, rfl⟩
  show zJ p l e _ s m args below meth c A _ D _ 5 [(0, .ref b), (1, .int (nI a))] [.ref b] [(b, .inr (8, [.ref v, .int 0, .int 0, .int (nI (j + 1))])), (v, .inl (ct.2.1, 16, .inl (upd f j (nI (48 + a)))))] 0 0
  refine Z_pop X (gxd kJ4_append_bf812 3 rfl) rfl ?_
  refine Z_aload_n 0 X (gxd kJ4_append_bf812 4 rfl) rfl rfl ?_
  refine Z_aret X hM (Or.inl ⟨_, rfl⟩) (gxd kJ4_append_bf812 5 rfl) ⟨rfl, rfl⟩ rfl rfl
theorem i_inflif {D : va_G} {ct : iC3} {d b v : Nat} {q : iT} {cnt : Int32} : iC yJ5_inflateIfNeededFor_a7421 cJ5_inflateIfNeededFor_a7421 2 none (zr 1 0 0) 0 0 D ct (d, [q], []) [.ref b, .ref q.1] [(b, .inr (8, [.ref v, .int 0, .int 0, .int cnt]))] (fun r w1 => r = none ∧ w1 = [(b, .inr (8, [.ref v, .int 0, .int 0, .int cnt]))]) := by
  refine iC_of (by decide +kernel) (Nat.le_of_ble_eq_true rfl) ?_
  intro p l e s m args below meth c A X hM
  refine Z_gcs X (gxd kJ5_inflateIfNeededFor_a7421 0 rfl) ig_RJ5_18 ?_
  refine Z_if_eq (tgt := 21) X (gxd kJ5_inflateIfNeededFor_a7421 1 rfl) rfl (fun z => absurd z (by decide)) (fun _ => ?_)
  refine Z_aload_n 0 X (gxd kJ5_inflateIfNeededFor_a7421 2 rfl) rfl rfl ?_
  refine Z_get (v := .int 0) 0 X (gxd kJ5_inflateIfNeededFor_a7421 3 rfl) if_RJ5_22 rfl rfl ?_
  refine Z_aload_n 1 X (gxd kJ5_inflateIfNeededFor_a7421 4 rfl) rfl rfl ?_
  refine Z_callE (q := q) (As := []) (rest := [.int 0]) (W0 := []) (es := [(b, .inr (8, [.ref v, .int 0, .int 0, .int cnt]))]) (wc := []) (wr := [(b, .inr (8, [.ref v, .int 0, .int 0, .int cnt]))]) (a0 := 0) 0 [] [0] X (gxd kJ5_inflateIfNeededFor_a7421 5 rfl) iv_RJ5_40 iw_J0_coder_7d493 rfl rfl rfl rfl (Nat.le_of_ble_eq_true rfl) ⟨(Nat.le_of_ble_eq_true rfl), (Nat.le_of_ble_eq_true rfl)⟩ rfl rfl ⟨(Nat.le_of_ble_eq_true rfl), (Nat.le_of_ble_eq_true rfl)⟩ i_coder (xsub_rf _) rfl ⟨rfl, rfl, by decide, by decide, by decide⟩ ?_
  rintro _ _ ⟨rfl, rfl⟩
  show zJ p l e _ s m args below meth c A _ D _ 14 [(0, .ref b), (1, .ref q.1)] [.int 0, .int 0] [(b, .inr (8, [.ref v, .int 0, .int 0, .int cnt]))] 0 0
  refine Z_icmp_eq (tgt := 21) X (gxd kJ5_inflateIfNeededFor_a7421 6 rfl) rfl (fun _ => ?_) (fun z => absurd rfl z)
  refine Z_vret X hM (gxd kJ5_inflateIfNeededFor_a7421 9 rfl) ⟨rfl, rfl⟩ rfl rfl
theorem i_getby {D : va_G} {ct : iC3} {d v : Nat} {f : Nat → Int32} {q : iT} {j : Nat} (hl : j + q.2.2.1 ≤ 16) (hf : ∀ i, i < q.2.2.1 → fits .byte (.int (q.2.2.2 i)) = true) : iC yJ0_getBytes_840e7 cJ0_getBytes_840e7 4 none (zr 1 0 0) 0 0 D ct (d, [q], []) [.ref q.1, .ref v, .int (nI j), .int 0] [(v, .inl (ct.2.1, 16, .inl (f)))] (fun r w1 => r = none ∧ w1 = [(v, .inl (ct.2.1, 16, .inl (va_cpy q.2.2.2 f 0 j q.2.2.1)))]) := by
  refine iC_of (by decide +kernel) (Nat.le_of_ble_eq_true rfl) ?_
  intro p l e s m args below meth c A X hM
  refine Z_aload_n 0 X (gxd kJ0_getBytes_840e7 0 rfl) rfl rfl ?_
  refine Z_callE (q := q) (As := []) (rest := []) (W0 := []) (es := [(v, .inl (ct.2.1, 16, .inl (f)))]) (wc := []) (wr := [(v, .inl (ct.2.1, 16, .inl (f)))]) (a0 := 0) 0 [] [0] X (gxd kJ0_getBytes_840e7 1 rfl) iv_RJ0_335 iw_J0_coder_7d493 rfl rfl rfl rfl (Nat.le_of_ble_eq_true rfl) ⟨(Nat.le_of_ble_eq_true rfl), (Nat.le_of_ble_eq_true rfl)⟩ rfl rfl ⟨(Nat.le_of_ble_eq_true rfl), (Nat.le_of_ble_eq_true rfl)⟩ i_coder (xsub_rf _) rfl ⟨rfl, rfl, by decide, by decide, by decide⟩ ?_
  rintro _ _ ⟨rfl, rfl⟩
  show zJ p l e _ s m args below meth c A _ D _ 4 [(0, .ref q.1), (1, .ref v), (2, .int (nI j)), (3, .int 0)] [.int 0] [(v, .inl (ct.2.1, 16, .inl (f)))] 0 0
  refine Z_iload_n 3 X (gxd kJ0_getBytes_840e7 2 rfl) rfl rfl ?_
  refine Z_icmp_ne (tgt := 28) X (gxd kJ0_getBytes_840e7 3 rfl) rfl (fun z => absurd z (fun q => q rfl)) (fun _ => ?_)
  refine Z_aload_n 0 X (gxd kJ0_getBytes_840e7 4 rfl) rfl rfl ?_
  refine Z_getw (q := q) 0 X (gxd kJ0_getBytes_840e7 5 rfl) ig_RJ0_9 rfl ?_
  refine Z_iconst (v := 0) X (gxd kJ0_getBytes_840e7 6 rfl) (by decide) ?_
  refine Z_aload_n 1 X (gxd kJ0_getBytes_840e7 7 rfl) rfl rfl ?_
  refine Z_iload_n 2 X (gxd kJ0_getBytes_840e7 8 rfl) rfl rfl ?_
  refine Z_iload_n 3 X (gxd kJ0_getBytes_840e7 9 rfl) rfl rfl ?_
  refine Z_ishl (v := nI j) X (gxd kJ0_getBytes_840e7 10 rfl) (shl0 _) ?_
  refine Z_aload_n 0 X (gxd kJ0_getBytes_840e7 11 rfl) rfl rfl ?_
  refine Z_getw (q := q) 0 X (gxd kJ0_getBytes_840e7 12 rfl) ig_RJ0_9 rfl ?_
  refine Z_alenE (q := q) 0 (v := nI q.2.2.1) X (gxd kJ0_getBytes_840e7 13 rfl) rfl rfl ?_
  refine Z_copyE (q := q) (N := 16) (kd := j) (kn := q.2.2.1) 0 0 X (gxd kJ0_getBytes_840e7 14 rfl) iy_RJ0_212 rfl rfl ⟨nI_pos (by omega), nI_clamp (by omega)⟩ ⟨nI_pos (by omega), nI_clamp (by omega)⟩ ⟨Nat.le_refl _, hl⟩ hf (Nat.le_of_ble_eq_true rfl) (by decide) ?_
  show zJ p l e _ s m args below meth c A _ D _ 25 [(0, .ref q.1), (1, .ref v), (2, .int (nI j)), (3, .int 0)] [] [(v, .inl (ct.2.1, 16, .inl (va_cpy q.2.2.2 f 0 j q.2.2.1)))] 0 0
  refine Z_goto (tgt := 43) X (gxd kJ0_getBytes_840e7 15 rfl) rfl ?_
  refine Z_vret X hM (gxd kJ0_getBytes_840e7 25 rfl) ⟨rfl, rfl⟩ rfl rfl
theorem i_putst {D : va_G} {ct : iC3} {d b v : Nat} {f : Nat → Int32} {cnt : Int32} {q : iT} {j : Nat} (hl : j + q.2.2.1 ≤ 16) (hf : ∀ i, i < q.2.2.1 → fits .byte (.int (q.2.2.2 i)) = true) : iC yJ5_putStringAt_47b60 cJ5_putStringAt_47b60 3 none (zr 2 0 0) 0 0 D ct (d, [q], []) [.ref b, .int (nI j), .ref q.1] [(b, .inr (8, [.ref v, .int 0, .int 0, .int cnt])), (v, .inl (ct.2.1, 16, .inl (f)))] (fun r w1 => r = none ∧ w1 = [(b, .inr (8, [.ref v, .int 0, .int 0, .int cnt])), (v, .inl (ct.2.1, 16, .inl (va_cpy q.2.2.2 f 0 j q.2.2.1)))]) := by
  refine iC_of (by decide +kernel) (Nat.le_of_ble_eq_true rfl) ?_
  intro p l e s m args below meth c A X hM
  refine Z_aload_n 0 X (gxd kJ5_putStringAt_47b60 0 rfl) rfl rfl ?_
  refine Z_aload_n 2 X (gxd kJ5_putStringAt_47b60 1 rfl) rfl rfl ?_
  refine Z_callU (C := RJ4) (T := TJ4) (N1 := 4) (ci := 8) (As := [.ref q.1]) (rest := []) (W0 := []) (es := [(b, .inr (8, [.ref v, .int 0, .int 0, .int cnt])), (v, .inl (ct.2.1, 16, .inl (f)))]) (wc := [(b, .inr (8, [.ref v, .int 0, .int 0, .int cnt]))]) (wr := [(v, .inl (ct.2.1, 16, .inl (f)))]) (a0 := 0) [0] [1] X (gxd kJ5_putStringAt_47b60 2 rfl) iu_RJ5_397 iw_J5_inflateIfNeededFor_a7421 rfl rfl rfl rfl (Nat.le_of_ble_eq_true rfl) ⟨(Nat.le_of_ble_eq_true rfl), (Nat.le_of_ble_eq_true rfl)⟩ rfl rfl ⟨(Nat.le_of_ble_eq_true rfl), (Nat.le_of_ble_eq_true rfl)⟩ i_inflif (xsub_rf _) rfl ⟨rfl, rfl, by decide, by decide, by decide⟩ ?_
  rintro _ _ ⟨rfl, rfl⟩
  show zJ p l e _ s m args below meth c A _ D _ 5 [(0, .ref b), (1, .int (nI j)), (2, .ref q.1)] [] [(v, .inl (ct.2.1, 16, .inl (f))), (b, .inr (8, [.ref v, .int 0, .int 0, .int cnt]))] 0 0
  refine Z_aload_n 2 X (gxd kJ5_putStringAt_47b60 3 rfl) rfl rfl ?_
  refine Z_aload_n 0 X (gxd kJ5_putStringAt_47b60 4 rfl) rfl rfl ?_
  refine Z_get (v := .ref v) 1 X (gxd kJ5_putStringAt_47b60 5 rfl) if_RJ5_15 rfl rfl ?_
  refine Z_iload_n 1 X (gxd kJ5_putStringAt_47b60 6 rfl) rfl rfl ?_
  refine Z_aload_n 0 X (gxd kJ5_putStringAt_47b60 7 rfl) rfl rfl ?_
  refine Z_get (v := .int 0) 1 X (gxd kJ5_putStringAt_47b60 8 rfl) if_RJ5_22 rfl rfl ?_
  refine Z_callE (q := q) (As := [.ref v, .int (nI j), .int 0]) (rest := []) (W0 := []) (es := [(v, .inl (ct.2.1, 16, .inl (f))), (b, .inr (8, [.ref v, .int 0, .int 0, .int cnt]))]) (wc := [(v, .inl (ct.2.1, 16, .inl (f)))]) (wr := [(b, .inr (8, [.ref v, .int 0, .int 0, .int cnt]))]) (a0 := 0) 0 [0] [1] X (gxd kJ5_putStringAt_47b60 9 rfl) iv_RJ5_399 iw_J0_getBytes_840e7 rfl rfl rfl rfl (Nat.le_of_ble_eq_true rfl) ⟨(Nat.le_of_ble_eq_true rfl), (Nat.le_of_ble_eq_true rfl)⟩ rfl rfl ⟨(Nat.le_of_ble_eq_true rfl), (Nat.le_of_ble_eq_true rfl)⟩ (i_getby hl hf) (xsub_rf _) rfl ⟨rfl, rfl, by decide, by decide, by decide⟩ ?_
  rintro _ _ ⟨rfl, rfl⟩
  show zJ p l e _ s m args below meth c A _ D _ 18 [(0, .ref b), (1, .int (nI j)), (2, .ref q.1)] [] [(b, .inr (8, [.ref v, .int 0, .int 0, .int cnt])), (v, .inl (ct.2.1, 16, .inl (va_cpy q.2.2.2 f 0 j q.2.2.1)))] 0 0
  refine Z_vret X hM (gxd kJ5_putStringAt_47b60 10 rfl) ⟨rfl, rfl⟩ rfl rfl
theorem i_aaps {D : va_G} {ct : iC3} {d b v : Nat} {f : Nat → Int32} {q : iT} {j : Nat} (hl : j + q.2.2.1 ≤ 16) (hf : ∀ i, i < q.2.2.1 → fits .byte (.int (q.2.2.2 i)) = true) : iC yJ5_append_cf1ce cJ5_append_cf1ce 3 (some (.object "java/lang/AbstractStringBuilder")) (zr 3 0 0) 0 0 D ct (d, [q], []) [.ref b, .ref q.1] [(b, .inr (8, [.ref v, .int 0, .int 0, .int (nI j)])), (v, .inl (ct.2.1, 16, .inl (f)))] (fun r w1 => r = some (.ref b) ∧ w1 = [(b, .inr (8, [.ref v, .int 0, .int 0, .int (nI (j + q.2.2.1))])), (v, .inl (ct.2.1, 16, .inl (va_cpy q.2.2.2 f 0 j q.2.2.1)))]) := by
  refine iC_of (by decide +kernel) (Nat.le_of_ble_eq_true rfl) ?_
  intro p l e s m args below meth c A X hM
  refine Z_aload_n 1 X (gxd kJ5_append_cf1ce 0 rfl) rfl rfl ?_
  refine Z_ifnonnull (tgt := 9) X (gxd kJ5_append_cf1ce 1 rfl) rfl ?_
  refine Z_aload_n 1 X (gxd kJ5_append_cf1ce 5 rfl) rfl rfl ?_
  refine Z_callE (q := q) (As := []) (rest := []) (W0 := []) (es := [(b, .inr (8, [.ref v, .int 0, .int 0, .int (nI j)])), (v, .inl (ct.2.1, 16, .inl (f)))]) (wc := []) (wr := [(b, .inr (8, [.ref v, .int 0, .int 0, .int (nI j)])), (v, .inl (ct.2.1, 16, .inl (f)))]) (a0 := 0) 0 [] [0, 1] X (gxd kJ5_append_cf1ce 6 rfl) iv_RJ5_32 iw_J0_length_8abf5 rfl rfl rfl rfl (Nat.le_of_ble_eq_true rfl) ⟨(Nat.le_of_ble_eq_true rfl), (Nat.le_of_ble_eq_true rfl)⟩ rfl rfl ⟨(Nat.le_of_ble_eq_true rfl), (Nat.le_of_ble_eq_true rfl)⟩ i_length (xsub_rf _) rfl ⟨rfl, rfl, by decide, by decide, by decide⟩ ?_
  rintro _ _ ⟨rfl, rfl⟩
  show zJ p l e _ s m args below meth c A _ D _ 13 [(0, .ref b), (1, .ref q.1)] [.int (nI q.2.2.1)] [(b, .inr (8, [.ref v, .int 0, .int 0, .int (nI j)])), (v, .inl (ct.2.1, 16, .inl (f)))] 0 0
  refine Z_istore_n (la2 := [(2, .int (nI q.2.2.1)), (0, .ref b), (1, .ref q.1)]) X (gxd kJ5_append_cf1ce 7 rfl) rfl (by decide) rfl ?_
  refine Z_aload_n 1 X (gxd kJ5_append_cf1ce 8 rfl) rfl rfl ?_
  refine Z_aload_n 1 X (gxd kJ5_append_cf1ce 9 rfl) rfl rfl ?_
  refine Z_get (v := .int (nI j)) 0 X (gxd kJ5_append_cf1ce 10 rfl) if_RJ5_79 rfl rfl ?_
  refine Z_iload_n 0 X (gxd kJ5_append_cf1ce 11 rfl) rfl rfl ?_
  refine Z_iadd (v := nI (j + q.2.2.1)) X (gxd kJ5_append_cf1ce 12 rfl) (nI_add j _) ?_
  refine Z_callU (C := RJ4) (T := TJ4) (N1 := 4) (ci := 8) (As := [.int (nI (j + q.2.2.1))]) (rest := []) (W0 := []) (es := [(b, .inr (8, [.ref v, .int 0, .int 0, .int (nI j)])), (v, .inl (ct.2.1, 16, .inl (f)))]) (wc := [(b, .inr (8, [.ref v, .int 0, .int 0, .int (nI j)])), (v, .inl (ct.2.1, 16, .inl (f)))]) (wr := []) (a0 := 0) [0, 1] [] X (gxd kJ5_append_cf1ce 13 rfl) iu_RJ5_100 iw_J5_ensureCapacityInternal_d00df rfl rfl rfl rfl (Nat.le_of_ble_eq_true rfl) ⟨(Nat.le_of_ble_eq_true rfl), (Nat.le_of_ble_eq_true rfl)⟩ rfl rfl ⟨(Nat.le_of_ble_eq_true rfl), (Nat.le_of_ble_eq_true rfl)⟩ (i_ensure (by omega)) (xsub_nil _) rfl ⟨rfl, rfl, by decide, by decide, by decide⟩ ?_
  rintro _ _ ⟨rfl, rfl⟩
  show zJ p l e _ s m args below meth c A _ D _ 24 [(2, .int (nI q.2.2.1)), (0, .ref b), (1, .ref q.1)] [] [(b, .inr (8, [.ref v, .int 0, .int 0, .int (nI j)])), (v, .inl (ct.2.1, 16, .inl (f)))] 0 0
  refine Z_aload_n 1 X (gxd kJ5_append_cf1ce 14 rfl) rfl rfl ?_
  refine Z_aload_n 1 X (gxd kJ5_append_cf1ce 15 rfl) rfl rfl ?_
  refine Z_get (v := .int (nI j)) 0 X (gxd kJ5_append_cf1ce 16 rfl) if_RJ5_79 rfl rfl ?_
  refine Z_aload_n 2 X (gxd kJ5_append_cf1ce 17 rfl) rfl rfl ?_
  refine Z_callU (C := RJ4) (T := TJ4) (N1 := 4) (ci := 8) (As := [.int (nI j), .ref q.1]) (rest := []) (W0 := []) (es := [(b, .inr (8, [.ref v, .int 0, .int 0, .int (nI j)])), (v, .inl (ct.2.1, 16, .inl (f)))]) (wc := [(b, .inr (8, [.ref v, .int 0, .int 0, .int (nI j)])), (v, .inl (ct.2.1, 16, .inl (f)))]) (wr := []) (a0 := 0) [0, 1] [] X (gxd kJ5_append_cf1ce 18 rfl) iu_RJ5_208 iw_J5_putStringAt_47b60 rfl rfl rfl rfl (Nat.le_of_ble_eq_true rfl) ⟨(Nat.le_of_ble_eq_true rfl), (Nat.le_of_ble_eq_true rfl)⟩ rfl rfl ⟨(Nat.le_of_ble_eq_true rfl), (Nat.le_of_ble_eq_true rfl)⟩ (i_putst hl hf) (xsub_rf _) rfl ⟨rfl, rfl, by decide, by decide, by decide⟩ ?_
  rintro _ _ ⟨rfl, rfl⟩
  show zJ p l e _ s m args below meth c A _ D _ 33 [(2, .int (nI q.2.2.1)), (0, .ref b), (1, .ref q.1)] [] [(b, .inr (8, [.ref v, .int 0, .int 0, .int (nI j)])), (v, .inl (ct.2.1, 16, .inl (va_cpy q.2.2.2 f 0 j q.2.2.1)))] 0 0
  refine Z_aload_n 1 X (gxd kJ5_append_cf1ce 19 rfl) rfl rfl ?_
  refine Z_dup X (gxd kJ5_append_cf1ce 20 rfl) rfl ?_
  refine Z_get (v := .int (nI j)) 0 X (gxd kJ5_append_cf1ce 21 rfl) if_RJ5_79 rfl rfl ?_
  refine Z_iload_n 0 X (gxd kJ5_append_cf1ce 22 rfl) rfl rfl ?_
  refine Z_iadd (v := nI (j + q.2.2.1)) X (gxd kJ5_append_cf1ce 23 rfl) (nI_add j _) ?_
  refine Z_put 0 X (gxd kJ5_append_cf1ce 24 rfl) if_RJ5_79 ip_8_3 rfl rfl rfl (Nat.le_of_ble_eq_true rfl) ?_
  show zJ p l e _ s m args below meth c A _ D _ 43 [(2, .int (nI q.2.2.1)), (0, .ref b), (1, .ref q.1)] [] [(b, .inr (8, [.ref v, .int 0, .int 0, .int (nI (j + q.2.2.1))])), (v, .inl (ct.2.1, 16, .inl (va_cpy q.2.2.2 f 0 j q.2.2.1)))] 0 0
  refine Z_aload_n 1 X (gxd kJ5_append_cf1ce 25 rfl) rfl rfl ?_
  refine Z_aret X hM (Or.inl ⟨_, rfl⟩) (gxd kJ5_append_cf1ce 26 rfl) ⟨rfl, rfl⟩ rfl rfl
theorem i_aps {D : va_G} {ct : iC3} {d b v : Nat} {f : Nat → Int32} {q : iT} {j : Nat} (hl : j + q.2.2.1 ≤ 16) (hf : ∀ i, i < q.2.2.1 → fits .byte (.int (q.2.2.2 i)) = true) : iC yJ4_append_15ec4 cJ4_append_15ec4 2 (some (.object "java/lang/StringBuilder")) (zr 4 0 0) 0 0 D ct (d, [q], []) [.ref b, .ref q.1] [(b, .inr (8, [.ref v, .int 0, .int 0, .int (nI j)])), (v, .inl (ct.2.1, 16, .inl (f)))] (fun r w1 => r = some (.ref b) ∧ w1 = [(b, .inr (8, [.ref v, .int 0, .int 0, .int (nI (j + q.2.2.1))])), (v, .inl (ct.2.1, 16, .inl (va_cpy q.2.2.2 f 0 j q.2.2.1)))]) := by
  refine iC_of (by decide +kernel) (Nat.le_of_ble_eq_true rfl) ?_
  intro p l e s m args below meth c A X hM
  refine Z_aload_n 0 X (gxd kJ4_append_15ec4 0 rfl) rfl rfl ?_
  refine Z_aload_n 1 X (gxd kJ4_append_15ec4 1 rfl) rfl rfl ?_
  refine Z_callSU (C := RJ4) (T := TJ4) (N1 := 4) (ci := 8) (As := [.ref q.1]) (rest := []) (W0 := []) (es := [(b, .inr (8, [.ref v, .int 0, .int 0, .int (nI j)])), (v, .inl (ct.2.1, 16, .inl (f)))]) (wc := [(b, .inr (8, [.ref v, .int 0, .int 0, .int (nI j)])), (v, .inl (ct.2.1, 16, .inl (f)))]) (wr := []) (a0 := 0) [0, 1] [] X (gxd kJ4_append_15ec4 2 rfl) iz_RJ4_29 iw_J5_append_cf1ce rfl rfl rfl rfl (Nat.le_of_ble_eq_true rfl) ⟨(Nat.le_of_ble_eq_true rfl), (Nat.le_of_ble_eq_true rfl)⟩ rfl rfl ⟨(Nat.le_of_ble_eq_true rfl), (Nat.le_of_ble_eq_true rfl)⟩ (i_aaps hl hf) (xsub_rf _) rfl ⟨rfl, rfl, by decide, by decide, by decide⟩ ?_
  rintro _ _ ⟨rfl, rfl⟩
  show zJ p l e _ s m args below meth c A _ D _ 5 [(0, .ref b), (1, .ref q.1)] [.ref b] [(b, .inr (8, [.ref v, .int 0, .int 0, .int (nI (j + q.2.2.1))])), (v, .inl (ct.2.1, 16, .inl (va_cpy q.2.2.2 f 0 j q.2.2.1)))] 0 0
  refine Z_pop X (gxd kJ4_append_15ec4 3 rfl) rfl ?_
  refine Z_aload_n 0 X (gxd kJ4_append_15ec4 4 rfl) rfl rfl ?_
  refine Z_aret X hM (Or.inl ⟨_, rfl⟩) (gxd kJ4_append_15ec4 5 rfl) ⟨rfl, rfl⟩ rfl rfl
theorem i_chklen {D : va_G} {ct : iC3} {d j : Nat} (hj : j < 17) : iC yJ7_checkLength_df160 cJ7_checkLength_df160 2 none (zr 0 0 0) 0 0 D ct (d, [], []) [.int 0, .int (nI j)] [] (fun r w1 => r = none ∧ w1 = []) := by
  refine iC_of (by decide +kernel) (Nat.le_of_ble_eq_true rfl) ?_
  intro p l e s m args below meth c A X hM
  refine Z_iload_n 1 X (gxd kJ7_checkLength_df160 0 rfl) rfl rfl ?_
  refine Z_iload_n 0 X (gxd kJ7_checkLength_df160 1 rfl) rfl rfl ?_
  refine Z_icmp_ge (tgt := 37) X (gxd kJ7_checkLength_df160 2 rfl) rfl (fun _ => ?_) (fun z => absurd z (nI_pos (by omega)))
  refine Z_vret X hM (gxd kJ7_checkLength_df160 17 rfl) ⟨rfl, rfl⟩ rfl rfl
theorem i_cprb {D : va_G} {ct : iC3} {d v j : Nat} {f : Nat → Int32} (hj : j < 16) (hf : ∀ i, i < j → fits .byte (.int (f i)) = true) : iC yJ7_copyOfRangeByte_39247 cJ7_copyOfRangeByte_39247 5 (some (.array .byte)) (zr 1 1 j) 1 j D ct (d, [], []) [.ref v, .int 0, .int (nI j)] [(v, .inl (ct.2.1, 16, .inl (f)))] (fun r w1 => ∃ t : Nat, r = some (.ref t) ∧ w1 = [(v, .inl (ct.2.1, 16, .inl (f))), (t, .inl (ct.2.1, j, .inl (va_cpy f (fun _ => 0) 0 0 j)))]) := by
  refine iC_of (by decide +kernel) (Nat.le_of_ble_eq_true rfl) ?_
  intro p l e s m args below meth c A X hM
  refine Z_iload_n 1 X (gxd kJ7_copyOfRangeByte_39247 0 rfl) rfl rfl ?_
  refine Z_iload_n 2 X (gxd kJ7_copyOfRangeByte_39247 1 rfl) rfl rfl ?_
  refine Z_callS (As := [.int 0, .int (nI j)]) (rest := []) (W0 := []) (es := [(v, .inl (ct.2.1, 16, .inl (f)))]) (wc := []) (wr := [(v, .inl (ct.2.1, 16, .inl (f)))]) (a0 := 0) [] [0] X (gxd kJ7_copyOfRangeByte_39247 2 rfl) is_RJ7_343 iw_J7_checkLength_df160 rfl rfl (Nat.le_of_ble_eq_true rfl) ⟨(Nat.le_of_ble_eq_true rfl), (Nat.le_of_ble_eq_true rfl)⟩ rfl rfl ⟨(Nat.le_of_ble_eq_true rfl), (Nat.le_of_ble_eq_true rfl)⟩ (i_chklen (by omega)) (xsub_nil _) rfl ⟨rfl, rfl, by decide, by decide, by decide⟩ ?_
  rintro _ _ ⟨rfl, rfl⟩
  show zJ p l e _ s m args below meth c A _ D _ 5 [(0, .ref v), (1, .int 0), (2, .int (nI j))] [] [(v, .inl (ct.2.1, 16, .inl (f)))] 0 0
  refine Z_iload_n 2 X (gxd kJ7_copyOfRangeByte_39247 3 rfl) rfl rfl ?_
  refine Z_iload_n 1 X (gxd kJ7_copyOfRangeByte_39247 4 rfl) rfl rfl ?_
  refine Z_isub (v := nI j) X (gxd kJ7_copyOfRangeByte_39247 5 rfl) (sub0 _) ?_
  refine Z_istore_n (la2 := [(3, .int (nI j)), (0, .ref v), (1, .int 0), (2, .int (nI j))]) X (gxd kJ7_copyOfRangeByte_39247 6 rfl) rfl (by decide) rfl ?_
  refine Z_iload_n 0 X (gxd kJ7_copyOfRangeByte_39247 7 rfl) rfl rfl ?_
  refine Z_newb (N := j) X (gxd kJ7_copyOfRangeByte_39247 8 rfl) jAb (nI_pos (by omega)) (nI_clamp (by omega)) (by omega) (Nat.le_of_ble_eq_true rfl) (by show 0 + j ≤ j; omega) (fun t => ?_)
  show zJ p l e _ s m args below meth c A _ D _ 12 [(3, .int (nI j)), (0, .ref v), (1, .int 0), (2, .int (nI j))] [.ref t] [(v, .inl (ct.2.1, 16, .inl (f))), (t, .inl (ct.2.1, j, .inl (fun _ => 0)))] 1 (0 + j)
  refine Z_astore (la2 := [(4, .ref t), (3, .int (nI j)), (0, .ref v), (1, .int 0), (2, .int (nI j))]) X (gxd kJ7_copyOfRangeByte_39247 9 rfl) (by decide) rfl ?_
  refine Z_aload_n 2 X (gxd kJ7_copyOfRangeByte_39247 10 rfl) rfl rfl ?_
  refine Z_iload_n 3 X (gxd kJ7_copyOfRangeByte_39247 11 rfl) rfl rfl ?_
  refine Z_aload 0 X (gxd kJ7_copyOfRangeByte_39247 12 rfl) rfl ?_
  refine Z_iconst (v := 0) X (gxd kJ7_copyOfRangeByte_39247 13 rfl) (by decide) ?_
  refine Z_aload_n 2 X (gxd kJ7_copyOfRangeByte_39247 14 rfl) rfl rfl ?_
  refine Z_alen (N := 16) 0 (v := 16) X (gxd kJ7_copyOfRangeByte_39247 15 rfl) rfl rfl ?_
  refine Z_iload_n 3 X (gxd kJ7_copyOfRangeByte_39247 16 rfl) rfl rfl ?_
  refine Z_isub (v := 16) X (gxd kJ7_copyOfRangeByte_39247 17 rfl) rfl ?_
  refine Z_iload_n 1 X (gxd kJ7_copyOfRangeByte_39247 18 rfl) rfl rfl ?_
  refine Z_mmin (v := nI j) X (gxd kJ7_copyOfRangeByte_39247 19 rfl) (gW_at 929 (by decide +kernel) rfl) (gW_at 728 (by decide +kernel) rfl) (gW_at 74 (by decide +kernel) rfl) (gW_at 729 (by decide +kernel) rfl) (Nat.le_of_ble_eq_true rfl) (Nat.le_of_ble_eq_true rfl) ⟨(Nat.le_of_ble_eq_true rfl), by show 0 + j ≤ j; omega⟩ (min16 hj) ?_
  refine Z_copyW (N0 := 16) (N := j) (kn := j) 0 1 X (gxd kJ7_copyOfRangeByte_39247 20 rfl) iy_RJ7_150 rfl rfl ⟨nI_pos (by omega), nI_clamp (by omega)⟩ ⟨by omega, Nat.le_refl _⟩ hf (Nat.le_of_ble_eq_true rfl) (Nat.le_of_ble_eq_true rfl) ?_
  show zJ p l e _ s m args below meth c A _ D _ 30 [(4, .ref t), (3, .int (nI j)), (0, .ref v), (1, .int 0), (2, .int (nI j))] [] [(v, .inl (ct.2.1, 16, .inl (f))), (t, .inl (ct.2.1, j, .inl (va_cpy f (fun _ => 0) 0 0 j)))] 1 (0 + j)
  refine Z_aload 0 X (gxd kJ7_copyOfRangeByte_39247 21 rfl) rfl ?_
  refine Z_aret X hM (Or.inr ⟨_, rfl⟩) (gxd kJ7_copyOfRangeByte_39247 22 rfl) ⟨t, rfl, rfl⟩ rfl (Nat.zero_add j)
theorem i_cpr {D : va_G} {ct : iC3} {d v j : Nat} {f : Nat → Int32} (hj : j < 16) (hf : ∀ i, i < j → fits .byte (.int (f i)) = true) : iC yJ7_copyOfRange_39247 cJ7_copyOfRange_39247 3 (some (.array .byte)) (zr 2 1 j) 1 j D ct (d, [], []) [.ref v, .int 0, .int (nI j)] [(v, .inl (ct.2.1, 16, .inl (f)))] (fun r w1 => ∃ t : Nat, r = some (.ref t) ∧ w1 = [(v, .inl (ct.2.1, 16, .inl (f))), (t, .inl (ct.2.1, j, .inl (va_cpy f (fun _ => 0) 0 0 j)))]) := by
  refine iC_of (by decide +kernel) (Nat.le_of_ble_eq_true rfl) ?_
  intro p l e s m args below meth c A X hM
  refine Z_iload_n 1 X (gxd kJ7_copyOfRange_39247 0 rfl) rfl rfl ?_
  refine Z_if_ne (tgt := 10) X (gxd kJ7_copyOfRange_39247 1 rfl) rfl (fun z => absurd z (fun q => q rfl)) (fun _ => ?_)
  refine Z_iload_n 2 X (gxd kJ7_copyOfRange_39247 2 rfl) rfl rfl ?_
  refine Z_aload_n 0 X (gxd kJ7_copyOfRange_39247 3 rfl) rfl rfl ?_
  refine Z_alen (N := 16) 0 (v := 16) X (gxd kJ7_copyOfRange_39247 4 rfl) rfl rfl ?_
  refine Z_icmp_eq (tgt := 17) X (gxd kJ7_copyOfRange_39247 5 rfl) rfl (fun z => absurd z (ne16 hj)) (fun _ => ?_)
  refine Z_aload_n 0 X (gxd kJ7_copyOfRange_39247 6 rfl) rfl rfl ?_
  refine Z_iload_n 1 X (gxd kJ7_copyOfRange_39247 7 rfl) rfl rfl ?_
  refine Z_iload_n 2 X (gxd kJ7_copyOfRange_39247 8 rfl) rfl rfl ?_
  refine Z_callS (As := [.ref v, .int 0, .int (nI j)]) (rest := []) (W0 := []) (es := [(v, .inl (ct.2.1, 16, .inl (f)))]) (wc := [(v, .inl (ct.2.1, 16, .inl (f)))]) (wr := []) (a0 := 0) [0] [] X (gxd kJ7_copyOfRange_39247 9 rfl) is_RJ7_339 iw_J7_copyOfRangeByte_39247 rfl rfl (Nat.le_of_ble_eq_true rfl) ⟨(Nat.le_of_ble_eq_true rfl), (Nat.le_of_ble_eq_true rfl)⟩ rfl rfl ⟨(Nat.le_of_ble_eq_true rfl), by show 0 + j ≤ j; omega⟩ (i_cprb hj hf) (xsub_nil _) rfl ⟨rfl, rfl, by decide, by decide, by decide⟩ ?_
  rintro _ _ ⟨t, rfl, rfl⟩
  show zJ p l e _ s m args below meth c A _ D _ 16 [(0, .ref v), (1, .int 0), (2, .int (nI j))] [.ref t] [(v, .inl (ct.2.1, 16, .inl (f))), (t, .inl (ct.2.1, j, .inl (va_cpy f (fun _ => 0) 0 0 j)))] 1 (0 + j)
  refine Z_aret X hM (Or.inr ⟨_, rfl⟩) (gxd kJ7_copyOfRange_39247 10 rfl) ⟨t, rfl, rfl⟩ rfl (Nat.zero_add j)
theorem i_getval {D : va_G} {ct : iC3} {d b v : Nat} {cnt : Int32} : iC yJ5_getValue_6d5f1 cJ5_getValue_6d5f1 1 (some (.array .byte)) (zr 0 0 0) 0 0 D ct (d, [], []) [.ref b] [(b, .inr (8, [.ref v, .int 0, .int 0, .int cnt]))] (fun r w1 => r = some (.ref v) ∧ w1 = [(b, .inr (8, [.ref v, .int 0, .int 0, .int cnt]))]) := by
  refine iC_of (by decide +kernel) (Nat.le_of_ble_eq_true rfl) ?_
  intro p l e s m args below meth c A X hM
  refine Z_aload_n 0 X (gxd kJ5_getValue_6d5f1 0 rfl) rfl rfl ?_
  refine Z_get (v := .ref v) 0 X (gxd kJ5_getValue_6d5f1 1 rfl) if_RJ5_15 rfl rfl ?_
  refine Z_aret X hM (Or.inr ⟨_, rfl⟩) (gxd kJ5_getValue_6d5f1 2 rfl) ⟨rfl, rfl⟩ rfl rfl
theorem i_alen {D : va_G} {ct : iC3} {d b v : Nat} {cnt : Int32} : iC yJ5_length_8abf5 cJ5_length_8abf5 1 (some .int) (zr 0 0 0) 0 0 D ct (d, [], []) [.ref b] [(b, .inr (8, [.ref v, .int 0, .int 0, .int cnt]))] (fun r w1 => r = some (.int cnt) ∧ w1 = [(b, .inr (8, [.ref v, .int 0, .int 0, .int cnt]))]) := by
  refine iC_of (by decide +kernel) (Nat.le_of_ble_eq_true rfl) ?_
  intro p l e s m args below meth c A X hM
  refine Z_aload_n 0 X (gxd kJ5_length_8abf5 0 rfl) rfl rfl ?_
  refine Z_get (v := .int cnt) 0 X (gxd kJ5_length_8abf5 1 rfl) if_RJ5_79 rfl rfl ?_
  refine Z_zret X hM rfl (gxd kJ5_length_8abf5 2 rfl) ⟨rfl, rfl⟩ rfl rfl
theorem i_blen {D : va_G} {ct : iC3} {d b v : Nat} {cnt : Int32} : iC yJ4_length_8abf5 cJ4_length_8abf5 1 (some .int) (zr 1 0 0) 0 0 D ct (d, [], []) [.ref b] [(b, .inr (8, [.ref v, .int 0, .int 0, .int cnt]))] (fun r w1 => r = some (.int cnt) ∧ w1 = [(b, .inr (8, [.ref v, .int 0, .int 0, .int cnt]))]) := by
  refine iC_of (by decide +kernel) (Nat.le_of_ble_eq_true rfl) ?_
  intro p l e s m args below meth c A X hM
  refine Z_aload_n 0 X (gxd kJ4_length_8abf5 0 rfl) rfl rfl ?_
  refine Z_callSU (C := RJ4) (T := TJ4) (N1 := 4) (ci := 8) (As := []) (rest := []) (W0 := []) (es := [(b, .inr (8, [.ref v, .int 0, .int 0, .int cnt]))]) (wc := [(b, .inr (8, [.ref v, .int 0, .int 0, .int cnt]))]) (wr := []) (a0 := 0) [0] [] X (gxd kJ4_length_8abf5 1 rfl) iz_RJ4_343 iw_J5_length_8abf5 rfl rfl rfl rfl (Nat.le_of_ble_eq_true rfl) ⟨(Nat.le_of_ble_eq_true rfl), (Nat.le_of_ble_eq_true rfl)⟩ rfl rfl ⟨(Nat.le_of_ble_eq_true rfl), (Nat.le_of_ble_eq_true rfl)⟩ i_alen (xsub_nil _) rfl ⟨rfl, rfl, by decide, by decide, by decide⟩ ?_
  rintro _ _ ⟨rfl, rfl⟩
  show zJ p l e _ s m args below meth c A _ D _ 4 [(0, .ref b)] [.int cnt] [(b, .inr (8, [.ref v, .int 0, .int 0, .int cnt]))] 0 0
  refine Z_zret X hM rfl (gxd kJ4_length_8abf5 2 rfl) ⟨rfl, rfl⟩ rfl rfl
theorem i_sinit2 {D : va_G} {ct : iC3}  {d t b v j : Nat} {f : Nat → Int32} (hj : j < 16) (hf : ∀ i, i < j → fits .byte (.int (f i)) = true) : iC yJ0_init_db425 cJ0_init_db425 5 none (zr 3 1 j) 1 j D ct (d, [], []) [.ref t, .ref b, .null] [(t, .inr (7, fz7)), (b, .inr (8, [.ref v, .int 0, .int 0, .int (nI j)])), (v, .inl (ct.2.1, 16, .inl (f)))] (fun r w1 => ∃ u : Nat, r = none ∧ w1 = [(t, .inr (7, [.ref u, .int 0, .int 0, .int 0])), (b, .inr (8, [.ref v, .int 0, .int 0, .int (nI j)])), (v, .inl (ct.2.1, 16, .inl (f))), (u, .inl (ct.2.1, j, .inl (va_cpy f (fun _ => 0) 0 0 j)))]) := by
  refine iC_of (by decide +kernel) (Nat.le_of_ble_eq_true rfl) ?_
  intro p l e s m args below meth c A X hM
  refine Z_aload_n 0 X (gxd kJ0_init_db425 0 rfl) rfl rfl ?_
  refine Z_objInit X (gxd kJ0_init_db425 1 rfl) io_RJ0_1 (Nat.le_of_ble_eq_true rfl) (Nat.le_of_ble_eq_true rfl) ?_
  refine Z_aload_n 1 X (gxd kJ0_init_db425 2 rfl) rfl rfl ?_
  refine Z_callU (C := RJ4) (T := TJ4) (N1 := 4) (ci := 8) (As := []) (rest := []) (W0 := []) (es := [(t, .inr (7, fz7)), (b, .inr (8, [.ref v, .int 0, .int 0, .int (nI j)])), (v, .inl (ct.2.1, 16, .inl (f)))]) (wc := [(b, .inr (8, [.ref v, .int 0, .int 0, .int (nI j)]))]) (wr := [(t, .inr (7, fz7)), (v, .inl (ct.2.1, 16, .inl (f)))]) (a0 := 0) [1] [0, 2] X (gxd kJ0_init_db425 3 rfl) iu_RJ0_552 iw_J5_getValue_6d5f1 rfl rfl rfl rfl (Nat.le_of_ble_eq_true rfl) ⟨(Nat.le_of_ble_eq_true rfl), (Nat.le_of_ble_eq_true rfl)⟩ rfl rfl ⟨(Nat.le_of_ble_eq_true rfl), (Nat.le_of_ble_eq_true rfl)⟩ i_getval (xsub_nil _) rfl ⟨rfl, rfl, by decide, by decide, by decide⟩ ?_
  rintro _ _ ⟨rfl, rfl⟩
  show zJ p l e _ s m args below meth c A _ D _ 8 [(0, .ref t), (1, .ref b), (2, .null)] [.ref v] [(t, .inr (7, fz7)), (v, .inl (ct.2.1, 16, .inl (f))), (b, .inr (8, [.ref v, .int 0, .int 0, .int (nI j)]))] 0 0
  refine Z_astore_n (la2 := [(3, .ref v), (0, .ref t), (1, .ref b), (2, .null)]) X (gxd kJ0_init_db425 4 rfl) rfl (by decide) rfl ?_
  refine Z_aload_n 2 X (gxd kJ0_init_db425 5 rfl) rfl rfl ?_
  refine Z_callU (C := RJ4) (T := TJ4) (N1 := 4) (ci := 8) (As := []) (rest := []) (W0 := []) (es := [(t, .inr (7, fz7)), (v, .inl (ct.2.1, 16, .inl (f))), (b, .inr (8, [.ref v, .int 0, .int 0, .int (nI j)]))]) (wc := [(b, .inr (8, [.ref v, .int 0, .int 0, .int (nI j)]))]) (wr := [(t, .inr (7, fz7)), (v, .inl (ct.2.1, 16, .inl (f)))]) (a0 := 0) [2] [0, 1] X (gxd kJ0_init_db425 6 rfl) iu_RJ0_549 iw_J4_length_8abf5 rfl rfl rfl rfl (Nat.le_of_ble_eq_true rfl) ⟨(Nat.le_of_ble_eq_true rfl), (Nat.le_of_ble_eq_true rfl)⟩ rfl rfl ⟨(Nat.le_of_ble_eq_true rfl), (Nat.le_of_ble_eq_true rfl)⟩ i_blen (xsub_nil _) rfl ⟨rfl, rfl, by decide, by decide, by decide⟩ ?_
  rintro _ _ ⟨rfl, rfl⟩
  show zJ p l e _ s m args below meth c A _ D _ 13 [(3, .ref v), (0, .ref t), (1, .ref b), (2, .null)] [.int (nI j)] [(t, .inr (7, fz7)), (v, .inl (ct.2.1, 16, .inl (f))), (b, .inr (8, [.ref v, .int 0, .int 0, .int (nI j)]))] 0 0
  refine Z_istore (la2 := [(4, .int (nI j)), (3, .ref v), (0, .ref t), (1, .ref b), (2, .null)]) X (gxd kJ0_init_db425 7 rfl) (by decide) rfl ?_
  refine Z_aload_n 3 X (gxd kJ0_init_db425 8 rfl) rfl rfl ?_
  refine Z_callU (C := RJ4) (T := TJ4) (N1 := 4) (ci := 8) (As := []) (rest := []) (W0 := []) (es := [(t, .inr (7, fz7)), (v, .inl (ct.2.1, 16, .inl (f))), (b, .inr (8, [.ref v, .int 0, .int 0, .int (nI j)]))]) (wc := [(b, .inr (8, [.ref v, .int 0, .int 0, .int (nI j)]))]) (wr := [(t, .inr (7, fz7)), (v, .inl (ct.2.1, 16, .inl (f)))]) (a0 := 0) [2] [0, 1] X (gxd kJ0_init_db425 9 rfl) iu_RJ0_1047 iw_J5_isLatin1_aae02 rfl rfl rfl rfl (Nat.le_of_ble_eq_true rfl) ⟨(Nat.le_of_ble_eq_true rfl), (Nat.le_of_ble_eq_true rfl)⟩ rfl rfl ⟨(Nat.le_of_ble_eq_true rfl), (Nat.le_of_ble_eq_true rfl)⟩ i_blatin (xsub_nil _) rfl ⟨rfl, rfl, by decide, by decide, by decide⟩ ?_
  rintro _ _ ⟨rfl, rfl⟩
  show zJ p l e _ s m args below meth c A _ D _ 19 [(4, .int (nI j)), (3, .ref v), (0, .ref t), (1, .ref b), (2, .null)] [.int 1] [(t, .inr (7, fz7)), (v, .inl (ct.2.1, 16, .inl (f))), (b, .inr (8, [.ref v, .int 0, .int 0, .int (nI j)]))] 0 0
  refine Z_if_eq (tgt := 41) X (gxd kJ0_init_db425 10 rfl) rfl (fun z => absurd z (by decide)) (fun _ => ?_)
  refine Z_aload_n 2 X (gxd kJ0_init_db425 11 rfl) rfl rfl ?_
  refine Z_iconst (v := 0) X (gxd kJ0_init_db425 12 rfl) (by decide) ?_
  refine Z_putF 0 X hM (gxd kJ0_init_db425 13 rfl) if_RJ0_15 ip_7_1 rfl rfl rfl (Nat.le_of_ble_eq_true rfl) ?_
  show zJ p l e _ s m args below meth c A _ D _ 27 [(4, .int (nI j)), (3, .ref v), (0, .ref t), (1, .ref b), (2, .null)] [] [(t, .inr (7, [.null, .int 0, .int 0, .int 0])), (v, .inl (ct.2.1, 16, .inl (f))), (b, .inr (8, [.ref v, .int 0, .int 0, .int (nI j)]))] 0 0
  refine Z_aload_n 2 X (gxd kJ0_init_db425 14 rfl) rfl rfl ?_
  refine Z_aload_n 1 X (gxd kJ0_init_db425 15 rfl) rfl rfl ?_
  refine Z_iconst (v := 0) X (gxd kJ0_init_db425 16 rfl) (by decide) ?_
  refine Z_iload 0 X (gxd kJ0_init_db425 17 rfl) rfl ?_
  refine Z_callS (As := [.ref v, .int 0, .int (nI j)]) (rest := [.ref t]) (W0 := []) (es := [(t, .inr (7, [.null, .int 0, .int 0, .int 0])), (v, .inl (ct.2.1, 16, .inl (f))), (b, .inr (8, [.ref v, .int 0, .int 0, .int (nI j)]))]) (wc := [(v, .inl (ct.2.1, 16, .inl (f)))]) (wr := [(t, .inr (7, [.null, .int 0, .int 0, .int 0])), (b, .inr (8, [.ref v, .int 0, .int 0, .int (nI j)]))]) (a0 := 0) [1] [0, 2] X (gxd kJ0_init_db425 18 rfl) is_RJ0_54 iw_J7_copyOfRange_39247 rfl rfl (Nat.le_of_ble_eq_true rfl) ⟨(Nat.le_of_ble_eq_true rfl), (Nat.le_of_ble_eq_true rfl)⟩ rfl rfl ⟨(Nat.le_of_ble_eq_true rfl), by show 0 + j ≤ j; omega⟩ (i_cpr hj hf) (xsub_nil _) rfl ⟨rfl, rfl, by decide, by decide, by decide⟩ ?_
  rintro _ _ ⟨u, rfl, rfl⟩
  show zJ p l e _ s m args below meth c A _ D _ 35 [(4, .int (nI j)), (3, .ref v), (0, .ref t), (1, .ref b), (2, .null)] [.ref u, .ref t] [(t, .inr (7, [.null, .int 0, .int 0, .int 0])), (b, .inr (8, [.ref v, .int 0, .int 0, .int (nI j)])), (v, .inl (ct.2.1, 16, .inl (f))), (u, .inl (ct.2.1, j, .inl (va_cpy f (fun _ => 0) 0 0 j)))] 1 (0 + j)
  refine Z_putF 0 X hM (gxd kJ0_init_db425 19 rfl) if_RJ0_9 ip_7_0 rfl rfl rfl (Nat.le_of_ble_eq_true rfl) ?_
  show zJ p l e _ s m args below meth c A _ D _ 38 [(4, .int (nI j)), (3, .ref v), (0, .ref t), (1, .ref b), (2, .null)] [] [(t, .inr (7, [.ref u, .int 0, .int 0, .int 0])), (b, .inr (8, [.ref v, .int 0, .int 0, .int (nI j)])), (v, .inl (ct.2.1, 16, .inl (f))), (u, .inl (ct.2.1, j, .inl (va_cpy f (fun _ => 0) 0 0 j)))] 1 (0 + j)
  refine Z_goto (tgt := 97) X (gxd kJ0_init_db425 20 rfl) rfl ?_
  refine Z_vret X hM (gxd kJ0_init_db425 50 rfl) ⟨u, rfl, rfl⟩ rfl (Nat.zero_add j)
theorem i_sinit {D : va_G} {ct : iC3}  {d t b v j : Nat} {f : Nat → Int32} (hj : j < 16) (hf : ∀ i, i < j → fits .byte (.int (f i)) = true) : iC yJ0_init_81219 cJ0_init_81219 2 none (zr 4 1 j) 1 j D ct (d, [], []) [.ref t, .ref b] [(t, .inr (7, fz7)), (b, .inr (8, [.ref v, .int 0, .int 0, .int (nI j)])), (v, .inl (ct.2.1, 16, .inl (f)))] (fun r w1 => ∃ u : Nat, r = none ∧ w1 = [(t, .inr (7, [.ref u, .int 0, .int 0, .int 0])), (b, .inr (8, [.ref v, .int 0, .int 0, .int (nI j)])), (v, .inl (ct.2.1, 16, .inl (f))), (u, .inl (ct.2.1, j, .inl (va_cpy f (fun _ => 0) 0 0 j)))]) := by
  refine iC_of (by decide +kernel) (Nat.le_of_ble_eq_true rfl) ?_
  intro p l e s m args below meth c A X hM
  refine Z_aload_n 0 X (gxd kJ0_init_81219 0 rfl) rfl rfl ?_
  refine Z_aload_n 1 X (gxd kJ0_init_81219 1 rfl) rfl rfl ?_
  refine Z_null X (gxd kJ0_init_81219 2 rfl) ?_
  refine Z_callI (As := [.ref b, .null]) (rest := []) (W0 := []) (es := [(t, .inr (7, fz7)), (b, .inr (8, [.ref v, .int 0, .int 0, .int (nI j)])), (v, .inl (ct.2.1, 16, .inl (f)))]) (wc := [(t, .inr (7, fz7)), (b, .inr (8, [.ref v, .int 0, .int 0, .int (nI j)])), (v, .inl (ct.2.1, 16, .inl (f)))]) (wr := []) (a0 := 0) [0, 1, 2] [] X (gxd kJ0_init_81219 3 rfl) il_RJ0_489 il_RJ0_489m rfl ii_J0_init_db425 iw_J0_init_db425 rfl rfl (Nat.le_of_ble_eq_true rfl) ⟨(Nat.le_of_ble_eq_true rfl), (Nat.le_of_ble_eq_true rfl)⟩ rfl rfl ⟨(Nat.le_of_ble_eq_true rfl), by show 0 + j ≤ j; omega⟩ (i_sinit2 hj hf) (xsub_nil _) rfl ⟨rfl, rfl, by decide, by decide, by decide⟩ ?_
  rintro _ _ ⟨u, rfl, rfl⟩
  show zJ p l e _ s m args below meth c A _ D _ 6 [(0, .ref t), (1, .ref b)] [] [(t, .inr (7, [.ref u, .int 0, .int 0, .int 0])), (b, .inr (8, [.ref v, .int 0, .int 0, .int (nI j)])), (v, .inl (ct.2.1, 16, .inl (f))), (u, .inl (ct.2.1, j, .inl (va_cpy f (fun _ => 0) 0 0 j)))] 1 (0 + j)
  refine Z_vret X hM (gxd kJ0_init_81219 4 rfl) ⟨u, rfl, rfl⟩ rfl (Nat.zero_add j)
theorem i_tostr {D : va_G} {ct : iC3}  {d b v j : Nat} {f : Nat → Int32} (hj : j < 16) (hf : ∀ i, i < j → fits .byte (.int (f i)) = true) : iC yJ4_toString_0e30d cJ4_toString_0e30d 1 (some (.object "java/lang/String")) (zr 5 2 (4 + j)) 2 (4 + j) D ct (d, [], []) [.ref b] [(b, .inr (8, [.ref v, .int 0, .int 0, .int (nI j)])), (v, .inl (ct.2.1, 16, .inl (f)))] (fun r w1 => ∃ t u : Nat, r = some (.ref t) ∧ w1 = [(t, .inr (7, [.ref u, .int 0, .int 0, .int 0])), (b, .inr (8, [.ref v, .int 0, .int 0, .int (nI j)])), (v, .inl (ct.2.1, 16, .inl (f))), (u, .inl (ct.2.1, j, .inl (va_cpy f (fun _ => 0) 0 0 j)))]) := by
  refine iC_of (by decide +kernel) (Nat.le_of_ble_eq_true rfl) ?_
  intro p l e s m args below meth c A X hM
  refine Z_new X (gxd kJ4_toString_0e30d 0 rfl) in_RJ4_18 (Nat.le_of_ble_eq_true rfl) (by show 0 + 4 ≤ 4 + j; omega) (fun t => ?_)
  show zJ p l e _ s m args below meth c A _ D _ 3 [(0, .ref b)] [.ref t] [(b, .inr (8, [.ref v, .int 0, .int 0, .int (nI j)])), (v, .inl (ct.2.1, 16, .inl (f))), (t, .inr (7, fz7))] 1 4
  refine Z_dup X (gxd kJ4_toString_0e30d 1 rfl) rfl ?_
  refine Z_aload_n 0 X (gxd kJ4_toString_0e30d 2 rfl) rfl rfl ?_
  refine Z_callI (As := [.ref b]) (rest := [.ref t]) (W0 := []) (es := [(b, .inr (8, [.ref v, .int 0, .int 0, .int (nI j)])), (v, .inl (ct.2.1, 16, .inl (f))), (t, .inr (7, fz7))]) (wc := [(t, .inr (7, fz7)), (b, .inr (8, [.ref v, .int 0, .int 0, .int (nI j)])), (v, .inl (ct.2.1, 16, .inl (f)))]) (wr := []) (a0 := 0) [2, 0, 1] [] X (gxd kJ4_toString_0e30d 3 rfl) il_RJ4_137 il_RJ4_137m rfl ii_J0_init_81219 iw_J0_init_81219 rfl rfl (Nat.le_of_ble_eq_true rfl) ⟨(Nat.le_of_ble_eq_true rfl), (Nat.le_of_ble_eq_true rfl)⟩ rfl rfl ⟨(Nat.le_of_ble_eq_true rfl), Nat.le_refl _⟩ (i_sinit hj hf) (xsub_nil _) rfl ⟨rfl, rfl, by decide, by decide, by decide⟩ ?_
  rintro _ _ ⟨u, rfl, rfl⟩
  show zJ p l e _ s m args below meth c A _ D _ 8 [(0, .ref b)] [.ref t] [(t, .inr (7, [.ref u, .int 0, .int 0, .int 0])), (b, .inr (8, [.ref v, .int 0, .int 0, .int (nI j)])), (v, .inl (ct.2.1, 16, .inl (f))), (u, .inl (ct.2.1, j, .inl (va_cpy f (fun _ => 0) 0 0 j)))] 2 (4 + j)
  refine Z_aret X hM (Or.inl ⟨_, rfl⟩) (gxd kJ4_toString_0e30d 4 rfl) ⟨t, u, rfl, rfl⟩ rfl rfl
theorem i_name {D : va_G} {ct : iC3} {d a : Nat} (ha : a < 8) : iC yL_name cL_name 1 (some .char) (zr 0 0 0) 0 0 D ct (d, [], []) [.int (nI a)] [] (fun r w1 => r = some (.int (nI (97 + a))) ∧ w1 = []) := by
  refine iC_of (by decide +kernel) (Nat.le_of_ble_eq_true rfl) ?_
  intro p l e s m args below meth c A X hM
  refine Z_bipush (v := 97) X (gxd kL_name 0 rfl) (by decide) ?_
  refine Z_iload_n 0 X (gxd kL_name 1 rfl) rfl rfl ?_
  refine Z_iadd (v := nI (97 + a)) X (gxd kL_name 2 rfl) (nI_add 97 a) ?_
  refine Z_i2c (v := nI (97 + a)) X (gxd kL_name 3 rfl) (chr_ok (97 + a) (by omega)) ?_
  refine Z_zret X hM (chr_nar (97 + a) (by omega)) (gxd kL_name 4 rfl) ⟨rfl, rfl⟩ rfl rfl
theorem i_cell {D : va_G} {ct : iC3} {d j : Nat} {q : iI} (hj : j < 3) (hq : q.2.1 < 2 ^ 31) : iC yL_cell cL_cell 2 (some .int) (zr 0 0 0) 0 0 D ct (d, [], [q]) [.ref q.1, .int (nI j)] [] (fun r w1 => (∃ v : Int32, r = some (.int v)) ∧ w1 = []) := by
  refine iC_of (by decide +kernel) (Nat.le_of_ble_eq_true rfl) ?_
  intro p l e s m args below meth c A X hM
  refine Z_iload_n 1 X (gxd kL_cell 0 rfl) rfl rfl ?_
  refine Z_aload_n 0 X (gxd kL_cell 1 rfl) rfl rfl ?_
  refine Z_slen (q := q) 0 X (gxd kL_cell 2 rfl) rfl ?_
  refine Z_icmp_ge (tgt := 12) X (gxd kL_cell 3 rfl) rfl (fun _ => ?_) (fun z => ?_)
  · refine Z_sipush (v := 7919) X (gxd kL_cell 8 rfl) (by decide) ?_
    refine Z_iload_n 1 X (gxd kL_cell 9 rfl) rfl rfl ?_
    refine Z_imul X (gxd kL_cell 10 rfl) rfl ?_
    refine Z_bipush (v := 12) X (gxd kL_cell 11 rfl) (by decide) ?_
    refine Z_iadd X (gxd kL_cell 12 rfl) rfl ?_
    exact Z_zret X hM rfl (gxd kL_cell 13 rfl) ⟨⟨_, rfl⟩, rfl⟩ rfl rfl
  · have hlt : j < q.2.1 := by
      have h1 : nI j < nI q.2.1 := z
      rw [Int32.lt_iff_toInt_lt, nI_toInt (by omega), nI_toInt hq] at h1
      omega
    refine Z_aload_n 0 X (gxd kL_cell 4 rfl) rfl rfl ?_
    refine Z_iload_n 1 X (gxd kL_cell 5 rfl) rfl rfl ?_
    refine Z_sld (q := q) 0 X (gxd kL_cell 6 rfl) rfl (vp_in_nI hlt hq) ?_
    refine Z_goto (tgt := 20) X (gxd kL_cell 7 rfl) rfl ?_
    exact Z_zret X hM rfl (gxd kL_cell 13 rfl) ⟨⟨_, rfl⟩, rfl⟩ rfl rfl
theorem i_some {D : va_G} {ct : iC3} {d j N : Nat} {q : iI} (hj : j < 3) (hq : q.2.1 < 2 ^ 31) (h0 : 0 < N) (hN : N < 16) : iC yL_some cL_some 3 (some .int) (zr 1 0 0) 0 0 D ct (d, [], [q]) [.ref q.1, .int (nI j), .int (nI N)] [] (fun r w1 => (∃ a, a < N ∧ r = some (.int (nI a))) ∧ w1 = []) := by
  refine iC_of (by decide +kernel) (Nat.le_of_ble_eq_true rfl) ?_
  intro p l e s m args below meth c A X hM
  refine Z_aload_n 0 X (gxd kL_some 0 rfl) rfl rfl ?_
  refine Z_iload_n 1 X (gxd kL_some 1 rfl) rfl rfl ?_
  refine Z_callS (As := [.ref q.1, .int (nI j)]) (rest := []) (W0 := []) (es := []) (wc := []) (wr := []) (a0 := 0) [] [] X (gxd kL_some 2 rfl) is_RL_7 iw_L_cell rfl rfl (Nat.le_of_ble_eq_true rfl) ⟨(Nat.le_of_ble_eq_true rfl), (Nat.le_of_ble_eq_true rfl)⟩ rfl rfl ⟨(Nat.le_of_ble_eq_true rfl), (Nat.le_of_ble_eq_true rfl)⟩ (i_cell hj hq) (xsub_rf _) rfl ⟨rfl, rfl, by decide, by decide, by decide⟩ ?_
  rintro _ _ ⟨⟨v, rfl⟩, rfl⟩
  show zJ p l e _ s m args below meth c A _ D _ 5 [(0, .ref q.1), (1, .int (nI j)), (2, .int (nI N))] [.int v] [] 0 0
  refine Z_iconst (v := 3) X (gxd kL_some 3 rfl) (by decide) ?_
  obtain ⟨u, hu, hv⟩ := shr3 v
  refine Z_iushr (v := nI u) X (gxd kL_some 4 rfl) hv ?_
  refine Z_iload_n 2 X (gxd kL_some 5 rfl) rfl rfl ?_
  refine Z_irem (v := nI (u % N)) X (gxd kL_some 6 rfl) (nI_ne0 h0 (by omega)) (pk_rem (by omega) h0 (by omega)) ?_
  refine Z_zret X hM rfl (gxd kL_some 7 rfl) ⟨⟨u % N, Nat.mod_lt _ h0, rfl⟩, rfl⟩ rfl rfl
