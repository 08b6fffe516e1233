def fH_clear_2 (o : Nat) (v1 : Int32) : Nat → Int32 → gH → Option gH
  | 0, _, _ => none
  | n + 1, v2, h =>
    if v2 < (8 : Int32) then
      gg (gin v2 9) <|
      glet (hu h (o + 1) v2.toNatClampNeg (1023 : Int32)) fun h8 =>
      fH_clear_2 o v1 n (v2 + (1 : Int32)) h8
    else
      glet (hu h o 5 (0 : Int32)) fun h1 =>
      glet (hu h1 o 6 v1) fun h3 =>
      glet (hu h3 o 7 (0 : Int32)) fun h5 =>
      some (hu h5 o 9 (0 : Int32))
theorem fH_clear_2_ok {d : Nat} {o : Nat} {v1 : Int32} (ho : gHall o)  : ∀ (n : Nat) (v2 : Int32) (h : gH) (x : gH), fH_clear_2 o v1 n v2 h = some x → gR RX0 cX0_clear 3 none (d + 0) 2 [.ref o, .int v1, .int v2] [] h none x := by
  intro n
  induction n with
  | zero => intro v2 h x  H; exact g0 H
  | succ n ih =>
    intro v2 h x  H
    unfold fH_clear_2 at H
    refine R_iload_n (gxd kX0_clear 2 rfl) rfl rfl ?_
    refine R_bipush (v := (8 : Int32)) (gxd kX0_clear 3 rfl) rfl ?_
    refine R_icmp_ge (gxd kX0_clear 4 rfl) (tgt := 23) rfl (fun q => ?_) (fun q => ?_)
    · replace H := giff q H
      refine R_aload_n (gxd kX0_clear 12 rfl) rfl rfl ?_
      refine R_iconst (v := (0 : Int32)) (gxd kX0_clear 13 rfl) rfl ?_
      refine R_puti (gxd kX0_clear 14 rfl) gf_H_32 gp_0_5 (gHall0 ho) (by decide) rfl ?_
      obtain ⟨h1, e2, H⟩ := glei H
      refine R_heq e2 ?_
      refine R_aload_n (gxd kX0_clear 15 rfl) rfl rfl ?_
      refine R_iload_n (gxd kX0_clear 16 rfl) rfl rfl ?_
      refine R_puti (gxd kX0_clear 17 rfl) gf_H_36 gp_0_6 (gHall0 ho) (by decide) rfl ?_
      obtain ⟨h3, e4, H⟩ := glei H
      refine R_heq e4 ?_
      refine R_aload_n (gxd kX0_clear 18 rfl) rfl rfl ?_
      refine R_iconst (v := (0 : Int32)) (gxd kX0_clear 19 rfl) rfl ?_
      refine R_puti (gxd kX0_clear 20 rfl) gf_H_39 gp_0_7 (gHall0 ho) (by decide) rfl ?_
      obtain ⟨h5, e6, H⟩ := glei H
      refine R_heq e6 ?_
      refine R_aload_n (gxd kX0_clear 21 rfl) rfl rfl ?_
      refine R_iconst (v := (0 : Int32)) (gxd kX0_clear 22 rfl) rfl ?_
      refine R_putz (gxd kX0_clear 23 rfl) gf_H_42 gp_0_9 (Or.inl rfl) (gHall0 ho) (by decide) rfl ?_
      cases H
      exact R_vret (gxd kX0_clear 24 rfl) rfl
    · replace H := gift q H
      refine R_aload_n (gxd kX0_clear 5 rfl) rfl rfl ?_
      refine R_getr (gxd kX0_clear 6 rfl) gf_H_9 (gHall0 ho) (by decide) rfl ?_
      refine R_iload_n (gxd kX0_clear 7 rfl) rfl rfl ?_
      refine R_sipush (v := (1023 : Int32)) (gxd kX0_clear 8 rfl) rfl ?_
      obtain ⟨b7, H⟩ := ggi H
      have b7 := gin_in b7
      refine R_iast (gxd kX0_clear 9 rfl) (gHall1 ho) b7 ?_
      obtain ⟨h8, e9, H⟩ := glei H
      refine R_heq e9 ?_
      refine R_iinc (v := (v2 + (1 : Int32))) (gxd kX0_clear 10 rfl) rfl rfl rfl (Nat.le_of_ble_eq_true rfl) rfl ?_
      refine R_goto (gxd kX0_clear 11 rfl) (tgt := 2) rfl ?_
      exact R_weak (gle_same (gle_same (gle_same gle_nil))) (ih _ _ _  H)
def fH_clear (o : Nat) (v1 : Int32) (h : gH) : Option gH :=
  fH_clear_2 o v1 gfu (0 : Int32) h
theorem fH_clear_ok {o : Nat} {v1 : Int32} (ho : gHall o) {h : gH} {x : gH} (H : fH_clear o v1 h = some x) (d : Nat) : gC yX0_clear cX0_clear 3 none (d + 0) [.ref o, .int v1] h none x := by
  refine gC_of (by decide +kernel) (Nat.le_of_ble_eq_true rfl) rfl ?_
  unfold fH_clear at H
  refine R_iconst (v := (0 : Int32)) (gxd kX0_clear 0 rfl) rfl ?_
  refine R_istore_n (gxd kX0_clear 1 rfl) rfl rfl (Nat.le_of_ble_eq_true rfl) rfl ?_
  exact R_weak (gle_same (gle_same (gle_same gle_nil))) (fH_clear_2_ok ho  gfu _ _ _  H)
def fH_become (o : Nat) (o1 : Nat) (h : gH) : Option gH :=
  glet (gcp h (o1 + 1) (0 : Int32).toNatClampNeg (o + 1) (0 : Int32).toNatClampNeg (8 : Int32).toNatClampNeg) fun h1 =>
  glet (gcp h1 (o1 + 3) (0 : Int32).toNatClampNeg (o + 3) (0 : Int32).toNatClampNeg (80 : Int32).toNatClampNeg) fun h3 =>
  glet (gcp h3 (o1 + 4) (0 : Int32).toNatClampNeg (o + 4) (0 : Int32).toNatClampNeg (80 : Int32).toNatClampNeg) fun h5 =>
  glet (hu h5 o 5 (h5 o1 5)) fun h7 =>
  glet (hu h7 o 6 (h7 o1 6)) fun h9 =>
  glet (hu h9 o 7 (h9 o1 7)) fun h11 =>
  glet (hu h11 o 8 (h11 o1 8)) fun h13 =>
  gg (gbo (h13 o1 9)) <|
  some (hu h13 o 9 (h13 o1 9))
theorem fH_become_ok {o : Nat} {o1 : Nat} (ho : gHall o) (ho1 : gHall o1) {h : gH} {x : gH} (H : fH_become o o1 h = some x) (d : Nat) : gC yX0_become cX0_become 2 none (d + 1) [.ref o, .ref o1] h none x := by
  refine gC_of (by decide +kernel) (Nat.le_of_ble_eq_true rfl) rfl ?_
  unfold fH_become at H
  refine R_aload_n (gxd kX0_become 0 rfl) rfl rfl ?_
  refine R_getr (gxd kX0_become 1 rfl) gf_H_9 (gHall0 ho1) (by decide) rfl ?_
  refine R_iconst (v := (0 : Int32)) (gxd kX0_become 2 rfl) rfl ?_
  refine R_aload_n (gxd kX0_become 3 rfl) rfl rfl ?_
  refine R_getr (gxd kX0_become 4 rfl) gf_H_9 (gHall0 ho) (by decide) rfl ?_
  refine R_iconst (v := (0 : Int32)) (gxd kX0_become 5 rfl) rfl ?_
  refine R_bipush (v := (8 : Int32)) (gxd kX0_become 6 rfl) rfl ?_
  refine R_copy (gxd kX0_become 7 rfl) gy_H_46 (gHall1 ho1) (gHall1 ho) (by decide) (by decide) (by decide) (by decide) (by decide) (by omega) (Nat.le_of_ble_eq_true rfl) ?_
  obtain ⟨h1, e2, H⟩ := glei H
  refine R_heq e2 ?_
  refine R_aload_n (gxd kX0_become 8 rfl) rfl rfl ?_
  refine R_getr (gxd kX0_become 9 rfl) gf_H_18 (gHall0 ho1) (by decide) rfl ?_
  refine R_iconst (v := (0 : Int32)) (gxd kX0_become 10 rfl) rfl ?_
  refine R_aload_n (gxd kX0_become 11 rfl) rfl rfl ?_
  refine R_getr (gxd kX0_become 12 rfl) gf_H_18 (gHall0 ho) (by decide) rfl ?_
  refine R_iconst (v := (0 : Int32)) (gxd kX0_become 13 rfl) rfl ?_
  refine R_bipush (v := (80 : Int32)) (gxd kX0_become 14 rfl) rfl ?_
  refine R_copy (gxd kX0_become 15 rfl) gy_H_46 (gHall3 ho1) (gHall3 ho) (by decide) (by decide) (by decide) (by decide) (by decide) (by omega) (Nat.le_of_ble_eq_true rfl) ?_
  obtain ⟨h3, e4, H⟩ := glei H
  refine R_heq e4 ?_
  refine R_aload_n (gxd kX0_become 16 rfl) rfl rfl ?_
  refine R_getr (gxd kX0_become 17 rfl) gf_H_21 (gHall0 ho1) (by decide) rfl ?_
  refine R_iconst (v := (0 : Int32)) (gxd kX0_become 18 rfl) rfl ?_
  refine R_aload_n (gxd kX0_become 19 rfl) rfl rfl ?_
  refine R_getr (gxd kX0_become 20 rfl) gf_H_21 (gHall0 ho) (by decide) rfl ?_
  refine R_iconst (v := (0 : Int32)) (gxd kX0_become 21 rfl) rfl ?_
  refine R_bipush (v := (80 : Int32)) (gxd kX0_become 22 rfl) rfl ?_
  refine R_copy (gxd kX0_become 23 rfl) gy_H_46 (gHall4 ho1) (gHall4 ho) (by decide) (by decide) (by decide) (by decide) (by decide) (by omega) (Nat.le_of_ble_eq_true rfl) ?_
  obtain ⟨h5, e6, H⟩ := glei H
  refine R_heq e6 ?_
  refine R_aload_n (gxd kX0_become 24 rfl) rfl rfl ?_
  refine R_aload_n (gxd kX0_become 25 rfl) rfl rfl ?_
  refine R_geti (gxd kX0_become 26 rfl) gf_H_32 (gHall0 ho1) (by decide) rfl ?_
  refine R_puti (gxd kX0_become 27 rfl) gf_H_32 gp_0_5 (gHall0 ho) (by decide) rfl ?_
  obtain ⟨h7, e8, H⟩ := glei H
  refine R_heq e8 ?_
  refine R_aload_n (gxd kX0_become 28 rfl) rfl rfl ?_
  refine R_aload_n (gxd kX0_become 29 rfl) rfl rfl ?_
  refine R_geti (gxd kX0_become 30 rfl) gf_H_36 (gHall0 ho1) (by decide) rfl ?_
  refine R_puti (gxd kX0_become 31 rfl) gf_H_36 gp_0_6 (gHall0 ho) (by decide) rfl ?_
  obtain ⟨h9, e10, H⟩ := glei H
  refine R_heq e10 ?_
  refine R_aload_n (gxd kX0_become 32 rfl) rfl rfl ?_
  refine R_aload_n (gxd kX0_become 33 rfl) rfl rfl ?_
  refine R_geti (gxd kX0_become 34 rfl) gf_H_39 (gHall0 ho1) (by decide) rfl ?_
  refine R_puti (gxd kX0_become 35 rfl) gf_H_39 gp_0_7 (gHall0 ho) (by decide) rfl ?_
  obtain ⟨h11, e12, H⟩ := glei H
  refine R_heq e12 ?_
  refine R_aload_n (gxd kX0_become 36 rfl) rfl rfl ?_
  refine R_aload_n (gxd kX0_become 37 rfl) rfl rfl ?_
  refine R_geti (gxd kX0_become 38 rfl) gf_H_52 (gHall0 ho1) (by decide) rfl ?_
  refine R_puti (gxd kX0_become 39 rfl) gf_H_52 gp_0_8 (gHall0 ho) (by decide) rfl ?_
  obtain ⟨h13, e14, H⟩ := glei H
  refine R_heq e14 ?_
  refine R_aload_n (gxd kX0_become 40 rfl) rfl rfl ?_
  refine R_aload_n (gxd kX0_become 41 rfl) rfl rfl ?_
  refine R_geti (gxd kX0_become 42 rfl) gf_H_42 (gHall0 ho1) (by decide) rfl ?_
  obtain ⟨b15, H⟩ := ggi H
  have b15 := gbo_or b15
  refine R_putz (gxd kX0_become 43 rfl) gf_H_42 gp_0_9 b15 (gHall0 ho) (by decide) rfl ?_
  cases H
  exact R_vret (gxd kX0_become 44 rfl) rfl
def fH_drop_3 (o : Nat) (v1 : Int32) (v2 : Int32) (v3 : Int32) : Nat → Int32 → gH → Option gH
  | 0, _, _ => none
  | n + 1, v4, h =>
    if v4 < (10 : Int32) then
      if ((v2 >>> (v4 &&& 31)) &&& (1 : Int32)) = (1 : Int32) then
        if (h o 5) < (80 : Int32) then
          gg (gin v1 9) <|
          gg (gin v1 9) <|
          glet (hu h (o + 1) v1.toNatClampNeg ((h (o + 1) v1.toNatClampNeg) &&& (((1 : Int32) <<< (v4 &&& 31)) ^^^ (-1 : Int32)))) fun h4 =>
          gg (gin (h4 o 5) 80) <|
          glet (hu h4 (o + 3) (h4 o 5).toNatClampNeg ((v1 * (10 : Int32)) + v4)) fun h7 =>
          gg (gin (h7 o 5) 80) <|
          glet (hu h7 (o + 4) (h7 o 5).toNatClampNeg v3) fun h10 =>
          glet (hu h10 o 5 ((h10 o 5) + (1 : Int32))) fun h12 =>
          fH_drop_3 o v1 v2 v3 n (v4 + (1 : Int32)) h12
        else
          fH_drop_3 o v1 v2 v3 n (v4 + (1 : Int32)) h
      else
        fH_drop_3 o v1 v2 v3 n (v4 + (1 : Int32)) h
    else
      if (h o 9) = (0 : Int32) then
        gg (gin v1 9) <|
        if (h (o + 1) v1.toNatClampNeg) = (0 : Int32) then
          some (hu h o 9 (1 : Int32))
        else
          some (hu h o 9 (0 : Int32))
      else
        some (hu h o 9 (1 : Int32))
theorem fH_drop_3_ok {d : Nat} {o : Nat} {v1 : Int32} {v2 : Int32} {v3 : Int32} (ho : gHall o)  : ∀ (n : Nat) (v4 : Int32) (h : gH) (x : gH), fH_drop_3 o v1 v2 v3 n v4 h = some x → gR RX0 cX0_drop 5 none (d + 0) 3 [.ref o, .int v1, .int v2, .int v3, .int v4] [] h none x := by
  intro n
  induction n with
  | zero => intro v4 h x  H; exact g0 H
  | succ n ih =>
    intro v4 h x  H
    unfold fH_drop_3 at H
    refine R_iload (gxd kX0_drop 2 rfl) rfl ?_
    refine R_bipush (v := (10 : Int32)) (gxd kX0_drop 3 rfl) rfl ?_
    refine R_icmp_ge (gxd kX0_drop 4 rfl) (tgt := 86) rfl (fun q => ?_) (fun q => ?_)
    · replace H := giff q H
      refine R_aload_n (gxd kX0_drop 52 rfl) rfl rfl ?_
      refine R_aload_n (gxd kX0_drop 53 rfl) rfl rfl ?_
      refine R_geti (gxd kX0_drop 54 rfl) gf_H_42 (gHall0 ho) (by decide) rfl ?_
      refine R_if_ne (gxd kX0_drop 55 rfl) (tgt := 103) rfl (fun q => ?_) (fun q => ?_)
      · replace H := giff q H
        refine R_iconst (v := (1 : Int32)) (gxd kX0_drop 61 rfl) rfl ?_
        refine R_goto (gxd kX0_drop 62 rfl) (tgt := 108) rfl ?_
        refine R_putz (gxd kX0_drop 64 rfl) gf_H_42 gp_0_9 (Or.inr rfl) (gHall0 ho) (by decide) rfl ?_
        cases H
        exact R_vret (gxd kX0_drop 65 rfl) rfl
      · replace H := gift q H
        refine R_aload_n (gxd kX0_drop 56 rfl) rfl rfl ?_
        refine R_getr (gxd kX0_drop 57 rfl) gf_H_9 (gHall0 ho) (by decide) rfl ?_
        refine R_iload_n (gxd kX0_drop 58 rfl) rfl rfl ?_
        obtain ⟨b1, H⟩ := ggi H
        have b1 := gin_in b1
        refine R_iald (gxd kX0_drop 59 rfl) (gHall1 ho) b1 ?_
        refine R_if_ne (gxd kX0_drop 60 rfl) (tgt := 107) rfl (fun q => ?_) (fun q => ?_)
        · replace H := giff q H
          refine R_iconst (v := (0 : Int32)) (gxd kX0_drop 63 rfl) rfl ?_
          refine R_putz (gxd kX0_drop 64 rfl) gf_H_42 gp_0_9 (Or.inl rfl) (gHall0 ho) (by decide) rfl ?_
          cases H
          exact R_vret (gxd kX0_drop 65 rfl) rfl
        · replace H := gift q H
          refine R_iconst (v := (1 : Int32)) (gxd kX0_drop 61 rfl) rfl ?_
          refine R_goto (gxd kX0_drop 62 rfl) (tgt := 108) rfl ?_
          refine R_putz (gxd kX0_drop 64 rfl) gf_H_42 gp_0_9 (Or.inr rfl) (gHall0 ho) (by decide) rfl ?_
          cases H
          exact R_vret (gxd kX0_drop 65 rfl) rfl
    · replace H := gift q H
      refine R_iload_n (gxd kX0_drop 5 rfl) rfl rfl ?_
      refine R_iload (gxd kX0_drop 6 rfl) rfl ?_
      refine R_ishr (gxd kX0_drop 7 rfl) ?_
      refine R_iconst (v := (1 : Int32)) (gxd kX0_drop 8 rfl) rfl ?_
      refine R_iand (gxd kX0_drop 9 rfl) ?_
      refine R_iconst (v := (1 : Int32)) (gxd kX0_drop 10 rfl) rfl ?_
      refine R_icmp_ne (gxd kX0_drop 11 rfl) (tgt := 80) rfl (fun q => ?_) (fun q => ?_)
      · replace H := giff q H
        refine R_iinc (v := (v4 + (1 : Int32))) (gxd kX0_drop 50 rfl) rfl rfl rfl (Nat.le_of_ble_eq_true rfl) rfl ?_
        refine R_goto (gxd kX0_drop 51 rfl) (tgt := 3) rfl ?_
        exact R_weak (gle_same (gle_same (gle_same (gle_same (gle_same gle_nil))))) (ih _ _ _  H)
      · replace H := gift q H
        refine R_aload_n (gxd kX0_drop 12 rfl) rfl rfl ?_
        refine R_geti (gxd kX0_drop 13 rfl) gf_H_32 (gHall0 ho) (by decide) rfl ?_
        refine R_bipush (v := (80 : Int32)) (gxd kX0_drop 14 rfl) rfl ?_
        refine R_icmp_ge (gxd kX0_drop 15 rfl) (tgt := 80) rfl (fun q => ?_) (fun q => ?_)
        · replace H := giff q H
          refine R_iinc (v := (v4 + (1 : Int32))) (gxd kX0_drop 50 rfl) rfl rfl rfl (Nat.le_of_ble_eq_true rfl) rfl ?_
          refine R_goto (gxd kX0_drop 51 rfl) (tgt := 3) rfl ?_
          exact R_weak (gle_same (gle_same (gle_same (gle_same (gle_same gle_nil))))) (ih _ _ _  H)
        · replace H := gift q H
          refine R_aload_n (gxd kX0_drop 16 rfl) rfl rfl ?_
          refine R_getr (gxd kX0_drop 17 rfl) gf_H_9 (gHall0 ho) (by decide) rfl ?_
          refine R_iload_n (gxd kX0_drop 18 rfl) rfl rfl ?_
          refine R_dup2 (gxd kX0_drop 19 rfl) rfl rfl ?_
          obtain ⟨b2, H⟩ := ggi H
          have b2 := gin_in b2
          refine R_iald (gxd kX0_drop 20 rfl) (gHall1 ho) b2 ?_
          refine R_iconst (v := (1 : Int32)) (gxd kX0_drop 21 rfl) rfl ?_
          refine R_iload (gxd kX0_drop 22 rfl) rfl ?_
          refine R_ishl (gxd kX0_drop 23 rfl) ?_
          refine R_iconst (v := (-1 : Int32)) (gxd kX0_drop 24 rfl) rfl ?_
          refine R_ixor (gxd kX0_drop 25 rfl) ?_
          refine R_iand (gxd kX0_drop 26 rfl) ?_
          obtain ⟨b3, H⟩ := ggi H
          have b3 := gin_in b3
          refine R_iast (gxd kX0_drop 27 rfl) (gHall1 ho) b3 ?_
          obtain ⟨h4, e5, H⟩ := glei H
          refine R_heq e5 ?_
          refine R_aload_n (gxd kX0_drop 28 rfl) rfl rfl ?_
          refine R_getr (gxd kX0_drop 29 rfl) gf_H_18 (gHall0 ho) (by decide) rfl ?_
          refine R_aload_n (gxd kX0_drop 30 rfl) rfl rfl ?_
          refine R_geti (gxd kX0_drop 31 rfl) gf_H_32 (gHall0 ho) (by decide) rfl ?_
          refine R_iload_n (gxd kX0_drop 32 rfl) rfl rfl ?_
          refine R_bipush (v := (10 : Int32)) (gxd kX0_drop 33 rfl) rfl ?_
          refine R_imul (gxd kX0_drop 34 rfl) ?_
          refine R_iload (gxd kX0_drop 35 rfl) rfl ?_
          refine R_iadd (gxd kX0_drop 36 rfl) ?_
          obtain ⟨b6, H⟩ := ggi H
          have b6 := gin_in b6
          refine R_iast (gxd kX0_drop 37 rfl) (gHall3 ho) b6 ?_
          obtain ⟨h7, e8, H⟩ := glei H
          refine R_heq e8 ?_
          refine R_aload_n (gxd kX0_drop 38 rfl) rfl rfl ?_
          refine R_getr (gxd kX0_drop 39 rfl) gf_H_21 (gHall0 ho) (by decide) rfl ?_
          refine R_aload_n (gxd kX0_drop 40 rfl) rfl rfl ?_
          refine R_geti (gxd kX0_drop 41 rfl) gf_H_32 (gHall0 ho) (by decide) rfl ?_
          refine R_iload_n (gxd kX0_drop 42 rfl) rfl rfl ?_
          obtain ⟨b9, H⟩ := ggi H
          have b9 := gin_in b9
          refine R_iast (gxd kX0_drop 43 rfl) (gHall4 ho) b9 ?_
          obtain ⟨h10, e11, H⟩ := glei H
          refine R_heq e11 ?_
          refine R_aload_n (gxd kX0_drop 44 rfl) rfl rfl ?_
          refine R_dup (gxd kX0_drop 45 rfl) rfl ?_
          refine R_geti (gxd kX0_drop 46 rfl) gf_H_32 (gHall0 ho) (by decide) rfl ?_
          refine R_iconst (v := (1 : Int32)) (gxd kX0_drop 47 rfl) rfl ?_
          refine R_iadd (gxd kX0_drop 48 rfl) ?_
          refine R_puti (gxd kX0_drop 49 rfl) gf_H_32 gp_0_5 (gHall0 ho) (by decide) rfl ?_
          obtain ⟨h12, e13, H⟩ := glei H
          refine R_heq e13 ?_
          refine R_iinc (v := (v4 + (1 : Int32))) (gxd kX0_drop 50 rfl) rfl rfl rfl (Nat.le_of_ble_eq_true rfl) rfl ?_
          refine R_goto (gxd kX0_drop 51 rfl) (tgt := 3) rfl ?_
          exact R_weak (gle_same (gle_same (gle_same (gle_same (gle_same gle_nil))))) (ih _ _ _  H)
def fH_drop (o : Nat) (v1 : Int32) (v2 : Int32) (v3 : Int32) (h : gH) : Option gH :=
  fH_drop_3 o v1 v2 v3 gfu (0 : Int32) h
theorem fH_drop_ok {o : Nat} {v1 : Int32} {v2 : Int32} {v3 : Int32} (ho : gHall o) {h : gH} {x : gH} (H : fH_drop o v1 v2 v3 h = some x) (d : Nat) : gC yX0_drop cX0_drop 5 none (d + 0) [.ref o, .int v1, .int v2, .int v3] h none x := by
  refine gC_of (by decide +kernel) (Nat.le_of_ble_eq_true rfl) rfl ?_
  unfold fH_drop at H
  refine R_iconst (v := (0 : Int32)) (gxd kX0_drop 0 rfl) rfl ?_
  refine R_istore (gxd kX0_drop 1 rfl) rfl (Nat.le_of_ble_eq_true rfl) rfl ?_
  exact R_weak (gle_same (gle_same (gle_same (gle_same (gle_same gle_nil))))) (fH_drop_3_ok ho  gfu _ _ _  H)
def fH_wake (o : Nat) (v1 : Int32) (h : gH) : Option gH :=
  if (h o 9) = (0 : Int32) then
    some (hu h o 7 ((h o 7) ||| (v1 &&& (h o 6))))
  else
    some (hu h o 7 (0 : Int32))
theorem fH_wake_ok {o : Nat} {v1 : Int32} (ho : gHall o) {h : gH} {x : gH} (H : fH_wake o v1 h = some x) (d : Nat) : gC yX0_wake cX0_wake 2 none (d + 0) [.ref o, .int v1] h none x := by
  refine gC_of (by decide +kernel) (Nat.le_of_ble_eq_true rfl) rfl ?_
  unfold fH_wake at H
  refine R_aload_n (gxd kX0_wake 0 rfl) rfl rfl ?_
  refine R_aload_n (gxd kX0_wake 1 rfl) rfl rfl ?_
  refine R_geti (gxd kX0_wake 2 rfl) gf_H_42 (gHall0 ho) (by decide) rfl ?_
  refine R_if_eq (gxd kX0_wake 3 rfl) (tgt := 12) rfl (fun q => ?_) (fun q => ?_)
  · replace H := gift q H
    refine R_aload_n (gxd kX0_wake 6 rfl) rfl rfl ?_
    refine R_geti (gxd kX0_wake 7 rfl) gf_H_39 (gHall0 ho) (by decide) rfl ?_
    refine R_iload_n (gxd kX0_wake 8 rfl) rfl rfl ?_
    refine R_aload_n (gxd kX0_wake 9 rfl) rfl rfl ?_
    refine R_geti (gxd kX0_wake 10 rfl) gf_H_36 (gHall0 ho) (by decide) rfl ?_
    refine R_iand (gxd kX0_wake 11 rfl) ?_
    refine R_ior (gxd kX0_wake 12 rfl) ?_
    refine R_puti (gxd kX0_wake 13 rfl) gf_H_39 gp_0_7 (gHall0 ho) (by decide) rfl ?_
    cases H
    exact R_vret (gxd kX0_wake 14 rfl) rfl
  · replace H := giff q H
    refine R_iconst (v := (0 : Int32)) (gxd kX0_wake 4 rfl) rfl ?_
    refine R_goto (gxd kX0_wake 5 rfl) (tgt := 23) rfl ?_
    refine R_puti (gxd kX0_wake 13 rfl) gf_H_39 gp_0_7 (gHall0 ho) (by decide) rfl ?_
    cases H
    exact R_vret (gxd kX0_wake 14 rfl) rfl
def fH_narrow (o : Nat) (v1 : Int32) (v2 : Int32) (v3 : Int32) (h : gH) : Option (Int32 × gH) :=
  gg (gin v1 9) <|
  (fH_drop o v1 ((h (o + 1) v1.toNatClampNeg) &&& (v2 ^^^ (-1 : Int32))) v3 h).bind fun h2 =>
  if (h o 5) < (h2 o 5) then
    gg (gin v1 8) <|
    (fH_wake o (h2 5 v1.toNatClampNeg) h2).bind fun h5 =>
    some (((h5 o 5) - (h o 5)), h5)
  else
    some (((h2 o 5) - (h o 5)), h2)
theorem fH_narrow_ok {o : Nat} {v1 : Int32} {v2 : Int32} {v3 : Int32} (ho : gHall o) {h : gH} {x : (Int32 × gH)} (H : fH_narrow o v1 v2 v3 h = some x) (d : Nat) : gC yX0_narrow cX0_narrow 5 (some .int) (d + 1) [.ref o, .int v1, .int v2, .int v3] h (some (.int x.1)) x.2 := by
  refine gC_of (by decide +kernel) (Nat.le_of_ble_eq_true rfl) rfl ?_
  unfold fH_narrow at H
  refine R_aload_n (gxd kX0_narrow 0 rfl) rfl rfl ?_
  refine R_geti (gxd kX0_narrow 1 rfl) gf_H_32 (gHall0 ho) (by decide) rfl ?_
  refine R_istore (gxd kX0_narrow 2 rfl) rfl (Nat.le_of_ble_eq_true rfl) rfl ?_
  refine R_aload_n (gxd kX0_narrow 3 rfl) rfl rfl ?_
  refine R_iload_n (gxd kX0_narrow 4 rfl) rfl rfl ?_
  refine R_aload_n (gxd kX0_narrow 5 rfl) rfl rfl ?_
  refine R_getr (gxd kX0_narrow 6 rfl) gf_H_9 (gHall0 ho) (by decide) rfl ?_
  refine R_iload_n (gxd kX0_narrow 7 rfl) rfl rfl ?_
  obtain ⟨b1, H⟩ := ggi H
  have b1 := gin_in b1
  refine R_iald (gxd kX0_narrow 8 rfl) (gHall1 ho) b1 ?_
  refine R_iload_n (gxd kX0_narrow 9 rfl) rfl rfl ?_
  refine R_iconst (v := (-1 : Int32)) (gxd kX0_narrow 10 rfl) rfl ?_
  refine R_ixor (gxd kX0_narrow 11 rfl) ?_
  refine R_iand (gxd kX0_narrow 12 rfl) ?_
  refine R_iload_n (gxd kX0_narrow 13 rfl) rfl rfl ?_
  obtain ⟨h2, e3, H⟩ := gbi H
  refine R_callVv (gxd kX0_narrow 14 rfl) gm_H_55 wX0_drop (by decide) (gHall0 ho) rfl rfl (Nat.le_of_ble_eq_true rfl) (by omega) (fH_drop_ok ho e3 (d + 0)) ?_
  refine R_aload_n (gxd kX0_narrow 15 rfl) rfl rfl ?_
  refine R_geti (gxd kX0_narrow 16 rfl) gf_H_32 (gHall0 ho) (by decide) rfl ?_
  refine R_iload (gxd kX0_narrow 17 rfl) rfl ?_
  refine R_icmp_le (gxd kX0_narrow 18 rfl) (tgt := 44) rfl (fun q => ?_) (fun q => ?_)
  · replace H := giff q H
    refine R_aload_n (gxd kX0_narrow 26 rfl) rfl rfl ?_
    refine R_geti (gxd kX0_narrow 27 rfl) gf_H_32 (gHall0 ho) (by decide) rfl ?_
    refine R_iload (gxd kX0_narrow 28 rfl) rfl ?_
    refine R_isub (gxd kX0_narrow 29 rfl) ?_
    cases H
    exact R_iret (gxd kX0_narrow 30 rfl) rfl
  · replace H := gift q H
    refine R_aload_n (gxd kX0_narrow 19 rfl) rfl rfl ?_
    refine R_aload_n (gxd kX0_narrow 20 rfl) rfl rfl ?_
    refine R_getr (gxd kX0_narrow 21 rfl) gf_H_24 (gHall0 ho) (by decide) rfl ?_
    refine R_getr (gxd kX0_narrow 22 rfl) gf_H_59 gk_1 (by decide) rfl ?_
    refine R_iload_n (gxd kX0_narrow 23 rfl) rfl rfl ?_
    obtain ⟨b4, H⟩ := ggi H
    have b4 := gin_in b4
    refine R_iald (gxd kX0_narrow 24 rfl) gk_5 b4 ?_
    obtain ⟨h5, e6, H⟩ := gbi H
    refine R_callVv (gxd kX0_narrow 25 rfl) gm_H_64 wX0_wake (by decide) (gHall0 ho) rfl rfl (Nat.le_of_ble_eq_true rfl) (by omega) (fH_wake_ok ho e6 (d + 0)) ?_
    refine R_aload_n (gxd kX0_narrow 26 rfl) rfl rfl ?_
    refine R_geti (gxd kX0_narrow 27 rfl) gf_H_32 (gHall0 ho) (by decide) rfl ?_
    refine R_iload (gxd kX0_narrow 28 rfl) rfl ?_
    refine R_isub (gxd kX0_narrow 29 rfl) ?_
    cases H
    exact R_iret (gxd kX0_narrow 30 rfl) rfl
def fH_orderedNext_67 (o : Nat) (k4 : Int32 → Int32 → gH → Option (Int32 × gH)) (v2 : Int32) (h : gH) : Option (Int32 × gH) :=
  k4 v2 (v2 + (1 : Int32)) h
theorem fH_orderedNext_67_ok {d : Nat} {o : Nat} {k4 : Int32 → Int32 → gH → Option (Int32 × gH)} {v2 : Int32} (ho : gHall o) (hk4 : ∀ (u1 : Int32) (u2 : Int32) (h : gH) (x : (Int32 × gH)), k4 u1 u2 h = some x → gR RX0 cX0_orderedNext 4 (some .int) (d + 0) 4 [.ref o, .int u1, .int u2, .null] [] h (some (.int x.1)) x.2) {h : gH} {x : (Int32 × gH)} (H : fH_orderedNext_67 o k4 v2  h = some x) : gR RX0 cX0_orderedNext 4 (some .int) (d + 0) 67 [.ref o, .null, .int v2, .null] [] h (some (.int x.1)) x.2 := by
  unfold fH_orderedNext_67 at H
  refine R_iload_n (gxd kX0_orderedNext 40 rfl) rfl rfl ?_
  refine R_istore_n (gxd kX0_orderedNext 41 rfl) rfl rfl (Nat.le_of_ble_eq_true rfl) rfl ?_
  refine R_iinc (v := (v2 + (1 : Int32))) (gxd kX0_orderedNext 42 rfl) rfl rfl rfl (Nat.le_of_ble_eq_true rfl) rfl ?_
  refine R_goto (gxd kX0_orderedNext 43 rfl) (tgt := 4) rfl ?_
  exact R_weak (gle_same (gle_same (gle_same (gle_null gle_nil)))) (hk4 _ _ _ _  H)
def fH_orderedNext_36 (o : Nat) (k4 : Int32 → Int32 → gH → Option (Int32 × gH)) (v1 : Int32) (v2 : Int32) (s0 : Int32) (h : gH) : Option (Int32 × gH) :=
  if s0 = (0 : Int32) then
    k4 v1 (v2 + (1 : Int32)) h
  else
    if v1 = (-1 : Int32) then
      fH_orderedNext_67 o k4 v2 h
    else
      gg (gin v2 24) <|
      gg (gin v1 24) <|
      if (h 4 v2.toNatClampNeg) < (h 4 v1.toNatClampNeg) then
        fH_orderedNext_67 o k4 v2 h
      else
        k4 v1 (v2 + (1 : Int32)) h
theorem fH_orderedNext_36_ok {d : Nat} {o : Nat} {k4 : Int32 → Int32 → gH → Option (Int32 × gH)} {v1 : Int32} {v2 : Int32} {s0 : Int32} (ho : gHall o) (hk4 : ∀ (u1 : Int32) (u2 : Int32) (h : gH) (x : (Int32 × gH)), k4 u1 u2 h = some x → gR RX0 cX0_orderedNext 4 (some .int) (d + 0) 4 [.ref o, .int u1, .int u2, .null] [] h (some (.int x.1)) x.2) {h : gH} {x : (Int32 × gH)} (H : fH_orderedNext_36 o k4 v1 v2 s0 h = some x) : gR RX0 cX0_orderedNext 4 (some .int) (d + 0) 36 [.ref o, .int v1, .int v2, .null] [.int s0] h (some (.int x.1)) x.2 := by
  unfold fH_orderedNext_36 at H
  refine R_istore_n (gxd kX0_orderedNext 23 rfl) rfl rfl (Nat.le_of_ble_eq_true rfl) rfl ?_
  refine R_iload_n (gxd kX0_orderedNext 24 rfl) rfl rfl ?_
  refine R_if_eq (gxd kX0_orderedNext 25 rfl) (tgt := 69) rfl (fun q => ?_) (fun q => ?_)
  · replace H := gift q H
    refine R_iinc (v := (v2 + (1 : Int32))) (gxd kX0_orderedNext 42 rfl) rfl rfl rfl (Nat.le_of_ble_eq_true rfl) rfl ?_
    refine R_goto (gxd kX0_orderedNext 43 rfl) (tgt := 4) rfl ?_
    exact R_weak (gle_same (gle_same (gle_same (gle_null gle_nil)))) (hk4 _ _ _ _  H)
  · replace H := giff q H
    refine R_iload_n (gxd kX0_orderedNext 26 rfl) rfl rfl ?_
    refine R_iconst (v := (-1 : Int32)) (gxd kX0_orderedNext 27 rfl) rfl ?_
    refine R_icmp_eq (gxd kX0_orderedNext 28 rfl) (tgt := 67) rfl (fun q => ?_) (fun q => ?_)
    · replace H := gift q H
      exact R_weak (gle_same (gle_null (gle_same (gle_null gle_nil)))) (fH_orderedNext_67_ok ho hk4  H)
    · replace H := giff q H
      refine R_aload_n (gxd kX0_orderedNext 29 rfl) rfl rfl ?_
      refine R_getr (gxd kX0_orderedNext 30 rfl) gf_H_24 (gHall0 ho) (by decide) rfl ?_
      refine R_getr (gxd kX0_orderedNext 31 rfl) gf_H_87 gk_1 (by decide) rfl ?_
      refine R_iload_n (gxd kX0_orderedNext 32 rfl) rfl rfl ?_
      obtain ⟨b1, H⟩ := ggi H
      have b1 := gin_in b1
      refine R_iald (gxd kX0_orderedNext 33 rfl) gk_4 b1 ?_
      refine R_aload_n (gxd kX0_orderedNext 34 rfl) rfl rfl ?_
      refine R_getr (gxd kX0_orderedNext 35 rfl) gf_H_24 (gHall0 ho) (by decide) rfl ?_
      refine R_getr (gxd kX0_orderedNext 36 rfl) gf_H_87 gk_1 (by decide) rfl ?_
      refine R_iload_n (gxd kX0_orderedNext 37 rfl) rfl rfl ?_
      obtain ⟨b2, H⟩ := ggi H
      have b2 := gin_in b2
      refine R_iald (gxd kX0_orderedNext 38 rfl) gk_4 b2 ?_
      refine R_icmp_ge (gxd kX0_orderedNext 39 rfl) (tgt := 69) rfl (fun q => ?_) (fun q => ?_)
      · replace H := giff q H
        refine R_iinc (v := (v2 + (1 : Int32))) (gxd kX0_orderedNext 42 rfl) rfl rfl rfl (Nat.le_of_ble_eq_true rfl) rfl ?_
        refine R_goto (gxd kX0_orderedNext 43 rfl) (tgt := 4) rfl ?_
        exact R_weak (gle_same (gle_same (gle_same (gle_null gle_nil)))) (hk4 _ _ _ _  H)
      · replace H := gift q H
        exact R_weak (gle_same (gle_null (gle_same (gle_null gle_nil)))) (fH_orderedNext_67_ok ho hk4  H)
def fH_orderedNext_4 (o : Nat) : Nat → Int32 → Int32 → gH → Option (Int32 × gH)
  | 0, _, _, _ => none
  | n + 1, v1, v2, h =>
    if v2 < (24 : Int32) then
      if ((h o 7) >>> (v2 &&& 31)) = (0 : Int32) then
        some (v1, h)
      else
        if (((h o 7) >>> (v2 &&& 31)) &&& (1 : Int32)) = (1 : Int32) then
          fH_orderedNext_36 o (fH_orderedNext_4 o n) v1 v2 (1 : Int32) h
        else
          fH_orderedNext_36 o (fH_orderedNext_4 o n) v1 v2 (0 : Int32) h
    else
      some (v1, h)
theorem fH_orderedNext_4_ok {d : Nat} {o : Nat} (ho : gHall o)  : ∀ (n : Nat) (v1 : Int32) (v2 : Int32) (h : gH) (x : (Int32 × gH)), fH_orderedNext_4 o  n v1 v2 h = some x → gR RX0 cX0_orderedNext 4 (some .int) (d + 0) 4 [.ref o, .int v1, .int v2, .null] [] h (some (.int x.1)) x.2 := by
  intro n
  induction n with
  | zero => intro v1 v2 h x  H; exact g0 H
  | succ n ih =>
    intro v1 v2 h x  H
    unfold fH_orderedNext_4 at H
    refine R_iload_n (gxd kX0_orderedNext 4 rfl) rfl rfl ?_
    refine R_bipush (v := (24 : Int32)) (gxd kX0_orderedNext 5 rfl) rfl ?_
    refine R_icmp_ge (gxd kX0_orderedNext 6 rfl) (tgt := 75) rfl (fun q => ?_) (fun q => ?_)
    · replace H := giff q H
      refine R_iload_n (gxd kX0_orderedNext 44 rfl) rfl rfl ?_
      cases H
      exact R_iret (gxd kX0_orderedNext 45 rfl) rfl
    · replace H := gift q H
      refine R_aload_n (gxd kX0_orderedNext 7 rfl) rfl rfl ?_
      refine R_geti (gxd kX0_orderedNext 8 rfl) gf_H_39 (gHall0 ho) (by decide) rfl ?_
      refine R_iload_n (gxd kX0_orderedNext 9 rfl) rfl rfl ?_
      refine R_ishr (gxd kX0_orderedNext 10 rfl) ?_
      refine R_if_eq (gxd kX0_orderedNext 11 rfl) (tgt := 75) rfl (fun q => ?_) (fun q => ?_)
      · replace H := gift q H
        refine R_iload_n (gxd kX0_orderedNext 44 rfl) rfl rfl ?_
        cases H
        exact R_iret (gxd kX0_orderedNext 45 rfl) rfl
      · replace H := giff q H
        refine R_aload_n (gxd kX0_orderedNext 12 rfl) rfl rfl ?_
        refine R_geti (gxd kX0_orderedNext 13 rfl) gf_H_39 (gHall0 ho) (by decide) rfl ?_
        refine R_iload_n (gxd kX0_orderedNext 14 rfl) rfl rfl ?_
        refine R_ishr (gxd kX0_orderedNext 15 rfl) ?_
        refine R_iconst (v := (1 : Int32)) (gxd kX0_orderedNext 16 rfl) rfl ?_
        refine R_iand (gxd kX0_orderedNext 17 rfl) ?_
        refine R_iconst (v := (1 : Int32)) (gxd kX0_orderedNext 18 rfl) rfl ?_
        refine R_icmp_ne (gxd kX0_orderedNext 19 rfl) (tgt := 35) rfl (fun q => ?_) (fun q => ?_)
        · replace H := giff q H
          refine R_iconst (v := (0 : Int32)) (gxd kX0_orderedNext 22 rfl) rfl ?_
          exact R_weak (gle_same (gle_same (gle_same (gle_null gle_nil)))) (fH_orderedNext_36_ok ho ih  H)
        · replace H := gift q H
          refine R_iconst (v := (1 : Int32)) (gxd kX0_orderedNext 20 rfl) rfl ?_
          refine R_goto (gxd kX0_orderedNext 21 rfl) (tgt := 36) rfl ?_
          exact R_weak (gle_same (gle_same (gle_same (gle_null gle_nil)))) (fH_orderedNext_36_ok ho ih  H)
def fH_orderedNext (o : Nat) (h : gH) : Option (Int32 × gH) :=
  fH_orderedNext_4 o gfu (-1 : Int32) (0 : Int32) h
theorem fH_orderedNext_ok {o : Nat} (ho : gHall o) {h : gH} {x : (Int32 × gH)} (H : fH_orderedNext o h = some x) (d : Nat) : gC yX0_orderedNext cX0_orderedNext 4 (some .int) (d + 0) [.ref o] h (some (.int x.1)) x.2 := by
  refine gC_of (by decide +kernel) (Nat.le_of_ble_eq_true rfl) rfl ?_
  unfold fH_orderedNext at H
  refine R_iconst (v := (-1 : Int32)) (gxd kX0_orderedNext 0 rfl) rfl ?_
  refine R_istore_n (gxd kX0_orderedNext 1 rfl) rfl rfl (Nat.le_of_ble_eq_true rfl) rfl ?_
  refine R_iconst (v := (0 : Int32)) (gxd kX0_orderedNext 2 rfl) rfl ?_
  refine R_istore_n (gxd kX0_orderedNext 3 rfl) rfl rfl (Nat.le_of_ble_eq_true rfl) rfl ?_
  exact R_weak (gle_same (gle_same (gle_same (gle_null gle_nil)))) (fH_orderedNext_4_ok ho  gfu _ _ _ _  H)
def fJ_bitCount (v0 : Int32) (h : gH) : Option (Int32 × gH) :=
  some (((((((((v0 - (((v0.toUInt32 >>> ((1 : Int32).toUInt32 &&& Int32.toUInt32 31)).toInt32) &&& (1431655765 : Int32))) &&& (858993459 : Int32)) + ((((v0 - (((v0.toUInt32 >>> ((1 : Int32).toUInt32 &&& Int32.toUInt32 31)).toInt32) &&& (1431655765 : Int32))).toUInt32 >>> ((2 : Int32).toUInt32 &&& Int32.toUInt32 31)).toInt32) &&& (858993459 : Int32))) + (((((v0 - (((v0.toUInt32 >>> ((1 : Int32).toUInt32 &&& Int32.toUInt32 31)).toInt32) &&& (1431655765 : Int32))) &&& (858993459 : Int32)) + ((((v0 - (((v0.toUInt32 >>> ((1 : Int32).toUInt32 &&& Int32.toUInt32 31)).toInt32) &&& (1431655765 : Int32))).toUInt32 >>> ((2 : Int32).toUInt32 &&& Int32.toUInt32 31)).toInt32) &&& (858993459 : Int32))).toUInt32 >>> ((4 : Int32).toUInt32 &&& Int32.toUInt32 31)).toInt32)) &&& (252645135 : Int32)) + (((((((v0 - (((v0.toUInt32 >>> ((1 : Int32).toUInt32 &&& Int32.toUInt32 31)).toInt32) &&& (1431655765 : Int32))) &&& (858993459 : Int32)) + ((((v0 - (((v0.toUInt32 >>> ((1 : Int32).toUInt32 &&& Int32.toUInt32 31)).toInt32) &&& (1431655765 : Int32))).toUInt32 >>> ((2 : Int32).toUInt32 &&& Int32.toUInt32 31)).toInt32) &&& (858993459 : Int32))) + (((((v0 - (((v0.toUInt32 >>> ((1 : Int32).toUInt32 &&& Int32.toUInt32 31)).toInt32) &&& (1431655765 : Int32))) &&& (858993459 : Int32)) + ((((v0 - (((v0.toUInt32 >>> ((1 : Int32).toUInt32 &&& Int32.toUInt32 31)).toInt32) &&& (1431655765 : Int32))).toUInt32 >>> ((2 : Int32).toUInt32 &&& Int32.toUInt32 31)).toInt32) &&& (858993459 : Int32))).toUInt32 >>> ((4 : Int32).toUInt32 &&& Int32.toUInt32 31)).toInt32)) &&& (252645135 : Int32)).toUInt32 >>> ((8 : Int32).toUInt32 &&& Int32.toUInt32 31)).toInt32)) + ((((((((v0 - (((v0.toUInt32 >>> ((1 : Int32).toUInt32 &&& Int32.toUInt32 31)).toInt32) &&& (1431655765 : Int32))) &&& (858993459 : Int32)) + ((((v0 - (((v0.toUInt32 >>> ((1 : Int32).toUInt32 &&& Int32.toUInt32 31)).toInt32) &&& (1431655765 : Int32))).toUInt32 >>> ((2 : Int32).toUInt32 &&& Int32.toUInt32 31)).toInt32) &&& (858993459 : Int32))) + (((((v0 - (((v0.toUInt32 >>> ((1 : Int32).toUInt32 &&& Int32.toUInt32 31)).toInt32) &&& (1431655765 : Int32))) &&& (858993459 : Int32)) + ((((v0 - (((v0.toUInt32 >>> ((1 : Int32).toUInt32 &&& Int32.toUInt32 31)).toInt32) &&& (1431655765 : Int32))).toUInt32 >>> ((2 : Int32).toUInt32 &&& Int32.toUInt32 31)).toInt32) &&& (858993459 : Int32))).toUInt32 >>> ((4 : Int32).toUInt32 &&& Int32.toUInt32 31)).toInt32)) &&& (252645135 : Int32)) + (((((((v0 - (((v0.toUInt32 >>> ((1 : Int32).toUInt32 &&& Int32.toUInt32 31)).toInt32) &&& (1431655765 : Int32))) &&& (858993459 : Int32)) + ((((v0 - (((v0.toUInt32 >>> ((1 : Int32).toUInt32 &&& Int32.toUInt32 31)).toInt32) &&& (1431655765 : Int32))).toUInt32 >>> ((2 : Int32).toUInt32 &&& Int32.toUInt32 31)).toInt32) &&& (858993459 : Int32))) + (((((v0 - (((v0.toUInt32 >>> ((1 : Int32).toUInt32 &&& Int32.toUInt32 31)).toInt32) &&& (1431655765 : Int32))) &&& (858993459 : Int32)) + ((((v0 - (((v0.toUInt32 >>> ((1 : Int32).toUInt32 &&& Int32.toUInt32 31)).toInt32) &&& (1431655765 : Int32))).toUInt32 >>> ((2 : Int32).toUInt32 &&& Int32.toUInt32 31)).toInt32) &&& (858993459 : Int32))).toUInt32 >>> ((4 : Int32).toUInt32 &&& Int32.toUInt32 31)).toInt32)) &&& (252645135 : Int32)).toUInt32 >>> ((8 : Int32).toUInt32 &&& Int32.toUInt32 31)).toInt32)).toUInt32 >>> ((16 : Int32).toUInt32 &&& Int32.toUInt32 31)).toInt32)) &&& (63 : Int32)), h)
theorem fJ_bitCount_ok {v0 : Int32} {h : gH} {x : (Int32 × gH)} (H : fJ_bitCount v0 h = some x) (d : Nat) : gC yJ6_bitCount_0f7a4 cJ6_bitCount_0f7a4 1 (some .int) (d + 0) [.int v0] h (some (.int x.1)) x.2 := by
  refine gC_of (by decide +kernel) (Nat.le_of_ble_eq_true rfl) rfl ?_
  unfold fJ_bitCount at H
  refine R_iload_n (gxd kJ6_bitCount_0f7a4 0 rfl) rfl rfl ?_
  refine R_iload_n (gxd kJ6_bitCount_0f7a4 1 rfl) rfl rfl ?_
  refine R_iconst (v := (1 : Int32)) (gxd kJ6_bitCount_0f7a4 2 rfl) rfl ?_
  refine R_iushr (gxd kJ6_bitCount_0f7a4 3 rfl) ?_
  refine R_ldcw (v := (1431655765 : Int32)) (gxd kJ6_bitCount_0f7a4 4 rfl) gc_J_265 ?_
  refine R_iand (gxd kJ6_bitCount_0f7a4 5 rfl) ?_
  refine R_isub (gxd kJ6_bitCount_0f7a4 6 rfl) ?_
  refine R_istore_n (gxd kJ6_bitCount_0f7a4 7 rfl) rfl rfl (Nat.le_of_ble_eq_true rfl) rfl ?_
  refine R_iload_n (gxd kJ6_bitCount_0f7a4 8 rfl) rfl rfl ?_
  refine R_ldcw (v := (858993459 : Int32)) (gxd kJ6_bitCount_0f7a4 9 rfl) gc_J_266 ?_
  refine R_iand (gxd kJ6_bitCount_0f7a4 10 rfl) ?_
  refine R_iload_n (gxd kJ6_bitCount_0f7a4 11 rfl) rfl rfl ?_
  refine R_iconst (v := (2 : Int32)) (gxd kJ6_bitCount_0f7a4 12 rfl) rfl ?_
  refine R_iushr (gxd kJ6_bitCount_0f7a4 13 rfl) ?_
  refine R_ldcw (v := (858993459 : Int32)) (gxd kJ6_bitCount_0f7a4 14 rfl) gc_J_266 ?_
  refine R_iand (gxd kJ6_bitCount_0f7a4 15 rfl) ?_
  refine R_iadd (gxd kJ6_bitCount_0f7a4 16 rfl) ?_
  refine R_istore_n (gxd kJ6_bitCount_0f7a4 17 rfl) rfl rfl (Nat.le_of_ble_eq_true rfl) rfl ?_
  refine R_iload_n (gxd kJ6_bitCount_0f7a4 18 rfl) rfl rfl ?_
  refine R_iload_n (gxd kJ6_bitCount_0f7a4 19 rfl) rfl rfl ?_
  refine R_iconst (v := (4 : Int32)) (gxd kJ6_bitCount_0f7a4 20 rfl) rfl ?_
  refine R_iushr (gxd kJ6_bitCount_0f7a4 21 rfl) ?_
  refine R_iadd (gxd kJ6_bitCount_0f7a4 22 rfl) ?_
  refine R_ldcw (v := (252645135 : Int32)) (gxd kJ6_bitCount_0f7a4 23 rfl) gc_J_267 ?_
  refine R_iand (gxd kJ6_bitCount_0f7a4 24 rfl) ?_
  refine R_istore_n (gxd kJ6_bitCount_0f7a4 25 rfl) rfl rfl (Nat.le_of_ble_eq_true rfl) rfl ?_
  refine R_iload_n (gxd kJ6_bitCount_0f7a4 26 rfl) rfl rfl ?_
  refine R_iload_n (gxd kJ6_bitCount_0f7a4 27 rfl) rfl rfl ?_
  refine R_bipush (v := (8 : Int32)) (gxd kJ6_bitCount_0f7a4 28 rfl) rfl ?_
  refine R_iushr (gxd kJ6_bitCount_0f7a4 29 rfl) ?_
  refine R_iadd (gxd kJ6_bitCount_0f7a4 30 rfl) ?_
  refine R_istore_n (gxd kJ6_bitCount_0f7a4 31 rfl) rfl rfl (Nat.le_of_ble_eq_true rfl) rfl ?_
  refine R_iload_n (gxd kJ6_bitCount_0f7a4 32 rfl) rfl rfl ?_
  refine R_iload_n (gxd kJ6_bitCount_0f7a4 33 rfl) rfl rfl ?_
  refine R_bipush (v := (16 : Int32)) (gxd kJ6_bitCount_0f7a4 34 rfl) rfl ?_
  refine R_iushr (gxd kJ6_bitCount_0f7a4 35 rfl) ?_
  refine R_iadd (gxd kJ6_bitCount_0f7a4 36 rfl) ?_
  refine R_istore_n (gxd kJ6_bitCount_0f7a4 37 rfl) rfl rfl (Nat.le_of_ble_eq_true rfl) rfl ?_
  refine R_iload_n (gxd kJ6_bitCount_0f7a4 38 rfl) rfl rfl ?_
  refine R_bipush (v := (63 : Int32)) (gxd kJ6_bitCount_0f7a4 39 rfl) rfl ?_
  refine R_iand (gxd kJ6_bitCount_0f7a4 40 rfl) ?_
  cases H
  exact R_iret (gxd kJ6_bitCount_0f7a4 41 rfl) rfl
def fH_shuffledNext_41 (o : Nat) : Nat → Int32 → Int32 → gH → Option (Int32 × gH)
  | 0, _, _, _ => none
  | n + 1, v2, v3, h =>
    if v3 < (24 : Int32) then
      if (v2 - (((h o 7) >>> (v3 &&& 31)) &&& (1 : Int32))) < (0 : Int32) then
        some (v3, h)
      else
        fH_shuffledNext_41 o n (v2 - (((h o 7) >>> (v3 &&& 31)) &&& (1 : Int32))) (v3 + (1 : Int32)) h
    else
      some ((-1 : Int32), h)
theorem fH_shuffledNext_41_ok {d : Nat} {o : Nat} (ho : gHall o)  : ∀ (n : Nat) (v2 : Int32) (v3 : Int32) (h : gH) (x : (Int32 × gH)), fH_shuffledNext_41 o  n v2 v3 h = some x → gR RX0 cX0_shuffledNext 4 (some .int) (d + 1) 41 [.ref o, .null, .int v2, .int v3] [] h (some (.int x.1)) x.2 := by
  intro n
  induction n with
  | zero => intro v2 v3 h x  H; exact g0 H
  | succ n ih =>
    intro v2 v3 h x  H
    unfold fH_shuffledNext_41 at H
    refine R_iload_n (gxd kX0_shuffledNext 25 rfl) rfl rfl ?_
    refine R_bipush (v := (24 : Int32)) (gxd kX0_shuffledNext 26 rfl) rfl ?_
    refine R_icmp_ge (gxd kX0_shuffledNext 27 rfl) (tgt := 70) rfl (fun q => ?_) (fun q => ?_)
    · replace H := giff q H
      refine R_iconst (v := (-1 : Int32)) (gxd kX0_shuffledNext 43 rfl) rfl ?_
      cases H
      exact R_iret (gxd kX0_shuffledNext 44 rfl) rfl
    · replace H := gift q H
      refine R_iload_n (gxd kX0_shuffledNext 28 rfl) rfl rfl ?_
      refine R_aload_n (gxd kX0_shuffledNext 29 rfl) rfl rfl ?_
      refine R_geti (gxd kX0_shuffledNext 30 rfl) gf_H_39 (gHall0 ho) (by decide) rfl ?_
      refine R_iload_n (gxd kX0_shuffledNext 31 rfl) rfl rfl ?_
      refine R_ishr (gxd kX0_shuffledNext 32 rfl) ?_
      refine R_iconst (v := (1 : Int32)) (gxd kX0_shuffledNext 33 rfl) rfl ?_
      refine R_iand (gxd kX0_shuffledNext 34 rfl) ?_
      refine R_isub (gxd kX0_shuffledNext 35 rfl) ?_
      refine R_istore_n (gxd kX0_shuffledNext 36 rfl) rfl rfl (Nat.le_of_ble_eq_true rfl) rfl ?_
      refine R_iload_n (gxd kX0_shuffledNext 37 rfl) rfl rfl ?_
      refine R_if_ge (gxd kX0_shuffledNext 38 rfl) (tgt := 64) rfl (fun q => ?_) (fun q => ?_)
      · replace H := giff q H
        refine R_iinc (v := (v3 + (1 : Int32))) (gxd kX0_shuffledNext 41 rfl) rfl rfl rfl (Nat.le_of_ble_eq_true rfl) rfl ?_
        refine R_goto (gxd kX0_shuffledNext 42 rfl) (tgt := 41) rfl ?_
        exact R_weak (gle_same (gle_null (gle_same (gle_same gle_nil)))) (ih _ _ _ _  H)
      · replace H := gift q H
        refine R_iload_n (gxd kX0_shuffledNext 39 rfl) rfl rfl ?_
        cases H
        exact R_iret (gxd kX0_shuffledNext 40 rfl) rfl
def fH_shuffledNext (o : Nat) (h : gH) : Option (Int32 × gH) :=
  (fJ_bitCount (h o 7) h).bind fun p1 =>
  if p1.1 = (0 : Int32) then
    some ((-1 : Int32), p1.2)
  else
    glet (hu p1.2 o 11 (((p1.2 o 11) * (1103515245 : Int32)) + (12345 : Int32))) fun h3 =>
    if p1.1 = 0 then none else
    fH_shuffledNext_41 o gfu ((((h3 o 11).toUInt32 >>> ((9 : Int32).toUInt32 &&& Int32.toUInt32 31)).toInt32) - (((h3 o 11).toUInt32 >>> ((9 : Int32).toUInt32 &&& Int32.toUInt32 31)).toInt32) / p1.1 * p1.1) (0 : Int32) h3
theorem fH_shuffledNext_ok {o : Nat} (ho : gHall o) {h : gH} {x : (Int32 × gH)} (H : fH_shuffledNext o h = some x) (d : Nat) : gC yX0_shuffledNext cX0_shuffledNext 4 (some .int) (d + 1) [.ref o] h (some (.int x.1)) x.2 := by
  refine gC_of (by decide +kernel) (Nat.le_of_ble_eq_true rfl) rfl ?_
  unfold fH_shuffledNext at H
  refine R_aload_n (gxd kX0_shuffledNext 0 rfl) rfl rfl ?_
  refine R_geti (gxd kX0_shuffledNext 1 rfl) gf_H_39 (gHall0 ho) (by decide) rfl ?_
  obtain ⟨p1, e2, H⟩ := gbi H
  refine R_callSi (gxd kX0_shuffledNext 2 rfl) gm_H_90 wJ6_bitCount_0f7a4 (by decide) rfl (Nat.le_of_ble_eq_true rfl) (by omega) (fJ_bitCount_ok  e2 (d + 0)) ?_
  refine R_istore_n (gxd kX0_shuffledNext 3 rfl) rfl rfl (Nat.le_of_ble_eq_true rfl) rfl ?_
  refine R_iload_n (gxd kX0_shuffledNext 4 rfl) rfl rfl ?_
  refine R_if_ne (gxd kX0_shuffledNext 5 rfl) (tgt := 14) rfl (fun q => ?_) (fun q => ?_)
  · replace H := giff q H
    refine R_aload_n (gxd kX0_shuffledNext 8 rfl) rfl rfl ?_
    refine R_aload_n (gxd kX0_shuffledNext 9 rfl) rfl rfl ?_
    refine R_geti (gxd kX0_shuffledNext 10 rfl) gf_H_96 (gHall0 ho) (by decide) rfl ?_
    refine R_ldc (v := (1103515245 : Int32)) (gxd kX0_shuffledNext 11 rfl) gc_H_99 ?_
    refine R_imul (gxd kX0_shuffledNext 12 rfl) ?_
    refine R_sipush (v := (12345 : Int32)) (gxd kX0_shuffledNext 13 rfl) rfl ?_
    refine R_iadd (gxd kX0_shuffledNext 14 rfl) ?_
    refine R_puti (gxd kX0_shuffledNext 15 rfl) gf_H_96 gp_0_11 (gHall0 ho) (by decide) rfl ?_
    obtain ⟨h3, e4, H⟩ := glei H
    refine R_heq e4 ?_
    refine R_aload_n (gxd kX0_shuffledNext 16 rfl) rfl rfl ?_
    refine R_geti (gxd kX0_shuffledNext 17 rfl) gf_H_96 (gHall0 ho) (by decide) rfl ?_
    refine R_bipush (v := (9 : Int32)) (gxd kX0_shuffledNext 18 rfl) rfl ?_
    refine R_iushr (gxd kX0_shuffledNext 19 rfl) ?_
    refine R_iload_n (gxd kX0_shuffledNext 20 rfl) rfl rfl ?_
    obtain ⟨b5, H⟩ := gnif H
    refine R_irem (gxd kX0_shuffledNext 21 rfl) b5 ?_
    refine R_istore_n (gxd kX0_shuffledNext 22 rfl) rfl rfl (Nat.le_of_ble_eq_true rfl) rfl ?_
    refine R_iconst (v := (0 : Int32)) (gxd kX0_shuffledNext 23 rfl) rfl ?_
    refine R_istore_n (gxd kX0_shuffledNext 24 rfl) rfl rfl (Nat.le_of_ble_eq_true rfl) rfl ?_
    exact R_weak (gle_same (gle_null (gle_same (gle_same gle_nil)))) (fH_shuffledNext_41_ok ho  gfu _ _ _ _  H)
  · replace H := gift q H
    refine R_iconst (v := (-1 : Int32)) (gxd kX0_shuffledNext 6 rfl) rfl ?_
    cases H
    exact R_iret (gxd kX0_shuffledNext 7 rfl) rfl
def fR_sift_123 (o : Nat) (k89 : Int32 → Int32 → Int32 → Int32 → gH → Option gH) (v1 : Int32) (v4 : Int32) (v5 : Int32) (v6 : Int32) (v7 : Int32) (v8 : Int32) (v9 : Int32) (v10 : Int32) (v11 : Int32) (v12 : Int32) (v13 : Int32) (s0 : Int32) (h : gH) : Option gH :=
  if s0 = (0 : Int32) then
    k89 v8 v9 v10 (v13 + (1 : Int32)) h
  else
    k89 (v8 ||| ((1 : Int32) <<< (v11 &&& 31))) (v9 ||| ((1 : Int32) <<< (v13 &&& 31))) (v10 ||| s0) (v13 + (1 : Int32)) h
theorem fR_sift_123_ok {d : Nat} {o : Nat} {k89 : Int32 → Int32 → Int32 → Int32 → gH → Option gH} {v1 : Int32} {v4 : Int32} {v5 : Int32} {v6 : Int32} {v7 : Int32} {v8 : Int32} {v9 : Int32} {v10 : Int32} {v11 : Int32} {v12 : Int32} {v13 : Int32} {s0 : Int32} (ho : gHall o) (hk89 : ∀ (u8 : Int32) (u9 : Int32) (u10 : Int32) (u13 : Int32) (h : gH) (x : gH), k89 u8 u9 u10 u13 h = some x → gR RX3 cX3_sift 15 none (d + 0) 89 [.ref 1, .int v1, .null, .ref (o + 2), .int v4, .int v5, .int v6, .int v7, .int u8, .int u9, .int u10, .int v11, .int v12, .int u13, .null] [] h none x) {h : gH} {x : gH} (H : fR_sift_123 o k89 v1 v4 v5 v6 v7 v8 v9 v10 v11 v12 v13 s0 h = some x) : gR RX3 cX3_sift 15 none (d + 0) 123 [.ref 1, .int v1, .null, .ref (o + 2), .int v4, .int v5, .int v6, .int v7, .int v8, .int v9, .int v10, .int v11, .int v12, .int v13, .null] [.int s0] h none x := by
  unfold fR_sift_123 at H
  refine R_istore (gxd kX3_sift 76 rfl) rfl (Nat.le_of_ble_eq_true rfl) rfl ?_
  refine R_iload (gxd kX3_sift 77 rfl) rfl ?_
  refine R_if_eq (gxd kX3_sift 78 rfl) (tgt := 155) rfl (fun q => ?_) (fun q => ?_)
  · replace H := gift q H
    refine R_iinc (v := (v13 + (1 : Int32))) (gxd kX3_sift 95 rfl) rfl rfl rfl (Nat.le_of_ble_eq_true rfl) rfl ?_
    refine R_goto (gxd kX3_sift 96 rfl) (tgt := 89) rfl ?_
    exact R_weak (gle_same (gle_same (gle_null (gle_same (gle_same (gle_same (gle_same (gle_same (gle_same (gle_same (gle_same (gle_same (gle_same (gle_same (gle_null gle_nil))))))))))))))) (hk89 _ _ _ _ _ _  H)
  · replace H := giff q H
    refine R_iload (gxd kX3_sift 79 rfl) rfl ?_
    refine R_iconst (v := (1 : Int32)) (gxd kX3_sift 80 rfl) rfl ?_
    refine R_iload (gxd kX3_sift 81 rfl) rfl ?_
    refine R_ishl (gxd kX3_sift 82 rfl) ?_
    refine R_ior (gxd kX3_sift 83 rfl) ?_
    refine R_istore (gxd kX3_sift 84 rfl) rfl (Nat.le_of_ble_eq_true rfl) rfl ?_
    refine R_iload (gxd kX3_sift 85 rfl) rfl ?_
    refine R_iconst (v := (1 : Int32)) (gxd kX3_sift 86 rfl) rfl ?_
    refine R_iload (gxd kX3_sift 87 rfl) rfl ?_
    refine R_ishl (gxd kX3_sift 88 rfl) ?_
    refine R_ior (gxd kX3_sift 89 rfl) ?_
    refine R_istore (gxd kX3_sift 90 rfl) rfl (Nat.le_of_ble_eq_true rfl) rfl ?_
    refine R_iload (gxd kX3_sift 91 rfl) rfl ?_
    refine R_iload (gxd kX3_sift 92 rfl) rfl ?_
    refine R_ior (gxd kX3_sift 93 rfl) ?_
    refine R_istore (gxd kX3_sift 94 rfl) rfl (Nat.le_of_ble_eq_true rfl) rfl ?_
    refine R_iinc (v := (v13 + (1 : Int32))) (gxd kX3_sift 95 rfl) rfl rfl rfl (Nat.le_of_ble_eq_true rfl) rfl ?_
    refine R_goto (gxd kX3_sift 96 rfl) (tgt := 89) rfl ?_
    exact R_weak (gle_same (gle_same (gle_null (gle_same (gle_same (gle_same (gle_same (gle_same (gle_same (gle_same (gle_same (gle_same (gle_same (gle_same (gle_null gle_nil))))))))))))))) (hk89 _ _ _ _ _ _  H)
def fR_sift_89 (o : Nat) (k54 : Int32 → Int32 → Int32 → Int32 → gH → Option gH) (v1 : Int32) (v4 : Int32) (v5 : Int32) (v6 : Int32) (v7 : Int32) (v11 : Int32) (v12 : Int32) : Nat → Int32 → Int32 → Int32 → Int32 → gH → Option gH
  | 0, _, _, _, _, _ => none
  | n + 1, v8, v9, v10, v13, h =>
    if v13 < (10 : Int32) then
      if ((v6 >>> (v13 &&& 31)) &&& (1 : Int32)) = (0 : Int32) then
        fR_sift_123 o (fR_sift_89 o k54 v1 v4 v5 v6 v7 v11 v12 n) v1 v4 v5 v6 v7 v8 v9 v10 v11 v12 v13 (0 : Int32) h
      else
        gg (gin (v12 + v13) 1600) <|
        fR_sift_123 o (fR_sift_89 o k54 v1 v4 v5 v6 v7 v11 v12 n) v1 v4 v5 v6 v7 v8 v9 v10 v11 v12 v13 ((h 7 (v12 + v13).toNatClampNeg) &&& v7) h
    else
      k54 v8 v9 v10 (v11 + (1 : Int32)) h
theorem fR_sift_89_ok {d : Nat} {o : Nat} {k54 : Int32 → Int32 → Int32 → Int32 → gH → Option gH} {v1 : Int32} {v4 : Int32} {v5 : Int32} {v6 : Int32} {v7 : Int32} {v11 : Int32} {v12 : Int32} (ho : gHall o) (hk54 : ∀ (u8 : Int32) (u9 : Int32) (u10 : Int32) (u11 : Int32) (h : gH) (x : gH), k54 u8 u9 u10 u11 h = some x → gR RX3 cX3_sift 15 none (d + 0) 54 [.ref 1, .int v1, .null, .ref (o + 2), .int v4, .int v5, .int v6, .int v7, .int u8, .int u9, .int u10, .int u11, .null, .null, .null] [] h none x) : ∀ (n : Nat) (v8 : Int32) (v9 : Int32) (v10 : Int32) (v13 : Int32) (h : gH) (x : gH), fR_sift_89 o k54 v1 v4 v5 v6 v7 v11 v12 n v8 v9 v10 v13 h = some x → gR RX3 cX3_sift 15 none (d + 0) 89 [.ref 1, .int v1, .null, .ref (o + 2), .int v4, .int v5, .int v6, .int v7, .int v8, .int v9, .int v10, .int v11, .int v12, .int v13, .null] [] h none x := by
  intro n
  induction n with
  | zero => intro v8 v9 v10 v13 h x  H; exact g0 H
  | succ n ih =>
    intro v8 v9 v10 v13 h x  H
    unfold fR_sift_89 at H
    refine R_iload (gxd kX3_sift 57 rfl) rfl ?_
    refine R_bipush (v := (10 : Int32)) (gxd kX3_sift 58 rfl) rfl ?_
    refine R_icmp_ge (gxd kX3_sift 59 rfl) (tgt := 161) rfl (fun q => ?_) (fun q => ?_)
    · replace H := giff q H
      refine R_iinc (v := (v11 + (1 : Int32))) (gxd kX3_sift 97 rfl) rfl rfl rfl (Nat.le_of_ble_eq_true rfl) rfl ?_
      refine R_goto (gxd kX3_sift 98 rfl) (tgt := 54) rfl ?_
      exact R_weak (gle_same (gle_same (gle_null (gle_same (gle_same (gle_same (gle_same (gle_same (gle_same (gle_same (gle_same (gle_same (gle_null (gle_null (gle_null gle_nil))))))))))))))) (hk54 _ _ _ _ _ _  H)
    · replace H := gift q H
      refine R_iload (gxd kX3_sift 60 rfl) rfl ?_
      refine R_iload (gxd kX3_sift 61 rfl) rfl ?_
      refine R_ishr (gxd kX3_sift 62 rfl) ?_
      refine R_iconst (v := (1 : Int32)) (gxd kX3_sift 63 rfl) rfl ?_
      refine R_iand (gxd kX3_sift 64 rfl) ?_
      refine R_if_ne (gxd kX3_sift 65 rfl) (tgt := 110) rfl (fun q => ?_) (fun q => ?_)
      · replace H := giff q H
        refine R_aload_n (gxd kX3_sift 68 rfl) rfl rfl ?_
        refine R_getr (gxd kX3_sift 69 rfl) gf_R_27 gk_1 (by decide) rfl ?_
        refine R_iload (gxd kX3_sift 70 rfl) rfl ?_
        refine R_iload (gxd kX3_sift 71 rfl) rfl ?_
        refine R_iadd (gxd kX3_sift 72 rfl) ?_
        obtain ⟨b17, H⟩ := ggi H
        have b17 := gin_in b17
        refine R_iald (gxd kX3_sift 73 rfl) gk_7 b17 ?_
        refine R_iload (gxd kX3_sift 74 rfl) rfl ?_
        refine R_iand (gxd kX3_sift 75 rfl) ?_
        exact R_weak (gle_same (gle_same (gle_null (gle_same (gle_same (gle_same (gle_same (gle_same (gle_same (gle_same (gle_same (gle_same (gle_same (gle_same (gle_null gle_nil))))))))))))))) (fR_sift_123_ok ho ih  H)
      · replace H := gift q H
        refine R_iconst (v := (0 : Int32)) (gxd kX3_sift 66 rfl) rfl ?_
        refine R_goto (gxd kX3_sift 67 rfl) (tgt := 123) rfl ?_
        exact R_weak (gle_same (gle_same (gle_null (gle_same (gle_same (gle_same (gle_same (gle_same (gle_same (gle_same (gle_same (gle_same (gle_same (gle_same (gle_null gle_nil))))))))))))))) (fR_sift_123_ok ho ih  H)
def fR_sift_54 (o : Nat) (v1 : Int32) (v4 : Int32) (v5 : Int32) (v6 : Int32) (v7 : Int32) : Nat → Int32 → Int32 → Int32 → Int32 → gH → Option gH
  | 0, _, _, _, _, _ => none
  | n + 1, v8, v9, v10, v11, h =>
    if v11 < (10 : Int32) then
      if ((v5 >>> (v11 &&& 31)) &&& (1 : Int32)) = (0 : Int32) then
        fR_sift_54 o v1 v4 v5 v6 v7 n v8 v9 v10 (v11 + (1 : Int32)) h
      else
        fR_sift_89 o (fR_sift_54 o v1 v4 v5 v6 v7 n) v1 v4 v5 v6 v7 v11 ((v1 * (100 : Int32)) + (v11 * (10 : Int32))) gfu v8 v9 v10 (0 : Int32) h
    else
      gg (gin v4 48) <|
      gg (gin (h 6 v4.toNatClampNeg) 9) <|
      glet (hu h (o + 2) (h 6 v4.toNatClampNeg).toNatClampNeg v8) fun h9 =>
      gg (gin (v4 + (1 : Int32)) 48) <|
      gg (gin (h9 6 (v4 + (1 : Int32)).toNatClampNeg) 9) <|
      glet (hu h9 (o + 2) (h9 6 (v4 + (1 : Int32)).toNatClampNeg).toNatClampNeg v9) fun h13 =>
      gg (gin (v4 + (2 : Int32)) 48) <|
      gg (gin (h13 6 (v4 + (2 : Int32)).toNatClampNeg) 9) <|
      some (hu h13 (o + 2) (h13 6 (v4 + (2 : Int32)).toNatClampNeg).toNatClampNeg v10)
theorem fR_sift_54_ok {d : Nat} {o : Nat} {v1 : Int32} {v4 : Int32} {v5 : Int32} {v6 : Int32} {v7 : Int32} (ho : gHall o)  : ∀ (n : Nat) (v8 : Int32) (v9 : Int32) (v10 : Int32) (v11 : Int32) (h : gH) (x : gH), fR_sift_54 o v1 v4 v5 v6 v7 n v8 v9 v10 v11 h = some x → gR RX3 cX3_sift 15 none (d + 0) 54 [.ref 1, .int v1, .null, .ref (o + 2), .int v4, .int v5, .int v6, .int v7, .int v8, .int v9, .int v10, .int v11, .null, .null, .null] [] h none x := by
  intro n
  induction n with
  | zero => intro v8 v9 v10 v11 h x  H; exact g0 H
  | succ n ih =>
    intro v8 v9 v10 v11 h x  H
    unfold fR_sift_54 at H
    refine R_iload (gxd kX3_sift 37 rfl) rfl ?_
    refine R_bipush (v := (10 : Int32)) (gxd kX3_sift 38 rfl) rfl ?_
    refine R_icmp_ge (gxd kX3_sift 39 rfl) (tgt := 167) rfl (fun q => ?_) (fun q => ?_)
    · replace H := giff q H
      refine R_aload_n (gxd kX3_sift 99 rfl) rfl rfl ?_
      refine R_aload_n (gxd kX3_sift 100 rfl) rfl rfl ?_
      refine R_getr (gxd kX3_sift 101 rfl) gf_R_24 gk_1 (by decide) rfl ?_
      refine R_iload (gxd kX3_sift 102 rfl) rfl ?_
      obtain ⟨b7, H⟩ := ggi H
      have b7 := gin_in b7
      refine R_iald (gxd kX3_sift 103 rfl) gk_6 b7 ?_
      refine R_iload (gxd kX3_sift 104 rfl) rfl ?_
      obtain ⟨b8, H⟩ := ggi H
      have b8 := gin_in b8
      refine R_iast (gxd kX3_sift 105 rfl) (gHall2 ho) b8 ?_
      obtain ⟨h9, e10, H⟩ := glei H
      refine R_heq e10 ?_
      refine R_aload_n (gxd kX3_sift 106 rfl) rfl rfl ?_
      refine R_aload_n (gxd kX3_sift 107 rfl) rfl rfl ?_
      refine R_getr (gxd kX3_sift 108 rfl) gf_R_24 gk_1 (by decide) rfl ?_
      refine R_iload (gxd kX3_sift 109 rfl) rfl ?_
      refine R_iconst (v := (1 : Int32)) (gxd kX3_sift 110 rfl) rfl ?_
      refine R_iadd (gxd kX3_sift 111 rfl) ?_
      obtain ⟨b11, H⟩ := ggi H
      have b11 := gin_in b11
      refine R_iald (gxd kX3_sift 112 rfl) gk_6 b11 ?_
      refine R_iload (gxd kX3_sift 113 rfl) rfl ?_
      obtain ⟨b12, H⟩ := ggi H
      have b12 := gin_in b12
      refine R_iast (gxd kX3_sift 114 rfl) (gHall2 ho) b12 ?_
      obtain ⟨h13, e14, H⟩ := glei H
      refine R_heq e14 ?_
      refine R_aload_n (gxd kX3_sift 115 rfl) rfl rfl ?_
      refine R_aload_n (gxd kX3_sift 116 rfl) rfl rfl ?_
      refine R_getr (gxd kX3_sift 117 rfl) gf_R_24 gk_1 (by decide) rfl ?_
      refine R_iload (gxd kX3_sift 118 rfl) rfl ?_
      refine R_iconst (v := (2 : Int32)) (gxd kX3_sift 119 rfl) rfl ?_
      refine R_iadd (gxd kX3_sift 120 rfl) ?_
      obtain ⟨b15, H⟩ := ggi H
      have b15 := gin_in b15
      refine R_iald (gxd kX3_sift 121 rfl) gk_6 b15 ?_
      refine R_iload (gxd kX3_sift 122 rfl) rfl ?_
      obtain ⟨b16, H⟩ := ggi H
      have b16 := gin_in b16
      refine R_iast (gxd kX3_sift 123 rfl) (gHall2 ho) b16 ?_
      cases H
      exact R_vret (gxd kX3_sift 124 rfl) rfl
    · replace H := gift q H
      refine R_iload (gxd kX3_sift 40 rfl) rfl ?_
      refine R_iload (gxd kX3_sift 41 rfl) rfl ?_
      refine R_ishr (gxd kX3_sift 42 rfl) ?_
      refine R_iconst (v := (1 : Int32)) (gxd kX3_sift 43 rfl) rfl ?_
      refine R_iand (gxd kX3_sift 44 rfl) ?_
      refine R_if_ne (gxd kX3_sift 45 rfl) (tgt := 74) rfl (fun q => ?_) (fun q => ?_)
      · replace H := giff q H
        refine R_iload_n (gxd kX3_sift 47 rfl) rfl rfl ?_
        refine R_bipush (v := (100 : Int32)) (gxd kX3_sift 48 rfl) rfl ?_
        refine R_imul (gxd kX3_sift 49 rfl) ?_
        refine R_iload (gxd kX3_sift 50 rfl) rfl ?_
        refine R_bipush (v := (10 : Int32)) (gxd kX3_sift 51 rfl) rfl ?_
        refine R_imul (gxd kX3_sift 52 rfl) ?_
        refine R_iadd (gxd kX3_sift 53 rfl) ?_
        refine R_istore (gxd kX3_sift 54 rfl) rfl (Nat.le_of_ble_eq_true rfl) rfl ?_
        refine R_iconst (v := (0 : Int32)) (gxd kX3_sift 55 rfl) rfl ?_
        refine R_istore (gxd kX3_sift 56 rfl) rfl (Nat.le_of_ble_eq_true rfl) rfl ?_
        exact R_weak (gle_same (gle_same (gle_null (gle_same (gle_same (gle_same (gle_same (gle_same (gle_same (gle_same (gle_same (gle_same (gle_same (gle_same (gle_null gle_nil))))))))))))))) (fR_sift_89_ok ho ih  gfu _ _ _ _ _ _  H)
      · replace H := gift q H
        refine R_goto (gxd kX3_sift 46 rfl) (tgt := 161) rfl ?_
        refine R_iinc (v := (v11 + (1 : Int32))) (gxd kX3_sift 97 rfl) rfl rfl rfl (Nat.le_of_ble_eq_true rfl) rfl ?_
        refine R_goto (gxd kX3_sift 98 rfl) (tgt := 54) rfl ?_
        exact R_weak (gle_same (gle_same (gle_null (gle_same (gle_same (gle_same (gle_same (gle_same (gle_same (gle_same (gle_same (gle_same (gle_null (gle_null (gle_null gle_nil))))))))))))))) (ih _ _ _ _ _ _  H)
def fR_sift (o : Nat) (v1 : Int32) (h : gH) : Option gH :=
  gg (gin (v1 * (3 : Int32)) 48) <|
  gg (gin (h 6 (v1 * (3 : Int32)).toNatClampNeg) 9) <|
  gg (gin ((v1 * (3 : Int32)) + (1 : Int32)) 48) <|
  gg (gin (h 6 ((v1 * (3 : Int32)) + (1 : Int32)).toNatClampNeg) 9) <|
  gg (gin ((v1 * (3 : Int32)) + (2 : Int32)) 48) <|
  gg (gin (h 6 ((v1 * (3 : Int32)) + (2 : Int32)).toNatClampNeg) 9) <|
  fR_sift_54 o v1 (v1 * (3 : Int32)) (h (o + 1) (h 6 (v1 * (3 : Int32)).toNatClampNeg).toNatClampNeg) (h (o + 1) (h 6 ((v1 * (3 : Int32)) + (1 : Int32)).toNatClampNeg).toNatClampNeg) (h (o + 1) (h 6 ((v1 * (3 : Int32)) + (2 : Int32)).toNatClampNeg).toNatClampNeg) gfu (0 : Int32) (0 : Int32) (0 : Int32) (0 : Int32) h
theorem fR_sift_ok {o : Nat} {v1 : Int32} (ho : gHall o) {h : gH} {x : gH} (H : fR_sift o v1 h = some x) (d : Nat) : gC yX3_sift cX3_sift 15 none (d + 0) [.ref 1, .int v1, .ref (o + 1), .ref (o + 2)] h none x := by
  refine gC_of (by decide +kernel) (Nat.le_of_ble_eq_true rfl) rfl ?_
  unfold fR_sift at H
  refine R_iload_n (gxd kX3_sift 0 rfl) rfl rfl ?_
  refine R_iconst (v := (3 : Int32)) (gxd kX3_sift 1 rfl) rfl ?_
  refine R_imul (gxd kX3_sift 2 rfl) ?_
  refine R_istore (gxd kX3_sift 3 rfl) rfl (Nat.le_of_ble_eq_true rfl) rfl ?_
  refine R_aload_n (gxd kX3_sift 4 rfl) rfl rfl ?_
  refine R_aload_n (gxd kX3_sift 5 rfl) rfl rfl ?_
  refine R_getr (gxd kX3_sift 6 rfl) gf_R_24 gk_1 (by decide) rfl ?_
  refine R_iload (gxd kX3_sift 7 rfl) rfl ?_
  obtain ⟨b1, H⟩ := ggi H
  have b1 := gin_in b1
  refine R_iald (gxd kX3_sift 8 rfl) gk_6 b1 ?_
  obtain ⟨b2, H⟩ := ggi H
  have b2 := gin_in b2
  refine R_iald (gxd kX3_sift 9 rfl) (gHall1 ho) b2 ?_
  refine R_istore (gxd kX3_sift 10 rfl) rfl (Nat.le_of_ble_eq_true rfl) rfl ?_
  refine R_aload_n (gxd kX3_sift 11 rfl) rfl rfl ?_
  refine R_aload_n (gxd kX3_sift 12 rfl) rfl rfl ?_
  refine R_getr (gxd kX3_sift 13 rfl) gf_R_24 gk_1 (by decide) rfl ?_
  refine R_iload (gxd kX3_sift 14 rfl) rfl ?_
  refine R_iconst (v := (1 : Int32)) (gxd kX3_sift 15 rfl) rfl ?_
  refine R_iadd (gxd kX3_sift 16 rfl) ?_
  obtain ⟨b3, H⟩ := ggi H
  have b3 := gin_in b3
  refine R_iald (gxd kX3_sift 17 rfl) gk_6 b3 ?_
  obtain ⟨b4, H⟩ := ggi H
  have b4 := gin_in b4
  refine R_iald (gxd kX3_sift 18 rfl) (gHall1 ho) b4 ?_
  refine R_istore (gxd kX3_sift 19 rfl) rfl (Nat.le_of_ble_eq_true rfl) rfl ?_
  refine R_aload_n (gxd kX3_sift 20 rfl) rfl rfl ?_
  refine R_aload_n (gxd kX3_sift 21 rfl) rfl rfl ?_
  refine R_getr (gxd kX3_sift 22 rfl) gf_R_24 gk_1 (by decide) rfl ?_
  refine R_iload (gxd kX3_sift 23 rfl) rfl ?_
  refine R_iconst (v := (2 : Int32)) (gxd kX3_sift 24 rfl) rfl ?_
  refine R_iadd (gxd kX3_sift 25 rfl) ?_
  obtain ⟨b5, H⟩ := ggi H
  have b5 := gin_in b5
  refine R_iald (gxd kX3_sift 26 rfl) gk_6 b5 ?_
  obtain ⟨b6, H⟩ := ggi H
  have b6 := gin_in b6
  refine R_iald (gxd kX3_sift 27 rfl) (gHall1 ho) b6 ?_
  refine R_istore (gxd kX3_sift 28 rfl) rfl (Nat.le_of_ble_eq_true rfl) rfl ?_
  refine R_iconst (v := (0 : Int32)) (gxd kX3_sift 29 rfl) rfl ?_
  refine R_istore (gxd kX3_sift 30 rfl) rfl (Nat.le_of_ble_eq_true rfl) rfl ?_
  refine R_iconst (v := (0 : Int32)) (gxd kX3_sift 31 rfl) rfl ?_
  refine R_istore (gxd kX3_sift 32 rfl) rfl (Nat.le_of_ble_eq_true rfl) rfl ?_
  refine R_iconst (v := (0 : Int32)) (gxd kX3_sift 33 rfl) rfl ?_
  refine R_istore (gxd kX3_sift 34 rfl) rfl (Nat.le_of_ble_eq_true rfl) rfl ?_
  refine R_iconst (v := (0 : Int32)) (gxd kX3_sift 35 rfl) rfl ?_
  refine R_istore (gxd kX3_sift 36 rfl) rfl (Nat.le_of_ble_eq_true rfl) rfl ?_
  exact R_weak (gle_same (gle_same (gle_null (gle_same (gle_same (gle_same (gle_same (gle_same (gle_same (gle_same (gle_same (gle_same (gle_null (gle_null (gle_null gle_nil))))))))))))))) (fR_sift_54_ok ho  gfu _ _ _ _ _ _  H)
def fR_siftLearned_138 (o : Nat) (k71 : Int32 → gH → Option gH) (v4 : Int32) (v5 : Int32) (v6 : Int32) (s1 : Int32) (s2 : Int32) (h : gH) : Option gH :=
  gg (gin s1 9) <|
  glet (hu h (o + 2) s1.toNatClampNeg s2) fun h5 =>
  k71 (v6 + (1 : Int32)) h5
theorem fR_siftLearned_138_ok {d : Nat} {o : Nat} {k71 : Int32 → gH → Option gH} {v4 : Int32} {v5 : Int32} {v6 : Int32} {s1 : Int32} {s2 : Int32} (ho : gHall o) (hk71 : ∀ (u6 : Int32) (h : gH) (x : gH), k71 u6 h = some x → gR RX3 cX3_siftLearned 8 none (d + 0) 71 [.ref 1, .null, .ref (o + 1), .ref (o + 2), .int v4, .int v5, .int u6, .null] [] h none x) {h : gH} {x : gH} (H : fR_siftLearned_138 o k71 v4 v5 v6 s1 s2 h = some x) : gR RX3 cX3_siftLearned 8 none (d + 0) 138 [.ref 1, .null, .ref (o + 1), .ref (o + 2), .int v4, .int v5, .int v6, .null] [.int s2, .int s1, .ref (o + 2)] h none x := by
  unfold fR_siftLearned_138 at H
  obtain ⟨b4, H⟩ := ggi H
  have b4 := gin_in b4
  refine R_iast (gxd kX3_siftLearned 79 rfl) (gHall2 ho) b4 ?_
  obtain ⟨h5, e6, H⟩ := glei H
  refine R_heq e6 ?_
  refine R_iinc (v := (v6 + (1 : Int32))) (gxd kX3_siftLearned 80 rfl) rfl rfl rfl (Nat.le_of_ble_eq_true rfl) rfl ?_
  refine R_goto (gxd kX3_siftLearned 81 rfl) (tgt := 71) rfl ?_
  exact R_weak (gle_same (gle_null (gle_same (gle_same (gle_same (gle_same (gle_same (gle_null gle_nil)))))))) (hk71 _ _ _  H)
def fR_siftLearned_104 (o : Nat) (k71 : Int32 → gH → Option gH) (v4 : Int32) (v5 : Int32) (v6 : Int32) (s0 : Int32) (h : gH) : Option gH :=
  if s0 = (0 : Int32) then
    gg (gin v6 9) <|
    gg (gin (v4 + v6) 64) <|
    fR_siftLearned_138 o k71 v4 v5 v6 v6 ((h (o + 1) v6.toNatClampNeg) &&& ((h 8 (v4 + v6).toNatClampNeg) ^^^ (-1 : Int32))) h
  else
    gg (gin v6 9) <|
    fR_siftLearned_138 o k71 v4 v5 v6 v6 (h (o + 1) v6.toNatClampNeg) h
theorem fR_siftLearned_104_ok {d : Nat} {o : Nat} {k71 : Int32 → gH → Option gH} {v4 : Int32} {v5 : Int32} {v6 : Int32} {s0 : Int32} (ho : gHall o) (hk71 : ∀ (u6 : Int32) (h : gH) (x : gH), k71 u6 h = some x → gR RX3 cX3_siftLearned 8 none (d + 0) 71 [.ref 1, .null, .ref (o + 1), .ref (o + 2), .int v4, .int v5, .int u6, .null] [] h none x) {h : gH} {x : gH} (H : fR_siftLearned_104 o k71 v4 v5 v6 s0 h = some x) : gR RX3 cX3_siftLearned 8 none (d + 0) 104 [.ref 1, .null, .ref (o + 1), .ref (o + 2), .int v4, .int v5, .int v6, .null] [.int s0] h none x := by
  unfold fR_siftLearned_104 at H
  refine R_istore (gxd kX3_siftLearned 58 rfl) rfl (Nat.le_of_ble_eq_true rfl) rfl ?_
  refine R_aload_n (gxd kX3_siftLearned 59 rfl) rfl rfl ?_
  refine R_iload (gxd kX3_siftLearned 60 rfl) rfl ?_
  refine R_iload (gxd kX3_siftLearned 61 rfl) rfl ?_
  refine R_if_ne (gxd kX3_siftLearned 62 rfl) (tgt := 134) rfl (fun q => ?_) (fun q => ?_)
  · replace H := giff q H
    refine R_aload_n (gxd kX3_siftLearned 76 rfl) rfl rfl ?_
    refine R_iload (gxd kX3_siftLearned 77 rfl) rfl ?_
    obtain ⟨b3, H⟩ := ggi H
    have b3 := gin_in b3
    refine R_iald (gxd kX3_siftLearned 78 rfl) (gHall1 ho) b3 ?_
    exact R_weak (gle_same (gle_null (gle_same (gle_same (gle_same (gle_same (gle_same (gle_null gle_nil)))))))) (fR_siftLearned_138_ok ho hk71  H)
  · replace H := gift q H
    refine R_aload_n (gxd kX3_siftLearned 63 rfl) rfl rfl ?_
    refine R_iload (gxd kX3_siftLearned 64 rfl) rfl ?_
    obtain ⟨b7, H⟩ := ggi H
    have b7 := gin_in b7
    refine R_iald (gxd kX3_siftLearned 65 rfl) (gHall1 ho) b7 ?_
    refine R_aload_n (gxd kX3_siftLearned 66 rfl) rfl rfl ?_
    refine R_getr (gxd kX3_siftLearned 67 rfl) gf_R_30 gk_1 (by decide) rfl ?_
    refine R_iload (gxd kX3_siftLearned 68 rfl) rfl ?_
    refine R_iload (gxd kX3_siftLearned 69 rfl) rfl ?_
    refine R_iadd (gxd kX3_siftLearned 70 rfl) ?_
    obtain ⟨b8, H⟩ := ggi H
    have b8 := gin_in b8
    refine R_iald (gxd kX3_siftLearned 71 rfl) gk_8 b8 ?_
    refine R_iconst (v := (-1 : Int32)) (gxd kX3_siftLearned 72 rfl) rfl ?_
    refine R_ixor (gxd kX3_siftLearned 73 rfl) ?_
    refine R_iand (gxd kX3_siftLearned 74 rfl) ?_
    refine R_goto (gxd kX3_siftLearned 75 rfl) (tgt := 138) rfl ?_
    exact R_weak (gle_same (gle_null (gle_same (gle_same (gle_same (gle_same (gle_same (gle_null gle_nil)))))))) (fR_siftLearned_138_ok ho hk71  H)
def fR_siftLearned_71 (o : Nat) (v4 : Int32) (v5 : Int32) : Nat → Int32 → gH → Option gH
  | 0, _, _ => none
  | n + 1, v6, h =>
    if v6 < (8 : Int32) then
      gg (gin (v4 + v6) 64) <|
      gg (gin v6 9) <|
      if (h 8 (v4 + v6).toNatClampNeg) = (h (o + 1) v6.toNatClampNeg) then
        fR_siftLearned_104 o (fR_siftLearned_71 o v4 v5 n) v4 v5 v6 v5 h
      else
        fR_siftLearned_104 o (fR_siftLearned_71 o v4 v5 n) v4 v5 v6 (v5 - (1 : Int32)) h
    else
      some h
theorem fR_siftLearned_71_ok {d : Nat} {o : Nat} {v4 : Int32} {v5 : Int32} (ho : gHall o)  : ∀ (n : Nat) (v6 : Int32) (h : gH) (x : gH), fR_siftLearned_71 o v4 v5 n v6 h = some x → gR RX3 cX3_siftLearned 8 none (d + 0) 71 [.ref 1, .null, .ref (o + 1), .ref (o + 2), .int v4, .int v5, .int v6, .null] [] h none x := by
  intro n
  induction n with
  | zero => intro v6 h x  H; exact g0 H
  | succ n ih =>
    intro v6 h x  H
    unfold fR_siftLearned_71 at H
    refine R_iload (gxd kX3_siftLearned 40 rfl) rfl ?_
    refine R_bipush (v := (8 : Int32)) (gxd kX3_siftLearned 41 rfl) rfl ?_
    refine R_icmp_ge (gxd kX3_siftLearned 42 rfl) (tgt := 145) rfl (fun q => ?_) (fun q => ?_)
    · replace H := giff q H
      cases H
      exact R_vret (gxd kX3_siftLearned 82 rfl) rfl
    · replace H := gift q H
      refine R_aload_n (gxd kX3_siftLearned 43 rfl) rfl rfl ?_
      refine R_getr (gxd kX3_siftLearned 44 rfl) gf_R_30 gk_1 (by decide) rfl ?_
      refine R_iload (gxd kX3_siftLearned 45 rfl) rfl ?_
      refine R_iload (gxd kX3_siftLearned 46 rfl) rfl ?_
      refine R_iadd (gxd kX3_siftLearned 47 rfl) ?_
      obtain ⟨b1, H⟩ := ggi H
      have b1 := gin_in b1
      refine R_iald (gxd kX3_siftLearned 48 rfl) gk_8 b1 ?_
      refine R_aload_n (gxd kX3_siftLearned 49 rfl) rfl rfl ?_
      refine R_iload (gxd kX3_siftLearned 50 rfl) rfl ?_
      obtain ⟨b2, H⟩ := ggi H
      have b2 := gin_in b2
      refine R_iald (gxd kX3_siftLearned 51 rfl) (gHall1 ho) b2 ?_
      refine R_icmp_ne (gxd kX3_siftLearned 52 rfl) (tgt := 100) rfl (fun q => ?_) (fun q => ?_)
      · replace H := giff q H
        refine R_iload (gxd kX3_siftLearned 55 rfl) rfl ?_
        refine R_iconst (v := (1 : Int32)) (gxd kX3_siftLearned 56 rfl) rfl ?_
        refine R_isub (gxd kX3_siftLearned 57 rfl) ?_
        exact R_weak (gle_same (gle_null (gle_same (gle_same (gle_same (gle_same (gle_same (gle_null gle_nil)))))))) (fR_siftLearned_104_ok ho ih  H)
      · replace H := gift q H
        refine R_iload (gxd kX3_siftLearned 53 rfl) rfl ?_
        refine R_goto (gxd kX3_siftLearned 54 rfl) (tgt := 104) rfl ?_
        exact R_weak (gle_same (gle_null (gle_same (gle_same (gle_same (gle_same (gle_same (gle_null gle_nil)))))))) (fR_siftLearned_104_ok ho ih  H)
def fR_siftLearned_59 (o : Nat) (k15 : Int32 → Int32 → gH → Option gH) (v4 : Int32) (v6 : Int32) (s0 : Int32) (s1 : Int32) (h : gH) : Option gH :=
  k15 (s0 + s1) (v6 + (1 : Int32)) h
theorem fR_siftLearned_59_ok {d : Nat} {o : Nat} {k15 : Int32 → Int32 → gH → Option gH} {v4 : Int32} {v6 : Int32} {s0 : Int32} {s1 : Int32} (ho : gHall o) (hk15 : ∀ (u5 : Int32) (u6 : Int32) (h : gH) (x : gH), k15 u5 u6 h = some x → gR RX3 cX3_siftLearned 8 none (d + 0) 15 [.ref 1, .null, .ref (o + 1), .ref (o + 2), .int v4, .int u5, .int u6, .null] [] h none x) {h : gH} {x : gH} (H : fR_siftLearned_59 o k15 v4 v6 s0 s1 h = some x) : gR RX3 cX3_siftLearned 8 none (d + 0) 59 [.ref 1, .null, .ref (o + 1), .ref (o + 2), .int v4, .null, .int v6, .null] [.int s1, .int s0] h none x := by
  unfold fR_siftLearned_59 at H
  refine R_iadd (gxd kX3_siftLearned 34 rfl) ?_
  refine R_istore (gxd kX3_siftLearned 35 rfl) rfl (Nat.le_of_ble_eq_true rfl) rfl ?_
  refine R_iinc (v := (v6 + (1 : Int32))) (gxd kX3_siftLearned 36 rfl) rfl rfl rfl (Nat.le_of_ble_eq_true rfl) rfl ?_
  refine R_goto (gxd kX3_siftLearned 37 rfl) (tgt := 15) rfl ?_
  exact R_weak (gle_same (gle_null (gle_same (gle_same (gle_same (gle_same (gle_same (gle_null gle_nil)))))))) (hk15 _ _ _ _  H)
def fR_siftLearned_58 (o : Nat) (k15 : Int32 → Int32 → gH → Option gH) (v4 : Int32) (v6 : Int32) (s0 : Int32) (h : gH) : Option gH :=
  fR_siftLearned_59 o k15 v4 v6 s0 (0 : Int32) h
theorem fR_siftLearned_58_ok {d : Nat} {o : Nat} {k15 : Int32 → Int32 → gH → Option gH} {v4 : Int32} {v6 : Int32} {s0 : Int32} (ho : gHall o) (hk15 : ∀ (u5 : Int32) (u6 : Int32) (h : gH) (x : gH), k15 u5 u6 h = some x → gR RX3 cX3_siftLearned 8 none (d + 0) 15 [.ref 1, .null, .ref (o + 1), .ref (o + 2), .int v4, .int u5, .int u6, .null] [] h none x) {h : gH} {x : gH} (H : fR_siftLearned_58 o k15 v4 v6 s0 h = some x) : gR RX3 cX3_siftLearned 8 none (d + 0) 58 [.ref 1, .null, .ref (o + 1), .ref (o + 2), .int v4, .null, .int v6, .null] [.int s0] h none x := by
  unfold fR_siftLearned_58 at H
  refine R_iconst (v := (0 : Int32)) (gxd kX3_siftLearned 33 rfl) rfl ?_
  exact R_weak (gle_same (gle_null (gle_same (gle_same (gle_same (gle_null (gle_same (gle_null gle_nil)))))))) (fR_siftLearned_59_ok ho hk15  H)
def fR_siftLearned_15 (o : Nat) (v4 : Int32) : Nat → Int32 → Int32 → gH → Option gH
  | 0, _, _, _ => none
  | n + 1, v5, v6, h =>
    if v6 < (8 : Int32) then
      gg (gin (v4 + v6) 64) <|
      if (h 8 (v4 + v6).toNatClampNeg) = (0 : Int32) then
        fR_siftLearned_58 o (fR_siftLearned_15 o v4 n) v4 v6 v5 h
      else
        gg (gin (v4 + v6) 64) <|
        gg (gin v6 9) <|
        if (h 8 (v4 + v6).toNatClampNeg) = (h (o + 1) v6.toNatClampNeg) then
          fR_siftLearned_58 o (fR_siftLearned_15 o v4 n) v4 v6 v5 h
        else
          fR_siftLearned_59 o (fR_siftLearned_15 o v4 n) v4 v6 v5 (1 : Int32) h
    else
      fR_siftLearned_71 o v4 v5 gfu (0 : Int32) h
theorem fR_siftLearned_15_ok {d : Nat} {o : Nat} {v4 : Int32} (ho : gHall o)  : ∀ (n : Nat) (v5 : Int32) (v6 : Int32) (h : gH) (x : gH), fR_siftLearned_15 o v4 n v5 v6 h = some x → gR RX3 cX3_siftLearned 8 none (d + 0) 15 [.ref 1, .null, .ref (o + 1), .ref (o + 2), .int v4, .int v5, .int v6, .null] [] h none x := by
  intro n
  induction n with
  | zero => intro v5 v6 h x  H; exact g0 H
  | succ n ih =>
    intro v5 v6 h x  H
    unfold fR_siftLearned_15 at H
    refine R_iload (gxd kX3_siftLearned 10 rfl) rfl ?_
    refine R_bipush (v := (8 : Int32)) (gxd kX3_siftLearned 11 rfl) rfl ?_
    refine R_icmp_ge (gxd kX3_siftLearned 12 rfl) (tgt := 68) rfl (fun q => ?_) (fun q => ?_)
    · replace H := giff q H
      refine R_iconst (v := (0 : Int32)) (gxd kX3_siftLearned 38 rfl) rfl ?_
      refine R_istore (gxd kX3_siftLearned 39 rfl) rfl (Nat.le_of_ble_eq_true rfl) rfl ?_
      exact R_weak (gle_same (gle_null (gle_same (gle_same (gle_same (gle_same (gle_same (gle_null gle_nil)))))))) (fR_siftLearned_71_ok ho  gfu _ _ _  H)
    · replace H := gift q H
      refine R_iload (gxd kX3_siftLearned 13 rfl) rfl ?_
      refine R_aload_n (gxd kX3_siftLearned 14 rfl) rfl rfl ?_
      refine R_getr (gxd kX3_siftLearned 15 rfl) gf_R_30 gk_1 (by decide) rfl ?_
      refine R_iload (gxd kX3_siftLearned 16 rfl) rfl ?_
      refine R_iload (gxd kX3_siftLearned 17 rfl) rfl ?_
      refine R_iadd (gxd kX3_siftLearned 18 rfl) ?_
      obtain ⟨b9, H⟩ := ggi H
      have b9 := gin_in b9
      refine R_iald (gxd kX3_siftLearned 19 rfl) gk_8 b9 ?_
      refine R_if_eq (gxd kX3_siftLearned 20 rfl) (tgt := 58) rfl (fun q => ?_) (fun q => ?_)
      · replace H := gift q H
        exact R_weak (gle_same (gle_null (gle_same (gle_same (gle_same (gle_null (gle_same (gle_null gle_nil)))))))) (fR_siftLearned_58_ok ho ih  H)
      · replace H := giff q H
        refine R_aload_n (gxd kX3_siftLearned 21 rfl) rfl rfl ?_
        refine R_getr (gxd kX3_siftLearned 22 rfl) gf_R_30 gk_1 (by decide) rfl ?_
        refine R_iload (gxd kX3_siftLearned 23 rfl) rfl ?_
        refine R_iload (gxd kX3_siftLearned 24 rfl) rfl ?_
        refine R_iadd (gxd kX3_siftLearned 25 rfl) ?_
        obtain ⟨b10, H⟩ := ggi H
        have b10 := gin_in b10
        refine R_iald (gxd kX3_siftLearned 26 rfl) gk_8 b10 ?_
        refine R_aload_n (gxd kX3_siftLearned 27 rfl) rfl rfl ?_
        refine R_iload (gxd kX3_siftLearned 28 rfl) rfl ?_
        obtain ⟨b11, H⟩ := ggi H
        have b11 := gin_in b11
        refine R_iald (gxd kX3_siftLearned 29 rfl) (gHall1 ho) b11 ?_
        refine R_icmp_eq (gxd kX3_siftLearned 30 rfl) (tgt := 58) rfl (fun q => ?_) (fun q => ?_)
        · replace H := gift q H
          exact R_weak (gle_same (gle_null (gle_same (gle_same (gle_same (gle_null (gle_same (gle_null gle_nil)))))))) (fR_siftLearned_58_ok ho ih  H)
        · replace H := giff q H
          refine R_iconst (v := (1 : Int32)) (gxd kX3_siftLearned 31 rfl) rfl ?_
          refine R_goto (gxd kX3_siftLearned 32 rfl) (tgt := 59) rfl ?_
          exact R_weak (gle_same (gle_null (gle_same (gle_same (gle_same (gle_null (gle_same (gle_null gle_nil)))))))) (fR_siftLearned_59_ok ho ih  H)
def fR_siftLearned (o : Nat) (v1 : Int32) (h : gH) : Option gH :=
  fR_siftLearned_15 o ((v1 - (16 : Int32)) * (8 : Int32)) gfu (0 : Int32) (0 : Int32) h
theorem fR_siftLearned_ok {o : Nat} {v1 : Int32} (ho : gHall o) {h : gH} {x : gH} (H : fR_siftLearned o v1 h = some x) (d : Nat) : gC yX3_siftLearned cX3_siftLearned 8 none (d + 0) [.ref 1, .int v1, .ref (o + 1), .ref (o + 2)] h none x := by
  refine gC_of (by decide +kernel) (Nat.le_of_ble_eq_true rfl) rfl ?_
  unfold fR_siftLearned at H
  refine R_iload_n (gxd kX3_siftLearned 0 rfl) rfl rfl ?_
  refine R_bipush (v := (16 : Int32)) (gxd kX3_siftLearned 1 rfl) rfl ?_
  refine R_isub (gxd kX3_siftLearned 2 rfl) ?_
  refine R_bipush (v := (8 : Int32)) (gxd kX3_siftLearned 3 rfl) rfl ?_
  refine R_imul (gxd kX3_siftLearned 4 rfl) ?_
  refine R_istore (gxd kX3_siftLearned 5 rfl) rfl (Nat.le_of_ble_eq_true rfl) rfl ?_
  refine R_iconst (v := (0 : Int32)) (gxd kX3_siftLearned 6 rfl) rfl ?_
  refine R_istore (gxd kX3_siftLearned 7 rfl) rfl (Nat.le_of_ble_eq_true rfl) rfl ?_
  refine R_iconst (v := (0 : Int32)) (gxd kX3_siftLearned 8 rfl) rfl ?_
  refine R_istore (gxd kX3_siftLearned 9 rfl) rfl (Nat.le_of_ble_eq_true rfl) rfl ?_
  exact R_weak (gle_same (gle_null (gle_same (gle_same (gle_same (gle_same (gle_same (gle_null gle_nil)))))))) (fR_siftLearned_15_ok ho  gfu _ _ _ _  H)
def fH_runOne_179 (o : Nat) (v1 : Int32) (v2 : Int32) (h : gH) : Option (Int32 × gH) :=
  (fH_wake o (v2 &&& (((1 : Int32) <<< (v1 &&& 31)) ^^^ (-1 : Int32))) h).bind fun h9 =>
  some (v1, h9)
theorem fH_runOne_179_ok {d : Nat} {o : Nat} {v1 : Int32} {v2 : Int32} (ho : gHall o)  {h : gH} {x : (Int32 × gH)} (H : fH_runOne_179 o v1 v2  h = some x) : gR RX0 cX0_runOne 4 (some .int) (d + 2) 179 [.ref o, .int v1, .int v2, .null] [] h (some (.int x.1)) x.2 := by
  unfold fH_runOne_179 at H
  refine R_aload_n (gxd kX0_runOne 105 rfl) rfl rfl ?_
  refine R_iload_n (gxd kX0_runOne 106 rfl) rfl rfl ?_
  refine R_iconst (v := (1 : Int32)) (gxd kX0_runOne 107 rfl) rfl ?_
  refine R_iload_n (gxd kX0_runOne 108 rfl) rfl rfl ?_
  refine R_ishl (gxd kX0_runOne 109 rfl) ?_
  refine R_iconst (v := (-1 : Int32)) (gxd kX0_runOne 110 rfl) rfl ?_
  refine R_ixor (gxd kX0_runOne 111 rfl) ?_
  refine R_iand (gxd kX0_runOne 112 rfl) ?_
  obtain ⟨h9, e10, H⟩ := gbi H
  refine R_callVv (gxd kX0_runOne 113 rfl) gm_H_64 wX0_wake (by decide) (gHall0 ho) rfl rfl (Nat.le_of_ble_eq_true rfl) (by omega) (fH_wake_ok ho e10 (d + 1)) ?_
  refine R_iload_n (gxd kX0_runOne 114 rfl) rfl rfl ?_
  cases H
  exact R_iret (gxd kX0_runOne 115 rfl) rfl
def fH_runOne_95 (o : Nat) (v1 : Int32) : Nat → Int32 → Int32 → gH → Option (Int32 × gH)
  | 0, _, _, _ => none
  | n + 1, v2, v3, h =>
    if v3 < (8 : Int32) then
      if (h o 9) = (0 : Int32) then
        gg (gin v1 24) <|
        if (((h 3 v1.toNatClampNeg) >>> (v3 &&& 31)) &&& (1 : Int32)) = (1 : Int32) then
          gg (gin v3 9) <|
          gg (gin v3 9) <|
          if (h (o + 1) v3.toNatClampNeg) = (h (o + 2) v3.toNatClampNeg) then
            fH_runOne_95 o v1 n v2 (v3 + (1 : Int32)) h
          else
            gg (gin v3 9) <|
            gg (gin v3 9) <|
            (fH_drop o v3 ((h (o + 1) v3.toNatClampNeg) &&& ((h (o + 2) v3.toNatClampNeg) ^^^ (-1 : Int32))) v1 h).bind fun h16 =>
            gg (gin v3 8) <|
            fH_runOne_95 o v1 n (v2 ||| (h16 5 v3.toNatClampNeg)) (v3 + (1 : Int32)) h16
        else
          fH_runOne_95 o v1 n v2 (v3 + (1 : Int32)) h
      else
        fH_runOne_179 o v1 v2 h
    else
      fH_runOne_179 o v1 v2 h
theorem fH_runOne_95_ok {d : Nat} {o : Nat} {v1 : Int32} (ho : gHall o)  : ∀ (n : Nat) (v2 : Int32) (v3 : Int32) (h : gH) (x : (Int32 × gH)), fH_runOne_95 o v1 n v2 v3 h = some x → gR RX0 cX0_runOne 4 (some .int) (d + 2) 95 [.ref o, .int v1, .int v2, .int v3] [] h (some (.int x.1)) x.2 := by
  intro n
  induction n with
  | zero => intro v2 v3 h x  H; exact g0 H
  | succ n ih =>
    intro v2 v3 h x  H
    unfold fH_runOne_95 at H
    refine R_iload_n (gxd kX0_runOne 54 rfl) rfl rfl ?_
    refine R_bipush (v := (8 : Int32)) (gxd kX0_runOne 55 rfl) rfl ?_
    refine R_icmp_ge (gxd kX0_runOne 56 rfl) (tgt := 179) rfl (fun q => ?_) (fun q => ?_)
    · replace H := giff q H
      exact R_weak (gle_same (gle_same (gle_same (gle_null gle_nil)))) (fH_runOne_179_ok ho  H)
    · replace H := gift q H
      refine R_aload_n (gxd kX0_runOne 57 rfl) rfl rfl ?_
      refine R_geti (gxd kX0_runOne 58 rfl) gf_H_42 (gHall0 ho) (by decide) rfl ?_
      refine R_if_ne (gxd kX0_runOne 59 rfl) (tgt := 179) rfl (fun q => ?_) (fun q => ?_)
      · replace H := giff q H
        exact R_weak (gle_same (gle_same (gle_same (gle_null gle_nil)))) (fH_runOne_179_ok ho  H)
      · replace H := gift q H
        refine R_aload_n (gxd kX0_runOne 60 rfl) rfl rfl ?_
        refine R_getr (gxd kX0_runOne 61 rfl) gf_H_24 (gHall0 ho) (by decide) rfl ?_
        refine R_getr (gxd kX0_runOne 62 rfl) gf_H_84 gk_1 (by decide) rfl ?_
        refine R_iload_n (gxd kX0_runOne 63 rfl) rfl rfl ?_
        obtain ⟨b11, H⟩ := ggi H
        have b11 := gin_in b11
        refine R_iald (gxd kX0_runOne 64 rfl) gk_3 b11 ?_
        refine R_iload_n (gxd kX0_runOne 65 rfl) rfl rfl ?_
        refine R_ishr (gxd kX0_runOne 66 rfl) ?_
        refine R_iconst (v := (1 : Int32)) (gxd kX0_runOne 67 rfl) rfl ?_
        refine R_iand (gxd kX0_runOne 68 rfl) ?_
        refine R_iconst (v := (1 : Int32)) (gxd kX0_runOne 69 rfl) rfl ?_
        refine R_icmp_ne (gxd kX0_runOne 70 rfl) (tgt := 173) rfl (fun q => ?_) (fun q => ?_)
        · replace H := giff q H
          refine R_iinc (v := (v3 + (1 : Int32))) (gxd kX0_runOne 103 rfl) rfl rfl rfl (Nat.le_of_ble_eq_true rfl) rfl ?_
          refine R_goto (gxd kX0_runOne 104 rfl) (tgt := 95) rfl ?_
          exact R_weak (gle_same (gle_same (gle_same (gle_same gle_nil)))) (ih _ _ _ _  H)
        · replace H := gift q H
          refine R_aload_n (gxd kX0_runOne 71 rfl) rfl rfl ?_
          refine R_getr (gxd kX0_runOne 72 rfl) gf_H_9 (gHall0 ho) (by decide) rfl ?_
          refine R_iload_n (gxd kX0_runOne 73 rfl) rfl rfl ?_
          obtain ⟨b12, H⟩ := ggi H
          have b12 := gin_in b12
          refine R_iald (gxd kX0_runOne 74 rfl) (gHall1 ho) b12 ?_
          refine R_aload_n (gxd kX0_runOne 75 rfl) rfl rfl ?_
          refine R_getr (gxd kX0_runOne 76 rfl) gf_H_15 (gHall0 ho) (by decide) rfl ?_
          refine R_iload_n (gxd kX0_runOne 77 rfl) rfl rfl ?_
          obtain ⟨b13, H⟩ := ggi H
          have b13 := gin_in b13
          refine R_iald (gxd kX0_runOne 78 rfl) (gHall2 ho) b13 ?_
          refine R_icmp_eq (gxd kX0_runOne 79 rfl) (tgt := 173) rfl (fun q => ?_) (fun q => ?_)
          · replace H := gift q H
            refine R_iinc (v := (v3 + (1 : Int32))) (gxd kX0_runOne 103 rfl) rfl rfl rfl (Nat.le_of_ble_eq_true rfl) rfl ?_
            refine R_goto (gxd kX0_runOne 104 rfl) (tgt := 95) rfl ?_
            exact R_weak (gle_same (gle_same (gle_same (gle_same gle_nil)))) (ih _ _ _ _  H)
          · replace H := giff q H
            refine R_aload_n (gxd kX0_runOne 80 rfl) rfl rfl ?_
            refine R_iload_n (gxd kX0_runOne 81 rfl) rfl rfl ?_
            refine R_aload_n (gxd kX0_runOne 82 rfl) rfl rfl ?_
            refine R_getr (gxd kX0_runOne 83 rfl) gf_H_9 (gHall0 ho) (by decide) rfl ?_
            refine R_iload_n (gxd kX0_runOne 84 rfl) rfl rfl ?_
            obtain ⟨b14, H⟩ := ggi H
            have b14 := gin_in b14
            refine R_iald (gxd kX0_runOne 85 rfl) (gHall1 ho) b14 ?_
            refine R_aload_n (gxd kX0_runOne 86 rfl) rfl rfl ?_
            refine R_getr (gxd kX0_runOne 87 rfl) gf_H_15 (gHall0 ho) (by decide) rfl ?_
            refine R_iload_n (gxd kX0_runOne 88 rfl) rfl rfl ?_
            obtain ⟨b15, H⟩ := ggi H
            have b15 := gin_in b15
            refine R_iald (gxd kX0_runOne 89 rfl) (gHall2 ho) b15 ?_
            refine R_iconst (v := (-1 : Int32)) (gxd kX0_runOne 90 rfl) rfl ?_
            refine R_ixor (gxd kX0_runOne 91 rfl) ?_
            refine R_iand (gxd kX0_runOne 92 rfl) ?_
            refine R_iload_n (gxd kX0_runOne 93 rfl) rfl rfl ?_
            obtain ⟨h16, e17, H⟩ := gbi H
            refine R_callVv (gxd kX0_runOne 94 rfl) gm_H_55 wX0_drop (by decide) (gHall0 ho) rfl rfl (Nat.le_of_ble_eq_true rfl) (by omega) (fH_drop_ok ho e17 (d + 1)) ?_
            refine R_iload_n (gxd kX0_runOne 95 rfl) rfl rfl ?_
            refine R_aload_n (gxd kX0_runOne 96 rfl) rfl rfl ?_
            refine R_getr (gxd kX0_runOne 97 rfl) gf_H_24 (gHall0 ho) (by decide) rfl ?_
            refine R_getr (gxd kX0_runOne 98 rfl) gf_H_59 gk_1 (by decide) rfl ?_
            refine R_iload_n (gxd kX0_runOne 99 rfl) rfl rfl ?_
            obtain ⟨b18, H⟩ := ggi H
            have b18 := gin_in b18
            refine R_iald (gxd kX0_runOne 100 rfl) gk_5 b18 ?_
            refine R_ior (gxd kX0_runOne 101 rfl) ?_
            refine R_istore_n (gxd kX0_runOne 102 rfl) rfl rfl (Nat.le_of_ble_eq_true rfl) rfl ?_
            refine R_iinc (v := (v3 + (1 : Int32))) (gxd kX0_runOne 103 rfl) rfl rfl rfl (Nat.le_of_ble_eq_true rfl) rfl ?_
            refine R_goto (gxd kX0_runOne 104 rfl) (tgt := 95) rfl ?_
            exact R_weak (gle_same (gle_same (gle_same (gle_same gle_nil)))) (ih _ _ _ _  H)
def fH_runOne_91 (o : Nat) (v1 : Int32) (h : gH) : Option (Int32 × gH) :=
  fH_runOne_95 o v1 gfu (0 : Int32) (0 : Int32) h
theorem fH_runOne_91_ok {d : Nat} {o : Nat} {v1 : Int32} (ho : gHall o)  {h : gH} {x : (Int32 × gH)} (H : fH_runOne_91 o v1  h = some x) : gR RX0 cX0_runOne 4 (some .int) (d + 2) 91 [.ref o, .int v1, .null, .null] [] h (some (.int x.1)) x.2 := by
  unfold fH_runOne_91 at H
  refine R_iconst (v := (0 : Int32)) (gxd kX0_runOne 50 rfl) rfl ?_
  refine R_istore_n (gxd kX0_runOne 51 rfl) rfl rfl (Nat.le_of_ble_eq_true rfl) rfl ?_
  refine R_iconst (v := (0 : Int32)) (gxd kX0_runOne 52 rfl) rfl ?_
  refine R_istore_n (gxd kX0_runOne 53 rfl) rfl rfl (Nat.le_of_ble_eq_true rfl) rfl ?_
  exact R_weak (gle_same (gle_same (gle_same (gle_same gle_nil)))) (fH_runOne_95_ok ho  gfu _ _ _ _  H)
def fH_runOne_18 (o : Nat) (s0 : Int32) (h : gH) : Option (Int32 × gH) :=
  if s0 = (-1 : Int32) then
    some ((-1 : Int32), h)
  else
    glet (hu h o 7 ((h o 7) &&& (((1 : Int32) <<< (s0 &&& 31)) ^^^ (-1 : Int32)))) fun h3 =>
    glet (hu h3 o 8 ((h3 o 8) + (1 : Int32))) fun h5 =>
    if s0 < (16 : Int32) then
      (fR_sift o s0 h5).bind fun h19 =>
      fH_runOne_91 o s0 h19
    else
      (fR_siftLearned o s0 h5).bind fun h7 =>
      fH_runOne_91 o s0 h7
theorem fH_runOne_18_ok {d : Nat} {o : Nat} {s0 : Int32} (ho : gHall o)  {h : gH} {x : (Int32 × gH)} (H : fH_runOne_18 o  s0 h = some x) : gR RX0 cX0_runOne 4 (some .int) (d + 2) 18 [.ref o, .null, .null, .null] [.int s0] h (some (.int x.1)) x.2 := by
  unfold fH_runOne_18 at H
  refine R_istore_n (gxd kX0_runOne 8 rfl) rfl rfl (Nat.le_of_ble_eq_true rfl) rfl ?_
  refine R_iload_n (gxd kX0_runOne 9 rfl) rfl rfl ?_
  refine R_iconst (v := (-1 : Int32)) (gxd kX0_runOne 10 rfl) rfl ?_
  refine R_icmp_ne (gxd kX0_runOne 11 rfl) (tgt := 26) rfl (fun q => ?_) (fun q => ?_)
  · replace H := giff q H
    refine R_aload_n (gxd kX0_runOne 14 rfl) rfl rfl ?_
    refine R_dup (gxd kX0_runOne 15 rfl) rfl ?_
    refine R_geti (gxd kX0_runOne 16 rfl) gf_H_39 (gHall0 ho) (by decide) rfl ?_
    refine R_iconst (v := (1 : Int32)) (gxd kX0_runOne 17 rfl) rfl ?_
    refine R_iload_n (gxd kX0_runOne 18 rfl) rfl rfl ?_
    refine R_ishl (gxd kX0_runOne 19 rfl) ?_
    refine R_iconst (v := (-1 : Int32)) (gxd kX0_runOne 20 rfl) rfl ?_
    refine R_ixor (gxd kX0_runOne 21 rfl) ?_
    refine R_iand (gxd kX0_runOne 22 rfl) ?_
    refine R_puti (gxd kX0_runOne 23 rfl) gf_H_39 gp_0_7 (gHall0 ho) (by decide) rfl ?_
    obtain ⟨h3, e4, H⟩ := glei H
    refine R_heq e4 ?_
    refine R_aload_n (gxd kX0_runOne 24 rfl) rfl rfl ?_
    refine R_dup (gxd kX0_runOne 25 rfl) rfl ?_
    refine R_geti (gxd kX0_runOne 26 rfl) gf_H_52 (gHall0 ho) (by decide) rfl ?_
    refine R_iconst (v := (1 : Int32)) (gxd kX0_runOne 27 rfl) rfl ?_
    refine R_iadd (gxd kX0_runOne 28 rfl) ?_
    refine R_puti (gxd kX0_runOne 29 rfl) gf_H_52 gp_0_8 (gHall0 ho) (by decide) rfl ?_
    obtain ⟨h5, e6, H⟩ := glei H
    refine R_heq e6 ?_
    refine R_iload_n (gxd kX0_runOne 30 rfl) rfl rfl ?_
    refine R_bipush (v := (16 : Int32)) (gxd kX0_runOne 31 rfl) rfl ?_
    refine R_icmp_ge (gxd kX0_runOne 32 rfl) (tgt := 75) rfl (fun q => ?_) (fun q => ?_)
    · replace H := giff q H
      refine R_aload_n (gxd kX0_runOne 42 rfl) rfl rfl ?_
      refine R_getr (gxd kX0_runOne 43 rfl) gf_H_24 (gHall0 ho) (by decide) rfl ?_
      refine R_iload_n (gxd kX0_runOne 44 rfl) rfl rfl ?_
      refine R_aload_n (gxd kX0_runOne 45 rfl) rfl rfl ?_
      refine R_getr (gxd kX0_runOne 46 rfl) gf_H_9 (gHall0 ho) (by decide) rfl ?_
      refine R_aload_n (gxd kX0_runOne 47 rfl) rfl rfl ?_
      refine R_getr (gxd kX0_runOne 48 rfl) gf_H_15 (gHall0 ho) (by decide) rfl ?_
      obtain ⟨h7, e8, H⟩ := gbi H
      refine R_callVv (gxd kX0_runOne 49 rfl) gm_H_81 wX3_siftLearned (by decide) gk_1 rfl rfl (Nat.le_of_ble_eq_true rfl) (by omega) (fR_siftLearned_ok ho e8 (d + 1)) ?_
      exact R_weak (gle_same (gle_same (gle_null (gle_null gle_nil)))) (fH_runOne_91_ok ho  H)
    · replace H := gift q H
      refine R_aload_n (gxd kX0_runOne 33 rfl) rfl rfl ?_
      refine R_getr (gxd kX0_runOne 34 rfl) gf_H_24 (gHall0 ho) (by decide) rfl ?_
      refine R_iload_n (gxd kX0_runOne 35 rfl) rfl rfl ?_
      refine R_aload_n (gxd kX0_runOne 36 rfl) rfl rfl ?_
      refine R_getr (gxd kX0_runOne 37 rfl) gf_H_9 (gHall0 ho) (by decide) rfl ?_
      refine R_aload_n (gxd kX0_runOne 38 rfl) rfl rfl ?_
      refine R_getr (gxd kX0_runOne 39 rfl) gf_H_15 (gHall0 ho) (by decide) rfl ?_
      obtain ⟨h19, e20, H⟩ := gbi H
      refine R_callVv (gxd kX0_runOne 40 rfl) gm_H_77 wX3_sift (by decide) gk_1 rfl rfl (Nat.le_of_ble_eq_true rfl) (by omega) (fR_sift_ok ho e20 (d + 1)) ?_
      refine R_goto (gxd kX0_runOne 41 rfl) (tgt := 91) rfl ?_
      exact R_weak (gle_same (gle_same (gle_null (gle_null gle_nil)))) (fH_runOne_91_ok ho  H)
  · replace H := gift q H
    refine R_iconst (v := (-1 : Int32)) (gxd kX0_runOne 12 rfl) rfl ?_
    cases H
    exact R_iret (gxd kX0_runOne 13 rfl) rfl
def fH_runOne (o : Nat) (h : gH) : Option (Int32 × gH) :=
  if (h o 10) = (0 : Int32) then
    (fH_orderedNext o h).bind fun p1 =>
    fH_runOne_18 o p1.1 p1.2
  else
    (fH_shuffledNext o h).bind fun p21 =>
    fH_runOne_18 o p21.1 p21.2
theorem fH_runOne_ok {o : Nat} (ho : gHall o) {h : gH} {x : (Int32 × gH)} (H : fH_runOne o h = some x) (d : Nat) : gC yX0_runOne cX0_runOne 4 (some .int) (d + 2) [.ref o] h (some (.int x.1)) x.2 := by
  refine gC_of (by decide +kernel) (Nat.le_of_ble_eq_true rfl) rfl ?_
  unfold fH_runOne at H
  refine R_aload_n (gxd kX0_runOne 0 rfl) rfl rfl ?_
  refine R_geti (gxd kX0_runOne 1 rfl) gf_H_67 (gHall0 ho) (by decide) rfl ?_
  refine R_if_eq (gxd kX0_runOne 2 rfl) (tgt := 14) rfl (fun q => ?_) (fun q => ?_)
  · replace H := gift q H
    refine R_aload_n (gxd kX0_runOne 6 rfl) rfl rfl ?_
    obtain ⟨p1, e2, H⟩ := gbi H
    refine R_callVi (gxd kX0_runOne 7 rfl) gm_H_74 wX0_orderedNext (by decide) (gHall0 ho) rfl rfl (Nat.le_of_ble_eq_true rfl) (by omega) (fH_orderedNext_ok ho e2 (d + 1)) ?_
    exact R_weak (gle_same (gle_null (gle_null (gle_null gle_nil)))) (fH_runOne_18_ok ho  H)
  · replace H := giff q H
    refine R_aload_n (gxd kX0_runOne 3 rfl) rfl rfl ?_
    obtain ⟨p21, e22, H⟩ := gbi H
    refine R_callVi (gxd kX0_runOne 4 rfl) gm_H_70 wX0_shuffledNext (by decide) (gHall0 ho) rfl rfl (Nat.le_of_ble_eq_true rfl) (by omega) (fH_shuffledNext_ok ho e22 (d + 0)) ?_
    refine R_goto (gxd kX0_runOne 5 rfl) (tgt := 18) rfl ?_
    exact R_weak (gle_same (gle_null (gle_null (gle_null gle_nil)))) (fH_runOne_18_ok ho  H)
def fH_runAll_2 (o : Nat) : Nat → Int32 → gH → Option (Int32 × gH)
  | 0, _, _ => none
  | n + 1, v1, h =>
    if v1 < (1000000 : Int32) then
      if (h o 7) = (0 : Int32) then
        some (v1, h)
      else
        (fH_runOne o h).bind fun p1 =>
        fH_runAll_2 o n (v1 + (1 : Int32)) p1.2
    else
      some (v1, h)
theorem fH_runAll_2_ok {d : Nat} {o : Nat} (ho : gHall o)  : ∀ (n : Nat) (v1 : Int32) (h : gH) (x : (Int32 × gH)), fH_runAll_2 o  n v1 h = some x → gR RX0 cX0_runAll 2 (some .int) (d + 3) 2 [.ref o, .int v1] [] h (some (.int x.1)) x.2 := by
  intro n
  induction n with
  | zero => intro v1 h x  H; exact g0 H
  | succ n ih =>
    intro v1 h x  H
    unfold fH_runAll_2 at H
    refine R_iload_n (gxd kX0_runAll 2 rfl) rfl rfl ?_
    refine R_ldc (v := (1000000 : Int32)) (gxd kX0_runAll 3 rfl) gc_H_100 ?_
    refine R_icmp_ge (gxd kX0_runAll 4 rfl) (tgt := 26) rfl (fun q => ?_) (fun q => ?_)
    · replace H := giff q H
      refine R_iload_n (gxd kX0_runAll 13 rfl) rfl rfl ?_
      cases H
      exact R_iret (gxd kX0_runAll 14 rfl) rfl
    · replace H := gift q H
      refine R_aload_n (gxd kX0_runAll 5 rfl) rfl rfl ?_
      refine R_geti (gxd kX0_runAll 6 rfl) gf_H_39 (gHall0 ho) (by decide) rfl ?_
      refine R_if_eq (gxd kX0_runAll 7 rfl) (tgt := 26) rfl (fun q => ?_) (fun q => ?_)
      · replace H := gift q H
        refine R_iload_n (gxd kX0_runAll 13 rfl) rfl rfl ?_
        cases H
        exact R_iret (gxd kX0_runAll 14 rfl) rfl
      · replace H := giff q H
        refine R_aload_n (gxd kX0_runAll 8 rfl) rfl rfl ?_
        obtain ⟨p1, e2, H⟩ := gbi H
        refine R_callVi (gxd kX0_runAll 9 rfl) gm_H_101 wX0_runOne (by decide) (gHall0 ho) rfl rfl (Nat.le_of_ble_eq_true rfl) (by omega) (fH_runOne_ok ho e2 (d + 0)) ?_
        refine R_pop (gxd kX0_runAll 10 rfl) rfl ?_
        refine R_iinc (v := (v1 + (1 : Int32))) (gxd kX0_runAll 11 rfl) rfl rfl rfl (Nat.le_of_ble_eq_true rfl) rfl ?_
        refine R_goto (gxd kX0_runAll 12 rfl) (tgt := 2) rfl ?_
        exact R_weak (gle_same (gle_same gle_nil)) (ih _ _ _  H)
def fH_runAll (o : Nat) (h : gH) : Option (Int32 × gH) :=
  fH_runAll_2 o gfu (0 : Int32) h
theorem fH_runAll_ok {o : Nat} (ho : gHall o) {h : gH} {x : (Int32 × gH)} (H : fH_runAll o h = some x) (d : Nat) : gC yX0_runAll cX0_runAll 2 (some .int) (d + 3) [.ref o] h (some (.int x.1)) x.2 := by
  refine gC_of (by decide +kernel) (Nat.le_of_ble_eq_true rfl) rfl ?_
  unfold fH_runAll at H
  refine R_iconst (v := (0 : Int32)) (gxd kX0_runAll 0 rfl) rfl ?_
  refine R_istore_n (gxd kX0_runAll 1 rfl) rfl rfl (Nat.le_of_ble_eq_true rfl) rfl ?_
  exact R_weak (gle_same (gle_same gle_nil)) (fH_runAll_2_ok ho  gfu _ _ _  H)
def fH_start_64 (o : Nat) (h : gH) : Option gH :=
  (fH_wake o (h o 6) h).bind fun h3 =>
  some h3
theorem fH_start_64_ok {d : Nat} {o : Nat} (ho : gHall o)  {h : gH} {x : gH} (H : fH_start_64 o   h = some x) : gR RX0 cX0_start 5 none (d + 2) 64 [.ref o, .null, .null, .null, .null] [] h none x := by
  unfold fH_start_64 at H
  refine R_aload_n (gxd kX0_start 35 rfl) rfl rfl ?_
  refine R_aload_n (gxd kX0_start 36 rfl) rfl rfl ?_
  refine R_geti (gxd kX0_start 37 rfl) gf_H_36 (gHall0 ho) (by decide) rfl ?_
  obtain ⟨h3, e4, H⟩ := gbi H
  refine R_callVv (gxd kX0_start 38 rfl) gm_H_64 wX0_wake (by decide) (gHall0 ho) rfl rfl (Nat.le_of_ble_eq_true rfl) (by omega) (fH_wake_ok ho e4 (d + 1)) ?_
  cases H
  exact R_vret (gxd kX0_start 39 rfl) rfl
def fH_start_8 (o : Nat) (v2 : Int32) : Nat → Int32 → gH → Option gH
  | 0, _, _ => none
  | n + 1, v4, h =>
    if v4 < (h 22 5) then
      if (h o 9) = (0 : Int32) then
        if ((v2 >>> (v4 &&& 31)) &&& (1 : Int32)) = (1 : Int32) then
          gg (gin v4 12) <|
          gg (gin v4 12) <|
          (fH_narrow o (h 23 v4.toNatClampNeg) (h 24 v4.toNatClampNeg) ((100 : Int32) + v4) h).bind fun p7 =>
          fH_start_8 o v2 n (v4 + (1 : Int32)) p7.2
        else
          fH_start_8 o v2 n (v4 + (1 : Int32)) h
      else
        fH_start_64 o h
    else
      fH_start_64 o h
theorem fH_start_8_ok {d : Nat} {o : Nat} {v2 : Int32} (ho : gHall o)  : ∀ (n : Nat) (v4 : Int32) (h : gH) (x : gH), fH_start_8 o v2 n v4 h = some x → gR RX0 cX0_start 5 none (d + 2) 8 [.ref o, .ref 22, .int v2, .null, .int v4] [] h none x := by
  intro n
  induction n with
  | zero => intro v4 h x  H; exact g0 H
  | succ n ih =>
    intro v4 h x  H
    unfold fH_start_8 at H
    refine R_iload (gxd kX0_start 5 rfl) rfl ?_
    refine R_aload_n (gxd kX0_start 6 rfl) rfl rfl ?_
    refine R_geti (gxd kX0_start 7 rfl) gf_H_104 gk_22 (by decide) rfl ?_
    refine R_icmp_ge (gxd kX0_start 8 rfl) (tgt := 64) rfl (fun q => ?_) (fun q => ?_)
    · replace H := giff q H
      exact R_weak (gle_same (gle_null (gle_null (gle_null (gle_null gle_nil))))) (fH_start_64_ok ho  H)
    · replace H := gift q H
      refine R_aload_n (gxd kX0_start 9 rfl) rfl rfl ?_
      refine R_geti (gxd kX0_start 10 rfl) gf_H_42 (gHall0 ho) (by decide) rfl ?_
      refine R_if_ne (gxd kX0_start 11 rfl) (tgt := 64) rfl (fun q => ?_) (fun q => ?_)
      · replace H := giff q H
        exact R_weak (gle_same (gle_null (gle_null (gle_null (gle_null gle_nil))))) (fH_start_64_ok ho  H)
      · replace H := gift q H
        refine R_iload_n (gxd kX0_start 12 rfl) rfl rfl ?_
        refine R_iload (gxd kX0_start 13 rfl) rfl ?_
        refine R_ishr (gxd kX0_start 14 rfl) ?_
        refine R_iconst (v := (1 : Int32)) (gxd kX0_start 15 rfl) rfl ?_
        refine R_iand (gxd kX0_start 16 rfl) ?_
        refine R_iconst (v := (1 : Int32)) (gxd kX0_start 17 rfl) rfl ?_
        refine R_icmp_ne (gxd kX0_start 18 rfl) (tgt := 58) rfl (fun q => ?_) (fun q => ?_)
        · replace H := giff q H
          refine R_iinc (v := (v4 + (1 : Int32))) (gxd kX0_start 33 rfl) rfl rfl rfl (Nat.le_of_ble_eq_true rfl) rfl ?_
          refine R_goto (gxd kX0_start 34 rfl) (tgt := 8) rfl ?_
          exact R_weak (gle_same (gle_same (gle_same (gle_null (gle_same gle_nil))))) (ih _ _ _  H)
        · replace H := gift q H
          refine R_aload_n (gxd kX0_start 19 rfl) rfl rfl ?_
          refine R_aload_n (gxd kX0_start 20 rfl) rfl rfl ?_
          refine R_getr (gxd kX0_start 21 rfl) gf_H_109 gk_22 (by decide) rfl ?_
          refine R_iload (gxd kX0_start 22 rfl) rfl ?_
          obtain ⟨b5, H⟩ := ggi H
          have b5 := gin_in b5
          refine R_iald (gxd kX0_start 23 rfl) gk_23 b5 ?_
          refine R_aload_n (gxd kX0_start 24 rfl) rfl rfl ?_
          refine R_getr (gxd kX0_start 25 rfl) gf_H_110 gk_22 (by decide) rfl ?_
          refine R_iload (gxd kX0_start 26 rfl) rfl ?_
          obtain ⟨b6, H⟩ := ggi H
          have b6 := gin_in b6
          refine R_iald (gxd kX0_start 27 rfl) gk_24 b6 ?_
          refine R_bipush (v := (100 : Int32)) (gxd kX0_start 28 rfl) rfl ?_
          refine R_iload (gxd kX0_start 29 rfl) rfl ?_
          refine R_iadd (gxd kX0_start 30 rfl) ?_
          obtain ⟨p7, e8, H⟩ := gbi H
          refine R_callVi (gxd kX0_start 31 rfl) gm_H_113 wX0_narrow (by decide) (gHall0 ho) rfl rfl (Nat.le_of_ble_eq_true rfl) (by omega) (fH_narrow_ok ho e8 (d + 0)) ?_
          refine R_pop (gxd kX0_start 32 rfl) rfl ?_
          refine R_iinc (v := (v4 + (1 : Int32))) (gxd kX0_start 33 rfl) rfl rfl rfl (Nat.le_of_ble_eq_true rfl) rfl ?_
          refine R_goto (gxd kX0_start 34 rfl) (tgt := 8) rfl ?_
          exact R_weak (gle_same (gle_same (gle_same (gle_null (gle_same gle_nil))))) (ih _ _ _  H)
def fH_start (o : Nat) (v2 : Int32) (v3 : Int32) (h : gH) : Option gH :=
  (fH_clear o v3 h).bind fun h1 =>
  fH_start_8 o v2 gfu (0 : Int32) h1
theorem fH_start_ok {o : Nat} {v2 : Int32} {v3 : Int32} (ho : gHall o) {h : gH} {x : gH} (H : fH_start o v2 v3 h = some x) (d : Nat) : gC yX0_start cX0_start 5 none (d + 2) [.ref o, .ref 22, .int v2, .int v3] h none x := by
  refine gC_of (by decide +kernel) (Nat.le_of_ble_eq_true rfl) rfl ?_
  unfold fH_start at H
  refine R_aload_n (gxd kX0_start 0 rfl) rfl rfl ?_
  refine R_iload_n (gxd kX0_start 1 rfl) rfl rfl ?_
  obtain ⟨h1, e2, H⟩ := gbi H
  refine R_callVv (gxd kX0_start 2 rfl) gm_H_28 wX0_clear (by decide) (gHall0 ho) rfl rfl (Nat.le_of_ble_eq_true rfl) (by omega) (fH_clear_ok ho e2 (d + 1)) ?_
  refine R_iconst (v := (0 : Int32)) (gxd kX0_start 3 rfl) rfl ?_
  refine R_istore (gxd kX0_start 4 rfl) rfl (Nat.le_of_ble_eq_true rfl) rfl ?_
  exact R_weak (gle_same (gle_same (gle_same (gle_null (gle_same gle_nil))))) (fH_start_8_ok ho  gfu _ _ _  H)
def fH_takeBack_7 (o : Nat) (v1 : Int32) : Nat → Int32 → gH → Option gH
  | 0, _, _ => none
  | n + 1, v2, h =>
    if v2 < v1 then
      glet (hu h o 5 v1) fun h1 =>
      glet (hu h1 o 7 (0 : Int32)) fun h3 =>
      some (hu h3 o 9 (0 : Int32))
    else
      gg (gin v2 80) <|
      gg (gin ((h (o + 3) v2.toNatClampNeg) / (10 : Int32)) 9) <|
      gg (gin v2 80) <|
      gg (gin ((h (o + 3) v2.toNatClampNeg) / (10 : Int32)) 9) <|
      glet (hu h (o + 1) ((h (o + 3) v2.toNatClampNeg) / (10 : Int32)).toNatClampNeg ((h (o + 1) ((h (o + 3) v2.toNatClampNeg) / (10 : Int32)).toNatClampNeg) ||| ((1 : Int32) <<< (((h (o + 3) v2.toNatClampNeg) - (h (o + 3) v2.toNatClampNeg) / (10 : Int32) * (10 : Int32)) &&& 31)))) fun h9 =>
      fH_takeBack_7 o v1 n (v2 + (-1 : Int32)) h9
theorem fH_takeBack_7_ok {d : Nat} {o : Nat} {v1 : Int32} (ho : gHall o)  : ∀ (n : Nat) (v2 : Int32) (h : gH) (x : gH), fH_takeBack_7 o v1 n v2 h = some x → gR RX0 cX0_takeBack 3 none (d + 0) 7 [.ref o, .int v1, .int v2] [] h none x := by
  intro n
  induction n with
  | zero => intro v2 h x  H; exact g0 H
  | succ n ih =>
    intro v2 h x  H
    unfold fH_takeBack_7 at H
    refine R_iload_n (gxd kX0_takeBack 5 rfl) rfl rfl ?_
    refine R_iload_n (gxd kX0_takeBack 6 rfl) rfl rfl ?_
    refine R_icmp_lt (gxd kX0_takeBack 7 rfl) (tgt := 46) rfl (fun q => ?_) (fun q => ?_)
    · replace H := gift q H
      refine R_aload_n (gxd kX0_takeBack 30 rfl) rfl rfl ?_
      refine R_iload_n (gxd kX0_takeBack 31 rfl) rfl rfl ?_
      refine R_puti (gxd kX0_takeBack 32 rfl) gf_H_32 gp_0_5 (gHall0 ho) (by decide) rfl ?_
      obtain ⟨h1, e2, H⟩ := glei H
      refine R_heq e2 ?_
      refine R_aload_n (gxd kX0_takeBack 33 rfl) rfl rfl ?_
      refine R_iconst (v := (0 : Int32)) (gxd kX0_takeBack 34 rfl) rfl ?_
      refine R_puti (gxd kX0_takeBack 35 rfl) gf_H_39 gp_0_7 (gHall0 ho) (by decide) rfl ?_
      obtain ⟨h3, e4, H⟩ := glei H
      refine R_heq e4 ?_
      refine R_aload_n (gxd kX0_takeBack 36 rfl) rfl rfl ?_
      refine R_iconst (v := (0 : Int32)) (gxd kX0_takeBack 37 rfl) rfl ?_
      refine R_putz (gxd kX0_takeBack 38 rfl) gf_H_42 gp_0_9 (Or.inl rfl) (gHall0 ho) (by decide) rfl ?_
      cases H
      exact R_vret (gxd kX0_takeBack 39 rfl) rfl
    · replace H := giff q H
      refine R_aload_n (gxd kX0_takeBack 8 rfl) rfl rfl ?_
      refine R_getr (gxd kX0_takeBack 9 rfl) gf_H_9 (gHall0 ho) (by decide) rfl ?_
      refine R_aload_n (gxd kX0_takeBack 10 rfl) rfl rfl ?_
      refine R_getr (gxd kX0_takeBack 11 rfl) gf_H_18 (gHall0 ho) (by decide) rfl ?_
      refine R_iload_n (gxd kX0_takeBack 12 rfl) rfl rfl ?_
      obtain ⟨b5, H⟩ := ggi H
      have b5 := gin_in b5
      refine R_iald (gxd kX0_takeBack 13 rfl) (gHall3 ho) b5 ?_
      refine R_bipush (v := (10 : Int32)) (gxd kX0_takeBack 14 rfl) rfl ?_
      refine R_idiv (gxd kX0_takeBack 15 rfl) (by decide) ?_
      refine R_dup2 (gxd kX0_takeBack 16 rfl) rfl rfl ?_
      obtain ⟨b6, H⟩ := ggi H
      have b6 := gin_in b6
      refine R_iald (gxd kX0_takeBack 17 rfl) (gHall1 ho) b6 ?_
      refine R_iconst (v := (1 : Int32)) (gxd kX0_takeBack 18 rfl) rfl ?_
      refine R_aload_n (gxd kX0_takeBack 19 rfl) rfl rfl ?_
      refine R_getr (gxd kX0_takeBack 20 rfl) gf_H_18 (gHall0 ho) (by decide) rfl ?_
      refine R_iload_n (gxd kX0_takeBack 21 rfl) rfl rfl ?_
      obtain ⟨b7, H⟩ := ggi H
      have b7 := gin_in b7
      refine R_iald (gxd kX0_takeBack 22 rfl) (gHall3 ho) b7 ?_
      refine R_bipush (v := (10 : Int32)) (gxd kX0_takeBack 23 rfl) rfl ?_
      refine R_irem (gxd kX0_takeBack 24 rfl) (by decide) ?_
      refine R_ishl (gxd kX0_takeBack 25 rfl) ?_
      refine R_ior (gxd kX0_takeBack 26 rfl) ?_
      obtain ⟨b8, H⟩ := ggi H
      have b8 := gin_in b8
      refine R_iast (gxd kX0_takeBack 27 rfl) (gHall1 ho) b8 ?_
      obtain ⟨h9, e10, H⟩ := glei H
      refine R_heq e10 ?_
      refine R_iinc (v := (v2 + (-1 : Int32))) (gxd kX0_takeBack 28 rfl) rfl rfl rfl (Nat.le_of_ble_eq_true rfl) rfl ?_
      refine R_goto (gxd kX0_takeBack 29 rfl) (tgt := 7) rfl ?_
      exact R_weak (gle_same (gle_same (gle_same gle_nil))) (ih _ _ _  H)
def fH_takeBack (o : Nat) (v1 : Int32) (h : gH) : Option gH :=
  fH_takeBack_7 o v1 gfu ((h o 5) - (1 : Int32)) h
theorem fH_takeBack_ok {o : Nat} {v1 : Int32} (ho : gHall o) {h : gH} {x : gH} (H : fH_takeBack o v1 h = some x) (d : Nat) : gC yX0_takeBack cX0_takeBack 3 none (d + 0) [.ref o, .int v1] h none x := by
  refine gC_of (by decide +kernel) (Nat.le_of_ble_eq_true rfl) rfl ?_
  unfold fH_takeBack at H
  refine R_aload_n (gxd kX0_takeBack 0 rfl) rfl rfl ?_
  refine R_geti (gxd kX0_takeBack 1 rfl) gf_H_32 (gHall0 ho) (by decide) rfl ?_
  refine R_iconst (v := (1 : Int32)) (gxd kX0_takeBack 2 rfl) rfl ?_
  refine R_isub (gxd kX0_takeBack 3 rfl) ?_
  refine R_istore_n (gxd kX0_takeBack 4 rfl) rfl rfl (Nat.le_of_ble_eq_true rfl) rfl ?_
  exact R_weak (gle_same (gle_same (gle_same gle_nil))) (fH_takeBack_7_ok ho  gfu _ _ _  H)
def fH_isSettled (o : Nat) (v1 : Int32) (h : gH) : Option (Int32 × gH) :=
  gg (gin v1 9) <|
  (fJ_bitCount (h (o + 1) v1.toNatClampNeg) h).bind fun p2 =>
  if p2.1 = (1 : Int32) then
    some ((1 : Int32), p2.2)
  else
    some ((0 : Int32), p2.2)
theorem fH_isSettled_ok {o : Nat} {v1 : Int32} (ho : gHall o) {h : gH} {x : (Int32 × gH)} (H : fH_isSettled o v1 h = some x) (d : Nat) : gC yX0_isSettled cX0_isSettled 2 (some .boolean) (d + 1) [.ref o, .int v1] h (some (.int x.1)) x.2 := by
  refine gC_of (by decide +kernel) (Nat.le_of_ble_eq_true rfl) rfl ?_
  unfold fH_isSettled at H
  refine R_aload_n (gxd kX0_isSettled 0 rfl) rfl rfl ?_
  refine R_getr (gxd kX0_isSettled 1 rfl) gf_H_9 (gHall0 ho) (by decide) rfl ?_
  refine R_iload_n (gxd kX0_isSettled 2 rfl) rfl rfl ?_
  obtain ⟨b1, H⟩ := ggi H
  have b1 := gin_in b1
  refine R_iald (gxd kX0_isSettled 3 rfl) (gHall1 ho) b1 ?_
  obtain ⟨p2, e3, H⟩ := gbi H
  refine R_callSi (gxd kX0_isSettled 4 rfl) gm_H_90 wJ6_bitCount_0f7a4 (by decide) rfl (Nat.le_of_ble_eq_true rfl) (by omega) (fJ_bitCount_ok  e3 (d + 0)) ?_
  refine R_iconst (v := (1 : Int32)) (gxd kX0_isSettled 5 rfl) rfl ?_
  refine R_icmp_ne (gxd kX0_isSettled 6 rfl) (tgt := 17) rfl (fun q => ?_) (fun q => ?_)
  · replace H := giff q H
    refine R_iconst (v := (0 : Int32)) (gxd kX0_isSettled 9 rfl) rfl ?_
    cases H
    exact R_zret (gxd kX0_isSettled 10 rfl) rfl (Or.inl rfl)
  · replace H := gift q H
    refine R_iconst (v := (1 : Int32)) (gxd kX0_isSettled 7 rfl) rfl ?_
    refine R_goto (gxd kX0_isSettled 8 rfl) (tgt := 18) rfl ?_
    cases H
    exact R_zret (gxd kX0_isSettled 10 rfl) rfl (Or.inr rfl)
def fH_howManySettled_24 (o : Nat) (k4 : Int32 → Int32 → gH → Option (Int32 × gH)) (v2 : Int32) (s0 : Int32) (s1 : Int32) (h : gH) : Option (Int32 × gH) :=
  k4 (s0 + s1) (v2 + (1 : Int32)) h
theorem fH_howManySettled_24_ok {d : Nat} {o : Nat} {k4 : Int32 → Int32 → gH → Option (Int32 × gH)} {v2 : Int32} {s0 : Int32} {s1 : Int32} (ho : gHall o) (hk4 : ∀ (u1 : Int32) (u2 : Int32) (h : gH) (x : (Int32 × gH)), k4 u1 u2 h = some x → gR RX0 cX0_howManySettled 3 (some .int) (d + 2) 4 [.ref o, .int u1, .int u2] [] h (some (.int x.1)) x.2) {h : gH} {x : (Int32 × gH)} (H : fH_howManySettled_24 o k4 v2 s0 s1 h = some x) : gR RX0 cX0_howManySettled 3 (some .int) (d + 2) 24 [.ref o, .null, .int v2] [.int s1, .int s0] h (some (.int x.1)) x.2 := by
  unfold fH_howManySettled_24 at H
  refine R_iadd (gxd kX0_howManySettled 15 rfl) ?_
  refine R_istore_n (gxd kX0_howManySettled 16 rfl) rfl rfl (Nat.le_of_ble_eq_true rfl) rfl ?_
  refine R_iinc (v := (v2 + (1 : Int32))) (gxd kX0_howManySettled 17 rfl) rfl rfl rfl (Nat.le_of_ble_eq_true rfl) rfl ?_
  refine R_goto (gxd kX0_howManySettled 18 rfl) (tgt := 4) rfl ?_
  exact R_weak (gle_same (gle_same (gle_same gle_nil))) (hk4 _ _ _ _  H)
def fH_howManySettled_4 (o : Nat) : Nat → Int32 → Int32 → gH → Option (Int32 × gH)
  | 0, _, _, _ => none
  | n + 1, v1, v2, h =>
    if v2 < (8 : Int32) then
      (fH_isSettled o v2 h).bind fun p1 =>
      if p1.1 = (0 : Int32) then
        fH_howManySettled_24 o (fH_howManySettled_4 o n) v2 v1 (0 : Int32) p1.2
      else
        fH_howManySettled_24 o (fH_howManySettled_4 o n) v2 v1 (1 : Int32) p1.2
    else
      some (v1, h)
theorem fH_howManySettled_4_ok {d : Nat} {o : Nat} (ho : gHall o)  : ∀ (n : Nat) (v1 : Int32) (v2 : Int32) (h : gH) (x : (Int32 × gH)), fH_howManySettled_4 o  n v1 v2 h = some x → gR RX0 cX0_howManySettled 3 (some .int) (d + 2) 4 [.ref o, .int v1, .int v2] [] h (some (.int x.1)) x.2 := by
  intro n
  induction n with
  | zero => intro v1 v2 h x  H; exact g0 H
  | succ n ih =>
    intro v1 v2 h x  H
    unfold fH_howManySettled_4 at H
    refine R_iload_n (gxd kX0_howManySettled 4 rfl) rfl rfl ?_
    refine R_bipush (v := (8 : Int32)) (gxd kX0_howManySettled 5 rfl) rfl ?_
    refine R_icmp_ge (gxd kX0_howManySettled 6 rfl) (tgt := 32) rfl (fun q => ?_) (fun q => ?_)
    · replace H := giff q H
      refine R_iload_n (gxd kX0_howManySettled 19 rfl) rfl rfl ?_
      cases H
      exact R_iret (gxd kX0_howManySettled 20 rfl) rfl
    · replace H := gift q H
      refine R_iload_n (gxd kX0_howManySettled 7 rfl) rfl rfl ?_
      refine R_aload_n (gxd kX0_howManySettled 8 rfl) rfl rfl ?_
      refine R_iload_n (gxd kX0_howManySettled 9 rfl) rfl rfl ?_
      obtain ⟨p1, e2, H⟩ := gbi H
      refine R_callVi (gxd kX0_howManySettled 10 rfl) gm_H_117 wX0_isSettled (by decide) (gHall0 ho) rfl rfl (Nat.le_of_ble_eq_true rfl) (by omega) (fH_isSettled_ok ho e2 (d + 0)) ?_
      refine R_if_eq (gxd kX0_howManySettled 11 rfl) (tgt := 23) rfl (fun q => ?_) (fun q => ?_)
      · replace H := gift q H
        refine R_iconst (v := (0 : Int32)) (gxd kX0_howManySettled 14 rfl) rfl ?_
        exact R_weak (gle_same (gle_null (gle_same gle_nil))) (fH_howManySettled_24_ok ho ih  H)
      · replace H := giff q H
        refine R_iconst (v := (1 : Int32)) (gxd kX0_howManySettled 12 rfl) rfl ?_
        refine R_goto (gxd kX0_howManySettled 13 rfl) (tgt := 24) rfl ?_
        exact R_weak (gle_same (gle_null (gle_same gle_nil))) (fH_howManySettled_24_ok ho ih  H)
def fH_howManySettled (o : Nat) (h : gH) : Option (Int32 × gH) :=
  fH_howManySettled_4 o gfu (0 : Int32) (0 : Int32) h
theorem fH_howManySettled_ok {o : Nat} (ho : gHall o) {h : gH} {x : (Int32 × gH)} (H : fH_howManySettled o h = some x) (d : Nat) : gC yX0_howManySettled cX0_howManySettled 3 (some .int) (d + 2) [.ref o] h (some (.int x.1)) x.2 := by
  refine gC_of (by decide +kernel) (Nat.le_of_ble_eq_true rfl) rfl ?_
  unfold fH_howManySettled at H
  refine R_iconst (v := (0 : Int32)) (gxd kX0_howManySettled 0 rfl) rfl ?_
  refine R_istore_n (gxd kX0_howManySettled 1 rfl) rfl rfl (Nat.le_of_ble_eq_true rfl) rfl ?_
  refine R_iconst (v := (0 : Int32)) (gxd kX0_howManySettled 2 rfl) rfl ?_
  refine R_istore_n (gxd kX0_howManySettled 3 rfl) rfl rfl (Nat.le_of_ble_eq_true rfl) rfl ?_
  exact R_weak (gle_same (gle_same (gle_same gle_nil))) (fH_howManySettled_4_ok ho  gfu _ _ _ _  H)
def fH_placeOf_2 (o : Nat) (v1 : Int32) : Nat → Int32 → gH → Option (Int32 × gH)
  | 0, _, _ => none
  | n + 1, v2, h =>
    if v2 < (h o 5) then
      gg (gin v2 80) <|
      if (h (o + 3) v2.toNatClampNeg) = v1 then
        some (v2, h)
      else
        fH_placeOf_2 o v1 n (v2 + (1 : Int32)) h
    else
      some ((-1 : Int32), h)
theorem fH_placeOf_2_ok {d : Nat} {o : Nat} {v1 : Int32} (ho : gHall o)  : ∀ (n : Nat) (v2 : Int32) (h : gH) (x : (Int32 × gH)), fH_placeOf_2 o v1 n v2 h = some x → gR RX0 cX0_placeOf 3 (some .int) (d + 0) 2 [.ref o, .int v1, .int v2] [] h (some (.int x.1)) x.2 := by
  intro n
  induction n with
  | zero => intro v2 h x  H; exact g0 H
  | succ n ih =>
    intro v2 h x  H
    unfold fH_placeOf_2 at H
    refine R_iload_n (gxd kX0_placeOf 2 rfl) rfl rfl ?_
    refine R_aload_n (gxd kX0_placeOf 3 rfl) rfl rfl ?_
    refine R_geti (gxd kX0_placeOf 4 rfl) gf_H_32 (gHall0 ho) (by decide) rfl ?_
    refine R_icmp_ge (gxd kX0_placeOf 5 rfl) (tgt := 28) rfl (fun q => ?_) (fun q => ?_)
    · replace H := giff q H
      refine R_iconst (v := (-1 : Int32)) (gxd kX0_placeOf 16 rfl) rfl ?_
      cases H
      exact R_iret (gxd kX0_placeOf 17 rfl) rfl
    · replace H := gift q H
      refine R_aload_n (gxd kX0_placeOf 6 rfl) rfl rfl ?_
      refine R_getr (gxd kX0_placeOf 7 rfl) gf_H_18 (gHall0 ho) (by decide) rfl ?_
      refine R_iload_n (gxd kX0_placeOf 8 rfl) rfl rfl ?_
      obtain ⟨b1, H⟩ := ggi H
      have b1 := gin_in b1
      refine R_iald (gxd kX0_placeOf 9 rfl) (gHall3 ho) b1 ?_
      refine R_iload_n (gxd kX0_placeOf 10 rfl) rfl rfl ?_
      refine R_icmp_ne (gxd kX0_placeOf 11 rfl) (tgt := 22) rfl (fun q => ?_) (fun q => ?_)
      · replace H := giff q H
        refine R_iinc (v := (v2 + (1 : Int32))) (gxd kX0_placeOf 14 rfl) rfl rfl rfl (Nat.le_of_ble_eq_true rfl) rfl ?_
        refine R_goto (gxd kX0_placeOf 15 rfl) (tgt := 2) rfl ?_
        exact R_weak (gle_same (gle_same (gle_same gle_nil))) (ih _ _ _  H)
      · replace H := gift q H
        refine R_iload_n (gxd kX0_placeOf 12 rfl) rfl rfl ?_
        cases H
        exact R_iret (gxd kX0_placeOf 13 rfl) rfl
def fH_placeOf (o : Nat) (v1 : Int32) (h : gH) : Option (Int32 × gH) :=
  fH_placeOf_2 o v1 gfu (0 : Int32) h
theorem fH_placeOf_ok {o : Nat} {v1 : Int32} (ho : gHall o) {h : gH} {x : (Int32 × gH)} (H : fH_placeOf o v1 h = some x) (d : Nat) : gC yX0_placeOf cX0_placeOf 3 (some .int) (d + 0) [.ref o, .int v1] h (some (.int x.1)) x.2 := by
  refine gC_of (by decide +kernel) (Nat.le_of_ble_eq_true rfl) rfl ?_
  unfold fH_placeOf at H
  refine R_iconst (v := (0 : Int32)) (gxd kX0_placeOf 0 rfl) rfl ?_
  refine R_istore_n (gxd kX0_placeOf 1 rfl) rfl rfl (Nat.le_of_ble_eq_true rfl) rfl ?_
  exact R_weak (gle_same (gle_same (gle_same gle_nil))) (fH_placeOf_2_ok ho  gfu _ _ _  H)
