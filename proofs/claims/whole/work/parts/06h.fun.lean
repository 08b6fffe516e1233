def fM_taken_58 (v1 : Int32) (h : gH) : Option (Int32 × gH) :=
  gg (gin v1 24) <|
  (fM_bitsOf (h 68 v1.toNatClampNeg) h).bind fun p7 =>
  some (p7.1, p7.2)
theorem fM_taken_58_ok {d : Nat} {v1 : Int32}  {h : gH} {x : (Int32 × gH)} (H : fM_taken_58 v1  h = some x) : gR RX7 cX7_taken 3 (some .int) (d + 1) 58 [.ref 65, .int v1, .null] [] h (some (.int x.1)) x.2 := by
  unfold fM_taken_58 at H
  refine R_aload_n (gxd kX7_taken 34 rfl) rfl rfl ?_
  refine R_getr (gxd kX7_taken 35 rfl) gf_M_20 gk_65 (by decide) rfl ?_
  refine R_iload_n (gxd kX7_taken 36 rfl) rfl rfl ?_
  obtain ⟨b6, H⟩ := ggi H
  have b6 := gin_in b6
  refine R_iald (gxd kX7_taken 37 rfl) gk_68 b6 ?_
  obtain ⟨p7, e8, H⟩ := gbi H
  refine R_callSi (gxd kX7_taken 38 rfl) gm_M_189 wX7_bitsOf (by decide) rfl (Nat.le_of_ble_eq_true rfl) (by omega) (fM_bitsOf_ok  e8 (d + 0)) ?_
  refine R_goto (gxd kX7_taken 39 rfl) (tgt := 72) rfl ?_
  obtain rfl := Option.some.inj H
  exact R_iret (gxd kX7_taken 41 rfl) rfl
def fM_taken (v1 : Int32) (v2 : Int32) (h : gH) : Option (Int32 × gH) :=
  (fM_in v2.toInt64 (0 : Int64) (2 : Int64) h).bind fun p1 =>
  if p1.1 = (0 : Int32) then
    some ((-2 : Int32), p1.2)
  else
    (fM_in v1.toInt64 (0 : Int64) (((p1.2 65 8) - (1 : Int32)).toInt64) p1.2).bind fun p3 =>
    if p3.1 = (0 : Int32) then
      some ((-11 : Int32), p3.2)
    else
      gg (gin v1 24) <|
      if (p3.2 67 v1.toNatClampNeg) = v2 then
        fM_taken_58 v1 p3.2
      else
        gg (gin v1 24) <|
        if (p3.2 67 v1.toNatClampNeg) = (1 : Int32) then
          if v2 = (0 : Int32) then
            fM_taken_58 v1 p3.2
          else
            some ((-13 : Int32), p3.2)
        else
          some ((-13 : Int32), p3.2)
theorem fM_taken_ok {v1 : Int32} {v2 : Int32} {h : gH} {x : (Int32 × gH)} (H : fM_taken v1 v2 h = some x) (d : Nat) : gC yX7_taken cX7_taken 3 (some .int) (d + 1) [.ref 65, .int v1, .int v2] h (some (.int x.1)) x.2 := by
  refine gC_of (by decide +kernel) (Nat.le_of_ble_eq_true rfl) rfl ?_
  unfold fM_taken at H
  refine R_iload_n (gxd kX7_taken 0 rfl) rfl rfl ?_
  refine R_i2l (gxd kX7_taken 1 rfl) ?_
  refine R_lconst (v := (0 : Int64)) (gxd kX7_taken 2 rfl) rfl ?_
  refine R_ldc2 (v := (2 : Int64)) (gxd kX7_taken 3 rfl) gc_M_248 ?_
  obtain ⟨p1, e2, H⟩ := gbi H
  refine R_callSi (gxd kX7_taken 4 rfl) gm_M_140 wX7_in (by decide) rfl (Nat.le_of_ble_eq_true rfl) (by omega) (fM_in_ok  e2 (d + 0)) ?_
  refine R_if_ne (gxd kX7_taken 5 rfl) (tgt := 15) rfl (fun q => ?_) (fun q => ?_)
  · replace H := giff q H
    refine R_iload_n (gxd kX7_taken 8 rfl) rfl rfl ?_
    refine R_i2l (gxd kX7_taken 9 rfl) ?_
    refine R_lconst (v := (0 : Int64)) (gxd kX7_taken 10 rfl) rfl ?_
    refine R_aload_n (gxd kX7_taken 11 rfl) rfl rfl ?_
    refine R_geti (gxd kX7_taken 12 rfl) gf_M_226 gk_65 (by decide) rfl ?_
    refine R_iconst (v := (1 : Int32)) (gxd kX7_taken 13 rfl) rfl ?_
    refine R_isub (gxd kX7_taken 14 rfl) ?_
    refine R_i2l (gxd kX7_taken 15 rfl) ?_
    obtain ⟨p3, e4, H⟩ := gbi H
    refine R_callSi (gxd kX7_taken 16 rfl) gm_M_140 wX7_in (by decide) rfl (Nat.le_of_ble_eq_true rfl) (by omega) (fM_in_ok  e4 (d + 0)) ?_
    refine R_if_ne (gxd kX7_taken 17 rfl) (tgt := 34) rfl (fun q => ?_) (fun q => ?_)
    · replace H := giff q H
      refine R_aload_n (gxd kX7_taken 20 rfl) rfl rfl ?_
      refine R_getr (gxd kX7_taken 21 rfl) gf_M_17 gk_65 (by decide) rfl ?_
      refine R_iload_n (gxd kX7_taken 22 rfl) rfl rfl ?_
      obtain ⟨b5, H⟩ := ggi H
      have b5 := gin_in b5
      refine R_iald (gxd kX7_taken 23 rfl) gk_67 b5 ?_
      refine R_iload_n (gxd kX7_taken 24 rfl) rfl rfl ?_
      refine R_icmp_eq (gxd kX7_taken 25 rfl) (tgt := 58) rfl (fun q => ?_) (fun q => ?_)
      · replace H := gift q H
        exact R_weak (gle_same (gle_same (gle_null gle_nil))) (fM_taken_58_ok  H)
      · replace H := giff q H
        refine R_aload_n (gxd kX7_taken 26 rfl) rfl rfl ?_
        refine R_getr (gxd kX7_taken 27 rfl) gf_M_17 gk_65 (by decide) rfl ?_
        refine R_iload_n (gxd kX7_taken 28 rfl) rfl rfl ?_
        obtain ⟨b9, H⟩ := ggi H
        have b9 := gin_in b9
        refine R_iald (gxd kX7_taken 29 rfl) gk_67 b9 ?_
        refine R_iconst (v := (1 : Int32)) (gxd kX7_taken 30 rfl) rfl ?_
        refine R_icmp_ne (gxd kX7_taken 31 rfl) (tgt := 70) rfl (fun q => ?_) (fun q => ?_)
        · replace H := giff q H
          refine R_bipush (v := (-13 : Int32)) (gxd kX7_taken 40 rfl) rfl ?_
          obtain rfl := Option.some.inj H
          exact R_iret (gxd kX7_taken 41 rfl) rfl
        · replace H := gift q H
          refine R_iload_n (gxd kX7_taken 32 rfl) rfl rfl ?_
          refine R_if_ne (gxd kX7_taken 33 rfl) (tgt := 70) rfl (fun q => ?_) (fun q => ?_)
          · replace H := giff q H
            refine R_bipush (v := (-13 : Int32)) (gxd kX7_taken 40 rfl) rfl ?_
            obtain rfl := Option.some.inj H
            exact R_iret (gxd kX7_taken 41 rfl) rfl
          · replace H := gift q H
            exact R_weak (gle_same (gle_same (gle_null gle_nil))) (fM_taken_58_ok  H)
    · replace H := gift q H
      refine R_bipush (v := (-11 : Int32)) (gxd kX7_taken 18 rfl) rfl ?_
      obtain rfl := Option.some.inj H
      exact R_iret (gxd kX7_taken 19 rfl) rfl
  · replace H := gift q H
    refine R_bipush (v := (-2 : Int32)) (gxd kX7_taken 6 rfl) rfl ?_
    obtain rfl := Option.some.inj H
    exact R_iret (gxd kX7_taken 7 rfl) rfl
def fM_domainAt (v1 : Int32) (v2 : Int32) (h : gH) : Option (Int32 × gH) :=
  gg (gin v1 24) <|
  (fM_variable (h 68 v1.toNatClampNeg) v2 h).bind fun p2 =>
  if p2.1 = (-1 : Int32) then
    some ((1 : Int32), p2.2)
  else
    gg (gin p2.1 8) <|
    some ((p2.2 66 p2.1.toNatClampNeg), p2.2)
theorem fM_domainAt_ok {v1 : Int32} {v2 : Int32} {h : gH} {x : (Int32 × gH)} (H : fM_domainAt v1 v2 h = some x) (d : Nat) : gC yX7_domainAt cX7_domainAt 4 (some .int) (d + 1) [.ref 65, .int v1, .int v2] h (some (.int x.1)) x.2 := by
  refine gC_of (by decide +kernel) (Nat.le_of_ble_eq_true rfl) rfl ?_
  unfold fM_domainAt at H
  refine R_aload_n (gxd kX7_domainAt 0 rfl) rfl rfl ?_
  refine R_getr (gxd kX7_domainAt 1 rfl) gf_M_20 gk_65 (by decide) rfl ?_
  refine R_iload_n (gxd kX7_domainAt 2 rfl) rfl rfl ?_
  obtain ⟨b1, H⟩ := ggi H
  have b1 := gin_in b1
  refine R_iald (gxd kX7_domainAt 3 rfl) gk_68 b1 ?_
  refine R_iload_n (gxd kX7_domainAt 4 rfl) rfl rfl ?_
  obtain ⟨p2, e3, H⟩ := gbi H
  refine R_callSi (gxd kX7_domainAt 5 rfl) gm_M_235 wX7_variable (by decide) rfl (Nat.le_of_ble_eq_true rfl) (by omega) (fM_variable_ok  e3 (d + 0)) ?_
  refine R_istore_n (gxd kX7_domainAt 6 rfl) rfl rfl (Nat.le_of_ble_eq_true rfl) rfl ?_
  refine R_iload_n (gxd kX7_domainAt 7 rfl) rfl rfl ?_
  refine R_iconst (v := (-1 : Int32)) (gxd kX7_domainAt 8 rfl) rfl ?_
  refine R_icmp_ne (gxd kX7_domainAt 9 rfl) (tgt := 20) rfl (fun q => ?_) (fun q => ?_)
  · replace H := giff q H
    refine R_aload_n (gxd kX7_domainAt 12 rfl) rfl rfl ?_
    refine R_getr (gxd kX7_domainAt 13 rfl) gf_M_13 gk_65 (by decide) rfl ?_
    refine R_iload_n (gxd kX7_domainAt 14 rfl) rfl rfl ?_
    obtain ⟨b4, H⟩ := ggi H
    have b4 := gin_in b4
    refine R_iald (gxd kX7_domainAt 15 rfl) gk_66 b4 ?_
    obtain rfl := Option.some.inj H
    exact R_iret (gxd kX7_domainAt 16 rfl) rfl
  · replace H := gift q H
    refine R_iconst (v := (1 : Int32)) (gxd kX7_domainAt 10 rfl) rfl ?_
    refine R_goto (gxd kX7_domainAt 11 rfl) (tgt := 26) rfl ?_
    obtain rfl := Option.some.inj H
    exact R_iret (gxd kX7_domainAt 16 rfl) rfl
def fM_goesThrough_80 (k60 : Int32 → gH → Option gH) (v1 : Int32) (v2 : Int32) (v3 : Int32) (v4 : Int32) (v5 : Int32) (v6 : Int32) : Nat → Int32 → gH → Option gH
  | 0, _, _ => none
  | n + 1, v7, h =>
    if v7 < (10 : Int32) then
      if ((v3 >>> (v6 &&& 31)) &&& (1 : Int32)) = (1 : Int32) then
        if ((v4 >>> (v7 &&& 31)) &&& (1 : Int32)) = (1 : Int32) then
          gg (gin (((((1000 : Int32) * v1) + ((100 : Int32) * v5)) + ((10 : Int32) * v6)) + v7) 16000) <|
          if (h 69 (((((1000 : Int32) * v1) + ((100 : Int32) * v5)) + ((10 : Int32) * v6)) + v7).toNatClampNeg) = (0 : Int32) then
            fM_goesThrough_80 k60 v1 v2 v3 v4 v5 v6 n (v7 + (1 : Int32)) h
          else
            glet (hu h 65 34 ((h 65 34) + (1 : Int32))) fun h10 =>
            glet (hu h10 81 (0 : Int32).toNatClampNeg ((h10 81 (0 : Int32).toNatClampNeg) ||| ((1 : Int32) <<< (v5 &&& 31)))) fun h12 =>
            glet (hu h12 81 (1 : Int32).toNatClampNeg ((h12 81 (1 : Int32).toNatClampNeg) ||| ((1 : Int32) <<< (v6 &&& 31)))) fun h14 =>
            glet (hu h14 81 (2 : Int32).toNatClampNeg ((h14 81 (2 : Int32).toNatClampNeg) ||| ((1 : Int32) <<< (v7 &&& 31)))) fun h16 =>
            fM_goesThrough_80 k60 v1 v2 v3 v4 v5 v6 n (v7 + (1 : Int32)) h16
        else
          fM_goesThrough_80 k60 v1 v2 v3 v4 v5 v6 n (v7 + (1 : Int32)) h
      else
        k60 (v6 + (1 : Int32)) h
    else
      k60 (v6 + (1 : Int32)) h
theorem fM_goesThrough_80_ok {d : Nat} {k60 : Int32 → gH → Option gH} {v1 : Int32} {v2 : Int32} {v3 : Int32} {v4 : Int32} {v5 : Int32} {v6 : Int32} (hk60 : ∀ (u6 : Int32) (h : gH) (x : gH), k60 u6 h = some x → gR RX7 cX7_goesThrough 8 none (d + 2) 60 [.ref 65, .int v1, .int v2, .int v3, .int v4, .int v5, .int u6, .null] [] h none x) : ∀ (n : Nat) (v7 : Int32) (h : gH) (x : gH), fM_goesThrough_80 k60 v1 v2 v3 v4 v5 v6 n v7 h = some x → gR RX7 cX7_goesThrough 8 none (d + 2) 80 [.ref 65, .int v1, .int v2, .int v3, .int v4, .int v5, .int v6, .int v7] [] h none x := by
  intro n
  induction n with
  | zero => intro v7 h x  H; exact g0 H
  | succ n ih =>
    intro v7 h x  H
    unfold fM_goesThrough_80 at H
    refine R_iload (gxd kX7_goesThrough 49 rfl) rfl ?_
    refine R_bipush (v := (10 : Int32)) (gxd kX7_goesThrough 50 rfl) rfl ?_
    refine R_icmp_ge (gxd kX7_goesThrough 51 rfl) (tgt := 191) rfl (fun q => ?_) (fun q => ?_)
    · replace H := giff q H
      refine R_iinc (v := (v6 + (1 : Int32))) (gxd kX7_goesThrough 121 rfl) rfl rfl rfl (Nat.le_of_ble_eq_true rfl) rfl ?_
      refine R_goto (gxd kX7_goesThrough 122 rfl) (tgt := 60) rfl ?_
      exact R_weak (gle_same (gle_same (gle_same (gle_same (gle_same (gle_same (gle_same (gle_null gle_nil)))))))) (hk60 _ _ _  H)
    · replace H := gift q H
      refine R_iload_n (gxd kX7_goesThrough 52 rfl) rfl rfl ?_
      refine R_iload (gxd kX7_goesThrough 53 rfl) rfl ?_
      refine R_ishr (gxd kX7_goesThrough 54 rfl) ?_
      refine R_iconst (v := (1 : Int32)) (gxd kX7_goesThrough 55 rfl) rfl ?_
      refine R_iand (gxd kX7_goesThrough 56 rfl) ?_
      refine R_iconst (v := (1 : Int32)) (gxd kX7_goesThrough 57 rfl) rfl ?_
      refine R_icmp_ne (gxd kX7_goesThrough 58 rfl) (tgt := 191) rfl (fun q => ?_) (fun q => ?_)
      · replace H := giff q H
        refine R_iinc (v := (v6 + (1 : Int32))) (gxd kX7_goesThrough 121 rfl) rfl rfl rfl (Nat.le_of_ble_eq_true rfl) rfl ?_
        refine R_goto (gxd kX7_goesThrough 122 rfl) (tgt := 60) rfl ?_
        exact R_weak (gle_same (gle_same (gle_same (gle_same (gle_same (gle_same (gle_same (gle_null gle_nil)))))))) (hk60 _ _ _  H)
      · replace H := gift q H
        refine R_iload (gxd kX7_goesThrough 59 rfl) rfl ?_
        refine R_iload (gxd kX7_goesThrough 60 rfl) rfl ?_
        refine R_ishr (gxd kX7_goesThrough 61 rfl) ?_
        refine R_iconst (v := (1 : Int32)) (gxd kX7_goesThrough 62 rfl) rfl ?_
        refine R_iand (gxd kX7_goesThrough 63 rfl) ?_
        refine R_iconst (v := (1 : Int32)) (gxd kX7_goesThrough 64 rfl) rfl ?_
        refine R_icmp_ne (gxd kX7_goesThrough 65 rfl) (tgt := 185) rfl (fun q => ?_) (fun q => ?_)
        · replace H := giff q H
          refine R_iinc (v := (v7 + (1 : Int32))) (gxd kX7_goesThrough 119 rfl) rfl rfl rfl (Nat.le_of_ble_eq_true rfl) rfl ?_
          refine R_goto (gxd kX7_goesThrough 120 rfl) (tgt := 80) rfl ?_
          exact R_weak (gle_same (gle_same (gle_same (gle_same (gle_same (gle_same (gle_same (gle_same gle_nil)))))))) (ih _ _ _  H)
        · replace H := gift q H
          refine R_aload_n (gxd kX7_goesThrough 66 rfl) rfl rfl ?_
          refine R_getr (gxd kX7_goesThrough 67 rfl) gf_M_23 gk_65 (by decide) rfl ?_
          refine R_sipush (v := (1000 : Int32)) (gxd kX7_goesThrough 68 rfl) rfl ?_
          refine R_iload_n (gxd kX7_goesThrough 69 rfl) rfl rfl ?_
          refine R_imul (gxd kX7_goesThrough 70 rfl) ?_
          refine R_bipush (v := (100 : Int32)) (gxd kX7_goesThrough 71 rfl) rfl ?_
          refine R_iload (gxd kX7_goesThrough 72 rfl) rfl ?_
          refine R_imul (gxd kX7_goesThrough 73 rfl) ?_
          refine R_iadd (gxd kX7_goesThrough 74 rfl) ?_
          refine R_bipush (v := (10 : Int32)) (gxd kX7_goesThrough 75 rfl) rfl ?_
          refine R_iload (gxd kX7_goesThrough 76 rfl) rfl ?_
          refine R_imul (gxd kX7_goesThrough 77 rfl) ?_
          refine R_iadd (gxd kX7_goesThrough 78 rfl) ?_
          refine R_iload (gxd kX7_goesThrough 79 rfl) rfl ?_
          refine R_iadd (gxd kX7_goesThrough 80 rfl) ?_
          obtain ⟨b9, H⟩ := ggi H
          have b9 := gin_in b9
          refine R_zald (gxd kX7_goesThrough 81 rfl) gk_69 b9 ?_
          refine R_if_eq (gxd kX7_goesThrough 82 rfl) (tgt := 185) rfl (fun q => ?_) (fun q => ?_)
          · replace H := gift q H
            refine R_iinc (v := (v7 + (1 : Int32))) (gxd kX7_goesThrough 119 rfl) rfl rfl rfl (Nat.le_of_ble_eq_true rfl) rfl ?_
            refine R_goto (gxd kX7_goesThrough 120 rfl) (tgt := 80) rfl ?_
            exact R_weak (gle_same (gle_same (gle_same (gle_same (gle_same (gle_same (gle_same (gle_same gle_nil)))))))) (ih _ _ _  H)
          · replace H := giff q H
            refine R_aload_n (gxd kX7_goesThrough 83 rfl) rfl rfl ?_
            refine R_dup (gxd kX7_goesThrough 84 rfl) rfl ?_
            refine R_geti (gxd kX7_goesThrough 85 rfl) gf_M_250 gk_65 (by decide) rfl ?_
            refine R_iconst (v := (1 : Int32)) (gxd kX7_goesThrough 86 rfl) rfl ?_
            refine R_iadd (gxd kX7_goesThrough 87 rfl) ?_
            refine R_puti (gxd kX7_goesThrough 88 rfl) gf_M_250 gp_7_34 gk_65 (by decide) rfl ?_
            obtain ⟨h10, e11, H⟩ := glei H
            refine R_heq e11 ?_
            refine R_aload_n (gxd kX7_goesThrough 89 rfl) rfl rfl ?_
            refine R_getr (gxd kX7_goesThrough 90 rfl) gf_M_60 gk_65 (by decide) rfl ?_
            refine R_iconst (v := (0 : Int32)) (gxd kX7_goesThrough 91 rfl) rfl ?_
            refine R_dup2 (gxd kX7_goesThrough 92 rfl) rfl rfl ?_
            refine R_iald (gxd kX7_goesThrough 93 rfl) gk_81 (gin_in rfl) ?_
            refine R_iconst (v := (1 : Int32)) (gxd kX7_goesThrough 94 rfl) rfl ?_
            refine R_iload (gxd kX7_goesThrough 95 rfl) rfl ?_
            refine R_ishl (gxd kX7_goesThrough 96 rfl) ?_
            refine R_ior (gxd kX7_goesThrough 97 rfl) ?_
            refine R_iast (gxd kX7_goesThrough 98 rfl) gk_81 (gin_in rfl) ?_
            obtain ⟨h12, e13, H⟩ := glei H
            refine R_heq e13 ?_
            refine R_aload_n (gxd kX7_goesThrough 99 rfl) rfl rfl ?_
            refine R_getr (gxd kX7_goesThrough 100 rfl) gf_M_60 gk_65 (by decide) rfl ?_
            refine R_iconst (v := (1 : Int32)) (gxd kX7_goesThrough 101 rfl) rfl ?_
            refine R_dup2 (gxd kX7_goesThrough 102 rfl) rfl rfl ?_
            refine R_iald (gxd kX7_goesThrough 103 rfl) gk_81 (gin_in rfl) ?_
            refine R_iconst (v := (1 : Int32)) (gxd kX7_goesThrough 104 rfl) rfl ?_
            refine R_iload (gxd kX7_goesThrough 105 rfl) rfl ?_
            refine R_ishl (gxd kX7_goesThrough 106 rfl) ?_
            refine R_ior (gxd kX7_goesThrough 107 rfl) ?_
            refine R_iast (gxd kX7_goesThrough 108 rfl) gk_81 (gin_in rfl) ?_
            obtain ⟨h14, e15, H⟩ := glei H
            refine R_heq e15 ?_
            refine R_aload_n (gxd kX7_goesThrough 109 rfl) rfl rfl ?_
            refine R_getr (gxd kX7_goesThrough 110 rfl) gf_M_60 gk_65 (by decide) rfl ?_
            refine R_iconst (v := (2 : Int32)) (gxd kX7_goesThrough 111 rfl) rfl ?_
            refine R_dup2 (gxd kX7_goesThrough 112 rfl) rfl rfl ?_
            refine R_iald (gxd kX7_goesThrough 113 rfl) gk_81 (gin_in rfl) ?_
            refine R_iconst (v := (1 : Int32)) (gxd kX7_goesThrough 114 rfl) rfl ?_
            refine R_iload (gxd kX7_goesThrough 115 rfl) rfl ?_
            refine R_ishl (gxd kX7_goesThrough 116 rfl) ?_
            refine R_ior (gxd kX7_goesThrough 117 rfl) ?_
            refine R_iast (gxd kX7_goesThrough 118 rfl) gk_81 (gin_in rfl) ?_
            obtain ⟨h16, e17, H⟩ := glei H
            refine R_heq e17 ?_
            refine R_iinc (v := (v7 + (1 : Int32))) (gxd kX7_goesThrough 119 rfl) rfl rfl rfl (Nat.le_of_ble_eq_true rfl) rfl ?_
            refine R_goto (gxd kX7_goesThrough 120 rfl) (tgt := 80) rfl ?_
            exact R_weak (gle_same (gle_same (gle_same (gle_same (gle_same (gle_same (gle_same (gle_same gle_nil)))))))) (ih _ _ _  H)
def fM_goesThrough_60 (k50 : Int32 → gH → Option gH) (v1 : Int32) (v2 : Int32) (v3 : Int32) (v4 : Int32) (v5 : Int32) : Nat → Int32 → gH → Option gH
  | 0, _, _ => none
  | n + 1, v6, h =>
    if v6 < (10 : Int32) then
      if ((v2 >>> (v5 &&& 31)) &&& (1 : Int32)) = (1 : Int32) then
        fM_goesThrough_80 (fM_goesThrough_60 k50 v1 v2 v3 v4 v5 n) v1 v2 v3 v4 v5 v6 gfu (0 : Int32) h
      else
        k50 (v5 + (1 : Int32)) h
    else
      k50 (v5 + (1 : Int32)) h
theorem fM_goesThrough_60_ok {d : Nat} {k50 : Int32 → gH → Option gH} {v1 : Int32} {v2 : Int32} {v3 : Int32} {v4 : Int32} {v5 : Int32} (hk50 : ∀ (u5 : Int32) (h : gH) (x : gH), k50 u5 h = some x → gR RX7 cX7_goesThrough 8 none (d + 2) 50 [.ref 65, .int v1, .int v2, .int v3, .int v4, .int u5, .null, .null] [] h none x) : ∀ (n : Nat) (v6 : Int32) (h : gH) (x : gH), fM_goesThrough_60 k50 v1 v2 v3 v4 v5 n v6 h = some x → gR RX7 cX7_goesThrough 8 none (d + 2) 60 [.ref 65, .int v1, .int v2, .int v3, .int v4, .int v5, .int v6, .null] [] h none x := by
  intro n
  induction n with
  | zero => intro v6 h x  H; exact g0 H
  | succ n ih =>
    intro v6 h x  H
    unfold fM_goesThrough_60 at H
    refine R_iload (gxd kX7_goesThrough 37 rfl) rfl ?_
    refine R_bipush (v := (10 : Int32)) (gxd kX7_goesThrough 38 rfl) rfl ?_
    refine R_icmp_ge (gxd kX7_goesThrough 39 rfl) (tgt := 197) rfl (fun q => ?_) (fun q => ?_)
    · replace H := giff q H
      refine R_iinc (v := (v5 + (1 : Int32))) (gxd kX7_goesThrough 123 rfl) rfl rfl rfl (Nat.le_of_ble_eq_true rfl) rfl ?_
      refine R_goto (gxd kX7_goesThrough 124 rfl) (tgt := 50) rfl ?_
      exact R_weak (gle_same (gle_same (gle_same (gle_same (gle_same (gle_same (gle_null (gle_null gle_nil)))))))) (hk50 _ _ _  H)
    · replace H := gift q H
      refine R_iload_n (gxd kX7_goesThrough 40 rfl) rfl rfl ?_
      refine R_iload (gxd kX7_goesThrough 41 rfl) rfl ?_
      refine R_ishr (gxd kX7_goesThrough 42 rfl) ?_
      refine R_iconst (v := (1 : Int32)) (gxd kX7_goesThrough 43 rfl) rfl ?_
      refine R_iand (gxd kX7_goesThrough 44 rfl) ?_
      refine R_iconst (v := (1 : Int32)) (gxd kX7_goesThrough 45 rfl) rfl ?_
      refine R_icmp_ne (gxd kX7_goesThrough 46 rfl) (tgt := 197) rfl (fun q => ?_) (fun q => ?_)
      · replace H := giff q H
        refine R_iinc (v := (v5 + (1 : Int32))) (gxd kX7_goesThrough 123 rfl) rfl rfl rfl (Nat.le_of_ble_eq_true rfl) rfl ?_
        refine R_goto (gxd kX7_goesThrough 124 rfl) (tgt := 50) rfl ?_
        exact R_weak (gle_same (gle_same (gle_same (gle_same (gle_same (gle_same (gle_null (gle_null gle_nil)))))))) (hk50 _ _ _  H)
      · replace H := gift q H
        refine R_iconst (v := (0 : Int32)) (gxd kX7_goesThrough 47 rfl) rfl ?_
        refine R_istore (gxd kX7_goesThrough 48 rfl) rfl (Nat.le_of_ble_eq_true rfl) rfl ?_
        exact R_weak (gle_same (gle_same (gle_same (gle_same (gle_same (gle_same (gle_same (gle_same gle_nil)))))))) (fM_goesThrough_80_ok ih  gfu _ _ _  H)
def fM_goesThrough_50 (v1 : Int32) (v2 : Int32) (v3 : Int32) (v4 : Int32) : Nat → Int32 → gH → Option gH
  | 0, _, _ => none
  | n + 1, v5, h =>
    if v5 < (10 : Int32) then
      fM_goesThrough_60 (fM_goesThrough_50 v1 v2 v3 v4 n) v1 v2 v3 v4 v5 gfu (0 : Int32) h
    else
      some h
theorem fM_goesThrough_50_ok {d : Nat} {v1 : Int32} {v2 : Int32} {v3 : Int32} {v4 : Int32}  : ∀ (n : Nat) (v5 : Int32) (h : gH) (x : gH), fM_goesThrough_50 v1 v2 v3 v4 n v5 h = some x → gR RX7 cX7_goesThrough 8 none (d + 2) 50 [.ref 65, .int v1, .int v2, .int v3, .int v4, .int v5, .null, .null] [] h none x := by
  intro n
  induction n with
  | zero => intro v5 h x  H; exact g0 H
  | succ n ih =>
    intro v5 h x  H
    unfold fM_goesThrough_50 at H
    refine R_iload (gxd kX7_goesThrough 32 rfl) rfl ?_
    refine R_bipush (v := (10 : Int32)) (gxd kX7_goesThrough 33 rfl) rfl ?_
    refine R_icmp_ge (gxd kX7_goesThrough 34 rfl) (tgt := 203) rfl (fun q => ?_) (fun q => ?_)
    · replace H := giff q H
      obtain rfl := Option.some.inj H
      exact R_vret (gxd kX7_goesThrough 125 rfl) rfl
    · replace H := gift q H
      refine R_iconst (v := (0 : Int32)) (gxd kX7_goesThrough 35 rfl) rfl ?_
      refine R_istore (gxd kX7_goesThrough 36 rfl) rfl (Nat.le_of_ble_eq_true rfl) rfl ?_
      exact R_weak (gle_same (gle_same (gle_same (gle_same (gle_same (gle_same (gle_same (gle_null gle_nil)))))))) (fM_goesThrough_60_ok ih  gfu _ _ _  H)
def fM_goesThrough_7 (v1 : Int32) : Nat → Int32 → gH → Option gH
  | 0, _, _ => none
  | n + 1, v2, h =>
    if v2 < (3 : Int32) then
      gg (gin v2 3) <|
      glet (hu h 81 v2.toNatClampNeg (0 : Int32)) fun h19 =>
      fM_goesThrough_7 v1 n (v2 + (1 : Int32)) h19
    else
      (fM_domainAt v1 (0 : Int32) h).bind fun p3 =>
      (fM_domainAt v1 (1 : Int32) p3.2).bind fun p5 =>
      (fM_domainAt v1 (2 : Int32) p5.2).bind fun p7 =>
      fM_goesThrough_50 v1 p3.1 p5.1 p7.1 gfu (0 : Int32) p7.2
theorem fM_goesThrough_7_ok {d : Nat} {v1 : Int32}  : ∀ (n : Nat) (v2 : Int32) (h : gH) (x : gH), fM_goesThrough_7 v1 n v2 h = some x → gR RX7 cX7_goesThrough 8 none (d + 2) 7 [.ref 65, .int v1, .int v2, .null, .null, .null, .null, .null] [] h none x := by
  intro n
  induction n with
  | zero => intro v2 h x  H; exact g0 H
  | succ n ih =>
    intro v2 h x  H
    unfold fM_goesThrough_7 at H
    refine R_iload_n (gxd kX7_goesThrough 5 rfl) rfl rfl ?_
    refine R_iconst (v := (3 : Int32)) (gxd kX7_goesThrough 6 rfl) rfl ?_
    refine R_icmp_ge (gxd kX7_goesThrough 7 rfl) (tgt := 25) rfl (fun q => ?_) (fun q => ?_)
    · replace H := giff q H
      refine R_aload_n (gxd kX7_goesThrough 15 rfl) rfl rfl ?_
      refine R_iload_n (gxd kX7_goesThrough 16 rfl) rfl rfl ?_
      refine R_iconst (v := (0 : Int32)) (gxd kX7_goesThrough 17 rfl) rfl ?_
      obtain ⟨p3, e4, H⟩ := gbi H
      refine R_callVi (gxd kX7_goesThrough 18 rfl) gm_M_253 wX7_domainAt (by decide) gk_65 rfl rfl (Nat.le_of_ble_eq_true rfl) (by omega) (fM_domainAt_ok  e4 (d + 0)) ?_
      refine R_istore_n (gxd kX7_goesThrough 19 rfl) rfl rfl (Nat.le_of_ble_eq_true rfl) rfl ?_
      refine R_aload_n (gxd kX7_goesThrough 20 rfl) rfl rfl ?_
      refine R_iload_n (gxd kX7_goesThrough 21 rfl) rfl rfl ?_
      refine R_iconst (v := (1 : Int32)) (gxd kX7_goesThrough 22 rfl) rfl ?_
      obtain ⟨p5, e6, H⟩ := gbi H
      refine R_callVi (gxd kX7_goesThrough 23 rfl) gm_M_253 wX7_domainAt (by decide) gk_65 rfl rfl (Nat.le_of_ble_eq_true rfl) (by omega) (fM_domainAt_ok  e6 (d + 0)) ?_
      refine R_istore_n (gxd kX7_goesThrough 24 rfl) rfl rfl (Nat.le_of_ble_eq_true rfl) rfl ?_
      refine R_aload_n (gxd kX7_goesThrough 25 rfl) rfl rfl ?_
      refine R_iload_n (gxd kX7_goesThrough 26 rfl) rfl rfl ?_
      refine R_iconst (v := (2 : Int32)) (gxd kX7_goesThrough 27 rfl) rfl ?_
      obtain ⟨p7, e8, H⟩ := gbi H
      refine R_callVi (gxd kX7_goesThrough 28 rfl) gm_M_253 wX7_domainAt (by decide) gk_65 rfl rfl (Nat.le_of_ble_eq_true rfl) (by omega) (fM_domainAt_ok  e8 (d + 0)) ?_
      refine R_istore (gxd kX7_goesThrough 29 rfl) rfl (Nat.le_of_ble_eq_true rfl) rfl ?_
      refine R_iconst (v := (0 : Int32)) (gxd kX7_goesThrough 30 rfl) rfl ?_
      refine R_istore (gxd kX7_goesThrough 31 rfl) rfl (Nat.le_of_ble_eq_true rfl) rfl ?_
      exact R_weak (gle_same (gle_same (gle_same (gle_same (gle_same (gle_same (gle_null (gle_null gle_nil)))))))) (fM_goesThrough_50_ok  gfu _ _ _  H)
    · replace H := gift q H
      refine R_aload_n (gxd kX7_goesThrough 8 rfl) rfl rfl ?_
      refine R_getr (gxd kX7_goesThrough 9 rfl) gf_M_60 gk_65 (by decide) rfl ?_
      refine R_iload_n (gxd kX7_goesThrough 10 rfl) rfl rfl ?_
      refine R_iconst (v := (0 : Int32)) (gxd kX7_goesThrough 11 rfl) rfl ?_
      obtain ⟨b18, H⟩ := ggi H
      have b18 := gin_in b18
      refine R_iast (gxd kX7_goesThrough 12 rfl) gk_81 b18 ?_
      obtain ⟨h19, e20, H⟩ := glei H
      refine R_heq e20 ?_
      refine R_iinc (v := (v2 + (1 : Int32))) (gxd kX7_goesThrough 13 rfl) rfl rfl rfl (Nat.le_of_ble_eq_true rfl) rfl ?_
      refine R_goto (gxd kX7_goesThrough 14 rfl) (tgt := 7) rfl ?_
      exact R_weak (gle_same (gle_same (gle_same (gle_null (gle_null (gle_null (gle_null (gle_null gle_nil)))))))) (ih _ _ _  H)
def fM_goesThrough (v1 : Int32) (h : gH) : Option gH :=
  glet (hu h 65 34 (0 : Int32)) fun h1 =>
  fM_goesThrough_7 v1 gfu (0 : Int32) h1
theorem fM_goesThrough_ok {v1 : Int32} {h : gH} {x : gH} (H : fM_goesThrough v1 h = some x) (d : Nat) : gC yX7_goesThrough cX7_goesThrough 8 none (d + 2) [.ref 65, .int v1] h none x := by
  refine gC_of (by decide +kernel) (Nat.le_of_ble_eq_true rfl) rfl ?_
  unfold fM_goesThrough at H
  refine R_aload_n (gxd kX7_goesThrough 0 rfl) rfl rfl ?_
  refine R_iconst (v := (0 : Int32)) (gxd kX7_goesThrough 1 rfl) rfl ?_
  refine R_puti (gxd kX7_goesThrough 2 rfl) gf_M_250 gp_7_34 gk_65 (by decide) rfl ?_
  obtain ⟨h1, e2, H⟩ := glei H
  refine R_heq e2 ?_
  refine R_iconst (v := (0 : Int32)) (gxd kX7_goesThrough 3 rfl) rfl ?_
  refine R_istore_n (gxd kX7_goesThrough 4 rfl) rfl rfl (Nat.le_of_ble_eq_true rfl) rfl ?_
  exact R_weak (gle_same (gle_same (gle_same (gle_null (gle_null (gle_null (gle_null (gle_null gle_nil)))))))) (fM_goesThrough_7_ok  gfu _ _ _  H)
def fM_goes_85 : Nat → Int32 → gH → Option gH
  | 0, _, _ => none
  | n + 1, v4, h =>
    if v4 < (24 : Int32) then
      gg (gin v4 24) <|
      glet (hu h 71 v4.toNatClampNeg (0 : Int32)) fun h11 =>
      fM_goes_85 n (v4 + (1 : Int32)) h11
    else
      some h
theorem fM_goes_85_ok {d : Nat}  : ∀ (n : Nat) (v4 : Int32) (h : gH) (x : gH), fM_goes_85  n v4 h = some x → gR RX7 cX7_goes 5 none (d + 0) 85 [.ref 65, .null, .null, .null, .int v4] [] h none x := by
  intro n
  induction n with
  | zero => intro v4 h x  H; exact g0 H
  | succ n ih =>
    intro v4 h x  H
    unfold fM_goes_85 at H
    refine R_iload (gxd kX7_goes 55 rfl) rfl ?_
    refine R_bipush (v := (24 : Int32)) (gxd kX7_goes 56 rfl) rfl ?_
    refine R_icmp_ge (gxd kX7_goes 57 rfl) (tgt := 106) rfl (fun q => ?_) (fun q => ?_)
    · replace H := giff q H
      obtain rfl := Option.some.inj H
      exact R_vret (gxd kX7_goes 65 rfl) rfl
    · replace H := gift q H
      refine R_aload_n (gxd kX7_goes 58 rfl) rfl rfl ?_
      refine R_getr (gxd kX7_goes 59 rfl) gf_M_30 gk_65 (by decide) rfl ?_
      refine R_iload (gxd kX7_goes 60 rfl) rfl ?_
      refine R_iconst (v := (0 : Int32)) (gxd kX7_goes 61 rfl) rfl ?_
      obtain ⟨b10, H⟩ := ggi H
      have b10 := gin_in b10
      refine R_zast (gxd kX7_goes 62 rfl) gk_71 b10 (Or.inl rfl) ?_
      obtain ⟨h11, e12, H⟩ := glei H
      refine R_heq e12 ?_
      refine R_iinc (v := (v4 + (1 : Int32))) (gxd kX7_goes 63 rfl) rfl rfl rfl (Nat.le_of_ble_eq_true rfl) rfl ?_
      refine R_goto (gxd kX7_goes 64 rfl) (tgt := 85) rfl ?_
      exact R_weak (gle_same (gle_null (gle_null (gle_null (gle_same gle_nil))))) (ih _ _ _  H)
def fM_goes_68 (v1 : Int32) (h : gH) : Option gH :=
  gg (gin v1 8) <|
  if (h 66 v1.toNatClampNeg) = (0 : Int32) then
    glet (hu h 65 2 (1 : Int32)) fun h8 =>
    fM_goes_85 gfu (0 : Int32) h8
  else
    some h
theorem fM_goes_68_ok {d : Nat} {v1 : Int32}  {h : gH} {x : gH} (H : fM_goes_68 v1  h = some x) : gR RX7 cX7_goes 5 none (d + 0) 68 [.ref 65, .int v1, .null, .null, .null] [] h none x := by
  unfold fM_goes_68 at H
  refine R_aload_n (gxd kX7_goes 45 rfl) rfl rfl ?_
  refine R_getr (gxd kX7_goes 46 rfl) gf_M_13 gk_65 (by decide) rfl ?_
  refine R_iload_n (gxd kX7_goes 47 rfl) rfl rfl ?_
  obtain ⟨b7, H⟩ := ggi H
  have b7 := gin_in b7
  refine R_iald (gxd kX7_goes 48 rfl) gk_66 b7 ?_
  refine R_if_ne (gxd kX7_goes 49 rfl) (tgt := 106) rfl (fun q => ?_) (fun q => ?_)
  · replace H := giff q H
    obtain rfl := Option.some.inj H
    exact R_vret (gxd kX7_goes 65 rfl) rfl
  · replace H := gift q H
    refine R_aload_n (gxd kX7_goes 50 rfl) rfl rfl ?_
    refine R_iconst (v := (1 : Int32)) (gxd kX7_goes 51 rfl) rfl ?_
    refine R_putz (gxd kX7_goes 52 rfl) gf_M_229 gp_7_2 (Or.inr rfl) gk_65 (by decide) rfl ?_
    obtain ⟨h8, e9, H⟩ := glei H
    refine R_heq e9 ?_
    refine R_iconst (v := (0 : Int32)) (gxd kX7_goes 53 rfl) rfl ?_
    refine R_istore (gxd kX7_goes 54 rfl) rfl (Nat.le_of_ble_eq_true rfl) rfl ?_
    exact R_weak (gle_same (gle_null (gle_null (gle_null (gle_same gle_nil))))) (fM_goes_85_ok  gfu _ _ _  H)
def fM_goes (v1 : Int32) (v2 : Int32) (v3 : Int32) (h : gH) : Option gH :=
  gg (gin v1 8) <|
  gg (gin v1 8) <|
  glet (hu h 66 v1.toNatClampNeg ((h 66 v1.toNatClampNeg) &&& (((1 : Int32) <<< (v2 &&& 31)) ^^^ (-1 : Int32)))) fun h3 =>
  glet (hu h3 65 35 ((h3 65 35) ||| ((1 : Int32) <<< (v1 &&& 31)))) fun h5 =>
  if (h5 65 36) = (0 : Int32) then
    gg (gin (h5 65 15) 80) <|
    glet (hu h5 74 (h5 65 15).toNatClampNeg (((10 : Int32) * v1) + v2)) fun h14 =>
    gg (gin (h14 65 15) 80) <|
    glet (hu h14 75 (h14 65 15).toNatClampNeg v3) fun h17 =>
    fM_goes_68 v1 (hu h17 65 15 ((h17 65 15) + (1 : Int32)))
  else
    fM_goes_68 v1 h5
theorem fM_goes_ok {v1 : Int32} {v2 : Int32} {v3 : Int32} {h : gH} {x : gH} (H : fM_goes v1 v2 v3 h = some x) (d : Nat) : gC yX7_goes cX7_goes 5 none (d + 0) [.ref 65, .int v1, .int v2, .int v3] h none x := by
  refine gC_of (by decide +kernel) (Nat.le_of_ble_eq_true rfl) rfl ?_
  unfold fM_goes at H
  refine R_aload_n (gxd kX7_goes 0 rfl) rfl rfl ?_
  refine R_getr (gxd kX7_goes 1 rfl) gf_M_13 gk_65 (by decide) rfl ?_
  refine R_iload_n (gxd kX7_goes 2 rfl) rfl rfl ?_
  refine R_dup2 (gxd kX7_goes 3 rfl) rfl rfl ?_
  obtain ⟨b1, H⟩ := ggi H
  have b1 := gin_in b1
  refine R_iald (gxd kX7_goes 4 rfl) gk_66 b1 ?_
  refine R_iconst (v := (1 : Int32)) (gxd kX7_goes 5 rfl) rfl ?_
  refine R_iload_n (gxd kX7_goes 6 rfl) rfl rfl ?_
  refine R_ishl (gxd kX7_goes 7 rfl) ?_
  refine R_iconst (v := (-1 : Int32)) (gxd kX7_goes 8 rfl) rfl ?_
  refine R_ixor (gxd kX7_goes 9 rfl) ?_
  refine R_iand (gxd kX7_goes 10 rfl) ?_
  obtain ⟨b2, H⟩ := ggi H
  have b2 := gin_in b2
  refine R_iast (gxd kX7_goes 11 rfl) gk_66 b2 ?_
  obtain ⟨h3, e4, H⟩ := glei H
  refine R_heq e4 ?_
  refine R_aload_n (gxd kX7_goes 12 rfl) rfl rfl ?_
  refine R_dup (gxd kX7_goes 13 rfl) rfl ?_
  refine R_geti (gxd kX7_goes 14 rfl) gf_M_256 gk_65 (by decide) rfl ?_
  refine R_iconst (v := (1 : Int32)) (gxd kX7_goes 15 rfl) rfl ?_
  refine R_iload_n (gxd kX7_goes 16 rfl) rfl rfl ?_
  refine R_ishl (gxd kX7_goes 17 rfl) ?_
  refine R_ior (gxd kX7_goes 18 rfl) ?_
  refine R_puti (gxd kX7_goes 19 rfl) gf_M_256 gp_7_35 gk_65 (by decide) rfl ?_
  obtain ⟨h5, e6, H⟩ := glei H
  refine R_heq e6 ?_
  refine R_aload_n (gxd kX7_goes 20 rfl) rfl rfl ?_
  refine R_geti (gxd kX7_goes 21 rfl) gf_M_259 gk_65 (by decide) rfl ?_
  refine R_if_ne (gxd kX7_goes 22 rfl) (tgt := 68) rfl (fun q => ?_) (fun q => ?_)
  · replace H := giff q H
    exact R_weak (gle_same (gle_same (gle_null (gle_null (gle_null gle_nil))))) (fM_goes_68_ok  H)
  · replace H := gift q H
    refine R_aload_n (gxd kX7_goes 23 rfl) rfl rfl ?_
    refine R_getr (gxd kX7_goes 24 rfl) gf_M_39 gk_65 (by decide) rfl ?_
    refine R_aload_n (gxd kX7_goes 25 rfl) rfl rfl ?_
    refine R_geti (gxd kX7_goes 26 rfl) gf_M_262 gk_65 (by decide) rfl ?_
    refine R_bipush (v := (10 : Int32)) (gxd kX7_goes 27 rfl) rfl ?_
    refine R_iload_n (gxd kX7_goes 28 rfl) rfl rfl ?_
    refine R_imul (gxd kX7_goes 29 rfl) ?_
    refine R_iload_n (gxd kX7_goes 30 rfl) rfl rfl ?_
    refine R_iadd (gxd kX7_goes 31 rfl) ?_
    obtain ⟨b13, H⟩ := ggi H
    have b13 := gin_in b13
    refine R_iast (gxd kX7_goes 32 rfl) gk_74 b13 ?_
    obtain ⟨h14, e15, H⟩ := glei H
    refine R_heq e15 ?_
    refine R_aload_n (gxd kX7_goes 33 rfl) rfl rfl ?_
    refine R_getr (gxd kX7_goes 34 rfl) gf_M_42 gk_65 (by decide) rfl ?_
    refine R_aload_n (gxd kX7_goes 35 rfl) rfl rfl ?_
    refine R_geti (gxd kX7_goes 36 rfl) gf_M_262 gk_65 (by decide) rfl ?_
    refine R_iload_n (gxd kX7_goes 37 rfl) rfl rfl ?_
    obtain ⟨b16, H⟩ := ggi H
    have b16 := gin_in b16
    refine R_iast (gxd kX7_goes 38 rfl) gk_75 b16 ?_
    obtain ⟨h17, e18, H⟩ := glei H
    refine R_heq e18 ?_
    refine R_aload_n (gxd kX7_goes 39 rfl) rfl rfl ?_
    refine R_dup (gxd kX7_goes 40 rfl) rfl ?_
    refine R_geti (gxd kX7_goes 41 rfl) gf_M_262 gk_65 (by decide) rfl ?_
    refine R_iconst (v := (1 : Int32)) (gxd kX7_goes 42 rfl) rfl ?_
    refine R_iadd (gxd kX7_goes 43 rfl) ?_
    refine R_puti (gxd kX7_goes 44 rfl) gf_M_262 gp_7_15 gk_65 (by decide) rfl ?_
    exact R_weak (gle_same (gle_same (gle_null (gle_null (gle_null gle_nil))))) (fM_goes_68_ok  H)
def fM_keeps_15 (v1 : Int32) (v3 : Int32) (v4 : Int32) : Nat → Int32 → gH → Option gH
  | 0, _, _ => none
  | n + 1, v5, h =>
    if v5 < (10 : Int32) then
      if (h 65 2) = (0 : Int32) then
        if ((v4 >>> (v5 &&& 31)) &&& (1 : Int32)) = (1 : Int32) then
          (fM_goes v1 v5 v3 h).bind fun h2 =>
          fM_keeps_15 v1 v3 v4 n (v5 + (1 : Int32)) h2
        else
          fM_keeps_15 v1 v3 v4 n (v5 + (1 : Int32)) h
      else
        some h
    else
      some h
theorem fM_keeps_15_ok {d : Nat} {v1 : Int32} {v3 : Int32} {v4 : Int32}  : ∀ (n : Nat) (v5 : Int32) (h : gH) (x : gH), fM_keeps_15 v1 v3 v4 n v5 h = some x → gR RX7 cX7_keeps 6 none (d + 1) 15 [.ref 65, .int v1, .null, .int v3, .int v4, .int v5] [] h none x := by
  intro n
  induction n with
  | zero => intro v5 h x  H; exact g0 H
  | succ n ih =>
    intro v5 h x  H
    unfold fM_keeps_15 at H
    refine R_iload (gxd kX7_keeps 11 rfl) rfl ?_
    refine R_bipush (v := (10 : Int32)) (gxd kX7_keeps 12 rfl) rfl ?_
    refine R_icmp_ge (gxd kX7_keeps 13 rfl) (tgt := 54) rfl (fun q => ?_) (fun q => ?_)
    · replace H := giff q H
      obtain rfl := Option.some.inj H
      exact R_vret (gxd kX7_keeps 31 rfl) rfl
    · replace H := gift q H
      refine R_aload_n (gxd kX7_keeps 14 rfl) rfl rfl ?_
      refine R_geti (gxd kX7_keeps 15 rfl) gf_M_229 gk_65 (by decide) rfl ?_
      refine R_if_ne (gxd kX7_keeps 16 rfl) (tgt := 54) rfl (fun q => ?_) (fun q => ?_)
      · replace H := giff q H
        obtain rfl := Option.some.inj H
        exact R_vret (gxd kX7_keeps 31 rfl) rfl
      · replace H := gift q H
        refine R_iload (gxd kX7_keeps 17 rfl) rfl ?_
        refine R_iload (gxd kX7_keeps 18 rfl) rfl ?_
        refine R_ishr (gxd kX7_keeps 19 rfl) ?_
        refine R_iconst (v := (1 : Int32)) (gxd kX7_keeps 20 rfl) rfl ?_
        refine R_iand (gxd kX7_keeps 21 rfl) ?_
        refine R_iconst (v := (1 : Int32)) (gxd kX7_keeps 22 rfl) rfl ?_
        refine R_icmp_ne (gxd kX7_keeps 23 rfl) (tgt := 48) rfl (fun q => ?_) (fun q => ?_)
        · replace H := giff q H
          refine R_iinc (v := (v5 + (1 : Int32))) (gxd kX7_keeps 29 rfl) rfl rfl rfl (Nat.le_of_ble_eq_true rfl) rfl ?_
          refine R_goto (gxd kX7_keeps 30 rfl) (tgt := 15) rfl ?_
          exact R_weak (gle_same (gle_same (gle_null (gle_same (gle_same (gle_same gle_nil)))))) (ih _ _ _  H)
        · replace H := gift q H
          refine R_aload_n (gxd kX7_keeps 24 rfl) rfl rfl ?_
          refine R_iload_n (gxd kX7_keeps 25 rfl) rfl rfl ?_
          refine R_iload (gxd kX7_keeps 26 rfl) rfl ?_
          refine R_iload_n (gxd kX7_keeps 27 rfl) rfl rfl ?_
          obtain ⟨h2, e3, H⟩ := gbi H
          refine R_callVv (gxd kX7_keeps 28 rfl) gm_M_265 wX7_goes (by decide) gk_65 rfl rfl (Nat.le_of_ble_eq_true rfl) (by omega) (fM_goes_ok  e3 (d + 0)) ?_
          refine R_iinc (v := (v5 + (1 : Int32))) (gxd kX7_keeps 29 rfl) rfl rfl rfl (Nat.le_of_ble_eq_true rfl) rfl ?_
          refine R_goto (gxd kX7_keeps 30 rfl) (tgt := 15) rfl ?_
          exact R_weak (gle_same (gle_same (gle_null (gle_same (gle_same (gle_same gle_nil)))))) (ih _ _ _  H)
def fM_keeps (v1 : Int32) (v2 : Int32) (v3 : Int32) (h : gH) : Option gH :=
  gg (gin v1 8) <|
  fM_keeps_15 v1 v3 ((h 66 v1.toNatClampNeg) &&& (v2 ^^^ (-1 : Int32))) gfu (0 : Int32) h
theorem fM_keeps_ok {v1 : Int32} {v2 : Int32} {v3 : Int32} {h : gH} {x : gH} (H : fM_keeps v1 v2 v3 h = some x) (d : Nat) : gC yX7_keeps cX7_keeps 6 none (d + 1) [.ref 65, .int v1, .int v2, .int v3] h none x := by
  refine gC_of (by decide +kernel) (Nat.le_of_ble_eq_true rfl) rfl ?_
  unfold fM_keeps at H
  refine R_aload_n (gxd kX7_keeps 0 rfl) rfl rfl ?_
  refine R_getr (gxd kX7_keeps 1 rfl) gf_M_13 gk_65 (by decide) rfl ?_
  refine R_iload_n (gxd kX7_keeps 2 rfl) rfl rfl ?_
  obtain ⟨b1, H⟩ := ggi H
  have b1 := gin_in b1
  refine R_iald (gxd kX7_keeps 3 rfl) gk_66 b1 ?_
  refine R_iload_n (gxd kX7_keeps 4 rfl) rfl rfl ?_
  refine R_iconst (v := (-1 : Int32)) (gxd kX7_keeps 5 rfl) rfl ?_
  refine R_ixor (gxd kX7_keeps 6 rfl) ?_
  refine R_iand (gxd kX7_keeps 7 rfl) ?_
  refine R_istore (gxd kX7_keeps 8 rfl) rfl (Nat.le_of_ble_eq_true rfl) rfl ?_
  refine R_iconst (v := (0 : Int32)) (gxd kX7_keeps 9 rfl) rfl ?_
  refine R_istore (gxd kX7_keeps 10 rfl) rfl (Nat.le_of_ble_eq_true rfl) rfl ?_
  exact R_weak (gle_same (gle_same (gle_null (gle_same (gle_same (gle_same gle_nil)))))) (fM_keeps_15_ok  gfu _ _ _  H)
def fM_isAlone_2 (v1 : Int32) (v2 : Int32) : Nat → Int32 → gH → Option (Int32 × gH)
  | 0, _, _ => none
  | n + 1, v3, h =>
    if v3 < (8 : Int32) then
      if v3 = v2 then
        fM_isAlone_2 v1 v2 n (v3 + (1 : Int32)) h
      else
        gg (gin v1 24) <|
        if (((h 68 v1.toNatClampNeg) >>> (v3 &&& 31)) &&& (1 : Int32)) = (1 : Int32) then
          gg (gin v3 8) <|
          (fM_pairOf v1 v3 h).bind fun p3 =>
          if (h 66 v3.toNatClampNeg) = ((1 : Int32) <<< (p3.1 &&& 31)) then
            fM_isAlone_2 v1 v2 n (v3 + (1 : Int32)) p3.2
          else
            some ((0 : Int32), p3.2)
        else
          fM_isAlone_2 v1 v2 n (v3 + (1 : Int32)) h
    else
      some ((1 : Int32), h)
theorem fM_isAlone_2_ok {d : Nat} {v1 : Int32} {v2 : Int32}  : ∀ (n : Nat) (v3 : Int32) (h : gH) (x : (Int32 × gH)), fM_isAlone_2 v1 v2 n v3 h = some x → gR RX7 cX7_isAlone 4 (some .boolean) (d + 1) 2 [.ref 65, .int v1, .int v2, .int v3] [] h (some (.int x.1)) x.2 := by
  intro n
  induction n with
  | zero => intro v3 h x  H; exact g0 H
  | succ n ih =>
    intro v3 h x  H
    unfold fM_isAlone_2 at H
    refine R_iload_n (gxd kX7_isAlone 2 rfl) rfl rfl ?_
    refine R_bipush (v := (8 : Int32)) (gxd kX7_isAlone 3 rfl) rfl ?_
    refine R_icmp_ge (gxd kX7_isAlone 4 rfl) (tgt := 52) rfl (fun q => ?_) (fun q => ?_)
    · replace H := giff q H
      refine R_iconst (v := (1 : Int32)) (gxd kX7_isAlone 33 rfl) rfl ?_
      obtain rfl := Option.some.inj H
      exact R_zret (gxd kX7_isAlone 34 rfl) rfl (Or.inr rfl)
    · replace H := gift q H
      refine R_iload_n (gxd kX7_isAlone 5 rfl) rfl rfl ?_
      refine R_iload_n (gxd kX7_isAlone 6 rfl) rfl rfl ?_
      refine R_icmp_eq (gxd kX7_isAlone 7 rfl) (tgt := 46) rfl (fun q => ?_) (fun q => ?_)
      · replace H := gift q H
        refine R_iinc (v := (v3 + (1 : Int32))) (gxd kX7_isAlone 31 rfl) rfl rfl rfl (Nat.le_of_ble_eq_true rfl) rfl ?_
        refine R_goto (gxd kX7_isAlone 32 rfl) (tgt := 2) rfl ?_
        exact R_weak (gle_same (gle_same (gle_same (gle_same gle_nil)))) (ih _ _ _  H)
      · replace H := giff q H
        refine R_aload_n (gxd kX7_isAlone 8 rfl) rfl rfl ?_
        refine R_getr (gxd kX7_isAlone 9 rfl) gf_M_20 gk_65 (by decide) rfl ?_
        refine R_iload_n (gxd kX7_isAlone 10 rfl) rfl rfl ?_
        obtain ⟨b1, H⟩ := ggi H
        have b1 := gin_in b1
        refine R_iald (gxd kX7_isAlone 11 rfl) gk_68 b1 ?_
        refine R_iload_n (gxd kX7_isAlone 12 rfl) rfl rfl ?_
        refine R_ishr (gxd kX7_isAlone 13 rfl) ?_
        refine R_iconst (v := (1 : Int32)) (gxd kX7_isAlone 14 rfl) rfl ?_
        refine R_iand (gxd kX7_isAlone 15 rfl) ?_
        refine R_iconst (v := (1 : Int32)) (gxd kX7_isAlone 16 rfl) rfl ?_
        refine R_icmp_ne (gxd kX7_isAlone 17 rfl) (tgt := 46) rfl (fun q => ?_) (fun q => ?_)
        · replace H := giff q H
          refine R_iinc (v := (v3 + (1 : Int32))) (gxd kX7_isAlone 31 rfl) rfl rfl rfl (Nat.le_of_ble_eq_true rfl) rfl ?_
          refine R_goto (gxd kX7_isAlone 32 rfl) (tgt := 2) rfl ?_
          exact R_weak (gle_same (gle_same (gle_same (gle_same gle_nil)))) (ih _ _ _  H)
        · replace H := gift q H
          refine R_aload_n (gxd kX7_isAlone 18 rfl) rfl rfl ?_
          refine R_getr (gxd kX7_isAlone 19 rfl) gf_M_13 gk_65 (by decide) rfl ?_
          refine R_iload_n (gxd kX7_isAlone 20 rfl) rfl rfl ?_
          obtain ⟨b2, H⟩ := ggi H
          have b2 := gin_in b2
          refine R_iald (gxd kX7_isAlone 21 rfl) gk_66 b2 ?_
          refine R_iconst (v := (1 : Int32)) (gxd kX7_isAlone 22 rfl) rfl ?_
          refine R_aload_n (gxd kX7_isAlone 23 rfl) rfl rfl ?_
          refine R_iload_n (gxd kX7_isAlone 24 rfl) rfl rfl ?_
          refine R_iload_n (gxd kX7_isAlone 25 rfl) rfl rfl ?_
          obtain ⟨p3, e4, H⟩ := gbi H
          refine R_callVi (gxd kX7_isAlone 26 rfl) gm_M_273 wX7_pairOf (by decide) gk_65 rfl rfl (Nat.le_of_ble_eq_true rfl) (by omega) (fM_pairOf_ok  e4 (d + 0)) ?_
          refine R_ishl (gxd kX7_isAlone 27 rfl) ?_
          refine R_icmp_eq (gxd kX7_isAlone 28 rfl) (tgt := 46) rfl (fun q => ?_) (fun q => ?_)
          · replace H := gift q H
            refine R_iinc (v := (v3 + (1 : Int32))) (gxd kX7_isAlone 31 rfl) rfl rfl rfl (Nat.le_of_ble_eq_true rfl) rfl ?_
            refine R_goto (gxd kX7_isAlone 32 rfl) (tgt := 2) rfl ?_
            exact R_weak (gle_same (gle_same (gle_same (gle_same gle_nil)))) (ih _ _ _  H)
          · replace H := giff q H
            refine R_iconst (v := (0 : Int32)) (gxd kX7_isAlone 29 rfl) rfl ?_
            obtain rfl := Option.some.inj H
            exact R_zret (gxd kX7_isAlone 30 rfl) rfl (Or.inl rfl)
def fM_isAlone (v1 : Int32) (v2 : Int32) (h : gH) : Option (Int32 × gH) :=
  fM_isAlone_2 v1 v2 gfu (0 : Int32) h
theorem fM_isAlone_ok {v1 : Int32} {v2 : Int32} {h : gH} {x : (Int32 × gH)} (H : fM_isAlone v1 v2 h = some x) (d : Nat) : gC yX7_isAlone cX7_isAlone 4 (some .boolean) (d + 1) [.ref 65, .int v1, .int v2] h (some (.int x.1)) x.2 := by
  refine gC_of (by decide +kernel) (Nat.le_of_ble_eq_true rfl) rfl ?_
  unfold fM_isAlone at H
  refine R_iconst (v := (0 : Int32)) (gxd kX7_isAlone 0 rfl) rfl ?_
  refine R_istore_n (gxd kX7_isAlone 1 rfl) rfl rfl (Nat.le_of_ble_eq_true rfl) rfl ?_
  exact R_weak (gle_same (gle_same (gle_same (gle_same gle_nil)))) (fM_isAlone_2_ok  gfu _ _ _  H)
def fM_queues_2 (v1 : Int32) (v2 : Int32) : Nat → Int32 → gH → Option gH
  | 0, _, _ => none
  | n + 1, v3, h =>
    (fM_allRules h).bind fun p1 =>
    if v3 < p1.1 then
      if (p1.2 65 2) = (0 : Int32) then
        (fM_ruleAt v3 p1.2).bind fun p3 =>
        if p3.1 = v2 then
          fM_queues_2 v1 v2 n (v3 + (1 : Int32)) p3.2
        else
          gg (gin p3.1 24) <|
          if ((p3.2 68 p3.1.toNatClampNeg) &&& v1) = (0 : Int32) then
            fM_queues_2 v1 v2 n (v3 + (1 : Int32)) p3.2
          else
            gg (gin p3.1 24) <|
            glet (hu p3.2 71 p3.1.toNatClampNeg (1 : Int32)) fun h7 =>
            fM_queues_2 v1 v2 n (v3 + (1 : Int32)) h7
      else
        some p1.2
    else
      some p1.2
theorem fM_queues_2_ok {d : Nat} {v1 : Int32} {v2 : Int32}  : ∀ (n : Nat) (v3 : Int32) (h : gH) (x : gH), fM_queues_2 v1 v2 n v3 h = some x → gR RX7 cX7_queues 5 none (d + 1) 2 [.ref 65, .int v1, .int v2, .int v3, .null] [] h none x := by
  intro n
  induction n with
  | zero => intro v3 h x  H; exact g0 H
  | succ n ih =>
    intro v3 h x  H
    unfold fM_queues_2 at H
    refine R_iload_n (gxd kX7_queues 2 rfl) rfl rfl ?_
    refine R_aload_n (gxd kX7_queues 3 rfl) rfl rfl ?_
    obtain ⟨p1, e2, H⟩ := gbi H
    refine R_callVi (gxd kX7_queues 4 rfl) gm_M_287 wX7_allRules (by decide) gk_65 rfl rfl (Nat.le_of_ble_eq_true rfl) (by omega) (fM_allRules_ok  e2 (d + 0)) ?_
    refine R_icmp_ge (gxd kX7_queues 5 rfl) (tgt := 56) rfl (fun q => ?_) (fun q => ?_)
    · replace H := giff q H
      obtain rfl := Option.some.inj H
      exact R_vret (gxd kX7_queues 30 rfl) rfl
    · replace H := gift q H
      refine R_aload_n (gxd kX7_queues 6 rfl) rfl rfl ?_
      refine R_geti (gxd kX7_queues 7 rfl) gf_M_229 gk_65 (by decide) rfl ?_
      refine R_if_ne (gxd kX7_queues 8 rfl) (tgt := 56) rfl (fun q => ?_) (fun q => ?_)
      · replace H := giff q H
        obtain rfl := Option.some.inj H
        exact R_vret (gxd kX7_queues 30 rfl) rfl
      · replace H := gift q H
        refine R_aload_n (gxd kX7_queues 9 rfl) rfl rfl ?_
        refine R_iload_n (gxd kX7_queues 10 rfl) rfl rfl ?_
        obtain ⟨p3, e4, H⟩ := gbi H
        refine R_callVi (gxd kX7_queues 11 rfl) gm_M_290 wX7_ruleAt (by decide) gk_65 rfl rfl (Nat.le_of_ble_eq_true rfl) (by omega) (fM_ruleAt_ok  e4 (d + 0)) ?_
        refine R_istore (gxd kX7_queues 12 rfl) rfl (Nat.le_of_ble_eq_true rfl) rfl ?_
        refine R_iload (gxd kX7_queues 13 rfl) rfl ?_
        refine R_iload_n (gxd kX7_queues 14 rfl) rfl rfl ?_
        refine R_icmp_eq (gxd kX7_queues 15 rfl) (tgt := 50) rfl (fun q => ?_) (fun q => ?_)
        · replace H := gift q H
          refine R_iinc (v := (v3 + (1 : Int32))) (gxd kX7_queues 28 rfl) rfl rfl rfl (Nat.le_of_ble_eq_true rfl) rfl ?_
          refine R_goto (gxd kX7_queues 29 rfl) (tgt := 2) rfl ?_
          exact R_weak (gle_same (gle_same (gle_same (gle_same (gle_null gle_nil))))) (ih _ _ _  H)
        · replace H := giff q H
          refine R_aload_n (gxd kX7_queues 16 rfl) rfl rfl ?_
          refine R_getr (gxd kX7_queues 17 rfl) gf_M_20 gk_65 (by decide) rfl ?_
          refine R_iload (gxd kX7_queues 18 rfl) rfl ?_
          obtain ⟨b5, H⟩ := ggi H
          have b5 := gin_in b5
          refine R_iald (gxd kX7_queues 19 rfl) gk_68 b5 ?_
          refine R_iload_n (gxd kX7_queues 20 rfl) rfl rfl ?_
          refine R_iand (gxd kX7_queues 21 rfl) ?_
          refine R_if_eq (gxd kX7_queues 22 rfl) (tgt := 50) rfl (fun q => ?_) (fun q => ?_)
          · replace H := gift q H
            refine R_iinc (v := (v3 + (1 : Int32))) (gxd kX7_queues 28 rfl) rfl rfl rfl (Nat.le_of_ble_eq_true rfl) rfl ?_
            refine R_goto (gxd kX7_queues 29 rfl) (tgt := 2) rfl ?_
            exact R_weak (gle_same (gle_same (gle_same (gle_same (gle_null gle_nil))))) (ih _ _ _  H)
          · replace H := giff q H
            refine R_aload_n (gxd kX7_queues 23 rfl) rfl rfl ?_
            refine R_getr (gxd kX7_queues 24 rfl) gf_M_30 gk_65 (by decide) rfl ?_
            refine R_iload (gxd kX7_queues 25 rfl) rfl ?_
            refine R_iconst (v := (1 : Int32)) (gxd kX7_queues 26 rfl) rfl ?_
            obtain ⟨b6, H⟩ := ggi H
            have b6 := gin_in b6
            refine R_zast (gxd kX7_queues 27 rfl) gk_71 b6 (Or.inr rfl) ?_
            obtain ⟨h7, e8, H⟩ := glei H
            refine R_heq e8 ?_
            refine R_iinc (v := (v3 + (1 : Int32))) (gxd kX7_queues 28 rfl) rfl rfl rfl (Nat.le_of_ble_eq_true rfl) rfl ?_
            refine R_goto (gxd kX7_queues 29 rfl) (tgt := 2) rfl ?_
            exact R_weak (gle_same (gle_same (gle_same (gle_same (gle_null gle_nil))))) (ih _ _ _  H)
def fM_queues (v1 : Int32) (v2 : Int32) (h : gH) : Option gH :=
  fM_queues_2 v1 v2 gfu (0 : Int32) h
theorem fM_queues_ok {v1 : Int32} {v2 : Int32} {h : gH} {x : gH} (H : fM_queues v1 v2 h = some x) (d : Nat) : gC yX7_queues cX7_queues 5 none (d + 1) [.ref 65, .int v1, .int v2] h none x := by
  refine gC_of (by decide +kernel) (Nat.le_of_ble_eq_true rfl) rfl ?_
  unfold fM_queues at H
  refine R_iconst (v := (0 : Int32)) (gxd kX7_queues 0 rfl) rfl ?_
  refine R_istore_n (gxd kX7_queues 1 rfl) rfl rfl (Nat.le_of_ble_eq_true rfl) rfl ?_
  exact R_weak (gle_same (gle_same (gle_same (gle_same (gle_null gle_nil))))) (fM_queues_2_ok  gfu _ _ _  H)
def fM_prunes_231 (v1 : Int32) (h : gH) : Option gH :=
  (fM_queues (h 65 35) v1 h).bind fun h9 =>
  some h9
theorem fM_prunes_231_ok {d : Nat} {v1 : Int32}  {h : gH} {x : gH} (H : fM_prunes_231 v1  h = some x) : gR RX7 cX7_prunes 6 none (d + 3) 231 [.ref 65, .int v1, .null, .null, .null, .null] [] h none x := by
  unfold fM_prunes_231 at H
  refine R_aload_n (gxd kX7_prunes 139 rfl) rfl rfl ?_
  refine R_aload_n (gxd kX7_prunes 140 rfl) rfl rfl ?_
  refine R_geti (gxd kX7_prunes 141 rfl) gf_M_256 gk_65 (by decide) rfl ?_
  refine R_iload_n (gxd kX7_prunes 142 rfl) rfl rfl ?_
  obtain ⟨h9, e10, H⟩ := gbi H
  refine R_callVv (gxd kX7_prunes 143 rfl) gm_M_283 wX7_queues (by decide) gk_65 rfl rfl (Nat.le_of_ble_eq_true rfl) (by omega) (fM_queues_ok  e10 (d + 1)) ?_
  obtain rfl := Option.some.inj H
  exact R_vret (gxd kX7_prunes 144 rfl) rfl
def fM_prunes_201 (v1 : Int32) (v4 : Int32) (v5 : Int32) (h : gH) : Option gH :=
  if (2 : Int32) < v5 then
    if (h 65 2) = (0 : Int32) then
      gg (gin v1 24) <|
      (fM_variable (h 68 v1.toNatClampNeg) (2 : Int32) h).bind fun p12 =>
      (fM_keeps p12.1 v4 v1 p12.2).bind fun h14 =>
      fM_prunes_231 v1 h14
    else
      fM_prunes_231 v1 h
  else
    fM_prunes_231 v1 h
theorem fM_prunes_201_ok {d : Nat} {v1 : Int32} {v4 : Int32} {v5 : Int32}  {h : gH} {x : gH} (H : fM_prunes_201 v1 v4 v5  h = some x) : gR RX7 cX7_prunes 6 none (d + 3) 201 [.ref 65, .int v1, .null, .null, .int v4, .int v5] [] h none x := by
  unfold fM_prunes_201 at H
  refine R_iload (gxd kX7_prunes 123 rfl) rfl ?_
  refine R_iconst (v := (2 : Int32)) (gxd kX7_prunes 124 rfl) rfl ?_
  refine R_icmp_le (gxd kX7_prunes 125 rfl) (tgt := 231) rfl (fun q => ?_) (fun q => ?_)
  · replace H := giff q H
    exact R_weak (gle_same (gle_same (gle_null (gle_null (gle_null (gle_null gle_nil)))))) (fM_prunes_231_ok  H)
  · replace H := gift q H
    refine R_aload_n (gxd kX7_prunes 126 rfl) rfl rfl ?_
    refine R_geti (gxd kX7_prunes 127 rfl) gf_M_229 gk_65 (by decide) rfl ?_
    refine R_if_ne (gxd kX7_prunes 128 rfl) (tgt := 231) rfl (fun q => ?_) (fun q => ?_)
    · replace H := giff q H
      exact R_weak (gle_same (gle_same (gle_null (gle_null (gle_null (gle_null gle_nil)))))) (fM_prunes_231_ok  H)
    · replace H := gift q H
      refine R_aload_n (gxd kX7_prunes 129 rfl) rfl rfl ?_
      refine R_aload_n (gxd kX7_prunes 130 rfl) rfl rfl ?_
      refine R_getr (gxd kX7_prunes 131 rfl) gf_M_20 gk_65 (by decide) rfl ?_
      refine R_iload_n (gxd kX7_prunes 132 rfl) rfl rfl ?_
      obtain ⟨b11, H⟩ := ggi H
      have b11 := gin_in b11
      refine R_iald (gxd kX7_prunes 133 rfl) gk_68 b11 ?_
      refine R_iconst (v := (2 : Int32)) (gxd kX7_prunes 134 rfl) rfl ?_
      obtain ⟨p12, e13, H⟩ := gbi H
      refine R_callSi (gxd kX7_prunes 135 rfl) gm_M_235 wX7_variable (by decide) rfl (Nat.le_of_ble_eq_true rfl) (by omega) (fM_variable_ok  e13 (d + 2)) ?_
      refine R_iload (gxd kX7_prunes 136 rfl) rfl ?_
      refine R_iload_n (gxd kX7_prunes 137 rfl) rfl rfl ?_
      obtain ⟨h14, e15, H⟩ := gbi H
      refine R_callVv (gxd kX7_prunes 138 rfl) gm_M_276 wX7_keeps (by decide) gk_65 rfl rfl (Nat.le_of_ble_eq_true rfl) (by omega) (fM_keeps_ok  e15 (d + 1)) ?_
      exact R_weak (gle_same (gle_same (gle_null (gle_null (gle_null (gle_null gle_nil)))))) (fM_prunes_231_ok  H)
def fM_prunes_172 (v1 : Int32) (v3 : Int32) (v4 : Int32) (v5 : Int32) (h : gH) : Option gH :=
  if (1 : Int32) < v5 then
    if (h 65 2) = (0 : Int32) then
      gg (gin v1 24) <|
      (fM_variable (h 68 v1.toNatClampNeg) (1 : Int32) h).bind fun p17 =>
      (fM_keeps p17.1 v3 v1 p17.2).bind fun h19 =>
      fM_prunes_201 v1 v4 v5 h19
    else
      fM_prunes_201 v1 v4 v5 h
  else
    fM_prunes_201 v1 v4 v5 h
theorem fM_prunes_172_ok {d : Nat} {v1 : Int32} {v3 : Int32} {v4 : Int32} {v5 : Int32}  {h : gH} {x : gH} (H : fM_prunes_172 v1 v3 v4 v5  h = some x) : gR RX7 cX7_prunes 6 none (d + 3) 172 [.ref 65, .int v1, .null, .int v3, .int v4, .int v5] [] h none x := by
  unfold fM_prunes_172 at H
  refine R_iload (gxd kX7_prunes 107 rfl) rfl ?_
  refine R_iconst (v := (1 : Int32)) (gxd kX7_prunes 108 rfl) rfl ?_
  refine R_icmp_le (gxd kX7_prunes 109 rfl) (tgt := 201) rfl (fun q => ?_) (fun q => ?_)
  · replace H := giff q H
    exact R_weak (gle_same (gle_same (gle_null (gle_null (gle_same (gle_same gle_nil)))))) (fM_prunes_201_ok  H)
  · replace H := gift q H
    refine R_aload_n (gxd kX7_prunes 110 rfl) rfl rfl ?_
    refine R_geti (gxd kX7_prunes 111 rfl) gf_M_229 gk_65 (by decide) rfl ?_
    refine R_if_ne (gxd kX7_prunes 112 rfl) (tgt := 201) rfl (fun q => ?_) (fun q => ?_)
    · replace H := giff q H
      exact R_weak (gle_same (gle_same (gle_null (gle_null (gle_same (gle_same gle_nil)))))) (fM_prunes_201_ok  H)
    · replace H := gift q H
      refine R_aload_n (gxd kX7_prunes 113 rfl) rfl rfl ?_
      refine R_aload_n (gxd kX7_prunes 114 rfl) rfl rfl ?_
      refine R_getr (gxd kX7_prunes 115 rfl) gf_M_20 gk_65 (by decide) rfl ?_
      refine R_iload_n (gxd kX7_prunes 116 rfl) rfl rfl ?_
      obtain ⟨b16, H⟩ := ggi H
      have b16 := gin_in b16
      refine R_iald (gxd kX7_prunes 117 rfl) gk_68 b16 ?_
      refine R_iconst (v := (1 : Int32)) (gxd kX7_prunes 118 rfl) rfl ?_
      obtain ⟨p17, e18, H⟩ := gbi H
      refine R_callSi (gxd kX7_prunes 119 rfl) gm_M_235 wX7_variable (by decide) rfl (Nat.le_of_ble_eq_true rfl) (by omega) (fM_variable_ok  e18 (d + 2)) ?_
      refine R_iload_n (gxd kX7_prunes 120 rfl) rfl rfl ?_
      refine R_iload_n (gxd kX7_prunes 121 rfl) rfl rfl ?_
      obtain ⟨h19, e20, H⟩ := gbi H
      refine R_callVv (gxd kX7_prunes 122 rfl) gm_M_276 wX7_keeps (by decide) gk_65 rfl rfl (Nat.le_of_ble_eq_true rfl) (by omega) (fM_keeps_ok  e20 (d + 1)) ?_
      exact R_weak (gle_same (gle_same (gle_null (gle_null (gle_same (gle_same gle_nil)))))) (fM_prunes_201_ok  H)
def fM_prunes_66 (v1 : Int32) (v2 : Int32) : Nat → Int32 → gH → Option gH
  | 0, _, _ => none
  | n + 1, v3, h =>
    if v3 < (8 : Int32) then
      if (h 65 2) = (0 : Int32) then
        if ((v2 >>> (v3 &&& 31)) &&& (1 : Int32)) = (1 : Int32) then
          (fM_pairOf v1 v3 h).bind fun p26 =>
          (fM_keeps v3 (((1 : Int32) <<< (p26.1 &&& 31)) ^^^ (-1 : Int32)) v1 p26.2).bind fun h28 =>
          fM_prunes_66 v1 v2 n (v3 + (1 : Int32)) h28
        else
          fM_prunes_66 v1 v2 n (v3 + (1 : Int32)) h
      else
        fM_prunes_231 v1 h
    else
      fM_prunes_231 v1 h
theorem fM_prunes_66_ok {d : Nat} {v1 : Int32} {v2 : Int32}  : ∀ (n : Nat) (v3 : Int32) (h : gH) (x : gH), fM_prunes_66 v1 v2 n v3 h = some x → gR RX7 cX7_prunes 6 none (d + 3) 66 [.ref 65, .int v1, .int v2, .int v3, .null, .null] [] h none x := by
  intro n
  induction n with
  | zero => intro v3 h x  H; exact g0 H
  | succ n ih =>
    intro v3 h x  H
    unfold fM_prunes_66 at H
    refine R_iload_n (gxd kX7_prunes 43 rfl) rfl rfl ?_
    refine R_bipush (v := (8 : Int32)) (gxd kX7_prunes 44 rfl) rfl ?_
    refine R_icmp_ge (gxd kX7_prunes 45 rfl) (tgt := 110) rfl (fun q => ?_) (fun q => ?_)
    · replace H := giff q H
      refine R_goto (gxd kX7_prunes 70 rfl) (tgt := 231) rfl ?_
      exact R_weak (gle_same (gle_same (gle_null (gle_null (gle_null (gle_null gle_nil)))))) (fM_prunes_231_ok  H)
    · replace H := gift q H
      refine R_aload_n (gxd kX7_prunes 46 rfl) rfl rfl ?_
      refine R_geti (gxd kX7_prunes 47 rfl) gf_M_229 gk_65 (by decide) rfl ?_
      refine R_if_ne (gxd kX7_prunes 48 rfl) (tgt := 110) rfl (fun q => ?_) (fun q => ?_)
      · replace H := giff q H
        refine R_goto (gxd kX7_prunes 70 rfl) (tgt := 231) rfl ?_
        exact R_weak (gle_same (gle_same (gle_null (gle_null (gle_null (gle_null gle_nil)))))) (fM_prunes_231_ok  H)
      · replace H := gift q H
        refine R_iload_n (gxd kX7_prunes 49 rfl) rfl rfl ?_
        refine R_iload_n (gxd kX7_prunes 50 rfl) rfl rfl ?_
        refine R_ishr (gxd kX7_prunes 51 rfl) ?_
        refine R_iconst (v := (1 : Int32)) (gxd kX7_prunes 52 rfl) rfl ?_
        refine R_iand (gxd kX7_prunes 53 rfl) ?_
        refine R_iconst (v := (1 : Int32)) (gxd kX7_prunes 54 rfl) rfl ?_
        refine R_icmp_ne (gxd kX7_prunes 55 rfl) (tgt := 104) rfl (fun q => ?_) (fun q => ?_)
        · replace H := giff q H
          refine R_iinc (v := (v3 + (1 : Int32))) (gxd kX7_prunes 68 rfl) rfl rfl rfl (Nat.le_of_ble_eq_true rfl) rfl ?_
          refine R_goto (gxd kX7_prunes 69 rfl) (tgt := 66) rfl ?_
          exact R_weak (gle_same (gle_same (gle_same (gle_same (gle_null (gle_null gle_nil)))))) (ih _ _ _  H)
        · replace H := gift q H
          refine R_aload_n (gxd kX7_prunes 56 rfl) rfl rfl ?_
          refine R_iload_n (gxd kX7_prunes 57 rfl) rfl rfl ?_
          refine R_iconst (v := (1 : Int32)) (gxd kX7_prunes 58 rfl) rfl ?_
          refine R_aload_n (gxd kX7_prunes 59 rfl) rfl rfl ?_
          refine R_iload_n (gxd kX7_prunes 60 rfl) rfl rfl ?_
          refine R_iload_n (gxd kX7_prunes 61 rfl) rfl rfl ?_
          obtain ⟨p26, e27, H⟩ := gbi H
          refine R_callVi (gxd kX7_prunes 62 rfl) gm_M_273 wX7_pairOf (by decide) gk_65 rfl rfl (Nat.le_of_ble_eq_true rfl) (by omega) (fM_pairOf_ok  e27 (d + 2)) ?_
          refine R_ishl (gxd kX7_prunes 63 rfl) ?_
          refine R_iconst (v := (-1 : Int32)) (gxd kX7_prunes 64 rfl) rfl ?_
          refine R_ixor (gxd kX7_prunes 65 rfl) ?_
          refine R_iload_n (gxd kX7_prunes 66 rfl) rfl rfl ?_
          obtain ⟨h28, e29, H⟩ := gbi H
          refine R_callVv (gxd kX7_prunes 67 rfl) gm_M_276 wX7_keeps (by decide) gk_65 rfl rfl (Nat.le_of_ble_eq_true rfl) (by omega) (fM_keeps_ok  e29 (d + 1)) ?_
          refine R_iinc (v := (v3 + (1 : Int32))) (gxd kX7_prunes 68 rfl) rfl rfl rfl (Nat.le_of_ble_eq_true rfl) rfl ?_
          refine R_goto (gxd kX7_prunes 69 rfl) (tgt := 66) rfl ?_
          exact R_weak (gle_same (gle_same (gle_same (gle_same (gle_null (gle_null gle_nil)))))) (ih _ _ _  H)
def fM_prunes_54 (k19 : Int32 → Int32 → gH → Option gH) (v1 : Int32) (v3 : Int32) (s0 : Int32) (s1 : Int32) (h : gH) : Option gH :=
  k19 (s0 ||| (s1 <<< (v3 &&& 31))) (v3 + (1 : Int32)) h
theorem fM_prunes_54_ok {d : Nat} {k19 : Int32 → Int32 → gH → Option gH} {v1 : Int32} {v3 : Int32} {s0 : Int32} {s1 : Int32} (hk19 : ∀ (u2 : Int32) (u3 : Int32) (h : gH) (x : gH), k19 u2 u3 h = some x → gR RX7 cX7_prunes 6 none (d + 3) 19 [.ref 65, .int v1, .int u2, .int u3, .null, .null] [] h none x) {h : gH} {x : gH} (H : fM_prunes_54 k19 v1 v3 s0 s1 h = some x) : gR RX7 cX7_prunes 6 none (d + 3) 54 [.ref 65, .int v1, .null, .int v3, .null, .null] [.int s1, .int s0] h none x := by
  unfold fM_prunes_54 at H
  refine R_iload_n (gxd kX7_prunes 35 rfl) rfl rfl ?_
  refine R_ishl (gxd kX7_prunes 36 rfl) ?_
  refine R_ior (gxd kX7_prunes 37 rfl) ?_
  refine R_istore_n (gxd kX7_prunes 38 rfl) rfl rfl (Nat.le_of_ble_eq_true rfl) rfl ?_
  refine R_iinc (v := (v3 + (1 : Int32))) (gxd kX7_prunes 39 rfl) rfl rfl rfl (Nat.le_of_ble_eq_true rfl) rfl ?_
  refine R_goto (gxd kX7_prunes 40 rfl) (tgt := 19) rfl ?_
  exact R_weak (gle_same (gle_same (gle_same (gle_same (gle_null (gle_null gle_nil)))))) (hk19 _ _ _ _  H)
def fM_prunes_53 (k19 : Int32 → Int32 → gH → Option gH) (v1 : Int32) (v3 : Int32) (s0 : Int32) (h : gH) : Option gH :=
  fM_prunes_54 k19 v1 v3 s0 (0 : Int32) h
theorem fM_prunes_53_ok {d : Nat} {k19 : Int32 → Int32 → gH → Option gH} {v1 : Int32} {v3 : Int32} {s0 : Int32} (hk19 : ∀ (u2 : Int32) (u3 : Int32) (h : gH) (x : gH), k19 u2 u3 h = some x → gR RX7 cX7_prunes 6 none (d + 3) 19 [.ref 65, .int v1, .int u2, .int u3, .null, .null] [] h none x) {h : gH} {x : gH} (H : fM_prunes_53 k19 v1 v3 s0 h = some x) : gR RX7 cX7_prunes 6 none (d + 3) 53 [.ref 65, .int v1, .null, .int v3, .null, .null] [.int s0] h none x := by
  unfold fM_prunes_53 at H
  refine R_iconst (v := (0 : Int32)) (gxd kX7_prunes 34 rfl) rfl ?_
  exact R_weak (gle_same (gle_same (gle_null (gle_same (gle_null (gle_null gle_nil)))))) (fM_prunes_54_ok hk19  H)
def fM_prunes_19 (v1 : Int32) : Nat → Int32 → Int32 → gH → Option gH
  | 0, _, _, _ => none
  | n + 1, v2, v3, h =>
    if v3 < (8 : Int32) then
      gg (gin v1 24) <|
      if (((h 68 v1.toNatClampNeg) >>> (v3 &&& 31)) &&& (1 : Int32)) = (1 : Int32) then
        (fM_isAlone v1 v3 h).bind fun p31 =>
        if p31.1 = (0 : Int32) then
          fM_prunes_53 (fM_prunes_19 v1 n) v1 v3 v2 p31.2
        else
          fM_prunes_54 (fM_prunes_19 v1 n) v1 v3 v2 (1 : Int32) p31.2
      else
        fM_prunes_53 (fM_prunes_19 v1 n) v1 v3 v2 h
    else
      fM_prunes_66 v1 v2 gfu (0 : Int32) h
theorem fM_prunes_19_ok {d : Nat} {v1 : Int32}  : ∀ (n : Nat) (v2 : Int32) (v3 : Int32) (h : gH) (x : gH), fM_prunes_19 v1 n v2 v3 h = some x → gR RX7 cX7_prunes 6 none (d + 3) 19 [.ref 65, .int v1, .int v2, .int v3, .null, .null] [] h none x := by
  intro n
  induction n with
  | zero => intro v2 v3 h x  H; exact g0 H
  | succ n ih =>
    intro v2 v3 h x  H
    unfold fM_prunes_19 at H
    refine R_iload_n (gxd kX7_prunes 13 rfl) rfl rfl ?_
    refine R_bipush (v := (8 : Int32)) (gxd kX7_prunes 14 rfl) rfl ?_
    refine R_icmp_ge (gxd kX7_prunes 15 rfl) (tgt := 64) rfl (fun q => ?_) (fun q => ?_)
    · replace H := giff q H
      refine R_iconst (v := (0 : Int32)) (gxd kX7_prunes 41 rfl) rfl ?_
      refine R_istore_n (gxd kX7_prunes 42 rfl) rfl rfl (Nat.le_of_ble_eq_true rfl) rfl ?_
      exact R_weak (gle_same (gle_same (gle_same (gle_same (gle_null (gle_null gle_nil)))))) (fM_prunes_66_ok  gfu _ _ _  H)
    · replace H := gift q H
      refine R_iload_n (gxd kX7_prunes 16 rfl) rfl rfl ?_
      refine R_aload_n (gxd kX7_prunes 17 rfl) rfl rfl ?_
      refine R_getr (gxd kX7_prunes 18 rfl) gf_M_20 gk_65 (by decide) rfl ?_
      refine R_iload_n (gxd kX7_prunes 19 rfl) rfl rfl ?_
      obtain ⟨b30, H⟩ := ggi H
      have b30 := gin_in b30
      refine R_iald (gxd kX7_prunes 20 rfl) gk_68 b30 ?_
      refine R_iload_n (gxd kX7_prunes 21 rfl) rfl rfl ?_
      refine R_ishr (gxd kX7_prunes 22 rfl) ?_
      refine R_iconst (v := (1 : Int32)) (gxd kX7_prunes 23 rfl) rfl ?_
      refine R_iand (gxd kX7_prunes 24 rfl) ?_
      refine R_iconst (v := (1 : Int32)) (gxd kX7_prunes 25 rfl) rfl ?_
      refine R_icmp_ne (gxd kX7_prunes 26 rfl) (tgt := 53) rfl (fun q => ?_) (fun q => ?_)
      · replace H := giff q H
        exact R_weak (gle_same (gle_same (gle_null (gle_same (gle_null (gle_null gle_nil)))))) (fM_prunes_53_ok ih  H)
      · replace H := gift q H
        refine R_aload_n (gxd kX7_prunes 27 rfl) rfl rfl ?_
        refine R_iload_n (gxd kX7_prunes 28 rfl) rfl rfl ?_
        refine R_iload_n (gxd kX7_prunes 29 rfl) rfl rfl ?_
        obtain ⟨p31, e32, H⟩ := gbi H
        refine R_callVi (gxd kX7_prunes 30 rfl) gm_M_269 wX7_isAlone (by decide) gk_65 rfl rfl (Nat.le_of_ble_eq_true rfl) (by omega) (fM_isAlone_ok  e32 (d + 1)) ?_
        refine R_if_eq (gxd kX7_prunes 31 rfl) (tgt := 53) rfl (fun q => ?_) (fun q => ?_)
        · replace H := gift q H
          exact R_weak (gle_same (gle_same (gle_null (gle_same (gle_null (gle_null gle_nil)))))) (fM_prunes_53_ok ih  H)
        · replace H := giff q H
          refine R_iconst (v := (1 : Int32)) (gxd kX7_prunes 32 rfl) rfl ?_
          refine R_goto (gxd kX7_prunes 33 rfl) (tgt := 54) rfl ?_
          exact R_weak (gle_same (gle_same (gle_null (gle_same (gle_null (gle_null gle_nil)))))) (fM_prunes_54_ok ih  H)
def fM_prunes (v1 : Int32) (h : gH) : Option gH :=
  glet (hu h 65 35 (0 : Int32)) fun h1 =>
  gg (gin v1 24) <|
  if (h1 67 v1.toNatClampNeg) = (3 : Int32) then
    fM_prunes_19 v1 gfu (0 : Int32) (0 : Int32) h1
  else
    (fM_goesThrough v1 h1).bind fun h4 =>
    gg (gin v1 24) <|
    (fM_bitsOf (h4 68 v1.toNatClampNeg) h4).bind fun p7 =>
    if (0 : Int32) < p7.1 then
      gg (gin v1 24) <|
      (fM_variable (p7.2 68 v1.toNatClampNeg) (0 : Int32) p7.2).bind fun p22 =>
      (fM_keeps p22.1 (h4 81 (0 : Int32).toNatClampNeg) v1 p22.2).bind fun h24 =>
      fM_prunes_172 v1 (h4 81 (1 : Int32).toNatClampNeg) (h4 81 (2 : Int32).toNatClampNeg) p7.1 h24
    else
      fM_prunes_172 v1 (h4 81 (1 : Int32).toNatClampNeg) (h4 81 (2 : Int32).toNatClampNeg) p7.1 p7.2
theorem fM_prunes_ok {v1 : Int32} {h : gH} {x : gH} (H : fM_prunes v1 h = some x) (d : Nat) : gC yX7_prunes cX7_prunes 6 none (d + 3) [.ref 65, .int v1] h none x := by
  refine gC_of (by decide +kernel) (Nat.le_of_ble_eq_true rfl) rfl ?_
  unfold fM_prunes at H
  refine R_aload_n (gxd kX7_prunes 0 rfl) rfl rfl ?_
  refine R_iconst (v := (0 : Int32)) (gxd kX7_prunes 1 rfl) rfl ?_
  refine R_puti (gxd kX7_prunes 2 rfl) gf_M_256 gp_7_35 gk_65 (by decide) rfl ?_
  obtain ⟨h1, e2, H⟩ := glei H
  refine R_heq e2 ?_
  refine R_aload_n (gxd kX7_prunes 3 rfl) rfl rfl ?_
  refine R_getr (gxd kX7_prunes 4 rfl) gf_M_17 gk_65 (by decide) rfl ?_
  refine R_iload_n (gxd kX7_prunes 5 rfl) rfl rfl ?_
  obtain ⟨b3, H⟩ := ggi H
  have b3 := gin_in b3
  refine R_iald (gxd kX7_prunes 6 rfl) gk_67 b3 ?_
  refine R_iconst (v := (3 : Int32)) (gxd kX7_prunes 7 rfl) rfl ?_
  refine R_icmp_ne (gxd kX7_prunes 8 rfl) (tgt := 113) rfl (fun q => ?_) (fun q => ?_)
  · replace H := giff q H
    refine R_aload_n (gxd kX7_prunes 71 rfl) rfl rfl ?_
    refine R_iload_n (gxd kX7_prunes 72 rfl) rfl rfl ?_
    obtain ⟨h4, e5, H⟩ := gbi H
    refine R_callVv (gxd kX7_prunes 73 rfl) gm_M_279 wX7_goesThrough (by decide) gk_65 rfl rfl (Nat.le_of_ble_eq_true rfl) (by omega) (fM_goesThrough_ok  e5 (d + 0)) ?_
    refine R_aload_n (gxd kX7_prunes 74 rfl) rfl rfl ?_
    refine R_getr (gxd kX7_prunes 75 rfl) gf_M_60 gk_65 (by decide) rfl ?_
    refine R_iconst (v := (0 : Int32)) (gxd kX7_prunes 76 rfl) rfl ?_
    refine R_iald (gxd kX7_prunes 77 rfl) gk_81 (gin_in rfl) ?_
    refine R_istore_n (gxd kX7_prunes 78 rfl) rfl rfl (Nat.le_of_ble_eq_true rfl) rfl ?_
    refine R_aload_n (gxd kX7_prunes 79 rfl) rfl rfl ?_
    refine R_getr (gxd kX7_prunes 80 rfl) gf_M_60 gk_65 (by decide) rfl ?_
    refine R_iconst (v := (1 : Int32)) (gxd kX7_prunes 81 rfl) rfl ?_
    refine R_iald (gxd kX7_prunes 82 rfl) gk_81 (gin_in rfl) ?_
    refine R_istore_n (gxd kX7_prunes 83 rfl) rfl rfl (Nat.le_of_ble_eq_true rfl) rfl ?_
    refine R_aload_n (gxd kX7_prunes 84 rfl) rfl rfl ?_
    refine R_getr (gxd kX7_prunes 85 rfl) gf_M_60 gk_65 (by decide) rfl ?_
    refine R_iconst (v := (2 : Int32)) (gxd kX7_prunes 86 rfl) rfl ?_
    refine R_iald (gxd kX7_prunes 87 rfl) gk_81 (gin_in rfl) ?_
    refine R_istore (gxd kX7_prunes 88 rfl) rfl (Nat.le_of_ble_eq_true rfl) rfl ?_
    refine R_aload_n (gxd kX7_prunes 89 rfl) rfl rfl ?_
    refine R_getr (gxd kX7_prunes 90 rfl) gf_M_20 gk_65 (by decide) rfl ?_
    refine R_iload_n (gxd kX7_prunes 91 rfl) rfl rfl ?_
    obtain ⟨b6, H⟩ := ggi H
    have b6 := gin_in b6
    refine R_iald (gxd kX7_prunes 92 rfl) gk_68 b6 ?_
    obtain ⟨p7, e8, H⟩ := gbi H
    refine R_callSi (gxd kX7_prunes 93 rfl) gm_M_189 wX7_bitsOf (by decide) rfl (Nat.le_of_ble_eq_true rfl) (by omega) (fM_bitsOf_ok  e8 (d + 2)) ?_
    refine R_istore (gxd kX7_prunes 94 rfl) rfl (Nat.le_of_ble_eq_true rfl) rfl ?_
    refine R_iload (gxd kX7_prunes 95 rfl) rfl ?_
    refine R_if_le (gxd kX7_prunes 96 rfl) (tgt := 172) rfl (fun q => ?_) (fun q => ?_)
    · replace H := giff q H
      exact R_weak (gle_same (gle_same (gle_null (gle_same (gle_same (gle_same gle_nil)))))) (fM_prunes_172_ok  H)
    · replace H := gift q H
      refine R_aload_n (gxd kX7_prunes 97 rfl) rfl rfl ?_
      refine R_aload_n (gxd kX7_prunes 98 rfl) rfl rfl ?_
      refine R_getr (gxd kX7_prunes 99 rfl) gf_M_20 gk_65 (by decide) rfl ?_
      refine R_iload_n (gxd kX7_prunes 100 rfl) rfl rfl ?_
      obtain ⟨b21, H⟩ := ggi H
      have b21 := gin_in b21
      refine R_iald (gxd kX7_prunes 101 rfl) gk_68 b21 ?_
      refine R_iconst (v := (0 : Int32)) (gxd kX7_prunes 102 rfl) rfl ?_
      obtain ⟨p22, e23, H⟩ := gbi H
      refine R_callSi (gxd kX7_prunes 103 rfl) gm_M_235 wX7_variable (by decide) rfl (Nat.le_of_ble_eq_true rfl) (by omega) (fM_variable_ok  e23 (d + 2)) ?_
      refine R_iload_n (gxd kX7_prunes 104 rfl) rfl rfl ?_
      refine R_iload_n (gxd kX7_prunes 105 rfl) rfl rfl ?_
      obtain ⟨h24, e25, H⟩ := gbi H
      refine R_callVv (gxd kX7_prunes 106 rfl) gm_M_276 wX7_keeps (by decide) gk_65 rfl rfl (Nat.le_of_ble_eq_true rfl) (by omega) (fM_keeps_ok  e25 (d + 1)) ?_
      exact R_weak (gle_same (gle_same (gle_null (gle_same (gle_same (gle_same gle_nil)))))) (fM_prunes_172_ok  H)
  · replace H := gift q H
    refine R_iconst (v := (0 : Int32)) (gxd kX7_prunes 9 rfl) rfl ?_
    refine R_istore_n (gxd kX7_prunes 10 rfl) rfl rfl (Nat.le_of_ble_eq_true rfl) rfl ?_
    refine R_iconst (v := (0 : Int32)) (gxd kX7_prunes 11 rfl) rfl ?_
    refine R_istore_n (gxd kX7_prunes 12 rfl) rfl rfl (Nat.le_of_ble_eq_true rfl) rfl ?_
    exact R_weak (gle_same (gle_same (gle_same (gle_same (gle_null (gle_null gle_nil)))))) (fM_prunes_19_ok  gfu _ _ _ _  H)
def fM_nextRule_45 (k4 : Int32 → Int32 → gH → Option (Int32 × gH)) (v2 : Int32) (v3 : Int32) (h : gH) : Option (Int32 × gH) :=
  k4 v3 (v2 + (1 : Int32)) h
theorem fM_nextRule_45_ok {d : Nat} {k4 : Int32 → Int32 → gH → Option (Int32 × gH)} {v2 : Int32} {v3 : Int32} (hk4 : ∀ (u1 : Int32) (u2 : Int32) (h : gH) (x : (Int32 × gH)), k4 u1 u2 h = some x → gR RX7 cX7_nextRule 4 (some .int) (d + 2) 4 [.ref 65, .int u1, .int u2, .null] [] h (some (.int x.1)) x.2) {h : gH} {x : (Int32 × gH)} (H : fM_nextRule_45 k4 v2 v3  h = some x) : gR RX7 cX7_nextRule 4 (some .int) (d + 2) 45 [.ref 65, .null, .int v2, .int v3] [] h (some (.int x.1)) x.2 := by
  unfold fM_nextRule_45 at H
  refine R_iload_n (gxd kX7_nextRule 27 rfl) rfl rfl ?_
  refine R_istore_n (gxd kX7_nextRule 28 rfl) rfl rfl (Nat.le_of_ble_eq_true rfl) rfl ?_
  refine R_iinc (v := (v2 + (1 : Int32))) (gxd kX7_nextRule 29 rfl) rfl rfl rfl (Nat.le_of_ble_eq_true rfl) rfl ?_
  refine R_goto (gxd kX7_nextRule 30 rfl) (tgt := 4) rfl ?_
  exact R_weak (gle_same (gle_same (gle_same (gle_null gle_nil)))) (hk4 _ _ _ _  H)
def fM_nextRule_4 : Nat → Int32 → Int32 → gH → Option (Int32 × gH)
  | 0, _, _, _ => none
  | n + 1, v1, v2, h =>
    (fM_allRules h).bind fun p1 =>
    if v2 < p1.1 then
      (fM_ruleAt v2 p1.2).bind fun p3 =>
      gg (gin p3.1 24) <|
      if (p3.2 71 p3.1.toNatClampNeg) = (0 : Int32) then
        fM_nextRule_4 n v1 (v2 + (1 : Int32)) p3.2
      else
        if v1 = (-1 : Int32) then
          fM_nextRule_45 (fM_nextRule_4 n) v2 p3.1 p3.2
        else
          (fM_priority p3.1 p3.2).bind fun p6 =>
          (fM_priority v1 p6.2).bind fun p8 =>
          if p6.1 < p8.1 then
            fM_nextRule_45 (fM_nextRule_4 n) v2 p3.1 p8.2
          else
            fM_nextRule_4 n v1 (v2 + (1 : Int32)) p8.2
    else
      some (v1, p1.2)
theorem fM_nextRule_4_ok {d : Nat}  : ∀ (n : Nat) (v1 : Int32) (v2 : Int32) (h : gH) (x : (Int32 × gH)), fM_nextRule_4  n v1 v2 h = some x → gR RX7 cX7_nextRule 4 (some .int) (d + 2) 4 [.ref 65, .int v1, .int v2, .null] [] h (some (.int x.1)) x.2 := by
  intro n
  induction n with
  | zero => intro v1 v2 h x  H; exact g0 H
  | succ n ih =>
    intro v1 v2 h x  H
    unfold fM_nextRule_4 at H
    refine R_iload_n (gxd kX7_nextRule 4 rfl) rfl rfl ?_
    refine R_aload_n (gxd kX7_nextRule 5 rfl) rfl rfl ?_
    obtain ⟨p1, e2, H⟩ := gbi H
    refine R_callVi (gxd kX7_nextRule 6 rfl) gm_M_287 wX7_allRules (by decide) gk_65 rfl rfl (Nat.le_of_ble_eq_true rfl) (by omega) (fM_allRules_ok  e2 (d + 1)) ?_
    refine R_icmp_ge (gxd kX7_nextRule 7 rfl) (tgt := 53) rfl (fun q => ?_) (fun q => ?_)
    · replace H := giff q H
      refine R_iload_n (gxd kX7_nextRule 31 rfl) rfl rfl ?_
      obtain rfl := Option.some.inj H
      exact R_iret (gxd kX7_nextRule 32 rfl) rfl
    · replace H := gift q H
      refine R_aload_n (gxd kX7_nextRule 8 rfl) rfl rfl ?_
      refine R_iload_n (gxd kX7_nextRule 9 rfl) rfl rfl ?_
      obtain ⟨p3, e4, H⟩ := gbi H
      refine R_callVi (gxd kX7_nextRule 10 rfl) gm_M_290 wX7_ruleAt (by decide) gk_65 rfl rfl (Nat.le_of_ble_eq_true rfl) (by omega) (fM_ruleAt_ok  e4 (d + 1)) ?_
      refine R_istore_n (gxd kX7_nextRule 11 rfl) rfl rfl (Nat.le_of_ble_eq_true rfl) rfl ?_
      refine R_aload_n (gxd kX7_nextRule 12 rfl) rfl rfl ?_
      refine R_getr (gxd kX7_nextRule 13 rfl) gf_M_30 gk_65 (by decide) rfl ?_
      refine R_iload_n (gxd kX7_nextRule 14 rfl) rfl rfl ?_
      obtain ⟨b5, H⟩ := ggi H
      have b5 := gin_in b5
      refine R_zald (gxd kX7_nextRule 15 rfl) gk_71 b5 ?_
      refine R_if_eq (gxd kX7_nextRule 16 rfl) (tgt := 47) rfl (fun q => ?_) (fun q => ?_)
      · replace H := gift q H
        refine R_iinc (v := (v2 + (1 : Int32))) (gxd kX7_nextRule 29 rfl) rfl rfl rfl (Nat.le_of_ble_eq_true rfl) rfl ?_
        refine R_goto (gxd kX7_nextRule 30 rfl) (tgt := 4) rfl ?_
        exact R_weak (gle_same (gle_same (gle_same (gle_null gle_nil)))) (ih _ _ _ _  H)
      · replace H := giff q H
        refine R_iload_n (gxd kX7_nextRule 17 rfl) rfl rfl ?_
        refine R_iconst (v := (-1 : Int32)) (gxd kX7_nextRule 18 rfl) rfl ?_
        refine R_icmp_eq (gxd kX7_nextRule 19 rfl) (tgt := 45) rfl (fun q => ?_) (fun q => ?_)
        · replace H := gift q H
          exact R_weak (gle_same (gle_null (gle_same (gle_same gle_nil)))) (fM_nextRule_45_ok ih  H)
        · replace H := giff q H
          refine R_aload_n (gxd kX7_nextRule 20 rfl) rfl rfl ?_
          refine R_iload_n (gxd kX7_nextRule 21 rfl) rfl rfl ?_
          obtain ⟨p6, e7, H⟩ := gbi H
          refine R_callVi (gxd kX7_nextRule 22 rfl) gm_M_293 wX7_priority (by decide) gk_65 rfl rfl (Nat.le_of_ble_eq_true rfl) (by omega) (fM_priority_ok  e7 (d + 0)) ?_
          refine R_aload_n (gxd kX7_nextRule 23 rfl) rfl rfl ?_
          refine R_iload_n (gxd kX7_nextRule 24 rfl) rfl rfl ?_
          obtain ⟨p8, e9, H⟩ := gbi H
          refine R_callVi (gxd kX7_nextRule 25 rfl) gm_M_293 wX7_priority (by decide) gk_65 rfl rfl (Nat.le_of_ble_eq_true rfl) (by omega) (fM_priority_ok  e9 (d + 0)) ?_
          refine R_icmp_ge (gxd kX7_nextRule 26 rfl) (tgt := 47) rfl (fun q => ?_) (fun q => ?_)
          · replace H := giff q H
            refine R_iinc (v := (v2 + (1 : Int32))) (gxd kX7_nextRule 29 rfl) rfl rfl rfl (Nat.le_of_ble_eq_true rfl) rfl ?_
            refine R_goto (gxd kX7_nextRule 30 rfl) (tgt := 4) rfl ?_
            exact R_weak (gle_same (gle_same (gle_same (gle_null gle_nil)))) (ih _ _ _ _  H)
          · replace H := gift q H
            exact R_weak (gle_same (gle_null (gle_same (gle_same gle_nil)))) (fM_nextRule_45_ok ih  H)
def fM_nextRule (h : gH) : Option (Int32 × gH) :=
  fM_nextRule_4 gfu (-1 : Int32) (0 : Int32) h
theorem fM_nextRule_ok {h : gH} {x : (Int32 × gH)} (H : fM_nextRule  h = some x) (d : Nat) : gC yX7_nextRule cX7_nextRule 4 (some .int) (d + 2) [.ref 65] h (some (.int x.1)) x.2 := by
  refine gC_of (by decide +kernel) (Nat.le_of_ble_eq_true rfl) rfl ?_
  unfold fM_nextRule at H
  refine R_iconst (v := (-1 : Int32)) (gxd kX7_nextRule 0 rfl) rfl ?_
  refine R_istore_n (gxd kX7_nextRule 1 rfl) rfl rfl (Nat.le_of_ble_eq_true rfl) rfl ?_
  refine R_iconst (v := (0 : Int32)) (gxd kX7_nextRule 2 rfl) rfl ?_
  refine R_istore_n (gxd kX7_nextRule 3 rfl) rfl rfl (Nat.le_of_ble_eq_true rfl) rfl ?_
  exact R_weak (gle_same (gle_same (gle_same (gle_null gle_nil)))) (fM_nextRule_4_ok  gfu _ _ _ _  H)
def fM_step (h : gH) : Option (Int32 × gH) :=
  (fM_nextRule h).bind fun p1 =>
  if p1.1 = (-1 : Int32) then
    some ((-1 : Int32), p1.2)
  else
    gg (gin p1.1 24) <|
    glet (hu p1.2 71 p1.1.toNatClampNeg (0 : Int32)) fun h4 =>
    glet (hu h4 65 20 ((h4 65 20) + (1 : Int32))) fun h6 =>
    (fM_prunes p1.1 h6).bind fun h8 =>
    some (p1.1, h8)
theorem fM_step_ok {h : gH} {x : (Int32 × gH)} (H : fM_step  h = some x) (d : Nat) : gC yX7_step cX7_step 2 (some .int) (d + 4) [.ref 65] h (some (.int x.1)) x.2 := by
  refine gC_of (by decide +kernel) (Nat.le_of_ble_eq_true rfl) rfl ?_
  unfold fM_step at H
  refine R_aload_n (gxd kX7_step 0 rfl) rfl rfl ?_
  obtain ⟨p1, e2, H⟩ := gbi H
  refine R_callVi (gxd kX7_step 1 rfl) gm_M_296 wX7_nextRule (by decide) gk_65 rfl rfl (Nat.le_of_ble_eq_true rfl) (by omega) (fM_nextRule_ok  e2 (d + 1)) ?_
  refine R_istore_n (gxd kX7_step 2 rfl) rfl rfl (Nat.le_of_ble_eq_true rfl) rfl ?_
  refine R_iload_n (gxd kX7_step 3 rfl) rfl rfl ?_
  refine R_iconst (v := (-1 : Int32)) (gxd kX7_step 4 rfl) rfl ?_
  refine R_icmp_ne (gxd kX7_step 5 rfl) (tgt := 12) rfl (fun q => ?_) (fun q => ?_)
  · replace H := giff q H
    refine R_aload_n (gxd kX7_step 8 rfl) rfl rfl ?_
    refine R_getr (gxd kX7_step 9 rfl) gf_M_30 gk_65 (by decide) rfl ?_
    refine R_iload_n (gxd kX7_step 10 rfl) rfl rfl ?_
    refine R_iconst (v := (0 : Int32)) (gxd kX7_step 11 rfl) rfl ?_
    obtain ⟨b3, H⟩ := ggi H
    have b3 := gin_in b3
    refine R_zast (gxd kX7_step 12 rfl) gk_71 b3 (Or.inl rfl) ?_
    obtain ⟨h4, e5, H⟩ := glei H
    refine R_heq e5 ?_
    refine R_aload_n (gxd kX7_step 13 rfl) rfl rfl ?_
    refine R_dup (gxd kX7_step 14 rfl) rfl ?_
    refine R_geti (gxd kX7_step 15 rfl) gf_M_299 gk_65 (by decide) rfl ?_
    refine R_iconst (v := (1 : Int32)) (gxd kX7_step 16 rfl) rfl ?_
    refine R_iadd (gxd kX7_step 17 rfl) ?_
    refine R_puti (gxd kX7_step 18 rfl) gf_M_299 gp_7_20 gk_65 (by decide) rfl ?_
    obtain ⟨h6, e7, H⟩ := glei H
    refine R_heq e7 ?_
    refine R_aload_n (gxd kX7_step 19 rfl) rfl rfl ?_
    refine R_iload_n (gxd kX7_step 20 rfl) rfl rfl ?_
    obtain ⟨h8, e9, H⟩ := gbi H
    refine R_callVv (gxd kX7_step 21 rfl) gm_M_302 wX7_prunes (by decide) gk_65 rfl rfl (Nat.le_of_ble_eq_true rfl) (by omega) (fM_prunes_ok  e9 (d + 0)) ?_
    refine R_iload_n (gxd kX7_step 22 rfl) rfl rfl ?_
    obtain rfl := Option.some.inj H
    exact R_iret (gxd kX7_step 23 rfl) rfl
  · replace H := gift q H
    refine R_iconst (v := (-1 : Int32)) (gxd kX7_step 6 rfl) rfl ?_
    obtain rfl := Option.some.inj H
    exact R_iret (gxd kX7_step 7 rfl) rfl
def fM_run_2 : Nat → Int32 → gH → Option (Int32 × gH)
  | 0, _, _ => none
  | n + 1, v1, h =>
    (fM_step h).bind fun p1 =>
    if p1.1 = (-1 : Int32) then
      some (v1, p1.2)
    else
      fM_run_2 n (v1 + (1 : Int32)) p1.2
theorem fM_run_2_ok {d : Nat}  : ∀ (n : Nat) (v1 : Int32) (h : gH) (x : (Int32 × gH)), fM_run_2  n v1 h = some x → gR RX7 cX7_run 2 (some .int) (d + 5) 2 [.ref 65, .int v1] [] h (some (.int x.1)) x.2 := by
  intro n
  induction n with
  | zero => intro v1 h x  H; exact g0 H
  | succ n ih =>
    intro v1 h x  H
    unfold fM_run_2 at H
    refine R_aload_n (gxd kX7_run 2 rfl) rfl rfl ?_
    obtain ⟨p1, e2, H⟩ := gbi H
    refine R_callVi (gxd kX7_run 3 rfl) gm_M_305 wX7_step (by decide) gk_65 rfl rfl (Nat.le_of_ble_eq_true rfl) (by omega) (fM_step_ok  e2 (d + 0)) ?_
    refine R_iconst (v := (-1 : Int32)) (gxd kX7_run 4 rfl) rfl ?_
    refine R_icmp_eq (gxd kX7_run 5 rfl) (tgt := 16) rfl (fun q => ?_) (fun q => ?_)
    · replace H := gift q H
      refine R_iload_n (gxd kX7_run 8 rfl) rfl rfl ?_
      obtain rfl := Option.some.inj H
      exact R_iret (gxd kX7_run 9 rfl) rfl
    · replace H := giff q H
      refine R_iinc (v := (v1 + (1 : Int32))) (gxd kX7_run 6 rfl) rfl rfl rfl (Nat.le_of_ble_eq_true rfl) rfl ?_
      refine R_goto (gxd kX7_run 7 rfl) (tgt := 2) rfl ?_
      exact R_weak (gle_same (gle_same gle_nil)) (ih _ _ _  H)
def fM_run (h : gH) : Option (Int32 × gH) :=
  fM_run_2 gfu (0 : Int32) h
theorem fM_run_ok {h : gH} {x : (Int32 × gH)} (H : fM_run  h = some x) (d : Nat) : gC yX7_run cX7_run 2 (some .int) (d + 5) [.ref 65] h (some (.int x.1)) x.2 := by
  refine gC_of (by decide +kernel) (Nat.le_of_ble_eq_true rfl) rfl ?_
  unfold fM_run at H
  refine R_iconst (v := (0 : Int32)) (gxd kX7_run 0 rfl) rfl ?_
  refine R_istore_n (gxd kX7_run 1 rfl) rfl rfl (Nat.le_of_ble_eq_true rfl) rfl ?_
  exact R_weak (gle_same (gle_same gle_nil)) (fM_run_2_ok  gfu _ _ _  H)
def fM_decides (v1 : Int32) (v2 : Int32) (v3 : Int32) (h : gH) : Option gH :=
  glet (hu h 65 35 (0 : Int32)) fun h1 =>
  (fM_keeps v1 v2 v3 h1).bind fun h3 =>
  (fM_queues (h3 65 35) (-1 : Int32) h3).bind fun h5 =>
  some h5
theorem fM_decides_ok {v1 : Int32} {v2 : Int32} {v3 : Int32} {h : gH} {x : gH} (H : fM_decides v1 v2 v3 h = some x) (d : Nat) : gC yX7_decides cX7_decides 4 none (d + 2) [.ref 65, .int v1, .int v2, .int v3] h none x := by
  refine gC_of (by decide +kernel) (Nat.le_of_ble_eq_true rfl) rfl ?_
  unfold fM_decides at H
  refine R_aload_n (gxd kX7_decides 0 rfl) rfl rfl ?_
  refine R_iconst (v := (0 : Int32)) (gxd kX7_decides 1 rfl) rfl ?_
  refine R_puti (gxd kX7_decides 2 rfl) gf_M_256 gp_7_35 gk_65 (by decide) rfl ?_
  obtain ⟨h1, e2, H⟩ := glei H
  refine R_heq e2 ?_
  refine R_aload_n (gxd kX7_decides 3 rfl) rfl rfl ?_
  refine R_iload_n (gxd kX7_decides 4 rfl) rfl rfl ?_
  refine R_iload_n (gxd kX7_decides 5 rfl) rfl rfl ?_
  refine R_iload_n (gxd kX7_decides 6 rfl) rfl rfl ?_
  obtain ⟨h3, e4, H⟩ := gbi H
  refine R_callVv (gxd kX7_decides 7 rfl) gm_M_276 wX7_keeps (by decide) gk_65 rfl rfl (Nat.le_of_ble_eq_true rfl) (by omega) (fM_keeps_ok  e4 (d + 0)) ?_
  refine R_aload_n (gxd kX7_decides 8 rfl) rfl rfl ?_
  refine R_aload_n (gxd kX7_decides 9 rfl) rfl rfl ?_
  refine R_geti (gxd kX7_decides 10 rfl) gf_M_256 gk_65 (by decide) rfl ?_
  refine R_iconst (v := (-1 : Int32)) (gxd kX7_decides 11 rfl) rfl ?_
  obtain ⟨h5, e6, H⟩ := gbi H
  refine R_callVv (gxd kX7_decides 12 rfl) gm_M_283 wX7_queues (by decide) gk_65 rfl rfl (Nat.le_of_ble_eq_true rfl) (by omega) (fM_queues_ok  e6 (d + 0)) ?_
  obtain rfl := Option.some.inj H
  exact R_vret (gxd kX7_decides 13 rfl) rfl
def fM_tell (v1 : Int32) (v2 : Int32) (h : gH) : Option (Int32 × gH) :=
  (fM_in v1.toInt64 (0 : Int64) (7 : Int64) h).bind fun p1 =>
  if p1.1 = (0 : Int32) then
    some ((-2 : Int32), p1.2)
  else
    (fM_in v2.toInt64 (0 : Int64) (1023 : Int64) p1.2).bind fun p3 =>
    if p3.1 = (0 : Int32) then
      some ((-2 : Int32), p3.2)
    else
      if (p3.2 65 2) = (0 : Int32) then
        if (p3.2 65 12) = (12 : Int32) then
          some ((-4 : Int32), p3.2)
        else
          gg (gin (p3.2 65 12) 12) <|
          glet (hu p3.2 72 (p3.2 65 12).toNatClampNeg v1) fun h6 =>
          gg (gin (h6 65 12) 12) <|
          glet (hu h6 73 (h6 65 12).toNatClampNeg v2) fun h9 =>
          glet (hu h9 65 12 ((h9 65 12) + (1 : Int32))) fun h11 =>
          (fM_decides v1 v2 ((99 : Int32) + (h11 65 12)) h11).bind fun h13 =>
          some (((h13 65 15) - (h11 65 15)), h13)
      else
        some ((-3 : Int32), p3.2)
theorem fM_tell_ok {v1 : Int32} {v2 : Int32} {h : gH} {x : (Int32 × gH)} (H : fM_tell v1 v2 h = some x) (d : Nat) : gC yX7_tell cX7_tell 4 (some .int) (d + 3) [.ref 65, .int v1, .int v2] h (some (.int x.1)) x.2 := by
  refine gC_of (by decide +kernel) (Nat.le_of_ble_eq_true rfl) rfl ?_
  unfold fM_tell at H
  refine R_iload_n (gxd kX7_tell 0 rfl) rfl rfl ?_
  refine R_i2l (gxd kX7_tell 1 rfl) ?_
  refine R_lconst (v := (0 : Int64)) (gxd kX7_tell 2 rfl) rfl ?_
  refine R_ldc2 (v := (7 : Int64)) (gxd kX7_tell 3 rfl) gc_M_308 ?_
  obtain ⟨p1, e2, H⟩ := gbi H
  refine R_callSi (gxd kX7_tell 4 rfl) gm_M_140 wX7_in (by decide) rfl (Nat.le_of_ble_eq_true rfl) (by omega) (fM_in_ok  e2 (d + 2)) ?_
  refine R_if_eq (gxd kX7_tell 5 rfl) (tgt := 24) rfl (fun q => ?_) (fun q => ?_)
  · replace H := gift q H
    refine R_bipush (v := (-2 : Int32)) (gxd kX7_tell 12 rfl) rfl ?_
    obtain rfl := Option.some.inj H
    exact R_iret (gxd kX7_tell 13 rfl) rfl
  · replace H := giff q H
    refine R_iload_n (gxd kX7_tell 6 rfl) rfl rfl ?_
    refine R_i2l (gxd kX7_tell 7 rfl) ?_
    refine R_lconst (v := (0 : Int64)) (gxd kX7_tell 8 rfl) rfl ?_
    refine R_ldc2 (v := (1023 : Int64)) (gxd kX7_tell 9 rfl) gc_M_310 ?_
    obtain ⟨p3, e4, H⟩ := gbi H
    refine R_callSi (gxd kX7_tell 10 rfl) gm_M_140 wX7_in (by decide) rfl (Nat.le_of_ble_eq_true rfl) (by omega) (fM_in_ok  e4 (d + 2)) ?_
    refine R_if_ne (gxd kX7_tell 11 rfl) (tgt := 27) rfl (fun q => ?_) (fun q => ?_)
    · replace H := giff q H
      refine R_aload_n (gxd kX7_tell 14 rfl) rfl rfl ?_
      refine R_geti (gxd kX7_tell 15 rfl) gf_M_229 gk_65 (by decide) rfl ?_
      refine R_if_eq (gxd kX7_tell 16 rfl) (tgt := 37) rfl (fun q => ?_) (fun q => ?_)
      · replace H := gift q H
        refine R_aload_n (gxd kX7_tell 19 rfl) rfl rfl ?_
        refine R_geti (gxd kX7_tell 20 rfl) gf_M_312 gk_65 (by decide) rfl ?_
        refine R_bipush (v := (12 : Int32)) (gxd kX7_tell 21 rfl) rfl ?_
        refine R_icmp_ne (gxd kX7_tell 22 rfl) (tgt := 49) rfl (fun q => ?_) (fun q => ?_)
        · replace H := giff q H
          refine R_aload_n (gxd kX7_tell 25 rfl) rfl rfl ?_
          refine R_getr (gxd kX7_tell 26 rfl) gf_M_33 gk_65 (by decide) rfl ?_
          refine R_aload_n (gxd kX7_tell 27 rfl) rfl rfl ?_
          refine R_geti (gxd kX7_tell 28 rfl) gf_M_312 gk_65 (by decide) rfl ?_
          refine R_iload_n (gxd kX7_tell 29 rfl) rfl rfl ?_
          obtain ⟨b5, H⟩ := ggi H
          have b5 := gin_in b5
          refine R_iast (gxd kX7_tell 30 rfl) gk_72 b5 ?_
          obtain ⟨h6, e7, H⟩ := glei H
          refine R_heq e7 ?_
          refine R_aload_n (gxd kX7_tell 31 rfl) rfl rfl ?_
          refine R_getr (gxd kX7_tell 32 rfl) gf_M_36 gk_65 (by decide) rfl ?_
          refine R_aload_n (gxd kX7_tell 33 rfl) rfl rfl ?_
          refine R_geti (gxd kX7_tell 34 rfl) gf_M_312 gk_65 (by decide) rfl ?_
          refine R_iload_n (gxd kX7_tell 35 rfl) rfl rfl ?_
          obtain ⟨b8, H⟩ := ggi H
          have b8 := gin_in b8
          refine R_iast (gxd kX7_tell 36 rfl) gk_73 b8 ?_
          obtain ⟨h9, e10, H⟩ := glei H
          refine R_heq e10 ?_
          refine R_aload_n (gxd kX7_tell 37 rfl) rfl rfl ?_
          refine R_dup (gxd kX7_tell 38 rfl) rfl ?_
          refine R_geti (gxd kX7_tell 39 rfl) gf_M_312 gk_65 (by decide) rfl ?_
          refine R_iconst (v := (1 : Int32)) (gxd kX7_tell 40 rfl) rfl ?_
          refine R_iadd (gxd kX7_tell 41 rfl) ?_
          refine R_puti (gxd kX7_tell 42 rfl) gf_M_312 gp_7_12 gk_65 (by decide) rfl ?_
          obtain ⟨h11, e12, H⟩ := glei H
          refine R_heq e12 ?_
          refine R_aload_n (gxd kX7_tell 43 rfl) rfl rfl ?_
          refine R_geti (gxd kX7_tell 44 rfl) gf_M_262 gk_65 (by decide) rfl ?_
          refine R_istore_n (gxd kX7_tell 45 rfl) rfl rfl (Nat.le_of_ble_eq_true rfl) rfl ?_
          refine R_aload_n (gxd kX7_tell 46 rfl) rfl rfl ?_
          refine R_iload_n (gxd kX7_tell 47 rfl) rfl rfl ?_
          refine R_iload_n (gxd kX7_tell 48 rfl) rfl rfl ?_
          refine R_bipush (v := (99 : Int32)) (gxd kX7_tell 49 rfl) rfl ?_
          refine R_aload_n (gxd kX7_tell 50 rfl) rfl rfl ?_
          refine R_geti (gxd kX7_tell 51 rfl) gf_M_312 gk_65 (by decide) rfl ?_
          refine R_iadd (gxd kX7_tell 52 rfl) ?_
          obtain ⟨h13, e14, H⟩ := gbi H
          refine R_callVv (gxd kX7_tell 53 rfl) gm_M_315 wX7_decides (by decide) gk_65 rfl rfl (Nat.le_of_ble_eq_true rfl) (by omega) (fM_decides_ok  e14 (d + 0)) ?_
          refine R_aload_n (gxd kX7_tell 54 rfl) rfl rfl ?_
          refine R_geti (gxd kX7_tell 55 rfl) gf_M_262 gk_65 (by decide) rfl ?_
          refine R_iload_n (gxd kX7_tell 56 rfl) rfl rfl ?_
          refine R_isub (gxd kX7_tell 57 rfl) ?_
          obtain rfl := Option.some.inj H
          exact R_iret (gxd kX7_tell 58 rfl) rfl
        · replace H := gift q H
          refine R_bipush (v := (-4 : Int32)) (gxd kX7_tell 23 rfl) rfl ?_
          obtain rfl := Option.some.inj H
          exact R_iret (gxd kX7_tell 24 rfl) rfl
      · replace H := giff q H
        refine R_bipush (v := (-3 : Int32)) (gxd kX7_tell 17 rfl) rfl ?_
        obtain rfl := Option.some.inj H
        exact R_iret (gxd kX7_tell 18 rfl) rfl
    · replace H := gift q H
      refine R_bipush (v := (-2 : Int32)) (gxd kX7_tell 12 rfl) rfl ?_
      obtain rfl := Option.some.inj H
      exact R_iret (gxd kX7_tell 13 rfl) rfl
def fM_queued_27 (k4 : Int32 → Int32 → gH → Option (Int32 × gH)) (v2 : Int32) (s0 : Int32) (s1 : Int32) (h : gH) : Option (Int32 × gH) :=
  k4 (s0 + s1) (v2 + (1 : Int32)) h
theorem fM_queued_27_ok {d : Nat} {k4 : Int32 → Int32 → gH → Option (Int32 × gH)} {v2 : Int32} {s0 : Int32} {s1 : Int32} (hk4 : ∀ (u1 : Int32) (u2 : Int32) (h : gH) (x : (Int32 × gH)), k4 u1 u2 h = some x → gR RX7 cX7_queued 3 (some .int) (d + 0) 4 [.ref 65, .int u1, .int u2] [] h (some (.int x.1)) x.2) {h : gH} {x : (Int32 × gH)} (H : fM_queued_27 k4 v2 s0 s1 h = some x) : gR RX7 cX7_queued 3 (some .int) (d + 0) 27 [.ref 65, .null, .int v2] [.int s1, .int s0] h (some (.int x.1)) x.2 := by
  unfold fM_queued_27 at H
  refine R_iadd (gxd kX7_queued 17 rfl) ?_
  refine R_istore_n (gxd kX7_queued 18 rfl) rfl rfl (Nat.le_of_ble_eq_true rfl) rfl ?_
  refine R_iinc (v := (v2 + (1 : Int32))) (gxd kX7_queued 19 rfl) rfl rfl rfl (Nat.le_of_ble_eq_true rfl) rfl ?_
  refine R_goto (gxd kX7_queued 20 rfl) (tgt := 4) rfl ?_
  exact R_weak (gle_same (gle_same (gle_same gle_nil))) (hk4 _ _ _ _  H)
def fM_queued_4 : Nat → Int32 → Int32 → gH → Option (Int32 × gH)
  | 0, _, _, _ => none
  | n + 1, v1, v2, h =>
    if v2 < (h 65 8) then
      gg (gin v2 24) <|
      if (h 71 v2.toNatClampNeg) = (0 : Int32) then
        fM_queued_27 (fM_queued_4 n) v2 v1 (0 : Int32) h
      else
        fM_queued_27 (fM_queued_4 n) v2 v1 (1 : Int32) h
    else
      some (v1, h)
theorem fM_queued_4_ok {d : Nat}  : ∀ (n : Nat) (v1 : Int32) (v2 : Int32) (h : gH) (x : (Int32 × gH)), fM_queued_4  n v1 v2 h = some x → gR RX7 cX7_queued 3 (some .int) (d + 0) 4 [.ref 65, .int v1, .int v2] [] h (some (.int x.1)) x.2 := by
  intro n
  induction n with
  | zero => intro v1 v2 h x  H; exact g0 H
  | succ n ih =>
    intro v1 v2 h x  H
    unfold fM_queued_4 at H
    refine R_iload_n (gxd kX7_queued 4 rfl) rfl rfl ?_
    refine R_aload_n (gxd kX7_queued 5 rfl) rfl rfl ?_
    refine R_geti (gxd kX7_queued 6 rfl) gf_M_226 gk_65 (by decide) rfl ?_
    refine R_icmp_ge (gxd kX7_queued 7 rfl) (tgt := 35) rfl (fun q => ?_) (fun q => ?_)
    · replace H := giff q H
      refine R_iload_n (gxd kX7_queued 21 rfl) rfl rfl ?_
      obtain rfl := Option.some.inj H
      exact R_iret (gxd kX7_queued 22 rfl) rfl
    · replace H := gift q H
      refine R_iload_n (gxd kX7_queued 8 rfl) rfl rfl ?_
      refine R_aload_n (gxd kX7_queued 9 rfl) rfl rfl ?_
      refine R_getr (gxd kX7_queued 10 rfl) gf_M_30 gk_65 (by decide) rfl ?_
      refine R_iload_n (gxd kX7_queued 11 rfl) rfl rfl ?_
      obtain ⟨b1, H⟩ := ggi H
      have b1 := gin_in b1
      refine R_zald (gxd kX7_queued 12 rfl) gk_71 b1 ?_
      refine R_if_eq (gxd kX7_queued 13 rfl) (tgt := 26) rfl (fun q => ?_) (fun q => ?_)
      · replace H := gift q H
        refine R_iconst (v := (0 : Int32)) (gxd kX7_queued 16 rfl) rfl ?_
        exact R_weak (gle_same (gle_null (gle_same gle_nil))) (fM_queued_27_ok ih  H)
      · replace H := giff q H
        refine R_iconst (v := (1 : Int32)) (gxd kX7_queued 14 rfl) rfl ?_
        refine R_goto (gxd kX7_queued 15 rfl) (tgt := 27) rfl ?_
        exact R_weak (gle_same (gle_null (gle_same gle_nil))) (fM_queued_27_ok ih  H)
def fM_queued (h : gH) : Option (Int32 × gH) :=
  fM_queued_4 gfu (0 : Int32) (0 : Int32) h
theorem fM_queued_ok {h : gH} {x : (Int32 × gH)} (H : fM_queued  h = some x) (d : Nat) : gC yX7_queued cX7_queued 3 (some .int) (d + 0) [.ref 65] h (some (.int x.1)) x.2 := by
  refine gC_of (by decide +kernel) (Nat.le_of_ble_eq_true rfl) rfl ?_
  unfold fM_queued at H
  refine R_iconst (v := (0 : Int32)) (gxd kX7_queued 0 rfl) rfl ?_
  refine R_istore_n (gxd kX7_queued 1 rfl) rfl rfl (Nat.le_of_ble_eq_true rfl) rfl ?_
  refine R_iconst (v := (0 : Int32)) (gxd kX7_queued 2 rfl) rfl ?_
  refine R_istore_n (gxd kX7_queued 3 rfl) rfl rfl (Nat.le_of_ble_eq_true rfl) rfl ?_
  exact R_weak (gle_same (gle_same (gle_same gle_nil))) (fM_queued_4_ok  gfu _ _ _ _  H)
def fM_level (h : gH) : Option (Int32 × gH) :=
  if (h 65 2) = (0 : Int32) then
    (fM_queued h).bind fun p1 =>
    if (0 : Int32) < p1.1 then
      some ((-3 : Int32), p1.2)
    else
      if (p1.2 65 19) = (8 : Int32) then
        some ((-4 : Int32), p1.2)
      else
        gg (gin (p1.2 65 19) 8) <|
        glet (hu p1.2 76 (p1.2 65 19).toNatClampNeg (p1.2 65 15)) fun h4 =>
        gg (gin (h4 65 19) 8) <|
        glet (hu h4 77 (h4 65 19).toNatClampNeg (h4 65 12)) fun h7 =>
        gg (gin (h7 65 19) 8) <|
        glet (hu h7 78 (h7 65 19).toNatClampNeg (h7 65 8)) fun h10 =>
        glet (hu h10 65 19 ((h10 65 19) + (1 : Int32))) fun h12 =>
        some ((h12 65 19), h12)
  else
    some ((-3 : Int32), h)
theorem fM_level_ok {h : gH} {x : (Int32 × gH)} (H : fM_level  h = some x) (d : Nat) : gC yX7_level cX7_level 1 (some .int) (d + 1) [.ref 65] h (some (.int x.1)) x.2 := by
  refine gC_of (by decide +kernel) (Nat.le_of_ble_eq_true rfl) rfl ?_
  unfold fM_level at H
  refine R_aload_n (gxd kX7_level 0 rfl) rfl rfl ?_
  refine R_geti (gxd kX7_level 1 rfl) gf_M_229 gk_65 (by decide) rfl ?_
  refine R_if_ne (gxd kX7_level 2 rfl) (tgt := 14) rfl (fun q => ?_) (fun q => ?_)
  · replace H := giff q H
    refine R_bipush (v := (-3 : Int32)) (gxd kX7_level 6 rfl) rfl ?_
    obtain rfl := Option.some.inj H
    exact R_iret (gxd kX7_level 7 rfl) rfl
  · replace H := gift q H
    refine R_aload_n (gxd kX7_level 3 rfl) rfl rfl ?_
    obtain ⟨p1, e2, H⟩ := gbi H
    refine R_callVi (gxd kX7_level 4 rfl) gm_M_318 wX7_queued (by decide) gk_65 rfl rfl (Nat.le_of_ble_eq_true rfl) (by omega) (fM_queued_ok  e2 (d + 0)) ?_
    refine R_if_le (gxd kX7_level 5 rfl) (tgt := 17) rfl (fun q => ?_) (fun q => ?_)
    · replace H := giff q H
      refine R_aload_n (gxd kX7_level 8 rfl) rfl rfl ?_
      refine R_geti (gxd kX7_level 9 rfl) gf_M_321 gk_65 (by decide) rfl ?_
      refine R_bipush (v := (8 : Int32)) (gxd kX7_level 10 rfl) rfl ?_
      refine R_icmp_ne (gxd kX7_level 11 rfl) (tgt := 29) rfl (fun q => ?_) (fun q => ?_)
      · replace H := giff q H
        refine R_aload_n (gxd kX7_level 14 rfl) rfl rfl ?_
        refine R_getr (gxd kX7_level 15 rfl) gf_M_45 gk_65 (by decide) rfl ?_
        refine R_aload_n (gxd kX7_level 16 rfl) rfl rfl ?_
        refine R_geti (gxd kX7_level 17 rfl) gf_M_321 gk_65 (by decide) rfl ?_
        refine R_aload_n (gxd kX7_level 18 rfl) rfl rfl ?_
        refine R_geti (gxd kX7_level 19 rfl) gf_M_262 gk_65 (by decide) rfl ?_
        obtain ⟨b3, H⟩ := ggi H
        have b3 := gin_in b3
        refine R_iast (gxd kX7_level 20 rfl) gk_76 b3 ?_
        obtain ⟨h4, e5, H⟩ := glei H
        refine R_heq e5 ?_
        refine R_aload_n (gxd kX7_level 21 rfl) rfl rfl ?_
        refine R_getr (gxd kX7_level 22 rfl) gf_M_48 gk_65 (by decide) rfl ?_
        refine R_aload_n (gxd kX7_level 23 rfl) rfl rfl ?_
        refine R_geti (gxd kX7_level 24 rfl) gf_M_321 gk_65 (by decide) rfl ?_
        refine R_aload_n (gxd kX7_level 25 rfl) rfl rfl ?_
        refine R_geti (gxd kX7_level 26 rfl) gf_M_312 gk_65 (by decide) rfl ?_
        obtain ⟨b6, H⟩ := ggi H
        have b6 := gin_in b6
        refine R_iast (gxd kX7_level 27 rfl) gk_77 b6 ?_
        obtain ⟨h7, e8, H⟩ := glei H
        refine R_heq e8 ?_
        refine R_aload_n (gxd kX7_level 28 rfl) rfl rfl ?_
        refine R_getr (gxd kX7_level 29 rfl) gf_M_51 gk_65 (by decide) rfl ?_
        refine R_aload_n (gxd kX7_level 30 rfl) rfl rfl ?_
        refine R_geti (gxd kX7_level 31 rfl) gf_M_321 gk_65 (by decide) rfl ?_
        refine R_aload_n (gxd kX7_level 32 rfl) rfl rfl ?_
        refine R_geti (gxd kX7_level 33 rfl) gf_M_226 gk_65 (by decide) rfl ?_
        obtain ⟨b9, H⟩ := ggi H
        have b9 := gin_in b9
        refine R_iast (gxd kX7_level 34 rfl) gk_78 b9 ?_
        obtain ⟨h10, e11, H⟩ := glei H
        refine R_heq e11 ?_
        refine R_aload_n (gxd kX7_level 35 rfl) rfl rfl ?_
        refine R_dup (gxd kX7_level 36 rfl) rfl ?_
        refine R_geti (gxd kX7_level 37 rfl) gf_M_321 gk_65 (by decide) rfl ?_
        refine R_iconst (v := (1 : Int32)) (gxd kX7_level 38 rfl) rfl ?_
        refine R_iadd (gxd kX7_level 39 rfl) ?_
        refine R_puti (gxd kX7_level 40 rfl) gf_M_321 gp_7_19 gk_65 (by decide) rfl ?_
        obtain ⟨h12, e13, H⟩ := glei H
        refine R_heq e13 ?_
        refine R_aload_n (gxd kX7_level 41 rfl) rfl rfl ?_
        refine R_geti (gxd kX7_level 42 rfl) gf_M_321 gk_65 (by decide) rfl ?_
        obtain rfl := Option.some.inj H
        exact R_iret (gxd kX7_level 43 rfl) rfl
      · replace H := gift q H
        refine R_bipush (v := (-4 : Int32)) (gxd kX7_level 12 rfl) rfl ?_
        obtain rfl := Option.some.inj H
        exact R_iret (gxd kX7_level 13 rfl) rfl
    · replace H := gift q H
      refine R_bipush (v := (-3 : Int32)) (gxd kX7_level 6 rfl) rfl ?_
      obtain rfl := Option.some.inj H
      exact R_iret (gxd kX7_level 7 rfl) rfl
def fM_undo_149 (k118 : Int32 → gH → Option (Int32 × gH)) (v1 : Int32) (v2 : Int32) (s1 : Int32) (s2 : Int32) (h : gH) : Option (Int32 × gH) :=
  gg (gin s1 24) <|
  gg (gbo s2) <|
  glet (hu h 71 s1.toNatClampNeg s2) fun h13 =>
  k118 (v2 + (1 : Int32)) h13
theorem fM_undo_149_ok {d : Nat} {k118 : Int32 → gH → Option (Int32 × gH)} {v1 : Int32} {v2 : Int32} {s1 : Int32} {s2 : Int32} (hk118 : ∀ (u2 : Int32) (h : gH) (x : (Int32 × gH)), k118 u2 h = some x → gR RX7 cX7_undo 3 (some .int) (d + 0) 118 [.ref 65, .int v1, .int u2] [] h (some (.int x.1)) x.2) {h : gH} {x : (Int32 × gH)} (H : fM_undo_149 k118 v1 v2 s1 s2 h = some x) : gR RX7 cX7_undo 3 (some .int) (d + 0) 149 [.ref 65, .int v1, .int v2] [.int s2, .int s1, .ref 71] h (some (.int x.1)) x.2 := by
  unfold fM_undo_149 at H
  obtain ⟨b11, H⟩ := ggi H
  have b11 := gin_in b11
  obtain ⟨b12, H⟩ := ggi H
  have b12 := gbo_or b12
  refine R_zast (gxd kX7_undo 86 rfl) gk_71 b11 b12 ?_
  obtain ⟨h13, e14, H⟩ := glei H
  refine R_heq e14 ?_
  refine R_iinc (v := (v2 + (1 : Int32))) (gxd kX7_undo 87 rfl) rfl rfl rfl (Nat.le_of_ble_eq_true rfl) rfl ?_
  refine R_goto (gxd kX7_undo 88 rfl) (tgt := 118) rfl ?_
  exact R_weak (gle_same (gle_same (gle_same gle_nil))) (hk118 _ _ _  H)
def fM_undo_118 (v1 : Int32) : Nat → Int32 → gH → Option (Int32 × gH)
  | 0, _, _ => none
  | n + 1, v2, h =>
    if v2 < (h 65 8) then
      gg (gin (h 65 19) 8) <|
      if v2 < (h 78 (h 65 19).toNatClampNeg) then
        fM_undo_149 (fM_undo_118 v1 n) v1 v2 v2 (0 : Int32) h
      else
        fM_undo_149 (fM_undo_118 v1 n) v1 v2 v2 (1 : Int32) h
    else
      some (v1, h)
theorem fM_undo_118_ok {d : Nat} {v1 : Int32}  : ∀ (n : Nat) (v2 : Int32) (h : gH) (x : (Int32 × gH)), fM_undo_118 v1 n v2 h = some x → gR RX7 cX7_undo 3 (some .int) (d + 0) 118 [.ref 65, .int v1, .int v2] [] h (some (.int x.1)) x.2 := by
  intro n
  induction n with
  | zero => intro v2 h x  H; exact g0 H
  | succ n ih =>
    intro v2 h x  H
    unfold fM_undo_118 at H
    refine R_iload_n (gxd kX7_undo 69 rfl) rfl rfl ?_
    refine R_aload_n (gxd kX7_undo 70 rfl) rfl rfl ?_
    refine R_geti (gxd kX7_undo 71 rfl) gf_M_226 gk_65 (by decide) rfl ?_
    refine R_icmp_ge (gxd kX7_undo 72 rfl) (tgt := 156) rfl (fun q => ?_) (fun q => ?_)
    · replace H := giff q H
      refine R_iload_n (gxd kX7_undo 89 rfl) rfl rfl ?_
      obtain rfl := Option.some.inj H
      exact R_iret (gxd kX7_undo 90 rfl) rfl
    · replace H := gift q H
      refine R_aload_n (gxd kX7_undo 73 rfl) rfl rfl ?_
      refine R_getr (gxd kX7_undo 74 rfl) gf_M_30 gk_65 (by decide) rfl ?_
      refine R_iload_n (gxd kX7_undo 75 rfl) rfl rfl ?_
      refine R_iload_n (gxd kX7_undo 76 rfl) rfl rfl ?_
      refine R_aload_n (gxd kX7_undo 77 rfl) rfl rfl ?_
      refine R_getr (gxd kX7_undo 78 rfl) gf_M_51 gk_65 (by decide) rfl ?_
      refine R_aload_n (gxd kX7_undo 79 rfl) rfl rfl ?_
      refine R_geti (gxd kX7_undo 80 rfl) gf_M_321 gk_65 (by decide) rfl ?_
      obtain ⟨b10, H⟩ := ggi H
      have b10 := gin_in b10
      refine R_iald (gxd kX7_undo 81 rfl) gk_78 b10 ?_
      refine R_icmp_lt (gxd kX7_undo 82 rfl) (tgt := 148) rfl (fun q => ?_) (fun q => ?_)
      · replace H := gift q H
        refine R_iconst (v := (0 : Int32)) (gxd kX7_undo 85 rfl) rfl ?_
        exact R_weak (gle_same (gle_same (gle_same gle_nil))) (fM_undo_149_ok ih  H)
      · replace H := giff q H
        refine R_iconst (v := (1 : Int32)) (gxd kX7_undo 83 rfl) rfl ?_
        refine R_goto (gxd kX7_undo 84 rfl) (tgt := 149) rfl ?_
        exact R_weak (gle_same (gle_same (gle_same gle_nil))) (fM_undo_149_ok ih  H)
def fM_undo_35 (v1 : Int32) : Nat → gH → Option (Int32 × gH)
  | 0, _ => none
  | n + 1, h =>
    gg (gin (h 65 19) 8) <|
    if (h 76 (h 65 19).toNatClampNeg) < (h 65 15) then
      glet (hu h 65 15 ((h 65 15) - (1 : Int32))) fun h15 =>
      gg (gin (h15 65 15) 80) <|
      gg (gin ((h15 74 (h15 65 15).toNatClampNeg) / (10 : Int32)) 8) <|
      gg (gin (h15 65 15) 80) <|
      gg (gin ((h15 74 (h15 65 15).toNatClampNeg) / (10 : Int32)) 8) <|
      fM_undo_35 v1 n  (hu h15 66 ((h15 74 (h15 65 15).toNatClampNeg) / (10 : Int32)).toNatClampNeg ((h15 66 ((h15 74 (h15 65 15).toNatClampNeg) / (10 : Int32)).toNatClampNeg) ||| ((1 : Int32) <<< (((h15 74 (h15 65 15).toNatClampNeg) - (h15 74 (h15 65 15).toNatClampNeg) / (10 : Int32) * (10 : Int32)) &&& 31))))
    else
      gg (gin (h 65 19) 8) <|
      glet (hu h 65 12 (h 77 (h 65 19).toNatClampNeg)) fun h6 =>
      glet (hu h6 65 2 (0 : Int32)) fun h8 =>
      fM_undo_118 v1 gfu (0 : Int32) h8
theorem fM_undo_35_ok {d : Nat} {v1 : Int32}  : ∀ (n : Nat) (h : gH) (x : (Int32 × gH)), fM_undo_35 v1 n  h = some x → gR RX7 cX7_undo 3 (some .int) (d + 0) 35 [.ref 65, .int v1, .null] [] h (some (.int x.1)) x.2 := by
  intro n
  induction n with
  | zero => intro  h x  H; exact g0 H
  | succ n ih =>
    intro  h x  H
    unfold fM_undo_35 at H
    refine R_aload_n (gxd kX7_undo 20 rfl) rfl rfl ?_
    refine R_geti (gxd kX7_undo 21 rfl) gf_M_262 gk_65 (by decide) rfl ?_
    refine R_aload_n (gxd kX7_undo 22 rfl) rfl rfl ?_
    refine R_getr (gxd kX7_undo 23 rfl) gf_M_45 gk_65 (by decide) rfl ?_
    refine R_aload_n (gxd kX7_undo 24 rfl) rfl rfl ?_
    refine R_geti (gxd kX7_undo 25 rfl) gf_M_321 gk_65 (by decide) rfl ?_
    obtain ⟨b4, H⟩ := ggi H
    have b4 := gin_in b4
    refine R_iald (gxd kX7_undo 26 rfl) gk_76 b4 ?_
    refine R_icmp_le (gxd kX7_undo 27 rfl) (tgt := 98) rfl (fun q => ?_) (fun q => ?_)
    · replace H := giff q H
      refine R_aload_n (gxd kX7_undo 57 rfl) rfl rfl ?_
      refine R_aload_n (gxd kX7_undo 58 rfl) rfl rfl ?_
      refine R_getr (gxd kX7_undo 59 rfl) gf_M_48 gk_65 (by decide) rfl ?_
      refine R_aload_n (gxd kX7_undo 60 rfl) rfl rfl ?_
      refine R_geti (gxd kX7_undo 61 rfl) gf_M_321 gk_65 (by decide) rfl ?_
      obtain ⟨b5, H⟩ := ggi H
      have b5 := gin_in b5
      refine R_iald (gxd kX7_undo 62 rfl) gk_77 b5 ?_
      refine R_puti (gxd kX7_undo 63 rfl) gf_M_312 gp_7_12 gk_65 (by decide) rfl ?_
      obtain ⟨h6, e7, H⟩ := glei H
      refine R_heq e7 ?_
      refine R_aload_n (gxd kX7_undo 64 rfl) rfl rfl ?_
      refine R_iconst (v := (0 : Int32)) (gxd kX7_undo 65 rfl) rfl ?_
      refine R_putz (gxd kX7_undo 66 rfl) gf_M_229 gp_7_2 (Or.inl rfl) gk_65 (by decide) rfl ?_
      obtain ⟨h8, e9, H⟩ := glei H
      refine R_heq e9 ?_
      refine R_iconst (v := (0 : Int32)) (gxd kX7_undo 67 rfl) rfl ?_
      refine R_istore_n (gxd kX7_undo 68 rfl) rfl rfl (Nat.le_of_ble_eq_true rfl) rfl ?_
      exact R_weak (gle_same (gle_same (gle_same gle_nil))) (fM_undo_118_ok  gfu _ _ _  H)
    · replace H := gift q H
      refine R_aload_n (gxd kX7_undo 28 rfl) rfl rfl ?_
      refine R_dup (gxd kX7_undo 29 rfl) rfl ?_
      refine R_geti (gxd kX7_undo 30 rfl) gf_M_262 gk_65 (by decide) rfl ?_
      refine R_iconst (v := (1 : Int32)) (gxd kX7_undo 31 rfl) rfl ?_
      refine R_isub (gxd kX7_undo 32 rfl) ?_
      refine R_puti (gxd kX7_undo 33 rfl) gf_M_262 gp_7_15 gk_65 (by decide) rfl ?_
      obtain ⟨h15, e16, H⟩ := glei H
      refine R_heq e16 ?_
      refine R_aload_n (gxd kX7_undo 34 rfl) rfl rfl ?_
      refine R_getr (gxd kX7_undo 35 rfl) gf_M_13 gk_65 (by decide) rfl ?_
      refine R_aload_n (gxd kX7_undo 36 rfl) rfl rfl ?_
      refine R_getr (gxd kX7_undo 37 rfl) gf_M_39 gk_65 (by decide) rfl ?_
      refine R_aload_n (gxd kX7_undo 38 rfl) rfl rfl ?_
      refine R_geti (gxd kX7_undo 39 rfl) gf_M_262 gk_65 (by decide) rfl ?_
      obtain ⟨b17, H⟩ := ggi H
      have b17 := gin_in b17
      refine R_iald (gxd kX7_undo 40 rfl) gk_74 b17 ?_
      refine R_bipush (v := (10 : Int32)) (gxd kX7_undo 41 rfl) rfl ?_
      refine R_idiv (gxd kX7_undo 42 rfl) (by decide) ?_
      refine R_dup2 (gxd kX7_undo 43 rfl) rfl rfl ?_
      obtain ⟨b18, H⟩ := ggi H
      have b18 := gin_in b18
      refine R_iald (gxd kX7_undo 44 rfl) gk_66 b18 ?_
      refine R_iconst (v := (1 : Int32)) (gxd kX7_undo 45 rfl) rfl ?_
      refine R_aload_n (gxd kX7_undo 46 rfl) rfl rfl ?_
      refine R_getr (gxd kX7_undo 47 rfl) gf_M_39 gk_65 (by decide) rfl ?_
      refine R_aload_n (gxd kX7_undo 48 rfl) rfl rfl ?_
      refine R_geti (gxd kX7_undo 49 rfl) gf_M_262 gk_65 (by decide) rfl ?_
      obtain ⟨b19, H⟩ := ggi H
      have b19 := gin_in b19
      refine R_iald (gxd kX7_undo 50 rfl) gk_74 b19 ?_
      refine R_bipush (v := (10 : Int32)) (gxd kX7_undo 51 rfl) rfl ?_
      refine R_irem (gxd kX7_undo 52 rfl) (by decide) ?_
      refine R_ishl (gxd kX7_undo 53 rfl) ?_
      refine R_ior (gxd kX7_undo 54 rfl) ?_
      obtain ⟨b20, H⟩ := ggi H
      have b20 := gin_in b20
      refine R_iast (gxd kX7_undo 55 rfl) gk_66 b20 ?_
      refine R_goto (gxd kX7_undo 56 rfl) (tgt := 35) rfl ?_
      exact R_weak (gle_same (gle_same (gle_null gle_nil))) (ih  _ _  H)
def fM_undo (h : gH) : Option (Int32 × gH) :=
  if (h 65 19) = (0 : Int32) then
    some ((-3 : Int32), h)
  else
    glet (hu h 65 19 ((h 65 19) - (1 : Int32))) fun h1 =>
    gg (gin (h1 65 19) 8) <|
    fM_undo_35 ((h1 65 15) - (h1 76 (h1 65 19).toNatClampNeg)) gfu h1
theorem fM_undo_ok {h : gH} {x : (Int32 × gH)} (H : fM_undo  h = some x) (d : Nat) : gC yX7_undo cX7_undo 3 (some .int) (d + 0) [.ref 65] h (some (.int x.1)) x.2 := by
  refine gC_of (by decide +kernel) (Nat.le_of_ble_eq_true rfl) rfl ?_
  unfold fM_undo at H
  refine R_aload_n (gxd kX7_undo 0 rfl) rfl rfl ?_
  refine R_geti (gxd kX7_undo 1 rfl) gf_M_321 gk_65 (by decide) rfl ?_
  refine R_if_ne (gxd kX7_undo 2 rfl) (tgt := 10) rfl (fun q => ?_) (fun q => ?_)
  · replace H := giff q H
    refine R_aload_n (gxd kX7_undo 5 rfl) rfl rfl ?_
    refine R_dup (gxd kX7_undo 6 rfl) rfl ?_
    refine R_geti (gxd kX7_undo 7 rfl) gf_M_321 gk_65 (by decide) rfl ?_
    refine R_iconst (v := (1 : Int32)) (gxd kX7_undo 8 rfl) rfl ?_
    refine R_isub (gxd kX7_undo 9 rfl) ?_
    refine R_puti (gxd kX7_undo 10 rfl) gf_M_321 gp_7_19 gk_65 (by decide) rfl ?_
    obtain ⟨h1, e2, H⟩ := glei H
    refine R_heq e2 ?_
    refine R_aload_n (gxd kX7_undo 11 rfl) rfl rfl ?_
    refine R_geti (gxd kX7_undo 12 rfl) gf_M_262 gk_65 (by decide) rfl ?_
    refine R_aload_n (gxd kX7_undo 13 rfl) rfl rfl ?_
    refine R_getr (gxd kX7_undo 14 rfl) gf_M_45 gk_65 (by decide) rfl ?_
    refine R_aload_n (gxd kX7_undo 15 rfl) rfl rfl ?_
    refine R_geti (gxd kX7_undo 16 rfl) gf_M_321 gk_65 (by decide) rfl ?_
    obtain ⟨b3, H⟩ := ggi H
    have b3 := gin_in b3
    refine R_iald (gxd kX7_undo 17 rfl) gk_76 b3 ?_
    refine R_isub (gxd kX7_undo 18 rfl) ?_
    refine R_istore_n (gxd kX7_undo 19 rfl) rfl rfl (Nat.le_of_ble_eq_true rfl) rfl ?_
    exact R_weak (gle_same (gle_same (gle_null gle_nil))) (fM_undo_35_ok  gfu  _ _  H)
  · replace H := gift q H
    refine R_bipush (v := (-3 : Int32)) (gxd kX7_undo 3 rfl) rfl ?_
    obtain rfl := Option.some.inj H
    exact R_iret (gxd kX7_undo 4 rfl) rfl
def fM_domain (v1 : Int32) (h : gH) : Option (Int32 × gH) :=
  (fM_in v1.toInt64 (0 : Int64) (7 : Int64) h).bind fun p1 =>
  if p1.1 = (0 : Int32) then
    some ((-2 : Int32), p1.2)
  else
    gg (gin v1 8) <|
    some ((p1.2 66 v1.toNatClampNeg), p1.2)
theorem fM_domain_ok {v1 : Int32} {h : gH} {x : (Int32 × gH)} (H : fM_domain v1 h = some x) (d : Nat) : gC yX7_domain cX7_domain 2 (some .int) (d + 1) [.ref 65, .int v1] h (some (.int x.1)) x.2 := by
  refine gC_of (by decide +kernel) (Nat.le_of_ble_eq_true rfl) rfl ?_
  unfold fM_domain at H
  refine R_iload_n (gxd kX7_domain 0 rfl) rfl rfl ?_
  refine R_i2l (gxd kX7_domain 1 rfl) ?_
  refine R_lconst (v := (0 : Int64)) (gxd kX7_domain 2 rfl) rfl ?_
  refine R_ldc2 (v := (7 : Int64)) (gxd kX7_domain 3 rfl) gc_M_308 ?_
  obtain ⟨p1, e2, H⟩ := gbi H
  refine R_callSi (gxd kX7_domain 4 rfl) gm_M_140 wX7_in (by decide) rfl (Nat.le_of_ble_eq_true rfl) (by omega) (fM_in_ok  e2 (d + 0)) ?_
  refine R_if_eq (gxd kX7_domain 5 rfl) (tgt := 21) rfl (fun q => ?_) (fun q => ?_)
  · replace H := gift q H
    refine R_bipush (v := (-2 : Int32)) (gxd kX7_domain 11 rfl) rfl ?_
    obtain rfl := Option.some.inj H
    exact R_iret (gxd kX7_domain 12 rfl) rfl
  · replace H := giff q H
    refine R_aload_n (gxd kX7_domain 6 rfl) rfl rfl ?_
    refine R_getr (gxd kX7_domain 7 rfl) gf_M_13 gk_65 (by decide) rfl ?_
    refine R_iload_n (gxd kX7_domain 8 rfl) rfl rfl ?_
    obtain ⟨b3, H⟩ := ggi H
    have b3 := gin_in b3
    refine R_iald (gxd kX7_domain 9 rfl) gk_66 b3 ?_
    refine R_goto (gxd kX7_domain 10 rfl) (tgt := 23) rfl ?_
    obtain rfl := Option.some.inj H
    exact R_iret (gxd kX7_domain 12 rfl) rfl
def fM_trail_16 (v2 : Int32) : Nat → Int32 → gH → Option (Int32 × gH)
  | 0, _, _ => none
  | n + 1, v3, h =>
    if v3 < (h 65 15) then
      gg (gin v3 80) <|
      if (h 74 v3.toNatClampNeg) = (v2 - (1000 : Int32)) then
        some (v3, h)
      else
        fM_trail_16 v2 n (v3 + (1 : Int32)) h
    else
      some ((-1 : Int32), h)
theorem fM_trail_16_ok {d : Nat} {v2 : Int32}  : ∀ (n : Nat) (v3 : Int32) (h : gH) (x : (Int32 × gH)), fM_trail_16 v2 n v3 h = some x → gR RX7 cX7_trail 4 (some .int) (d + 1) 16 [.ref 65, .null, .int v2, .int v3] [] h (some (.int x.1)) x.2 := by
  intro n
  induction n with
  | zero => intro v3 h x  H; exact g0 H
  | succ n ih =>
    intro v3 h x  H
    unfold fM_trail_16 at H
    refine R_iload_n (gxd kX7_trail 8 rfl) rfl rfl ?_
    refine R_aload_n (gxd kX7_trail 9 rfl) rfl rfl ?_
    refine R_geti (gxd kX7_trail 10 rfl) gf_M_262 gk_65 (by decide) rfl ?_
    refine R_icmp_ge (gxd kX7_trail 11 rfl) (tgt := 46) rfl (fun q => ?_) (fun q => ?_)
    · replace H := giff q H
      refine R_iconst (v := (-1 : Int32)) (gxd kX7_trail 24 rfl) rfl ?_
      obtain rfl := Option.some.inj H
      exact R_iret (gxd kX7_trail 25 rfl) rfl
    · replace H := gift q H
      refine R_aload_n (gxd kX7_trail 12 rfl) rfl rfl ?_
      refine R_getr (gxd kX7_trail 13 rfl) gf_M_39 gk_65 (by decide) rfl ?_
      refine R_iload_n (gxd kX7_trail 14 rfl) rfl rfl ?_
      obtain ⟨b9, H⟩ := ggi H
      have b9 := gin_in b9
      refine R_iald (gxd kX7_trail 15 rfl) gk_74 b9 ?_
      refine R_iload_n (gxd kX7_trail 16 rfl) rfl rfl ?_
      refine R_sipush (v := (1000 : Int32)) (gxd kX7_trail 17 rfl) rfl ?_
      refine R_isub (gxd kX7_trail 18 rfl) ?_
      refine R_icmp_ne (gxd kX7_trail 19 rfl) (tgt := 40) rfl (fun q => ?_) (fun q => ?_)
      · replace H := giff q H
        refine R_iinc (v := (v3 + (1 : Int32))) (gxd kX7_trail 22 rfl) rfl rfl rfl (Nat.le_of_ble_eq_true rfl) rfl ?_
        refine R_goto (gxd kX7_trail 23 rfl) (tgt := 16) rfl ?_
        exact R_weak (gle_same (gle_null (gle_same (gle_same gle_nil)))) (ih _ _ _  H)
      · replace H := gift q H
        refine R_iload_n (gxd kX7_trail 20 rfl) rfl rfl ?_
        obtain rfl := Option.some.inj H
        exact R_iret (gxd kX7_trail 21 rfl) rfl
def fM_trail (v1 : Int32) (v2 : Int32) (h : gH) : Option (Int32 × gH) :=
  (fM_in v2.toInt64 (1000 : Int64) (1079 : Int64) h).bind fun p1 =>
  if p1.1 = (0 : Int32) then
    (fM_in v2.toInt64 (0 : Int64) (1 : Int64) p1.2).bind fun p3 =>
    if p3.1 = (0 : Int32) then
      some ((-2 : Int32), p3.2)
    else
      (fM_in v1.toInt64 (0 : Int64) (((p3.2 65 15) - (1 : Int32)).toInt64) p3.2).bind fun p5 =>
      if p5.1 = (0 : Int32) then
        some ((-12 : Int32), p5.2)
      else
        if v2 = (0 : Int32) then
          gg (gin v1 80) <|
          some ((p5.2 74 v1.toNatClampNeg), p5.2)
        else
          gg (gin v1 80) <|
          some ((p5.2 75 v1.toNatClampNeg), p5.2)
  else
    fM_trail_16 v2 gfu (0 : Int32) p1.2
theorem fM_trail_ok {v1 : Int32} {v2 : Int32} {h : gH} {x : (Int32 × gH)} (H : fM_trail v1 v2 h = some x) (d : Nat) : gC yX7_trail cX7_trail 4 (some .int) (d + 1) [.ref 65, .int v1, .int v2] h (some (.int x.1)) x.2 := by
  refine gC_of (by decide +kernel) (Nat.le_of_ble_eq_true rfl) rfl ?_
  unfold fM_trail at H
  refine R_iload_n (gxd kX7_trail 0 rfl) rfl rfl ?_
  refine R_i2l (gxd kX7_trail 1 rfl) ?_
  refine R_ldc2 (v := (1000 : Int64)) (gxd kX7_trail 2 rfl) gc_M_324 ?_
  refine R_ldc2 (v := (1079 : Int64)) (gxd kX7_trail 3 rfl) gc_M_326 ?_
  obtain ⟨p1, e2, H⟩ := gbi H
  refine R_callSi (gxd kX7_trail 4 rfl) gm_M_140 wX7_in (by decide) rfl (Nat.le_of_ble_eq_true rfl) (by omega) (fM_in_ok  e2 (d + 0)) ?_
  refine R_if_eq (gxd kX7_trail 5 rfl) (tgt := 48) rfl (fun q => ?_) (fun q => ?_)
  · replace H := gift q H
    refine R_iload_n (gxd kX7_trail 26 rfl) rfl rfl ?_
    refine R_i2l (gxd kX7_trail 27 rfl) ?_
    refine R_lconst (v := (0 : Int64)) (gxd kX7_trail 28 rfl) rfl ?_
    refine R_lconst (v := (1 : Int64)) (gxd kX7_trail 29 rfl) rfl ?_
    obtain ⟨p3, e4, H⟩ := gbi H
    refine R_callSi (gxd kX7_trail 30 rfl) gm_M_140 wX7_in (by decide) rfl (Nat.le_of_ble_eq_true rfl) (by omega) (fM_in_ok  e4 (d + 0)) ?_
    refine R_if_ne (gxd kX7_trail 31 rfl) (tgt := 61) rfl (fun q => ?_) (fun q => ?_)
    · replace H := giff q H
      refine R_iload_n (gxd kX7_trail 34 rfl) rfl rfl ?_
      refine R_i2l (gxd kX7_trail 35 rfl) ?_
      refine R_lconst (v := (0 : Int64)) (gxd kX7_trail 36 rfl) rfl ?_
      refine R_aload_n (gxd kX7_trail 37 rfl) rfl rfl ?_
      refine R_geti (gxd kX7_trail 38 rfl) gf_M_262 gk_65 (by decide) rfl ?_
      refine R_iconst (v := (1 : Int32)) (gxd kX7_trail 39 rfl) rfl ?_
      refine R_isub (gxd kX7_trail 40 rfl) ?_
      refine R_i2l (gxd kX7_trail 41 rfl) ?_
      obtain ⟨p5, e6, H⟩ := gbi H
      refine R_callSi (gxd kX7_trail 42 rfl) gm_M_140 wX7_in (by decide) rfl (Nat.le_of_ble_eq_true rfl) (by omega) (fM_in_ok  e6 (d + 0)) ?_
      refine R_if_ne (gxd kX7_trail 43 rfl) (tgt := 82) rfl (fun q => ?_) (fun q => ?_)
      · replace H := giff q H
        refine R_iload_n (gxd kX7_trail 46 rfl) rfl rfl ?_
        refine R_if_ne (gxd kX7_trail 47 rfl) (tgt := 95) rfl (fun q => ?_) (fun q => ?_)
        · replace H := giff q H
          refine R_aload_n (gxd kX7_trail 53 rfl) rfl rfl ?_
          refine R_getr (gxd kX7_trail 54 rfl) gf_M_42 gk_65 (by decide) rfl ?_
          refine R_iload_n (gxd kX7_trail 55 rfl) rfl rfl ?_
          obtain ⟨b7, H⟩ := ggi H
          have b7 := gin_in b7
          refine R_iald (gxd kX7_trail 56 rfl) gk_75 b7 ?_
          obtain rfl := Option.some.inj H
          exact R_iret (gxd kX7_trail 57 rfl) rfl
        · replace H := gift q H
          refine R_aload_n (gxd kX7_trail 48 rfl) rfl rfl ?_
          refine R_getr (gxd kX7_trail 49 rfl) gf_M_39 gk_65 (by decide) rfl ?_
          refine R_iload_n (gxd kX7_trail 50 rfl) rfl rfl ?_
          obtain ⟨b8, H⟩ := ggi H
          have b8 := gin_in b8
          refine R_iald (gxd kX7_trail 51 rfl) gk_74 b8 ?_
          refine R_goto (gxd kX7_trail 52 rfl) (tgt := 101) rfl ?_
          obtain rfl := Option.some.inj H
          exact R_iret (gxd kX7_trail 57 rfl) rfl
      · replace H := gift q H
        refine R_bipush (v := (-12 : Int32)) (gxd kX7_trail 44 rfl) rfl ?_
        refine R_goto (gxd kX7_trail 45 rfl) (tgt := 101) rfl ?_
        obtain rfl := Option.some.inj H
        exact R_iret (gxd kX7_trail 57 rfl) rfl
    · replace H := gift q H
      refine R_bipush (v := (-2 : Int32)) (gxd kX7_trail 32 rfl) rfl ?_
      obtain rfl := Option.some.inj H
      exact R_iret (gxd kX7_trail 33 rfl) rfl
  · replace H := giff q H
    refine R_iconst (v := (0 : Int32)) (gxd kX7_trail 6 rfl) rfl ?_
    refine R_istore_n (gxd kX7_trail 7 rfl) rfl rfl (Nat.le_of_ble_eq_true rfl) rfl ?_
    exact R_weak (gle_same (gle_null (gle_same (gle_same gle_nil)))) (fM_trail_16_ok  gfu _ _ _  H)
def fM_decision (v1 : Int32) (v2 : Int32) (h : gH) : Option (Int32 × gH) :=
  (fM_in v2.toInt64 (0 : Int64) (1 : Int64) h).bind fun p1 =>
  if p1.1 = (0 : Int32) then
    some ((-2 : Int32), p1.2)
  else
    (fM_in v1.toInt64 (0 : Int64) (((p1.2 65 12) - (1 : Int32)).toInt64) p1.2).bind fun p3 =>
    if p3.1 = (0 : Int32) then
      some ((-12 : Int32), p3.2)
    else
      if v2 = (0 : Int32) then
        gg (gin v1 12) <|
        some ((p3.2 72 v1.toNatClampNeg), p3.2)
      else
        gg (gin v1 12) <|
        some ((p3.2 73 v1.toNatClampNeg), p3.2)
theorem fM_decision_ok {v1 : Int32} {v2 : Int32} {h : gH} {x : (Int32 × gH)} (H : fM_decision v1 v2 h = some x) (d : Nat) : gC yX7_decision cX7_decision 3 (some .int) (d + 1) [.ref 65, .int v1, .int v2] h (some (.int x.1)) x.2 := by
  refine gC_of (by decide +kernel) (Nat.le_of_ble_eq_true rfl) rfl ?_
  unfold fM_decision at H
  refine R_iload_n (gxd kX7_decision 0 rfl) rfl rfl ?_
  refine R_i2l (gxd kX7_decision 1 rfl) ?_
  refine R_lconst (v := (0 : Int64)) (gxd kX7_decision 2 rfl) rfl ?_
  refine R_lconst (v := (1 : Int64)) (gxd kX7_decision 3 rfl) rfl ?_
  obtain ⟨p1, e2, H⟩ := gbi H
  refine R_callSi (gxd kX7_decision 4 rfl) gm_M_140 wX7_in (by decide) rfl (Nat.le_of_ble_eq_true rfl) (by omega) (fM_in_ok  e2 (d + 0)) ?_
  refine R_if_ne (gxd kX7_decision 5 rfl) (tgt := 13) rfl (fun q => ?_) (fun q => ?_)
  · replace H := giff q H
    refine R_iload_n (gxd kX7_decision 8 rfl) rfl rfl ?_
    refine R_i2l (gxd kX7_decision 9 rfl) ?_
    refine R_lconst (v := (0 : Int64)) (gxd kX7_decision 10 rfl) rfl ?_
    refine R_aload_n (gxd kX7_decision 11 rfl) rfl rfl ?_
    refine R_geti (gxd kX7_decision 12 rfl) gf_M_312 gk_65 (by decide) rfl ?_
    refine R_iconst (v := (1 : Int32)) (gxd kX7_decision 13 rfl) rfl ?_
    refine R_isub (gxd kX7_decision 14 rfl) ?_
    refine R_i2l (gxd kX7_decision 15 rfl) ?_
    obtain ⟨p3, e4, H⟩ := gbi H
    refine R_callSi (gxd kX7_decision 16 rfl) gm_M_140 wX7_in (by decide) rfl (Nat.le_of_ble_eq_true rfl) (by omega) (fM_in_ok  e4 (d + 0)) ?_
    refine R_if_ne (gxd kX7_decision 17 rfl) (tgt := 34) rfl (fun q => ?_) (fun q => ?_)
    · replace H := giff q H
      refine R_iload_n (gxd kX7_decision 20 rfl) rfl rfl ?_
      refine R_if_ne (gxd kX7_decision 21 rfl) (tgt := 47) rfl (fun q => ?_) (fun q => ?_)
      · replace H := giff q H
        refine R_aload_n (gxd kX7_decision 27 rfl) rfl rfl ?_
        refine R_getr (gxd kX7_decision 28 rfl) gf_M_36 gk_65 (by decide) rfl ?_
        refine R_iload_n (gxd kX7_decision 29 rfl) rfl rfl ?_
        obtain ⟨b5, H⟩ := ggi H
        have b5 := gin_in b5
        refine R_iald (gxd kX7_decision 30 rfl) gk_73 b5 ?_
        obtain rfl := Option.some.inj H
        exact R_iret (gxd kX7_decision 31 rfl) rfl
      · replace H := gift q H
        refine R_aload_n (gxd kX7_decision 22 rfl) rfl rfl ?_
        refine R_getr (gxd kX7_decision 23 rfl) gf_M_33 gk_65 (by decide) rfl ?_
        refine R_iload_n (gxd kX7_decision 24 rfl) rfl rfl ?_
        obtain ⟨b6, H⟩ := ggi H
        have b6 := gin_in b6
        refine R_iald (gxd kX7_decision 25 rfl) gk_72 b6 ?_
        refine R_goto (gxd kX7_decision 26 rfl) (tgt := 53) rfl ?_
        obtain rfl := Option.some.inj H
        exact R_iret (gxd kX7_decision 31 rfl) rfl
    · replace H := gift q H
      refine R_bipush (v := (-12 : Int32)) (gxd kX7_decision 18 rfl) rfl ?_
      refine R_goto (gxd kX7_decision 19 rfl) (tgt := 53) rfl ?_
      obtain rfl := Option.some.inj H
      exact R_iret (gxd kX7_decision 31 rfl) rfl
  · replace H := gift q H
    refine R_bipush (v := (-2 : Int32)) (gxd kX7_decision 6 rfl) rfl ?_
    obtain rfl := Option.some.inj H
    exact R_iret (gxd kX7_decision 7 rfl) rfl
def fM_laysAside_28 : Nat → Int32 → gH → Option gH
  | 0, _, _ => none
  | n + 1, v1, h =>
    if v1 < (24 : Int32) then
      gg (gin v1 24) <|
      gg (gin v1 24) <|
      gg (gbo (h 71 v1.toNatClampNeg)) <|
      glet (hu h 83 v1.toNatClampNeg (h 71 v1.toNatClampNeg)) fun h9 =>
      fM_laysAside_28 n (v1 + (1 : Int32)) h9
    else
      gg (gbo (h 65 2)) <|
      glet (hu h 65 39 (h 65 2)) fun h2 =>
      glet (hu h2 65 40 (h2 65 20)) fun h4 =>
      some (hu h4 65 36 (1 : Int32))
theorem fM_laysAside_28_ok {d : Nat}  : ∀ (n : Nat) (v1 : Int32) (h : gH) (x : gH), fM_laysAside_28  n v1 h = some x → gR RX7 cX7_laysAside 2 none (d + 0) 28 [.ref 65, .int v1] [] h none x := by
  intro n
  induction n with
  | zero => intro v1 h x  H; exact g0 H
  | succ n ih =>
    intro v1 h x  H
    unfold fM_laysAside_28 at H
    refine R_iload_n (gxd kX7_laysAside 17 rfl) rfl rfl ?_
    refine R_bipush (v := (24 : Int32)) (gxd kX7_laysAside 18 rfl) rfl ?_
    refine R_icmp_ge (gxd kX7_laysAside 19 rfl) (tgt := 52) rfl (fun q => ?_) (fun q => ?_)
    · replace H := giff q H
      refine R_aload_n (gxd kX7_laysAside 30 rfl) rfl rfl ?_
      refine R_aload_n (gxd kX7_laysAside 31 rfl) rfl rfl ?_
      refine R_geti (gxd kX7_laysAside 32 rfl) gf_M_229 gk_65 (by decide) rfl ?_
      obtain ⟨b1, H⟩ := ggi H
      have b1 := gbo_or b1
      refine R_putz (gxd kX7_laysAside 33 rfl) gf_M_328 gp_7_39 b1 gk_65 (by decide) rfl ?_
      obtain ⟨h2, e3, H⟩ := glei H
      refine R_heq e3 ?_
      refine R_aload_n (gxd kX7_laysAside 34 rfl) rfl rfl ?_
      refine R_aload_n (gxd kX7_laysAside 35 rfl) rfl rfl ?_
      refine R_geti (gxd kX7_laysAside 36 rfl) gf_M_299 gk_65 (by decide) rfl ?_
      refine R_puti (gxd kX7_laysAside 37 rfl) gf_M_331 gp_7_40 gk_65 (by decide) rfl ?_
      obtain ⟨h4, e5, H⟩ := glei H
      refine R_heq e5 ?_
      refine R_aload_n (gxd kX7_laysAside 38 rfl) rfl rfl ?_
      refine R_iconst (v := (1 : Int32)) (gxd kX7_laysAside 39 rfl) rfl ?_
      refine R_putz (gxd kX7_laysAside 40 rfl) gf_M_259 gp_7_36 (Or.inr rfl) gk_65 (by decide) rfl ?_
      obtain rfl := Option.some.inj H
      exact R_vret (gxd kX7_laysAside 41 rfl) rfl
    · replace H := gift q H
      refine R_aload_n (gxd kX7_laysAside 20 rfl) rfl rfl ?_
      refine R_getr (gxd kX7_laysAside 21 rfl) gf_M_66 gk_65 (by decide) rfl ?_
      refine R_iload_n (gxd kX7_laysAside 22 rfl) rfl rfl ?_
      refine R_aload_n (gxd kX7_laysAside 23 rfl) rfl rfl ?_
      refine R_getr (gxd kX7_laysAside 24 rfl) gf_M_30 gk_65 (by decide) rfl ?_
      refine R_iload_n (gxd kX7_laysAside 25 rfl) rfl rfl ?_
      obtain ⟨b6, H⟩ := ggi H
      have b6 := gin_in b6
      refine R_zald (gxd kX7_laysAside 26 rfl) gk_71 b6 ?_
      obtain ⟨b7, H⟩ := ggi H
      have b7 := gin_in b7
      obtain ⟨b8, H⟩ := ggi H
      have b8 := gbo_or b8
      refine R_zast (gxd kX7_laysAside 27 rfl) gk_83 b7 b8 ?_
      obtain ⟨h9, e10, H⟩ := glei H
      refine R_heq e10 ?_
      refine R_iinc (v := (v1 + (1 : Int32))) (gxd kX7_laysAside 28 rfl) rfl rfl rfl (Nat.le_of_ble_eq_true rfl) rfl ?_
      refine R_goto (gxd kX7_laysAside 29 rfl) (tgt := 28) rfl ?_
      exact R_weak (gle_same (gle_same gle_nil)) (ih _ _ _  H)
def fM_laysAside_2 : Nat → Int32 → gH → Option gH
  | 0, _, _ => none
  | n + 1, v1, h =>
    if v1 < (8 : Int32) then
      gg (gin v1 8) <|
      gg (gin v1 8) <|
      glet (hu h 82 v1.toNatClampNeg (h 66 v1.toNatClampNeg)) fun h13 =>
      fM_laysAside_2 n (v1 + (1 : Int32)) h13
    else
      fM_laysAside_28 gfu (0 : Int32) h
theorem fM_laysAside_2_ok {d : Nat}  : ∀ (n : Nat) (v1 : Int32) (h : gH) (x : gH), fM_laysAside_2  n v1 h = some x → gR RX7 cX7_laysAside 2 none (d + 0) 2 [.ref 65, .int v1] [] h none x := by
  intro n
  induction n with
  | zero => intro v1 h x  H; exact g0 H
  | succ n ih =>
    intro v1 h x  H
    unfold fM_laysAside_2 at H
    refine R_iload_n (gxd kX7_laysAside 2 rfl) rfl rfl ?_
    refine R_bipush (v := (8 : Int32)) (gxd kX7_laysAside 3 rfl) rfl ?_
    refine R_icmp_ge (gxd kX7_laysAside 4 rfl) (tgt := 26) rfl (fun q => ?_) (fun q => ?_)
    · replace H := giff q H
      refine R_iconst (v := (0 : Int32)) (gxd kX7_laysAside 15 rfl) rfl ?_
      refine R_istore_n (gxd kX7_laysAside 16 rfl) rfl rfl (Nat.le_of_ble_eq_true rfl) rfl ?_
      exact R_weak (gle_same (gle_same gle_nil)) (fM_laysAside_28_ok  gfu _ _ _  H)
    · replace H := gift q H
      refine R_aload_n (gxd kX7_laysAside 5 rfl) rfl rfl ?_
      refine R_getr (gxd kX7_laysAside 6 rfl) gf_M_63 gk_65 (by decide) rfl ?_
      refine R_iload_n (gxd kX7_laysAside 7 rfl) rfl rfl ?_
      refine R_aload_n (gxd kX7_laysAside 8 rfl) rfl rfl ?_
      refine R_getr (gxd kX7_laysAside 9 rfl) gf_M_13 gk_65 (by decide) rfl ?_
      refine R_iload_n (gxd kX7_laysAside 10 rfl) rfl rfl ?_
      obtain ⟨b11, H⟩ := ggi H
      have b11 := gin_in b11
      refine R_iald (gxd kX7_laysAside 11 rfl) gk_66 b11 ?_
      obtain ⟨b12, H⟩ := ggi H
      have b12 := gin_in b12
      refine R_iast (gxd kX7_laysAside 12 rfl) gk_82 b12 ?_
      obtain ⟨h13, e14, H⟩ := glei H
      refine R_heq e14 ?_
      refine R_iinc (v := (v1 + (1 : Int32))) (gxd kX7_laysAside 13 rfl) rfl rfl rfl (Nat.le_of_ble_eq_true rfl) rfl ?_
      refine R_goto (gxd kX7_laysAside 14 rfl) (tgt := 2) rfl ?_
      exact R_weak (gle_same (gle_same gle_nil)) (ih _ _ _  H)
def fM_laysAside (h : gH) : Option gH :=
  fM_laysAside_2 gfu (0 : Int32) h
theorem fM_laysAside_ok {h : gH} {x : gH} (H : fM_laysAside  h = some x) (d : Nat) : gC yX7_laysAside cX7_laysAside 2 none (d + 0) [.ref 65] h none x := by
  refine gC_of (by decide +kernel) (Nat.le_of_ble_eq_true rfl) rfl ?_
  unfold fM_laysAside at H
  refine R_iconst (v := (0 : Int32)) (gxd kX7_laysAside 0 rfl) rfl ?_
  refine R_istore_n (gxd kX7_laysAside 1 rfl) rfl rfl (Nat.le_of_ble_eq_true rfl) rfl ?_
  exact R_weak (gle_same (gle_same gle_nil)) (fM_laysAside_2_ok  gfu _ _ _  H)
def fM_laysBack_28 : Nat → Int32 → gH → Option gH
  | 0, _, _ => none
  | n + 1, v1, h =>
    if v1 < (24 : Int32) then
      gg (gin v1 24) <|
      gg (gin v1 24) <|
      gg (gbo (h 83 v1.toNatClampNeg)) <|
      glet (hu h 71 v1.toNatClampNeg (h 83 v1.toNatClampNeg)) fun h9 =>
      fM_laysBack_28 n (v1 + (1 : Int32)) h9
    else
      gg (gbo (h 65 39)) <|
      glet (hu h 65 2 (h 65 39)) fun h2 =>
      glet (hu h2 65 20 (h2 65 40)) fun h4 =>
      some (hu h4 65 36 (0 : Int32))
theorem fM_laysBack_28_ok {d : Nat}  : ∀ (n : Nat) (v1 : Int32) (h : gH) (x : gH), fM_laysBack_28  n v1 h = some x → gR RX7 cX7_laysBack 2 none (d + 0) 28 [.ref 65, .int v1] [] h none x := by
  intro n
  induction n with
  | zero => intro v1 h x  H; exact g0 H
  | succ n ih =>
    intro v1 h x  H
    unfold fM_laysBack_28 at H
    refine R_iload_n (gxd kX7_laysBack 17 rfl) rfl rfl ?_
    refine R_bipush (v := (24 : Int32)) (gxd kX7_laysBack 18 rfl) rfl ?_
    refine R_icmp_ge (gxd kX7_laysBack 19 rfl) (tgt := 52) rfl (fun q => ?_) (fun q => ?_)
    · replace H := giff q H
      refine R_aload_n (gxd kX7_laysBack 30 rfl) rfl rfl ?_
      refine R_aload_n (gxd kX7_laysBack 31 rfl) rfl rfl ?_
      refine R_geti (gxd kX7_laysBack 32 rfl) gf_M_328 gk_65 (by decide) rfl ?_
      obtain ⟨b1, H⟩ := ggi H
      have b1 := gbo_or b1
      refine R_putz (gxd kX7_laysBack 33 rfl) gf_M_229 gp_7_2 b1 gk_65 (by decide) rfl ?_
      obtain ⟨h2, e3, H⟩ := glei H
      refine R_heq e3 ?_
      refine R_aload_n (gxd kX7_laysBack 34 rfl) rfl rfl ?_
      refine R_aload_n (gxd kX7_laysBack 35 rfl) rfl rfl ?_
      refine R_geti (gxd kX7_laysBack 36 rfl) gf_M_331 gk_65 (by decide) rfl ?_
      refine R_puti (gxd kX7_laysBack 37 rfl) gf_M_299 gp_7_20 gk_65 (by decide) rfl ?_
      obtain ⟨h4, e5, H⟩ := glei H
      refine R_heq e5 ?_
      refine R_aload_n (gxd kX7_laysBack 38 rfl) rfl rfl ?_
      refine R_iconst (v := (0 : Int32)) (gxd kX7_laysBack 39 rfl) rfl ?_
      refine R_putz (gxd kX7_laysBack 40 rfl) gf_M_259 gp_7_36 (Or.inl rfl) gk_65 (by decide) rfl ?_
      obtain rfl := Option.some.inj H
      exact R_vret (gxd kX7_laysBack 41 rfl) rfl
    · replace H := gift q H
      refine R_aload_n (gxd kX7_laysBack 20 rfl) rfl rfl ?_
      refine R_getr (gxd kX7_laysBack 21 rfl) gf_M_30 gk_65 (by decide) rfl ?_
      refine R_iload_n (gxd kX7_laysBack 22 rfl) rfl rfl ?_
      refine R_aload_n (gxd kX7_laysBack 23 rfl) rfl rfl ?_
      refine R_getr (gxd kX7_laysBack 24 rfl) gf_M_66 gk_65 (by decide) rfl ?_
      refine R_iload_n (gxd kX7_laysBack 25 rfl) rfl rfl ?_
      obtain ⟨b6, H⟩ := ggi H
      have b6 := gin_in b6
      refine R_zald (gxd kX7_laysBack 26 rfl) gk_83 b6 ?_
      obtain ⟨b7, H⟩ := ggi H
      have b7 := gin_in b7
      obtain ⟨b8, H⟩ := ggi H
      have b8 := gbo_or b8
      refine R_zast (gxd kX7_laysBack 27 rfl) gk_71 b7 b8 ?_
      obtain ⟨h9, e10, H⟩ := glei H
      refine R_heq e10 ?_
      refine R_iinc (v := (v1 + (1 : Int32))) (gxd kX7_laysBack 28 rfl) rfl rfl rfl (Nat.le_of_ble_eq_true rfl) rfl ?_
      refine R_goto (gxd kX7_laysBack 29 rfl) (tgt := 28) rfl ?_
      exact R_weak (gle_same (gle_same gle_nil)) (ih _ _ _  H)
def fM_laysBack_2 : Nat → Int32 → gH → Option gH
  | 0, _, _ => none
  | n + 1, v1, h =>
    if v1 < (8 : Int32) then
      gg (gin v1 8) <|
      gg (gin v1 8) <|
      glet (hu h 66 v1.toNatClampNeg (h 82 v1.toNatClampNeg)) fun h13 =>
      fM_laysBack_2 n (v1 + (1 : Int32)) h13
    else
      fM_laysBack_28 gfu (0 : Int32) h
theorem fM_laysBack_2_ok {d : Nat}  : ∀ (n : Nat) (v1 : Int32) (h : gH) (x : gH), fM_laysBack_2  n v1 h = some x → gR RX7 cX7_laysBack 2 none (d + 0) 2 [.ref 65, .int v1] [] h none x := by
  intro n
  induction n with
  | zero => intro v1 h x  H; exact g0 H
  | succ n ih =>
    intro v1 h x  H
    unfold fM_laysBack_2 at H
    refine R_iload_n (gxd kX7_laysBack 2 rfl) rfl rfl ?_
    refine R_bipush (v := (8 : Int32)) (gxd kX7_laysBack 3 rfl) rfl ?_
    refine R_icmp_ge (gxd kX7_laysBack 4 rfl) (tgt := 26) rfl (fun q => ?_) (fun q => ?_)
    · replace H := giff q H
      refine R_iconst (v := (0 : Int32)) (gxd kX7_laysBack 15 rfl) rfl ?_
      refine R_istore_n (gxd kX7_laysBack 16 rfl) rfl rfl (Nat.le_of_ble_eq_true rfl) rfl ?_
      exact R_weak (gle_same (gle_same gle_nil)) (fM_laysBack_28_ok  gfu _ _ _  H)
    · replace H := gift q H
      refine R_aload_n (gxd kX7_laysBack 5 rfl) rfl rfl ?_
      refine R_getr (gxd kX7_laysBack 6 rfl) gf_M_13 gk_65 (by decide) rfl ?_
      refine R_iload_n (gxd kX7_laysBack 7 rfl) rfl rfl ?_
      refine R_aload_n (gxd kX7_laysBack 8 rfl) rfl rfl ?_
      refine R_getr (gxd kX7_laysBack 9 rfl) gf_M_63 gk_65 (by decide) rfl ?_
      refine R_iload_n (gxd kX7_laysBack 10 rfl) rfl rfl ?_
      obtain ⟨b11, H⟩ := ggi H
      have b11 := gin_in b11
      refine R_iald (gxd kX7_laysBack 11 rfl) gk_82 b11 ?_
      obtain ⟨b12, H⟩ := ggi H
      have b12 := gin_in b12
      refine R_iast (gxd kX7_laysBack 12 rfl) gk_66 b12 ?_
      obtain ⟨h13, e14, H⟩ := glei H
      refine R_heq e14 ?_
      refine R_iinc (v := (v1 + (1 : Int32))) (gxd kX7_laysBack 13 rfl) rfl rfl rfl (Nat.le_of_ble_eq_true rfl) rfl ?_
      refine R_goto (gxd kX7_laysBack 14 rfl) (tgt := 2) rfl ?_
      exact R_weak (gle_same (gle_same gle_nil)) (ih _ _ _  H)
def fM_laysBack (h : gH) : Option gH :=
  fM_laysBack_2 gfu (0 : Int32) h
theorem fM_laysBack_ok {h : gH} {x : gH} (H : fM_laysBack  h = some x) (d : Nat) : gC yX7_laysBack cX7_laysBack 2 none (d + 0) [.ref 65] h none x := by
  refine gC_of (by decide +kernel) (Nat.le_of_ble_eq_true rfl) rfl ?_
  unfold fM_laysBack at H
  refine R_iconst (v := (0 : Int32)) (gxd kX7_laysBack 0 rfl) rfl ?_
  refine R_istore_n (gxd kX7_laysBack 1 rfl) rfl rfl (Nat.le_of_ble_eq_true rfl) rfl ?_
  exact R_weak (gle_same (gle_same gle_nil)) (fM_laysBack_2_ok  gfu _ _ _  H)
def fM_starts_255 (k223 : Int32 → gH → Option gH) (v3 : Int32) (v4 : Int32) (h : gH) : Option gH :=
  (fM_nextRule h).bind fun p12 =>
  k223 p12.1 p12.2
theorem fM_starts_255_ok {d : Nat} {k223 : Int32 → gH → Option gH} {v3 : Int32} {v4 : Int32} (hk223 : ∀ (u5 : Int32) (h : gH) (x : gH), k223 u5 h = some x → gR RX7 cX7_starts 6 none (d + 4) 223 [.ref 65, .null, .null, .int v3, .int v4, .int u5] [] h none x) {h : gH} {x : gH} (H : fM_starts_255 k223 v3 v4  h = some x) : gR RX7 cX7_starts 6 none (d + 4) 255 [.ref 65, .null, .null, .int v3, .int v4, .null] [] h none x := by
  unfold fM_starts_255 at H
  refine R_aload_n (gxd kX7_starts 135 rfl) rfl rfl ?_
  obtain ⟨p12, e13, H⟩ := gbi H
  refine R_callVi (gxd kX7_starts 136 rfl) gm_M_296 wX7_nextRule (by decide) gk_65 rfl rfl (Nat.le_of_ble_eq_true rfl) (by omega) (fM_nextRule_ok  e13 (d + 1)) ?_
  refine R_istore (gxd kX7_starts 137 rfl) rfl (Nat.le_of_ble_eq_true rfl) rfl ?_
  refine R_goto (gxd kX7_starts 138 rfl) (tgt := 223) rfl ?_
  exact R_weak (gle_same (gle_null (gle_null (gle_same (gle_same (gle_same gle_nil)))))) (hk223 _ _ _  H)
def fM_starts_223 (v3 : Int32) (v4 : Int32) : Nat → Int32 → gH → Option gH
  | 0, _, _ => none
  | n + 1, v5, h =>
    if v5 = (-1 : Int32) then
      some (hu h 65 9 v4)
    else
      gg (gin v5 24) <|
      glet (hu h 71 v5.toNatClampNeg (0 : Int32)) fun h8 =>
      (fM_prunes v5 h8).bind fun h10 =>
      if v3 = (-1 : Int32) then
        fM_starts_255 (fM_starts_223 v3 v4 n) v3 v4 h10
      else
        gg (gin v3 24) <|
        fM_starts_255 (fM_starts_223 v3 v4 n) v3 v4 (hu h10 71 v3.toNatClampNeg (0 : Int32))
theorem fM_starts_223_ok {d : Nat} {v3 : Int32} {v4 : Int32}  : ∀ (n : Nat) (v5 : Int32) (h : gH) (x : gH), fM_starts_223 v3 v4 n v5 h = some x → gR RX7 cX7_starts 6 none (d + 4) 223 [.ref 65, .null, .null, .int v3, .int v4, .int v5] [] h none x := by
  intro n
  induction n with
  | zero => intro v5 h x  H; exact g0 H
  | succ n ih =>
    intro v5 h x  H
    unfold fM_starts_223 at H
    refine R_iload (gxd kX7_starts 116 rfl) rfl ?_
    refine R_iconst (v := (-1 : Int32)) (gxd kX7_starts 117 rfl) rfl ?_
    refine R_icmp_eq (gxd kX7_starts 118 rfl) (tgt := 264) rfl (fun q => ?_) (fun q => ?_)
    · replace H := gift q H
      refine R_aload_n (gxd kX7_starts 139 rfl) rfl rfl ?_
      refine R_iload (gxd kX7_starts 140 rfl) rfl ?_
      refine R_puti (gxd kX7_starts 141 rfl) gf_M_239 gp_7_9 gk_65 (by decide) rfl ?_
      obtain rfl := Option.some.inj H
      exact R_vret (gxd kX7_starts 142 rfl) rfl
    · replace H := giff q H
      refine R_aload_n (gxd kX7_starts 119 rfl) rfl rfl ?_
      refine R_getr (gxd kX7_starts 120 rfl) gf_M_30 gk_65 (by decide) rfl ?_
      refine R_iload (gxd kX7_starts 121 rfl) rfl ?_
      refine R_iconst (v := (0 : Int32)) (gxd kX7_starts 122 rfl) rfl ?_
      obtain ⟨b7, H⟩ := ggi H
      have b7 := gin_in b7
      refine R_zast (gxd kX7_starts 123 rfl) gk_71 b7 (Or.inl rfl) ?_
      obtain ⟨h8, e9, H⟩ := glei H
      refine R_heq e9 ?_
      refine R_aload_n (gxd kX7_starts 124 rfl) rfl rfl ?_
      refine R_iload (gxd kX7_starts 125 rfl) rfl ?_
      obtain ⟨h10, e11, H⟩ := gbi H
      refine R_callVv (gxd kX7_starts 126 rfl) gm_M_302 wX7_prunes (by decide) gk_65 rfl rfl (Nat.le_of_ble_eq_true rfl) (by omega) (fM_prunes_ok  e11 (d + 0)) ?_
      refine R_iload_n (gxd kX7_starts 127 rfl) rfl rfl ?_
      refine R_iconst (v := (-1 : Int32)) (gxd kX7_starts 128 rfl) rfl ?_
      refine R_icmp_eq (gxd kX7_starts 129 rfl) (tgt := 255) rfl (fun q => ?_) (fun q => ?_)
      · replace H := gift q H
        exact R_weak (gle_same (gle_null (gle_null (gle_same (gle_same (gle_null gle_nil)))))) (fM_starts_255_ok ih  H)
      · replace H := giff q H
        refine R_aload_n (gxd kX7_starts 130 rfl) rfl rfl ?_
        refine R_getr (gxd kX7_starts 131 rfl) gf_M_30 gk_65 (by decide) rfl ?_
        refine R_iload_n (gxd kX7_starts 132 rfl) rfl rfl ?_
        refine R_iconst (v := (0 : Int32)) (gxd kX7_starts 133 rfl) rfl ?_
        obtain ⟨b14, H⟩ := ggi H
        have b14 := gin_in b14
        refine R_zast (gxd kX7_starts 134 rfl) gk_71 b14 (Or.inl rfl) ?_
        exact R_weak (gle_same (gle_null (gle_null (gle_same (gle_same (gle_null gle_nil)))))) (fM_starts_255_ok ih  H)
def fM_starts_199 (k166 : Int32 → gH → Option gH) (v3 : Int32) (v4 : Int32) (s1 : Int32) (s2 : Int32) (h : gH) : Option gH :=
  gg (gin s1 24) <|
  gg (gbo s2) <|
  glet (hu h 71 s1.toNatClampNeg s2) fun h17 =>
  k166 (v4 + (1 : Int32)) h17
theorem fM_starts_199_ok {d : Nat} {k166 : Int32 → gH → Option gH} {v3 : Int32} {v4 : Int32} {s1 : Int32} {s2 : Int32} (hk166 : ∀ (u4 : Int32) (h : gH) (x : gH), k166 u4 h = some x → gR RX7 cX7_starts 6 none (d + 4) 166 [.ref 65, .null, .null, .int v3, .int u4, .null] [] h none x) {h : gH} {x : gH} (H : fM_starts_199 k166 v3 v4 s1 s2 h = some x) : gR RX7 cX7_starts 6 none (d + 4) 199 [.ref 65, .null, .null, .int v3, .int v4, .null] [.int s2, .int s1, .ref 71] h none x := by
  unfold fM_starts_199 at H
  obtain ⟨b15, H⟩ := ggi H
  have b15 := gin_in b15
  obtain ⟨b16, H⟩ := ggi H
  have b16 := gbo_or b16
  refine R_zast (gxd kX7_starts 104 rfl) gk_71 b15 b16 ?_
  obtain ⟨h17, e18, H⟩ := glei H
  refine R_heq e18 ?_
  refine R_iinc (v := (v4 + (1 : Int32))) (gxd kX7_starts 105 rfl) rfl rfl rfl (Nat.le_of_ble_eq_true rfl) rfl ?_
  refine R_goto (gxd kX7_starts 106 rfl) (tgt := 166) rfl ?_
  exact R_weak (gle_same (gle_null (gle_null (gle_same (gle_same (gle_null gle_nil)))))) (hk166 _ _ _  H)
def fM_starts_198 (k166 : Int32 → gH → Option gH) (v3 : Int32) (v4 : Int32) (s1 : Int32) (h : gH) : Option gH :=
  fM_starts_199 k166 v3 v4 s1 (0 : Int32) h
theorem fM_starts_198_ok {d : Nat} {k166 : Int32 → gH → Option gH} {v3 : Int32} {v4 : Int32} {s1 : Int32} (hk166 : ∀ (u4 : Int32) (h : gH) (x : gH), k166 u4 h = some x → gR RX7 cX7_starts 6 none (d + 4) 166 [.ref 65, .null, .null, .int v3, .int u4, .null] [] h none x) {h : gH} {x : gH} (H : fM_starts_198 k166 v3 v4 s1 h = some x) : gR RX7 cX7_starts 6 none (d + 4) 198 [.ref 65, .null, .null, .int v3, .int v4, .null] [.int s1, .ref 71] h none x := by
  unfold fM_starts_198 at H
  refine R_iconst (v := (0 : Int32)) (gxd kX7_starts 103 rfl) rfl ?_
  exact R_weak (gle_same (gle_null (gle_null (gle_same (gle_same (gle_null gle_nil)))))) (fM_starts_199_ok hk166  H)
def fM_starts_166 (v3 : Int32) : Nat → Int32 → gH → Option gH
  | 0, _, _ => none
  | n + 1, v4, h =>
    if v4 < (h 65 8) then
      if v4 = v3 then
        fM_starts_198 (fM_starts_166 v3 n) v3 v4 v4 h
      else
        if (h 65 2) = (0 : Int32) then
          fM_starts_199 (fM_starts_166 v3 n) v3 v4 v4 (1 : Int32) h
        else
          fM_starts_198 (fM_starts_166 v3 n) v3 v4 v4 h
    else
      glet (hu h 65 9 (0 : Int32)) fun h3 =>
      (fM_nextRule h3).bind fun p5 =>
      fM_starts_223 v3 (h 65 9) gfu p5.1 p5.2
theorem fM_starts_166_ok {d : Nat} {v3 : Int32}  : ∀ (n : Nat) (v4 : Int32) (h : gH) (x : gH), fM_starts_166 v3 n v4 h = some x → gR RX7 cX7_starts 6 none (d + 4) 166 [.ref 65, .null, .null, .int v3, .int v4, .null] [] h none x := by
  intro n
  induction n with
  | zero => intro v4 h x  H; exact g0 H
  | succ n ih =>
    intro v4 h x  H
    unfold fM_starts_166 at H
    refine R_iload (gxd kX7_starts 88 rfl) rfl ?_
    refine R_aload_n (gxd kX7_starts 89 rfl) rfl rfl ?_
    refine R_geti (gxd kX7_starts 90 rfl) gf_M_226 gk_65 (by decide) rfl ?_
    refine R_icmp_ge (gxd kX7_starts 91 rfl) (tgt := 206) rfl (fun q => ?_) (fun q => ?_)
    · replace H := giff q H
      refine R_aload_n (gxd kX7_starts 107 rfl) rfl rfl ?_
      refine R_geti (gxd kX7_starts 108 rfl) gf_M_239 gk_65 (by decide) rfl ?_
      refine R_istore (gxd kX7_starts 109 rfl) rfl (Nat.le_of_ble_eq_true rfl) rfl ?_
      refine R_aload_n (gxd kX7_starts 110 rfl) rfl rfl ?_
      refine R_iconst (v := (0 : Int32)) (gxd kX7_starts 111 rfl) rfl ?_
      refine R_puti (gxd kX7_starts 112 rfl) gf_M_239 gp_7_9 gk_65 (by decide) rfl ?_
      obtain ⟨h3, e4, H⟩ := glei H
      refine R_heq e4 ?_
      refine R_aload_n (gxd kX7_starts 113 rfl) rfl rfl ?_
      obtain ⟨p5, e6, H⟩ := gbi H
      refine R_callVi (gxd kX7_starts 114 rfl) gm_M_296 wX7_nextRule (by decide) gk_65 rfl rfl (Nat.le_of_ble_eq_true rfl) (by omega) (fM_nextRule_ok  e6 (d + 1)) ?_
      refine R_istore (gxd kX7_starts 115 rfl) rfl (Nat.le_of_ble_eq_true rfl) rfl ?_
      exact R_weak (gle_same (gle_null (gle_null (gle_same (gle_same (gle_same gle_nil)))))) (fM_starts_223_ok  gfu _ _ _  H)
    · replace H := gift q H
      refine R_aload_n (gxd kX7_starts 92 rfl) rfl rfl ?_
      refine R_getr (gxd kX7_starts 93 rfl) gf_M_30 gk_65 (by decide) rfl ?_
      refine R_iload (gxd kX7_starts 94 rfl) rfl ?_
      refine R_iload (gxd kX7_starts 95 rfl) rfl ?_
      refine R_iload_n (gxd kX7_starts 96 rfl) rfl rfl ?_
      refine R_icmp_eq (gxd kX7_starts 97 rfl) (tgt := 198) rfl (fun q => ?_) (fun q => ?_)
      · replace H := gift q H
        exact R_weak (gle_same (gle_null (gle_null (gle_same (gle_same (gle_null gle_nil)))))) (fM_starts_198_ok ih  H)
      · replace H := giff q H
        refine R_aload_n (gxd kX7_starts 98 rfl) rfl rfl ?_
        refine R_geti (gxd kX7_starts 99 rfl) gf_M_229 gk_65 (by decide) rfl ?_
        refine R_if_ne (gxd kX7_starts 100 rfl) (tgt := 198) rfl (fun q => ?_) (fun q => ?_)
        · replace H := giff q H
          exact R_weak (gle_same (gle_null (gle_null (gle_same (gle_same (gle_null gle_nil)))))) (fM_starts_198_ok ih  H)
        · replace H := gift q H
          refine R_iconst (v := (1 : Int32)) (gxd kX7_starts 101 rfl) rfl ?_
          refine R_goto (gxd kX7_starts 102 rfl) (tgt := 199) rfl ?_
          exact R_weak (gle_same (gle_null (gle_null (gle_same (gle_same (gle_null gle_nil)))))) (fM_starts_199_ok ih  H)
def fM_starts_163 (v3 : Int32) (h : gH) : Option gH :=
  fM_starts_166 v3 gfu (0 : Int32) h
theorem fM_starts_163_ok {d : Nat} {v3 : Int32}  {h : gH} {x : gH} (H : fM_starts_163 v3  h = some x) : gR RX7 cX7_starts 6 none (d + 4) 163 [.ref 65, .null, .null, .int v3, .null, .null] [] h none x := by
  unfold fM_starts_163 at H
  refine R_iconst (v := (0 : Int32)) (gxd kX7_starts 86 rfl) rfl ?_
  refine R_istore (gxd kX7_starts 87 rfl) rfl (Nat.le_of_ble_eq_true rfl) rfl ?_
  exact R_weak (gle_same (gle_null (gle_null (gle_same (gle_same (gle_null gle_nil)))))) (fM_starts_166_ok  gfu _ _ _  H)
def fM_starts_112 (v2 : Int32) (v3 : Int32) : Nat → Int32 → gH → Option gH
  | 0, _, _ => none
  | n + 1, v4, h =>
    if v4 < (16 : Int32) then
      if (h 65 2) = (0 : Int32) then
        if ((v2 >>> (v4 &&& 31)) &&& (1 : Int32)) = (1 : Int32) then
          gg (gin v4 16) <|
          gg (gin v4 16) <|
          (fM_decides (h 84 v4.toNatClampNeg) ((1 : Int32) <<< ((h 85 v4.toNatClampNeg) &&& 31)) (0 : Int32) h).bind fun h21 =>
          fM_starts_112 v2 v3 n (v4 + (1 : Int32)) h21
        else
          fM_starts_112 v2 v3 n (v4 + (1 : Int32)) h
      else
        fM_starts_163 v3 h
    else
      fM_starts_163 v3 h
theorem fM_starts_112_ok {d : Nat} {v2 : Int32} {v3 : Int32}  : ∀ (n : Nat) (v4 : Int32) (h : gH) (x : gH), fM_starts_112 v2 v3 n v4 h = some x → gR RX7 cX7_starts 6 none (d + 4) 112 [.ref 65, .null, .int v2, .int v3, .int v4, .null] [] h none x := by
  intro n
  induction n with
  | zero => intro v4 h x  H; exact g0 H
  | succ n ih =>
    intro v4 h x  H
    unfold fM_starts_112 at H
    refine R_iload (gxd kX7_starts 58 rfl) rfl ?_
    refine R_bipush (v := (16 : Int32)) (gxd kX7_starts 59 rfl) rfl ?_
    refine R_icmp_ge (gxd kX7_starts 60 rfl) (tgt := 163) rfl (fun q => ?_) (fun q => ?_)
    · replace H := giff q H
      exact R_weak (gle_same (gle_null (gle_null (gle_same (gle_null (gle_null gle_nil)))))) (fM_starts_163_ok  H)
    · replace H := gift q H
      refine R_aload_n (gxd kX7_starts 61 rfl) rfl rfl ?_
      refine R_geti (gxd kX7_starts 62 rfl) gf_M_229 gk_65 (by decide) rfl ?_
      refine R_if_ne (gxd kX7_starts 63 rfl) (tgt := 163) rfl (fun q => ?_) (fun q => ?_)
      · replace H := giff q H
        exact R_weak (gle_same (gle_null (gle_null (gle_same (gle_null (gle_null gle_nil)))))) (fM_starts_163_ok  H)
      · replace H := gift q H
        refine R_iload_n (gxd kX7_starts 64 rfl) rfl rfl ?_
        refine R_iload (gxd kX7_starts 65 rfl) rfl ?_
        refine R_ishr (gxd kX7_starts 66 rfl) ?_
        refine R_iconst (v := (1 : Int32)) (gxd kX7_starts 67 rfl) rfl ?_
        refine R_iand (gxd kX7_starts 68 rfl) ?_
        refine R_iconst (v := (1 : Int32)) (gxd kX7_starts 69 rfl) rfl ?_
        refine R_icmp_ne (gxd kX7_starts 70 rfl) (tgt := 157) rfl (fun q => ?_) (fun q => ?_)
        · replace H := giff q H
          refine R_iinc (v := (v4 + (1 : Int32))) (gxd kX7_starts 84 rfl) rfl rfl rfl (Nat.le_of_ble_eq_true rfl) rfl ?_
          refine R_goto (gxd kX7_starts 85 rfl) (tgt := 112) rfl ?_
          exact R_weak (gle_same (gle_null (gle_same (gle_same (gle_same (gle_null gle_nil)))))) (ih _ _ _  H)
        · replace H := gift q H
          refine R_aload_n (gxd kX7_starts 71 rfl) rfl rfl ?_
          refine R_aload_n (gxd kX7_starts 72 rfl) rfl rfl ?_
          refine R_getr (gxd kX7_starts 73 rfl) gf_M_69 gk_65 (by decide) rfl ?_
          refine R_iload (gxd kX7_starts 74 rfl) rfl ?_
          obtain ⟨b19, H⟩ := ggi H
          have b19 := gin_in b19
          refine R_iald (gxd kX7_starts 75 rfl) gk_84 b19 ?_
          refine R_iconst (v := (1 : Int32)) (gxd kX7_starts 76 rfl) rfl ?_
          refine R_aload_n (gxd kX7_starts 77 rfl) rfl rfl ?_
          refine R_getr (gxd kX7_starts 78 rfl) gf_M_72 gk_65 (by decide) rfl ?_
          refine R_iload (gxd kX7_starts 79 rfl) rfl ?_
          obtain ⟨b20, H⟩ := ggi H
          have b20 := gin_in b20
          refine R_iald (gxd kX7_starts 80 rfl) gk_85 b20 ?_
          refine R_ishl (gxd kX7_starts 81 rfl) ?_
          refine R_iconst (v := (0 : Int32)) (gxd kX7_starts 82 rfl) rfl ?_
          obtain ⟨h21, e22, H⟩ := gbi H
          refine R_callVv (gxd kX7_starts 83 rfl) gm_M_315 wX7_decides (by decide) gk_65 rfl rfl (Nat.le_of_ble_eq_true rfl) (by omega) (fM_decides_ok  e22 (d + 1)) ?_
          refine R_iinc (v := (v4 + (1 : Int32))) (gxd kX7_starts 84 rfl) rfl rfl rfl (Nat.le_of_ble_eq_true rfl) rfl ?_
          refine R_goto (gxd kX7_starts 85 rfl) (tgt := 112) rfl ?_
          exact R_weak (gle_same (gle_null (gle_same (gle_same (gle_same (gle_null gle_nil)))))) (ih _ _ _  H)
def fM_starts_109 (v2 : Int32) (v3 : Int32) (h : gH) : Option gH :=
  fM_starts_112 v2 v3 gfu (0 : Int32) h
theorem fM_starts_109_ok {d : Nat} {v2 : Int32} {v3 : Int32}  {h : gH} {x : gH} (H : fM_starts_109 v2 v3  h = some x) : gR RX7 cX7_starts 6 none (d + 4) 109 [.ref 65, .null, .int v2, .int v3, .null, .null] [] h none x := by
  unfold fM_starts_109 at H
  refine R_iconst (v := (0 : Int32)) (gxd kX7_starts 56 rfl) rfl ?_
  refine R_istore (gxd kX7_starts 57 rfl) rfl (Nat.le_of_ble_eq_true rfl) rfl ?_
  exact R_weak (gle_same (gle_null (gle_same (gle_same (gle_same (gle_null gle_nil)))))) (fM_starts_112_ok  gfu _ _ _  H)
def fM_starts_58 (v1 : Int32) (v2 : Int32) (v3 : Int32) : Nat → Int32 → gH → Option gH
  | 0, _, _ => none
  | n + 1, v4, h =>
    if v4 < (h 65 12) then
      if (h 65 2) = (0 : Int32) then
        if ((v1 >>> (v4 &&& 31)) &&& (1 : Int32)) = (1 : Int32) then
          gg (gin v4 12) <|
          gg (gin v4 12) <|
          (fM_decides (h 72 v4.toNatClampNeg) (h 73 v4.toNatClampNeg) (0 : Int32) h).bind fun h25 =>
          fM_starts_58 v1 v2 v3 n (v4 + (1 : Int32)) h25
        else
          fM_starts_58 v1 v2 v3 n (v4 + (1 : Int32)) h
      else
        fM_starts_109 v2 v3 h
    else
      fM_starts_109 v2 v3 h
theorem fM_starts_58_ok {d : Nat} {v1 : Int32} {v2 : Int32} {v3 : Int32}  : ∀ (n : Nat) (v4 : Int32) (h : gH) (x : gH), fM_starts_58 v1 v2 v3 n v4 h = some x → gR RX7 cX7_starts 6 none (d + 4) 58 [.ref 65, .int v1, .int v2, .int v3, .int v4, .null] [] h none x := by
  intro n
  induction n with
  | zero => intro v4 h x  H; exact g0 H
  | succ n ih =>
    intro v4 h x  H
    unfold fM_starts_58 at H
    refine R_iload (gxd kX7_starts 29 rfl) rfl ?_
    refine R_aload_n (gxd kX7_starts 30 rfl) rfl rfl ?_
    refine R_geti (gxd kX7_starts 31 rfl) gf_M_312 gk_65 (by decide) rfl ?_
    refine R_icmp_ge (gxd kX7_starts 32 rfl) (tgt := 109) rfl (fun q => ?_) (fun q => ?_)
    · replace H := giff q H
      exact R_weak (gle_same (gle_null (gle_same (gle_same (gle_null (gle_null gle_nil)))))) (fM_starts_109_ok  H)
    · replace H := gift q H
      refine R_aload_n (gxd kX7_starts 33 rfl) rfl rfl ?_
      refine R_geti (gxd kX7_starts 34 rfl) gf_M_229 gk_65 (by decide) rfl ?_
      refine R_if_ne (gxd kX7_starts 35 rfl) (tgt := 109) rfl (fun q => ?_) (fun q => ?_)
      · replace H := giff q H
        exact R_weak (gle_same (gle_null (gle_same (gle_same (gle_null (gle_null gle_nil)))))) (fM_starts_109_ok  H)
      · replace H := gift q H
        refine R_iload_n (gxd kX7_starts 36 rfl) rfl rfl ?_
        refine R_iload (gxd kX7_starts 37 rfl) rfl ?_
        refine R_ishr (gxd kX7_starts 38 rfl) ?_
        refine R_iconst (v := (1 : Int32)) (gxd kX7_starts 39 rfl) rfl ?_
        refine R_iand (gxd kX7_starts 40 rfl) ?_
        refine R_iconst (v := (1 : Int32)) (gxd kX7_starts 41 rfl) rfl ?_
        refine R_icmp_ne (gxd kX7_starts 42 rfl) (tgt := 103) rfl (fun q => ?_) (fun q => ?_)
        · replace H := giff q H
          refine R_iinc (v := (v4 + (1 : Int32))) (gxd kX7_starts 54 rfl) rfl rfl rfl (Nat.le_of_ble_eq_true rfl) rfl ?_
          refine R_goto (gxd kX7_starts 55 rfl) (tgt := 58) rfl ?_
          exact R_weak (gle_same (gle_same (gle_same (gle_same (gle_same (gle_null gle_nil)))))) (ih _ _ _  H)
        · replace H := gift q H
          refine R_aload_n (gxd kX7_starts 43 rfl) rfl rfl ?_
          refine R_aload_n (gxd kX7_starts 44 rfl) rfl rfl ?_
          refine R_getr (gxd kX7_starts 45 rfl) gf_M_33 gk_65 (by decide) rfl ?_
          refine R_iload (gxd kX7_starts 46 rfl) rfl ?_
          obtain ⟨b23, H⟩ := ggi H
          have b23 := gin_in b23
          refine R_iald (gxd kX7_starts 47 rfl) gk_72 b23 ?_
          refine R_aload_n (gxd kX7_starts 48 rfl) rfl rfl ?_
          refine R_getr (gxd kX7_starts 49 rfl) gf_M_36 gk_65 (by decide) rfl ?_
          refine R_iload (gxd kX7_starts 50 rfl) rfl ?_
          obtain ⟨b24, H⟩ := ggi H
          have b24 := gin_in b24
          refine R_iald (gxd kX7_starts 51 rfl) gk_73 b24 ?_
          refine R_iconst (v := (0 : Int32)) (gxd kX7_starts 52 rfl) rfl ?_
          obtain ⟨h25, e26, H⟩ := gbi H
          refine R_callVv (gxd kX7_starts 53 rfl) gm_M_315 wX7_decides (by decide) gk_65 rfl rfl (Nat.le_of_ble_eq_true rfl) (by omega) (fM_decides_ok  e26 (d + 1)) ?_
          refine R_iinc (v := (v4 + (1 : Int32))) (gxd kX7_starts 54 rfl) rfl rfl rfl (Nat.le_of_ble_eq_true rfl) rfl ?_
          refine R_goto (gxd kX7_starts 55 rfl) (tgt := 58) rfl ?_
          exact R_weak (gle_same (gle_same (gle_same (gle_same (gle_same (gle_null gle_nil)))))) (ih _ _ _  H)
def fM_starts_29 (v1 : Int32) (v2 : Int32) (v3 : Int32) : Nat → Int32 → gH → Option gH
  | 0, _, _ => none
  | n + 1, v4, h =>
    if v4 < (24 : Int32) then
      gg (gin v4 24) <|
      glet (hu h 71 v4.toNatClampNeg (0 : Int32)) fun h28 =>
      fM_starts_29 v1 v2 v3 n (v4 + (1 : Int32)) h28
    else
      glet (hu h 65 2 (0 : Int32)) fun h1 =>
      fM_starts_58 v1 v2 v3 gfu (0 : Int32) h1
theorem fM_starts_29_ok {d : Nat} {v1 : Int32} {v2 : Int32} {v3 : Int32}  : ∀ (n : Nat) (v4 : Int32) (h : gH) (x : gH), fM_starts_29 v1 v2 v3 n v4 h = some x → gR RX7 cX7_starts 6 none (d + 4) 29 [.ref 65, .int v1, .int v2, .int v3, .int v4, .null] [] h none x := by
  intro n
  induction n with
  | zero => intro v4 h x  H; exact g0 H
  | succ n ih =>
    intro v4 h x  H
    unfold fM_starts_29 at H
    refine R_iload (gxd kX7_starts 14 rfl) rfl ?_
    refine R_bipush (v := (24 : Int32)) (gxd kX7_starts 15 rfl) rfl ?_
    refine R_icmp_ge (gxd kX7_starts 16 rfl) (tgt := 50) rfl (fun q => ?_) (fun q => ?_)
    · replace H := giff q H
      refine R_aload_n (gxd kX7_starts 24 rfl) rfl rfl ?_
      refine R_iconst (v := (0 : Int32)) (gxd kX7_starts 25 rfl) rfl ?_
      refine R_putz (gxd kX7_starts 26 rfl) gf_M_229 gp_7_2 (Or.inl rfl) gk_65 (by decide) rfl ?_
      obtain ⟨h1, e2, H⟩ := glei H
      refine R_heq e2 ?_
      refine R_iconst (v := (0 : Int32)) (gxd kX7_starts 27 rfl) rfl ?_
      refine R_istore (gxd kX7_starts 28 rfl) rfl (Nat.le_of_ble_eq_true rfl) rfl ?_
      exact R_weak (gle_same (gle_same (gle_same (gle_same (gle_same (gle_null gle_nil)))))) (fM_starts_58_ok  gfu _ _ _  H)
    · replace H := gift q H
      refine R_aload_n (gxd kX7_starts 17 rfl) rfl rfl ?_
      refine R_getr (gxd kX7_starts 18 rfl) gf_M_30 gk_65 (by decide) rfl ?_
      refine R_iload (gxd kX7_starts 19 rfl) rfl ?_
      refine R_iconst (v := (0 : Int32)) (gxd kX7_starts 20 rfl) rfl ?_
      obtain ⟨b27, H⟩ := ggi H
      have b27 := gin_in b27
      refine R_zast (gxd kX7_starts 21 rfl) gk_71 b27 (Or.inl rfl) ?_
      obtain ⟨h28, e29, H⟩ := glei H
      refine R_heq e29 ?_
      refine R_iinc (v := (v4 + (1 : Int32))) (gxd kX7_starts 22 rfl) rfl rfl rfl (Nat.le_of_ble_eq_true rfl) rfl ?_
      refine R_goto (gxd kX7_starts 23 rfl) (tgt := 29) rfl ?_
      exact R_weak (gle_same (gle_same (gle_same (gle_same (gle_same (gle_null gle_nil)))))) (ih _ _ _  H)
def fM_starts_3 (v1 : Int32) (v2 : Int32) (v3 : Int32) : Nat → Int32 → gH → Option gH
  | 0, _, _ => none
  | n + 1, v4, h =>
    if v4 < (8 : Int32) then
      gg (gin v4 8) <|
      glet (hu h 66 v4.toNatClampNeg (1023 : Int32)) fun h31 =>
      fM_starts_3 v1 v2 v3 n (v4 + (1 : Int32)) h31
    else
      fM_starts_29 v1 v2 v3 gfu (0 : Int32) h
theorem fM_starts_3_ok {d : Nat} {v1 : Int32} {v2 : Int32} {v3 : Int32}  : ∀ (n : Nat) (v4 : Int32) (h : gH) (x : gH), fM_starts_3 v1 v2 v3 n v4 h = some x → gR RX7 cX7_starts 6 none (d + 4) 3 [.ref 65, .int v1, .int v2, .int v3, .int v4, .null] [] h none x := by
  intro n
  induction n with
  | zero => intro v4 h x  H; exact g0 H
  | succ n ih =>
    intro v4 h x  H
    unfold fM_starts_3 at H
    refine R_iload (gxd kX7_starts 2 rfl) rfl ?_
    refine R_bipush (v := (8 : Int32)) (gxd kX7_starts 3 rfl) rfl ?_
    refine R_icmp_ge (gxd kX7_starts 4 rfl) (tgt := 26) rfl (fun q => ?_) (fun q => ?_)
    · replace H := giff q H
      refine R_iconst (v := (0 : Int32)) (gxd kX7_starts 12 rfl) rfl ?_
      refine R_istore (gxd kX7_starts 13 rfl) rfl (Nat.le_of_ble_eq_true rfl) rfl ?_
      exact R_weak (gle_same (gle_same (gle_same (gle_same (gle_same (gle_null gle_nil)))))) (fM_starts_29_ok  gfu _ _ _  H)
    · replace H := gift q H
      refine R_aload_n (gxd kX7_starts 5 rfl) rfl rfl ?_
      refine R_getr (gxd kX7_starts 6 rfl) gf_M_13 gk_65 (by decide) rfl ?_
      refine R_iload (gxd kX7_starts 7 rfl) rfl ?_
      refine R_sipush (v := (1023 : Int32)) (gxd kX7_starts 8 rfl) rfl ?_
      obtain ⟨b30, H⟩ := ggi H
      have b30 := gin_in b30
      refine R_iast (gxd kX7_starts 9 rfl) gk_66 b30 ?_
      obtain ⟨h31, e32, H⟩ := glei H
      refine R_heq e32 ?_
      refine R_iinc (v := (v4 + (1 : Int32))) (gxd kX7_starts 10 rfl) rfl rfl rfl (Nat.le_of_ble_eq_true rfl) rfl ?_
      refine R_goto (gxd kX7_starts 11 rfl) (tgt := 3) rfl ?_
      exact R_weak (gle_same (gle_same (gle_same (gle_same (gle_same (gle_null gle_nil)))))) (ih _ _ _  H)
def fM_starts (v1 : Int32) (v2 : Int32) (v3 : Int32) (h : gH) : Option gH :=
  fM_starts_3 v1 v2 v3 gfu (0 : Int32) h
theorem fM_starts_ok {v1 : Int32} {v2 : Int32} {v3 : Int32} {h : gH} {x : gH} (H : fM_starts v1 v2 v3 h = some x) (d : Nat) : gC yX7_starts cX7_starts 6 none (d + 4) [.ref 65, .int v1, .int v2, .int v3] h none x := by
  refine gC_of (by decide +kernel) (Nat.le_of_ble_eq_true rfl) rfl ?_
  unfold fM_starts at H
  refine R_iconst (v := (0 : Int32)) (gxd kX7_starts 0 rfl) rfl ?_
  refine R_istore (gxd kX7_starts 1 rfl) rfl (Nat.le_of_ble_eq_true rfl) rfl ?_
  exact R_weak (gle_same (gle_same (gle_same (gle_same (gle_same (gle_null gle_nil)))))) (fM_starts_3_ok  gfu _ _ _  H)
def fM_isGone (v1 : Int32) (v2 : Int32) (h : gH) : Option (Int32 × gH) :=
  if (h 65 2) = (0 : Int32) then
    if v1 = (-1 : Int32) then
      some ((0 : Int32), h)
    else
      gg (gin v1 8) <|
      if (((h 66 v1.toNatClampNeg) >>> (v2 &&& 31)) &&& (1 : Int32)) = (0 : Int32) then
        some ((1 : Int32), h)
      else
        some ((0 : Int32), h)
  else
    some ((1 : Int32), h)
theorem fM_isGone_ok {v1 : Int32} {v2 : Int32} {h : gH} {x : (Int32 × gH)} (H : fM_isGone v1 v2 h = some x) (d : Nat) : gC yX7_isGone cX7_isGone 3 (some .boolean) (d + 0) [.ref 65, .int v1, .int v2] h (some (.int x.1)) x.2 := by
  refine gC_of (by decide +kernel) (Nat.le_of_ble_eq_true rfl) rfl ?_
  unfold fM_isGone at H
  refine R_aload_n (gxd kX7_isGone 0 rfl) rfl rfl ?_
  refine R_geti (gxd kX7_isGone 1 rfl) gf_M_229 gk_65 (by decide) rfl ?_
  refine R_if_ne (gxd kX7_isGone 2 rfl) (tgt := 25) rfl (fun q => ?_) (fun q => ?_)
  · replace H := giff q H
    refine R_iconst (v := (1 : Int32)) (gxd kX7_isGone 15 rfl) rfl ?_
    refine R_goto (gxd kX7_isGone 16 rfl) (tgt := 30) rfl ?_
    obtain rfl := Option.some.inj H
    exact R_zret (gxd kX7_isGone 18 rfl) rfl (Or.inr rfl)
  · replace H := gift q H
    refine R_iload_n (gxd kX7_isGone 3 rfl) rfl rfl ?_
    refine R_iconst (v := (-1 : Int32)) (gxd kX7_isGone 4 rfl) rfl ?_
    refine R_icmp_eq (gxd kX7_isGone 5 rfl) (tgt := 29) rfl (fun q => ?_) (fun q => ?_)
    · replace H := gift q H
      refine R_iconst (v := (0 : Int32)) (gxd kX7_isGone 17 rfl) rfl ?_
      obtain rfl := Option.some.inj H
      exact R_zret (gxd kX7_isGone 18 rfl) rfl (Or.inl rfl)
    · replace H := giff q H
      refine R_aload_n (gxd kX7_isGone 6 rfl) rfl rfl ?_
      refine R_getr (gxd kX7_isGone 7 rfl) gf_M_13 gk_65 (by decide) rfl ?_
      refine R_iload_n (gxd kX7_isGone 8 rfl) rfl rfl ?_
      obtain ⟨b1, H⟩ := ggi H
      have b1 := gin_in b1
      refine R_iald (gxd kX7_isGone 9 rfl) gk_66 b1 ?_
      refine R_iload_n (gxd kX7_isGone 10 rfl) rfl rfl ?_
      refine R_ishr (gxd kX7_isGone 11 rfl) ?_
      refine R_iconst (v := (1 : Int32)) (gxd kX7_isGone 12 rfl) rfl ?_
      refine R_iand (gxd kX7_isGone 13 rfl) ?_
      refine R_if_ne (gxd kX7_isGone 14 rfl) (tgt := 29) rfl (fun q => ?_) (fun q => ?_)
      · replace H := giff q H
        refine R_iconst (v := (0 : Int32)) (gxd kX7_isGone 17 rfl) rfl ?_
        obtain rfl := Option.some.inj H
        exact R_zret (gxd kX7_isGone 18 rfl) rfl (Or.inl rfl)
      · replace H := gift q H
        refine R_iconst (v := (1 : Int32)) (gxd kX7_isGone 15 rfl) rfl ?_
        refine R_goto (gxd kX7_isGone 16 rfl) (tgt := 30) rfl ?_
        obtain rfl := Option.some.inj H
        exact R_zret (gxd kX7_isGone 18 rfl) rfl (Or.inr rfl)
def fM_why_121 (v3 : Int32) (v4 : Int32) (h : gH) : Option (Int32 × gH) :=
  (fM_laysBack h).bind fun h9 =>
  if v4 = (0 : Int32) then
    some ((-1 : Int32), h9)
  else
    some (v3, h9)
theorem fM_why_121_ok {d : Nat} {v3 : Int32} {v4 : Int32}  {h : gH} {x : (Int32 × gH)} (H : fM_why_121 v3 v4  h = some x) : gR RX7 cX7_why 6 (some .int) (d + 5) 121 [.ref 65, .null, .null, .int v3, .int v4, .null] [] h (some (.int x.1)) x.2 := by
  unfold fM_why_121 at H
  refine R_aload_n (gxd kX7_why 72 rfl) rfl rfl ?_
  obtain ⟨h9, e10, H⟩ := gbi H
  refine R_callVv (gxd kX7_why 73 rfl) gm_M_345 wX7_laysBack (by decide) gk_65 rfl rfl (Nat.le_of_ble_eq_true rfl) (by omega) (fM_laysBack_ok  e10 (d + 4)) ?_
  refine R_iload (gxd kX7_why 74 rfl) rfl ?_
  refine R_if_eq (gxd kX7_why 75 rfl) (tgt := 134) rfl (fun q => ?_) (fun q => ?_)
  · replace H := gift q H
    refine R_iconst (v := (-1 : Int32)) (gxd kX7_why 78 rfl) rfl ?_
    obtain rfl := Option.some.inj H
    exact R_iret (gxd kX7_why 79 rfl) rfl
  · replace H := giff q H
    refine R_iload_n (gxd kX7_why 76 rfl) rfl rfl ?_
    refine R_goto (gxd kX7_why 77 rfl) (tgt := 135) rfl ?_
    obtain rfl := Option.some.inj H
    exact R_iret (gxd kX7_why 79 rfl) rfl
def fM_why_114 (k65 : Int32 → Int32 → gH → Option (Int32 × gH)) (v1 : Int32) (v2 : Int32) (v4 : Int32) (v5 : Int32) (s0 : Int32) (h : gH) : Option (Int32 × gH) :=
  k65 s0 (v5 + (1 : Int32)) h
theorem fM_why_114_ok {d : Nat} {k65 : Int32 → Int32 → gH → Option (Int32 × gH)} {v1 : Int32} {v2 : Int32} {v4 : Int32} {v5 : Int32} {s0 : Int32} (hk65 : ∀ (u3 : Int32) (u5 : Int32) (h : gH) (x : (Int32 × gH)), k65 u3 u5 h = some x → gR RX7 cX7_why 6 (some .int) (d + 5) 65 [.ref 65, .int v1, .int v2, .int u3, .int v4, .int u5] [] h (some (.int x.1)) x.2) {h : gH} {x : (Int32 × gH)} (H : fM_why_114 k65 v1 v2 v4 v5 s0 h = some x) : gR RX7 cX7_why 6 (some .int) (d + 5) 114 [.ref 65, .int v1, .int v2, .null, .int v4, .int v5] [.int s0] h (some (.int x.1)) x.2 := by
  unfold fM_why_114 at H
  refine R_istore_n (gxd kX7_why 69 rfl) rfl rfl (Nat.le_of_ble_eq_true rfl) rfl ?_
  refine R_iinc (v := (v5 + (1 : Int32))) (gxd kX7_why 70 rfl) rfl rfl rfl (Nat.le_of_ble_eq_true rfl) rfl ?_
  refine R_goto (gxd kX7_why 71 rfl) (tgt := 65) rfl ?_
  exact R_weak (gle_same (gle_same (gle_same (gle_same (gle_same (gle_same gle_nil)))))) (hk65 _ _ _ _  H)
def fM_why_65 (v1 : Int32) (v2 : Int32) (v4 : Int32) : Nat → Int32 → Int32 → gH → Option (Int32 × gH)
  | 0, _, _, _ => none
  | n + 1, v3, v5, h =>
    if v5 < (h 65 12) then
      if v4 = (0 : Int32) then
        fM_why_121 v3 v4 h
      else
        (fM_starts (v3 &&& (((1 : Int32) <<< (v5 &&& 31)) ^^^ (-1 : Int32))) (0 : Int32) (-1 : Int32) h).bind fun h11 =>
        (fM_isGone v1 v2 h11).bind fun p13 =>
        if p13.1 = (0 : Int32) then
          fM_why_114 (fM_why_65 v1 v2 v4 n) v1 v2 v4 v5 v3 p13.2
        else
          fM_why_114 (fM_why_65 v1 v2 v4 n) v1 v2 v4 v5 (v3 &&& (((1 : Int32) <<< (v5 &&& 31)) ^^^ (-1 : Int32))) p13.2
    else
      fM_why_121 v3 v4 h
theorem fM_why_65_ok {d : Nat} {v1 : Int32} {v2 : Int32} {v4 : Int32}  : ∀ (n : Nat) (v3 : Int32) (v5 : Int32) (h : gH) (x : (Int32 × gH)), fM_why_65 v1 v2 v4 n v3 v5 h = some x → gR RX7 cX7_why 6 (some .int) (d + 5) 65 [.ref 65, .int v1, .int v2, .int v3, .int v4, .int v5] [] h (some (.int x.1)) x.2 := by
  intro n
  induction n with
  | zero => intro v3 v5 h x  H; exact g0 H
  | succ n ih =>
    intro v3 v5 h x  H
    unfold fM_why_65 at H
    refine R_iload (gxd kX7_why 38 rfl) rfl ?_
    refine R_aload_n (gxd kX7_why 39 rfl) rfl rfl ?_
    refine R_geti (gxd kX7_why 40 rfl) gf_M_312 gk_65 (by decide) rfl ?_
    refine R_icmp_ge (gxd kX7_why 41 rfl) (tgt := 121) rfl (fun q => ?_) (fun q => ?_)
    · replace H := giff q H
      exact R_weak (gle_same (gle_null (gle_null (gle_same (gle_same (gle_null gle_nil)))))) (fM_why_121_ok  H)
    · replace H := gift q H
      refine R_iload (gxd kX7_why 42 rfl) rfl ?_
      refine R_if_eq (gxd kX7_why 43 rfl) (tgt := 121) rfl (fun q => ?_) (fun q => ?_)
      · replace H := gift q H
        exact R_weak (gle_same (gle_null (gle_null (gle_same (gle_same (gle_null gle_nil)))))) (fM_why_121_ok  H)
      · replace H := giff q H
        refine R_aload_n (gxd kX7_why 44 rfl) rfl rfl ?_
        refine R_iload_n (gxd kX7_why 45 rfl) rfl rfl ?_
        refine R_iconst (v := (1 : Int32)) (gxd kX7_why 46 rfl) rfl ?_
        refine R_iload (gxd kX7_why 47 rfl) rfl ?_
        refine R_ishl (gxd kX7_why 48 rfl) ?_
        refine R_iconst (v := (-1 : Int32)) (gxd kX7_why 49 rfl) rfl ?_
        refine R_ixor (gxd kX7_why 50 rfl) ?_
        refine R_iand (gxd kX7_why 51 rfl) ?_
        refine R_iconst (v := (0 : Int32)) (gxd kX7_why 52 rfl) rfl ?_
        refine R_iconst (v := (-1 : Int32)) (gxd kX7_why 53 rfl) rfl ?_
        obtain ⟨h11, e12, H⟩ := gbi H
        refine R_callVv (gxd kX7_why 54 rfl) gm_M_339 wX7_starts (by decide) gk_65 rfl rfl (Nat.le_of_ble_eq_true rfl) (by omega) (fM_starts_ok  e12 (d + 0)) ?_
        refine R_aload_n (gxd kX7_why 55 rfl) rfl rfl ?_
        refine R_iload_n (gxd kX7_why 56 rfl) rfl rfl ?_
        refine R_iload_n (gxd kX7_why 57 rfl) rfl rfl ?_
        obtain ⟨p13, e14, H⟩ := gbi H
        refine R_callVi (gxd kX7_why 58 rfl) gm_M_342 wX7_isGone (by decide) gk_65 rfl rfl (Nat.le_of_ble_eq_true rfl) (by omega) (fM_isGone_ok  e14 (d + 4)) ?_
        refine R_if_eq (gxd kX7_why 59 rfl) (tgt := 113) rfl (fun q => ?_) (fun q => ?_)
        · replace H := gift q H
          refine R_iload_n (gxd kX7_why 68 rfl) rfl rfl ?_
          exact R_weak (gle_same (gle_same (gle_same (gle_null (gle_same (gle_same gle_nil)))))) (fM_why_114_ok ih  H)
        · replace H := giff q H
          refine R_iload_n (gxd kX7_why 60 rfl) rfl rfl ?_
          refine R_iconst (v := (1 : Int32)) (gxd kX7_why 61 rfl) rfl ?_
          refine R_iload (gxd kX7_why 62 rfl) rfl ?_
          refine R_ishl (gxd kX7_why 63 rfl) ?_
          refine R_iconst (v := (-1 : Int32)) (gxd kX7_why 64 rfl) rfl ?_
          refine R_ixor (gxd kX7_why 65 rfl) ?_
          refine R_iand (gxd kX7_why 66 rfl) ?_
          refine R_goto (gxd kX7_why 67 rfl) (tgt := 114) rfl ?_
          exact R_weak (gle_same (gle_same (gle_same (gle_null (gle_same (gle_same gle_nil)))))) (fM_why_114_ok ih  H)
def fM_why_34 (v1 : Int32) (v2 : Int32) (h : gH) : Option (Int32 × gH) :=
  (fM_laysAside h).bind fun h3 =>
  (fM_starts (((1 : Int32) <<< ((h3 65 12) &&& 31)) - (1 : Int32)) (0 : Int32) (-1 : Int32) h3).bind fun h5 =>
  (fM_isGone v1 v2 h5).bind fun p7 =>
  fM_why_65 v1 v2 p7.1 gfu (((1 : Int32) <<< ((h3 65 12) &&& 31)) - (1 : Int32)) (0 : Int32) p7.2
theorem fM_why_34_ok {d : Nat} {v1 : Int32} {v2 : Int32}  {h : gH} {x : (Int32 × gH)} (H : fM_why_34 v1 v2  h = some x) : gR RX7 cX7_why 6 (some .int) (d + 5) 34 [.ref 65, .int v1, .int v2, .null, .null, .null] [] h (some (.int x.1)) x.2 := by
  unfold fM_why_34 at H
  refine R_aload_n (gxd kX7_why 17 rfl) rfl rfl ?_
  obtain ⟨h3, e4, H⟩ := gbi H
  refine R_callVv (gxd kX7_why 18 rfl) gm_M_336 wX7_laysAside (by decide) gk_65 rfl rfl (Nat.le_of_ble_eq_true rfl) (by omega) (fM_laysAside_ok  e4 (d + 4)) ?_
  refine R_iconst (v := (1 : Int32)) (gxd kX7_why 19 rfl) rfl ?_
  refine R_aload_n (gxd kX7_why 20 rfl) rfl rfl ?_
  refine R_geti (gxd kX7_why 21 rfl) gf_M_312 gk_65 (by decide) rfl ?_
  refine R_ishl (gxd kX7_why 22 rfl) ?_
  refine R_iconst (v := (1 : Int32)) (gxd kX7_why 23 rfl) rfl ?_
  refine R_isub (gxd kX7_why 24 rfl) ?_
  refine R_istore_n (gxd kX7_why 25 rfl) rfl rfl (Nat.le_of_ble_eq_true rfl) rfl ?_
  refine R_aload_n (gxd kX7_why 26 rfl) rfl rfl ?_
  refine R_iload_n (gxd kX7_why 27 rfl) rfl rfl ?_
  refine R_iconst (v := (0 : Int32)) (gxd kX7_why 28 rfl) rfl ?_
  refine R_iconst (v := (-1 : Int32)) (gxd kX7_why 29 rfl) rfl ?_
  obtain ⟨h5, e6, H⟩ := gbi H
  refine R_callVv (gxd kX7_why 30 rfl) gm_M_339 wX7_starts (by decide) gk_65 rfl rfl (Nat.le_of_ble_eq_true rfl) (by omega) (fM_starts_ok  e6 (d + 0)) ?_
  refine R_aload_n (gxd kX7_why 31 rfl) rfl rfl ?_
  refine R_iload_n (gxd kX7_why 32 rfl) rfl rfl ?_
  refine R_iload_n (gxd kX7_why 33 rfl) rfl rfl ?_
  obtain ⟨p7, e8, H⟩ := gbi H
  refine R_callVi (gxd kX7_why 34 rfl) gm_M_342 wX7_isGone (by decide) gk_65 rfl rfl (Nat.le_of_ble_eq_true rfl) (by omega) (fM_isGone_ok  e8 (d + 4)) ?_
  refine R_istore (gxd kX7_why 35 rfl) rfl (Nat.le_of_ble_eq_true rfl) rfl ?_
  refine R_iconst (v := (0 : Int32)) (gxd kX7_why 36 rfl) rfl ?_
  refine R_istore (gxd kX7_why 37 rfl) rfl (Nat.le_of_ble_eq_true rfl) rfl ?_
  exact R_weak (gle_same (gle_same (gle_same (gle_same (gle_same (gle_same gle_nil)))))) (fM_why_65_ok  gfu _ _ _ _  H)
def fM_why (v1 : Int32) (v2 : Int32) (h : gH) : Option (Int32 × gH) :=
  (fM_in v1.toInt64 (-1 : Int64) (7 : Int64) h).bind fun p1 =>
  if p1.1 = (0 : Int32) then
    some ((-2 : Int32), p1.2)
  else
    if v1 = (-1 : Int32) then
      fM_why_34 v1 v2 p1.2
    else
      (fM_in v2.toInt64 (0 : Int64) (9 : Int64) p1.2).bind fun p15 =>
      if p15.1 = (0 : Int32) then
        some ((-2 : Int32), p15.2)
      else
        fM_why_34 v1 v2 p15.2
theorem fM_why_ok {v1 : Int32} {v2 : Int32} {h : gH} {x : (Int32 × gH)} (H : fM_why v1 v2 h = some x) (d : Nat) : gC yX7_why cX7_why 6 (some .int) (d + 5) [.ref 65, .int v1, .int v2] h (some (.int x.1)) x.2 := by
  refine gC_of (by decide +kernel) (Nat.le_of_ble_eq_true rfl) rfl ?_
  unfold fM_why at H
  refine R_iload_n (gxd kX7_why 0 rfl) rfl rfl ?_
  refine R_i2l (gxd kX7_why 1 rfl) ?_
  refine R_ldc2 (v := (-1 : Int64)) (gxd kX7_why 2 rfl) gc_M_334 ?_
  refine R_ldc2 (v := (7 : Int64)) (gxd kX7_why 3 rfl) gc_M_308 ?_
  obtain ⟨p1, e2, H⟩ := gbi H
  refine R_callSi (gxd kX7_why 4 rfl) gm_M_140 wX7_in (by decide) rfl (Nat.le_of_ble_eq_true rfl) (by omega) (fM_in_ok  e2 (d + 4)) ?_
  refine R_if_eq (gxd kX7_why 5 rfl) (tgt := 31) rfl (fun q => ?_) (fun q => ?_)
  · replace H := gift q H
    refine R_bipush (v := (-2 : Int32)) (gxd kX7_why 15 rfl) rfl ?_
    obtain rfl := Option.some.inj H
    exact R_iret (gxd kX7_why 16 rfl) rfl
  · replace H := giff q H
    refine R_iload_n (gxd kX7_why 6 rfl) rfl rfl ?_
    refine R_iconst (v := (-1 : Int32)) (gxd kX7_why 7 rfl) rfl ?_
    refine R_icmp_eq (gxd kX7_why 8 rfl) (tgt := 34) rfl (fun q => ?_) (fun q => ?_)
    · replace H := gift q H
      exact R_weak (gle_same (gle_same (gle_same (gle_null (gle_null (gle_null gle_nil)))))) (fM_why_34_ok  H)
    · replace H := giff q H
      refine R_iload_n (gxd kX7_why 9 rfl) rfl rfl ?_
      refine R_i2l (gxd kX7_why 10 rfl) ?_
      refine R_lconst (v := (0 : Int64)) (gxd kX7_why 11 rfl) rfl ?_
      refine R_ldc2 (v := (9 : Int64)) (gxd kX7_why 12 rfl) gc_M_242 ?_
      obtain ⟨p15, e16, H⟩ := gbi H
      refine R_callSi (gxd kX7_why 13 rfl) gm_M_140 wX7_in (by decide) rfl (Nat.le_of_ble_eq_true rfl) (by omega) (fM_in_ok  e16 (d + 4)) ?_
      refine R_if_ne (gxd kX7_why 14 rfl) (tgt := 34) rfl (fun q => ?_) (fun q => ?_)
      · replace H := giff q H
        exact R_weak (gle_same (gle_same (gle_same (gle_null (gle_null (gle_null gle_nil)))))) (fM_why_34_ok  H)
      · replace H := gift q H
        refine R_bipush (v := (-2 : Int32)) (gxd kX7_why 15 rfl) rfl ?_
        obtain rfl := Option.some.inj H
        exact R_iret (gxd kX7_why 16 rfl) rfl
