def fS_least_4 (v0 : Int32) : Nat → Int32 → Int32 → gH → Option (Int32 × gH)
  | 0, _, _, _ => none
  | n + 1, v2, v3, h =>
    if v3 < (10 : Int32) then
      if (v2 - ((v0 >>> (v3 &&& 31)) &&& (1 : Int32))) < (0 : Int32) then
        some (v3, h)
      else
        fS_least_4 v0 n (v2 - ((v0 >>> (v3 &&& 31)) &&& (1 : Int32))) (v3 + (1 : Int32)) h
    else
      some ((0 : Int32), h)
theorem fS_least_4_ok {d : Nat} {v0 : Int32}  : ∀ (n : Nat) (v2 : Int32) (v3 : Int32) (h : gH) (x : (Int32 × gH)), fS_least_4 v0 n v2 v3 h = some x → gR RX4 cX4_least 4 (some .int) (d + 0) 4 [.int v0, .null, .int v2, .int v3] [] h (some (.int x.1)) x.2 := by
  intro n
  induction n with
  | zero => intro v2 v3 h x  H; exact g0 H
  | succ n ih =>
    intro v2 v3 h x  H
    unfold fS_least_4 at H
    refine R_iload_n (gxd kX4_least 4 rfl) rfl rfl ?_
    refine R_bipush (v := (10 : Int32)) (gxd kX4_least 5 rfl) rfl ?_
    refine R_icmp_ge (gxd kX4_least 6 rfl) (tgt := 30) rfl (fun q => ?_) (fun q => ?_)
    · replace H := giff q H
      refine R_iconst (v := (0 : Int32)) (gxd kX4_least 21 rfl) rfl ?_
      cases H
      exact R_iret (gxd kX4_least 22 rfl) rfl
    · replace H := gift q H
      refine R_iload_n (gxd kX4_least 7 rfl) rfl rfl ?_
      refine R_iload_n (gxd kX4_least 8 rfl) rfl rfl ?_
      refine R_iload_n (gxd kX4_least 9 rfl) rfl rfl ?_
      refine R_ishr (gxd kX4_least 10 rfl) ?_
      refine R_iconst (v := (1 : Int32)) (gxd kX4_least 11 rfl) rfl ?_
      refine R_iand (gxd kX4_least 12 rfl) ?_
      refine R_isub (gxd kX4_least 13 rfl) ?_
      refine R_istore_n (gxd kX4_least 14 rfl) rfl rfl (Nat.le_of_ble_eq_true rfl) rfl ?_
      refine R_iload_n (gxd kX4_least 15 rfl) rfl rfl ?_
      refine R_if_ge (gxd kX4_least 16 rfl) (tgt := 24) rfl (fun q => ?_) (fun q => ?_)
      · replace H := giff q H
        refine R_iinc (v := (v3 + (1 : Int32))) (gxd kX4_least 19 rfl) rfl rfl rfl (Nat.le_of_ble_eq_true rfl) rfl ?_
        refine R_goto (gxd kX4_least 20 rfl) (tgt := 4) rfl ?_
        exact R_weak (gle_same (gle_null (gle_same (gle_same gle_nil)))) (ih _ _ _ _  H)
      · replace H := gift q H
        refine R_iload_n (gxd kX4_least 17 rfl) rfl rfl ?_
        cases H
        exact R_iret (gxd kX4_least 18 rfl) rfl
def fS_least (v0 : Int32) (v1 : Int32) (h : gH) : Option (Int32 × gH) :=
  fS_least_4 v0 gfu v1 (0 : Int32) h
theorem fS_least_ok {v0 : Int32} {v1 : Int32} {h : gH} {x : (Int32 × gH)} (H : fS_least v0 v1 h = some x) (d : Nat) : gC yX4_least cX4_least 4 (some .int) (d + 0) [.int v0, .int v1] h (some (.int x.1)) x.2 := by
  refine gC_of (by decide +kernel) (Nat.le_of_ble_eq_true rfl) rfl ?_
  unfold fS_least at H
  refine R_iload_n (gxd kX4_least 0 rfl) rfl rfl ?_
  refine R_istore_n (gxd kX4_least 1 rfl) rfl rfl (Nat.le_of_ble_eq_true rfl) rfl ?_
  refine R_iconst (v := (0 : Int32)) (gxd kX4_least 2 rfl) rfl ?_
  refine R_istore_n (gxd kX4_least 3 rfl) rfl rfl (Nat.le_of_ble_eq_true rfl) rfl ?_
  exact R_weak (gle_same (gle_null (gle_same (gle_same gle_nil)))) (fS_least_4_ok  gfu _ _ _ _  H)
def fS_keepSolution_12 : Nat → Int32 → gH → Option gH
  | 0, _, _ => none
  | n + 1, v1, h =>
    if v1 < (8 : Int32) then
      gg (gin v1 9) <|
      (fS_least (h 29 v1.toNatClampNeg) (0 : Int32) h).bind fun p4 =>
      gg (gin v1 8) <|
      glet (hu p4.2 43 v1.toNatClampNeg p4.1) fun h7 =>
      fS_keepSolution_12 n (v1 + (1 : Int32)) h7
    else
      some h
theorem fS_keepSolution_12_ok {d : Nat}  : ∀ (n : Nat) (v1 : Int32) (h : gH) (x : gH), fS_keepSolution_12  n v1 h = some x → gR RX4 cX4_keepSolution 2 none (d + 1) 12 [.ref 38, .int v1] [] h none x := by
  intro n
  induction n with
  | zero => intro v1 h x  H; exact g0 H
  | succ n ih =>
    intro v1 h x  H
    unfold fS_keepSolution_12 at H
    refine R_iload_n (gxd kX4_keepSolution 8 rfl) rfl rfl ?_
    refine R_bipush (v := (8 : Int32)) (gxd kX4_keepSolution 9 rfl) rfl ?_
    refine R_icmp_ge (gxd kX4_keepSolution 10 rfl) (tgt := 43) rfl (fun q => ?_) (fun q => ?_)
    · replace H := giff q H
      cases H
      exact R_vret (gxd kX4_keepSolution 24 rfl) rfl
    · replace H := gift q H
      refine R_aload_n (gxd kX4_keepSolution 11 rfl) rfl rfl ?_
      refine R_getr (gxd kX4_keepSolution 12 rfl) gf_S_24 gk_38 (by decide) rfl ?_
      refine R_iload_n (gxd kX4_keepSolution 13 rfl) rfl rfl ?_
      refine R_aload_n (gxd kX4_keepSolution 14 rfl) rfl rfl ?_
      refine R_getr (gxd kX4_keepSolution 15 rfl) gf_S_35 gk_38 (by decide) rfl ?_
      refine R_getr (gxd kX4_keepSolution 16 rfl) gf_S_89 gk_28 (by decide) rfl ?_
      refine R_iload_n (gxd kX4_keepSolution 17 rfl) rfl rfl ?_
      obtain ⟨b3, H⟩ := ggi H
      have b3 := gin_in b3
      refine R_iald (gxd kX4_keepSolution 18 rfl) gk_29 b3 ?_
      refine R_iconst (v := (0 : Int32)) (gxd kX4_keepSolution 19 rfl) rfl ?_
      obtain ⟨p4, e5, H⟩ := gbi H
      refine R_callSi (gxd kX4_keepSolution 20 rfl) gm_S_92 wX4_least (by decide) rfl (Nat.le_of_ble_eq_true rfl) (by omega) (fS_least_ok  e5 (d + 0)) ?_
      obtain ⟨b6, H⟩ := ggi H
      have b6 := gin_in b6
      refine R_iast (gxd kX4_keepSolution 21 rfl) gk_43 b6 ?_
      obtain ⟨h7, e8, H⟩ := glei H
      refine R_heq e8 ?_
      refine R_iinc (v := (v1 + (1 : Int32))) (gxd kX4_keepSolution 22 rfl) rfl rfl rfl (Nat.le_of_ble_eq_true rfl) rfl ?_
      refine R_goto (gxd kX4_keepSolution 23 rfl) (tgt := 12) rfl ?_
      exact R_weak (gle_same (gle_same gle_nil)) (ih _ _ _  H)
def fS_keepSolution (h : gH) : Option gH :=
  glet (hu h 38 13 ((h 38 13) + (1 : Int32))) fun h1 =>
  fS_keepSolution_12 gfu (0 : Int32) h1
theorem fS_keepSolution_ok {h : gH} {x : gH} (H : fS_keepSolution  h = some x) (d : Nat) : gC yX4_keepSolution cX4_keepSolution 2 none (d + 1) [.ref 38] h none x := by
  refine gC_of (by decide +kernel) (Nat.le_of_ble_eq_true rfl) rfl ?_
  unfold fS_keepSolution at H
  refine R_aload_n (gxd kX4_keepSolution 0 rfl) rfl rfl ?_
  refine R_dup (gxd kX4_keepSolution 1 rfl) rfl ?_
  refine R_geti (gxd kX4_keepSolution 2 rfl) gf_S_55 gk_38 (by decide) rfl ?_
  refine R_iconst (v := (1 : Int32)) (gxd kX4_keepSolution 3 rfl) rfl ?_
  refine R_iadd (gxd kX4_keepSolution 4 rfl) ?_
  refine R_puti (gxd kX4_keepSolution 5 rfl) gf_S_55 gp_4_13 gk_38 (by decide) rfl ?_
  obtain ⟨h1, e2, H⟩ := glei H
  refine R_heq e2 ?_
  refine R_iconst (v := (0 : Int32)) (gxd kX4_keepSolution 6 rfl) rfl ?_
  refine R_istore_n (gxd kX4_keepSolution 7 rfl) rfl rfl (Nat.le_of_ble_eq_true rfl) rfl ?_
  exact R_weak (gle_same (gle_same gle_nil)) (fS_keepSolution_12_ok  gfu _ _ _  H)
def fS_learn_25 (v1 : Int32) : Nat → Int32 → Int32 → gH → Option (Int32 × gH)
  | 0, _, _, _ => none
  | n + 1, v2, v3, h =>
    if v3 < (h 38 9) then
      if ((v1 >>> (v3 &&& 31)) &&& (1 : Int32)) = (1 : Int32) then
        gg (gin v3 8) <|
        gg (gin v3 8) <|
        gg (gin v3 8) <|
        gg (gin (h 39 v3.toNatClampNeg) 8) <|
        glet (hu h 42 (h 39 v3.toNatClampNeg).toNatClampNeg (h 40 v3.toNatClampNeg)) fun h9 =>
        fS_learn_25 v1 n (v2 ||| ((1 : Int32) <<< ((h 39 v3.toNatClampNeg) &&& 31))) (v3 + (1 : Int32)) h9
      else
        fS_learn_25 v1 n v2 (v3 + (1 : Int32)) h
    else
      glet (hu h 38 12 ((h 38 12) + (1 : Int32))) fun h1 =>
      (fR_learn ((h1 38 12) - (1 : Int32)) v2 h1).bind fun p3 =>
      some (p3.1, p3.2)
theorem fS_learn_25_ok {d : Nat} {v1 : Int32}  : ∀ (n : Nat) (v2 : Int32) (v3 : Int32) (h : gH) (x : (Int32 × gH)), fS_learn_25 v1 n v2 v3 h = some x → gR RX4 cX4_learn 4 (some .int) (d + 2) 25 [.ref 38, .int v1, .int v2, .int v3] [] h (some (.int x.1)) x.2 := by
  intro n
  induction n with
  | zero => intro v2 v3 h x  H; exact g0 H
  | succ n ih =>
    intro v2 v3 h x  H
    unfold fS_learn_25 at H
    refine R_iload_n (gxd kX4_learn 16 rfl) rfl rfl ?_
    refine R_aload_n (gxd kX4_learn 17 rfl) rfl rfl ?_
    refine R_geti (gxd kX4_learn 18 rfl) gf_S_42 gk_38 (by decide) rfl ?_
    refine R_icmp_ge (gxd kX4_learn 19 rfl) (tgt := 76) rfl (fun q => ?_) (fun q => ?_)
    · replace H := giff q H
      refine R_aload_n (gxd kX4_learn 49 rfl) rfl rfl ?_
      refine R_dup (gxd kX4_learn 50 rfl) rfl ?_
      refine R_geti (gxd kX4_learn 51 rfl) gf_S_52 gk_38 (by decide) rfl ?_
      refine R_iconst (v := (1 : Int32)) (gxd kX4_learn 52 rfl) rfl ?_
      refine R_iadd (gxd kX4_learn 53 rfl) ?_
      refine R_puti (gxd kX4_learn 54 rfl) gf_S_52 gp_4_12 gk_38 (by decide) rfl ?_
      obtain ⟨h1, e2, H⟩ := glei H
      refine R_heq e2 ?_
      refine R_aload_n (gxd kX4_learn 55 rfl) rfl rfl ?_
      refine R_getr (gxd kX4_learn 56 rfl) gf_S_27 gk_38 (by decide) rfl ?_
      refine R_aload_n (gxd kX4_learn 57 rfl) rfl rfl ?_
      refine R_geti (gxd kX4_learn 58 rfl) gf_S_52 gk_38 (by decide) rfl ?_
      refine R_iconst (v := (1 : Int32)) (gxd kX4_learn 59 rfl) rfl ?_
      refine R_isub (gxd kX4_learn 60 rfl) ?_
      refine R_iload_n (gxd kX4_learn 61 rfl) rfl rfl ?_
      refine R_aload_n (gxd kX4_learn 62 rfl) rfl rfl ?_
      refine R_getr (gxd kX4_learn 63 rfl) gf_S_21 gk_38 (by decide) rfl ?_
      obtain ⟨p3, e4, H⟩ := gbi H
      refine R_callVi (gxd kX4_learn 64 rfl) gm_S_145 wX3_learn (by decide) gk_1 rfl rfl (Nat.le_of_ble_eq_true rfl) (by omega) (fR_learn_ok  e4 (d + 0)) ?_
      cases H
      exact R_iret (gxd kX4_learn 65 rfl) rfl
    · replace H := gift q H
      refine R_iload_n (gxd kX4_learn 20 rfl) rfl rfl ?_
      refine R_iload_n (gxd kX4_learn 21 rfl) rfl rfl ?_
      refine R_ishr (gxd kX4_learn 22 rfl) ?_
      refine R_iconst (v := (1 : Int32)) (gxd kX4_learn 23 rfl) rfl ?_
      refine R_iand (gxd kX4_learn 24 rfl) ?_
      refine R_iconst (v := (1 : Int32)) (gxd kX4_learn 25 rfl) rfl ?_
      refine R_icmp_ne (gxd kX4_learn 26 rfl) (tgt := 70) rfl (fun q => ?_) (fun q => ?_)
      · replace H := giff q H
        refine R_iinc (v := (v3 + (1 : Int32))) (gxd kX4_learn 47 rfl) rfl rfl rfl (Nat.le_of_ble_eq_true rfl) rfl ?_
        refine R_goto (gxd kX4_learn 48 rfl) (tgt := 25) rfl ?_
        exact R_weak (gle_same (gle_same (gle_same (gle_same gle_nil)))) (ih _ _ _ _  H)
      · replace H := gift q H
        refine R_iload_n (gxd kX4_learn 27 rfl) rfl rfl ?_
        refine R_iconst (v := (1 : Int32)) (gxd kX4_learn 28 rfl) rfl ?_
        refine R_aload_n (gxd kX4_learn 29 rfl) rfl rfl ?_
        refine R_getr (gxd kX4_learn 30 rfl) gf_S_9 gk_38 (by decide) rfl ?_
        refine R_iload_n (gxd kX4_learn 31 rfl) rfl rfl ?_
        obtain ⟨b5, H⟩ := ggi H
        have b5 := gin_in b5
        refine R_iald (gxd kX4_learn 32 rfl) gk_39 b5 ?_
        refine R_ishl (gxd kX4_learn 33 rfl) ?_
        refine R_ior (gxd kX4_learn 34 rfl) ?_
        refine R_istore_n (gxd kX4_learn 35 rfl) rfl rfl (Nat.le_of_ble_eq_true rfl) rfl ?_
        refine R_aload_n (gxd kX4_learn 36 rfl) rfl rfl ?_
        refine R_getr (gxd kX4_learn 37 rfl) gf_S_21 gk_38 (by decide) rfl ?_
        refine R_aload_n (gxd kX4_learn 38 rfl) rfl rfl ?_
        refine R_getr (gxd kX4_learn 39 rfl) gf_S_9 gk_38 (by decide) rfl ?_
        refine R_iload_n (gxd kX4_learn 40 rfl) rfl rfl ?_
        obtain ⟨b6, H⟩ := ggi H
        have b6 := gin_in b6
        refine R_iald (gxd kX4_learn 41 rfl) gk_39 b6 ?_
        refine R_aload_n (gxd kX4_learn 42 rfl) rfl rfl ?_
        refine R_getr (gxd kX4_learn 43 rfl) gf_S_15 gk_38 (by decide) rfl ?_
        refine R_iload_n (gxd kX4_learn 44 rfl) rfl rfl ?_
        obtain ⟨b7, H⟩ := ggi H
        have b7 := gin_in b7
        refine R_iald (gxd kX4_learn 45 rfl) gk_40 b7 ?_
        obtain ⟨b8, H⟩ := ggi H
        have b8 := gin_in b8
        refine R_iast (gxd kX4_learn 46 rfl) gk_42 b8 ?_
        obtain ⟨h9, e10, H⟩ := glei H
        refine R_heq e10 ?_
        refine R_iinc (v := (v3 + (1 : Int32))) (gxd kX4_learn 47 rfl) rfl rfl rfl (Nat.le_of_ble_eq_true rfl) rfl ?_
        refine R_goto (gxd kX4_learn 48 rfl) (tgt := 25) rfl ?_
        exact R_weak (gle_same (gle_same (gle_same (gle_same gle_nil)))) (ih _ _ _ _  H)
def fS_learn_4 (v1 : Int32) (v2 : Int32) : Nat → Int32 → gH → Option (Int32 × gH)
  | 0, _, _ => none
  | n + 1, v3, h =>
    if v3 < (8 : Int32) then
      gg (gin v3 8) <|
      glet (hu h 42 v3.toNatClampNeg (0 : Int32)) fun h12 =>
      fS_learn_4 v1 v2 n (v3 + (1 : Int32)) h12
    else
      fS_learn_25 v1 gfu v2 (0 : Int32) h
theorem fS_learn_4_ok {d : Nat} {v1 : Int32} {v2 : Int32}  : ∀ (n : Nat) (v3 : Int32) (h : gH) (x : (Int32 × gH)), fS_learn_4 v1 v2 n v3 h = some x → gR RX4 cX4_learn 4 (some .int) (d + 2) 4 [.ref 38, .int v1, .int v2, .int v3] [] h (some (.int x.1)) x.2 := by
  intro n
  induction n with
  | zero => intro v3 h x  H; exact g0 H
  | succ n ih =>
    intro v3 h x  H
    unfold fS_learn_4 at H
    refine R_iload_n (gxd kX4_learn 4 rfl) rfl rfl ?_
    refine R_bipush (v := (8 : Int32)) (gxd kX4_learn 5 rfl) rfl ?_
    refine R_icmp_ge (gxd kX4_learn 6 rfl) (tgt := 23) rfl (fun q => ?_) (fun q => ?_)
    · replace H := giff q H
      refine R_iconst (v := (0 : Int32)) (gxd kX4_learn 14 rfl) rfl ?_
      refine R_istore_n (gxd kX4_learn 15 rfl) rfl rfl (Nat.le_of_ble_eq_true rfl) rfl ?_
      exact R_weak (gle_same (gle_same (gle_same (gle_same gle_nil)))) (fS_learn_25_ok  gfu _ _ _ _  H)
    · replace H := gift q H
      refine R_aload_n (gxd kX4_learn 7 rfl) rfl rfl ?_
      refine R_getr (gxd kX4_learn 8 rfl) gf_S_21 gk_38 (by decide) rfl ?_
      refine R_iload_n (gxd kX4_learn 9 rfl) rfl rfl ?_
      refine R_iconst (v := (0 : Int32)) (gxd kX4_learn 10 rfl) rfl ?_
      obtain ⟨b11, H⟩ := ggi H
      have b11 := gin_in b11
      refine R_iast (gxd kX4_learn 11 rfl) gk_42 b11 ?_
      obtain ⟨h12, e13, H⟩ := glei H
      refine R_heq e13 ?_
      refine R_iinc (v := (v3 + (1 : Int32))) (gxd kX4_learn 12 rfl) rfl rfl rfl (Nat.le_of_ble_eq_true rfl) rfl ?_
      refine R_goto (gxd kX4_learn 13 rfl) (tgt := 4) rfl ?_
      exact R_weak (gle_same (gle_same (gle_same (gle_same gle_nil)))) (ih _ _ _  H)
def fS_learn (v1 : Int32) (h : gH) : Option (Int32 × gH) :=
  fS_learn_4 v1 (0 : Int32) gfu (0 : Int32) h
theorem fS_learn_ok {v1 : Int32} {h : gH} {x : (Int32 × gH)} (H : fS_learn v1 h = some x) (d : Nat) : gC yX4_learn cX4_learn 4 (some .int) (d + 2) [.ref 38, .int v1] h (some (.int x.1)) x.2 := by
  refine gC_of (by decide +kernel) (Nat.le_of_ble_eq_true rfl) rfl ?_
  unfold fS_learn at H
  refine R_iconst (v := (0 : Int32)) (gxd kX4_learn 0 rfl) rfl ?_
  refine R_istore_n (gxd kX4_learn 1 rfl) rfl rfl (Nat.le_of_ble_eq_true rfl) rfl ?_
  refine R_iconst (v := (0 : Int32)) (gxd kX4_learn 2 rfl) rfl ?_
  refine R_istore_n (gxd kX4_learn 3 rfl) rfl rfl (Nat.le_of_ble_eq_true rfl) rfl ?_
  exact R_weak (gle_same (gle_same (gle_same (gle_same gle_nil)))) (fS_learn_4_ok  gfu _ _ _  H)
def fS_startTrial_27 (v1 : Int32) : Nat → Int32 → gH → Option gH
  | 0, _, _ => none
  | n + 1, v2, h =>
    if v2 < (h 38 9) then
      if (h 33 9) = (0 : Int32) then
        if ((v1 >>> (v2 &&& 31)) &&& (1 : Int32)) = (1 : Int32) then
          gg (gin v2 8) <|
          gg (gin v2 8) <|
          (fH_narrow 33 (h 39 v2.toNatClampNeg) (h 40 v2.toNatClampNeg) (100 : Int32) h).bind fun p9 =>
          fS_startTrial_27 v1 n (v2 + (1 : Int32)) p9.2
        else
          fS_startTrial_27 v1 n (v2 + (1 : Int32)) h
      else
        some h
    else
      some h
theorem fS_startTrial_27_ok {d : Nat} {v1 : Int32}  : ∀ (n : Nat) (v2 : Int32) (h : gH) (x : gH), fS_startTrial_27 v1 n v2 h = some x → gR RX4 cX4_startTrial 3 none (d + 3) 27 [.ref 38, .int v1, .int v2] [] h none x := by
  intro n
  induction n with
  | zero => intro v2 h x  H; exact g0 H
  | succ n ih =>
    intro v2 h x  H
    unfold fS_startTrial_27 at H
    refine R_iload_n (gxd kX4_startTrial 13 rfl) rfl rfl ?_
    refine R_aload_n (gxd kX4_startTrial 14 rfl) rfl rfl ?_
    refine R_geti (gxd kX4_startTrial 15 rfl) gf_S_42 gk_38 (by decide) rfl ?_
    refine R_icmp_ge (gxd kX4_startTrial 16 rfl) (tgt := 82) rfl (fun q => ?_) (fun q => ?_)
    · replace H := giff q H
      cases H
      exact R_vret (gxd kX4_startTrial 43 rfl) rfl
    · replace H := gift q H
      refine R_aload_n (gxd kX4_startTrial 17 rfl) rfl rfl ?_
      refine R_getr (gxd kX4_startTrial 18 rfl) gf_S_39 gk_38 (by decide) rfl ?_
      refine R_geti (gxd kX4_startTrial 19 rfl) gf_S_69 gk_33 (by decide) rfl ?_
      refine R_if_ne (gxd kX4_startTrial 20 rfl) (tgt := 82) rfl (fun q => ?_) (fun q => ?_)
      · replace H := giff q H
        cases H
        exact R_vret (gxd kX4_startTrial 43 rfl) rfl
      · replace H := gift q H
        refine R_iload_n (gxd kX4_startTrial 21 rfl) rfl rfl ?_
        refine R_iload_n (gxd kX4_startTrial 22 rfl) rfl rfl ?_
        refine R_ishr (gxd kX4_startTrial 23 rfl) ?_
        refine R_iconst (v := (1 : Int32)) (gxd kX4_startTrial 24 rfl) rfl ?_
        refine R_iand (gxd kX4_startTrial 25 rfl) ?_
        refine R_iconst (v := (1 : Int32)) (gxd kX4_startTrial 26 rfl) rfl ?_
        refine R_icmp_ne (gxd kX4_startTrial 27 rfl) (tgt := 76) rfl (fun q => ?_) (fun q => ?_)
        · replace H := giff q H
          refine R_iinc (v := (v2 + (1 : Int32))) (gxd kX4_startTrial 41 rfl) rfl rfl rfl (Nat.le_of_ble_eq_true rfl) rfl ?_
          refine R_goto (gxd kX4_startTrial 42 rfl) (tgt := 27) rfl ?_
          exact R_weak (gle_same (gle_same (gle_same gle_nil))) (ih _ _ _  H)
        · replace H := gift q H
          refine R_aload_n (gxd kX4_startTrial 28 rfl) rfl rfl ?_
          refine R_getr (gxd kX4_startTrial 29 rfl) gf_S_39 gk_38 (by decide) rfl ?_
          refine R_aload_n (gxd kX4_startTrial 30 rfl) rfl rfl ?_
          refine R_getr (gxd kX4_startTrial 31 rfl) gf_S_9 gk_38 (by decide) rfl ?_
          refine R_iload_n (gxd kX4_startTrial 32 rfl) rfl rfl ?_
          obtain ⟨b7, H⟩ := ggi H
          have b7 := gin_in b7
          refine R_iald (gxd kX4_startTrial 33 rfl) gk_39 b7 ?_
          refine R_aload_n (gxd kX4_startTrial 34 rfl) rfl rfl ?_
          refine R_getr (gxd kX4_startTrial 35 rfl) gf_S_15 gk_38 (by decide) rfl ?_
          refine R_iload_n (gxd kX4_startTrial 36 rfl) rfl rfl ?_
          obtain ⟨b8, H⟩ := ggi H
          have b8 := gin_in b8
          refine R_iald (gxd kX4_startTrial 37 rfl) gk_40 b8 ?_
          refine R_bipush (v := (100 : Int32)) (gxd kX4_startTrial 38 rfl) rfl ?_
          obtain ⟨p9, e10, H⟩ := gbi H
          refine R_callVi (gxd kX4_startTrial 39 rfl) gm_S_106 wX0_narrow (by decide) gk_33 rfl rfl (Nat.le_of_ble_eq_true rfl) (by omega) (fH_narrow_ok gH33 e10 (d + 1)) ?_
          refine R_pop (gxd kX4_startTrial 40 rfl) rfl ?_
          refine R_iinc (v := (v2 + (1 : Int32))) (gxd kX4_startTrial 41 rfl) rfl rfl rfl (Nat.le_of_ble_eq_true rfl) rfl ?_
          refine R_goto (gxd kX4_startTrial 42 rfl) (tgt := 27) rfl ?_
          exact R_weak (gle_same (gle_same (gle_same gle_nil))) (ih _ _ _  H)
def fS_startTrial (v1 : Int32) (h : gH) : Option gH :=
  (fP_all 22 h).bind fun p1 =>
  (fR_all p1.2).bind fun p3 =>
  (fH_start 33 p1.1 p3.1 p3.2).bind fun h5 =>
  fS_startTrial_27 v1 gfu (0 : Int32) h5
theorem fS_startTrial_ok {v1 : Int32} {h : gH} {x : gH} (H : fS_startTrial v1 h = some x) (d : Nat) : gC yX4_startTrial cX4_startTrial 3 none (d + 3) [.ref 38, .int v1] h none x := by
  refine gC_of (by decide +kernel) (Nat.le_of_ble_eq_true rfl) rfl ?_
  unfold fS_startTrial at H
  refine R_aload_n (gxd kX4_startTrial 0 rfl) rfl rfl ?_
  refine R_getr (gxd kX4_startTrial 1 rfl) gf_S_39 gk_38 (by decide) rfl ?_
  refine R_aload_n (gxd kX4_startTrial 2 rfl) rfl rfl ?_
  refine R_getr (gxd kX4_startTrial 3 rfl) gf_S_31 gk_38 (by decide) rfl ?_
  refine R_aload_n (gxd kX4_startTrial 4 rfl) rfl rfl ?_
  refine R_getr (gxd kX4_startTrial 5 rfl) gf_S_31 gk_38 (by decide) rfl ?_
  obtain ⟨p1, e2, H⟩ := gbi H
  refine R_callVi (gxd kX4_startTrial 6 rfl) gm_S_148 wX1_all (by decide) gk_22 rfl rfl (Nat.le_of_ble_eq_true rfl) (by omega) (fP_all_ok gP22 e2 (d + 2)) ?_
  refine R_aload_n (gxd kX4_startTrial 7 rfl) rfl rfl ?_
  refine R_getr (gxd kX4_startTrial 8 rfl) gf_S_27 gk_38 (by decide) rfl ?_
  obtain ⟨p3, e4, H⟩ := gbi H
  refine R_callVi (gxd kX4_startTrial 9 rfl) gm_S_136 wX3_all (by decide) gk_1 rfl rfl (Nat.le_of_ble_eq_true rfl) (by omega) (fR_all_ok  e4 (d + 2)) ?_
  obtain ⟨h5, e6, H⟩ := gbi H
  refine R_callVv (gxd kX4_startTrial 10 rfl) gm_S_151 wX0_start (by decide) gk_33 rfl rfl (Nat.le_of_ble_eq_true rfl) (by omega) (fH_start_ok gH33 e6 (d + 0)) ?_
  refine R_iconst (v := (0 : Int32)) (gxd kX4_startTrial 11 rfl) rfl ?_
  refine R_istore_n (gxd kX4_startTrial 12 rfl) rfl rfl (Nat.le_of_ble_eq_true rfl) rfl ?_
  exact R_weak (gle_same (gle_same (gle_same gle_nil))) (fS_startTrial_27_ok  gfu _ _ _  H)
def fS_learnFromTries_47 : Nat → Int32 → Int32 → gH → Option (Int32 × gH)
  | 0, _, _, _ => none
  | n + 1, v1, v2, h =>
    if v2 < (h 38 9) then
      (fS_startTrial (v1 &&& (((1 : Int32) <<< (v2 &&& 31)) ^^^ (-1 : Int32))) h).bind fun h7 =>
      (fH_runAll 33 h7).bind fun p9 =>
      if (p9.2 33 9) = (0 : Int32) then
        fS_learnFromTries_47 n v1 (v2 + (1 : Int32)) p9.2
      else
        fS_learnFromTries_47 n (v1 &&& (((1 : Int32) <<< (v2 &&& 31)) ^^^ (-1 : Int32))) (v2 + (1 : Int32)) p9.2
    else
      (fS_learn v1 h).bind fun p5 =>
      some (p5.1, p5.2)
theorem fS_learnFromTries_47_ok {d : Nat}  : ∀ (n : Nat) (v1 : Int32) (v2 : Int32) (h : gH) (x : (Int32 × gH)), fS_learnFromTries_47  n v1 v2 h = some x → gR RX4 cX4_learnFromTries 4 (some .int) (d + 4) 47 [.ref 38, .int v1, .int v2, .null] [] h (some (.int x.1)) x.2 := by
  intro n
  induction n with
  | zero => intro v1 v2 h x  H; exact g0 H
  | succ n ih =>
    intro v1 v2 h x  H
    unfold fS_learnFromTries_47 at H
    refine R_iload_n (gxd kX4_learnFromTries 28 rfl) rfl rfl ?_
    refine R_aload_n (gxd kX4_learnFromTries 29 rfl) rfl rfl ?_
    refine R_geti (gxd kX4_learnFromTries 30 rfl) gf_S_42 gk_38 (by decide) rfl ?_
    refine R_icmp_ge (gxd kX4_learnFromTries 31 rfl) (tgt := 94) rfl (fun q => ?_) (fun q => ?_)
    · replace H := giff q H
      refine R_aload_n (gxd kX4_learnFromTries 55 rfl) rfl rfl ?_
      refine R_iload_n (gxd kX4_learnFromTries 56 rfl) rfl rfl ?_
      obtain ⟨p5, e6, H⟩ := gbi H
      refine R_callVi (gxd kX4_learnFromTries 57 rfl) gm_S_142 wX4_learn (by decide) gk_38 rfl rfl (Nat.le_of_ble_eq_true rfl) (by omega) (fS_learn_ok  e6 (d + 1)) ?_
      cases H
      exact R_iret (gxd kX4_learnFromTries 58 rfl) rfl
    · replace H := gift q H
      refine R_iload_n (gxd kX4_learnFromTries 32 rfl) rfl rfl ?_
      refine R_iconst (v := (1 : Int32)) (gxd kX4_learnFromTries 33 rfl) rfl ?_
      refine R_iload_n (gxd kX4_learnFromTries 34 rfl) rfl rfl ?_
      refine R_ishl (gxd kX4_learnFromTries 35 rfl) ?_
      refine R_iconst (v := (-1 : Int32)) (gxd kX4_learnFromTries 36 rfl) rfl ?_
      refine R_ixor (gxd kX4_learnFromTries 37 rfl) ?_
      refine R_iand (gxd kX4_learnFromTries 38 rfl) ?_
      refine R_istore_n (gxd kX4_learnFromTries 39 rfl) rfl rfl (Nat.le_of_ble_eq_true rfl) rfl ?_
      refine R_aload_n (gxd kX4_learnFromTries 40 rfl) rfl rfl ?_
      refine R_iload_n (gxd kX4_learnFromTries 41 rfl) rfl rfl ?_
      obtain ⟨h7, e8, H⟩ := gbi H
      refine R_callVv (gxd kX4_learnFromTries 42 rfl) gm_S_139 wX4_startTrial (by decide) gk_38 rfl rfl (Nat.le_of_ble_eq_true rfl) (by omega) (fS_startTrial_ok  e8 (d + 0)) ?_
      refine R_aload_n (gxd kX4_learnFromTries 43 rfl) rfl rfl ?_
      refine R_getr (gxd kX4_learnFromTries 44 rfl) gf_S_39 gk_38 (by decide) rfl ?_
      obtain ⟨p9, e10, H⟩ := gbi H
      refine R_callVi (gxd kX4_learnFromTries 45 rfl) gm_S_63 wX0_runAll (by decide) gk_33 rfl rfl (Nat.le_of_ble_eq_true rfl) (by omega) (fH_runAll_ok gH33 e10 (d + 0)) ?_
      refine R_pop (gxd kX4_learnFromTries 46 rfl) rfl ?_
      refine R_aload_n (gxd kX4_learnFromTries 47 rfl) rfl rfl ?_
      refine R_getr (gxd kX4_learnFromTries 48 rfl) gf_S_39 gk_38 (by decide) rfl ?_
      refine R_geti (gxd kX4_learnFromTries 49 rfl) gf_S_69 gk_33 (by decide) rfl ?_
      refine R_if_eq (gxd kX4_learnFromTries 50 rfl) (tgt := 88) rfl (fun q => ?_) (fun q => ?_)
      · replace H := gift q H
        refine R_iinc (v := (v2 + (1 : Int32))) (gxd kX4_learnFromTries 53 rfl) rfl rfl rfl (Nat.le_of_ble_eq_true rfl) rfl ?_
        refine R_goto (gxd kX4_learnFromTries 54 rfl) (tgt := 47) rfl ?_
        exact R_weak (gle_same (gle_same (gle_same (gle_null gle_nil)))) (ih _ _ _ _  H)
      · replace H := giff q H
        refine R_iload_n (gxd kX4_learnFromTries 51 rfl) rfl rfl ?_
        refine R_istore_n (gxd kX4_learnFromTries 52 rfl) rfl rfl (Nat.le_of_ble_eq_true rfl) rfl ?_
        refine R_iinc (v := (v2 + (1 : Int32))) (gxd kX4_learnFromTries 53 rfl) rfl rfl rfl (Nat.le_of_ble_eq_true rfl) rfl ?_
        refine R_goto (gxd kX4_learnFromTries 54 rfl) (tgt := 47) rfl ?_
        exact R_weak (gle_same (gle_same (gle_same (gle_null gle_nil)))) (ih _ _ _ _  H)
def fS_learnFromTries (h : gH) : Option (Int32 × gH) :=
  if (h 38 12) < (8 : Int32) then
    (fS_startTrial (((1 : Int32) <<< ((h 38 9) &&& 31)) - (1 : Int32)) h).bind fun h1 =>
    (fH_runAll 33 h1).bind fun p3 =>
    if (p3.2 33 9) = (0 : Int32) then
      some ((-1 : Int32), p3.2)
    else
      fS_learnFromTries_47 gfu (((1 : Int32) <<< ((h 38 9) &&& 31)) - (1 : Int32)) (0 : Int32) p3.2
  else
    some ((-1 : Int32), h)
theorem fS_learnFromTries_ok {h : gH} {x : (Int32 × gH)} (H : fS_learnFromTries  h = some x) (d : Nat) : gC yX4_learnFromTries cX4_learnFromTries 4 (some .int) (d + 4) [.ref 38] h (some (.int x.1)) x.2 := by
  refine gC_of (by decide +kernel) (Nat.le_of_ble_eq_true rfl) rfl ?_
  unfold fS_learnFromTries at H
  refine R_aload_n (gxd kX4_learnFromTries 0 rfl) rfl rfl ?_
  refine R_geti (gxd kX4_learnFromTries 1 rfl) gf_S_52 gk_38 (by decide) rfl ?_
  refine R_bipush (v := (8 : Int32)) (gxd kX4_learnFromTries 2 rfl) rfl ?_
  refine R_icmp_lt (gxd kX4_learnFromTries 3 rfl) (tgt := 11) rfl (fun q => ?_) (fun q => ?_)
  · replace H := gift q H
    refine R_iconst (v := (1 : Int32)) (gxd kX4_learnFromTries 6 rfl) rfl ?_
    refine R_aload_n (gxd kX4_learnFromTries 7 rfl) rfl rfl ?_
    refine R_geti (gxd kX4_learnFromTries 8 rfl) gf_S_42 gk_38 (by decide) rfl ?_
    refine R_ishl (gxd kX4_learnFromTries 9 rfl) ?_
    refine R_iconst (v := (1 : Int32)) (gxd kX4_learnFromTries 10 rfl) rfl ?_
    refine R_isub (gxd kX4_learnFromTries 11 rfl) ?_
    refine R_istore_n (gxd kX4_learnFromTries 12 rfl) rfl rfl (Nat.le_of_ble_eq_true rfl) rfl ?_
    refine R_aload_n (gxd kX4_learnFromTries 13 rfl) rfl rfl ?_
    refine R_iload_n (gxd kX4_learnFromTries 14 rfl) rfl rfl ?_
    obtain ⟨h1, e2, H⟩ := gbi H
    refine R_callVv (gxd kX4_learnFromTries 15 rfl) gm_S_139 wX4_startTrial (by decide) gk_38 rfl rfl (Nat.le_of_ble_eq_true rfl) (by omega) (fS_startTrial_ok  e2 (d + 0)) ?_
    refine R_aload_n (gxd kX4_learnFromTries 16 rfl) rfl rfl ?_
    refine R_getr (gxd kX4_learnFromTries 17 rfl) gf_S_39 gk_38 (by decide) rfl ?_
    obtain ⟨p3, e4, H⟩ := gbi H
    refine R_callVi (gxd kX4_learnFromTries 18 rfl) gm_S_63 wX0_runAll (by decide) gk_33 rfl rfl (Nat.le_of_ble_eq_true rfl) (by omega) (fH_runAll_ok gH33 e4 (d + 0)) ?_
    refine R_pop (gxd kX4_learnFromTries 19 rfl) rfl ?_
    refine R_aload_n (gxd kX4_learnFromTries 20 rfl) rfl rfl ?_
    refine R_getr (gxd kX4_learnFromTries 21 rfl) gf_S_39 gk_38 (by decide) rfl ?_
    refine R_geti (gxd kX4_learnFromTries 22 rfl) gf_S_69 gk_33 (by decide) rfl ?_
    refine R_if_ne (gxd kX4_learnFromTries 23 rfl) (tgt := 45) rfl (fun q => ?_) (fun q => ?_)
    · replace H := giff q H
      refine R_iconst (v := (0 : Int32)) (gxd kX4_learnFromTries 26 rfl) rfl ?_
      refine R_istore_n (gxd kX4_learnFromTries 27 rfl) rfl rfl (Nat.le_of_ble_eq_true rfl) rfl ?_
      exact R_weak (gle_same (gle_same (gle_same (gle_null gle_nil)))) (fS_learnFromTries_47_ok  gfu _ _ _ _  H)
    · replace H := gift q H
      refine R_iconst (v := (-1 : Int32)) (gxd kX4_learnFromTries 24 rfl) rfl ?_
      cases H
      exact R_iret (gxd kX4_learnFromTries 25 rfl) rfl
  · replace H := giff q H
    refine R_iconst (v := (-1 : Int32)) (gxd kX4_learnFromTries 4 rfl) rfl ?_
    cases H
    exact R_iret (gxd kX4_learnFromTries 5 rfl) rfl
def fS_worthOf (v1 : Int32) (v2 : Int32) (h : gH) : Option (Int32 × gH) :=
  if v1 = (1 : Int32) then
    gg (gin v2 9) <|
    (fJ_bitCount (h 29 v2.toNatClampNeg) h).bind fun p2 =>
    some ((-p2.1), p2.2)
  else
  if v1 = (2 : Int32) then
    gg (gin v2 9) <|
    (fJ_bitCount (h 29 v2.toNatClampNeg) h).bind fun p5 =>
    some (p5.1, p5.2)
  else
  if v1 = (3 : Int32) then
    gg (gin v2 8) <|
    (fR_all h).bind fun p8 =>
    (fJ_bitCount ((h 5 v2.toNatClampNeg) &&& p8.1) p8.2).bind fun p10 =>
    some (p10.1, p10.2)
  else
    some ((0 : Int32), h)
theorem fS_worthOf_ok {v1 : Int32} {v2 : Int32} {h : gH} {x : (Int32 × gH)} (H : fS_worthOf v1 v2 h = some x) (d : Nat) : gC yX4_worthOf cX4_worthOf 3 (some .int) (d + 1) [.ref 38, .int v1, .int v2] h (some (.int x.1)) x.2 := by
  refine gC_of (by decide +kernel) (Nat.le_of_ble_eq_true rfl) rfl ?_
  unfold fS_worthOf at H
  refine R_iload_n (gxd kX4_worthOf 0 rfl) rfl rfl ?_
  by_cases q0 : v1 = (1 : Int32)
  · replace H := gift q0 H
    refine R_tableIn (gxd kX4_worthOf 1 rfl) (by rw [q0]; decide) (by rw [q0]; decide) (off := 27) (tgt := 28) (by rw [q0]; decide) rfl ?_
    refine R_aload_n (gxd kX4_worthOf 2 rfl) rfl rfl ?_
    refine R_getr (gxd kX4_worthOf 3 rfl) gf_S_35 gk_38 (by decide) rfl ?_
    refine R_getr (gxd kX4_worthOf 4 rfl) gf_S_89 gk_28 (by decide) rfl ?_
    refine R_iload_n (gxd kX4_worthOf 5 rfl) rfl rfl ?_
    obtain ⟨b1, H⟩ := ggi H
    have b1 := gin_in b1
    refine R_iald (gxd kX4_worthOf 6 rfl) gk_29 b1 ?_
    obtain ⟨p2, e3, H⟩ := gbi H
    refine R_callSi (gxd kX4_worthOf 7 rfl) gm_S_126 wJ6_bitCount_0f7a4 (by decide) rfl (Nat.le_of_ble_eq_true rfl) (by omega) (fJ_bitCount_ok  e3 (d + 0)) ?_
    refine R_ineg (gxd kX4_worthOf 8 rfl) ?_
    cases H
    exact R_iret (gxd kX4_worthOf 9 rfl) rfl
  replace H := giff q0 H
  by_cases q1 : v1 = (2 : Int32)
  · replace H := gift q1 H
    refine R_tableIn (gxd kX4_worthOf 1 rfl) (by rw [q1]; decide) (by rw [q1]; decide) (off := 41) (tgt := 42) (by rw [q1]; decide) rfl ?_
    refine R_aload_n (gxd kX4_worthOf 10 rfl) rfl rfl ?_
    refine R_getr (gxd kX4_worthOf 11 rfl) gf_S_35 gk_38 (by decide) rfl ?_
    refine R_getr (gxd kX4_worthOf 12 rfl) gf_S_89 gk_28 (by decide) rfl ?_
    refine R_iload_n (gxd kX4_worthOf 13 rfl) rfl rfl ?_
    obtain ⟨b4, H⟩ := ggi H
    have b4 := gin_in b4
    refine R_iald (gxd kX4_worthOf 14 rfl) gk_29 b4 ?_
    obtain ⟨p5, e6, H⟩ := gbi H
    refine R_callSi (gxd kX4_worthOf 15 rfl) gm_S_126 wJ6_bitCount_0f7a4 (by decide) rfl (Nat.le_of_ble_eq_true rfl) (by omega) (fJ_bitCount_ok  e6 (d + 0)) ?_
    cases H
    exact R_iret (gxd kX4_worthOf 16 rfl) rfl
  replace H := giff q1 H
  by_cases q2 : v1 = (3 : Int32)
  · replace H := gift q2 H
    refine R_tableIn (gxd kX4_worthOf 1 rfl) (by rw [q2]; decide) (by rw [q2]; decide) (off := 54) (tgt := 55) (by rw [q2]; decide) rfl ?_
    refine R_aload_n (gxd kX4_worthOf 17 rfl) rfl rfl ?_
    refine R_getr (gxd kX4_worthOf 18 rfl) gf_S_27 gk_38 (by decide) rfl ?_
    refine R_getr (gxd kX4_worthOf 19 rfl) gf_S_131 gk_1 (by decide) rfl ?_
    refine R_iload_n (gxd kX4_worthOf 20 rfl) rfl rfl ?_
    obtain ⟨b7, H⟩ := ggi H
    have b7 := gin_in b7
    refine R_iald (gxd kX4_worthOf 21 rfl) gk_5 b7 ?_
    refine R_aload_n (gxd kX4_worthOf 22 rfl) rfl rfl ?_
    refine R_getr (gxd kX4_worthOf 23 rfl) gf_S_27 gk_38 (by decide) rfl ?_
    obtain ⟨p8, e9, H⟩ := gbi H
    refine R_callVi (gxd kX4_worthOf 24 rfl) gm_S_136 wX3_all (by decide) gk_1 rfl rfl (Nat.le_of_ble_eq_true rfl) (by omega) (fR_all_ok  e9 (d + 0)) ?_
    refine R_iand (gxd kX4_worthOf 25 rfl) ?_
    obtain ⟨p10, e11, H⟩ := gbi H
    refine R_callSi (gxd kX4_worthOf 26 rfl) gm_S_126 wJ6_bitCount_0f7a4 (by decide) rfl (Nat.le_of_ble_eq_true rfl) (by omega) (fJ_bitCount_ok  e11 (d + 0)) ?_
    cases H
    exact R_iret (gxd kX4_worthOf 27 rfl) rfl
  replace H := giff q2 H
  refine R_tableOut (gxd kX4_worthOf 1 rfl) (tgt := 76) (by have z0 := lv_neT q0 (a := 1) (by decide); have z1 := lv_neT q1 (a := 2) (by decide); have z2 := lv_neT q2 (a := 3) (by decide); omega) rfl ?_
  refine R_iconst (v := (0 : Int32)) (gxd kX4_worthOf 28 rfl) rfl ?_
  cases H
  exact R_iret (gxd kX4_worthOf 29 rfl) rfl
def fS_chosen_49 (k7 : Int32 → Int32 → Int32 → gH → Option (Int32 × gH)) (v1 : Int32) (v4 : Int32) (v5 : Int32) (h : gH) : Option (Int32 × gH) :=
  k7 v4 v5 (v4 + (1 : Int32)) h
theorem fS_chosen_49_ok {d : Nat} {k7 : Int32 → Int32 → Int32 → gH → Option (Int32 × gH)} {v1 : Int32} {v4 : Int32} {v5 : Int32} (hk7 : ∀ (u2 : Int32) (u3 : Int32) (u4 : Int32) (h : gH) (x : (Int32 × gH)), k7 u2 u3 u4 h = some x → gR RX4 cX4_chosen 6 (some .int) (d + 2) 7 [.ref 38, .int v1, .int u2, .int u3, .int u4, .null] [] h (some (.int x.1)) x.2) {h : gH} {x : (Int32 × gH)} (H : fS_chosen_49 k7 v1 v4 v5  h = some x) : gR RX4 cX4_chosen 6 (some .int) (d + 2) 49 [.ref 38, .int v1, .null, .null, .int v4, .int v5] [] h (some (.int x.1)) x.2 := by
  unfold fS_chosen_49 at H
  refine R_iload (gxd kX4_chosen 26 rfl) rfl ?_
  refine R_istore_n (gxd kX4_chosen 27 rfl) rfl rfl (Nat.le_of_ble_eq_true rfl) rfl ?_
  refine R_iload (gxd kX4_chosen 28 rfl) rfl ?_
  refine R_istore_n (gxd kX4_chosen 29 rfl) rfl rfl (Nat.le_of_ble_eq_true rfl) rfl ?_
  refine R_iinc (v := (v4 + (1 : Int32))) (gxd kX4_chosen 30 rfl) rfl rfl rfl (Nat.le_of_ble_eq_true rfl) rfl ?_
  refine R_goto (gxd kX4_chosen 31 rfl) (tgt := 7) rfl ?_
  exact R_weak (gle_same (gle_same (gle_same (gle_same (gle_same (gle_null gle_nil)))))) (hk7 _ _ _ _ _  H)
def fS_chosen_7 (v1 : Int32) : Nat → Int32 → Int32 → Int32 → gH → Option (Int32 × gH)
  | 0, _, _, _, _ => none
  | n + 1, v2, v3, v4, h =>
    if v4 < (8 : Int32) then
      (fH_isSettled 28 v4 h).bind fun p1 =>
      if p1.1 = (0 : Int32) then
        (fS_worthOf v1 v4 p1.2).bind fun p3 =>
        if v2 = (-1 : Int32) then
          fS_chosen_49 (fS_chosen_7 v1 n) v1 v4 p3.1 p3.2
        else
          if v3 < p3.1 then
            fS_chosen_49 (fS_chosen_7 v1 n) v1 v4 p3.1 p3.2
          else
            fS_chosen_7 v1 n v2 v3 (v4 + (1 : Int32)) p3.2
      else
        fS_chosen_7 v1 n v2 v3 (v4 + (1 : Int32)) p1.2
    else
      some (v2, h)
theorem fS_chosen_7_ok {d : Nat} {v1 : Int32}  : ∀ (n : Nat) (v2 : Int32) (v3 : Int32) (v4 : Int32) (h : gH) (x : (Int32 × gH)), fS_chosen_7 v1 n v2 v3 v4 h = some x → gR RX4 cX4_chosen 6 (some .int) (d + 2) 7 [.ref 38, .int v1, .int v2, .int v3, .int v4, .null] [] h (some (.int x.1)) x.2 := by
  intro n
  induction n with
  | zero => intro v2 v3 v4 h x  H; exact g0 H
  | succ n ih =>
    intro v2 v3 v4 h x  H
    unfold fS_chosen_7 at H
    refine R_iload (gxd kX4_chosen 6 rfl) rfl ?_
    refine R_bipush (v := (8 : Int32)) (gxd kX4_chosen 7 rfl) rfl ?_
    refine R_icmp_ge (gxd kX4_chosen 8 rfl) (tgt := 61) rfl (fun q => ?_) (fun q => ?_)
    · replace H := giff q H
      refine R_iload_n (gxd kX4_chosen 32 rfl) rfl rfl ?_
      cases H
      exact R_iret (gxd kX4_chosen 33 rfl) rfl
    · replace H := gift q H
      refine R_aload_n (gxd kX4_chosen 9 rfl) rfl rfl ?_
      refine R_getr (gxd kX4_chosen 10 rfl) gf_S_35 gk_38 (by decide) rfl ?_
      refine R_iload (gxd kX4_chosen 11 rfl) rfl ?_
      obtain ⟨p1, e2, H⟩ := gbi H
      refine R_callVi (gxd kX4_chosen 12 rfl) gm_S_120 wX0_isSettled (by decide) gk_28 rfl rfl (Nat.le_of_ble_eq_true rfl) (by omega) (fH_isSettled_ok gH28 e2 (d + 0)) ?_
      refine R_if_eq (gxd kX4_chosen 13 rfl) (tgt := 29) rfl (fun q => ?_) (fun q => ?_)
      · replace H := gift q H
        refine R_aload_n (gxd kX4_chosen 15 rfl) rfl rfl ?_
        refine R_iload_n (gxd kX4_chosen 16 rfl) rfl rfl ?_
        refine R_iload (gxd kX4_chosen 17 rfl) rfl ?_
        obtain ⟨p3, e4, H⟩ := gbi H
        refine R_callVi (gxd kX4_chosen 18 rfl) gm_S_123 wX4_worthOf (by decide) gk_38 rfl rfl (Nat.le_of_ble_eq_true rfl) (by omega) (fS_worthOf_ok  e4 (d + 0)) ?_
        refine R_istore (gxd kX4_chosen 19 rfl) rfl (Nat.le_of_ble_eq_true rfl) rfl ?_
        refine R_iload_n (gxd kX4_chosen 20 rfl) rfl rfl ?_
        refine R_iconst (v := (-1 : Int32)) (gxd kX4_chosen 21 rfl) rfl ?_
        refine R_icmp_eq (gxd kX4_chosen 22 rfl) (tgt := 49) rfl (fun q => ?_) (fun q => ?_)
        · replace H := gift q H
          exact R_weak (gle_same (gle_same (gle_null (gle_null (gle_same (gle_same gle_nil)))))) (fS_chosen_49_ok ih  H)
        · replace H := giff q H
          refine R_iload (gxd kX4_chosen 23 rfl) rfl ?_
          refine R_iload_n (gxd kX4_chosen 24 rfl) rfl rfl ?_
          refine R_icmp_le (gxd kX4_chosen 25 rfl) (tgt := 55) rfl (fun q => ?_) (fun q => ?_)
          · replace H := giff q H
            refine R_iinc (v := (v4 + (1 : Int32))) (gxd kX4_chosen 30 rfl) rfl rfl rfl (Nat.le_of_ble_eq_true rfl) rfl ?_
            refine R_goto (gxd kX4_chosen 31 rfl) (tgt := 7) rfl ?_
            exact R_weak (gle_same (gle_same (gle_same (gle_same (gle_same (gle_null gle_nil)))))) (ih _ _ _ _ _  H)
          · replace H := gift q H
            exact R_weak (gle_same (gle_same (gle_null (gle_null (gle_same (gle_same gle_nil)))))) (fS_chosen_49_ok ih  H)
      · replace H := giff q H
        refine R_goto (gxd kX4_chosen 14 rfl) (tgt := 55) rfl ?_
        refine R_iinc (v := (v4 + (1 : Int32))) (gxd kX4_chosen 30 rfl) rfl rfl rfl (Nat.le_of_ble_eq_true rfl) rfl ?_
        refine R_goto (gxd kX4_chosen 31 rfl) (tgt := 7) rfl ?_
        exact R_weak (gle_same (gle_same (gle_same (gle_same (gle_same (gle_null gle_nil)))))) (ih _ _ _ _ _  H)
def fS_chosen (v1 : Int32) (h : gH) : Option (Int32 × gH) :=
  fS_chosen_7 v1 gfu (-1 : Int32) (0 : Int32) (0 : Int32) h
theorem fS_chosen_ok {v1 : Int32} {h : gH} {x : (Int32 × gH)} (H : fS_chosen v1 h = some x) (d : Nat) : gC yX4_chosen cX4_chosen 6 (some .int) (d + 2) [.ref 38, .int v1] h (some (.int x.1)) x.2 := by
  refine gC_of (by decide +kernel) (Nat.le_of_ble_eq_true rfl) rfl ?_
  unfold fS_chosen at H
  refine R_iconst (v := (-1 : Int32)) (gxd kX4_chosen 0 rfl) rfl ?_
  refine R_istore_n (gxd kX4_chosen 1 rfl) rfl rfl (Nat.le_of_ble_eq_true rfl) rfl ?_
  refine R_iconst (v := (0 : Int32)) (gxd kX4_chosen 2 rfl) rfl ?_
  refine R_istore_n (gxd kX4_chosen 3 rfl) rfl rfl (Nat.le_of_ble_eq_true rfl) rfl ?_
  refine R_iconst (v := (0 : Int32)) (gxd kX4_chosen 4 rfl) rfl ?_
  refine R_istore (gxd kX4_chosen 5 rfl) rfl (Nat.le_of_ble_eq_true rfl) rfl ?_
  exact R_weak (gle_same (gle_same (gle_same (gle_same (gle_same (gle_null gle_nil)))))) (fS_chosen_7_ok  gfu _ _ _ _ _  H)
def fS_picked (v0 : Int32) (v1 : Int32) (h : gH) : Option (Int32 × gH) :=
  (fJ_bitCount v0 h).bind fun p1 =>
  if v1 = (1 : Int32) then
    (fS_least v0 (p1.1 - (1 : Int32)) p1.2).bind fun p3 =>
    some (p3.1, p3.2)
  else
  if v1 = (2 : Int32) then
    (fS_least v0 (p1.1 / (2 : Int32)) p1.2).bind fun p5 =>
    some (p5.1, p5.2)
  else
    (fS_least v0 (0 : Int32) p1.2).bind fun p7 =>
    some (p7.1, p7.2)
theorem fS_picked_ok {v0 : Int32} {v1 : Int32} {h : gH} {x : (Int32 × gH)} (H : fS_picked v0 v1 h = some x) (d : Nat) : gC yX4_picked cX4_picked 3 (some .int) (d + 1) [.int v0, .int v1] h (some (.int x.1)) x.2 := by
  refine gC_of (by decide +kernel) (Nat.le_of_ble_eq_true rfl) rfl ?_
  unfold fS_picked at H
  refine R_iload_n (gxd kX4_picked 0 rfl) rfl rfl ?_
  obtain ⟨p1, e2, H⟩ := gbi H
  refine R_callSi (gxd kX4_picked 1 rfl) gm_S_126 wJ6_bitCount_0f7a4 (by decide) rfl (Nat.le_of_ble_eq_true rfl) (by omega) (fJ_bitCount_ok  e2 (d + 0)) ?_
  refine R_istore_n (gxd kX4_picked 2 rfl) rfl rfl (Nat.le_of_ble_eq_true rfl) rfl ?_
  refine R_iload_n (gxd kX4_picked 3 rfl) rfl rfl ?_
  by_cases q0 : v1 = (1 : Int32)
  · replace H := gift q0 H
    refine R_lookup (gxd kX4_picked 4 rfl) (off := 26) (tgt := 32) (by decide) (by rw [q0]; decide) rfl ?_
    refine R_iload_n (gxd kX4_picked 5 rfl) rfl rfl ?_
    refine R_iload_n (gxd kX4_picked 6 rfl) rfl rfl ?_
    refine R_iconst (v := (1 : Int32)) (gxd kX4_picked 7 rfl) rfl ?_
    refine R_isub (gxd kX4_picked 8 rfl) ?_
    obtain ⟨p3, e4, H⟩ := gbi H
    refine R_callSi (gxd kX4_picked 9 rfl) gm_S_92 wX4_least (by decide) rfl (Nat.le_of_ble_eq_true rfl) (by omega) (fS_least_ok  e4 (d + 0)) ?_
    cases H
    exact R_iret (gxd kX4_picked 10 rfl) rfl
  replace H := giff q0 H
  by_cases q1 : v1 = (2 : Int32)
  · replace H := gift q1 H
    refine R_lookup (gxd kX4_picked 4 rfl) (off := 34) (tgt := 40) (by decide) (by rw [q1]; decide) rfl ?_
    refine R_iload_n (gxd kX4_picked 11 rfl) rfl rfl ?_
    refine R_iload_n (gxd kX4_picked 12 rfl) rfl rfl ?_
    refine R_iconst (v := (2 : Int32)) (gxd kX4_picked 13 rfl) rfl ?_
    refine R_idiv (gxd kX4_picked 14 rfl) (by decide) ?_
    obtain ⟨p5, e6, H⟩ := gbi H
    refine R_callSi (gxd kX4_picked 15 rfl) gm_S_92 wX4_least (by decide) rfl (Nat.le_of_ble_eq_true rfl) (by omega) (fS_least_ok  e6 (d + 0)) ?_
    cases H
    exact R_iret (gxd kX4_picked 16 rfl) rfl
  replace H := giff q1 H
  refine R_lookup (gxd kX4_picked 4 rfl) (off := 42) (tgt := 48) (by decide) ((lv_osw q0 rfl).trans ((lv_osw q1 rfl).trans (rfl))) rfl ?_
  refine R_iload_n (gxd kX4_picked 17 rfl) rfl rfl ?_
  refine R_iconst (v := (0 : Int32)) (gxd kX4_picked 18 rfl) rfl ?_
  obtain ⟨p7, e8, H⟩ := gbi H
  refine R_callSi (gxd kX4_picked 19 rfl) gm_S_92 wX4_least (by decide) rfl (Nat.le_of_ble_eq_true rfl) (by omega) (fS_least_ok  e8 (d + 0)) ?_
  cases H
  exact R_iret (gxd kX4_picked 20 rfl) rfl
def fS_tryOne (v1 : Int32) (v2 : Int32) (h : gH) : Option (Int32 × gH) :=
  (fS_chosen v1 h).bind fun p1 =>
  if p1.1 = (-1 : Int32) then
    some ((0 : Int32), p1.2)
  else
    if (p1.2 38 9) < (8 : Int32) then
      gg (gin p1.1 9) <|
      (fS_picked (p1.2 29 p1.1.toNatClampNeg) v2 p1.2).bind fun p4 =>
      gg (gin (p4.2 38 9) 8) <|
      glet (hu p4.2 39 (p4.2 38 9).toNatClampNeg p1.1) fun h7 =>
      gg (gin (h7 38 9) 8) <|
      glet (hu h7 40 (h7 38 9).toNatClampNeg ((1 : Int32) <<< (p4.1 &&& 31))) fun h10 =>
      gg (gin (h10 38 9) 8) <|
      glet (hu h10 41 (h10 38 9).toNatClampNeg (h10 28 5)) fun h13 =>
      glet (hu h13 38 9 ((h13 38 9) + (1 : Int32))) fun h15 =>
      glet (hu h15 38 10 ((h15 38 10) + (1 : Int32))) fun h17 =>
      (fH_narrow 28 p1.1 ((1 : Int32) <<< (p4.1 &&& 31)) (100 : Int32) h17).bind fun p19 =>
      some ((1 : Int32), p19.2)
    else
      some ((0 : Int32), p1.2)
theorem fS_tryOne_ok {v1 : Int32} {v2 : Int32} {h : gH} {x : (Int32 × gH)} (H : fS_tryOne v1 v2 h = some x) (d : Nat) : gC yX4_tryOne cX4_tryOne 5 (some .boolean) (d + 3) [.ref 38, .int v1, .int v2] h (some (.int x.1)) x.2 := by
  refine gC_of (by decide +kernel) (Nat.le_of_ble_eq_true rfl) rfl ?_
  unfold fS_tryOne at H
  refine R_aload_n (gxd kX4_tryOne 0 rfl) rfl rfl ?_
  refine R_iload_n (gxd kX4_tryOne 1 rfl) rfl rfl ?_
  obtain ⟨p1, e2, H⟩ := gbi H
  refine R_callVi (gxd kX4_tryOne 2 rfl) gm_S_96 wX4_chosen (by decide) gk_38 rfl rfl (Nat.le_of_ble_eq_true rfl) (by omega) (fS_chosen_ok  e2 (d + 0)) ?_
  refine R_istore_n (gxd kX4_tryOne 3 rfl) rfl rfl (Nat.le_of_ble_eq_true rfl) rfl ?_
  refine R_iload_n (gxd kX4_tryOne 4 rfl) rfl rfl ?_
  refine R_iconst (v := (-1 : Int32)) (gxd kX4_tryOne 5 rfl) rfl ?_
  refine R_icmp_eq (gxd kX4_tryOne 6 rfl) (tgt := 20) rfl (fun q => ?_) (fun q => ?_)
  · replace H := gift q H
    refine R_iconst (v := (0 : Int32)) (gxd kX4_tryOne 11 rfl) rfl ?_
    cases H
    exact R_zret (gxd kX4_tryOne 12 rfl) rfl (Or.inl rfl)
  · replace H := giff q H
    refine R_aload_n (gxd kX4_tryOne 7 rfl) rfl rfl ?_
    refine R_geti (gxd kX4_tryOne 8 rfl) gf_S_42 gk_38 (by decide) rfl ?_
    refine R_bipush (v := (8 : Int32)) (gxd kX4_tryOne 9 rfl) rfl ?_
    refine R_icmp_lt (gxd kX4_tryOne 10 rfl) (tgt := 22) rfl (fun q => ?_) (fun q => ?_)
    · replace H := gift q H
      refine R_iconst (v := (1 : Int32)) (gxd kX4_tryOne 13 rfl) rfl ?_
      refine R_aload_n (gxd kX4_tryOne 14 rfl) rfl rfl ?_
      refine R_getr (gxd kX4_tryOne 15 rfl) gf_S_35 gk_38 (by decide) rfl ?_
      refine R_getr (gxd kX4_tryOne 16 rfl) gf_S_89 gk_28 (by decide) rfl ?_
      refine R_iload_n (gxd kX4_tryOne 17 rfl) rfl rfl ?_
      obtain ⟨b3, H⟩ := ggi H
      have b3 := gin_in b3
      refine R_iald (gxd kX4_tryOne 18 rfl) gk_29 b3 ?_
      refine R_iload_n (gxd kX4_tryOne 19 rfl) rfl rfl ?_
      obtain ⟨p4, e5, H⟩ := gbi H
      refine R_callSi (gxd kX4_tryOne 20 rfl) gm_S_100 wX4_picked (by decide) rfl (Nat.le_of_ble_eq_true rfl) (by omega) (fS_picked_ok  e5 (d + 1)) ?_
      refine R_ishl (gxd kX4_tryOne 21 rfl) ?_
      refine R_istore (gxd kX4_tryOne 22 rfl) rfl (Nat.le_of_ble_eq_true rfl) rfl ?_
      refine R_aload_n (gxd kX4_tryOne 23 rfl) rfl rfl ?_
      refine R_getr (gxd kX4_tryOne 24 rfl) gf_S_9 gk_38 (by decide) rfl ?_
      refine R_aload_n (gxd kX4_tryOne 25 rfl) rfl rfl ?_
      refine R_geti (gxd kX4_tryOne 26 rfl) gf_S_42 gk_38 (by decide) rfl ?_
      refine R_iload_n (gxd kX4_tryOne 27 rfl) rfl rfl ?_
      obtain ⟨b6, H⟩ := ggi H
      have b6 := gin_in b6
      refine R_iast (gxd kX4_tryOne 28 rfl) gk_39 b6 ?_
      obtain ⟨h7, e8, H⟩ := glei H
      refine R_heq e8 ?_
      refine R_aload_n (gxd kX4_tryOne 29 rfl) rfl rfl ?_
      refine R_getr (gxd kX4_tryOne 30 rfl) gf_S_15 gk_38 (by decide) rfl ?_
      refine R_aload_n (gxd kX4_tryOne 31 rfl) rfl rfl ?_
      refine R_geti (gxd kX4_tryOne 32 rfl) gf_S_42 gk_38 (by decide) rfl ?_
      refine R_iload (gxd kX4_tryOne 33 rfl) rfl ?_
      obtain ⟨b9, H⟩ := ggi H
      have b9 := gin_in b9
      refine R_iast (gxd kX4_tryOne 34 rfl) gk_40 b9 ?_
      obtain ⟨h10, e11, H⟩ := glei H
      refine R_heq e11 ?_
      refine R_aload_n (gxd kX4_tryOne 35 rfl) rfl rfl ?_
      refine R_getr (gxd kX4_tryOne 36 rfl) gf_S_18 gk_38 (by decide) rfl ?_
      refine R_aload_n (gxd kX4_tryOne 37 rfl) rfl rfl ?_
      refine R_geti (gxd kX4_tryOne 38 rfl) gf_S_42 gk_38 (by decide) rfl ?_
      refine R_aload_n (gxd kX4_tryOne 39 rfl) rfl rfl ?_
      refine R_getr (gxd kX4_tryOne 40 rfl) gf_S_35 gk_38 (by decide) rfl ?_
      refine R_geti (gxd kX4_tryOne 41 rfl) gf_S_103 gk_28 (by decide) rfl ?_
      obtain ⟨b12, H⟩ := ggi H
      have b12 := gin_in b12
      refine R_iast (gxd kX4_tryOne 42 rfl) gk_41 b12 ?_
      obtain ⟨h13, e14, H⟩ := glei H
      refine R_heq e14 ?_
      refine R_aload_n (gxd kX4_tryOne 43 rfl) rfl rfl ?_
      refine R_dup (gxd kX4_tryOne 44 rfl) rfl ?_
      refine R_geti (gxd kX4_tryOne 45 rfl) gf_S_42 gk_38 (by decide) rfl ?_
      refine R_iconst (v := (1 : Int32)) (gxd kX4_tryOne 46 rfl) rfl ?_
      refine R_iadd (gxd kX4_tryOne 47 rfl) ?_
      refine R_puti (gxd kX4_tryOne 48 rfl) gf_S_42 gp_4_9 gk_38 (by decide) rfl ?_
      obtain ⟨h15, e16, H⟩ := glei H
      refine R_heq e16 ?_
      refine R_aload_n (gxd kX4_tryOne 49 rfl) rfl rfl ?_
      refine R_dup (gxd kX4_tryOne 50 rfl) rfl ?_
      refine R_geti (gxd kX4_tryOne 51 rfl) gf_S_46 gk_38 (by decide) rfl ?_
      refine R_iconst (v := (1 : Int32)) (gxd kX4_tryOne 52 rfl) rfl ?_
      refine R_iadd (gxd kX4_tryOne 53 rfl) ?_
      refine R_puti (gxd kX4_tryOne 54 rfl) gf_S_46 gp_4_10 gk_38 (by decide) rfl ?_
      obtain ⟨h17, e18, H⟩ := glei H
      refine R_heq e18 ?_
      refine R_aload_n (gxd kX4_tryOne 55 rfl) rfl rfl ?_
      refine R_getr (gxd kX4_tryOne 56 rfl) gf_S_35 gk_38 (by decide) rfl ?_
      refine R_iload_n (gxd kX4_tryOne 57 rfl) rfl rfl ?_
      refine R_iload (gxd kX4_tryOne 58 rfl) rfl ?_
      refine R_bipush (v := (100 : Int32)) (gxd kX4_tryOne 59 rfl) rfl ?_
      obtain ⟨p19, e20, H⟩ := gbi H
      refine R_callVi (gxd kX4_tryOne 60 rfl) gm_S_106 wX0_narrow (by decide) gk_28 rfl rfl (Nat.le_of_ble_eq_true rfl) (by omega) (fH_narrow_ok gH28 e20 (d + 1)) ?_
      refine R_pop (gxd kX4_tryOne 61 rfl) rfl ?_
      refine R_iconst (v := (1 : Int32)) (gxd kX4_tryOne 62 rfl) rfl ?_
      cases H
      exact R_zret (gxd kX4_tryOne 63 rfl) rfl (Or.inr rfl)
    · replace H := giff q H
      refine R_iconst (v := (0 : Int32)) (gxd kX4_tryOne 11 rfl) rfl ?_
      cases H
      exact R_zret (gxd kX4_tryOne 12 rfl) rfl (Or.inl rfl)
def fS_turnBack (v1 : Int32) (h : gH) : Option (Int32 × gH) :=
  if (0 : Int32) < (h 38 9) then
    glet (hu h 38 9 ((h 38 9) - (1 : Int32))) fun h1 =>
    gg (gin (h1 38 9) 8) <|
    (fH_takeBack 28 (h1 41 (h1 38 9).toNatClampNeg) h1).bind fun h4 =>
    gg (gin (h4 38 9) 8) <|
    gg (gin (h4 39 (h4 38 9).toNatClampNeg) 9) <|
    gg (gin (h4 38 9) 8) <|
    (fH_narrow 28 (h4 39 (h4 38 9).toNatClampNeg) ((h4 29 (h4 39 (h4 38 9).toNatClampNeg).toNatClampNeg) &&& ((h4 40 (h4 38 9).toNatClampNeg) ^^^ (-1 : Int32))) (100 : Int32) h4).bind fun p9 =>
    if v1 = (-1 : Int32) then
      some ((1 : Int32), p9.2)
    else
      glet (hu p9.2 28 6 ((p9.2 28 6) ||| ((1 : Int32) <<< (v1 &&& 31)))) fun h11 =>
      (fH_wake 28 ((1 : Int32) <<< (v1 &&& 31)) h11).bind fun h13 =>
      some ((1 : Int32), h13)
  else
    some ((0 : Int32), h)
theorem fS_turnBack_ok {v1 : Int32} {h : gH} {x : (Int32 × gH)} (H : fS_turnBack v1 h = some x) (d : Nat) : gC yX4_turnBack cX4_turnBack 3 (some .boolean) (d + 2) [.ref 38, .int v1] h (some (.int x.1)) x.2 := by
  refine gC_of (by decide +kernel) (Nat.le_of_ble_eq_true rfl) rfl ?_
  unfold fS_turnBack at H
  refine R_aload_n (gxd kX4_turnBack 0 rfl) rfl rfl ?_
  refine R_geti (gxd kX4_turnBack 1 rfl) gf_S_42 gk_38 (by decide) rfl ?_
  refine R_if_gt (gxd kX4_turnBack 2 rfl) (tgt := 9) rfl (fun q => ?_) (fun q => ?_)
  · replace H := gift q H
    refine R_aload_n (gxd kX4_turnBack 5 rfl) rfl rfl ?_
    refine R_dup (gxd kX4_turnBack 6 rfl) rfl ?_
    refine R_geti (gxd kX4_turnBack 7 rfl) gf_S_42 gk_38 (by decide) rfl ?_
    refine R_iconst (v := (1 : Int32)) (gxd kX4_turnBack 8 rfl) rfl ?_
    refine R_isub (gxd kX4_turnBack 9 rfl) ?_
    refine R_puti (gxd kX4_turnBack 10 rfl) gf_S_42 gp_4_9 gk_38 (by decide) rfl ?_
    obtain ⟨h1, e2, H⟩ := glei H
    refine R_heq e2 ?_
    refine R_aload_n (gxd kX4_turnBack 11 rfl) rfl rfl ?_
    refine R_getr (gxd kX4_turnBack 12 rfl) gf_S_35 gk_38 (by decide) rfl ?_
    refine R_aload_n (gxd kX4_turnBack 13 rfl) rfl rfl ?_
    refine R_getr (gxd kX4_turnBack 14 rfl) gf_S_18 gk_38 (by decide) rfl ?_
    refine R_aload_n (gxd kX4_turnBack 15 rfl) rfl rfl ?_
    refine R_geti (gxd kX4_turnBack 16 rfl) gf_S_42 gk_38 (by decide) rfl ?_
    obtain ⟨b3, H⟩ := ggi H
    have b3 := gin_in b3
    refine R_iald (gxd kX4_turnBack 17 rfl) gk_41 b3 ?_
    obtain ⟨h4, e5, H⟩ := gbi H
    refine R_callVv (gxd kX4_turnBack 18 rfl) gm_S_110 wX0_takeBack (by decide) gk_28 rfl rfl (Nat.le_of_ble_eq_true rfl) (by omega) (fH_takeBack_ok gH28 e5 (d + 1)) ?_
    refine R_aload_n (gxd kX4_turnBack 19 rfl) rfl rfl ?_
    refine R_getr (gxd kX4_turnBack 20 rfl) gf_S_9 gk_38 (by decide) rfl ?_
    refine R_aload_n (gxd kX4_turnBack 21 rfl) rfl rfl ?_
    refine R_geti (gxd kX4_turnBack 22 rfl) gf_S_42 gk_38 (by decide) rfl ?_
    obtain ⟨b6, H⟩ := ggi H
    have b6 := gin_in b6
    refine R_iald (gxd kX4_turnBack 23 rfl) gk_39 b6 ?_
    refine R_istore_n (gxd kX4_turnBack 24 rfl) rfl rfl (Nat.le_of_ble_eq_true rfl) rfl ?_
    refine R_aload_n (gxd kX4_turnBack 25 rfl) rfl rfl ?_
    refine R_getr (gxd kX4_turnBack 26 rfl) gf_S_35 gk_38 (by decide) rfl ?_
    refine R_iload_n (gxd kX4_turnBack 27 rfl) rfl rfl ?_
    refine R_aload_n (gxd kX4_turnBack 28 rfl) rfl rfl ?_
    refine R_getr (gxd kX4_turnBack 29 rfl) gf_S_35 gk_38 (by decide) rfl ?_
    refine R_getr (gxd kX4_turnBack 30 rfl) gf_S_89 gk_28 (by decide) rfl ?_
    refine R_iload_n (gxd kX4_turnBack 31 rfl) rfl rfl ?_
    obtain ⟨b7, H⟩ := ggi H
    have b7 := gin_in b7
    refine R_iald (gxd kX4_turnBack 32 rfl) gk_29 b7 ?_
    refine R_aload_n (gxd kX4_turnBack 33 rfl) rfl rfl ?_
    refine R_getr (gxd kX4_turnBack 34 rfl) gf_S_15 gk_38 (by decide) rfl ?_
    refine R_aload_n (gxd kX4_turnBack 35 rfl) rfl rfl ?_
    refine R_geti (gxd kX4_turnBack 36 rfl) gf_S_42 gk_38 (by decide) rfl ?_
    obtain ⟨b8, H⟩ := ggi H
    have b8 := gin_in b8
    refine R_iald (gxd kX4_turnBack 37 rfl) gk_40 b8 ?_
    refine R_iconst (v := (-1 : Int32)) (gxd kX4_turnBack 38 rfl) rfl ?_
    refine R_ixor (gxd kX4_turnBack 39 rfl) ?_
    refine R_iand (gxd kX4_turnBack 40 rfl) ?_
    refine R_bipush (v := (100 : Int32)) (gxd kX4_turnBack 41 rfl) rfl ?_
    obtain ⟨p9, e10, H⟩ := gbi H
    refine R_callVi (gxd kX4_turnBack 42 rfl) gm_S_106 wX0_narrow (by decide) gk_28 rfl rfl (Nat.le_of_ble_eq_true rfl) (by omega) (fH_narrow_ok gH28 e10 (d + 0)) ?_
    refine R_pop (gxd kX4_turnBack 43 rfl) rfl ?_
    refine R_iload_n (gxd kX4_turnBack 44 rfl) rfl rfl ?_
    refine R_iconst (v := (-1 : Int32)) (gxd kX4_turnBack 45 rfl) rfl ?_
    refine R_icmp_eq (gxd kX4_turnBack 46 rfl) (tgt := 107) rfl (fun q => ?_) (fun q => ?_)
    · replace H := gift q H
      refine R_iconst (v := (1 : Int32)) (gxd kX4_turnBack 62 rfl) rfl ?_
      cases H
      exact R_zret (gxd kX4_turnBack 63 rfl) rfl (Or.inr rfl)
    · replace H := giff q H
      refine R_aload_n (gxd kX4_turnBack 47 rfl) rfl rfl ?_
      refine R_getr (gxd kX4_turnBack 48 rfl) gf_S_35 gk_38 (by decide) rfl ?_
      refine R_dup (gxd kX4_turnBack 49 rfl) rfl ?_
      refine R_geti (gxd kX4_turnBack 50 rfl) gf_S_114 gk_28 (by decide) rfl ?_
      refine R_iconst (v := (1 : Int32)) (gxd kX4_turnBack 51 rfl) rfl ?_
      refine R_iload_n (gxd kX4_turnBack 52 rfl) rfl rfl ?_
      refine R_ishl (gxd kX4_turnBack 53 rfl) ?_
      refine R_ior (gxd kX4_turnBack 54 rfl) ?_
      refine R_puti (gxd kX4_turnBack 55 rfl) gf_S_114 gp_0_6 gk_28 (by decide) rfl ?_
      obtain ⟨h11, e12, H⟩ := glei H
      refine R_heq e12 ?_
      refine R_aload_n (gxd kX4_turnBack 56 rfl) rfl rfl ?_
      refine R_getr (gxd kX4_turnBack 57 rfl) gf_S_35 gk_38 (by decide) rfl ?_
      refine R_iconst (v := (1 : Int32)) (gxd kX4_turnBack 58 rfl) rfl ?_
      refine R_iload_n (gxd kX4_turnBack 59 rfl) rfl rfl ?_
      refine R_ishl (gxd kX4_turnBack 60 rfl) ?_
      obtain ⟨h13, e14, H⟩ := gbi H
      refine R_callVv (gxd kX4_turnBack 61 rfl) gm_S_117 wX0_wake (by decide) gk_28 rfl rfl (Nat.le_of_ble_eq_true rfl) (by omega) (fH_wake_ok gH28 e14 (d + 1)) ?_
      refine R_iconst (v := (1 : Int32)) (gxd kX4_turnBack 62 rfl) rfl ?_
      cases H
      exact R_zret (gxd kX4_turnBack 63 rfl) rfl (Or.inr rfl)
  · replace H := giff q H
    refine R_iconst (v := (0 : Int32)) (gxd kX4_turnBack 3 rfl) rfl ?_
    cases H
    exact R_zret (gxd kX4_turnBack 4 rfl) rfl (Or.inl rfl)
def fS_go_146 (k39 : Int32 → Int32 → Int32 → gH → Option gH) (v1 : Int32) (v2 : Int32) (v3 : Int32) (v4 : Int32) (v5 : Int32) (v8 : Int32) (s0 : Int32) (h : gH) : Option gH :=
  k39 (0 : Int32) s0 (v8 + (1 : Int32)) h
theorem fS_go_146_ok {d : Nat} {k39 : Int32 → Int32 → Int32 → gH → Option gH} {v1 : Int32} {v2 : Int32} {v3 : Int32} {v4 : Int32} {v5 : Int32} {v8 : Int32} {s0 : Int32} (hk39 : ∀ (u6 : Int32) (u7 : Int32) (u8 : Int32) (h : gH) (x : gH), k39 u6 u7 u8 h = some x → gR RX4 cX4_go 10 none (d + 5) 39 [.ref 38, .int v1, .int v2, .int v3, .int v4, .int v5, .int u6, .int u7, .int u8, .null] [] h none x) {h : gH} {x : gH} (H : fS_go_146 k39 v1 v2 v3 v4 v5 v8 s0 h = some x) : gR RX4 cX4_go 10 none (d + 5) 146 [.ref 38, .int v1, .int v2, .int v3, .int v4, .int v5, .null, .null, .int v8, .null] [.int s0] h none x := by
  unfold fS_go_146 at H
  refine R_istore (gxd kX4_go 75 rfl) rfl (Nat.le_of_ble_eq_true rfl) rfl ?_
  refine R_iconst (v := (0 : Int32)) (gxd kX4_go 76 rfl) rfl ?_
  refine R_istore (gxd kX4_go 77 rfl) rfl (Nat.le_of_ble_eq_true rfl) rfl ?_
  refine R_goto (gxd kX4_go 78 rfl) (tgt := 186) rfl ?_
  refine R_iinc (v := (v8 + (1 : Int32))) (gxd kX4_go 96 rfl) rfl rfl rfl (Nat.le_of_ble_eq_true rfl) rfl ?_
  refine R_goto (gxd kX4_go 97 rfl) (tgt := 39) rfl ?_
  exact R_weak (gle_same (gle_same (gle_same (gle_same (gle_same (gle_same (gle_same (gle_same (gle_same (gle_null gle_nil)))))))))) (hk39 _ _ _ _ _  H)
def fS_go_145 (k39 : Int32 → Int32 → Int32 → gH → Option gH) (v1 : Int32) (v2 : Int32) (v3 : Int32) (v4 : Int32) (v5 : Int32) (v8 : Int32) (h : gH) : Option gH :=
  fS_go_146 k39 v1 v2 v3 v4 v5 v8 (0 : Int32) h
theorem fS_go_145_ok {d : Nat} {k39 : Int32 → Int32 → Int32 → gH → Option gH} {v1 : Int32} {v2 : Int32} {v3 : Int32} {v4 : Int32} {v5 : Int32} {v8 : Int32} (hk39 : ∀ (u6 : Int32) (u7 : Int32) (u8 : Int32) (h : gH) (x : gH), k39 u6 u7 u8 h = some x → gR RX4 cX4_go 10 none (d + 5) 39 [.ref 38, .int v1, .int v2, .int v3, .int v4, .int v5, .int u6, .int u7, .int u8, .null] [] h none x) {h : gH} {x : gH} (H : fS_go_145 k39 v1 v2 v3 v4 v5 v8  h = some x) : gR RX4 cX4_go 10 none (d + 5) 145 [.ref 38, .int v1, .int v2, .int v3, .int v4, .int v5, .null, .null, .int v8, .null] [] h none x := by
  unfold fS_go_145 at H
  refine R_iconst (v := (0 : Int32)) (gxd kX4_go 74 rfl) rfl ?_
  exact R_weak (gle_same (gle_same (gle_same (gle_same (gle_same (gle_same (gle_null (gle_null (gle_same (gle_null gle_nil)))))))))) (fS_go_146_ok hk39  H)
def fS_go_96 (k39 : Int32 → Int32 → Int32 → gH → Option gH) (v1 : Int32) (v2 : Int32) (v3 : Int32) (v4 : Int32) (v5 : Int32) (v8 : Int32) (s0 : Int32) (h : gH) : Option gH :=
  (fS_turnBack s0 h).bind fun p27 =>
  k39 (0 : Int32) p27.1 (v8 + (1 : Int32)) p27.2
theorem fS_go_96_ok {d : Nat} {k39 : Int32 → Int32 → Int32 → gH → Option gH} {v1 : Int32} {v2 : Int32} {v3 : Int32} {v4 : Int32} {v5 : Int32} {v8 : Int32} {s0 : Int32} (hk39 : ∀ (u6 : Int32) (u7 : Int32) (u8 : Int32) (h : gH) (x : gH), k39 u6 u7 u8 h = some x → gR RX4 cX4_go 10 none (d + 5) 39 [.ref 38, .int v1, .int v2, .int v3, .int v4, .int v5, .int u6, .int u7, .int u8, .null] [] h none x) {h : gH} {x : gH} (H : fS_go_96 k39 v1 v2 v3 v4 v5 v8 s0 h = some x) : gR RX4 cX4_go 10 none (d + 5) 96 [.ref 38, .int v1, .int v2, .int v3, .int v4, .int v5, .null, .null, .int v8, .null] [.int s0] h none x := by
  unfold fS_go_96 at H
  refine R_istore (gxd kX4_go 51 rfl) rfl (Nat.le_of_ble_eq_true rfl) rfl ?_
  refine R_aload_n (gxd kX4_go 52 rfl) rfl rfl ?_
  refine R_iload (gxd kX4_go 53 rfl) rfl ?_
  obtain ⟨p27, e28, H⟩ := gbi H
  refine R_callVi (gxd kX4_go 54 rfl) gm_S_75 wX4_turnBack (by decide) gk_38 rfl rfl (Nat.le_of_ble_eq_true rfl) (by omega) (fS_turnBack_ok  e28 (d + 2)) ?_
  refine R_istore (gxd kX4_go 55 rfl) rfl (Nat.le_of_ble_eq_true rfl) rfl ?_
  refine R_iconst (v := (0 : Int32)) (gxd kX4_go 56 rfl) rfl ?_
  refine R_istore (gxd kX4_go 57 rfl) rfl (Nat.le_of_ble_eq_true rfl) rfl ?_
  refine R_goto (gxd kX4_go 58 rfl) (tgt := 186) rfl ?_
  refine R_iinc (v := (v8 + (1 : Int32))) (gxd kX4_go 96 rfl) rfl rfl rfl (Nat.le_of_ble_eq_true rfl) rfl ?_
  refine R_goto (gxd kX4_go 97 rfl) (tgt := 39) rfl ?_
  exact R_weak (gle_same (gle_same (gle_same (gle_same (gle_same (gle_same (gle_same (gle_same (gle_same (gle_null gle_nil)))))))))) (hk39 _ _ _ _ _  H)
def fS_go_95 (k39 : Int32 → Int32 → Int32 → gH → Option gH) (v1 : Int32) (v2 : Int32) (v3 : Int32) (v4 : Int32) (v5 : Int32) (v8 : Int32) (h : gH) : Option gH :=
  fS_go_96 k39 v1 v2 v3 v4 v5 v8 (-1 : Int32) h
theorem fS_go_95_ok {d : Nat} {k39 : Int32 → Int32 → Int32 → gH → Option gH} {v1 : Int32} {v2 : Int32} {v3 : Int32} {v4 : Int32} {v5 : Int32} {v8 : Int32} (hk39 : ∀ (u6 : Int32) (u7 : Int32) (u8 : Int32) (h : gH) (x : gH), k39 u6 u7 u8 h = some x → gR RX4 cX4_go 10 none (d + 5) 39 [.ref 38, .int v1, .int v2, .int v3, .int v4, .int v5, .int u6, .int u7, .int u8, .null] [] h none x) {h : gH} {x : gH} (H : fS_go_95 k39 v1 v2 v3 v4 v5 v8  h = some x) : gR RX4 cX4_go 10 none (d + 5) 95 [.ref 38, .int v1, .int v2, .int v3, .int v4, .int v5, .null, .null, .int v8, .null] [] h none x := by
  unfold fS_go_95 at H
  refine R_iconst (v := (-1 : Int32)) (gxd kX4_go 50 rfl) rfl ?_
  exact R_weak (gle_same (gle_same (gle_same (gle_same (gle_same (gle_same (gle_null (gle_null (gle_same (gle_null gle_nil)))))))))) (fS_go_96_ok hk39  H)
def fS_go_39 (v1 : Int32) (v2 : Int32) (v3 : Int32) (v4 : Int32) (v5 : Int32) : Nat → Int32 → Int32 → Int32 → gH → Option gH
  | 0, _, _, _, _ => none
  | n + 1, v6, v7, v8, h =>
    if v8 < (1000000 : Int32) then
      if v7 = (0 : Int32) then
        some h
      else
        (fH_runAll 28 h).bind fun p13 =>
        if (p13.2 28 9) = (0 : Int32) then
          (fH_howManySettled 28 p13.2).bind fun p15 =>
          if p15.1 = (8 : Int32) then
            (fS_keepSolution p15.2).bind fun h21 =>
            if v5 = (0 : Int32) then
              fS_go_145 (fS_go_39 v1 v2 v3 v4 v5 n) v1 v2 v3 v4 v5 v8 h21
            else
              (fS_turnBack (-1 : Int32) h21).bind fun p23 =>
              if p23.1 = (0 : Int32) then
                fS_go_145 (fS_go_39 v1 v2 v3 v4 v5 n) v1 v2 v3 v4 v5 v8 p23.2
              else
                fS_go_146 (fS_go_39 v1 v2 v3 v4 v5 n) v1 v2 v3 v4 v5 v8 (1 : Int32) p23.2
          else
            if (p15.2 38 10) < v4 then
              (fS_tryOne v1 v2 p15.2).bind fun p17 =>
              fS_go_39 v1 v2 v3 v4 v5 n p17.1 p17.1 (v8 + (1 : Int32)) p17.2
            else
              glet (hu p15.2 38 14 (1 : Int32)) fun h19 =>
              fS_go_39 v1 v2 v3 v4 v5 n v6 (0 : Int32) (v8 + (1 : Int32)) h19
        else
          glet (hu p13.2 38 11 ((p13.2 38 11) + (1 : Int32))) fun h25 =>
          if v3 = (0 : Int32) then
            fS_go_95 (fS_go_39 v1 v2 v3 v4 v5 n) v1 v2 v3 v4 v5 v8 h25
          else
            if v6 = (0 : Int32) then
              fS_go_95 (fS_go_39 v1 v2 v3 v4 v5 n) v1 v2 v3 v4 v5 v8 h25
            else
              (fS_learnFromTries h25).bind fun p29 =>
              fS_go_96 (fS_go_39 v1 v2 v3 v4 v5 n) v1 v2 v3 v4 v5 v8 p29.1 p29.2
    else
      some h
theorem fS_go_39_ok {d : Nat} {v1 : Int32} {v2 : Int32} {v3 : Int32} {v4 : Int32} {v5 : Int32}  : ∀ (n : Nat) (v6 : Int32) (v7 : Int32) (v8 : Int32) (h : gH) (x : gH), fS_go_39 v1 v2 v3 v4 v5 n v6 v7 v8 h = some x → gR RX4 cX4_go 10 none (d + 5) 39 [.ref 38, .int v1, .int v2, .int v3, .int v4, .int v5, .int v6, .int v7, .int v8, .null] [] h none x := by
  intro n
  induction n with
  | zero => intro v6 v7 v8 h x  H; exact g0 H
  | succ n ih =>
    intro v6 v7 v8 h x  H
    unfold fS_go_39 at H
    refine R_iload (gxd kX4_go 24 rfl) rfl ?_
    refine R_ldc (v := (1000000 : Int32)) (gxd kX4_go 25 rfl) gc_S_62 ?_
    refine R_icmp_ge (gxd kX4_go 26 rfl) (tgt := 192) rfl (fun q => ?_) (fun q => ?_)
    · replace H := giff q H
      cases H
      exact R_vret (gxd kX4_go 98 rfl) rfl
    · replace H := gift q H
      refine R_iload (gxd kX4_go 27 rfl) rfl ?_
      refine R_if_eq (gxd kX4_go 28 rfl) (tgt := 192) rfl (fun q => ?_) (fun q => ?_)
      · replace H := gift q H
        cases H
        exact R_vret (gxd kX4_go 98 rfl) rfl
      · replace H := giff q H
        refine R_aload_n (gxd kX4_go 29 rfl) rfl rfl ?_
        refine R_getr (gxd kX4_go 30 rfl) gf_S_35 gk_38 (by decide) rfl ?_
        obtain ⟨p13, e14, H⟩ := gbi H
        refine R_callVi (gxd kX4_go 31 rfl) gm_S_63 wX0_runAll (by decide) gk_28 rfl rfl (Nat.le_of_ble_eq_true rfl) (by omega) (fH_runAll_ok gH28 e14 (d + 1)) ?_
        refine R_pop (gxd kX4_go 32 rfl) rfl ?_
        refine R_aload_n (gxd kX4_go 33 rfl) rfl rfl ?_
        refine R_getr (gxd kX4_go 34 rfl) gf_S_35 gk_38 (by decide) rfl ?_
        refine R_geti (gxd kX4_go 35 rfl) gf_S_69 gk_28 (by decide) rfl ?_
        refine R_if_eq (gxd kX4_go 36 rfl) (tgt := 112) rfl (fun q => ?_) (fun q => ?_)
        · replace H := gift q H
          refine R_aload_n (gxd kX4_go 59 rfl) rfl rfl ?_
          refine R_getr (gxd kX4_go 60 rfl) gf_S_35 gk_38 (by decide) rfl ?_
          obtain ⟨p15, e16, H⟩ := gbi H
          refine R_callVi (gxd kX4_go 61 rfl) gm_S_79 wX0_howManySettled (by decide) gk_28 rfl rfl (Nat.le_of_ble_eq_true rfl) (by omega) (fH_howManySettled_ok gH28 e16 (d + 2)) ?_
          refine R_bipush (v := (8 : Int32)) (gxd kX4_go 62 rfl) rfl ?_
          refine R_icmp_ne (gxd kX4_go 63 rfl) (tgt := 154) rfl (fun q => ?_) (fun q => ?_)
          · replace H := giff q H
            refine R_aload_n (gxd kX4_go 79 rfl) rfl rfl ?_
            refine R_geti (gxd kX4_go 80 rfl) gf_S_46 gk_38 (by decide) rfl ?_
            refine R_iload (gxd kX4_go 81 rfl) rfl ?_
            refine R_icmp_lt (gxd kX4_go 82 rfl) (tgt := 174) rfl (fun q => ?_) (fun q => ?_)
            · replace H := gift q H
              refine R_aload_n (gxd kX4_go 89 rfl) rfl rfl ?_
              refine R_iload_n (gxd kX4_go 90 rfl) rfl rfl ?_
              refine R_iload_n (gxd kX4_go 91 rfl) rfl rfl ?_
              obtain ⟨p17, e18, H⟩ := gbi H
              refine R_callVi (gxd kX4_go 92 rfl) gm_S_85 wX4_tryOne (by decide) gk_38 rfl rfl (Nat.le_of_ble_eq_true rfl) (by omega) (fS_tryOne_ok  e18 (d + 1)) ?_
              refine R_istore (gxd kX4_go 93 rfl) rfl (Nat.le_of_ble_eq_true rfl) rfl ?_
              refine R_iload (gxd kX4_go 94 rfl) rfl ?_
              refine R_istore (gxd kX4_go 95 rfl) rfl (Nat.le_of_ble_eq_true rfl) rfl ?_
              refine R_iinc (v := (v8 + (1 : Int32))) (gxd kX4_go 96 rfl) rfl rfl rfl (Nat.le_of_ble_eq_true rfl) rfl ?_
              refine R_goto (gxd kX4_go 97 rfl) (tgt := 39) rfl ?_
              exact R_weak (gle_same (gle_same (gle_same (gle_same (gle_same (gle_same (gle_same (gle_same (gle_same (gle_null gle_nil)))))))))) (ih _ _ _ _ _  H)
            · replace H := giff q H
              refine R_aload_n (gxd kX4_go 83 rfl) rfl rfl ?_
              refine R_iconst (v := (1 : Int32)) (gxd kX4_go 84 rfl) rfl ?_
              refine R_putz (gxd kX4_go 85 rfl) gf_S_58 gp_4_14 (Or.inr rfl) gk_38 (by decide) rfl ?_
              obtain ⟨h19, e20, H⟩ := glei H
              refine R_heq e20 ?_
              refine R_iconst (v := (0 : Int32)) (gxd kX4_go 86 rfl) rfl ?_
              refine R_istore (gxd kX4_go 87 rfl) rfl (Nat.le_of_ble_eq_true rfl) rfl ?_
              refine R_goto (gxd kX4_go 88 rfl) (tgt := 186) rfl ?_
              refine R_iinc (v := (v8 + (1 : Int32))) (gxd kX4_go 96 rfl) rfl rfl rfl (Nat.le_of_ble_eq_true rfl) rfl ?_
              refine R_goto (gxd kX4_go 97 rfl) (tgt := 39) rfl ?_
              exact R_weak (gle_same (gle_same (gle_same (gle_same (gle_same (gle_same (gle_same (gle_same (gle_same (gle_null gle_nil)))))))))) (ih _ _ _ _ _  H)
          · replace H := gift q H
            refine R_aload_n (gxd kX4_go 64 rfl) rfl rfl ?_
            obtain ⟨h21, e22, H⟩ := gbi H
            refine R_callVv (gxd kX4_go 65 rfl) gm_S_82 wX4_keepSolution (by decide) gk_38 rfl rfl (Nat.le_of_ble_eq_true rfl) (by omega) (fS_keepSolution_ok  e22 (d + 3)) ?_
            refine R_iload (gxd kX4_go 66 rfl) rfl ?_
            refine R_if_eq (gxd kX4_go 67 rfl) (tgt := 145) rfl (fun q => ?_) (fun q => ?_)
            · replace H := gift q H
              exact R_weak (gle_same (gle_same (gle_same (gle_same (gle_same (gle_same (gle_null (gle_null (gle_same (gle_null gle_nil)))))))))) (fS_go_145_ok ih  H)
            · replace H := giff q H
              refine R_aload_n (gxd kX4_go 68 rfl) rfl rfl ?_
              refine R_iconst (v := (-1 : Int32)) (gxd kX4_go 69 rfl) rfl ?_
              obtain ⟨p23, e24, H⟩ := gbi H
              refine R_callVi (gxd kX4_go 70 rfl) gm_S_75 wX4_turnBack (by decide) gk_38 rfl rfl (Nat.le_of_ble_eq_true rfl) (by omega) (fS_turnBack_ok  e24 (d + 2)) ?_
              refine R_if_eq (gxd kX4_go 71 rfl) (tgt := 145) rfl (fun q => ?_) (fun q => ?_)
              · replace H := gift q H
                exact R_weak (gle_same (gle_same (gle_same (gle_same (gle_same (gle_same (gle_null (gle_null (gle_same (gle_null gle_nil)))))))))) (fS_go_145_ok ih  H)
              · replace H := giff q H
                refine R_iconst (v := (1 : Int32)) (gxd kX4_go 72 rfl) rfl ?_
                refine R_goto (gxd kX4_go 73 rfl) (tgt := 146) rfl ?_
                exact R_weak (gle_same (gle_same (gle_same (gle_same (gle_same (gle_same (gle_null (gle_null (gle_same (gle_null gle_nil)))))))))) (fS_go_146_ok ih  H)
        · replace H := giff q H
          refine R_aload_n (gxd kX4_go 37 rfl) rfl rfl ?_
          refine R_dup (gxd kX4_go 38 rfl) rfl ?_
          refine R_geti (gxd kX4_go 39 rfl) gf_S_49 gk_38 (by decide) rfl ?_
          refine R_iconst (v := (1 : Int32)) (gxd kX4_go 40 rfl) rfl ?_
          refine R_iadd (gxd kX4_go 41 rfl) ?_
          refine R_puti (gxd kX4_go 42 rfl) gf_S_49 gp_4_11 gk_38 (by decide) rfl ?_
          obtain ⟨h25, e26, H⟩ := glei H
          refine R_heq e26 ?_
          refine R_iload_n (gxd kX4_go 43 rfl) rfl rfl ?_
          refine R_if_eq (gxd kX4_go 44 rfl) (tgt := 95) rfl (fun q => ?_) (fun q => ?_)
          · replace H := gift q H
            exact R_weak (gle_same (gle_same (gle_same (gle_same (gle_same (gle_same (gle_null (gle_null (gle_same (gle_null gle_nil)))))))))) (fS_go_95_ok ih  H)
          · replace H := giff q H
            refine R_iload (gxd kX4_go 45 rfl) rfl ?_
            refine R_if_eq (gxd kX4_go 46 rfl) (tgt := 95) rfl (fun q => ?_) (fun q => ?_)
            · replace H := gift q H
              exact R_weak (gle_same (gle_same (gle_same (gle_same (gle_same (gle_same (gle_null (gle_null (gle_same (gle_null gle_nil)))))))))) (fS_go_95_ok ih  H)
            · replace H := giff q H
              refine R_aload_n (gxd kX4_go 47 rfl) rfl rfl ?_
              obtain ⟨p29, e30, H⟩ := gbi H
              refine R_callVi (gxd kX4_go 48 rfl) gm_S_72 wX4_learnFromTries (by decide) gk_38 rfl rfl (Nat.le_of_ble_eq_true rfl) (by omega) (fS_learnFromTries_ok  e30 (d + 0)) ?_
              refine R_goto (gxd kX4_go 49 rfl) (tgt := 96) rfl ?_
              exact R_weak (gle_same (gle_same (gle_same (gle_same (gle_same (gle_same (gle_null (gle_null (gle_same (gle_null gle_nil)))))))))) (fS_go_96_ok ih  H)
def fS_go (v1 : Int32) (v2 : Int32) (v3 : Int32) (v4 : Int32) (v5 : Int32) (h : gH) : Option gH :=
  glet (hu h 38 9 (0 : Int32)) fun h1 =>
  glet (hu h1 38 10 (0 : Int32)) fun h3 =>
  glet (hu h3 38 11 (0 : Int32)) fun h5 =>
  glet (hu h5 38 12 (0 : Int32)) fun h7 =>
  glet (hu h7 38 13 (0 : Int32)) fun h9 =>
  glet (hu h9 38 14 (0 : Int32)) fun h11 =>
  fS_go_39 v1 v2 v3 v4 v5 gfu (0 : Int32) (1 : Int32) (0 : Int32) h11
theorem fS_go_ok {v1 : Int32} {v2 : Int32} {v3 : Int32} {v4 : Int32} {v5 : Int32} {h : gH} {x : gH} (H : fS_go v1 v2 v3 v4 v5 h = some x) (d : Nat) : gC yX4_go cX4_go 10 none (d + 5) [.ref 38, .int v1, .int v2, .int v3, .int v4, .int v5] h none x := by
  refine gC_of (by decide +kernel) (Nat.le_of_ble_eq_true rfl) rfl ?_
  unfold fS_go at H
  refine R_aload_n (gxd kX4_go 0 rfl) rfl rfl ?_
  refine R_iconst (v := (0 : Int32)) (gxd kX4_go 1 rfl) rfl ?_
  refine R_puti (gxd kX4_go 2 rfl) gf_S_42 gp_4_9 gk_38 (by decide) rfl ?_
  obtain ⟨h1, e2, H⟩ := glei H
  refine R_heq e2 ?_
  refine R_aload_n (gxd kX4_go 3 rfl) rfl rfl ?_
  refine R_iconst (v := (0 : Int32)) (gxd kX4_go 4 rfl) rfl ?_
  refine R_puti (gxd kX4_go 5 rfl) gf_S_46 gp_4_10 gk_38 (by decide) rfl ?_
  obtain ⟨h3, e4, H⟩ := glei H
  refine R_heq e4 ?_
  refine R_aload_n (gxd kX4_go 6 rfl) rfl rfl ?_
  refine R_iconst (v := (0 : Int32)) (gxd kX4_go 7 rfl) rfl ?_
  refine R_puti (gxd kX4_go 8 rfl) gf_S_49 gp_4_11 gk_38 (by decide) rfl ?_
  obtain ⟨h5, e6, H⟩ := glei H
  refine R_heq e6 ?_
  refine R_aload_n (gxd kX4_go 9 rfl) rfl rfl ?_
  refine R_iconst (v := (0 : Int32)) (gxd kX4_go 10 rfl) rfl ?_
  refine R_puti (gxd kX4_go 11 rfl) gf_S_52 gp_4_12 gk_38 (by decide) rfl ?_
  obtain ⟨h7, e8, H⟩ := glei H
  refine R_heq e8 ?_
  refine R_aload_n (gxd kX4_go 12 rfl) rfl rfl ?_
  refine R_iconst (v := (0 : Int32)) (gxd kX4_go 13 rfl) rfl ?_
  refine R_puti (gxd kX4_go 14 rfl) gf_S_55 gp_4_13 gk_38 (by decide) rfl ?_
  obtain ⟨h9, e10, H⟩ := glei H
  refine R_heq e10 ?_
  refine R_aload_n (gxd kX4_go 15 rfl) rfl rfl ?_
  refine R_iconst (v := (0 : Int32)) (gxd kX4_go 16 rfl) rfl ?_
  refine R_putz (gxd kX4_go 17 rfl) gf_S_58 gp_4_14 (Or.inl rfl) gk_38 (by decide) rfl ?_
  obtain ⟨h11, e12, H⟩ := glei H
  refine R_heq e12 ?_
  refine R_iconst (v := (0 : Int32)) (gxd kX4_go 18 rfl) rfl ?_
  refine R_istore (gxd kX4_go 19 rfl) rfl (Nat.le_of_ble_eq_true rfl) rfl ?_
  refine R_iconst (v := (1 : Int32)) (gxd kX4_go 20 rfl) rfl ?_
  refine R_istore (gxd kX4_go 21 rfl) rfl (Nat.le_of_ble_eq_true rfl) rfl ?_
  refine R_iconst (v := (0 : Int32)) (gxd kX4_go 22 rfl) rfl ?_
  refine R_istore (gxd kX4_go 23 rfl) rfl (Nat.le_of_ble_eq_true rfl) rfl ?_
  exact R_weak (gle_same (gle_same (gle_same (gle_same (gle_same (gle_same (gle_same (gle_same (gle_same (gle_null gle_nil)))))))))) (fS_go_39_ok  gfu _ _ _ _ _  H)
def fS_digits_4 : Nat → Int32 → Int32 → gH → Option (Int32 × gH)
  | 0, _, _, _ => none
  | n + 1, v1, v2, h =>
    if v2 < (8 : Int32) then
      gg (gin v2 8) <|
      fS_digits_4 n ((v1 * (10 : Int32)) + (h 43 v2.toNatClampNeg)) (v2 + (1 : Int32)) h
    else
      some (v1, h)
theorem fS_digits_4_ok {d : Nat}  : ∀ (n : Nat) (v1 : Int32) (v2 : Int32) (h : gH) (x : (Int32 × gH)), fS_digits_4  n v1 v2 h = some x → gR RX4 cX4_digits 3 (some .int) (d + 0) 4 [.ref 38, .int v1, .int v2] [] h (some (.int x.1)) x.2 := by
  intro n
  induction n with
  | zero => intro v1 v2 h x  H; exact g0 H
  | succ n ih =>
    intro v1 v2 h x  H
    unfold fS_digits_4 at H
    refine R_iload_n (gxd kX4_digits 4 rfl) rfl rfl ?_
    refine R_bipush (v := (8 : Int32)) (gxd kX4_digits 5 rfl) rfl ?_
    refine R_icmp_ge (gxd kX4_digits 6 rfl) (tgt := 28) rfl (fun q => ?_) (fun q => ?_)
    · replace H := giff q H
      refine R_iload_n (gxd kX4_digits 18 rfl) rfl rfl ?_
      cases H
      exact R_iret (gxd kX4_digits 19 rfl) rfl
    · replace H := gift q H
      refine R_iload_n (gxd kX4_digits 7 rfl) rfl rfl ?_
      refine R_bipush (v := (10 : Int32)) (gxd kX4_digits 8 rfl) rfl ?_
      refine R_imul (gxd kX4_digits 9 rfl) ?_
      refine R_aload_n (gxd kX4_digits 10 rfl) rfl rfl ?_
      refine R_getr (gxd kX4_digits 11 rfl) gf_S_24 gk_38 (by decide) rfl ?_
      refine R_iload_n (gxd kX4_digits 12 rfl) rfl rfl ?_
      obtain ⟨b1, H⟩ := ggi H
      have b1 := gin_in b1
      refine R_iald (gxd kX4_digits 13 rfl) gk_43 b1 ?_
      refine R_iadd (gxd kX4_digits 14 rfl) ?_
      refine R_istore_n (gxd kX4_digits 15 rfl) rfl rfl (Nat.le_of_ble_eq_true rfl) rfl ?_
      refine R_iinc (v := (v2 + (1 : Int32))) (gxd kX4_digits 16 rfl) rfl rfl rfl (Nat.le_of_ble_eq_true rfl) rfl ?_
      refine R_goto (gxd kX4_digits 17 rfl) (tgt := 4) rfl ?_
      exact R_weak (gle_same (gle_same (gle_same gle_nil))) (ih _ _ _ _  H)
def fS_digits (h : gH) : Option (Int32 × gH) :=
  fS_digits_4 gfu (0 : Int32) (0 : Int32) h
theorem fS_digits_ok {h : gH} {x : (Int32 × gH)} (H : fS_digits  h = some x) (d : Nat) : gC yX4_digits cX4_digits 3 (some .int) (d + 0) [.ref 38] h (some (.int x.1)) x.2 := by
  refine gC_of (by decide +kernel) (Nat.le_of_ble_eq_true rfl) rfl ?_
  unfold fS_digits at H
  refine R_iconst (v := (0 : Int32)) (gxd kX4_digits 0 rfl) rfl ?_
  refine R_istore_n (gxd kX4_digits 1 rfl) rfl rfl (Nat.le_of_ble_eq_true rfl) rfl ?_
  refine R_iconst (v := (0 : Int32)) (gxd kX4_digits 2 rfl) rfl ?_
  refine R_istore_n (gxd kX4_digits 3 rfl) rfl rfl (Nat.le_of_ble_eq_true rfl) rfl ?_
  exact R_weak (gle_same (gle_same (gle_same gle_nil))) (fS_digits_4_ok  gfu _ _ _ _  H)
