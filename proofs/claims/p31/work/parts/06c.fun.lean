def fT_accept (v1 : Int32) (h : gH) : Option (Int32 × gH) :=
  if (h 10 6) < (90 : Int32) then
    gg (gin (h 10 6) 90) <|
    glet (hu h 11 (h 10 6).toNatClampNeg v1) fun h2 =>
    glet (hu h2 10 6 ((h2 10 6) + (1 : Int32))) fun h4 =>
    some ((1 : Int32), h4)
  else
    some ((0 : Int32), h)
theorem fT_accept_ok {v1 : Int32} {h : gH} {x : (Int32 × gH)} (H : fT_accept v1 h = some x) (d : Nat) : gC yX2_accept cX2_accept 2 (some .boolean) (d + 0) [.ref 10, .int v1] h (some (.int x.1)) x.2 := by
  refine gC_of (by decide +kernel) (Nat.le_of_ble_eq_true rfl) rfl ?_
  unfold fT_accept at H
  refine R_aload_n (gxd kX2_accept 0 rfl) rfl rfl ?_
  refine R_geti (gxd kX2_accept 1 rfl) gf_T_30 gk_10 (by decide) rfl ?_
  refine R_bipush (v := (90 : Int32)) (gxd kX2_accept 2 rfl) rfl ?_
  refine R_icmp_lt (gxd kX2_accept 3 rfl) (tgt := 11) rfl (fun q => ?_) (fun q => ?_)
  · replace H := gift q H
    refine R_aload_n (gxd kX2_accept 6 rfl) rfl rfl ?_
    refine R_getr (gxd kX2_accept 7 rfl) gf_T_11 gk_10 (by decide) rfl ?_
    refine R_aload_n (gxd kX2_accept 8 rfl) rfl rfl ?_
    refine R_geti (gxd kX2_accept 9 rfl) gf_T_30 gk_10 (by decide) rfl ?_
    refine R_iload_n (gxd kX2_accept 10 rfl) rfl rfl ?_
    obtain ⟨b1, H⟩ := ggi H
    have b1 := gin_in b1
    refine R_iast (gxd kX2_accept 11 rfl) gk_11 b1 ?_
    obtain ⟨h2, e3, H⟩ := glei H
    refine R_heq e3 ?_
    refine R_aload_n (gxd kX2_accept 12 rfl) rfl rfl ?_
    refine R_dup (gxd kX2_accept 13 rfl) rfl ?_
    refine R_geti (gxd kX2_accept 14 rfl) gf_T_30 gk_10 (by decide) rfl ?_
    refine R_iconst (v := (1 : Int32)) (gxd kX2_accept 15 rfl) rfl ?_
    refine R_iadd (gxd kX2_accept 16 rfl) ?_
    refine R_puti (gxd kX2_accept 17 rfl) gf_T_30 gp_2_6 gk_10 (by decide) rfl ?_
    obtain ⟨h4, e5, H⟩ := glei H
    refine R_heq e5 ?_
    refine R_iconst (v := (1 : Int32)) (gxd kX2_accept 18 rfl) rfl ?_
    cases H
    exact R_zret (gxd kX2_accept 19 rfl) rfl (Or.inr rfl)
  · replace H := giff q H
    refine R_iconst (v := (0 : Int32)) (gxd kX2_accept 4 rfl) rfl ?_
    cases H
    exact R_zret (gxd kX2_accept 5 rfl) rfl (Or.inl rfl)
def fT_pass (h : gH) : Option gH :=
  if (h 10 8) < ((h 10 7) - (1 : Int32)) then
    some (hu h 10 8 ((h 10 8) + (1 : Int32)))
  else
    some h
theorem fT_pass_ok {h : gH} {x : gH} (H : fT_pass  h = some x) (d : Nat) : gC yX2_pass cX2_pass 1 none (d + 0) [.ref 10] h none x := by
  refine gC_of (by decide +kernel) (Nat.le_of_ble_eq_true rfl) rfl ?_
  unfold fT_pass at H
  refine R_aload_n (gxd kX2_pass 0 rfl) rfl rfl ?_
  refine R_geti (gxd kX2_pass 1 rfl) gf_T_37 gk_10 (by decide) rfl ?_
  refine R_aload_n (gxd kX2_pass 2 rfl) rfl rfl ?_
  refine R_geti (gxd kX2_pass 3 rfl) gf_T_57 gk_10 (by decide) rfl ?_
  refine R_iconst (v := (1 : Int32)) (gxd kX2_pass 4 rfl) rfl ?_
  refine R_isub (gxd kX2_pass 5 rfl) ?_
  refine R_icmp_ge (gxd kX2_pass 6 rfl) (tgt := 23) rfl (fun q => ?_) (fun q => ?_)
  · replace H := giff q H
    cases H
    exact R_vret (gxd kX2_pass 13 rfl) rfl
  · replace H := gift q H
    refine R_aload_n (gxd kX2_pass 7 rfl) rfl rfl ?_
    refine R_dup (gxd kX2_pass 8 rfl) rfl ?_
    refine R_geti (gxd kX2_pass 9 rfl) gf_T_37 gk_10 (by decide) rfl ?_
    refine R_iconst (v := (1 : Int32)) (gxd kX2_pass 10 rfl) rfl ?_
    refine R_iadd (gxd kX2_pass 11 rfl) ?_
    refine R_puti (gxd kX2_pass 12 rfl) gf_T_37 gp_2_8 gk_10 (by decide) rfl ?_
    cases H
    exact R_vret (gxd kX2_pass 13 rfl) rfl
def fT_token (h : gH) : Option (Int32 × gH) :=
  gg (gin (h 10 8) 91) <|
  some ((h 12 (h 10 8).toNatClampNeg), h)
theorem fT_token_ok {h : gH} {x : (Int32 × gH)} (H : fT_token  h = some x) (d : Nat) : gC yX2_token cX2_token 1 (some .int) (d + 0) [.ref 10] h (some (.int x.1)) x.2 := by
  refine gC_of (by decide +kernel) (Nat.le_of_ble_eq_true rfl) rfl ?_
  unfold fT_token at H
  refine R_aload_n (gxd kX2_token 0 rfl) rfl rfl ?_
  refine R_getr (gxd kX2_token 1 rfl) gf_T_15 gk_10 (by decide) rfl ?_
  refine R_aload_n (gxd kX2_token 2 rfl) rfl rfl ?_
  refine R_geti (gxd kX2_token 3 rfl) gf_T_37 gk_10 (by decide) rfl ?_
  obtain ⟨b1, H⟩ := ggi H
  have b1 := gin_in b1
  refine R_iald (gxd kX2_token 4 rfl) gk_12 b1 ?_
  cases H
  exact R_iret (gxd kX2_token 5 rfl) rfl
def fT_distinct_44 (v1 : Int32) (h : gH) : Option (Int32 × gH) :=
  if v1 = (2 : Int32) then
    (fT_token h).bind fun p7 =>
    if p7.1 = (0 : Int32) then
      some ((1 : Int32), p7.2)
    else
      some ((0 : Int32), p7.2)
  else
    some ((0 : Int32), h)
theorem fT_distinct_44_ok {d : Nat} {v1 : Int32}  {h : gH} {x : (Int32 × gH)} (H : fT_distinct_44 v1  h = some x) : gR RX2 cX2_distinct 2 (some .boolean) (d + 1) 44 [.ref 10, .int v1] [] h (some (.int x.1)) x.2 := by
  unfold fT_distinct_44 at H
  refine R_iload_n (gxd kX2_distinct 26 rfl) rfl rfl ?_
  refine R_iconst (v := (2 : Int32)) (gxd kX2_distinct 27 rfl) rfl ?_
  refine R_icmp_ne (gxd kX2_distinct 28 rfl) (tgt := 60) rfl (fun q => ?_) (fun q => ?_)
  · replace H := giff q H
    refine R_iconst (v := (0 : Int32)) (gxd kX2_distinct 34 rfl) rfl ?_
    cases H
    exact R_zret (gxd kX2_distinct 35 rfl) rfl (Or.inl rfl)
  · replace H := gift q H
    refine R_aload_n (gxd kX2_distinct 29 rfl) rfl rfl ?_
    obtain ⟨p7, e8, H⟩ := gbi H
    refine R_callVi (gxd kX2_distinct 30 rfl) gm_T_46 wX2_token (by decide) gk_10 rfl rfl (Nat.le_of_ble_eq_true rfl) (by omega) (fT_token_ok  e8 (d + 0)) ?_
    refine R_if_ne (gxd kX2_distinct 31 rfl) (tgt := 60) rfl (fun q => ?_) (fun q => ?_)
    · replace H := giff q H
      refine R_iconst (v := (0 : Int32)) (gxd kX2_distinct 34 rfl) rfl ?_
      cases H
      exact R_zret (gxd kX2_distinct 35 rfl) rfl (Or.inl rfl)
    · replace H := gift q H
      refine R_iconst (v := (1 : Int32)) (gxd kX2_distinct 32 rfl) rfl ?_
      refine R_goto (gxd kX2_distinct 33 rfl) (tgt := 61) rfl ?_
      cases H
      exact R_zret (gxd kX2_distinct 35 rfl) rfl (Or.inr rfl)
def fT_distinct_11 : Nat → Int32 → gH → Option (Int32 × gH)
  | 0, _, _ => none
  | n + 1, v1, h =>
    if v1 < (3 : Int32) then
      (fT_token h).bind fun p5 =>
      if p5.1 = (2 : Int32) then
        gg (gin (p5.2 10 8) 91) <|
        if (((p5.2 10 11) >>> ((p5.2 14 (p5.2 10 8).toNatClampNeg) &&& 31)) &&& (1 : Int32)) = (1 : Int32) then
          fT_distinct_44 v1 p5.2
        else
          gg (gin (p5.2 10 8) 91) <|
          glet (hu p5.2 10 11 ((p5.2 10 11) ||| ((1 : Int32) <<< ((p5.2 14 (p5.2 10 8).toNatClampNeg) &&& 31)))) fun h11 =>
          (fT_pass h11).bind fun h13 =>
          fT_distinct_11 n (v1 + (1 : Int32)) h13
      else
        fT_distinct_44 v1 p5.2
    else
      some ((1 : Int32), h)
theorem fT_distinct_11_ok {d : Nat}  : ∀ (n : Nat) (v1 : Int32) (h : gH) (x : (Int32 × gH)), fT_distinct_11  n v1 h = some x → gR RX2 cX2_distinct 2 (some .boolean) (d + 1) 11 [.ref 10, .int v1] [] h (some (.int x.1)) x.2 := by
  intro n
  induction n with
  | zero => intro v1 h x  H; exact g0 H
  | succ n ih =>
    intro v1 h x  H
    unfold fT_distinct_11 at H
    refine R_iload_n (gxd kX2_distinct 7 rfl) rfl rfl ?_
    refine R_iconst (v := (3 : Int32)) (gxd kX2_distinct 8 rfl) rfl ?_
    refine R_icmp_ge (gxd kX2_distinct 9 rfl) (tgt := 92) rfl (fun q => ?_) (fun q => ?_)
    · replace H := giff q H
      refine R_iconst (v := (1 : Int32)) (gxd kX2_distinct 52 rfl) rfl ?_
      cases H
      exact R_zret (gxd kX2_distinct 53 rfl) rfl (Or.inr rfl)
    · replace H := gift q H
      refine R_aload_n (gxd kX2_distinct 10 rfl) rfl rfl ?_
      obtain ⟨p5, e6, H⟩ := gbi H
      refine R_callVi (gxd kX2_distinct 11 rfl) gm_T_46 wX2_token (by decide) gk_10 rfl rfl (Nat.le_of_ble_eq_true rfl) (by omega) (fT_token_ok  e6 (d + 0)) ?_
      refine R_iconst (v := (2 : Int32)) (gxd kX2_distinct 12 rfl) rfl ?_
      refine R_icmp_ne (gxd kX2_distinct 13 rfl) (tgt := 44) rfl (fun q => ?_) (fun q => ?_)
      · replace H := giff q H
        exact R_weak (gle_same (gle_same gle_nil)) (fT_distinct_44_ok  H)
      · replace H := gift q H
        refine R_aload_n (gxd kX2_distinct 14 rfl) rfl rfl ?_
        refine R_geti (gxd kX2_distinct 15 rfl) gf_T_43 gk_10 (by decide) rfl ?_
        refine R_aload_n (gxd kX2_distinct 16 rfl) rfl rfl ?_
        refine R_getr (gxd kX2_distinct 17 rfl) gf_T_21 gk_10 (by decide) rfl ?_
        refine R_aload_n (gxd kX2_distinct 18 rfl) rfl rfl ?_
        refine R_geti (gxd kX2_distinct 19 rfl) gf_T_37 gk_10 (by decide) rfl ?_
        obtain ⟨b9, H⟩ := ggi H
        have b9 := gin_in b9
        refine R_iald (gxd kX2_distinct 20 rfl) gk_14 b9 ?_
        refine R_ishr (gxd kX2_distinct 21 rfl) ?_
        refine R_iconst (v := (1 : Int32)) (gxd kX2_distinct 22 rfl) rfl ?_
        refine R_iand (gxd kX2_distinct 23 rfl) ?_
        refine R_iconst (v := (1 : Int32)) (gxd kX2_distinct 24 rfl) rfl ?_
        refine R_icmp_ne (gxd kX2_distinct 25 rfl) (tgt := 62) rfl (fun q => ?_) (fun q => ?_)
        · replace H := giff q H
          refine R_aload_n (gxd kX2_distinct 36 rfl) rfl rfl ?_
          refine R_dup (gxd kX2_distinct 37 rfl) rfl ?_
          refine R_geti (gxd kX2_distinct 38 rfl) gf_T_43 gk_10 (by decide) rfl ?_
          refine R_iconst (v := (1 : Int32)) (gxd kX2_distinct 39 rfl) rfl ?_
          refine R_aload_n (gxd kX2_distinct 40 rfl) rfl rfl ?_
          refine R_getr (gxd kX2_distinct 41 rfl) gf_T_21 gk_10 (by decide) rfl ?_
          refine R_aload_n (gxd kX2_distinct 42 rfl) rfl rfl ?_
          refine R_geti (gxd kX2_distinct 43 rfl) gf_T_37 gk_10 (by decide) rfl ?_
          obtain ⟨b10, H⟩ := ggi H
          have b10 := gin_in b10
          refine R_iald (gxd kX2_distinct 44 rfl) gk_14 b10 ?_
          refine R_ishl (gxd kX2_distinct 45 rfl) ?_
          refine R_ior (gxd kX2_distinct 46 rfl) ?_
          refine R_puti (gxd kX2_distinct 47 rfl) gf_T_43 gp_2_11 gk_10 (by decide) rfl ?_
          obtain ⟨h11, e12, H⟩ := glei H
          refine R_heq e12 ?_
          refine R_aload_n (gxd kX2_distinct 48 rfl) rfl rfl ?_
          obtain ⟨h13, e14, H⟩ := gbi H
          refine R_callVv (gxd kX2_distinct 49 rfl) gm_T_107 wX2_pass (by decide) gk_10 rfl rfl (Nat.le_of_ble_eq_true rfl) (by omega) (fT_pass_ok  e14 (d + 0)) ?_
          refine R_iinc (v := (v1 + (1 : Int32))) (gxd kX2_distinct 50 rfl) rfl rfl rfl (Nat.le_of_ble_eq_true rfl) rfl ?_
          refine R_goto (gxd kX2_distinct 51 rfl) (tgt := 11) rfl ?_
          exact R_weak (gle_same (gle_same gle_nil)) (ih _ _ _  H)
        · replace H := gift q H
          exact R_weak (gle_same (gle_same gle_nil)) (fT_distinct_44_ok  H)
def fT_distinct (h : gH) : Option (Int32 × gH) :=
  glet (hu h 10 10 (2 : Int32)) fun h1 =>
  (fT_pass h1).bind fun h3 =>
  fT_distinct_11 gfu (0 : Int32) h3
theorem fT_distinct_ok {h : gH} {x : (Int32 × gH)} (H : fT_distinct  h = some x) (d : Nat) : gC yX2_distinct cX2_distinct 2 (some .boolean) (d + 1) [.ref 10] h (some (.int x.1)) x.2 := by
  refine gC_of (by decide +kernel) (Nat.le_of_ble_eq_true rfl) rfl ?_
  unfold fT_distinct at H
  refine R_aload_n (gxd kX2_distinct 0 rfl) rfl rfl ?_
  refine R_iconst (v := (2 : Int32)) (gxd kX2_distinct 1 rfl) rfl ?_
  refine R_puti (gxd kX2_distinct 2 rfl) gf_T_104 gp_2_10 gk_10 (by decide) rfl ?_
  obtain ⟨h1, e2, H⟩ := glei H
  refine R_heq e2 ?_
  refine R_aload_n (gxd kX2_distinct 3 rfl) rfl rfl ?_
  obtain ⟨h3, e4, H⟩ := gbi H
  refine R_callVv (gxd kX2_distinct 4 rfl) gm_T_107 wX2_pass (by decide) gk_10 rfl rfl (Nat.le_of_ble_eq_true rfl) (by omega) (fT_pass_ok  e4 (d + 0)) ?_
  refine R_iconst (v := (0 : Int32)) (gxd kX2_distinct 5 rfl) rfl ?_
  refine R_istore_n (gxd kX2_distinct 6 rfl) rfl rfl (Nat.le_of_ble_eq_true rfl) rfl ?_
  exact R_weak (gle_same (gle_same gle_nil)) (fT_distinct_11_ok  gfu _ _ _  H)
def fT_addToken (v1 : Int32) (v2 : Int32) (h : gH) : Option gH :=
  gg (gin (h 10 7) 91) <|
  glet (hu h 12 (h 10 7).toNatClampNeg v1) fun h2 =>
  gg (gin (h2 10 7) 91) <|
  glet (hu h2 13 (h2 10 7).toNatClampNeg v2) fun h5 =>
  some (hu h5 10 7 ((h5 10 7) + (1 : Int32)))
theorem fT_addToken_ok {v1 : Int32} {v2 : Int32} {h : gH} {x : gH} (H : fT_addToken v1 v2 h = some x) (d : Nat) : gC yX2_addToken cX2_addToken 3 none (d + 0) [.ref 10, .int v1, .int v2] h none x := by
  refine gC_of (by decide +kernel) (Nat.le_of_ble_eq_true rfl) rfl ?_
  unfold fT_addToken at H
  refine R_aload_n (gxd kX2_addToken 0 rfl) rfl rfl ?_
  refine R_getr (gxd kX2_addToken 1 rfl) gf_T_15 gk_10 (by decide) rfl ?_
  refine R_aload_n (gxd kX2_addToken 2 rfl) rfl rfl ?_
  refine R_geti (gxd kX2_addToken 3 rfl) gf_T_57 gk_10 (by decide) rfl ?_
  refine R_iload_n (gxd kX2_addToken 4 rfl) rfl rfl ?_
  obtain ⟨b1, H⟩ := ggi H
  have b1 := gin_in b1
  refine R_iast (gxd kX2_addToken 5 rfl) gk_12 b1 ?_
  obtain ⟨h2, e3, H⟩ := glei H
  refine R_heq e3 ?_
  refine R_aload_n (gxd kX2_addToken 6 rfl) rfl rfl ?_
  refine R_getr (gxd kX2_addToken 7 rfl) gf_T_18 gk_10 (by decide) rfl ?_
  refine R_aload_n (gxd kX2_addToken 8 rfl) rfl rfl ?_
  refine R_geti (gxd kX2_addToken 9 rfl) gf_T_57 gk_10 (by decide) rfl ?_
  refine R_iload_n (gxd kX2_addToken 10 rfl) rfl rfl ?_
  obtain ⟨b4, H⟩ := ggi H
  have b4 := gin_in b4
  refine R_iast (gxd kX2_addToken 11 rfl) gk_13 b4 ?_
  obtain ⟨h5, e6, H⟩ := glei H
  refine R_heq e6 ?_
  refine R_aload_n (gxd kX2_addToken 12 rfl) rfl rfl ?_
  refine R_dup (gxd kX2_addToken 13 rfl) rfl ?_
  refine R_geti (gxd kX2_addToken 14 rfl) gf_T_57 gk_10 (by decide) rfl ?_
  refine R_iconst (v := (1 : Int32)) (gxd kX2_addToken 15 rfl) rfl ?_
  refine R_iadd (gxd kX2_addToken 16 rfl) ?_
  refine R_puti (gxd kX2_addToken 17 rfl) gf_T_57 gp_2_7 gk_10 (by decide) rfl ?_
  cases H
  exact R_vret (gxd kX2_addToken 18 rfl) rfl
def fT_isDigit (v0 : Int32) (h : gH) : Option (Int32 × gH) :=
  if v0 < (48 : Int32) then
    some ((0 : Int32), h)
  else
    if (57 : Int32) < v0 then
      some ((0 : Int32), h)
    else
      some ((1 : Int32), h)
theorem fT_isDigit_ok {v0 : Int32} {h : gH} {x : (Int32 × gH)} (H : fT_isDigit v0 h = some x) (d : Nat) : gC yX2_isDigit cX2_isDigit 1 (some .boolean) (d + 0) [.int v0] h (some (.int x.1)) x.2 := by
  refine gC_of (by decide +kernel) (Nat.le_of_ble_eq_true rfl) rfl ?_
  unfold fT_isDigit at H
  refine R_iload_n (gxd kX2_isDigit 0 rfl) rfl rfl ?_
  refine R_bipush (v := (48 : Int32)) (gxd kX2_isDigit 1 rfl) rfl ?_
  refine R_icmp_lt (gxd kX2_isDigit 2 rfl) (tgt := 16) rfl (fun q => ?_) (fun q => ?_)
  · replace H := gift q H
    refine R_iconst (v := (0 : Int32)) (gxd kX2_isDigit 8 rfl) rfl ?_
    cases H
    exact R_zret (gxd kX2_isDigit 9 rfl) rfl (Or.inl rfl)
  · replace H := giff q H
    refine R_iload_n (gxd kX2_isDigit 3 rfl) rfl rfl ?_
    refine R_bipush (v := (57 : Int32)) (gxd kX2_isDigit 4 rfl) rfl ?_
    refine R_icmp_gt (gxd kX2_isDigit 5 rfl) (tgt := 16) rfl (fun q => ?_) (fun q => ?_)
    · replace H := gift q H
      refine R_iconst (v := (0 : Int32)) (gxd kX2_isDigit 8 rfl) rfl ?_
      cases H
      exact R_zret (gxd kX2_isDigit 9 rfl) rfl (Or.inl rfl)
    · replace H := giff q H
      refine R_iconst (v := (1 : Int32)) (gxd kX2_isDigit 6 rfl) rfl ?_
      refine R_goto (gxd kX2_isDigit 7 rfl) (tgt := 17) rfl ?_
      cases H
      exact R_zret (gxd kX2_isDigit 9 rfl) rfl (Or.inr rfl)
def fT_isSmall (v0 : Int32) (h : gH) : Option (Int32 × gH) :=
  if v0 < (97 : Int32) then
    some ((0 : Int32), h)
  else
    if (122 : Int32) < v0 then
      some ((0 : Int32), h)
    else
      some ((1 : Int32), h)
theorem fT_isSmall_ok {v0 : Int32} {h : gH} {x : (Int32 × gH)} (H : fT_isSmall v0 h = some x) (d : Nat) : gC yX2_isSmall cX2_isSmall 1 (some .boolean) (d + 0) [.int v0] h (some (.int x.1)) x.2 := by
  refine gC_of (by decide +kernel) (Nat.le_of_ble_eq_true rfl) rfl ?_
  unfold fT_isSmall at H
  refine R_iload_n (gxd kX2_isSmall 0 rfl) rfl rfl ?_
  refine R_bipush (v := (97 : Int32)) (gxd kX2_isSmall 1 rfl) rfl ?_
  refine R_icmp_lt (gxd kX2_isSmall 2 rfl) (tgt := 16) rfl (fun q => ?_) (fun q => ?_)
  · replace H := gift q H
    refine R_iconst (v := (0 : Int32)) (gxd kX2_isSmall 8 rfl) rfl ?_
    cases H
    exact R_zret (gxd kX2_isSmall 9 rfl) rfl (Or.inl rfl)
  · replace H := giff q H
    refine R_iload_n (gxd kX2_isSmall 3 rfl) rfl rfl ?_
    refine R_bipush (v := (122 : Int32)) (gxd kX2_isSmall 4 rfl) rfl ?_
    refine R_icmp_gt (gxd kX2_isSmall 5 rfl) (tgt := 16) rfl (fun q => ?_) (fun q => ?_)
    · replace H := gift q H
      refine R_iconst (v := (0 : Int32)) (gxd kX2_isSmall 8 rfl) rfl ?_
      cases H
      exact R_zret (gxd kX2_isSmall 9 rfl) rfl (Or.inl rfl)
    · replace H := giff q H
      refine R_iconst (v := (1 : Int32)) (gxd kX2_isSmall 6 rfl) rfl ?_
      refine R_goto (gxd kX2_isSmall 7 rfl) (tgt := 17) rfl ?_
      cases H
      exact R_zret (gxd kX2_isSmall 9 rfl) rfl (Or.inr rfl)
def fT_endOfToken_54 : Nat → Int32 → gH → Option (Int32 × gH)
  | 0, _, _ => none
  | n + 1, v2, h =>
    if v2 < (h 10 6) then
      gg (gin v2 90) <|
      (fT_isSmall (h 11 v2.toNatClampNeg) h).bind fun p8 =>
      if p8.1 = (0 : Int32) then
        some (v2, p8.2)
      else
        fT_endOfToken_54 n (v2 + (1 : Int32)) p8.2
    else
      some (v2, h)
theorem fT_endOfToken_54_ok {d : Nat}  : ∀ (n : Nat) (v2 : Int32) (h : gH) (x : (Int32 × gH)), fT_endOfToken_54  n v2 h = some x → gR RX2 cX2_endOfToken 3 (some .int) (d + 1) 54 [.ref 10, .null, .int v2] [] h (some (.int x.1)) x.2 := by
  intro n
  induction n with
  | zero => intro v2 h x  H; exact g0 H
  | succ n ih =>
    intro v2 h x  H
    unfold fT_endOfToken_54 at H
    refine R_iload_n (gxd kX2_endOfToken 28 rfl) rfl rfl ?_
    refine R_aload_n (gxd kX2_endOfToken 29 rfl) rfl rfl ?_
    refine R_geti (gxd kX2_endOfToken 30 rfl) gf_T_30 gk_10 (by decide) rfl ?_
    refine R_icmp_ge (gxd kX2_endOfToken 31 rfl) (tgt := 80) rfl (fun q => ?_) (fun q => ?_)
    · replace H := giff q H
      refine R_iload_n (gxd kX2_endOfToken 40 rfl) rfl rfl ?_
      cases H
      exact R_iret (gxd kX2_endOfToken 41 rfl) rfl
    · replace H := gift q H
      refine R_aload_n (gxd kX2_endOfToken 32 rfl) rfl rfl ?_
      refine R_getr (gxd kX2_endOfToken 33 rfl) gf_T_11 gk_10 (by decide) rfl ?_
      refine R_iload_n (gxd kX2_endOfToken 34 rfl) rfl rfl ?_
      obtain ⟨b7, H⟩ := ggi H
      have b7 := gin_in b7
      refine R_iald (gxd kX2_endOfToken 35 rfl) gk_11 b7 ?_
      obtain ⟨p8, e9, H⟩ := gbi H
      refine R_callSi (gxd kX2_endOfToken 36 rfl) gm_T_76 wX2_isSmall (by decide) rfl (Nat.le_of_ble_eq_true rfl) (by omega) (fT_isSmall_ok  e9 (d + 0)) ?_
      refine R_if_eq (gxd kX2_endOfToken 37 rfl) (tgt := 80) rfl (fun q => ?_) (fun q => ?_)
      · replace H := gift q H
        refine R_iload_n (gxd kX2_endOfToken 40 rfl) rfl rfl ?_
        cases H
        exact R_iret (gxd kX2_endOfToken 41 rfl) rfl
      · replace H := giff q H
        refine R_iinc (v := (v2 + (1 : Int32))) (gxd kX2_endOfToken 38 rfl) rfl rfl rfl (Nat.le_of_ble_eq_true rfl) rfl ?_
        refine R_goto (gxd kX2_endOfToken 39 rfl) (tgt := 54) rfl ?_
        exact R_weak (gle_same (gle_null (gle_same gle_nil))) (ih _ _ _  H)
def fT_endOfToken_16 : Nat → Int32 → gH → Option (Int32 × gH)
  | 0, _, _ => none
  | n + 1, v2, h =>
    if v2 < (h 10 6) then
      gg (gin v2 90) <|
      (fT_isDigit (h 11 v2.toNatClampNeg) h).bind fun p11 =>
      if p11.1 = (0 : Int32) then
        some (v2, p11.2)
      else
        fT_endOfToken_16 n (v2 + (1 : Int32)) p11.2
    else
      some (v2, h)
theorem fT_endOfToken_16_ok {d : Nat}  : ∀ (n : Nat) (v2 : Int32) (h : gH) (x : (Int32 × gH)), fT_endOfToken_16  n v2 h = some x → gR RX2 cX2_endOfToken 3 (some .int) (d + 1) 16 [.ref 10, .null, .int v2] [] h (some (.int x.1)) x.2 := by
  intro n
  induction n with
  | zero => intro v2 h x  H; exact g0 H
  | succ n ih =>
    intro v2 h x  H
    unfold fT_endOfToken_16 at H
    refine R_iload_n (gxd kX2_endOfToken 10 rfl) rfl rfl ?_
    refine R_aload_n (gxd kX2_endOfToken 11 rfl) rfl rfl ?_
    refine R_geti (gxd kX2_endOfToken 12 rfl) gf_T_30 gk_10 (by decide) rfl ?_
    refine R_icmp_ge (gxd kX2_endOfToken 13 rfl) (tgt := 80) rfl (fun q => ?_) (fun q => ?_)
    · replace H := giff q H
      refine R_iload_n (gxd kX2_endOfToken 40 rfl) rfl rfl ?_
      cases H
      exact R_iret (gxd kX2_endOfToken 41 rfl) rfl
    · replace H := gift q H
      refine R_aload_n (gxd kX2_endOfToken 14 rfl) rfl rfl ?_
      refine R_getr (gxd kX2_endOfToken 15 rfl) gf_T_11 gk_10 (by decide) rfl ?_
      refine R_iload_n (gxd kX2_endOfToken 16 rfl) rfl rfl ?_
      obtain ⟨b10, H⟩ := ggi H
      have b10 := gin_in b10
      refine R_iald (gxd kX2_endOfToken 17 rfl) gk_11 b10 ?_
      obtain ⟨p11, e12, H⟩ := gbi H
      refine R_callSi (gxd kX2_endOfToken 18 rfl) gm_T_72 wX2_isDigit (by decide) rfl (Nat.le_of_ble_eq_true rfl) (by omega) (fT_isDigit_ok  e12 (d + 0)) ?_
      refine R_if_eq (gxd kX2_endOfToken 19 rfl) (tgt := 80) rfl (fun q => ?_) (fun q => ?_)
      · replace H := gift q H
        refine R_iload_n (gxd kX2_endOfToken 40 rfl) rfl rfl ?_
        cases H
        exact R_iret (gxd kX2_endOfToken 41 rfl) rfl
      · replace H := giff q H
        refine R_iinc (v := (v2 + (1 : Int32))) (gxd kX2_endOfToken 20 rfl) rfl rfl rfl (Nat.le_of_ble_eq_true rfl) rfl ?_
        refine R_goto (gxd kX2_endOfToken 21 rfl) (tgt := 16) rfl ?_
        exact R_weak (gle_same (gle_null (gle_same gle_nil))) (ih _ _ _  H)
def fT_endOfToken (v1 : Int32) (h : gH) : Option (Int32 × gH) :=
  gg (gin v1 90) <|
  (fT_isDigit (h 11 v1.toNatClampNeg) h).bind fun p2 =>
  if p2.1 = (0 : Int32) then
    gg (gin v1 90) <|
    (fT_isSmall (p2.2 11 v1.toNatClampNeg) p2.2).bind fun p5 =>
    if p5.1 = (0 : Int32) then
      some ((v1 + (1 : Int32)), p5.2)
    else
      fT_endOfToken_54 gfu (v1 + (1 : Int32)) p5.2
  else
    fT_endOfToken_16 gfu (v1 + (1 : Int32)) p2.2
theorem fT_endOfToken_ok {v1 : Int32} {h : gH} {x : (Int32 × gH)} (H : fT_endOfToken v1 h = some x) (d : Nat) : gC yX2_endOfToken cX2_endOfToken 3 (some .int) (d + 1) [.ref 10, .int v1] h (some (.int x.1)) x.2 := by
  refine gC_of (by decide +kernel) (Nat.le_of_ble_eq_true rfl) rfl ?_
  unfold fT_endOfToken at H
  refine R_iload_n (gxd kX2_endOfToken 0 rfl) rfl rfl ?_
  refine R_iconst (v := (1 : Int32)) (gxd kX2_endOfToken 1 rfl) rfl ?_
  refine R_iadd (gxd kX2_endOfToken 2 rfl) ?_
  refine R_istore_n (gxd kX2_endOfToken 3 rfl) rfl rfl (Nat.le_of_ble_eq_true rfl) rfl ?_
  refine R_aload_n (gxd kX2_endOfToken 4 rfl) rfl rfl ?_
  refine R_getr (gxd kX2_endOfToken 5 rfl) gf_T_11 gk_10 (by decide) rfl ?_
  refine R_iload_n (gxd kX2_endOfToken 6 rfl) rfl rfl ?_
  obtain ⟨b1, H⟩ := ggi H
  have b1 := gin_in b1
  refine R_iald (gxd kX2_endOfToken 7 rfl) gk_11 b1 ?_
  obtain ⟨p2, e3, H⟩ := gbi H
  refine R_callSi (gxd kX2_endOfToken 8 rfl) gm_T_72 wX2_isDigit (by decide) rfl (Nat.le_of_ble_eq_true rfl) (by omega) (fT_isDigit_ok  e3 (d + 0)) ?_
  refine R_if_eq (gxd kX2_endOfToken 9 rfl) (tgt := 42) rfl (fun q => ?_) (fun q => ?_)
  · replace H := gift q H
    refine R_aload_n (gxd kX2_endOfToken 22 rfl) rfl rfl ?_
    refine R_getr (gxd kX2_endOfToken 23 rfl) gf_T_11 gk_10 (by decide) rfl ?_
    refine R_iload_n (gxd kX2_endOfToken 24 rfl) rfl rfl ?_
    obtain ⟨b4, H⟩ := ggi H
    have b4 := gin_in b4
    refine R_iald (gxd kX2_endOfToken 25 rfl) gk_11 b4 ?_
    obtain ⟨p5, e6, H⟩ := gbi H
    refine R_callSi (gxd kX2_endOfToken 26 rfl) gm_T_76 wX2_isSmall (by decide) rfl (Nat.le_of_ble_eq_true rfl) (by omega) (fT_isSmall_ok  e6 (d + 0)) ?_
    refine R_if_eq (gxd kX2_endOfToken 27 rfl) (tgt := 80) rfl (fun q => ?_) (fun q => ?_)
    · replace H := gift q H
      refine R_iload_n (gxd kX2_endOfToken 40 rfl) rfl rfl ?_
      cases H
      exact R_iret (gxd kX2_endOfToken 41 rfl) rfl
    · replace H := giff q H
      exact R_weak (gle_same (gle_null (gle_same gle_nil))) (fT_endOfToken_54_ok  gfu _ _ _  H)
  · replace H := giff q H
    exact R_weak (gle_same (gle_null (gle_same gle_nil))) (fT_endOfToken_16_ok  gfu _ _ _  H)
def fJ_isLatin1 (o : Nat) (h : gH) : Option (Int32 × gH) :=
  if (1 : Int32) = (0 : Int32) then
    some ((0 : Int32), h)
  else
    if (0 : Int32) = (0 : Int32) then
      some ((1 : Int32), h)
    else
      some ((0 : Int32), h)
theorem fJ_isLatin1_ok {o : Nat} (ho : gStr o) {h : gH} {x : (Int32 × gH)} (H : fJ_isLatin1 o h = some x) (d : Nat) : gC yJ0_isLatin1_aae02 cJ0_isLatin1_aae02 1 (some .boolean) (d + 0) [.ref (107 + o)] h (some (.int x.1)) x.2 := by
  refine gC_of (by decide +kernel) (Nat.le_of_ble_eq_true rfl) rfl ?_
  unfold fJ_isLatin1 at H
  refine R_gcs gst_RJ0_38 (gxd kJ0_isLatin1_aae02 0 rfl) ?_
  refine R_if_eq (gxd kJ0_isLatin1_aae02 1 rfl) (tgt := 17) rfl (fun q => ?_) (fun q => ?_)
  · replace H := gift q H
    refine R_iconst (v := (0 : Int32)) (gxd kJ0_isLatin1_aae02 7 rfl) rfl ?_
    cases H
    exact R_zret (gxd kJ0_isLatin1_aae02 8 rfl) rfl (Or.inl rfl)
  · replace H := giff q H
    refine R_aload_n (gxd kJ0_isLatin1_aae02 2 rfl) rfl rfl ?_
    refine R_scoder ho gst_RJ0_15 (gxd kJ0_isLatin1_aae02 3 rfl) ?_
    refine R_if_ne (gxd kJ0_isLatin1_aae02 4 rfl) (tgt := 17) rfl (fun q => ?_) (fun q => ?_)
    · replace H := giff q H
      refine R_iconst (v := (0 : Int32)) (gxd kJ0_isLatin1_aae02 7 rfl) rfl ?_
      cases H
      exact R_zret (gxd kJ0_isLatin1_aae02 8 rfl) rfl (Or.inl rfl)
    · replace H := gift q H
      refine R_iconst (v := (1 : Int32)) (gxd kJ0_isLatin1_aae02 5 rfl) rfl ?_
      refine R_goto (gxd kJ0_isLatin1_aae02 6 rfl) (tgt := 18) rfl ?_
      cases H
      exact R_zret (gxd kJ0_isLatin1_aae02 8 rfl) rfl (Or.inr rfl)
def fJ_coder (o : Nat) (h : gH) : Option (Int32 × gH) :=
  if (1 : Int32) = (0 : Int32) then
    gg (gby (1 : Int32)) <|
    some ((1 : Int32), h)
  else
    gg (gby (0 : Int32)) <|
    some ((0 : Int32), h)
theorem fJ_coder_ok {o : Nat} (ho : gStr o) {h : gH} {x : (Int32 × gH)} (H : fJ_coder o h = some x) (d : Nat) : gC yJ0_coder_7d493 cJ0_coder_7d493 1 (some .byte) (d + 0) [.ref (107 + o)] h (some (.int x.1)) x.2 := by
  refine gC_of (by decide +kernel) (Nat.le_of_ble_eq_true rfl) rfl ?_
  unfold fJ_coder at H
  refine R_gcs gst_RJ0_38 (gxd kJ0_coder_7d493 0 rfl) ?_
  refine R_if_eq (gxd kJ0_coder_7d493 1 rfl) (tgt := 13) rfl (fun q => ?_) (fun q => ?_)
  · replace H := gift q H
    refine R_iconst (v := (1 : Int32)) (gxd kJ0_coder_7d493 5 rfl) rfl ?_
    obtain ⟨b1, H⟩ := ggi H
    have b1 := gby_ok b1
    cases H
    exact R_nret (gxd kJ0_coder_7d493 6 rfl) rfl b1
  · replace H := giff q H
    refine R_aload_n (gxd kJ0_coder_7d493 2 rfl) rfl rfl ?_
    refine R_scoder ho gst_RJ0_15 (gxd kJ0_coder_7d493 3 rfl) ?_
    refine R_goto (gxd kJ0_coder_7d493 4 rfl) (tgt := 14) rfl ?_
    obtain ⟨b2, H⟩ := ggi H
    have b2 := gby_ok b2
    cases H
    exact R_nret (gxd kJ0_coder_7d493 6 rfl) rfl b2
def fJ_length (o : Nat) (h : gH) : Option (Int32 × gH) :=
  (fJ_coder o h).bind fun p1 =>
  some (((Int32.ofNat (gsle o)) >>> (p1.1 &&& 31)), p1.2)
theorem fJ_length_ok {o : Nat} (ho : gStr o) {h : gH} {x : (Int32 × gH)} (H : fJ_length o h = some x) (d : Nat) : gC yJ0_length_8abf5 cJ0_length_8abf5 1 (some .int) (d + 1) [.ref (107 + o)] h (some (.int x.1)) x.2 := by
  refine gC_of (by decide +kernel) (Nat.le_of_ble_eq_true rfl) rfl ?_
  unfold fJ_length at H
  refine R_aload_n (gxd kJ0_length_8abf5 0 rfl) rfl rfl ?_
  refine R_svalue ho gst_RJ0_9 (gxd kJ0_length_8abf5 1 rfl) ?_
  refine R_blen ho (gxd kJ0_length_8abf5 2 rfl) ?_
  refine R_aload_n (gxd kJ0_length_8abf5 3 rfl) rfl rfl ?_
  obtain ⟨p1, e2, H⟩ := gbi H
  refine R_callTi (gxd kJ0_length_8abf5 4 rfl) gm_RJ0_335 wJ0_coder_7d493 (by decide) ho rfl rfl (Nat.le_of_ble_eq_true rfl) (by omega) (fJ_coder_ok ho e2 (d + 0)) ?_
  refine R_ishr (gxd kJ0_length_8abf5 5 rfl) ?_
  cases H
  exact R_iret (gxd kJ0_length_8abf5 6 rfl) rfl
def fJ_canEncode (v0 : Int32) (h : gH) : Option (Int32 × gH) :=
  if v0 < (0 : Int32) then
    some ((0 : Int32), h)
  else
    if (255 : Int32) < v0 then
      some ((0 : Int32), h)
    else
      some ((1 : Int32), h)
theorem fJ_canEncode_ok {v0 : Int32} {h : gH} {x : (Int32 × gH)} (H : fJ_canEncode v0 h = some x) (d : Nat) : gC yJ1_canEncode_9a6ad cJ1_canEncode_9a6ad 1 (some .boolean) (d + 0) [.int v0] h (some (.int x.1)) x.2 := by
  refine gC_of (by decide +kernel) (Nat.le_of_ble_eq_true rfl) rfl ?_
  unfold fJ_canEncode at H
  refine R_iload_n (gxd kJ1_canEncode_9a6ad 0 rfl) rfl rfl ?_
  refine R_if_lt (gxd kJ1_canEncode_9a6ad 1 rfl) (tgt := 15) rfl (fun q => ?_) (fun q => ?_)
  · replace H := gift q H
    refine R_iconst (v := (0 : Int32)) (gxd kJ1_canEncode_9a6ad 7 rfl) rfl ?_
    cases H
    exact R_zret (gxd kJ1_canEncode_9a6ad 8 rfl) rfl (Or.inl rfl)
  · replace H := giff q H
    refine R_iload_n (gxd kJ1_canEncode_9a6ad 2 rfl) rfl rfl ?_
    refine R_sipush (v := (255 : Int32)) (gxd kJ1_canEncode_9a6ad 3 rfl) rfl ?_
    refine R_icmp_gt (gxd kJ1_canEncode_9a6ad 4 rfl) (tgt := 15) rfl (fun q => ?_) (fun q => ?_)
    · replace H := gift q H
      refine R_iconst (v := (0 : Int32)) (gxd kJ1_canEncode_9a6ad 7 rfl) rfl ?_
      cases H
      exact R_zret (gxd kJ1_canEncode_9a6ad 8 rfl) rfl (Or.inl rfl)
    · replace H := giff q H
      refine R_iconst (v := (1 : Int32)) (gxd kJ1_canEncode_9a6ad 5 rfl) rfl ?_
      refine R_goto (gxd kJ1_canEncode_9a6ad 6 rfl) (tgt := 16) rfl ?_
      cases H
      exact R_zret (gxd kJ1_canEncode_9a6ad 8 rfl) rfl (Or.inr rfl)
def fJ_indexOfChar_7 (o : Nat) (v3 : Int32) (v4 : Int32) : Nat → Int32 → gH → Option (Int32 × gH)
  | 0, _, _ => none
  | n + 1, v5, h =>
    if v5 < v3 then
      gg (gin v5 (gsle o)) <|
      if (gsb o v5) = v4 then
        some (v5, h)
      else
        fJ_indexOfChar_7 o v3 v4 n (v5 + (1 : Int32)) h
    else
      some ((-1 : Int32), h)
theorem fJ_indexOfChar_7_ok {d : Nat} {o : Nat} {v3 : Int32} {v4 : Int32} (ho : gStr o)  : ∀ (n : Nat) (v5 : Int32) (h : gH) (x : (Int32 × gH)), fJ_indexOfChar_7 o v3 v4 n v5 h = some x → gR RJ1 cJ1_indexOfChar_4cfef 6 (some .int) (d + 0) 7 [.ref (109 + o), .null, .null, .int v3, .int v4, .int v5] [] h (some (.int x.1)) x.2 := by
  intro n
  induction n with
  | zero => intro v5 h x  H; exact g0 H
  | succ n ih =>
    intro v5 h x  H
    unfold fJ_indexOfChar_7 at H
    refine R_iload (gxd kJ1_indexOfChar_4cfef 5 rfl) rfl ?_
    refine R_iload_n (gxd kJ1_indexOfChar_4cfef 6 rfl) rfl rfl ?_
    refine R_icmp_ge (gxd kJ1_indexOfChar_4cfef 7 rfl) (tgt := 31) rfl (fun q => ?_) (fun q => ?_)
    · replace H := giff q H
      refine R_iconst (v := (-1 : Int32)) (gxd kJ1_indexOfChar_4cfef 17 rfl) rfl ?_
      cases H
      exact R_iret (gxd kJ1_indexOfChar_4cfef 18 rfl) rfl
    · replace H := gift q H
      refine R_aload_n (gxd kJ1_indexOfChar_4cfef 8 rfl) rfl rfl ?_
      refine R_iload (gxd kJ1_indexOfChar_4cfef 9 rfl) rfl ?_
      obtain ⟨b1, H⟩ := ggi H
      have b1 := gin_in b1
      refine R_bald ho b1 (gxd kJ1_indexOfChar_4cfef 10 rfl) ?_
      refine R_iload (gxd kJ1_indexOfChar_4cfef 11 rfl) rfl ?_
      refine R_icmp_ne (gxd kJ1_indexOfChar_4cfef 12 rfl) (tgt := 25) rfl (fun q => ?_) (fun q => ?_)
      · replace H := giff q H
        refine R_iinc (v := (v5 + (1 : Int32))) (gxd kJ1_indexOfChar_4cfef 15 rfl) rfl rfl rfl (Nat.le_of_ble_eq_true rfl) rfl ?_
        refine R_goto (gxd kJ1_indexOfChar_4cfef 16 rfl) (tgt := 7) rfl ?_
        exact R_weak (gle_same (gle_null (gle_null (gle_same (gle_same (gle_same gle_nil)))))) (ih _ _ _  H)
      · replace H := gift q H
        refine R_iload (gxd kJ1_indexOfChar_4cfef 13 rfl) rfl ?_
        cases H
        exact R_iret (gxd kJ1_indexOfChar_4cfef 14 rfl) rfl
def fJ_indexOfChar (o : Nat) (v1 : Int32) (v2 : Int32) (v3 : Int32) (h : gH) : Option (Int32 × gH) :=
  fJ_indexOfChar_7 o v3 v1.toInt8.toInt32 gfu v2 h
theorem fJ_indexOfChar_ok {o : Nat} {v1 : Int32} {v2 : Int32} {v3 : Int32} (ho : gStr o) {h : gH} {x : (Int32 × gH)} (H : fJ_indexOfChar o v1 v2 v3 h = some x) (d : Nat) : gC yJ1_indexOfChar_4cfef cJ1_indexOfChar_4cfef 6 (some .int) (d + 0) [.ref (109 + o), .int v1, .int v2, .int v3] h (some (.int x.1)) x.2 := by
  refine gC_of (by decide +kernel) (Nat.le_of_ble_eq_true rfl) rfl ?_
  unfold fJ_indexOfChar at H
  refine R_iload_n (gxd kJ1_indexOfChar_4cfef 0 rfl) rfl rfl ?_
  refine R_i2b (gxd kJ1_indexOfChar_4cfef 1 rfl) ?_
  refine R_istore (gxd kJ1_indexOfChar_4cfef 2 rfl) rfl (Nat.le_of_ble_eq_true rfl) rfl ?_
  refine R_iload_n (gxd kJ1_indexOfChar_4cfef 3 rfl) rfl rfl ?_
  refine R_istore (gxd kJ1_indexOfChar_4cfef 4 rfl) rfl (Nat.le_of_ble_eq_true rfl) rfl ?_
  exact R_weak (gle_same (gle_null (gle_null (gle_same (gle_same (gle_same gle_nil)))))) (fJ_indexOfChar_7_ok ho  gfu _ _ _  H)
def fJ_indexOf3 (o : Nat) (v1 : Int32) (v2 : Int32) (v3 : Int32) (h : gH) : Option (Int32 × gH) :=
  (fJ_canEncode v1 h).bind fun p1 =>
  if p1.1 = (0 : Int32) then
    some ((-1 : Int32), p1.2)
  else
    if (if v2 < (0 : Int32) then (0 : Int32) else v2) < (if (Int32.ofNat (gsle o)) < v3 then (Int32.ofNat (gsle o)) else v3) then
      (fJ_indexOfChar o v1 (if v2 < (0 : Int32) then (0 : Int32) else v2) (if (Int32.ofNat (gsle o)) < v3 then (Int32.ofNat (gsle o)) else v3) p1.2).bind fun p3 =>
      some (p3.1, p3.2)
    else
      some ((-1 : Int32), p1.2)
theorem fJ_indexOf3_ok {o : Nat} {v1 : Int32} {v2 : Int32} {v3 : Int32} (ho : gStr o) {h : gH} {x : (Int32 × gH)} (H : fJ_indexOf3 o v1 v2 v3 h = some x) (d : Nat) : gC yJ1_indexOf_4cfef cJ1_indexOf_4cfef 4 (some .int) (d + 1) [.ref (109 + o), .int v1, .int v2, .int v3] h (some (.int x.1)) x.2 := by
  refine gC_of (by decide +kernel) (Nat.le_of_ble_eq_true rfl) rfl ?_
  unfold fJ_indexOf3 at H
  refine R_iload_n (gxd kJ1_indexOf_4cfef 0 rfl) rfl rfl ?_
  obtain ⟨p1, e2, H⟩ := gbi H
  refine R_callSi (gxd kJ1_indexOf_4cfef 1 rfl) gm_RJ1_88 wJ1_canEncode_9a6ad (by decide) rfl (Nat.le_of_ble_eq_true rfl) (by omega) (fJ_canEncode_ok  e2 (d + 0)) ?_
  refine R_if_ne (gxd kJ1_indexOf_4cfef 2 rfl) (tgt := 9) rfl (fun q => ?_) (fun q => ?_)
  · replace H := giff q H
    refine R_iload_n (gxd kJ1_indexOf_4cfef 5 rfl) rfl rfl ?_
    refine R_iconst (v := (0 : Int32)) (gxd kJ1_indexOf_4cfef 6 rfl) rfl ?_
    refine R_mmax rfl (gxd kJ1_indexOf_4cfef 7 rfl) (Nat.le_of_ble_eq_true rfl) (by omega) ?_
    refine R_istore_n (gxd kJ1_indexOf_4cfef 8 rfl) rfl rfl (Nat.le_of_ble_eq_true rfl) rfl ?_
    refine R_iload_n (gxd kJ1_indexOf_4cfef 9 rfl) rfl rfl ?_
    refine R_aload_n (gxd kJ1_indexOf_4cfef 10 rfl) rfl rfl ?_
    refine R_blen ho (gxd kJ1_indexOf_4cfef 11 rfl) ?_
    refine R_mmin rfl (gxd kJ1_indexOf_4cfef 12 rfl) (Nat.le_of_ble_eq_true rfl) (by omega) ?_
    refine R_istore_n (gxd kJ1_indexOf_4cfef 13 rfl) rfl rfl (Nat.le_of_ble_eq_true rfl) rfl ?_
    refine R_iload_n (gxd kJ1_indexOf_4cfef 14 rfl) rfl rfl ?_
    refine R_iload_n (gxd kJ1_indexOf_4cfef 15 rfl) rfl rfl ?_
    refine R_icmp_lt (gxd kJ1_indexOf_4cfef 16 rfl) (tgt := 29) rfl (fun q => ?_) (fun q => ?_)
    · replace H := gift q H
      refine R_aload_n (gxd kJ1_indexOf_4cfef 19 rfl) rfl rfl ?_
      refine R_iload_n (gxd kJ1_indexOf_4cfef 20 rfl) rfl rfl ?_
      refine R_iload_n (gxd kJ1_indexOf_4cfef 21 rfl) rfl rfl ?_
      refine R_iload_n (gxd kJ1_indexOf_4cfef 22 rfl) rfl rfl ?_
      obtain ⟨p3, e4, H⟩ := gbi H
      refine R_callSi (gxd kJ1_indexOf_4cfef 23 rfl) gm_RJ1_95 wJ1_indexOfChar_4cfef (by decide) rfl (Nat.le_of_ble_eq_true rfl) (by omega) (fJ_indexOfChar_ok ho e4 (d + 0)) ?_
      cases H
      exact R_iret (gxd kJ1_indexOf_4cfef 24 rfl) rfl
    · replace H := giff q H
      refine R_iconst (v := (-1 : Int32)) (gxd kJ1_indexOf_4cfef 17 rfl) rfl ?_
      cases H
      exact R_iret (gxd kJ1_indexOf_4cfef 18 rfl) rfl
  · replace H := gift q H
    refine R_iconst (v := (-1 : Int32)) (gxd kJ1_indexOf_4cfef 3 rfl) rfl ?_
    cases H
    exact R_iret (gxd kJ1_indexOf_4cfef 4 rfl) rfl
def fJ_indexOf2 (o : Nat) (v1 : Int32) (v2 : Int32) (h : gH) : Option (Int32 × gH) :=
  (fJ_isLatin1 o h).bind fun p1 =>
  if p1.1 = (0 : Int32) then
    (fJ_length o p1.2).bind fun p3 =>
    none
  else
    (fJ_length o p1.2).bind fun p5 =>
    (fJ_indexOf3 o v1 v2 p5.1 p5.2).bind fun p7 =>
    some (p7.1, p7.2)
theorem fJ_indexOf2_ok {o : Nat} {v1 : Int32} {v2 : Int32} (ho : gStr o) {h : gH} {x : (Int32 × gH)} (H : fJ_indexOf2 o v1 v2 h = some x) (d : Nat) : gC yJ0_indexOf_7cf53 cJ0_indexOf_7cf53 3 (some .int) (d + 2) [.ref (107 + o), .int v1, .int v2] h (some (.int x.1)) x.2 := by
  refine gC_of (by decide +kernel) (Nat.le_of_ble_eq_true rfl) rfl ?_
  unfold fJ_indexOf2 at H
  refine R_aload_n (gxd kJ0_indexOf_7cf53 0 rfl) rfl rfl ?_
  obtain ⟨p1, e2, H⟩ := gbi H
  refine R_callTi (gxd kJ0_indexOf_7cf53 1 rfl) gm_RJ0_492 wJ0_isLatin1_aae02 (by decide) ho rfl rfl (Nat.le_of_ble_eq_true rfl) (by omega) (fJ_isLatin1_ok ho e2 (d + 1)) ?_
  refine R_if_eq (gxd kJ0_indexOf_7cf53 2 rfl) (tgt := 23) rfl (fun q => ?_) (fun q => ?_)
  · replace H := gift q H
    refine R_aload_n (gxd kJ0_indexOf_7cf53 11 rfl) rfl rfl ?_
    refine R_svalue ho gst_RJ0_9 (gxd kJ0_indexOf_7cf53 12 rfl) ?_
    refine R_iload_n (gxd kJ0_indexOf_7cf53 13 rfl) rfl rfl ?_
    refine R_iload_n (gxd kJ0_indexOf_7cf53 14 rfl) rfl rfl ?_
    refine R_aload_n (gxd kJ0_indexOf_7cf53 15 rfl) rfl rfl ?_
    obtain ⟨p3, e4, H⟩ := gbi H
    refine R_callTi (gxd kJ0_indexOf_7cf53 16 rfl) gm_RJ0_505 wJ0_length_8abf5 (by decide) ho rfl rfl (Nat.le_of_ble_eq_true rfl) (by omega) (fJ_length_ok ho e4 (d + 0)) ?_
    exact g0 H
  · replace H := giff q H
    refine R_aload_n (gxd kJ0_indexOf_7cf53 3 rfl) rfl rfl ?_
    refine R_svalue ho gst_RJ0_9 (gxd kJ0_indexOf_7cf53 4 rfl) ?_
    refine R_iload_n (gxd kJ0_indexOf_7cf53 5 rfl) rfl rfl ?_
    refine R_iload_n (gxd kJ0_indexOf_7cf53 6 rfl) rfl rfl ?_
    refine R_aload_n (gxd kJ0_indexOf_7cf53 7 rfl) rfl rfl ?_
    obtain ⟨p5, e6, H⟩ := gbi H
    refine R_callTi (gxd kJ0_indexOf_7cf53 8 rfl) gm_RJ0_505 wJ0_length_8abf5 (by decide) ho rfl rfl (Nat.le_of_ble_eq_true rfl) (by omega) (fJ_length_ok ho e6 (d + 0)) ?_
    obtain ⟨p7, e8, H⟩ := gbi H
    refine R_callSi (gxd kJ0_indexOf_7cf53 9 rfl) gm_RJ0_637 wJ1_indexOf_4cfef (by decide) rfl (Nat.le_of_ble_eq_true rfl) (by omega) (fJ_indexOf3_ok ho e8 (d + 0)) ?_
    refine R_goto (gxd kJ0_indexOf_7cf53 10 rfl) (tgt := 36) rfl ?_
    cases H
    exact R_iret (gxd kJ0_indexOf_7cf53 18 rfl) rfl
def fJ_indexOf (o : Nat) (v1 : Int32) (h : gH) : Option (Int32 × gH) :=
  (fJ_indexOf2 o v1 (0 : Int32) h).bind fun p1 =>
  some (p1.1, p1.2)
theorem fJ_indexOf_ok {o : Nat} {v1 : Int32} (ho : gStr o) {h : gH} {x : (Int32 × gH)} (H : fJ_indexOf o v1 h = some x) (d : Nat) : gC yJ0_indexOf_0f7a4 cJ0_indexOf_0f7a4 2 (some .int) (d + 3) [.ref (107 + o), .int v1] h (some (.int x.1)) x.2 := by
  refine gC_of (by decide +kernel) (Nat.le_of_ble_eq_true rfl) rfl ?_
  unfold fJ_indexOf at H
  refine R_aload_n (gxd kJ0_indexOf_0f7a4 0 rfl) rfl rfl ?_
  refine R_iload_n (gxd kJ0_indexOf_0f7a4 1 rfl) rfl rfl ?_
  refine R_iconst (v := (0 : Int32)) (gxd kJ0_indexOf_0f7a4 2 rfl) rfl ?_
  obtain ⟨p1, e2, H⟩ := gbi H
  refine R_callTi (gxd kJ0_indexOf_0f7a4 3 rfl) gm_RJ0_633 wJ0_indexOf_7cf53 (by decide) ho rfl rfl (Nat.le_of_ble_eq_true rfl) (by omega) (fJ_indexOf2_ok ho e2 (d + 0)) ?_
  cases H
  exact R_iret (gxd kJ0_indexOf_0f7a4 4 rfl) rfl
theorem gm_ci : gLS RJ0 1059 yJ3_checkIndex_8e157 3 := ⟨⟨Or.inl (gW_at 640 (by decide +kernel) rfl), gW_at 78 (by decide +kernel) rfl, by decide +kernel⟩, gW_at 641 (by decide +kernel) rfl⟩
theorem gst_ci : Cond.fieldLink RJ0 1053 "jdk/internal/util/Preconditions" "SIOOBE_FORMATTER" "Ljava/util/function/BiFunction;" ∈ gW := gW_at 638 (by decide +kernel) rfl
theorem wJ3_checkIndex_8e157 : Cond.code yJ3_checkIndex_8e157 cJ3_checkIndex_8e157 3 (some .int) ∈ gW := gW_at 642 (by decide +kernel) rfl
theorem fJ_ci3 {v0 v1 : Int32} {v : Value} {h : gH} (hv : v = .null ∨ v = .ref 111) (h0 : ¬ v0 < 0) (h1 : v0 < v1) (d : Nat) : gC yJ3_checkIndex_8e157 cJ3_checkIndex_8e157 3 (some .int) (d + 0) [.int v0, .int v1, v] h (some (.int v0)) h := by
  rcases hv with rfl | rfl
  · refine gC_of (by decide +kernel) (Nat.le_of_ble_eq_true rfl) rfl ?_
    refine R_iload_n (gxd kJ3_checkIndex_8e157 0 rfl) rfl rfl ?_
    refine R_if_lt (gxd kJ3_checkIndex_8e157 1 rfl) (tgt := 9) rfl (fun q => absurd q h0) (fun q => ?_)
    refine R_iload_n (gxd kJ3_checkIndex_8e157 2 rfl) rfl rfl ?_
    refine R_iload_n (gxd kJ3_checkIndex_8e157 3 rfl) rfl rfl ?_
    refine R_icmp_lt (gxd kJ3_checkIndex_8e157 4 rfl) (tgt := 16) rfl (fun q => ?_) (fun q => absurd h1 q)
    refine R_iload_n (gxd kJ3_checkIndex_8e157 10 rfl) rfl rfl ?_
    exact R_iret (gxd kJ3_checkIndex_8e157 11 rfl) rfl
  · refine gC_of (by decide +kernel) (Nat.le_of_ble_eq_true rfl) rfl ?_
    refine R_iload_n (gxd kJ3_checkIndex_8e157 0 rfl) rfl rfl ?_
    refine R_if_lt (gxd kJ3_checkIndex_8e157 1 rfl) (tgt := 9) rfl (fun q => absurd q h0) (fun q => ?_)
    refine R_iload_n (gxd kJ3_checkIndex_8e157 2 rfl) rfl rfl ?_
    refine R_iload_n (gxd kJ3_checkIndex_8e157 3 rfl) rfl rfl ?_
    refine R_icmp_lt (gxd kJ3_checkIndex_8e157 4 rfl) (tgt := 16) rfl (fun q => ?_) (fun q => absurd h1 q)
    refine R_iload_n (gxd kJ3_checkIndex_8e157 10 rfl) rfl rfl ?_
    exact R_iret (gxd kJ3_checkIndex_8e157 11 rfl) rfl
def fJ_checkIndex (v0 v1 : Int32) (h : gH) : Option gH :=
  if v0 < (0 : Int32) then none else if v0 < v1 then some h else none
theorem fJ_checkIndex_ok {v0 v1 : Int32} {h : gH} {x : gH} (H : fJ_checkIndex v0 v1 h = some x) (d : Nat) : gC yJ0_checkIndex_df160 cJ0_checkIndex_df160 2 none (d + 1) [.int v0, .int v1] h none x := by
  refine gC_of (by decide +kernel) (Nat.le_of_ble_eq_true rfl) rfl ?_
  unfold fJ_checkIndex at H
  obtain ⟨h0, H⟩ := gnif H
  obtain ⟨h1, H⟩ := gif H
  cases H
  refine R_iload_n (gxd kJ0_checkIndex_df160 0 rfl) rfl rfl ?_
  refine R_iload_n (gxd kJ0_checkIndex_df160 1 rfl) rfl rfl ?_
  refine R_gsf gst_ci (gxd kJ0_checkIndex_df160 2 rfl) (fun v hv => ?_)
  refine R_callSi (gxd kJ0_checkIndex_df160 3 rfl) gm_ci wJ3_checkIndex_8e157 (by decide) rfl (Nat.le_of_ble_eq_true rfl) (by omega) (fJ_ci3 hv h0 h1 (d + 0)) ?_
  refine R_pop (gxd kJ0_checkIndex_df160 4 rfl) rfl ?_
  exact R_vret (gxd kJ0_checkIndex_df160 5 rfl) rfl

def fJ_charAt1 (o : Nat) (v1 : Int32) (h : gH) : Option (Int32 × gH) :=
  (fJ_checkIndex v1 (Int32.ofNat (gsle o)) h).bind fun h1 =>
  gg (gin v1 (gsle o)) <|
  gg (gch ((((gsb o v1) &&& (255 : Int32)).toUInt32 % 65536).toInt32)) <|
  some (((((gsb o v1) &&& (255 : Int32)).toUInt32 % 65536).toInt32), h1)
theorem fJ_charAt1_ok {o : Nat} {v1 : Int32} (ho : gStr o) {h : gH} {x : (Int32 × gH)} (H : fJ_charAt1 o v1 h = some x) (d : Nat) : gC yJ1_charAt_3b067 cJ1_charAt_3b067 2 (some .char) (d + 2) [.ref (109 + o), .int v1] h (some (.int x.1)) x.2 := by
  refine gC_of (by decide +kernel) (Nat.le_of_ble_eq_true rfl) rfl ?_
  unfold fJ_charAt1 at H
  refine R_iload_n (gxd kJ1_charAt_3b067 0 rfl) rfl rfl ?_
  refine R_aload_n (gxd kJ1_charAt_3b067 1 rfl) rfl rfl ?_
  refine R_blen ho (gxd kJ1_charAt_3b067 2 rfl) ?_
  obtain ⟨h1, e2, H⟩ := gbi H
  refine R_callSv (gxd kJ1_charAt_3b067 3 rfl) gm_RJ1_9 wJ0_checkIndex_df160 (by decide) rfl (Nat.le_of_ble_eq_true rfl) (by omega) (fJ_checkIndex_ok  e2 (d + 0)) ?_
  refine R_aload_n (gxd kJ1_charAt_3b067 4 rfl) rfl rfl ?_
  refine R_iload_n (gxd kJ1_charAt_3b067 5 rfl) rfl rfl ?_
  obtain ⟨b3, H⟩ := ggi H
  have b3 := gin_in b3
  refine R_bald ho b3 (gxd kJ1_charAt_3b067 6 rfl) ?_
  refine R_sipush (v := (255 : Int32)) (gxd kJ1_charAt_3b067 7 rfl) rfl ?_
  refine R_iand (gxd kJ1_charAt_3b067 8 rfl) ?_
  refine R_i2c (gxd kJ1_charAt_3b067 9 rfl) ?_
  obtain ⟨b4, H⟩ := ggi H
  have b4 := gch_ok b4
  cases H
  exact R_nret (gxd kJ1_charAt_3b067 10 rfl) rfl b4
def fJ_charAt (o : Nat) (v1 : Int32) (h : gH) : Option (Int32 × gH) :=
  (fJ_isLatin1 o h).bind fun p1 =>
  if p1.1 = (0 : Int32) then
    none
  else
    (fJ_charAt1 o v1 p1.2).bind fun p3 =>
    gg (gch p3.1) <|
    some (p3.1, p3.2)
theorem fJ_charAt_ok {o : Nat} {v1 : Int32} (ho : gStr o) {h : gH} {x : (Int32 × gH)} (H : fJ_charAt o v1 h = some x) (d : Nat) : gC yJ0_charAt_5068e cJ0_charAt_5068e 2 (some .char) (d + 3) [.ref (107 + o), .int v1] h (some (.int x.1)) x.2 := by
  refine gC_of (by decide +kernel) (Nat.le_of_ble_eq_true rfl) rfl ?_
  unfold fJ_charAt at H
  refine R_aload_n (gxd kJ0_charAt_5068e 0 rfl) rfl rfl ?_
  obtain ⟨p1, e2, H⟩ := gbi H
  refine R_callTi (gxd kJ0_charAt_5068e 1 rfl) gm_RJ0_492 wJ0_isLatin1_aae02 (by decide) ho rfl rfl (Nat.le_of_ble_eq_true rfl) (by omega) (fJ_isLatin1_ok ho e2 (d + 2)) ?_
  refine R_if_eq (gxd kJ0_charAt_5068e 2 rfl) (tgt := 16) rfl (fun q => ?_) (fun q => ?_)
  · replace H := gift q H
    refine R_aload_n (gxd kJ0_charAt_5068e 8 rfl) rfl rfl ?_
    refine R_svalue ho gst_RJ0_9 (gxd kJ0_charAt_5068e 9 rfl) ?_
    refine R_iload_n (gxd kJ0_charAt_5068e 10 rfl) rfl rfl ?_
    exact g0 H
  · replace H := giff q H
    refine R_aload_n (gxd kJ0_charAt_5068e 3 rfl) rfl rfl ?_
    refine R_svalue ho gst_RJ0_9 (gxd kJ0_charAt_5068e 4 rfl) ?_
    refine R_iload_n (gxd kJ0_charAt_5068e 5 rfl) rfl rfl ?_
    obtain ⟨p3, e4, H⟩ := gbi H
    refine R_callSi (gxd kJ0_charAt_5068e 6 rfl) gm_RJ0_495 wJ1_charAt_3b067 (by decide) rfl (Nat.le_of_ble_eq_true rfl) (by omega) (fJ_charAt1_ok ho e4 (d + 0)) ?_
    obtain ⟨b5, H⟩ := ggi H
    have b5 := gch_ok b5
    cases H
    exact R_nret (gxd kJ0_charAt_5068e 7 rfl) rfl b5
def fT_isDistinctAt_15 (v1 : Int32) (v2 : Int32) : Nat → Int32 → gH → Option (Int32 × gH)
  | 0, _, _ => none
  | n + 1, v3, h =>
    if v3 < v2 then
      gg (gin v3 90) <|
      (fJ_charAt 0 (v3 - v1) h).bind fun p4 =>
      if (h 11 v3.toNatClampNeg) = p4.1 then
        fT_isDistinctAt_15 v1 v2 n (v3 + (1 : Int32)) p4.2
      else
        some ((0 : Int32), p4.2)
    else
      some ((1 : Int32), h)
theorem fT_isDistinctAt_15_ok {d : Nat} {v1 : Int32} {v2 : Int32}  : ∀ (n : Nat) (v3 : Int32) (h : gH) (x : (Int32 × gH)), fT_isDistinctAt_15 v1 v2 n v3 h = some x → gR RX2 cX2_isDistinctAt 4 (some .boolean) (d + 4) 15 [.ref 10, .int v1, .int v2, .int v3] [] h (some (.int x.1)) x.2 := by
  intro n
  induction n with
  | zero => intro v3 h x  H; exact g0 H
  | succ n ih =>
    intro v3 h x  H
    unfold fT_isDistinctAt_15 at H
    refine R_iload_n (gxd kX2_isDistinctAt 10 rfl) rfl rfl ?_
    refine R_iload_n (gxd kX2_isDistinctAt 11 rfl) rfl rfl ?_
    refine R_icmp_ge (gxd kX2_isDistinctAt 12 rfl) (tgt := 45) rfl (fun q => ?_) (fun q => ?_)
    · replace H := giff q H
      refine R_iconst (v := (1 : Int32)) (gxd kX2_isDistinctAt 27 rfl) rfl ?_
      cases H
      exact R_zret (gxd kX2_isDistinctAt 28 rfl) rfl (Or.inr rfl)
    · replace H := gift q H
      refine R_aload_n (gxd kX2_isDistinctAt 13 rfl) rfl rfl ?_
      refine R_getr (gxd kX2_isDistinctAt 14 rfl) gf_T_11 gk_10 (by decide) rfl ?_
      refine R_iload_n (gxd kX2_isDistinctAt 15 rfl) rfl rfl ?_
      obtain ⟨b3, H⟩ := ggi H
      have b3 := gin_in b3
      refine R_iald (gxd kX2_isDistinctAt 16 rfl) gk_11 b3 ?_
      refine R_lds96 rfl (gxd kX2_isDistinctAt 17 rfl) ?_
      refine R_iload_n (gxd kX2_isDistinctAt 18 rfl) rfl rfl ?_
      refine R_iload_n (gxd kX2_isDistinctAt 19 rfl) rfl rfl ?_
      refine R_isub (gxd kX2_isDistinctAt 20 rfl) ?_
      obtain ⟨p4, e5, H⟩ := gbi H
      refine R_callTi (gxd kX2_isDistinctAt 21 rfl) gm_T_100 wJ0_charAt_5068e (by decide) gs0 rfl rfl (Nat.le_of_ble_eq_true rfl) (by omega) (fJ_charAt_ok gs0 e5 (d + 0)) ?_
      refine R_icmp_eq (gxd kX2_isDistinctAt 22 rfl) (tgt := 39) rfl (fun q => ?_) (fun q => ?_)
      · replace H := gift q H
        refine R_iinc (v := (v3 + (1 : Int32))) (gxd kX2_isDistinctAt 25 rfl) rfl rfl rfl (Nat.le_of_ble_eq_true rfl) rfl ?_
        refine R_goto (gxd kX2_isDistinctAt 26 rfl) (tgt := 15) rfl ?_
        exact R_weak (gle_same (gle_same (gle_same (gle_same gle_nil)))) (ih _ _ _  H)
      · replace H := giff q H
        refine R_iconst (v := (0 : Int32)) (gxd kX2_isDistinctAt 23 rfl) rfl ?_
        cases H
        exact R_zret (gxd kX2_isDistinctAt 24 rfl) rfl (Or.inl rfl)
def fT_isDistinctAt (v1 : Int32) (v2 : Int32) (h : gH) : Option (Int32 × gH) :=
  (fJ_length 0 h).bind fun p1 =>
  if (v2 - v1) = p1.1 then
    fT_isDistinctAt_15 v1 v2 gfu v1 p1.2
  else
    some ((0 : Int32), p1.2)
theorem fT_isDistinctAt_ok {v1 : Int32} {v2 : Int32} {h : gH} {x : (Int32 × gH)} (H : fT_isDistinctAt v1 v2 h = some x) (d : Nat) : gC yX2_isDistinctAt cX2_isDistinctAt 4 (some .boolean) (d + 4) [.ref 10, .int v1, .int v2] h (some (.int x.1)) x.2 := by
  refine gC_of (by decide +kernel) (Nat.le_of_ble_eq_true rfl) rfl ?_
  unfold fT_isDistinctAt at H
  refine R_iload_n (gxd kX2_isDistinctAt 0 rfl) rfl rfl ?_
  refine R_iload_n (gxd kX2_isDistinctAt 1 rfl) rfl rfl ?_
  refine R_isub (gxd kX2_isDistinctAt 2 rfl) ?_
  refine R_lds96 rfl (gxd kX2_isDistinctAt 3 rfl) ?_
  obtain ⟨p1, e2, H⟩ := gbi H
  refine R_callTi (gxd kX2_isDistinctAt 4 rfl) gm_T_97 wJ0_length_8abf5 (by decide) gs0 rfl rfl (Nat.le_of_ble_eq_true rfl) (by omega) (fJ_length_ok gs0 e2 (d + 2)) ?_
  refine R_icmp_eq (gxd kX2_isDistinctAt 5 rfl) (tgt := 13) rfl (fun q => ?_) (fun q => ?_)
  · replace H := gift q H
    refine R_iload_n (gxd kX2_isDistinctAt 8 rfl) rfl rfl ?_
    refine R_istore_n (gxd kX2_isDistinctAt 9 rfl) rfl rfl (Nat.le_of_ble_eq_true rfl) rfl ?_
    exact R_weak (gle_same (gle_same (gle_same (gle_same gle_nil)))) (fT_isDistinctAt_15_ok  gfu _ _ _  H)
  · replace H := giff q H
    refine R_iconst (v := (0 : Int32)) (gxd kX2_isDistinctAt 6 rfl) rfl ?_
    cases H
    exact R_zret (gxd kX2_isDistinctAt 7 rfl) rfl (Or.inl rfl)
def fT_numberAt_5 (v2 : Int32) : Nat → Int32 → Int32 → gH → Option (Int32 × gH)
  | 0, _, _, _ => none
  | n + 1, v3, v4, h =>
    if v4 < v2 then
      gg (gin v4 90) <|
      fT_numberAt_5 v2 n (((v3 * (10 : Int32)) + (h 11 v4.toNatClampNeg)) - (48 : Int32)) (v4 + (1 : Int32)) h
    else
      some (v3, h)
theorem fT_numberAt_5_ok {d : Nat} {v2 : Int32}  : ∀ (n : Nat) (v3 : Int32) (v4 : Int32) (h : gH) (x : (Int32 × gH)), fT_numberAt_5 v2 n v3 v4 h = some x → gR RX2 cX2_numberAt 5 (some .int) (d + 0) 5 [.ref 10, .null, .int v2, .int v3, .int v4] [] h (some (.int x.1)) x.2 := by
  intro n
  induction n with
  | zero => intro v3 v4 h x  H; exact g0 H
  | succ n ih =>
    intro v3 v4 h x  H
    unfold fT_numberAt_5 at H
    refine R_iload (gxd kX2_numberAt 4 rfl) rfl ?_
    refine R_iload_n (gxd kX2_numberAt 5 rfl) rfl rfl ?_
    refine R_icmp_ge (gxd kX2_numberAt 6 rfl) (tgt := 33) rfl (fun q => ?_) (fun q => ?_)
    · replace H := giff q H
      refine R_iload_n (gxd kX2_numberAt 20 rfl) rfl rfl ?_
      cases H
      exact R_iret (gxd kX2_numberAt 21 rfl) rfl
    · replace H := gift q H
      refine R_iload_n (gxd kX2_numberAt 7 rfl) rfl rfl ?_
      refine R_bipush (v := (10 : Int32)) (gxd kX2_numberAt 8 rfl) rfl ?_
      refine R_imul (gxd kX2_numberAt 9 rfl) ?_
      refine R_aload_n (gxd kX2_numberAt 10 rfl) rfl rfl ?_
      refine R_getr (gxd kX2_numberAt 11 rfl) gf_T_11 gk_10 (by decide) rfl ?_
      refine R_iload (gxd kX2_numberAt 12 rfl) rfl ?_
      obtain ⟨b1, H⟩ := ggi H
      have b1 := gin_in b1
      refine R_iald (gxd kX2_numberAt 13 rfl) gk_11 b1 ?_
      refine R_iadd (gxd kX2_numberAt 14 rfl) ?_
      refine R_bipush (v := (48 : Int32)) (gxd kX2_numberAt 15 rfl) rfl ?_
      refine R_isub (gxd kX2_numberAt 16 rfl) ?_
      refine R_istore_n (gxd kX2_numberAt 17 rfl) rfl rfl (Nat.le_of_ble_eq_true rfl) rfl ?_
      refine R_iinc (v := (v4 + (1 : Int32))) (gxd kX2_numberAt 18 rfl) rfl rfl rfl (Nat.le_of_ble_eq_true rfl) rfl ?_
      refine R_goto (gxd kX2_numberAt 19 rfl) (tgt := 5) rfl ?_
      exact R_weak (gle_same (gle_null (gle_same (gle_same (gle_same gle_nil))))) (ih _ _ _ _  H)
def fT_numberAt (v1 : Int32) (v2 : Int32) (h : gH) : Option (Int32 × gH) :=
  fT_numberAt_5 v2 gfu (0 : Int32) v1 h
theorem fT_numberAt_ok {v1 : Int32} {v2 : Int32} {h : gH} {x : (Int32 × gH)} (H : fT_numberAt v1 v2 h = some x) (d : Nat) : gC yX2_numberAt cX2_numberAt 5 (some .int) (d + 0) [.ref 10, .int v1, .int v2] h (some (.int x.1)) x.2 := by
  refine gC_of (by decide +kernel) (Nat.le_of_ble_eq_true rfl) rfl ?_
  unfold fT_numberAt at H
  refine R_iconst (v := (0 : Int32)) (gxd kX2_numberAt 0 rfl) rfl ?_
  refine R_istore_n (gxd kX2_numberAt 1 rfl) rfl rfl (Nat.le_of_ble_eq_true rfl) rfl ?_
  refine R_iload_n (gxd kX2_numberAt 2 rfl) rfl rfl ?_
  refine R_istore (gxd kX2_numberAt 3 rfl) rfl (Nat.le_of_ble_eq_true rfl) rfl ?_
  exact R_weak (gle_same (gle_null (gle_same (gle_same (gle_same gle_nil))))) (fT_numberAt_5_ok  gfu _ _ _ _  H)
def fX_isVariable (v0 : Int32) (h : gH) : Option (Int32 × gH) :=
  if v0 < (0 : Int32) then
    some ((0 : Int32), h)
  else
    if v0 < (8 : Int32) then
      some ((1 : Int32), h)
    else
      some ((0 : Int32), h)
theorem fX_isVariable_ok {v0 : Int32} {h : gH} {x : (Int32 × gH)} (H : fX_isVariable v0 h = some x) (d : Nat) : gC yX6_isVariable cX6_isVariable 1 (some .boolean) (d + 0) [.int v0] h (some (.int x.1)) x.2 := by
  refine gC_of (by decide +kernel) (Nat.le_of_ble_eq_true rfl) rfl ?_
  unfold fX_isVariable at H
  refine R_iload_n (gxd kX6_isVariable 0 rfl) rfl rfl ?_
  refine R_if_lt (gxd kX6_isVariable 1 rfl) (tgt := 14) rfl (fun q => ?_) (fun q => ?_)
  · replace H := gift q H
    refine R_iconst (v := (0 : Int32)) (gxd kX6_isVariable 7 rfl) rfl ?_
    obtain rfl := Option.some.inj H
    exact R_zret (gxd kX6_isVariable 8 rfl) rfl (Or.inl rfl)
  · replace H := giff q H
    refine R_iload_n (gxd kX6_isVariable 2 rfl) rfl rfl ?_
    refine R_bipush (v := (8 : Int32)) (gxd kX6_isVariable 3 rfl) rfl ?_
    refine R_icmp_ge (gxd kX6_isVariable 4 rfl) (tgt := 14) rfl (fun q => ?_) (fun q => ?_)
    · replace H := giff q H
      refine R_iconst (v := (0 : Int32)) (gxd kX6_isVariable 7 rfl) rfl ?_
      obtain rfl := Option.some.inj H
      exact R_zret (gxd kX6_isVariable 8 rfl) rfl (Or.inl rfl)
    · replace H := gift q H
      refine R_iconst (v := (1 : Int32)) (gxd kX6_isVariable 5 rfl) rfl ?_
      refine R_goto (gxd kX6_isVariable 6 rfl) (tgt := 15) rfl ?_
      obtain rfl := Option.some.inj H
      exact R_zret (gxd kX6_isVariable 8 rfl) rfl (Or.inr rfl)
def fT_kindOfToken (v1 : Int32) (v2 : Int32) (h : gH) : Option (Int32 × gH) :=
  gg (gin v1 90) <|
  (fT_isDigit (h 11 v1.toNatClampNeg) h).bind fun p2 =>
  if p2.1 = (0 : Int32) then
    (fT_isSmall (h 11 v1.toNatClampNeg) p2.2).bind fun p4 =>
    if p4.1 = (0 : Int32) then
      (fJ_indexOf 1 (((h 11 v1.toNatClampNeg).toUInt32 % 65536).toInt32) p4.2).bind fun p6 =>
      if p6.1 < (0 : Int32) then
        some ((4 : Int32), p6.2)
      else
        some ((h 11 v1.toNatClampNeg), p6.2)
    else
      gg (gin (p4.2 10 7) 91) <|
      glet (hu p4.2 14 (p4.2 10 7).toNatClampNeg ((h 11 v1.toNatClampNeg) - (97 : Int32))) fun h9 =>
      if (v2 - v1) = (1 : Int32) then
        (fX_isVariable ((h 11 v1.toNatClampNeg) - (97 : Int32)) h9).bind fun p13 =>
        if p13.1 = (0 : Int32) then
          some ((4 : Int32), p13.2)
        else
          some ((2 : Int32), p13.2)
      else
        (fT_isDistinctAt v1 v2 h9).bind fun p11 =>
        if p11.1 = (0 : Int32) then
          some ((4 : Int32), p11.2)
        else
          some ((3 : Int32), p11.2)
  else
    (fT_numberAt v1 v2 p2.2).bind fun p15 =>
    gg (gin (p2.2 10 7) 91) <|
    glet (hu p15.2 14 (p2.2 10 7).toNatClampNeg p15.1) fun h18 =>
    if (4 : Int32) < (v2 - v1) then
      some ((4 : Int32), h18)
    else
      some ((1 : Int32), h18)
theorem fT_kindOfToken_ok {v1 : Int32} {v2 : Int32} {h : gH} {x : (Int32 × gH)} (H : fT_kindOfToken v1 v2 h = some x) (d : Nat) : gC yX2_kindOfToken cX2_kindOfToken 4 (some .int) (d + 5) [.ref 10, .int v1, .int v2] h (some (.int x.1)) x.2 := by
  refine gC_of (by decide +kernel) (Nat.le_of_ble_eq_true rfl) rfl ?_
  unfold fT_kindOfToken at H
  refine R_aload_n (gxd kX2_kindOfToken 0 rfl) rfl rfl ?_
  refine R_getr (gxd kX2_kindOfToken 1 rfl) gf_T_11 gk_10 (by decide) rfl ?_
  refine R_iload_n (gxd kX2_kindOfToken 2 rfl) rfl rfl ?_
  obtain ⟨b1, H⟩ := ggi H
  have b1 := gin_in b1
  refine R_iald (gxd kX2_kindOfToken 3 rfl) gk_11 b1 ?_
  refine R_istore_n (gxd kX2_kindOfToken 4 rfl) rfl rfl (Nat.le_of_ble_eq_true rfl) rfl ?_
  refine R_iload_n (gxd kX2_kindOfToken 5 rfl) rfl rfl ?_
  obtain ⟨p2, e3, H⟩ := gbi H
  refine R_callSi (gxd kX2_kindOfToken 6 rfl) gm_T_72 wX2_isDigit (by decide) rfl (Nat.le_of_ble_eq_true rfl) (by omega) (fT_isDigit_ok  e3 (d + 4)) ?_
  refine R_if_eq (gxd kX2_kindOfToken 7 rfl) (tgt := 42) rfl (fun q => ?_) (fun q => ?_)
  · replace H := gift q H
    refine R_iload_n (gxd kX2_kindOfToken 26 rfl) rfl rfl ?_
    obtain ⟨p4, e5, H⟩ := gbi H
    refine R_callSi (gxd kX2_kindOfToken 27 rfl) gm_T_76 wX2_isSmall (by decide) rfl (Nat.le_of_ble_eq_true rfl) (by omega) (fT_isSmall_ok  e5 (d + 4)) ?_
    refine R_if_eq (gxd kX2_kindOfToken 28 rfl) (tgt := 100) rfl (fun q => ?_) (fun q => ?_)
    · replace H := gift q H
      refine R_lds89 rfl (gxd kX2_kindOfToken 60 rfl) ?_
      refine R_iload_n (gxd kX2_kindOfToken 61 rfl) rfl rfl ?_
      refine R_i2c (gxd kX2_kindOfToken 62 rfl) ?_
      obtain ⟨p6, e7, H⟩ := gbi H
      refine R_callTi (gxd kX2_kindOfToken 63 rfl) gm_T_91 wJ0_indexOf_0f7a4 (by decide) gs1 rfl rfl (Nat.le_of_ble_eq_true rfl) (by omega) (fJ_indexOf_ok gs1 e7 (d + 1)) ?_
      refine R_if_lt (gxd kX2_kindOfToken 64 rfl) (tgt := 114) rfl (fun q => ?_) (fun q => ?_)
      · replace H := gift q H
        refine R_iconst (v := (4 : Int32)) (gxd kX2_kindOfToken 67 rfl) rfl ?_
        cases H
        exact R_iret (gxd kX2_kindOfToken 68 rfl) rfl
      · replace H := giff q H
        refine R_iload_n (gxd kX2_kindOfToken 65 rfl) rfl rfl ?_
        refine R_goto (gxd kX2_kindOfToken 66 rfl) (tgt := 115) rfl ?_
        cases H
        exact R_iret (gxd kX2_kindOfToken 68 rfl) rfl
    · replace H := giff q H
      refine R_aload_n (gxd kX2_kindOfToken 29 rfl) rfl rfl ?_
      refine R_getr (gxd kX2_kindOfToken 30 rfl) gf_T_21 gk_10 (by decide) rfl ?_
      refine R_aload_n (gxd kX2_kindOfToken 31 rfl) rfl rfl ?_
      refine R_geti (gxd kX2_kindOfToken 32 rfl) gf_T_57 gk_10 (by decide) rfl ?_
      refine R_iload_n (gxd kX2_kindOfToken 33 rfl) rfl rfl ?_
      refine R_bipush (v := (97 : Int32)) (gxd kX2_kindOfToken 34 rfl) rfl ?_
      refine R_isub (gxd kX2_kindOfToken 35 rfl) ?_
      obtain ⟨b8, H⟩ := ggi H
      have b8 := gin_in b8
      refine R_iast (gxd kX2_kindOfToken 36 rfl) gk_14 b8 ?_
      obtain ⟨h9, e10, H⟩ := glei H
      refine R_heq e10 ?_
      refine R_iload_n (gxd kX2_kindOfToken 37 rfl) rfl rfl ?_
      refine R_iload_n (gxd kX2_kindOfToken 38 rfl) rfl rfl ?_
      refine R_isub (gxd kX2_kindOfToken 39 rfl) ?_
      refine R_iconst (v := (1 : Int32)) (gxd kX2_kindOfToken 40 rfl) rfl ?_
      refine R_icmp_ne (gxd kX2_kindOfToken 41 rfl) (tgt := 85) rfl (fun q => ?_) (fun q => ?_)
      · replace H := giff q H
        refine R_aload_n (gxd kX2_kindOfToken 51 rfl) rfl rfl ?_
        refine R_iload_n (gxd kX2_kindOfToken 52 rfl) rfl rfl ?_
        refine R_iload_n (gxd kX2_kindOfToken 53 rfl) rfl rfl ?_
        obtain ⟨p11, e12, H⟩ := gbi H
        refine R_callVi (gxd kX2_kindOfToken 54 rfl) gm_T_85 wX2_isDistinctAt (by decide) gk_10 rfl rfl (Nat.le_of_ble_eq_true rfl) (by omega) (fT_isDistinctAt_ok  e12 (d + 0)) ?_
        refine R_if_eq (gxd kX2_kindOfToken 55 rfl) (tgt := 98) rfl (fun q => ?_) (fun q => ?_)
        · replace H := gift q H
          refine R_iconst (v := (4 : Int32)) (gxd kX2_kindOfToken 58 rfl) rfl ?_
          cases H
          exact R_iret (gxd kX2_kindOfToken 59 rfl) rfl
        · replace H := giff q H
          refine R_iconst (v := (3 : Int32)) (gxd kX2_kindOfToken 56 rfl) rfl ?_
          refine R_goto (gxd kX2_kindOfToken 57 rfl) (tgt := 99) rfl ?_
          cases H
          exact R_iret (gxd kX2_kindOfToken 59 rfl) rfl
      · replace H := gift q H
        refine R_iload_n (gxd kX2_kindOfToken 42 rfl) rfl rfl ?_
        refine R_bipush (v := (97 : Int32)) (gxd kX2_kindOfToken 43 rfl) rfl ?_
        refine R_isub (gxd kX2_kindOfToken 44 rfl) ?_
        obtain ⟨p13, e14, H⟩ := gbi H
        refine R_callSi (gxd kX2_kindOfToken 45 rfl) gm_T_82 wX6_isVariable (by decide) rfl (Nat.le_of_ble_eq_true rfl) (by omega) (fX_isVariable_ok  e14 (d + 4)) ?_
        refine R_if_eq (gxd kX2_kindOfToken 46 rfl) (tgt := 83) rfl (fun q => ?_) (fun q => ?_)
        · replace H := gift q H
          refine R_iconst (v := (4 : Int32)) (gxd kX2_kindOfToken 49 rfl) rfl ?_
          cases H
          exact R_iret (gxd kX2_kindOfToken 50 rfl) rfl
        · replace H := giff q H
          refine R_iconst (v := (2 : Int32)) (gxd kX2_kindOfToken 47 rfl) rfl ?_
          refine R_goto (gxd kX2_kindOfToken 48 rfl) (tgt := 84) rfl ?_
          cases H
          exact R_iret (gxd kX2_kindOfToken 50 rfl) rfl
  · replace H := giff q H
    refine R_aload_n (gxd kX2_kindOfToken 8 rfl) rfl rfl ?_
    refine R_getr (gxd kX2_kindOfToken 9 rfl) gf_T_21 gk_10 (by decide) rfl ?_
    refine R_aload_n (gxd kX2_kindOfToken 10 rfl) rfl rfl ?_
    refine R_geti (gxd kX2_kindOfToken 11 rfl) gf_T_57 gk_10 (by decide) rfl ?_
    refine R_aload_n (gxd kX2_kindOfToken 12 rfl) rfl rfl ?_
    refine R_iload_n (gxd kX2_kindOfToken 13 rfl) rfl rfl ?_
    refine R_iload_n (gxd kX2_kindOfToken 14 rfl) rfl rfl ?_
    obtain ⟨p15, e16, H⟩ := gbi H
    refine R_callVi (gxd kX2_kindOfToken 15 rfl) gm_T_79 wX2_numberAt (by decide) gk_10 rfl rfl (Nat.le_of_ble_eq_true rfl) (by omega) (fT_numberAt_ok  e16 (d + 4)) ?_
    obtain ⟨b17, H⟩ := ggi H
    have b17 := gin_in b17
    refine R_iast (gxd kX2_kindOfToken 16 rfl) gk_14 b17 ?_
    obtain ⟨h18, e19, H⟩ := glei H
    refine R_heq e19 ?_
    refine R_iload_n (gxd kX2_kindOfToken 17 rfl) rfl rfl ?_
    refine R_iload_n (gxd kX2_kindOfToken 18 rfl) rfl rfl ?_
    refine R_isub (gxd kX2_kindOfToken 19 rfl) ?_
    refine R_iconst (v := (4 : Int32)) (gxd kX2_kindOfToken 20 rfl) rfl ?_
    refine R_icmp_gt (gxd kX2_kindOfToken 21 rfl) (tgt := 40) rfl (fun q => ?_) (fun q => ?_)
    · replace H := gift q H
      refine R_iconst (v := (4 : Int32)) (gxd kX2_kindOfToken 24 rfl) rfl ?_
      cases H
      exact R_iret (gxd kX2_kindOfToken 25 rfl) rfl
    · replace H := giff q H
      refine R_iconst (v := (1 : Int32)) (gxd kX2_kindOfToken 22 rfl) rfl ?_
      refine R_goto (gxd kX2_kindOfToken 23 rfl) (tgt := 41) rfl ?_
      cases H
      exact R_iret (gxd kX2_kindOfToken 25 rfl) rfl
def fT_split_76 (h : gH) : Option gH :=
  (fT_addToken (0 : Int32) (h 10 6) h).bind fun h3 =>
  some h3
theorem fT_split_76_ok {d : Nat}  {h : gH} {x : gH} (H : fT_split_76   h = some x) : gR RX2 cX2_split 4 none (d + 6) 76 [.ref 10, .null, .null, .null] [] h none x := by
  unfold fT_split_76 at H
  refine R_aload_n (gxd kX2_split 43 rfl) rfl rfl ?_
  refine R_iconst (v := (0 : Int32)) (gxd kX2_split 44 rfl) rfl ?_
  refine R_aload_n (gxd kX2_split 45 rfl) rfl rfl ?_
  refine R_geti (gxd kX2_split 46 rfl) gf_T_30 gk_10 (by decide) rfl ?_
  obtain ⟨h3, e4, H⟩ := gbi H
  refine R_callVv (gxd kX2_split 47 rfl) gm_T_68 wX2_addToken (by decide) gk_10 rfl rfl (Nat.le_of_ble_eq_true rfl) (by omega) (fT_addToken_ok  e4 (d + 5)) ?_
  cases H
  exact R_vret (gxd kX2_split 48 rfl) rfl
def fT_split_9 : Nat → Int32 → Int32 → gH → Option gH
  | 0, _, _, _ => none
  | n + 1, v1, v2, h =>
    if v2 < (90 : Int32) then
      if v1 < (h 10 6) then
        gg (gin v1 90) <|
        if (h 11 v1.toNatClampNeg) = (32 : Int32) then
          fT_split_9 n (v1 + (1 : Int32)) (v2 + (1 : Int32)) h
        else
          gg (gin v1 90) <|
          if (h 11 v1.toNatClampNeg) = (10 : Int32) then
            fT_split_9 n (v1 + (1 : Int32)) (v2 + (1 : Int32)) h
          else
            (fT_endOfToken v1 h).bind fun p7 =>
            (fT_kindOfToken v1 p7.1 p7.2).bind fun p9 =>
            (fT_addToken p9.1 v1 p9.2).bind fun h11 =>
            fT_split_9 n p7.1 (v2 + (1 : Int32)) h11
      else
        fT_split_76 h
    else
      fT_split_76 h
theorem fT_split_9_ok {d : Nat}  : ∀ (n : Nat) (v1 : Int32) (v2 : Int32) (h : gH) (x : gH), fT_split_9  n v1 v2 h = some x → gR RX2 cX2_split 4 none (d + 6) 9 [.ref 10, .int v1, .int v2, .null] [] h none x := by
  intro n
  induction n with
  | zero => intro v1 v2 h x  H; exact g0 H
  | succ n ih =>
    intro v1 v2 h x  H
    unfold fT_split_9 at H
    refine R_iload_n (gxd kX2_split 7 rfl) rfl rfl ?_
    refine R_bipush (v := (90 : Int32)) (gxd kX2_split 8 rfl) rfl ?_
    refine R_icmp_ge (gxd kX2_split 9 rfl) (tgt := 76) rfl (fun q => ?_) (fun q => ?_)
    · replace H := giff q H
      exact R_weak (gle_same (gle_null (gle_null (gle_null gle_nil)))) (fT_split_76_ok  H)
    · replace H := gift q H
      refine R_iload_n (gxd kX2_split 10 rfl) rfl rfl ?_
      refine R_aload_n (gxd kX2_split 11 rfl) rfl rfl ?_
      refine R_geti (gxd kX2_split 12 rfl) gf_T_30 gk_10 (by decide) rfl ?_
      refine R_icmp_ge (gxd kX2_split 13 rfl) (tgt := 76) rfl (fun q => ?_) (fun q => ?_)
      · replace H := giff q H
        exact R_weak (gle_same (gle_null (gle_null (gle_null gle_nil)))) (fT_split_76_ok  H)
      · replace H := gift q H
        refine R_aload_n (gxd kX2_split 14 rfl) rfl rfl ?_
        refine R_getr (gxd kX2_split 15 rfl) gf_T_11 gk_10 (by decide) rfl ?_
        refine R_iload_n (gxd kX2_split 16 rfl) rfl rfl ?_
        obtain ⟨b5, H⟩ := ggi H
        have b5 := gin_in b5
        refine R_iald (gxd kX2_split 17 rfl) gk_11 b5 ?_
        refine R_bipush (v := (32 : Int32)) (gxd kX2_split 18 rfl) rfl ?_
        refine R_icmp_eq (gxd kX2_split 19 rfl) (tgt := 45) rfl (fun q => ?_) (fun q => ?_)
        · replace H := gift q H
          refine R_iinc (v := (v1 + (1 : Int32))) (gxd kX2_split 26 rfl) rfl rfl rfl (Nat.le_of_ble_eq_true rfl) rfl ?_
          refine R_goto (gxd kX2_split 27 rfl) (tgt := 70) rfl ?_
          refine R_iinc (v := (v2 + (1 : Int32))) (gxd kX2_split 41 rfl) rfl rfl rfl (Nat.le_of_ble_eq_true rfl) rfl ?_
          refine R_goto (gxd kX2_split 42 rfl) (tgt := 9) rfl ?_
          exact R_weak (gle_same (gle_same (gle_same (gle_null gle_nil)))) (ih _ _ _ _  H)
        · replace H := giff q H
          refine R_aload_n (gxd kX2_split 20 rfl) rfl rfl ?_
          refine R_getr (gxd kX2_split 21 rfl) gf_T_11 gk_10 (by decide) rfl ?_
          refine R_iload_n (gxd kX2_split 22 rfl) rfl rfl ?_
          obtain ⟨b6, H⟩ := ggi H
          have b6 := gin_in b6
          refine R_iald (gxd kX2_split 23 rfl) gk_11 b6 ?_
          refine R_bipush (v := (10 : Int32)) (gxd kX2_split 24 rfl) rfl ?_
          refine R_icmp_ne (gxd kX2_split 25 rfl) (tgt := 51) rfl (fun q => ?_) (fun q => ?_)
          · replace H := giff q H
            refine R_aload_n (gxd kX2_split 28 rfl) rfl rfl ?_
            refine R_iload_n (gxd kX2_split 29 rfl) rfl rfl ?_
            obtain ⟨p7, e8, H⟩ := gbi H
            refine R_callVi (gxd kX2_split 30 rfl) gm_T_60 wX2_endOfToken (by decide) gk_10 rfl rfl (Nat.le_of_ble_eq_true rfl) (by omega) (fT_endOfToken_ok  e8 (d + 4)) ?_
            refine R_istore_n (gxd kX2_split 31 rfl) rfl rfl (Nat.le_of_ble_eq_true rfl) rfl ?_
            refine R_aload_n (gxd kX2_split 32 rfl) rfl rfl ?_
            refine R_aload_n (gxd kX2_split 33 rfl) rfl rfl ?_
            refine R_iload_n (gxd kX2_split 34 rfl) rfl rfl ?_
            refine R_iload_n (gxd kX2_split 35 rfl) rfl rfl ?_
            obtain ⟨p9, e10, H⟩ := gbi H
            refine R_callVi (gxd kX2_split 36 rfl) gm_T_64 wX2_kindOfToken (by decide) gk_10 rfl rfl (Nat.le_of_ble_eq_true rfl) (by omega) (fT_kindOfToken_ok  e10 (d + 0)) ?_
            refine R_iload_n (gxd kX2_split 37 rfl) rfl rfl ?_
            obtain ⟨h11, e12, H⟩ := gbi H
            refine R_callVv (gxd kX2_split 38 rfl) gm_T_68 wX2_addToken (by decide) gk_10 rfl rfl (Nat.le_of_ble_eq_true rfl) (by omega) (fT_addToken_ok  e12 (d + 5)) ?_
            refine R_iload_n (gxd kX2_split 39 rfl) rfl rfl ?_
            refine R_istore_n (gxd kX2_split 40 rfl) rfl rfl (Nat.le_of_ble_eq_true rfl) rfl ?_
            refine R_iinc (v := (v2 + (1 : Int32))) (gxd kX2_split 41 rfl) rfl rfl rfl (Nat.le_of_ble_eq_true rfl) rfl ?_
            refine R_goto (gxd kX2_split 42 rfl) (tgt := 9) rfl ?_
            exact R_weak (gle_same (gle_same (gle_same (gle_null gle_nil)))) (ih _ _ _ _  H)
          · replace H := gift q H
            refine R_iinc (v := (v1 + (1 : Int32))) (gxd kX2_split 26 rfl) rfl rfl rfl (Nat.le_of_ble_eq_true rfl) rfl ?_
            refine R_goto (gxd kX2_split 27 rfl) (tgt := 70) rfl ?_
            refine R_iinc (v := (v2 + (1 : Int32))) (gxd kX2_split 41 rfl) rfl rfl rfl (Nat.le_of_ble_eq_true rfl) rfl ?_
            refine R_goto (gxd kX2_split 42 rfl) (tgt := 9) rfl ?_
            exact R_weak (gle_same (gle_same (gle_same (gle_null gle_nil)))) (ih _ _ _ _  H)
def fT_split (h : gH) : Option gH :=
  glet (hu h 10 7 (0 : Int32)) fun h1 =>
  fT_split_9 gfu (0 : Int32) (0 : Int32) h1
theorem fT_split_ok {h : gH} {x : gH} (H : fT_split  h = some x) (d : Nat) : gC yX2_split cX2_split 4 none (d + 6) [.ref 10] h none x := by
  refine gC_of (by decide +kernel) (Nat.le_of_ble_eq_true rfl) rfl ?_
  unfold fT_split at H
  refine R_aload_n (gxd kX2_split 0 rfl) rfl rfl ?_
  refine R_iconst (v := (0 : Int32)) (gxd kX2_split 1 rfl) rfl ?_
  refine R_puti (gxd kX2_split 2 rfl) gf_T_57 gp_2_7 gk_10 (by decide) rfl ?_
  obtain ⟨h1, e2, H⟩ := glei H
  refine R_heq e2 ?_
  refine R_iconst (v := (0 : Int32)) (gxd kX2_split 3 rfl) rfl ?_
  refine R_istore_n (gxd kX2_split 4 rfl) rfl rfl (Nat.le_of_ble_eq_true rfl) rfl ?_
  refine R_iconst (v := (0 : Int32)) (gxd kX2_split 5 rfl) rfl ?_
  refine R_istore_n (gxd kX2_split 6 rfl) rfl rfl (Nat.le_of_ble_eq_true rfl) rfl ?_
  exact R_weak (gle_same (gle_same (gle_same (gle_null gle_nil)))) (fT_split_9_ok  gfu _ _ _ _  H)
def fT_emit (v1 : Int32) (h : gH) : Option gH :=
  if (h 10 9) < (90 : Int32) then
    gg (gin (h 10 9) 90) <|
    glet (hu h 15 (h 10 9).toNatClampNeg v1) fun h2 =>
    some (hu h2 10 9 ((h2 10 9) + (1 : Int32)))
  else
    some h
theorem fT_emit_ok {v1 : Int32} {h : gH} {x : gH} (H : fT_emit v1 h = some x) (d : Nat) : gC yX2_emit cX2_emit 2 none (d + 0) [.ref 10, .int v1] h none x := by
  refine gC_of (by decide +kernel) (Nat.le_of_ble_eq_true rfl) rfl ?_
  unfold fT_emit at H
  refine R_aload_n (gxd kX2_emit 0 rfl) rfl rfl ?_
  refine R_geti (gxd kX2_emit 1 rfl) gf_T_40 gk_10 (by decide) rfl ?_
  refine R_aload_n (gxd kX2_emit 2 rfl) rfl rfl ?_
  refine R_getr (gxd kX2_emit 3 rfl) gf_T_24 gk_10 (by decide) rfl ?_
  refine R_alen (v := (90 : Int32)) (gxd kX2_emit 4 rfl) gk_15 rfl ?_
  refine R_icmp_ge (gxd kX2_emit 5 rfl) (tgt := 32) rfl (fun q => ?_) (fun q => ?_)
  · replace H := giff q H
    cases H
    exact R_vret (gxd kX2_emit 18 rfl) rfl
  · replace H := gift q H
    refine R_aload_n (gxd kX2_emit 6 rfl) rfl rfl ?_
    refine R_getr (gxd kX2_emit 7 rfl) gf_T_24 gk_10 (by decide) rfl ?_
    refine R_aload_n (gxd kX2_emit 8 rfl) rfl rfl ?_
    refine R_geti (gxd kX2_emit 9 rfl) gf_T_40 gk_10 (by decide) rfl ?_
    refine R_iload_n (gxd kX2_emit 10 rfl) rfl rfl ?_
    obtain ⟨b1, H⟩ := ggi H
    have b1 := gin_in b1
    refine R_iast (gxd kX2_emit 11 rfl) gk_15 b1 ?_
    obtain ⟨h2, e3, H⟩ := glei H
    refine R_heq e3 ?_
    refine R_aload_n (gxd kX2_emit 12 rfl) rfl rfl ?_
    refine R_dup (gxd kX2_emit 13 rfl) rfl ?_
    refine R_geti (gxd kX2_emit 14 rfl) gf_T_40 gk_10 (by decide) rfl ?_
    refine R_iconst (v := (1 : Int32)) (gxd kX2_emit 15 rfl) rfl ?_
    refine R_iadd (gxd kX2_emit 16 rfl) ?_
    refine R_puti (gxd kX2_emit 17 rfl) gf_T_40 gp_2_9 gk_10 (by decide) rfl ?_
    cases H
    exact R_vret (gxd kX2_emit 18 rfl) rfl
def fT_bracketed (R : Nat → Int32 → gH → Option (Int32 × gH)) (v1 : Int32) (h : gH) : Option (Int32 × gH) :=
  (fT_pass h).bind fun h1 =>
  (R 2 v1 h1).bind fun p3 =>
  if p3.1 = (0 : Int32) then
    some ((0 : Int32), p3.2)
  else
    (fT_token p3.2).bind fun p5 =>
    if p5.1 = (41 : Int32) then
      (fT_pass p5.2).bind fun h7 =>
      some ((1 : Int32), h7)
    else
      some ((0 : Int32), p5.2)
theorem fT_bracketed_ok {d : Nat} {R : Nat → Int32 → gH → Option (Int32 × gH)} {v1 : Int32} (hR0 : ∀ a h x, R 0 a h = some x → gC yX2_one cX2_one 3 (some .boolean) (d + 1) [.ref 10, .int a] h (some (.int x.1)) x.2) (hR1 : ∀ a h x, R 1 a h = some x → gC yX2_bracketed cX2_bracketed 2 (some .boolean) (d + 1) [.ref 10, .int a] h (some (.int x.1)) x.2) (hR2 : ∀ a h x, R 2 a h = some x → gC yX2_sum cX2_sum 4 (some .boolean) (d + 1) [.ref 10, .int a] h (some (.int x.1)) x.2) (hR3 : ∀ a h x, R 3 a h = some x → gC yX2_term cX2_term 3 (some .boolean) (d + 1) [.ref 10, .int a] h (some (.int x.1)) x.2) {h : gH} {x : (Int32 × gH)} (H : fT_bracketed R v1 h = some x) : gC yX2_bracketed cX2_bracketed 2 (some .boolean) (d + 2) [.ref 10, .int v1] h (some (.int x.1)) x.2 := by
  refine gC_of (by decide +kernel) (Nat.le_of_ble_eq_true rfl) rfl ?_
  unfold fT_bracketed at H
  refine R_aload_n (gxd kX2_bracketed 0 rfl) rfl rfl ?_
  obtain ⟨h1, e2, H⟩ := gbi H
  refine R_callVv (gxd kX2_bracketed 1 rfl) gm_T_107 wX2_pass (by decide) gk_10 rfl rfl (Nat.le_of_ble_eq_true rfl) (by omega) (fT_pass_ok  e2 (d + 1)) ?_
  refine R_aload_n (gxd kX2_bracketed 2 rfl) rfl rfl ?_
  refine R_iload_n (gxd kX2_bracketed 3 rfl) rfl rfl ?_
  obtain ⟨p3, e4, H⟩ := gbi H
  refine R_callVi (gxd kX2_bracketed 4 rfl) gm_T_113 wX2_sum (by decide) gk_10 rfl rfl (Nat.le_of_ble_eq_true rfl) (by omega) (hR2 _ _ _ e4) ?_
  refine R_if_eq (gxd kX2_bracketed 5 rfl) (tgt := 21) rfl (fun q => ?_) (fun q => ?_)
  · replace H := gift q H
    refine R_iconst (v := (0 : Int32)) (gxd kX2_bracketed 10 rfl) rfl ?_
    cases H
    exact R_zret (gxd kX2_bracketed 11 rfl) rfl (Or.inl rfl)
  · replace H := giff q H
    refine R_aload_n (gxd kX2_bracketed 6 rfl) rfl rfl ?_
    obtain ⟨p5, e6, H⟩ := gbi H
    refine R_callVi (gxd kX2_bracketed 7 rfl) gm_T_46 wX2_token (by decide) gk_10 rfl rfl (Nat.le_of_ble_eq_true rfl) (by omega) (fT_token_ok  e6 (d + 1)) ?_
    refine R_bipush (v := (41 : Int32)) (gxd kX2_bracketed 8 rfl) rfl ?_
    refine R_icmp_eq (gxd kX2_bracketed 9 rfl) (tgt := 23) rfl (fun q => ?_) (fun q => ?_)
    · replace H := gift q H
      refine R_aload_n (gxd kX2_bracketed 12 rfl) rfl rfl ?_
      obtain ⟨h7, e8, H⟩ := gbi H
      refine R_callVv (gxd kX2_bracketed 13 rfl) gm_T_107 wX2_pass (by decide) gk_10 rfl rfl (Nat.le_of_ble_eq_true rfl) (by omega) (fT_pass_ok  e8 (d + 1)) ?_
      refine R_iconst (v := (1 : Int32)) (gxd kX2_bracketed 14 rfl) rfl ?_
      cases H
      exact R_zret (gxd kX2_bracketed 15 rfl) rfl (Or.inr rfl)
    · replace H := giff q H
      refine R_iconst (v := (0 : Int32)) (gxd kX2_bracketed 10 rfl) rfl ?_
      cases H
      exact R_zret (gxd kX2_bracketed 11 rfl) rfl (Or.inl rfl)
def fT_named (h : gH) : Option (Int32 × gH) :=
  gg (gin (h 10 8) 91) <|
  (fJ_bitCount ((h 10 11) ||| ((1 : Int32) <<< ((h 14 (h 10 8).toNatClampNeg) &&& 31))) h).bind fun p2 =>
  if (3 : Int32) < p2.1 then
    some ((0 : Int32), p2.2)
  else
    glet (hu p2.2 10 11 ((h 10 11) ||| ((1 : Int32) <<< ((h 14 (h 10 8).toNatClampNeg) &&& 31)))) fun h4 =>
    gg (gin (h4 10 8) 91) <|
    (fT_emit ((10000 : Int32) + (h4 14 (h4 10 8).toNatClampNeg)) h4).bind fun h7 =>
    (fT_pass h7).bind fun h9 =>
    some ((1 : Int32), h9)
theorem fT_named_ok {h : gH} {x : (Int32 × gH)} (H : fT_named  h = some x) (d : Nat) : gC yX2_named cX2_named 2 (some .boolean) (d + 1) [.ref 10] h (some (.int x.1)) x.2 := by
  refine gC_of (by decide +kernel) (Nat.le_of_ble_eq_true rfl) rfl ?_
  unfold fT_named at H
  refine R_aload_n (gxd kX2_named 0 rfl) rfl rfl ?_
  refine R_geti (gxd kX2_named 1 rfl) gf_T_43 gk_10 (by decide) rfl ?_
  refine R_iconst (v := (1 : Int32)) (gxd kX2_named 2 rfl) rfl ?_
  refine R_aload_n (gxd kX2_named 3 rfl) rfl rfl ?_
  refine R_getr (gxd kX2_named 4 rfl) gf_T_21 gk_10 (by decide) rfl ?_
  refine R_aload_n (gxd kX2_named 5 rfl) rfl rfl ?_
  refine R_geti (gxd kX2_named 6 rfl) gf_T_37 gk_10 (by decide) rfl ?_
  obtain ⟨b1, H⟩ := ggi H
  have b1 := gin_in b1
  refine R_iald (gxd kX2_named 7 rfl) gk_14 b1 ?_
  refine R_ishl (gxd kX2_named 8 rfl) ?_
  refine R_ior (gxd kX2_named 9 rfl) ?_
  refine R_istore_n (gxd kX2_named 10 rfl) rfl rfl (Nat.le_of_ble_eq_true rfl) rfl ?_
  refine R_iload_n (gxd kX2_named 11 rfl) rfl rfl ?_
  obtain ⟨p2, e3, H⟩ := gbi H
  refine R_callSi (gxd kX2_named 12 rfl) gm_T_135 wJ6_bitCount_0f7a4 (by decide) rfl (Nat.le_of_ble_eq_true rfl) (by omega) (fJ_bitCount_ok  e3 (d + 0)) ?_
  refine R_iconst (v := (3 : Int32)) (gxd kX2_named 13 rfl) rfl ?_
  refine R_icmp_le (gxd kX2_named 14 rfl) (tgt := 27) rfl (fun q => ?_) (fun q => ?_)
  · replace H := giff q H
    refine R_aload_n (gxd kX2_named 17 rfl) rfl rfl ?_
    refine R_iload_n (gxd kX2_named 18 rfl) rfl rfl ?_
    refine R_puti (gxd kX2_named 19 rfl) gf_T_43 gp_2_11 gk_10 (by decide) rfl ?_
    obtain ⟨h4, e5, H⟩ := glei H
    refine R_heq e5 ?_
    refine R_aload_n (gxd kX2_named 20 rfl) rfl rfl ?_
    refine R_sipush (v := (10000 : Int32)) (gxd kX2_named 21 rfl) rfl ?_
    refine R_aload_n (gxd kX2_named 22 rfl) rfl rfl ?_
    refine R_getr (gxd kX2_named 23 rfl) gf_T_21 gk_10 (by decide) rfl ?_
    refine R_aload_n (gxd kX2_named 24 rfl) rfl rfl ?_
    refine R_geti (gxd kX2_named 25 rfl) gf_T_37 gk_10 (by decide) rfl ?_
    obtain ⟨b6, H⟩ := ggi H
    have b6 := gin_in b6
    refine R_iald (gxd kX2_named 26 rfl) gk_14 b6 ?_
    refine R_iadd (gxd kX2_named 27 rfl) ?_
    obtain ⟨h7, e8, H⟩ := gbi H
    refine R_callVv (gxd kX2_named 28 rfl) gm_T_122 wX2_emit (by decide) gk_10 rfl rfl (Nat.le_of_ble_eq_true rfl) (by omega) (fT_emit_ok  e8 (d + 0)) ?_
    refine R_aload_n (gxd kX2_named 29 rfl) rfl rfl ?_
    obtain ⟨h9, e10, H⟩ := gbi H
    refine R_callVv (gxd kX2_named 30 rfl) gm_T_107 wX2_pass (by decide) gk_10 rfl rfl (Nat.le_of_ble_eq_true rfl) (by omega) (fT_pass_ok  e10 (d + 0)) ?_
    refine R_iconst (v := (1 : Int32)) (gxd kX2_named 31 rfl) rfl ?_
    cases H
    exact R_zret (gxd kX2_named 32 rfl) rfl (Or.inr rfl)
  · replace H := gift q H
    refine R_iconst (v := (0 : Int32)) (gxd kX2_named 15 rfl) rfl ?_
    cases H
    exact R_zret (gxd kX2_named 16 rfl) rfl (Or.inl rfl)
def fT_one (R : Nat → Int32 → gH → Option (Int32 × gH)) (v1 : Int32) (h : gH) : Option (Int32 × gH) :=
  (fT_token h).bind fun p1 =>
  if p1.1 = (1 : Int32) then
    gg (gin (p1.2 10 8) 91) <|
    (fT_emit (p1.2 14 (p1.2 10 8).toNatClampNeg) p1.2).bind fun h22 =>
    (fT_pass h22).bind fun h24 =>
    some ((1 : Int32), h24)
  else
    (fT_token p1.2).bind fun p3 =>
    if p3.1 = (2 : Int32) then
      (fT_named p3.2).bind fun p18 =>
      gg (gbo p18.1) <|
      some (p18.1, p18.2)
    else
      if v1 < (5 : Int32) then
        (fT_token p3.2).bind fun p5 =>
        if p5.1 = (45 : Int32) then
          (fT_pass p5.2).bind fun h11 =>
          (R 0 (v1 + (1 : Int32)) h11).bind fun p13 =>
          (fT_emit (10008 : Int32) p13.2).bind fun h15 =>
          gg (gbo p13.1) <|
          some (p13.1, h15)
        else
          (fT_token p5.2).bind fun p7 =>
          if p7.1 = (40 : Int32) then
            (R 1 (v1 + (1 : Int32)) p7.2).bind fun p9 =>
            if p9.1 = (0 : Int32) then
              some ((0 : Int32), p9.2)
            else
              some ((1 : Int32), p9.2)
          else
            some ((0 : Int32), p7.2)
      else
        some ((0 : Int32), p3.2)
theorem fT_one_ok {d : Nat} {R : Nat → Int32 → gH → Option (Int32 × gH)} {v1 : Int32} (hR0 : ∀ a h x, R 0 a h = some x → gC yX2_one cX2_one 3 (some .boolean) (d + 1) [.ref 10, .int a] h (some (.int x.1)) x.2) (hR1 : ∀ a h x, R 1 a h = some x → gC yX2_bracketed cX2_bracketed 2 (some .boolean) (d + 1) [.ref 10, .int a] h (some (.int x.1)) x.2) (hR2 : ∀ a h x, R 2 a h = some x → gC yX2_sum cX2_sum 4 (some .boolean) (d + 1) [.ref 10, .int a] h (some (.int x.1)) x.2) (hR3 : ∀ a h x, R 3 a h = some x → gC yX2_term cX2_term 3 (some .boolean) (d + 1) [.ref 10, .int a] h (some (.int x.1)) x.2) {h : gH} {x : (Int32 × gH)} (H : fT_one R v1 h = some x) : gC yX2_one cX2_one 3 (some .boolean) (d + 2) [.ref 10, .int v1] h (some (.int x.1)) x.2 := by
  refine gC_of (by decide +kernel) (Nat.le_of_ble_eq_true rfl) rfl ?_
  unfold fT_one at H
  refine R_aload_n (gxd kX2_one 0 rfl) rfl rfl ?_
  obtain ⟨p1, e2, H⟩ := gbi H
  refine R_callVi (gxd kX2_one 1 rfl) gm_T_46 wX2_token (by decide) gk_10 rfl rfl (Nat.le_of_ble_eq_true rfl) (by omega) (fT_token_ok  e2 (d + 1)) ?_
  refine R_iconst (v := (1 : Int32)) (gxd kX2_one 2 rfl) rfl ?_
  refine R_icmp_ne (gxd kX2_one 3 rfl) (tgt := 27) rfl (fun q => ?_) (fun q => ?_)
  · replace H := giff q H
    refine R_aload_n (gxd kX2_one 15 rfl) rfl rfl ?_
    obtain ⟨p3, e4, H⟩ := gbi H
    refine R_callVi (gxd kX2_one 16 rfl) gm_T_46 wX2_token (by decide) gk_10 rfl rfl (Nat.le_of_ble_eq_true rfl) (by omega) (fT_token_ok  e4 (d + 1)) ?_
    refine R_iconst (v := (2 : Int32)) (gxd kX2_one 17 rfl) rfl ?_
    refine R_icmp_ne (gxd kX2_one 18 rfl) (tgt := 40) rfl (fun q => ?_) (fun q => ?_)
    · replace H := giff q H
      refine R_iload_n (gxd kX2_one 22 rfl) rfl rfl ?_
      refine R_iconst (v := (5 : Int32)) (gxd kX2_one 23 rfl) rfl ?_
      refine R_icmp_lt (gxd kX2_one 24 rfl) (tgt := 47) rfl (fun q => ?_) (fun q => ?_)
      · replace H := gift q H
        refine R_aload_n (gxd kX2_one 27 rfl) rfl rfl ?_
        obtain ⟨p5, e6, H⟩ := gbi H
        refine R_callVi (gxd kX2_one 28 rfl) gm_T_46 wX2_token (by decide) gk_10 rfl rfl (Nat.le_of_ble_eq_true rfl) (by omega) (fT_token_ok  e6 (d + 1)) ?_
        refine R_bipush (v := (45 : Int32)) (gxd kX2_one 29 rfl) rfl ?_
        refine R_icmp_ne (gxd kX2_one 30 rfl) (tgt := 77) rfl (fun q => ?_) (fun q => ?_)
        · replace H := giff q H
          refine R_aload_n (gxd kX2_one 44 rfl) rfl rfl ?_
          obtain ⟨p7, e8, H⟩ := gbi H
          refine R_callVi (gxd kX2_one 45 rfl) gm_T_46 wX2_token (by decide) gk_10 rfl rfl (Nat.le_of_ble_eq_true rfl) (by omega) (fT_token_ok  e8 (d + 1)) ?_
          refine R_bipush (v := (40 : Int32)) (gxd kX2_one 46 rfl) rfl ?_
          refine R_icmp_ne (gxd kX2_one 47 rfl) (tgt := 100) rfl (fun q => ?_) (fun q => ?_)
          · replace H := giff q H
            refine R_iconst (v := (0 : Int32)) (gxd kX2_one 56 rfl) rfl ?_
            cases H
            exact R_zret (gxd kX2_one 57 rfl) rfl (Or.inl rfl)
          · replace H := gift q H
            refine R_aload_n (gxd kX2_one 48 rfl) rfl rfl ?_
            refine R_iload_n (gxd kX2_one 49 rfl) rfl rfl ?_
            refine R_iconst (v := (1 : Int32)) (gxd kX2_one 50 rfl) rfl ?_
            refine R_iadd (gxd kX2_one 51 rfl) ?_
            obtain ⟨p9, e10, H⟩ := gbi H
            refine R_callVi (gxd kX2_one 52 rfl) gm_T_132 wX2_bracketed (by decide) gk_10 rfl rfl (Nat.le_of_ble_eq_true rfl) (by omega) (hR1 _ _ _ e10) ?_
            refine R_if_eq (gxd kX2_one 53 rfl) (tgt := 100) rfl (fun q => ?_) (fun q => ?_)
            · replace H := gift q H
              refine R_iconst (v := (0 : Int32)) (gxd kX2_one 56 rfl) rfl ?_
              cases H
              exact R_zret (gxd kX2_one 57 rfl) rfl (Or.inl rfl)
            · replace H := giff q H
              refine R_iconst (v := (1 : Int32)) (gxd kX2_one 54 rfl) rfl ?_
              refine R_goto (gxd kX2_one 55 rfl) (tgt := 101) rfl ?_
              cases H
              exact R_zret (gxd kX2_one 57 rfl) rfl (Or.inr rfl)
        · replace H := gift q H
          refine R_aload_n (gxd kX2_one 31 rfl) rfl rfl ?_
          obtain ⟨h11, e12, H⟩ := gbi H
          refine R_callVv (gxd kX2_one 32 rfl) gm_T_107 wX2_pass (by decide) gk_10 rfl rfl (Nat.le_of_ble_eq_true rfl) (by omega) (fT_pass_ok  e12 (d + 1)) ?_
          refine R_aload_n (gxd kX2_one 33 rfl) rfl rfl ?_
          refine R_iload_n (gxd kX2_one 34 rfl) rfl rfl ?_
          refine R_iconst (v := (1 : Int32)) (gxd kX2_one 35 rfl) rfl ?_
          refine R_iadd (gxd kX2_one 36 rfl) ?_
          obtain ⟨p13, e14, H⟩ := gbi H
          refine R_callVi (gxd kX2_one 37 rfl) gm_T_126 wX2_one (by decide) gk_10 rfl rfl (Nat.le_of_ble_eq_true rfl) (by omega) (hR0 _ _ _ e14) ?_
          refine R_istore_n (gxd kX2_one 38 rfl) rfl rfl (Nat.le_of_ble_eq_true rfl) rfl ?_
          refine R_aload_n (gxd kX2_one 39 rfl) rfl rfl ?_
          refine R_sipush (v := (10008 : Int32)) (gxd kX2_one 40 rfl) rfl ?_
          obtain ⟨h15, e16, H⟩ := gbi H
          refine R_callVv (gxd kX2_one 41 rfl) gm_T_122 wX2_emit (by decide) gk_10 rfl rfl (Nat.le_of_ble_eq_true rfl) (by omega) (fT_emit_ok  e16 (d + 1)) ?_
          refine R_iload_n (gxd kX2_one 42 rfl) rfl rfl ?_
          obtain ⟨b17, H⟩ := ggi H
          have b17 := gbo_or b17
          cases H
          exact R_zret (gxd kX2_one 43 rfl) rfl b17
      · replace H := giff q H
        refine R_iconst (v := (0 : Int32)) (gxd kX2_one 25 rfl) rfl ?_
        cases H
        exact R_zret (gxd kX2_one 26 rfl) rfl (Or.inl rfl)
    · replace H := gift q H
      refine R_aload_n (gxd kX2_one 19 rfl) rfl rfl ?_
      obtain ⟨p18, e19, H⟩ := gbi H
      refine R_callVi (gxd kX2_one 20 rfl) gm_T_129 wX2_named (by decide) gk_10 rfl rfl (Nat.le_of_ble_eq_true rfl) (by omega) (fT_named_ok  e19 (d + 0)) ?_
      obtain ⟨b20, H⟩ := ggi H
      have b20 := gbo_or b20
      cases H
      exact R_zret (gxd kX2_one 21 rfl) rfl b20
  · replace H := gift q H
    refine R_aload_n (gxd kX2_one 4 rfl) rfl rfl ?_
    refine R_aload_n (gxd kX2_one 5 rfl) rfl rfl ?_
    refine R_getr (gxd kX2_one 6 rfl) gf_T_21 gk_10 (by decide) rfl ?_
    refine R_aload_n (gxd kX2_one 7 rfl) rfl rfl ?_
    refine R_geti (gxd kX2_one 8 rfl) gf_T_37 gk_10 (by decide) rfl ?_
    obtain ⟨b21, H⟩ := ggi H
    have b21 := gin_in b21
    refine R_iald (gxd kX2_one 9 rfl) gk_14 b21 ?_
    obtain ⟨h22, e23, H⟩ := gbi H
    refine R_callVv (gxd kX2_one 10 rfl) gm_T_122 wX2_emit (by decide) gk_10 rfl rfl (Nat.le_of_ble_eq_true rfl) (by omega) (fT_emit_ok  e23 (d + 1)) ?_
    refine R_aload_n (gxd kX2_one 11 rfl) rfl rfl ?_
    obtain ⟨h24, e25, H⟩ := gbi H
    refine R_callVv (gxd kX2_one 12 rfl) gm_T_107 wX2_pass (by decide) gk_10 rfl rfl (Nat.le_of_ble_eq_true rfl) (by omega) (fT_pass_ok  e25 (d + 1)) ?_
    refine R_iconst (v := (1 : Int32)) (gxd kX2_one 13 rfl) rfl ?_
    cases H
    exact R_zret (gxd kX2_one 14 rfl) rfl (Or.inr rfl)
def fT_term_12 (R : Nat → Int32 → gH → Option (Int32 × gH)) (v1 : Int32) : Nat → Int32 → gH → Option (Int32 × gH)
  | 0, _, _ => none
  | n + 1, v2, h =>
    if v2 < (90 : Int32) then
      (fT_token h).bind fun p3 =>
      if p3.1 = (42 : Int32) then
        (fT_pass p3.2).bind fun h5 =>
        (R 0 v1 h5).bind fun p7 =>
        if p7.1 = (0 : Int32) then
          some ((0 : Int32), p7.2)
        else
          (fT_emit (10142 : Int32) p7.2).bind fun h9 =>
          fT_term_12 R v1 n (v2 + (1 : Int32)) h9
      else
        some ((1 : Int32), p3.2)
    else
      some ((1 : Int32), h)
theorem fT_term_12_ok {d : Nat} {R : Nat → Int32 → gH → Option (Int32 × gH)} {v1 : Int32} (hR0 : ∀ a h x, R 0 a h = some x → gC yX2_one cX2_one 3 (some .boolean) (d + 1) [.ref 10, .int a] h (some (.int x.1)) x.2) (hR1 : ∀ a h x, R 1 a h = some x → gC yX2_bracketed cX2_bracketed 2 (some .boolean) (d + 1) [.ref 10, .int a] h (some (.int x.1)) x.2) (hR2 : ∀ a h x, R 2 a h = some x → gC yX2_sum cX2_sum 4 (some .boolean) (d + 1) [.ref 10, .int a] h (some (.int x.1)) x.2) (hR3 : ∀ a h x, R 3 a h = some x → gC yX2_term cX2_term 3 (some .boolean) (d + 1) [.ref 10, .int a] h (some (.int x.1)) x.2)  : ∀ (n : Nat) (v2 : Int32) (h : gH) (x : (Int32 × gH)), fT_term_12 R v1 n v2 h = some x → gR RX2 cX2_term 3 (some .boolean) (d + 2) 12 [.ref 10, .int v1, .int v2] [] h (some (.int x.1)) x.2 := by
  intro n
  induction n with
  | zero => intro v2 h x  H; exact g0 H
  | succ n ih =>
    intro v2 h x  H
    unfold fT_term_12 at H
    refine R_iload_n (gxd kX2_term 8 rfl) rfl rfl ?_
    refine R_bipush (v := (90 : Int32)) (gxd kX2_term 9 rfl) rfl ?_
    refine R_icmp_ge (gxd kX2_term 10 rfl) (tgt := 54) rfl (fun q => ?_) (fun q => ?_)
    · replace H := giff q H
      refine R_iconst (v := (1 : Int32)) (gxd kX2_term 28 rfl) rfl ?_
      cases H
      exact R_zret (gxd kX2_term 29 rfl) rfl (Or.inr rfl)
    · replace H := gift q H
      refine R_aload_n (gxd kX2_term 11 rfl) rfl rfl ?_
      obtain ⟨p3, e4, H⟩ := gbi H
      refine R_callVi (gxd kX2_term 12 rfl) gm_T_46 wX2_token (by decide) gk_10 rfl rfl (Nat.le_of_ble_eq_true rfl) (by omega) (fT_token_ok  e4 (d + 1)) ?_
      refine R_bipush (v := (42 : Int32)) (gxd kX2_term 13 rfl) rfl ?_
      refine R_icmp_ne (gxd kX2_term 14 rfl) (tgt := 54) rfl (fun q => ?_) (fun q => ?_)
      · replace H := giff q H
        refine R_iconst (v := (1 : Int32)) (gxd kX2_term 28 rfl) rfl ?_
        cases H
        exact R_zret (gxd kX2_term 29 rfl) rfl (Or.inr rfl)
      · replace H := gift q H
        refine R_aload_n (gxd kX2_term 15 rfl) rfl rfl ?_
        obtain ⟨h5, e6, H⟩ := gbi H
        refine R_callVv (gxd kX2_term 16 rfl) gm_T_107 wX2_pass (by decide) gk_10 rfl rfl (Nat.le_of_ble_eq_true rfl) (by omega) (fT_pass_ok  e6 (d + 1)) ?_
        refine R_aload_n (gxd kX2_term 17 rfl) rfl rfl ?_
        refine R_iload_n (gxd kX2_term 18 rfl) rfl rfl ?_
        obtain ⟨p7, e8, H⟩ := gbi H
        refine R_callVi (gxd kX2_term 19 rfl) gm_T_126 wX2_one (by decide) gk_10 rfl rfl (Nat.le_of_ble_eq_true rfl) (by omega) (hR0 _ _ _ e8) ?_
        refine R_if_ne (gxd kX2_term 20 rfl) (tgt := 41) rfl (fun q => ?_) (fun q => ?_)
        · replace H := giff q H
          refine R_aload_n (gxd kX2_term 23 rfl) rfl rfl ?_
          refine R_sipush (v := (10142 : Int32)) (gxd kX2_term 24 rfl) rfl ?_
          obtain ⟨h9, e10, H⟩ := gbi H
          refine R_callVv (gxd kX2_term 25 rfl) gm_T_122 wX2_emit (by decide) gk_10 rfl rfl (Nat.le_of_ble_eq_true rfl) (by omega) (fT_emit_ok  e10 (d + 1)) ?_
          refine R_iinc (v := (v2 + (1 : Int32))) (gxd kX2_term 26 rfl) rfl rfl rfl (Nat.le_of_ble_eq_true rfl) rfl ?_
          refine R_goto (gxd kX2_term 27 rfl) (tgt := 12) rfl ?_
          exact R_weak (gle_same (gle_same (gle_same gle_nil))) (ih _ _ _  H)
        · replace H := gift q H
          refine R_iconst (v := (0 : Int32)) (gxd kX2_term 21 rfl) rfl ?_
          cases H
          exact R_zret (gxd kX2_term 22 rfl) rfl (Or.inl rfl)
def fT_term (R : Nat → Int32 → gH → Option (Int32 × gH)) (v1 : Int32) (h : gH) : Option (Int32 × gH) :=
  (R 0 v1 h).bind fun p1 =>
  if p1.1 = (0 : Int32) then
    some ((0 : Int32), p1.2)
  else
    fT_term_12 R v1 gfu (0 : Int32) p1.2
theorem fT_term_ok {d : Nat} {R : Nat → Int32 → gH → Option (Int32 × gH)} {v1 : Int32} (hR0 : ∀ a h x, R 0 a h = some x → gC yX2_one cX2_one 3 (some .boolean) (d + 1) [.ref 10, .int a] h (some (.int x.1)) x.2) (hR1 : ∀ a h x, R 1 a h = some x → gC yX2_bracketed cX2_bracketed 2 (some .boolean) (d + 1) [.ref 10, .int a] h (some (.int x.1)) x.2) (hR2 : ∀ a h x, R 2 a h = some x → gC yX2_sum cX2_sum 4 (some .boolean) (d + 1) [.ref 10, .int a] h (some (.int x.1)) x.2) (hR3 : ∀ a h x, R 3 a h = some x → gC yX2_term cX2_term 3 (some .boolean) (d + 1) [.ref 10, .int a] h (some (.int x.1)) x.2) {h : gH} {x : (Int32 × gH)} (H : fT_term R v1 h = some x) : gC yX2_term cX2_term 3 (some .boolean) (d + 2) [.ref 10, .int v1] h (some (.int x.1)) x.2 := by
  refine gC_of (by decide +kernel) (Nat.le_of_ble_eq_true rfl) rfl ?_
  unfold fT_term at H
  refine R_aload_n (gxd kX2_term 0 rfl) rfl rfl ?_
  refine R_iload_n (gxd kX2_term 1 rfl) rfl rfl ?_
  obtain ⟨p1, e2, H⟩ := gbi H
  refine R_callVi (gxd kX2_term 2 rfl) gm_T_126 wX2_one (by decide) gk_10 rfl rfl (Nat.le_of_ble_eq_true rfl) (by omega) (hR0 _ _ _ e2) ?_
  refine R_if_ne (gxd kX2_term 3 rfl) (tgt := 10) rfl (fun q => ?_) (fun q => ?_)
  · replace H := giff q H
    refine R_iconst (v := (0 : Int32)) (gxd kX2_term 6 rfl) rfl ?_
    refine R_istore_n (gxd kX2_term 7 rfl) rfl rfl (Nat.le_of_ble_eq_true rfl) rfl ?_
    exact R_weak (gle_same (gle_same (gle_same gle_nil))) (fT_term_12_ok hR0 hR1 hR2 hR3  gfu _ _ _  H)
  · replace H := gift q H
    refine R_iconst (v := (0 : Int32)) (gxd kX2_term 4 rfl) rfl ?_
    cases H
    exact R_zret (gxd kX2_term 5 rfl) rfl (Or.inl rfl)
def fT_sum_36 (R : Nat → Int32 → gH → Option (Int32 × gH)) (k12 : Int32 → gH → Option (Int32 × gH)) (v1 : Int32) (v2 : Int32) (h : gH) : Option (Int32 × gH) :=
  (fT_token h).bind fun p5 =>
  (fT_pass p5.2).bind fun h7 =>
  (R 3 v1 h7).bind fun p9 =>
  if p9.1 = (0 : Int32) then
    some ((0 : Int32), p9.2)
  else
    (fT_emit ((10100 : Int32) + p5.1) p9.2).bind fun h11 =>
    k12 (v2 + (1 : Int32)) h11
theorem fT_sum_36_ok {d : Nat} {R : Nat → Int32 → gH → Option (Int32 × gH)} {k12 : Int32 → gH → Option (Int32 × gH)} {v1 : Int32} {v2 : Int32} (hR0 : ∀ a h x, R 0 a h = some x → gC yX2_one cX2_one 3 (some .boolean) (d + 1) [.ref 10, .int a] h (some (.int x.1)) x.2) (hR1 : ∀ a h x, R 1 a h = some x → gC yX2_bracketed cX2_bracketed 2 (some .boolean) (d + 1) [.ref 10, .int a] h (some (.int x.1)) x.2) (hR2 : ∀ a h x, R 2 a h = some x → gC yX2_sum cX2_sum 4 (some .boolean) (d + 1) [.ref 10, .int a] h (some (.int x.1)) x.2) (hR3 : ∀ a h x, R 3 a h = some x → gC yX2_term cX2_term 3 (some .boolean) (d + 1) [.ref 10, .int a] h (some (.int x.1)) x.2) (hk12 : ∀ (u2 : Int32) (h : gH) (x : (Int32 × gH)), k12 u2 h = some x → gR RX2 cX2_sum 4 (some .boolean) (d + 2) 12 [.ref 10, .int v1, .int u2, .null] [] h (some (.int x.1)) x.2) {h : gH} {x : (Int32 × gH)} (H : fT_sum_36 R k12 v1 v2  h = some x) : gR RX2 cX2_sum 4 (some .boolean) (d + 2) 36 [.ref 10, .int v1, .int v2, .null] [] h (some (.int x.1)) x.2 := by
  unfold fT_sum_36 at H
  refine R_aload_n (gxd kX2_sum 19 rfl) rfl rfl ?_
  obtain ⟨p5, e6, H⟩ := gbi H
  refine R_callVi (gxd kX2_sum 20 rfl) gm_T_46 wX2_token (by decide) gk_10 rfl rfl (Nat.le_of_ble_eq_true rfl) (by omega) (fT_token_ok  e6 (d + 1)) ?_
  refine R_istore_n (gxd kX2_sum 21 rfl) rfl rfl (Nat.le_of_ble_eq_true rfl) rfl ?_
  refine R_aload_n (gxd kX2_sum 22 rfl) rfl rfl ?_
  obtain ⟨h7, e8, H⟩ := gbi H
  refine R_callVv (gxd kX2_sum 23 rfl) gm_T_107 wX2_pass (by decide) gk_10 rfl rfl (Nat.le_of_ble_eq_true rfl) (by omega) (fT_pass_ok  e8 (d + 1)) ?_
  refine R_aload_n (gxd kX2_sum 24 rfl) rfl rfl ?_
  refine R_iload_n (gxd kX2_sum 25 rfl) rfl rfl ?_
  obtain ⟨p9, e10, H⟩ := gbi H
  refine R_callVi (gxd kX2_sum 26 rfl) gm_T_119 wX2_term (by decide) gk_10 rfl rfl (Nat.le_of_ble_eq_true rfl) (by omega) (hR3 _ _ _ e10) ?_
  refine R_if_ne (gxd kX2_sum 27 rfl) (tgt := 55) rfl (fun q => ?_) (fun q => ?_)
  · replace H := giff q H
    refine R_aload_n (gxd kX2_sum 30 rfl) rfl rfl ?_
    refine R_sipush (v := (10100 : Int32)) (gxd kX2_sum 31 rfl) rfl ?_
    refine R_iload_n (gxd kX2_sum 32 rfl) rfl rfl ?_
    refine R_iadd (gxd kX2_sum 33 rfl) ?_
    obtain ⟨h11, e12, H⟩ := gbi H
    refine R_callVv (gxd kX2_sum 34 rfl) gm_T_122 wX2_emit (by decide) gk_10 rfl rfl (Nat.le_of_ble_eq_true rfl) (by omega) (fT_emit_ok  e12 (d + 1)) ?_
    refine R_iinc (v := (v2 + (1 : Int32))) (gxd kX2_sum 35 rfl) rfl rfl rfl (Nat.le_of_ble_eq_true rfl) rfl ?_
    refine R_goto (gxd kX2_sum 36 rfl) (tgt := 12) rfl ?_
    exact R_weak (gle_same (gle_same (gle_same (gle_null gle_nil)))) (hk12 _ _ _  H)
  · replace H := gift q H
    refine R_iconst (v := (0 : Int32)) (gxd kX2_sum 28 rfl) rfl ?_
    cases H
    exact R_zret (gxd kX2_sum 29 rfl) rfl (Or.inl rfl)
def fT_sum_12 (R : Nat → Int32 → gH → Option (Int32 × gH)) (v1 : Int32) : Nat → Int32 → gH → Option (Int32 × gH)
  | 0, _, _ => none
  | n + 1, v2, h =>
    if v2 < (90 : Int32) then
      (fT_token h).bind fun p3 =>
      if p3.1 = (43 : Int32) then
        fT_sum_36 R (fT_sum_12 R v1 n) v1 v2 p3.2
      else
        (fT_token p3.2).bind fun p13 =>
        if p13.1 = (45 : Int32) then
          fT_sum_36 R (fT_sum_12 R v1 n) v1 v2 p13.2
        else
          some ((1 : Int32), p13.2)
    else
      some ((1 : Int32), h)
theorem fT_sum_12_ok {d : Nat} {R : Nat → Int32 → gH → Option (Int32 × gH)} {v1 : Int32} (hR0 : ∀ a h x, R 0 a h = some x → gC yX2_one cX2_one 3 (some .boolean) (d + 1) [.ref 10, .int a] h (some (.int x.1)) x.2) (hR1 : ∀ a h x, R 1 a h = some x → gC yX2_bracketed cX2_bracketed 2 (some .boolean) (d + 1) [.ref 10, .int a] h (some (.int x.1)) x.2) (hR2 : ∀ a h x, R 2 a h = some x → gC yX2_sum cX2_sum 4 (some .boolean) (d + 1) [.ref 10, .int a] h (some (.int x.1)) x.2) (hR3 : ∀ a h x, R 3 a h = some x → gC yX2_term cX2_term 3 (some .boolean) (d + 1) [.ref 10, .int a] h (some (.int x.1)) x.2)  : ∀ (n : Nat) (v2 : Int32) (h : gH) (x : (Int32 × gH)), fT_sum_12 R v1 n v2 h = some x → gR RX2 cX2_sum 4 (some .boolean) (d + 2) 12 [.ref 10, .int v1, .int v2, .null] [] h (some (.int x.1)) x.2 := by
  intro n
  induction n with
  | zero => intro v2 h x  H; exact g0 H
  | succ n ih =>
    intro v2 h x  H
    unfold fT_sum_12 at H
    refine R_iload_n (gxd kX2_sum 8 rfl) rfl rfl ?_
    refine R_bipush (v := (90 : Int32)) (gxd kX2_sum 9 rfl) rfl ?_
    refine R_icmp_ge (gxd kX2_sum 10 rfl) (tgt := 70) rfl (fun q => ?_) (fun q => ?_)
    · replace H := giff q H
      refine R_iconst (v := (1 : Int32)) (gxd kX2_sum 37 rfl) rfl ?_
      cases H
      exact R_zret (gxd kX2_sum 38 rfl) rfl (Or.inr rfl)
    · replace H := gift q H
      refine R_aload_n (gxd kX2_sum 11 rfl) rfl rfl ?_
      obtain ⟨p3, e4, H⟩ := gbi H
      refine R_callVi (gxd kX2_sum 12 rfl) gm_T_46 wX2_token (by decide) gk_10 rfl rfl (Nat.le_of_ble_eq_true rfl) (by omega) (fT_token_ok  e4 (d + 1)) ?_
      refine R_bipush (v := (43 : Int32)) (gxd kX2_sum 13 rfl) rfl ?_
      refine R_icmp_eq (gxd kX2_sum 14 rfl) (tgt := 36) rfl (fun q => ?_) (fun q => ?_)
      · replace H := gift q H
        exact R_weak (gle_same (gle_same (gle_same (gle_null gle_nil)))) (fT_sum_36_ok hR0 hR1 hR2 hR3 ih  H)
      · replace H := giff q H
        refine R_aload_n (gxd kX2_sum 15 rfl) rfl rfl ?_
        obtain ⟨p13, e14, H⟩ := gbi H
        refine R_callVi (gxd kX2_sum 16 rfl) gm_T_46 wX2_token (by decide) gk_10 rfl rfl (Nat.le_of_ble_eq_true rfl) (by omega) (fT_token_ok  e14 (d + 1)) ?_
        refine R_bipush (v := (45 : Int32)) (gxd kX2_sum 17 rfl) rfl ?_
        refine R_icmp_ne (gxd kX2_sum 18 rfl) (tgt := 70) rfl (fun q => ?_) (fun q => ?_)
        · replace H := giff q H
          refine R_iconst (v := (1 : Int32)) (gxd kX2_sum 37 rfl) rfl ?_
          cases H
          exact R_zret (gxd kX2_sum 38 rfl) rfl (Or.inr rfl)
        · replace H := gift q H
          exact R_weak (gle_same (gle_same (gle_same (gle_null gle_nil)))) (fT_sum_36_ok hR0 hR1 hR2 hR3 ih  H)
def fT_sum (R : Nat → Int32 → gH → Option (Int32 × gH)) (v1 : Int32) (h : gH) : Option (Int32 × gH) :=
  (R 3 v1 h).bind fun p1 =>
  if p1.1 = (0 : Int32) then
    some ((0 : Int32), p1.2)
  else
    fT_sum_12 R v1 gfu (0 : Int32) p1.2
theorem fT_sum_ok {d : Nat} {R : Nat → Int32 → gH → Option (Int32 × gH)} {v1 : Int32} (hR0 : ∀ a h x, R 0 a h = some x → gC yX2_one cX2_one 3 (some .boolean) (d + 1) [.ref 10, .int a] h (some (.int x.1)) x.2) (hR1 : ∀ a h x, R 1 a h = some x → gC yX2_bracketed cX2_bracketed 2 (some .boolean) (d + 1) [.ref 10, .int a] h (some (.int x.1)) x.2) (hR2 : ∀ a h x, R 2 a h = some x → gC yX2_sum cX2_sum 4 (some .boolean) (d + 1) [.ref 10, .int a] h (some (.int x.1)) x.2) (hR3 : ∀ a h x, R 3 a h = some x → gC yX2_term cX2_term 3 (some .boolean) (d + 1) [.ref 10, .int a] h (some (.int x.1)) x.2) {h : gH} {x : (Int32 × gH)} (H : fT_sum R v1 h = some x) : gC yX2_sum cX2_sum 4 (some .boolean) (d + 2) [.ref 10, .int v1] h (some (.int x.1)) x.2 := by
  refine gC_of (by decide +kernel) (Nat.le_of_ble_eq_true rfl) rfl ?_
  unfold fT_sum at H
  refine R_aload_n (gxd kX2_sum 0 rfl) rfl rfl ?_
  refine R_iload_n (gxd kX2_sum 1 rfl) rfl rfl ?_
  obtain ⟨p1, e2, H⟩ := gbi H
  refine R_callVi (gxd kX2_sum 2 rfl) gm_T_119 wX2_term (by decide) gk_10 rfl rfl (Nat.le_of_ble_eq_true rfl) (by omega) (hR3 _ _ _ e2) ?_
  refine R_if_ne (gxd kX2_sum 3 rfl) (tgt := 10) rfl (fun q => ?_) (fun q => ?_)
  · replace H := giff q H
    refine R_iconst (v := (0 : Int32)) (gxd kX2_sum 6 rfl) rfl ?_
    refine R_istore_n (gxd kX2_sum 7 rfl) rfl rfl (Nat.le_of_ble_eq_true rfl) rfl ?_
    exact R_weak (gle_same (gle_same (gle_same (gle_null gle_nil)))) (fT_sum_12_ok hR0 hR1 hR2 hR3  gfu _ _ _  H)
  · replace H := gift q H
    refine R_iconst (v := (0 : Int32)) (gxd kX2_sum 4 rfl) rfl ?_
    cases H
    exact R_zret (gxd kX2_sum 5 rfl) rfl (Or.inl rfl)
def gTG : Nat → Nat → Int32 → gH → Option (Int32 × gH)
  | 0, _, _, _ => none
  | n + 1, 0, a, h => fT_one (gTG n) a h
  | n + 1, 1, a, h => fT_bracketed (gTG n) a h
  | n + 1, 2, a, h => fT_sum (gTG n) a h
  | n + 1, 3, a, h => fT_term (gTG n) a h
  | _ + 1, _, _, _ => none
theorem gTG_all : ∀ n : Nat, (∀ (a : Int32) (h : gH) (x : Int32 × gH), gTG n 0 a h = some x → ∀ d : Nat, gC yX2_one cX2_one 3 (some .boolean) (d + (1 + n)) [.ref 10, .int a] h (some (.int x.1)) x.2) ∧ (∀ (a : Int32) (h : gH) (x : Int32 × gH), gTG n 1 a h = some x → ∀ d : Nat, gC yX2_bracketed cX2_bracketed 2 (some .boolean) (d + (1 + n)) [.ref 10, .int a] h (some (.int x.1)) x.2) ∧ (∀ (a : Int32) (h : gH) (x : Int32 × gH), gTG n 2 a h = some x → ∀ d : Nat, gC yX2_sum cX2_sum 4 (some .boolean) (d + (1 + n)) [.ref 10, .int a] h (some (.int x.1)) x.2) ∧ (∀ (a : Int32) (h : gH) (x : Int32 × gH), gTG n 3 a h = some x → ∀ d : Nat, gC yX2_term cX2_term 3 (some .boolean) (d + (1 + n)) [.ref 10, .int a] h (some (.int x.1)) x.2) := by
  intro n
  induction n with
  | zero => exact ⟨fun a h x H => g0 H, fun a h x H => g0 H, fun a h x H => g0 H, fun a h x H => g0 H⟩
  | succ n ih =>
    exact ⟨(fun a h x H d => by
      have H2 := fT_one_ok (d := d + n)  (fun a h x H => by have := ih.1 a h x H d; rw [show d + (1 + n) = d + n + 1 by omega] at this; exact this) (fun a h x H => by have := ih.2.1 a h x H d; rw [show d + (1 + n) = d + n + 1 by omega] at this; exact this) (fun a h x H => by have := ih.2.2.1 a h x H d; rw [show d + (1 + n) = d + n + 1 by omega] at this; exact this) (fun a h x H => by have := ih.2.2.2 a h x H d; rw [show d + (1 + n) = d + n + 1 by omega] at this; exact this) H
      rw [show d + (1 + (n + 1)) = d + n + 2 by omega]
      exact H2),
      (fun a h x H d => by
      have H2 := fT_bracketed_ok (d := d + n)  (fun a h x H => by have := ih.1 a h x H d; rw [show d + (1 + n) = d + n + 1 by omega] at this; exact this) (fun a h x H => by have := ih.2.1 a h x H d; rw [show d + (1 + n) = d + n + 1 by omega] at this; exact this) (fun a h x H => by have := ih.2.2.1 a h x H d; rw [show d + (1 + n) = d + n + 1 by omega] at this; exact this) (fun a h x H => by have := ih.2.2.2 a h x H d; rw [show d + (1 + n) = d + n + 1 by omega] at this; exact this) H
      rw [show d + (1 + (n + 1)) = d + n + 2 by omega]
      exact H2),
      (fun a h x H d => by
      have H2 := fT_sum_ok (d := d + n)  (fun a h x H => by have := ih.1 a h x H d; rw [show d + (1 + n) = d + n + 1 by omega] at this; exact this) (fun a h x H => by have := ih.2.1 a h x H d; rw [show d + (1 + n) = d + n + 1 by omega] at this; exact this) (fun a h x H => by have := ih.2.2.1 a h x H d; rw [show d + (1 + n) = d + n + 1 by omega] at this; exact this) (fun a h x H => by have := ih.2.2.2 a h x H d; rw [show d + (1 + n) = d + n + 1 by omega] at this; exact this) H
      rw [show d + (1 + (n + 1)) = d + n + 2 by omega]
      exact H2),
      (fun a h x H d => by
      have H2 := fT_term_ok (d := d + n)  (fun a h x H => by have := ih.1 a h x H d; rw [show d + (1 + n) = d + n + 1 by omega] at this; exact this) (fun a h x H => by have := ih.2.1 a h x H d; rw [show d + (1 + n) = d + n + 1 by omega] at this; exact this) (fun a h x H => by have := ih.2.2.1 a h x H d; rw [show d + (1 + n) = d + n + 1 by omega] at this; exact this) (fun a h x H => by have := ih.2.2.2 a h x H d; rw [show d + (1 + n) = d + n + 1 by omega] at this; exact this) H
      rw [show d + (1 + (n + 1)) = d + n + 2 by omega]
      exact H2)⟩
theorem gTG_ok_0 (n : Nat) : ∀ (a : Int32) (h : gH) (x : Int32 × gH), gTG n 0 a h = some x → ∀ d : Nat, gC yX2_one cX2_one 3 (some .boolean) (d + (1 + n)) [.ref 10, .int a] h (some (.int x.1)) x.2 := (gTG_all n).1
theorem gTG_ok_1 (n : Nat) : ∀ (a : Int32) (h : gH) (x : Int32 × gH), gTG n 1 a h = some x → ∀ d : Nat, gC yX2_bracketed cX2_bracketed 2 (some .boolean) (d + (1 + n)) [.ref 10, .int a] h (some (.int x.1)) x.2 := (gTG_all n).2.1
theorem gTG_ok_2 (n : Nat) : ∀ (a : Int32) (h : gH) (x : Int32 × gH), gTG n 2 a h = some x → ∀ d : Nat, gC yX2_sum cX2_sum 4 (some .boolean) (d + (1 + n)) [.ref 10, .int a] h (some (.int x.1)) x.2 := (gTG_all n).2.2.1
theorem gTG_ok_3 (n : Nat) : ∀ (a : Int32) (h : gH) (x : Int32 × gH), gTG n 3 a h = some x → ∀ d : Nat, gC yX2_term cX2_term 3 (some .boolean) (d + (1 + n)) [.ref 10, .int a] h (some (.int x.1)) x.2 := (gTG_all n).2.2.2
def fT_tested_121 (h : gH) : Option (Int32 × gH) :=
  (fT_pass h).bind fun h11 =>
  (gTG 40 2 (0 : Int32) h11).bind fun p13 =>
  gg (gbo p13.1) <|
  some (p13.1, p13.2)
theorem fT_tested_121_ok {d : Nat}  {h : gH} {x : (Int32 × gH)} (H : fT_tested_121   h = some x) : gR RX2 cX2_tested 1 (some .boolean) (d + 42) 121 [.ref 10] [] h (some (.int x.1)) x.2 := by
  unfold fT_tested_121 at H
  refine R_aload_n (gxd kX2_tested 64 rfl) rfl rfl ?_
  obtain ⟨h11, e12, H⟩ := gbi H
  refine R_callVv (gxd kX2_tested 65 rfl) gm_T_107 wX2_pass (by decide) gk_10 rfl rfl (Nat.le_of_ble_eq_true rfl) (by omega) (fT_pass_ok  e12 (d + 41)) ?_
  refine R_aload_n (gxd kX2_tested 66 rfl) rfl rfl ?_
  refine R_iconst (v := (0 : Int32)) (gxd kX2_tested 67 rfl) rfl ?_
  obtain ⟨p13, e14, H⟩ := gbi H
  refine R_callVi (gxd kX2_tested 68 rfl) gm_T_113 wX2_sum (by decide) gk_10 rfl rfl (Nat.le_of_ble_eq_true rfl) (by omega) (gTG_ok_2 40 _ _ _ e14 (d + 0)) ?_
  obtain ⟨b15, H⟩ := ggi H
  have b15 := gbo_or b15
  cases H
  exact R_zret (gxd kX2_tested 69 rfl) rfl b15
def fT_tested_65 (h : gH) : Option (Int32 × gH) :=
  (gTG 40 2 (0 : Int32) h).bind fun p5 =>
  if p5.1 = (0 : Int32) then
    some ((0 : Int32), p5.2)
  else
    (fT_token p5.2).bind fun p7 =>
    glet (hu p7.2 10 13 p7.1) fun h9 =>
    if (h9 10 13) = (60 : Int32) then
      fT_tested_121 h9
    else
      if (h9 10 13) = (61 : Int32) then
        fT_tested_121 h9
      else
        if (h9 10 13) = (62 : Int32) then
          fT_tested_121 h9
        else
          if (h9 10 13) = (33 : Int32) then
            fT_tested_121 h9
          else
            some ((0 : Int32), h9)
theorem fT_tested_65_ok {d : Nat}  {h : gH} {x : (Int32 × gH)} (H : fT_tested_65   h = some x) : gR RX2 cX2_tested 1 (some .boolean) (d + 42) 65 [.ref 10] [] h (some (.int x.1)) x.2 := by
  unfold fT_tested_65 at H
  refine R_aload_n (gxd kX2_tested 36 rfl) rfl rfl ?_
  refine R_iconst (v := (0 : Int32)) (gxd kX2_tested 37 rfl) rfl ?_
  obtain ⟨p5, e6, H⟩ := gbi H
  refine R_callVi (gxd kX2_tested 38 rfl) gm_T_113 wX2_sum (by decide) gk_10 rfl rfl (Nat.le_of_ble_eq_true rfl) (by omega) (gTG_ok_2 40 _ _ _ e6 (d + 0)) ?_
  refine R_if_ne (gxd kX2_tested 39 rfl) (tgt := 75) rfl (fun q => ?_) (fun q => ?_)
  · replace H := giff q H
    refine R_aload_n (gxd kX2_tested 42 rfl) rfl rfl ?_
    refine R_aload_n (gxd kX2_tested 43 rfl) rfl rfl ?_
    obtain ⟨p7, e8, H⟩ := gbi H
    refine R_callVi (gxd kX2_tested 44 rfl) gm_T_46 wX2_token (by decide) gk_10 rfl rfl (Nat.le_of_ble_eq_true rfl) (by omega) (fT_token_ok  e8 (d + 41)) ?_
    refine R_puti (gxd kX2_tested 45 rfl) gf_T_116 gp_2_13 gk_10 (by decide) rfl ?_
    obtain ⟨h9, e10, H⟩ := glei H
    refine R_heq e10 ?_
    refine R_aload_n (gxd kX2_tested 46 rfl) rfl rfl ?_
    refine R_geti (gxd kX2_tested 47 rfl) gf_T_116 gk_10 (by decide) rfl ?_
    refine R_bipush (v := (60 : Int32)) (gxd kX2_tested 48 rfl) rfl ?_
    refine R_icmp_eq (gxd kX2_tested 49 rfl) (tgt := 121) rfl (fun q => ?_) (fun q => ?_)
    · replace H := gift q H
      exact R_weak (gle_same gle_nil) (fT_tested_121_ok  H)
    · replace H := giff q H
      refine R_aload_n (gxd kX2_tested 50 rfl) rfl rfl ?_
      refine R_geti (gxd kX2_tested 51 rfl) gf_T_116 gk_10 (by decide) rfl ?_
      refine R_bipush (v := (61 : Int32)) (gxd kX2_tested 52 rfl) rfl ?_
      refine R_icmp_eq (gxd kX2_tested 53 rfl) (tgt := 121) rfl (fun q => ?_) (fun q => ?_)
      · replace H := gift q H
        exact R_weak (gle_same gle_nil) (fT_tested_121_ok  H)
      · replace H := giff q H
        refine R_aload_n (gxd kX2_tested 54 rfl) rfl rfl ?_
        refine R_geti (gxd kX2_tested 55 rfl) gf_T_116 gk_10 (by decide) rfl ?_
        refine R_bipush (v := (62 : Int32)) (gxd kX2_tested 56 rfl) rfl ?_
        refine R_icmp_eq (gxd kX2_tested 57 rfl) (tgt := 121) rfl (fun q => ?_) (fun q => ?_)
        · replace H := gift q H
          exact R_weak (gle_same gle_nil) (fT_tested_121_ok  H)
        · replace H := giff q H
          refine R_aload_n (gxd kX2_tested 58 rfl) rfl rfl ?_
          refine R_geti (gxd kX2_tested 59 rfl) gf_T_116 gk_10 (by decide) rfl ?_
          refine R_bipush (v := (33 : Int32)) (gxd kX2_tested 60 rfl) rfl ?_
          refine R_icmp_eq (gxd kX2_tested 61 rfl) (tgt := 121) rfl (fun q => ?_) (fun q => ?_)
          · replace H := gift q H
            exact R_weak (gle_same gle_nil) (fT_tested_121_ok  H)
          · replace H := giff q H
            refine R_iconst (v := (0 : Int32)) (gxd kX2_tested 62 rfl) rfl ?_
            cases H
            exact R_zret (gxd kX2_tested 63 rfl) rfl (Or.inl rfl)
  · replace H := gift q H
    refine R_iconst (v := (0 : Int32)) (gxd kX2_tested 40 rfl) rfl ?_
    cases H
    exact R_zret (gxd kX2_tested 41 rfl) rfl (Or.inl rfl)
def fT_tested (h : gH) : Option (Int32 × gH) :=
  glet (hu h 10 10 (0 : Int32)) fun h1 =>
  (fT_token h1).bind fun p3 =>
  if p3.1 = (2 : Int32) then
    gg (gin ((p3.2 10 8) + (1 : Int32)) 91) <|
    if (p3.2 12 ((p3.2 10 8) + (1 : Int32)).toNatClampNeg) = (58 : Int32) then
      glet (hu p3.2 10 10 (1 : Int32)) fun h17 =>
      gg (gin (h17 10 8) 91) <|
      glet (hu h17 10 12 (h17 14 (h17 10 8).toNatClampNeg)) fun h20 =>
      glet (hu h20 10 11 ((1 : Int32) <<< ((h20 10 12) &&& 31))) fun h22 =>
      (fT_pass h22).bind fun h24 =>
      (fT_pass h24).bind fun h26 =>
      fT_tested_65 h26
    else
      fT_tested_65 p3.2
  else
    fT_tested_65 p3.2
theorem fT_tested_ok {h : gH} {x : (Int32 × gH)} (H : fT_tested  h = some x) (d : Nat) : gC yX2_tested cX2_tested 1 (some .boolean) (d + 42) [.ref 10] h (some (.int x.1)) x.2 := by
  refine gC_of (by decide +kernel) (Nat.le_of_ble_eq_true rfl) rfl ?_
  unfold fT_tested at H
  refine R_aload_n (gxd kX2_tested 0 rfl) rfl rfl ?_
  refine R_iconst (v := (0 : Int32)) (gxd kX2_tested 1 rfl) rfl ?_
  refine R_puti (gxd kX2_tested 2 rfl) gf_T_104 gp_2_10 gk_10 (by decide) rfl ?_
  obtain ⟨h1, e2, H⟩ := glei H
  refine R_heq e2 ?_
  refine R_aload_n (gxd kX2_tested 3 rfl) rfl rfl ?_
  obtain ⟨p3, e4, H⟩ := gbi H
  refine R_callVi (gxd kX2_tested 4 rfl) gm_T_46 wX2_token (by decide) gk_10 rfl rfl (Nat.le_of_ble_eq_true rfl) (by omega) (fT_token_ok  e4 (d + 41)) ?_
  refine R_iconst (v := (2 : Int32)) (gxd kX2_tested 5 rfl) rfl ?_
  refine R_icmp_ne (gxd kX2_tested 6 rfl) (tgt := 65) rfl (fun q => ?_) (fun q => ?_)
  · replace H := giff q H
    exact R_weak (gle_same gle_nil) (fT_tested_65_ok  H)
  · replace H := gift q H
    refine R_aload_n (gxd kX2_tested 7 rfl) rfl rfl ?_
    refine R_getr (gxd kX2_tested 8 rfl) gf_T_15 gk_10 (by decide) rfl ?_
    refine R_aload_n (gxd kX2_tested 9 rfl) rfl rfl ?_
    refine R_geti (gxd kX2_tested 10 rfl) gf_T_37 gk_10 (by decide) rfl ?_
    refine R_iconst (v := (1 : Int32)) (gxd kX2_tested 11 rfl) rfl ?_
    refine R_iadd (gxd kX2_tested 12 rfl) ?_
    obtain ⟨b16, H⟩ := ggi H
    have b16 := gin_in b16
    refine R_iald (gxd kX2_tested 13 rfl) gk_12 b16 ?_
    refine R_bipush (v := (58 : Int32)) (gxd kX2_tested 14 rfl) rfl ?_
    refine R_icmp_ne (gxd kX2_tested 15 rfl) (tgt := 65) rfl (fun q => ?_) (fun q => ?_)
    · replace H := giff q H
      exact R_weak (gle_same gle_nil) (fT_tested_65_ok  H)
    · replace H := gift q H
      refine R_aload_n (gxd kX2_tested 16 rfl) rfl rfl ?_
      refine R_iconst (v := (1 : Int32)) (gxd kX2_tested 17 rfl) rfl ?_
      refine R_puti (gxd kX2_tested 18 rfl) gf_T_104 gp_2_10 gk_10 (by decide) rfl ?_
      obtain ⟨h17, e18, H⟩ := glei H
      refine R_heq e18 ?_
      refine R_aload_n (gxd kX2_tested 19 rfl) rfl rfl ?_
      refine R_aload_n (gxd kX2_tested 20 rfl) rfl rfl ?_
      refine R_getr (gxd kX2_tested 21 rfl) gf_T_21 gk_10 (by decide) rfl ?_
      refine R_aload_n (gxd kX2_tested 22 rfl) rfl rfl ?_
      refine R_geti (gxd kX2_tested 23 rfl) gf_T_37 gk_10 (by decide) rfl ?_
      obtain ⟨b19, H⟩ := ggi H
      have b19 := gin_in b19
      refine R_iald (gxd kX2_tested 24 rfl) gk_14 b19 ?_
      refine R_puti (gxd kX2_tested 25 rfl) gf_T_110 gp_2_12 gk_10 (by decide) rfl ?_
      obtain ⟨h20, e21, H⟩ := glei H
      refine R_heq e21 ?_
      refine R_aload_n (gxd kX2_tested 26 rfl) rfl rfl ?_
      refine R_iconst (v := (1 : Int32)) (gxd kX2_tested 27 rfl) rfl ?_
      refine R_aload_n (gxd kX2_tested 28 rfl) rfl rfl ?_
      refine R_geti (gxd kX2_tested 29 rfl) gf_T_110 gk_10 (by decide) rfl ?_
      refine R_ishl (gxd kX2_tested 30 rfl) ?_
      refine R_puti (gxd kX2_tested 31 rfl) gf_T_43 gp_2_11 gk_10 (by decide) rfl ?_
      obtain ⟨h22, e23, H⟩ := glei H
      refine R_heq e23 ?_
      refine R_aload_n (gxd kX2_tested 32 rfl) rfl rfl ?_
      obtain ⟨h24, e25, H⟩ := gbi H
      refine R_callVv (gxd kX2_tested 33 rfl) gm_T_107 wX2_pass (by decide) gk_10 rfl rfl (Nat.le_of_ble_eq_true rfl) (by omega) (fT_pass_ok  e25 (d + 41)) ?_
      refine R_aload_n (gxd kX2_tested 34 rfl) rfl rfl ?_
      obtain ⟨h26, e27, H⟩ := gbi H
      refine R_callVv (gxd kX2_tested 35 rfl) gm_T_107 wX2_pass (by decide) gk_10 rfl rfl (Nat.le_of_ble_eq_true rfl) (by omega) (fT_pass_ok  e27 (d + 41)) ?_
      exact R_weak (gle_same gle_nil) (fT_tested_65_ok  H)
def fT_read_54 (h : gH) : Option (Int32 × gH) :=
  gg (gin (h 10 8) 91) <|
  some ((h 13 (h 10 8).toNatClampNeg), h)
theorem fT_read_54_ok {d : Nat}  {h : gH} {x : (Int32 × gH)} (H : fT_read_54   h = some x) : gR RX2 cX2_read 2 (some .int) (d + 43) 54 [.ref 10, .null] [] h (some (.int x.1)) x.2 := by
  unfold fT_read_54 at H
  refine R_aload_n (gxd kX2_read 28 rfl) rfl rfl ?_
  refine R_getr (gxd kX2_read 29 rfl) gf_T_18 gk_10 (by decide) rfl ?_
  refine R_aload_n (gxd kX2_read 30 rfl) rfl rfl ?_
  refine R_geti (gxd kX2_read 31 rfl) gf_T_37 gk_10 (by decide) rfl ?_
  obtain ⟨b13, H⟩ := ggi H
  have b13 := gin_in b13
  refine R_iald (gxd kX2_read 32 rfl) gk_13 b13 ?_
  cases H
  exact R_iret (gxd kX2_read 33 rfl) rfl
def fT_read_38 (s0 : Int32) (h : gH) : Option (Int32 × gH) :=
  if s0 = (0 : Int32) then
    fT_read_54 h
  else
    (fT_token h).bind fun p14 =>
    if p14.1 = (0 : Int32) then
      some ((-1 : Int32), p14.2)
    else
      fT_read_54 p14.2
theorem fT_read_38_ok {d : Nat} {s0 : Int32}  {h : gH} {x : (Int32 × gH)} (H : fT_read_38  s0 h = some x) : gR RX2 cX2_read 2 (some .int) (d + 43) 38 [.ref 10, .null] [.int s0] h (some (.int x.1)) x.2 := by
  unfold fT_read_38 at H
  refine R_istore_n (gxd kX2_read 20 rfl) rfl rfl (Nat.le_of_ble_eq_true rfl) rfl ?_
  refine R_iload_n (gxd kX2_read 21 rfl) rfl rfl ?_
  refine R_if_eq (gxd kX2_read 22 rfl) (tgt := 54) rfl (fun q => ?_) (fun q => ?_)
  · replace H := gift q H
    exact R_weak (gle_same (gle_null gle_nil)) (fT_read_54_ok  H)
  · replace H := giff q H
    refine R_aload_n (gxd kX2_read 23 rfl) rfl rfl ?_
    obtain ⟨p14, e15, H⟩ := gbi H
    refine R_callVi (gxd kX2_read 24 rfl) gm_T_46 wX2_token (by decide) gk_10 rfl rfl (Nat.le_of_ble_eq_true rfl) (by omega) (fT_token_ok  e15 (d + 42)) ?_
    refine R_if_ne (gxd kX2_read 25 rfl) (tgt := 54) rfl (fun q => ?_) (fun q => ?_)
    · replace H := giff q H
      exact R_weak (gle_same (gle_null gle_nil)) (fT_read_54_ok  H)
    · replace H := gift q H
      refine R_iconst (v := (-1 : Int32)) (gxd kX2_read 26 rfl) rfl ?_
      refine R_goto (gxd kX2_read 27 rfl) (tgt := 63) rfl ?_
      cases H
      exact R_iret (gxd kX2_read 33 rfl) rfl
def fT_read (h : gH) : Option (Int32 × gH) :=
  (fT_split h).bind fun h1 =>
  glet (hu h1 10 8 (0 : Int32)) fun h3 =>
  glet (hu h3 10 9 (0 : Int32)) fun h5 =>
  glet (hu h5 10 11 (0 : Int32)) fun h7 =>
  (fT_token h7).bind fun p9 =>
  if p9.1 = (3 : Int32) then
    (fT_distinct p9.2).bind fun p16 =>
    fT_read_38 p16.1 p16.2
  else
    (fT_tested p9.2).bind fun p11 =>
    fT_read_38 p11.1 p11.2
theorem fT_read_ok {h : gH} {x : (Int32 × gH)} (H : fT_read  h = some x) (d : Nat) : gC yX2_read cX2_read 2 (some .int) (d + 43) [.ref 10] h (some (.int x.1)) x.2 := by
  refine gC_of (by decide +kernel) (Nat.le_of_ble_eq_true rfl) rfl ?_
  unfold fT_read at H
  refine R_aload_n (gxd kX2_read 0 rfl) rfl rfl ?_
  obtain ⟨h1, e2, H⟩ := gbi H
  refine R_callVv (gxd kX2_read 1 rfl) gm_T_34 wX2_split (by decide) gk_10 rfl rfl (Nat.le_of_ble_eq_true rfl) (by omega) (fT_split_ok  e2 (d + 36)) ?_
  refine R_aload_n (gxd kX2_read 2 rfl) rfl rfl ?_
  refine R_iconst (v := (0 : Int32)) (gxd kX2_read 3 rfl) rfl ?_
  refine R_puti (gxd kX2_read 4 rfl) gf_T_37 gp_2_8 gk_10 (by decide) rfl ?_
  obtain ⟨h3, e4, H⟩ := glei H
  refine R_heq e4 ?_
  refine R_aload_n (gxd kX2_read 5 rfl) rfl rfl ?_
  refine R_iconst (v := (0 : Int32)) (gxd kX2_read 6 rfl) rfl ?_
  refine R_puti (gxd kX2_read 7 rfl) gf_T_40 gp_2_9 gk_10 (by decide) rfl ?_
  obtain ⟨h5, e6, H⟩ := glei H
  refine R_heq e6 ?_
  refine R_aload_n (gxd kX2_read 8 rfl) rfl rfl ?_
  refine R_iconst (v := (0 : Int32)) (gxd kX2_read 9 rfl) rfl ?_
  refine R_puti (gxd kX2_read 10 rfl) gf_T_43 gp_2_11 gk_10 (by decide) rfl ?_
  obtain ⟨h7, e8, H⟩ := glei H
  refine R_heq e8 ?_
  refine R_aload_n (gxd kX2_read 11 rfl) rfl rfl ?_
  obtain ⟨p9, e10, H⟩ := gbi H
  refine R_callVi (gxd kX2_read 12 rfl) gm_T_46 wX2_token (by decide) gk_10 rfl rfl (Nat.le_of_ble_eq_true rfl) (by omega) (fT_token_ok  e10 (d + 42)) ?_
  refine R_iconst (v := (3 : Int32)) (gxd kX2_read 13 rfl) rfl ?_
  refine R_icmp_ne (gxd kX2_read 14 rfl) (tgt := 34) rfl (fun q => ?_) (fun q => ?_)
  · replace H := giff q H
    refine R_aload_n (gxd kX2_read 18 rfl) rfl rfl ?_
    obtain ⟨p11, e12, H⟩ := gbi H
    refine R_callVi (gxd kX2_read 19 rfl) gm_T_54 wX2_tested (by decide) gk_10 rfl rfl (Nat.le_of_ble_eq_true rfl) (by omega) (fT_tested_ok  e12 (d + 0)) ?_
    exact R_weak (gle_same (gle_null gle_nil)) (fT_read_38_ok  H)
  · replace H := gift q H
    refine R_aload_n (gxd kX2_read 15 rfl) rfl rfl ?_
    obtain ⟨p16, e17, H⟩ := gbi H
    refine R_callVi (gxd kX2_read 16 rfl) gm_T_50 wX2_distinct (by decide) gk_10 rfl rfl (Nat.le_of_ble_eq_true rfl) (by omega) (fT_distinct_ok  e17 (d + 41)) ?_
    refine R_goto (gxd kX2_read 17 rfl) (tgt := 38) rfl ?_
    exact R_weak (gle_same (gle_null gle_nil)) (fT_read_38_ok  H)
def fT_areUnlike_4 : Nat → Int32 → Int32 → gH → Option (Int32 × gH)
  | 0, _, _, _ => none
  | n + 1, v2, v3, h =>
    if v3 < (8 : Int32) then
      if (((h 10 11) >>> (v3 &&& 31)) &&& (1 : Int32)) = (0 : Int32) then
        fT_areUnlike_4 n v2 (v3 + (1 : Int32)) h
      else
        gg (gin v3 9) <|
        if ((v2 >>> ((h 9 v3.toNatClampNeg) &&& 31)) &&& (1 : Int32)) = (1 : Int32) then
          some ((0 : Int32), h)
        else
          gg (gin v3 9) <|
          fT_areUnlike_4 n (v2 ||| ((1 : Int32) <<< ((h 9 v3.toNatClampNeg) &&& 31))) (v3 + (1 : Int32)) h
    else
      some ((1 : Int32), h)
theorem fT_areUnlike_4_ok {d : Nat}  : ∀ (n : Nat) (v2 : Int32) (v3 : Int32) (h : gH) (x : (Int32 × gH)), fT_areUnlike_4  n v2 v3 h = some x → gR RX2 cX2_areUnlike 4 (some .boolean) (d + 0) 4 [.ref 10, .ref 9, .int v2, .int v3] [] h (some (.int x.1)) x.2 := by
  intro n
  induction n with
  | zero => intro v2 v3 h x  H; exact g0 H
  | succ n ih =>
    intro v2 v3 h x  H
    unfold fT_areUnlike_4 at H
    refine R_iload_n (gxd kX2_areUnlike 4 rfl) rfl rfl ?_
    refine R_bipush (v := (8 : Int32)) (gxd kX2_areUnlike 5 rfl) rfl ?_
    refine R_icmp_ge (gxd kX2_areUnlike 6 rfl) (tgt := 51) rfl (fun q => ?_) (fun q => ?_)
    · replace H := giff q H
      refine R_iconst (v := (1 : Int32)) (gxd kX2_areUnlike 36 rfl) rfl ?_
      cases H
      exact R_zret (gxd kX2_areUnlike 37 rfl) rfl (Or.inr rfl)
    · replace H := gift q H
      refine R_aload_n (gxd kX2_areUnlike 7 rfl) rfl rfl ?_
      refine R_geti (gxd kX2_areUnlike 8 rfl) gf_T_43 gk_10 (by decide) rfl ?_
      refine R_iload_n (gxd kX2_areUnlike 9 rfl) rfl rfl ?_
      refine R_ishr (gxd kX2_areUnlike 10 rfl) ?_
      refine R_iconst (v := (1 : Int32)) (gxd kX2_areUnlike 11 rfl) rfl ?_
      refine R_iand (gxd kX2_areUnlike 12 rfl) ?_
      refine R_if_ne (gxd kX2_areUnlike 13 rfl) (tgt := 24) rfl (fun q => ?_) (fun q => ?_)
      · replace H := giff q H
        refine R_iload_n (gxd kX2_areUnlike 15 rfl) rfl rfl ?_
        refine R_aload_n (gxd kX2_areUnlike 16 rfl) rfl rfl ?_
        refine R_iload_n (gxd kX2_areUnlike 17 rfl) rfl rfl ?_
        obtain ⟨b1, H⟩ := ggi H
        have b1 := gin_in b1
        refine R_iald (gxd kX2_areUnlike 18 rfl) gk_9 b1 ?_
        refine R_ishr (gxd kX2_areUnlike 19 rfl) ?_
        refine R_iconst (v := (1 : Int32)) (gxd kX2_areUnlike 20 rfl) rfl ?_
        refine R_iand (gxd kX2_areUnlike 21 rfl) ?_
        refine R_iconst (v := (1 : Int32)) (gxd kX2_areUnlike 22 rfl) rfl ?_
        refine R_icmp_ne (gxd kX2_areUnlike 23 rfl) (tgt := 37) rfl (fun q => ?_) (fun q => ?_)
        · replace H := giff q H
          refine R_iload_n (gxd kX2_areUnlike 26 rfl) rfl rfl ?_
          refine R_iconst (v := (1 : Int32)) (gxd kX2_areUnlike 27 rfl) rfl ?_
          refine R_aload_n (gxd kX2_areUnlike 28 rfl) rfl rfl ?_
          refine R_iload_n (gxd kX2_areUnlike 29 rfl) rfl rfl ?_
          obtain ⟨b2, H⟩ := ggi H
          have b2 := gin_in b2
          refine R_iald (gxd kX2_areUnlike 30 rfl) gk_9 b2 ?_
          refine R_ishl (gxd kX2_areUnlike 31 rfl) ?_
          refine R_ior (gxd kX2_areUnlike 32 rfl) ?_
          refine R_istore_n (gxd kX2_areUnlike 33 rfl) rfl rfl (Nat.le_of_ble_eq_true rfl) rfl ?_
          refine R_iinc (v := (v3 + (1 : Int32))) (gxd kX2_areUnlike 34 rfl) rfl rfl rfl (Nat.le_of_ble_eq_true rfl) rfl ?_
          refine R_goto (gxd kX2_areUnlike 35 rfl) (tgt := 4) rfl ?_
          exact R_weak (gle_same (gle_same (gle_same (gle_same gle_nil)))) (ih _ _ _ _  H)
        · replace H := gift q H
          refine R_iconst (v := (0 : Int32)) (gxd kX2_areUnlike 24 rfl) rfl ?_
          cases H
          exact R_zret (gxd kX2_areUnlike 25 rfl) rfl (Or.inl rfl)
      · replace H := gift q H
        refine R_goto (gxd kX2_areUnlike 14 rfl) (tgt := 45) rfl ?_
        refine R_iinc (v := (v3 + (1 : Int32))) (gxd kX2_areUnlike 34 rfl) rfl rfl rfl (Nat.le_of_ble_eq_true rfl) rfl ?_
        refine R_goto (gxd kX2_areUnlike 35 rfl) (tgt := 4) rfl ?_
        exact R_weak (gle_same (gle_same (gle_same (gle_same gle_nil)))) (ih _ _ _ _  H)
def fT_areUnlike (h : gH) : Option (Int32 × gH) :=
  fT_areUnlike_4 gfu (0 : Int32) (0 : Int32) h
theorem fT_areUnlike_ok {h : gH} {x : (Int32 × gH)} (H : fT_areUnlike  h = some x) (d : Nat) : gC yX2_areUnlike cX2_areUnlike 4 (some .boolean) (d + 0) [.ref 10, .ref 9] h (some (.int x.1)) x.2 := by
  refine gC_of (by decide +kernel) (Nat.le_of_ble_eq_true rfl) rfl ?_
  unfold fT_areUnlike at H
  refine R_iconst (v := (0 : Int32)) (gxd kX2_areUnlike 0 rfl) rfl ?_
  refine R_istore_n (gxd kX2_areUnlike 1 rfl) rfl rfl (Nat.le_of_ble_eq_true rfl) rfl ?_
  refine R_iconst (v := (0 : Int32)) (gxd kX2_areUnlike 2 rfl) rfl ?_
  refine R_istore_n (gxd kX2_areUnlike 3 rfl) rfl rfl (Nat.le_of_ble_eq_true rfl) rfl ?_
  exact R_weak (gle_same (gle_same (gle_same (gle_same gle_nil)))) (fT_areUnlike_4_ok  gfu _ _ _ _  H)
def fT_isSo (v1 : Int32) (v2 : Int32) (h : gH) : Option (Int32 × gH) :=
  if (h 10 13) = (60 : Int32) then
    if v1 < v2 then
      some ((1 : Int32), h)
    else
      some ((0 : Int32), h)
  else
  if (h 10 13) = (61 : Int32) then
    if v1 = v2 then
      some ((1 : Int32), h)
    else
      some ((0 : Int32), h)
  else
  if (h 10 13) = (62 : Int32) then
    if v2 < v1 then
      some ((1 : Int32), h)
    else
      some ((0 : Int32), h)
  else
    if v1 = v2 then
      some ((0 : Int32), h)
    else
      some ((1 : Int32), h)
theorem fT_isSo_ok {v1 : Int32} {v2 : Int32} {h : gH} {x : (Int32 × gH)} (H : fT_isSo v1 v2 h = some x) (d : Nat) : gC yX2_isSo cX2_isSo 3 (some .boolean) (d + 0) [.ref 10, .int v1, .int v2] h (some (.int x.1)) x.2 := by
  refine gC_of (by decide +kernel) (Nat.le_of_ble_eq_true rfl) rfl ?_
  unfold fT_isSo at H
  refine R_aload_n (gxd kX2_isSo 0 rfl) rfl rfl ?_
  refine R_geti (gxd kX2_isSo 1 rfl) gf_T_116 gk_10 (by decide) rfl ?_
  by_cases q0 : (h 10 13) = (60 : Int32)
  · replace H := gift q0 H
    refine R_tableIn (gxd kX2_isSo 2 rfl) (by rw [q0]; decide) (by rw [q0]; decide) (off := 28) (tgt := 32) (by rw [q0]; decide) rfl ?_
    refine R_iload_n (gxd kX2_isSo 3 rfl) rfl rfl ?_
    refine R_iload_n (gxd kX2_isSo 4 rfl) rfl rfl ?_
    refine R_icmp_ge (gxd kX2_isSo 5 rfl) (tgt := 41) rfl (fun q => ?_) (fun q => ?_)
    · replace H := giff q H
      refine R_iconst (v := (0 : Int32)) (gxd kX2_isSo 8 rfl) rfl ?_
      cases H
      exact R_zret (gxd kX2_isSo 9 rfl) rfl (Or.inl rfl)
    · replace H := gift q H
      refine R_iconst (v := (1 : Int32)) (gxd kX2_isSo 6 rfl) rfl ?_
      refine R_goto (gxd kX2_isSo 7 rfl) (tgt := 42) rfl ?_
      cases H
      exact R_zret (gxd kX2_isSo 9 rfl) rfl (Or.inr rfl)
  replace H := giff q0 H
  by_cases q1 : (h 10 13) = (61 : Int32)
  · replace H := gift q1 H
    refine R_tableIn (gxd kX2_isSo 2 rfl) (by rw [q1]; decide) (by rw [q1]; decide) (off := 39) (tgt := 43) (by rw [q1]; decide) rfl ?_
    refine R_iload_n (gxd kX2_isSo 10 rfl) rfl rfl ?_
    refine R_iload_n (gxd kX2_isSo 11 rfl) rfl rfl ?_
    refine R_icmp_ne (gxd kX2_isSo 12 rfl) (tgt := 52) rfl (fun q => ?_) (fun q => ?_)
    · replace H := giff q H
      refine R_iconst (v := (0 : Int32)) (gxd kX2_isSo 15 rfl) rfl ?_
      cases H
      exact R_zret (gxd kX2_isSo 16 rfl) rfl (Or.inl rfl)
    · replace H := gift q H
      refine R_iconst (v := (1 : Int32)) (gxd kX2_isSo 13 rfl) rfl ?_
      refine R_goto (gxd kX2_isSo 14 rfl) (tgt := 53) rfl ?_
      cases H
      exact R_zret (gxd kX2_isSo 16 rfl) rfl (Or.inr rfl)
  replace H := giff q1 H
  by_cases q2 : (h 10 13) = (62 : Int32)
  · replace H := gift q2 H
    refine R_tableIn (gxd kX2_isSo 2 rfl) (by rw [q2]; decide) (by rw [q2]; decide) (off := 50) (tgt := 54) (by rw [q2]; decide) rfl ?_
    refine R_iload_n (gxd kX2_isSo 17 rfl) rfl rfl ?_
    refine R_iload_n (gxd kX2_isSo 18 rfl) rfl rfl ?_
    refine R_icmp_le (gxd kX2_isSo 19 rfl) (tgt := 63) rfl (fun q => ?_) (fun q => ?_)
    · replace H := giff q H
      refine R_iconst (v := (0 : Int32)) (gxd kX2_isSo 22 rfl) rfl ?_
      cases H
      exact R_zret (gxd kX2_isSo 23 rfl) rfl (Or.inl rfl)
    · replace H := gift q H
      refine R_iconst (v := (1 : Int32)) (gxd kX2_isSo 20 rfl) rfl ?_
      refine R_goto (gxd kX2_isSo 21 rfl) (tgt := 64) rfl ?_
      cases H
      exact R_zret (gxd kX2_isSo 23 rfl) rfl (Or.inr rfl)
  replace H := giff q2 H
  refine R_tableOut (gxd kX2_isSo 2 rfl) (tgt := 65) (by have z0 := lv_neT q0 (a := 60) (by decide); have z1 := lv_neT q1 (a := 61) (by decide); have z2 := lv_neT q2 (a := 62) (by decide); omega) rfl ?_
  refine R_iload_n (gxd kX2_isSo 24 rfl) rfl rfl ?_
  refine R_iload_n (gxd kX2_isSo 25 rfl) rfl rfl ?_
  refine R_icmp_eq (gxd kX2_isSo 26 rfl) (tgt := 74) rfl (fun q => ?_) (fun q => ?_)
  · replace H := gift q H
    refine R_iconst (v := (0 : Int32)) (gxd kX2_isSo 29 rfl) rfl ?_
    cases H
    exact R_zret (gxd kX2_isSo 30 rfl) rfl (Or.inl rfl)
  · replace H := giff q H
    refine R_iconst (v := (1 : Int32)) (gxd kX2_isSo 27 rfl) rfl ?_
    refine R_goto (gxd kX2_isSo 28 rfl) (tgt := 75) rfl ?_
    cases H
    exact R_zret (gxd kX2_isSo 30 rfl) rfl (Or.inr rfl)
def fT_joined (v0 : Int32) (v1 : Int32) (v2 : Int32) (h : gH) : Option (Int32 × gH) :=
  if v0 = (43 : Int32) then
    some ((v1 + v2), h)
  else
  if v0 = (45 : Int32) then
    some ((v1 - v2), h)
  else
    some ((v1 * v2), h)
theorem fT_joined_ok {v0 : Int32} {v1 : Int32} {v2 : Int32} {h : gH} {x : (Int32 × gH)} (H : fT_joined v0 v1 v2 h = some x) (d : Nat) : gC yX2_joined cX2_joined 3 (some .int) (d + 0) [.int v0, .int v1, .int v2] h (some (.int x.1)) x.2 := by
  refine gC_of (by decide +kernel) (Nat.le_of_ble_eq_true rfl) rfl ?_
  unfold fT_joined at H
  refine R_iload_n (gxd kX2_joined 0 rfl) rfl rfl ?_
  by_cases q0 : v0 = (43 : Int32)
  · replace H := gift q0 H
    refine R_lookup (gxd kX2_joined 1 rfl) (off := 27) (tgt := 28) (by decide) (by rw [q0]; decide) rfl ?_
    refine R_iload_n (gxd kX2_joined 2 rfl) rfl rfl ?_
    refine R_iload_n (gxd kX2_joined 3 rfl) rfl rfl ?_
    refine R_iadd (gxd kX2_joined 4 rfl) ?_
    cases H
    exact R_iret (gxd kX2_joined 5 rfl) rfl
  replace H := giff q0 H
  by_cases q1 : v0 = (45 : Int32)
  · replace H := gift q1 H
    refine R_lookup (gxd kX2_joined 1 rfl) (off := 31) (tgt := 32) (by decide) (by rw [q1]; decide) rfl ?_
    refine R_iload_n (gxd kX2_joined 6 rfl) rfl rfl ?_
    refine R_iload_n (gxd kX2_joined 7 rfl) rfl rfl ?_
    refine R_isub (gxd kX2_joined 8 rfl) ?_
    cases H
    exact R_iret (gxd kX2_joined 9 rfl) rfl
  replace H := giff q1 H
  refine R_lookup (gxd kX2_joined 1 rfl) (off := 35) (tgt := 36) (by decide) ((lv_osw q0 rfl).trans ((lv_osw q1 rfl).trans (rfl))) rfl ?_
  refine R_iload_n (gxd kX2_joined 10 rfl) rfl rfl ?_
  refine R_iload_n (gxd kX2_joined 11 rfl) rfl rfl ?_
  refine R_imul (gxd kX2_joined 12 rfl) ?_
  cases H
  exact R_iret (gxd kX2_joined 13 rfl) rfl
def fT_testHolds_102 (k4 : Int32 → Int32 → gH → Option (Int32 × gH)) (v2 : Int32) (v3 : Int32) (v4 : Int32) (h : gH) : Option (Int32 × gH) :=
  if (10008 : Int32) < v4 then
    if (1 : Int32) < v2 then
      gg (gin ((v2 + (-1 : Int32)) - (1 : Int32)) 90) <|
      gg (gin (v2 + (-1 : Int32)) 90) <|
      (fT_joined (v4 - (10100 : Int32)) (h 16 ((v2 + (-1 : Int32)) - (1 : Int32)).toNatClampNeg) (h 16 (v2 + (-1 : Int32)).toNatClampNeg) h).bind fun p6 =>
      gg (gin ((v2 + (-1 : Int32)) - (1 : Int32)) 90) <|
      glet (hu p6.2 16 ((v2 + (-1 : Int32)) - (1 : Int32)).toNatClampNeg p6.1) fun h9 =>
      k4 (v2 + (-1 : Int32)) (v3 + (1 : Int32)) h9
    else
      k4 v2 (v3 + (1 : Int32)) h
  else
    k4 v2 (v3 + (1 : Int32)) h
theorem fT_testHolds_102_ok {d : Nat} {k4 : Int32 → Int32 → gH → Option (Int32 × gH)} {v2 : Int32} {v3 : Int32} {v4 : Int32} (hk4 : ∀ (u2 : Int32) (u3 : Int32) (h : gH) (x : (Int32 × gH)), k4 u2 u3 h = some x → gR RX2 cX2_testHolds 5 (some .boolean) (d + 1) 4 [.ref 10, .ref 9, .int u2, .int u3, .null] [] h (some (.int x.1)) x.2) {h : gH} {x : (Int32 × gH)} (H : fT_testHolds_102 k4 v2 v3 v4  h = some x) : gR RX2 cX2_testHolds 5 (some .boolean) (d + 1) 102 [.ref 10, .ref 9, .int v2, .int v3, .int v4] [] h (some (.int x.1)) x.2 := by
  unfold fT_testHolds_102 at H
  refine R_iload (gxd kX2_testHolds 56 rfl) rfl ?_
  refine R_sipush (v := (10008 : Int32)) (gxd kX2_testHolds 57 rfl) rfl ?_
  refine R_icmp_le (gxd kX2_testHolds 58 rfl) (tgt := 149) rfl (fun q => ?_) (fun q => ?_)
  · replace H := giff q H
    refine R_iinc (v := (v3 + (1 : Int32))) (gxd kX2_testHolds 83 rfl) rfl rfl rfl (Nat.le_of_ble_eq_true rfl) rfl ?_
    refine R_goto (gxd kX2_testHolds 84 rfl) (tgt := 4) rfl ?_
    exact R_weak (gle_same (gle_same (gle_same (gle_same (gle_null gle_nil))))) (hk4 _ _ _ _  H)
  · replace H := gift q H
    refine R_iload_n (gxd kX2_testHolds 59 rfl) rfl rfl ?_
    refine R_iconst (v := (1 : Int32)) (gxd kX2_testHolds 60 rfl) rfl ?_
    refine R_icmp_le (gxd kX2_testHolds 61 rfl) (tgt := 149) rfl (fun q => ?_) (fun q => ?_)
    · replace H := giff q H
      refine R_iinc (v := (v3 + (1 : Int32))) (gxd kX2_testHolds 83 rfl) rfl rfl rfl (Nat.le_of_ble_eq_true rfl) rfl ?_
      refine R_goto (gxd kX2_testHolds 84 rfl) (tgt := 4) rfl ?_
      exact R_weak (gle_same (gle_same (gle_same (gle_same (gle_null gle_nil))))) (hk4 _ _ _ _  H)
    · replace H := gift q H
      refine R_iinc (v := (v2 + (-1 : Int32))) (gxd kX2_testHolds 62 rfl) rfl rfl rfl (Nat.le_of_ble_eq_true rfl) rfl ?_
      refine R_aload_n (gxd kX2_testHolds 63 rfl) rfl rfl ?_
      refine R_getr (gxd kX2_testHolds 64 rfl) gf_T_27 gk_10 (by decide) rfl ?_
      refine R_iload_n (gxd kX2_testHolds 65 rfl) rfl rfl ?_
      refine R_iconst (v := (1 : Int32)) (gxd kX2_testHolds 66 rfl) rfl ?_
      refine R_isub (gxd kX2_testHolds 67 rfl) ?_
      refine R_iload (gxd kX2_testHolds 68 rfl) rfl ?_
      refine R_sipush (v := (10100 : Int32)) (gxd kX2_testHolds 69 rfl) rfl ?_
      refine R_isub (gxd kX2_testHolds 70 rfl) ?_
      refine R_aload_n (gxd kX2_testHolds 71 rfl) rfl rfl ?_
      refine R_getr (gxd kX2_testHolds 72 rfl) gf_T_27 gk_10 (by decide) rfl ?_
      refine R_iload_n (gxd kX2_testHolds 73 rfl) rfl rfl ?_
      refine R_iconst (v := (1 : Int32)) (gxd kX2_testHolds 74 rfl) rfl ?_
      refine R_isub (gxd kX2_testHolds 75 rfl) ?_
      obtain ⟨b4, H⟩ := ggi H
      have b4 := gin_in b4
      refine R_iald (gxd kX2_testHolds 76 rfl) gk_16 b4 ?_
      refine R_aload_n (gxd kX2_testHolds 77 rfl) rfl rfl ?_
      refine R_getr (gxd kX2_testHolds 78 rfl) gf_T_27 gk_10 (by decide) rfl ?_
      refine R_iload_n (gxd kX2_testHolds 79 rfl) rfl rfl ?_
      obtain ⟨b5, H⟩ := ggi H
      have b5 := gin_in b5
      refine R_iald (gxd kX2_testHolds 80 rfl) gk_16 b5 ?_
      obtain ⟨p6, e7, H⟩ := gbi H
      refine R_callSi (gxd kX2_testHolds 81 rfl) gm_T_147 wX2_joined (by decide) rfl (Nat.le_of_ble_eq_true rfl) (by omega) (fT_joined_ok  e7 (d + 0)) ?_
      obtain ⟨b8, H⟩ := ggi H
      have b8 := gin_in b8
      refine R_iast (gxd kX2_testHolds 82 rfl) gk_16 b8 ?_
      obtain ⟨h9, e10, H⟩ := glei H
      refine R_heq e10 ?_
      refine R_iinc (v := (v3 + (1 : Int32))) (gxd kX2_testHolds 83 rfl) rfl rfl rfl (Nat.le_of_ble_eq_true rfl) rfl ?_
      refine R_goto (gxd kX2_testHolds 84 rfl) (tgt := 4) rfl ?_
      exact R_weak (gle_same (gle_same (gle_same (gle_same (gle_null gle_nil))))) (hk4 _ _ _ _  H)
def fT_testHolds_70 (k4 : Int32 → Int32 → gH → Option (Int32 × gH)) (v2 : Int32) (v3 : Int32) (v4 : Int32) (h : gH) : Option (Int32 × gH) :=
  if v4 = (10008 : Int32) then
    if (0 : Int32) < v2 then
      gg (gin (v2 - (1 : Int32)) 90) <|
      gg (gin (v2 - (1 : Int32)) 90) <|
      k4 v2 (v3 + (1 : Int32)) (hu h 16 (v2 - (1 : Int32)).toNatClampNeg (-(h 16 (v2 - (1 : Int32)).toNatClampNeg)))
    else
      fT_testHolds_102 k4 v2 v3 v4 h
  else
    fT_testHolds_102 k4 v2 v3 v4 h
theorem fT_testHolds_70_ok {d : Nat} {k4 : Int32 → Int32 → gH → Option (Int32 × gH)} {v2 : Int32} {v3 : Int32} {v4 : Int32} (hk4 : ∀ (u2 : Int32) (u3 : Int32) (h : gH) (x : (Int32 × gH)), k4 u2 u3 h = some x → gR RX2 cX2_testHolds 5 (some .boolean) (d + 1) 4 [.ref 10, .ref 9, .int u2, .int u3, .null] [] h (some (.int x.1)) x.2) {h : gH} {x : (Int32 × gH)} (H : fT_testHolds_70 k4 v2 v3 v4  h = some x) : gR RX2 cX2_testHolds 5 (some .boolean) (d + 1) 70 [.ref 10, .ref 9, .int v2, .int v3, .int v4] [] h (some (.int x.1)) x.2 := by
  unfold fT_testHolds_70 at H
  refine R_iload (gxd kX2_testHolds 37 rfl) rfl ?_
  refine R_sipush (v := (10008 : Int32)) (gxd kX2_testHolds 38 rfl) rfl ?_
  refine R_icmp_ne (gxd kX2_testHolds 39 rfl) (tgt := 102) rfl (fun q => ?_) (fun q => ?_)
  · replace H := giff q H
    exact R_weak (gle_same (gle_same (gle_same (gle_same (gle_same gle_nil))))) (fT_testHolds_102_ok hk4  H)
  · replace H := gift q H
    refine R_iload_n (gxd kX2_testHolds 40 rfl) rfl rfl ?_
    refine R_if_le (gxd kX2_testHolds 41 rfl) (tgt := 102) rfl (fun q => ?_) (fun q => ?_)
    · replace H := giff q H
      exact R_weak (gle_same (gle_same (gle_same (gle_same (gle_same gle_nil))))) (fT_testHolds_102_ok hk4  H)
    · replace H := gift q H
      refine R_aload_n (gxd kX2_testHolds 42 rfl) rfl rfl ?_
      refine R_getr (gxd kX2_testHolds 43 rfl) gf_T_27 gk_10 (by decide) rfl ?_
      refine R_iload_n (gxd kX2_testHolds 44 rfl) rfl rfl ?_
      refine R_iconst (v := (1 : Int32)) (gxd kX2_testHolds 45 rfl) rfl ?_
      refine R_isub (gxd kX2_testHolds 46 rfl) ?_
      refine R_aload_n (gxd kX2_testHolds 47 rfl) rfl rfl ?_
      refine R_getr (gxd kX2_testHolds 48 rfl) gf_T_27 gk_10 (by decide) rfl ?_
      refine R_iload_n (gxd kX2_testHolds 49 rfl) rfl rfl ?_
      refine R_iconst (v := (1 : Int32)) (gxd kX2_testHolds 50 rfl) rfl ?_
      refine R_isub (gxd kX2_testHolds 51 rfl) ?_
      obtain ⟨b11, H⟩ := ggi H
      have b11 := gin_in b11
      refine R_iald (gxd kX2_testHolds 52 rfl) gk_16 b11 ?_
      refine R_ineg (gxd kX2_testHolds 53 rfl) ?_
      obtain ⟨b12, H⟩ := ggi H
      have b12 := gin_in b12
      refine R_iast (gxd kX2_testHolds 54 rfl) gk_16 b12 ?_
      refine R_goto (gxd kX2_testHolds 55 rfl) (tgt := 149) rfl ?_
      refine R_iinc (v := (v3 + (1 : Int32))) (gxd kX2_testHolds 83 rfl) rfl rfl rfl (Nat.le_of_ble_eq_true rfl) rfl ?_
      refine R_goto (gxd kX2_testHolds 84 rfl) (tgt := 4) rfl ?_
      exact R_weak (gle_same (gle_same (gle_same (gle_same (gle_null gle_nil))))) (hk4 _ _ _ _  H)
def fT_testHolds_63 (k4 : Int32 → Int32 → gH → Option (Int32 × gH)) (v2 : Int32) (v3 : Int32) (s1 : Int32) (s2 : Int32) (h : gH) : Option (Int32 × gH) :=
  gg (gin s1 90) <|
  glet (hu h 16 s1.toNatClampNeg s2) fun h15 =>
  k4 (v2 + (1 : Int32)) (v3 + (1 : Int32)) h15
theorem fT_testHolds_63_ok {d : Nat} {k4 : Int32 → Int32 → gH → Option (Int32 × gH)} {v2 : Int32} {v3 : Int32} {s1 : Int32} {s2 : Int32} (hk4 : ∀ (u2 : Int32) (u3 : Int32) (h : gH) (x : (Int32 × gH)), k4 u2 u3 h = some x → gR RX2 cX2_testHolds 5 (some .boolean) (d + 1) 4 [.ref 10, .ref 9, .int u2, .int u3, .null] [] h (some (.int x.1)) x.2) {h : gH} {x : (Int32 × gH)} (H : fT_testHolds_63 k4 v2 v3 s1 s2 h = some x) : gR RX2 cX2_testHolds 5 (some .boolean) (d + 1) 63 [.ref 10, .ref 9, .int v2, .int v3, .null] [.int s2, .int s1, .ref 16] h (some (.int x.1)) x.2 := by
  unfold fT_testHolds_63 at H
  obtain ⟨b14, H⟩ := ggi H
  have b14 := gin_in b14
  refine R_iast (gxd kX2_testHolds 34 rfl) gk_16 b14 ?_
  obtain ⟨h15, e16, H⟩ := glei H
  refine R_heq e16 ?_
  refine R_iinc (v := (v2 + (1 : Int32))) (gxd kX2_testHolds 35 rfl) rfl rfl rfl (Nat.le_of_ble_eq_true rfl) rfl ?_
  refine R_goto (gxd kX2_testHolds 36 rfl) (tgt := 149) rfl ?_
  refine R_iinc (v := (v3 + (1 : Int32))) (gxd kX2_testHolds 83 rfl) rfl rfl rfl (Nat.le_of_ble_eq_true rfl) rfl ?_
  refine R_goto (gxd kX2_testHolds 84 rfl) (tgt := 4) rfl ?_
  exact R_weak (gle_same (gle_same (gle_same (gle_same (gle_null gle_nil))))) (hk4 _ _ _ _  H)
def fT_testHolds_4 : Nat → Int32 → Int32 → gH → Option (Int32 × gH)
  | 0, _, _, _ => none
  | n + 1, v2, v3, h =>
    if v3 < (h 10 9) then
      gg (gin v3 90) <|
      if (h 15 v3.toNatClampNeg) < (10008 : Int32) then
        if v2 < (90 : Int32) then
          if (h 15 v3.toNatClampNeg) < (10000 : Int32) then
            fT_testHolds_63 (fT_testHolds_4 n) v2 v3 v2 (h 15 v3.toNatClampNeg) h
          else
            gg (gin ((h 15 v3.toNatClampNeg) - (10000 : Int32)) 9) <|
            fT_testHolds_63 (fT_testHolds_4 n) v2 v3 v2 (h 9 ((h 15 v3.toNatClampNeg) - (10000 : Int32)).toNatClampNeg) h
        else
          fT_testHolds_70 (fT_testHolds_4 n) v2 v3 (h 15 v3.toNatClampNeg) h
      else
        fT_testHolds_70 (fT_testHolds_4 n) v2 v3 (h 15 v3.toNatClampNeg) h
    else
      if v2 = (2 : Int32) then
        (fT_isSo (h 16 (0 : Int32).toNatClampNeg) (h 16 (1 : Int32).toNatClampNeg) h).bind fun p1 =>
        if p1.1 = (0 : Int32) then
          some ((0 : Int32), p1.2)
        else
          some ((1 : Int32), p1.2)
      else
        some ((0 : Int32), h)
theorem fT_testHolds_4_ok {d : Nat}  : ∀ (n : Nat) (v2 : Int32) (v3 : Int32) (h : gH) (x : (Int32 × gH)), fT_testHolds_4  n v2 v3 h = some x → gR RX2 cX2_testHolds 5 (some .boolean) (d + 1) 4 [.ref 10, .ref 9, .int v2, .int v3, .null] [] h (some (.int x.1)) x.2 := by
  intro n
  induction n with
  | zero => intro v2 v3 h x  H; exact g0 H
  | succ n ih =>
    intro v2 v3 h x  H
    unfold fT_testHolds_4 at H
    refine R_iload_n (gxd kX2_testHolds 4 rfl) rfl rfl ?_
    refine R_aload_n (gxd kX2_testHolds 5 rfl) rfl rfl ?_
    refine R_geti (gxd kX2_testHolds 6 rfl) gf_T_40 gk_10 (by decide) rfl ?_
    refine R_icmp_ge (gxd kX2_testHolds 7 rfl) (tgt := 155) rfl (fun q => ?_) (fun q => ?_)
    · replace H := giff q H
      refine R_iload_n (gxd kX2_testHolds 85 rfl) rfl rfl ?_
      refine R_iconst (v := (2 : Int32)) (gxd kX2_testHolds 86 rfl) rfl ?_
      refine R_icmp_ne (gxd kX2_testHolds 87 rfl) (tgt := 183) rfl (fun q => ?_) (fun q => ?_)
      · replace H := giff q H
        refine R_iconst (v := (0 : Int32)) (gxd kX2_testHolds 101 rfl) rfl ?_
        cases H
        exact R_zret (gxd kX2_testHolds 102 rfl) rfl (Or.inl rfl)
      · replace H := gift q H
        refine R_aload_n (gxd kX2_testHolds 88 rfl) rfl rfl ?_
        refine R_aload_n (gxd kX2_testHolds 89 rfl) rfl rfl ?_
        refine R_getr (gxd kX2_testHolds 90 rfl) gf_T_27 gk_10 (by decide) rfl ?_
        refine R_iconst (v := (0 : Int32)) (gxd kX2_testHolds 91 rfl) rfl ?_
        refine R_iald (gxd kX2_testHolds 92 rfl) gk_16 (gin_in rfl) ?_
        refine R_aload_n (gxd kX2_testHolds 93 rfl) rfl rfl ?_
        refine R_getr (gxd kX2_testHolds 94 rfl) gf_T_27 gk_10 (by decide) rfl ?_
        refine R_iconst (v := (1 : Int32)) (gxd kX2_testHolds 95 rfl) rfl ?_
        refine R_iald (gxd kX2_testHolds 96 rfl) gk_16 (gin_in rfl) ?_
        obtain ⟨p1, e2, H⟩ := gbi H
        refine R_callVi (gxd kX2_testHolds 97 rfl) gm_T_151 wX2_isSo (by decide) gk_10 rfl rfl (Nat.le_of_ble_eq_true rfl) (by omega) (fT_isSo_ok  e2 (d + 0)) ?_
        refine R_if_eq (gxd kX2_testHolds 98 rfl) (tgt := 183) rfl (fun q => ?_) (fun q => ?_)
        · replace H := gift q H
          refine R_iconst (v := (0 : Int32)) (gxd kX2_testHolds 101 rfl) rfl ?_
          cases H
          exact R_zret (gxd kX2_testHolds 102 rfl) rfl (Or.inl rfl)
        · replace H := giff q H
          refine R_iconst (v := (1 : Int32)) (gxd kX2_testHolds 99 rfl) rfl ?_
          refine R_goto (gxd kX2_testHolds 100 rfl) (tgt := 184) rfl ?_
          cases H
          exact R_zret (gxd kX2_testHolds 102 rfl) rfl (Or.inr rfl)
    · replace H := gift q H
      refine R_aload_n (gxd kX2_testHolds 8 rfl) rfl rfl ?_
      refine R_getr (gxd kX2_testHolds 9 rfl) gf_T_24 gk_10 (by decide) rfl ?_
      refine R_iload_n (gxd kX2_testHolds 10 rfl) rfl rfl ?_
      obtain ⟨b3, H⟩ := ggi H
      have b3 := gin_in b3
      refine R_iald (gxd kX2_testHolds 11 rfl) gk_15 b3 ?_
      refine R_istore (gxd kX2_testHolds 12 rfl) rfl (Nat.le_of_ble_eq_true rfl) rfl ?_
      refine R_iload (gxd kX2_testHolds 13 rfl) rfl ?_
      refine R_sipush (v := (10008 : Int32)) (gxd kX2_testHolds 14 rfl) rfl ?_
      refine R_icmp_ge (gxd kX2_testHolds 15 rfl) (tgt := 70) rfl (fun q => ?_) (fun q => ?_)
      · replace H := giff q H
        exact R_weak (gle_same (gle_same (gle_same (gle_same (gle_same gle_nil))))) (fT_testHolds_70_ok ih  H)
      · replace H := gift q H
        refine R_iload_n (gxd kX2_testHolds 16 rfl) rfl rfl ?_
        refine R_aload_n (gxd kX2_testHolds 17 rfl) rfl rfl ?_
        refine R_getr (gxd kX2_testHolds 18 rfl) gf_T_27 gk_10 (by decide) rfl ?_
        refine R_alen (v := (90 : Int32)) (gxd kX2_testHolds 19 rfl) gk_16 rfl ?_
        refine R_icmp_ge (gxd kX2_testHolds 20 rfl) (tgt := 70) rfl (fun q => ?_) (fun q => ?_)
        · replace H := giff q H
          exact R_weak (gle_same (gle_same (gle_same (gle_same (gle_same gle_nil))))) (fT_testHolds_70_ok ih  H)
        · replace H := gift q H
          refine R_aload_n (gxd kX2_testHolds 21 rfl) rfl rfl ?_
          refine R_getr (gxd kX2_testHolds 22 rfl) gf_T_27 gk_10 (by decide) rfl ?_
          refine R_iload_n (gxd kX2_testHolds 23 rfl) rfl rfl ?_
          refine R_iload (gxd kX2_testHolds 24 rfl) rfl ?_
          refine R_sipush (v := (10000 : Int32)) (gxd kX2_testHolds 25 rfl) rfl ?_
          refine R_icmp_ge (gxd kX2_testHolds 26 rfl) (tgt := 55) rfl (fun q => ?_) (fun q => ?_)
          · replace H := giff q H
            refine R_aload_n (gxd kX2_testHolds 29 rfl) rfl rfl ?_
            refine R_iload (gxd kX2_testHolds 30 rfl) rfl ?_
            refine R_sipush (v := (10000 : Int32)) (gxd kX2_testHolds 31 rfl) rfl ?_
            refine R_isub (gxd kX2_testHolds 32 rfl) ?_
            obtain ⟨b13, H⟩ := ggi H
            have b13 := gin_in b13
            refine R_iald (gxd kX2_testHolds 33 rfl) gk_9 b13 ?_
            exact R_weak (gle_same (gle_same (gle_same (gle_same (gle_null gle_nil))))) (fT_testHolds_63_ok ih  H)
          · replace H := gift q H
            refine R_iload (gxd kX2_testHolds 27 rfl) rfl ?_
            refine R_goto (gxd kX2_testHolds 28 rfl) (tgt := 63) rfl ?_
            exact R_weak (gle_same (gle_same (gle_same (gle_same (gle_null gle_nil))))) (fT_testHolds_63_ok ih  H)
def fT_testHolds (h : gH) : Option (Int32 × gH) :=
  fT_testHolds_4 gfu (0 : Int32) (0 : Int32) h
theorem fT_testHolds_ok {h : gH} {x : (Int32 × gH)} (H : fT_testHolds  h = some x) (d : Nat) : gC yX2_testHolds cX2_testHolds 5 (some .boolean) (d + 1) [.ref 10, .ref 9] h (some (.int x.1)) x.2 := by
  refine gC_of (by decide +kernel) (Nat.le_of_ble_eq_true rfl) rfl ?_
  unfold fT_testHolds at H
  refine R_iconst (v := (0 : Int32)) (gxd kX2_testHolds 0 rfl) rfl ?_
  refine R_istore_n (gxd kX2_testHolds 1 rfl) rfl rfl (Nat.le_of_ble_eq_true rfl) rfl ?_
  refine R_iconst (v := (0 : Int32)) (gxd kX2_testHolds 2 rfl) rfl ?_
  refine R_istore_n (gxd kX2_testHolds 3 rfl) rfl rfl (Nat.le_of_ble_eq_true rfl) rfl ?_
  exact R_weak (gle_same (gle_same (gle_same (gle_same (gle_null gle_nil))))) (fT_testHolds_4_ok  gfu _ _ _ _  H)
def fT_holdsFor_44 (s0 : Int32) (s1 : Int32) (h : gH) : Option (Int32 × gH) :=
  if s0 = s1 then
    some ((1 : Int32), h)
  else
    some ((0 : Int32), h)
theorem fT_holdsFor_44_ok {d : Nat} {s0 : Int32} {s1 : Int32}  {h : gH} {x : (Int32 × gH)} (H : fT_holdsFor_44  s0 s1 h = some x) : gR RX2 cX2_holdsFor 3 (some .boolean) (d + 2) 44 [.null, .null, .null] [.int s1, .int s0] h (some (.int x.1)) x.2 := by
  unfold fT_holdsFor_44 at H
  refine R_icmp_ne (gxd kX2_holdsFor 26 rfl) (tgt := 51) rfl (fun q => ?_) (fun q => ?_)
  · replace H := giff q H
    refine R_iconst (v := (0 : Int32)) (gxd kX2_holdsFor 29 rfl) rfl ?_
    cases H
    exact R_zret (gxd kX2_holdsFor 30 rfl) rfl (Or.inl rfl)
  · replace H := gift q H
    refine R_iconst (v := (1 : Int32)) (gxd kX2_holdsFor 27 rfl) rfl ?_
    refine R_goto (gxd kX2_holdsFor 28 rfl) (tgt := 52) rfl ?_
    cases H
    exact R_zret (gxd kX2_holdsFor 30 rfl) rfl (Or.inr rfl)
def fT_holdsFor (h : gH) : Option (Int32 × gH) :=
  if (h 10 10) = (2 : Int32) then
    (fT_areUnlike h).bind fun p5 =>
    gg (gbo p5.1) <|
    some (p5.1, p5.2)
  else
    (fT_testHolds h).bind fun p1 =>
    if (p1.2 10 10) = (0 : Int32) then
      gg (gbo p1.1) <|
      some (p1.1, p1.2)
    else
      gg (gin (p1.2 10 12) 9) <|
      if p1.1 = (0 : Int32) then
        fT_holdsFor_44 (p1.2 9 (p1.2 10 12).toNatClampNeg) (0 : Int32) p1.2
      else
        fT_holdsFor_44 (p1.2 9 (p1.2 10 12).toNatClampNeg) (1 : Int32) p1.2
theorem fT_holdsFor_ok {h : gH} {x : (Int32 × gH)} (H : fT_holdsFor  h = some x) (d : Nat) : gC yX2_holdsFor cX2_holdsFor 3 (some .boolean) (d + 2) [.ref 10, .ref 9] h (some (.int x.1)) x.2 := by
  refine gC_of (by decide +kernel) (Nat.le_of_ble_eq_true rfl) rfl ?_
  unfold fT_holdsFor at H
  refine R_aload_n (gxd kX2_holdsFor 0 rfl) rfl rfl ?_
  refine R_geti (gxd kX2_holdsFor 1 rfl) gf_T_104 gk_10 (by decide) rfl ?_
  refine R_iconst (v := (2 : Int32)) (gxd kX2_holdsFor 2 rfl) rfl ?_
  refine R_icmp_ne (gxd kX2_holdsFor 3 rfl) (tgt := 14) rfl (fun q => ?_) (fun q => ?_)
  · replace H := giff q H
    refine R_aload_n (gxd kX2_holdsFor 8 rfl) rfl rfl ?_
    refine R_aload_n (gxd kX2_holdsFor 9 rfl) rfl rfl ?_
    obtain ⟨p1, e2, H⟩ := gbi H
    refine R_callVi (gxd kX2_holdsFor 10 rfl) gm_T_144 wX2_testHolds (by decide) gk_10 rfl rfl (Nat.le_of_ble_eq_true rfl) (by omega) (fT_testHolds_ok  e2 (d + 0)) ?_
    refine R_istore_n (gxd kX2_holdsFor 11 rfl) rfl rfl (Nat.le_of_ble_eq_true rfl) rfl ?_
    refine R_aload_n (gxd kX2_holdsFor 12 rfl) rfl rfl ?_
    refine R_geti (gxd kX2_holdsFor 13 rfl) gf_T_104 gk_10 (by decide) rfl ?_
    refine R_if_ne (gxd kX2_holdsFor 14 rfl) (tgt := 29) rfl (fun q => ?_) (fun q => ?_)
    · replace H := giff q H
      refine R_aload_n (gxd kX2_holdsFor 17 rfl) rfl rfl ?_
      refine R_aload_n (gxd kX2_holdsFor 18 rfl) rfl rfl ?_
      refine R_geti (gxd kX2_holdsFor 19 rfl) gf_T_110 gk_10 (by decide) rfl ?_
      obtain ⟨b3, H⟩ := ggi H
      have b3 := gin_in b3
      refine R_iald (gxd kX2_holdsFor 20 rfl) gk_9 b3 ?_
      refine R_iload_n (gxd kX2_holdsFor 21 rfl) rfl rfl ?_
      refine R_if_eq (gxd kX2_holdsFor 22 rfl) (tgt := 43) rfl (fun q => ?_) (fun q => ?_)
      · replace H := gift q H
        refine R_iconst (v := (0 : Int32)) (gxd kX2_holdsFor 25 rfl) rfl ?_
        exact R_weak (gle_null (gle_null (gle_null gle_nil))) (fT_holdsFor_44_ok  H)
      · replace H := giff q H
        refine R_iconst (v := (1 : Int32)) (gxd kX2_holdsFor 23 rfl) rfl ?_
        refine R_goto (gxd kX2_holdsFor 24 rfl) (tgt := 44) rfl ?_
        exact R_weak (gle_null (gle_null (gle_null gle_nil))) (fT_holdsFor_44_ok  H)
    · replace H := gift q H
      refine R_iload_n (gxd kX2_holdsFor 15 rfl) rfl rfl ?_
      obtain ⟨b4, H⟩ := ggi H
      have b4 := gbo_or b4
      cases H
      exact R_zret (gxd kX2_holdsFor 16 rfl) rfl b4
  · replace H := gift q H
    refine R_aload_n (gxd kX2_holdsFor 4 rfl) rfl rfl ?_
    refine R_aload_n (gxd kX2_holdsFor 5 rfl) rfl rfl ?_
    obtain ⟨p5, e6, H⟩ := gbi H
    refine R_callVi (gxd kX2_holdsFor 6 rfl) gm_T_140 wX2_areUnlike (by decide) gk_10 rfl rfl (Nat.le_of_ble_eq_true rfl) (by omega) (fT_areUnlike_ok  e6 (d + 1)) ?_
    obtain ⟨b7, H⟩ := ggi H
    have b7 := gbo_or b7
    cases H
    exact R_zret (gxd kX2_holdsFor 7 rfl) rfl b7
