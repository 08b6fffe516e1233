def fE_become_21 (o : Nat) : Nat → Int32 → gH → Option gH
  | 0, _, _ => none
  | n + 1, v3, h =>
    if v3 < (40 : Int32) then
      gg (gin v3 40) <|
      glet (hu h (o + 1) v3.toNatClampNeg (0 : Int32)) fun h6 =>
      fE_become_21 o n (v3 + (1 : Int32)) h6
    else
      some h
theorem fE_become_21_ok {d : Nat} {o : Nat} (ho : gSheet o)  : ∀ (n : Nat) (v3 : Int32) (h : gH) (x : gH), fE_become_21 o  n v3 h = some x → gR RX5 cX5_become 4 none (d + 0) 21 [.ref o, .null, .null, .int v3] [] h none x := by
  intro n
  induction n with
  | zero => intro v3 h x  H; exact g0 H
  | succ n ih =>
    intro v3 h x  H
    unfold fE_become_21 at H
    refine R_iload_n (gxd kX5_become 13 rfl) rfl rfl ?_
    refine R_bipush (v := (40 : Int32)) (gxd kX5_become 14 rfl) rfl ?_
    refine R_icmp_ge (gxd kX5_become 15 rfl) (tgt := 40) rfl (fun q => ?_) (fun q => ?_)
    · replace H := giff q H
      cases H
      exact R_vret (gxd kX5_become 23 rfl) rfl
    · replace H := gift q H
      refine R_aload_n (gxd kX5_become 16 rfl) rfl rfl ?_
      refine R_getr (gxd kX5_become 17 rfl) gf_E_9 (gSheet0 ho) (by decide) rfl ?_
      refine R_iload_n (gxd kX5_become 18 rfl) rfl rfl ?_
      refine R_iconst (v := (0 : Int32)) (gxd kX5_become 19 rfl) rfl ?_
      obtain ⟨b5, H⟩ := ggi H
      have b5 := gin_in b5
      refine R_iast (gxd kX5_become 20 rfl) (gSheet1 ho) b5 ?_
      obtain ⟨h6, e7, H⟩ := glei H
      refine R_heq e7 ?_
      refine R_iinc (v := (v3 + (1 : Int32))) (gxd kX5_become 21 rfl) rfl rfl rfl (Nat.le_of_ble_eq_true rfl) rfl ?_
      refine R_goto (gxd kX5_become 22 rfl) (tgt := 21) rfl ?_
      exact R_weak (gle_same (gle_null (gle_null (gle_same gle_nil)))) (ih _ _ _  H)
def fE_become_16 (o : Nat) (s1 : Int32) (h : gH) : Option gH :=
  glet (hu h o 2 s1) fun h3 =>
  fE_become_21 o gfu (0 : Int32) h3
theorem fE_become_16_ok {d : Nat} {o : Nat} {s1 : Int32} (ho : gSheet o)  {h : gH} {x : gH} (H : fE_become_16 o  s1 h = some x) : gR RX5 cX5_become 4 none (d + 0) 16 [.ref o, .null, .null, .null] [.int s1, .ref o] h none x := by
  unfold fE_become_16 at H
  refine R_puti (gxd kX5_become 10 rfl) gf_E_19 gp_5_2 (gSheet0 ho) (by decide) rfl ?_
  obtain ⟨h3, e4, H⟩ := glei H
  refine R_heq e4 ?_
  refine R_iconst (v := (0 : Int32)) (gxd kX5_become 11 rfl) rfl ?_
  refine R_istore_n (gxd kX5_become 12 rfl) rfl rfl (Nat.le_of_ble_eq_true rfl) rfl ?_
  exact R_weak (gle_same (gle_null (gle_null (gle_same gle_nil)))) (fE_become_21_ok ho  gfu _ _ _  H)
def fE_become (o : Nat) (v1 : Int32) (v2 : Int32) (h : gH) : Option gH :=
  glet (hu h o 1 v1) fun h1 =>
  if v1 = (-1 : Int32) then
    fE_become_16 o (0 : Int32) h1
  else
    fE_become_16 o v2 h1
theorem fE_become_ok {o : Nat} {v1 : Int32} {v2 : Int32} (ho : gSheet o) {h : gH} {x : gH} (H : fE_become o v1 v2 h = some x) (d : Nat) : gC yX5_become cX5_become 4 none (d + 0) [.ref o, .int v1, .int v2] h none x := by
  refine gC_of (by decide +kernel) (Nat.le_of_ble_eq_true rfl) rfl ?_
  unfold fE_become at H
  refine R_aload_n (gxd kX5_become 0 rfl) rfl rfl ?_
  refine R_iload_n (gxd kX5_become 1 rfl) rfl rfl ?_
  refine R_puti (gxd kX5_become 2 rfl) gf_E_15 gp_5_1 (gSheet0 ho) (by decide) rfl ?_
  obtain ⟨h1, e2, H⟩ := glei H
  refine R_heq e2 ?_
  refine R_aload_n (gxd kX5_become 3 rfl) rfl rfl ?_
  refine R_iload_n (gxd kX5_become 4 rfl) rfl rfl ?_
  refine R_iconst (v := (-1 : Int32)) (gxd kX5_become 5 rfl) rfl ?_
  refine R_icmp_ne (gxd kX5_become 6 rfl) (tgt := 15) rfl (fun q => ?_) (fun q => ?_)
  · replace H := giff q H
    refine R_iload_n (gxd kX5_become 9 rfl) rfl rfl ?_
    exact R_weak (gle_same (gle_null (gle_null (gle_null gle_nil)))) (fE_become_16_ok ho  H)
  · replace H := gift q H
    refine R_iconst (v := (0 : Int32)) (gxd kX5_become 7 rfl) rfl ?_
    refine R_goto (gxd kX5_become 8 rfl) (tgt := 16) rfl ?_
    exact R_weak (gle_same (gle_null (gle_null (gle_null gle_nil)))) (fE_become_16_ok ho  H)
def fE_isMissing (o : Nat) (h : gH) : Option (Int32 × gH) :=
  if (h o 1) = (-1 : Int32) then
    some ((1 : Int32), h)
  else
    some ((0 : Int32), h)
theorem fE_isMissing_ok {o : Nat} (ho : gSheet o) {h : gH} {x : (Int32 × gH)} (H : fE_isMissing o h = some x) (d : Nat) : gC yX5_isMissing cX5_isMissing 1 (some .boolean) (d + 0) [.ref o] h (some (.int x.1)) x.2 := by
  refine gC_of (by decide +kernel) (Nat.le_of_ble_eq_true rfl) rfl ?_
  unfold fE_isMissing at H
  refine R_aload_n (gxd kX5_isMissing 0 rfl) rfl rfl ?_
  refine R_geti (gxd kX5_isMissing 1 rfl) gf_E_15 (gSheet0 ho) (by decide) rfl ?_
  refine R_iconst (v := (-1 : Int32)) (gxd kX5_isMissing 2 rfl) rfl ?_
  refine R_icmp_ne (gxd kX5_isMissing 3 rfl) (tgt := 12) rfl (fun q => ?_) (fun q => ?_)
  · replace H := giff q H
    refine R_iconst (v := (0 : Int32)) (gxd kX5_isMissing 6 rfl) rfl ?_
    cases H
    exact R_zret (gxd kX5_isMissing 7 rfl) rfl (Or.inl rfl)
  · replace H := gift q H
    refine R_iconst (v := (1 : Int32)) (gxd kX5_isMissing 4 rfl) rfl ?_
    refine R_goto (gxd kX5_isMissing 5 rfl) (tgt := 13) rfl ?_
    cases H
    exact R_zret (gxd kX5_isMissing 7 rfl) rfl (Or.inr rfl)
def fE_has (o : Nat) (v1 : Int32) (h : gH) : Option (Int32 × gH) :=
  if v1 < (0 : Int32) then
    some ((0 : Int32), h)
  else
    if v1 < (h o 2) then
      some ((1 : Int32), h)
    else
      some ((0 : Int32), h)
theorem fE_has_ok {o : Nat} {v1 : Int32} (ho : gSheet o) {h : gH} {x : (Int32 × gH)} (H : fE_has o v1 h = some x) (d : Nat) : gC yX5_has cX5_has 2 (some .boolean) (d + 0) [.ref o, .int v1] h (some (.int x.1)) x.2 := by
  refine gC_of (by decide +kernel) (Nat.le_of_ble_eq_true rfl) rfl ?_
  unfold fE_has at H
  refine R_iload_n (gxd kX5_has 0 rfl) rfl rfl ?_
  refine R_if_lt (gxd kX5_has 1 rfl) (tgt := 16) rfl (fun q => ?_) (fun q => ?_)
  · replace H := gift q H
    refine R_iconst (v := (0 : Int32)) (gxd kX5_has 8 rfl) rfl ?_
    cases H
    exact R_zret (gxd kX5_has 9 rfl) rfl (Or.inl rfl)
  · replace H := giff q H
    refine R_iload_n (gxd kX5_has 2 rfl) rfl rfl ?_
    refine R_aload_n (gxd kX5_has 3 rfl) rfl rfl ?_
    refine R_geti (gxd kX5_has 4 rfl) gf_E_19 (gSheet0 ho) (by decide) rfl ?_
    refine R_icmp_ge (gxd kX5_has 5 rfl) (tgt := 16) rfl (fun q => ?_) (fun q => ?_)
    · replace H := giff q H
      refine R_iconst (v := (0 : Int32)) (gxd kX5_has 8 rfl) rfl ?_
      cases H
      exact R_zret (gxd kX5_has 9 rfl) rfl (Or.inl rfl)
    · replace H := gift q H
      refine R_iconst (v := (1 : Int32)) (gxd kX5_has 6 rfl) rfl ?_
      refine R_goto (gxd kX5_has 7 rfl) (tgt := 17) rfl ?_
      cases H
      exact R_zret (gxd kX5_has 9 rfl) rfl (Or.inr rfl)
def fE_hasRow (o : Nat) (v1 : Int32) (v2 : Int32) (h : gH) : Option (Int32 × gH) :=
  if v2 < (0 : Int32) then
    some ((0 : Int32), h)
  else
    if (h o 2) < v2 then
      some ((0 : Int32), h)
    else
      if v1 < (0 : Int32) then
        some ((0 : Int32), h)
      else
        if ((h o 2) - v2) < v1 then
          some ((0 : Int32), h)
        else
          some ((1 : Int32), h)
theorem fE_hasRow_ok {o : Nat} {v1 : Int32} {v2 : Int32} (ho : gSheet o) {h : gH} {x : (Int32 × gH)} (H : fE_hasRow o v1 v2 h = some x) (d : Nat) : gC yX5_hasRow cX5_hasRow 3 (some .boolean) (d + 0) [.ref o, .int v1, .int v2] h (some (.int x.1)) x.2 := by
  refine gC_of (by decide +kernel) (Nat.le_of_ble_eq_true rfl) rfl ?_
  unfold fE_hasRow at H
  refine R_iload_n (gxd kX5_hasRow 0 rfl) rfl rfl ?_
  refine R_if_lt (gxd kX5_hasRow 1 rfl) (tgt := 30) rfl (fun q => ?_) (fun q => ?_)
  · replace H := gift q H
    refine R_iconst (v := (0 : Int32)) (gxd kX5_hasRow 16 rfl) rfl ?_
    cases H
    exact R_zret (gxd kX5_hasRow 17 rfl) rfl (Or.inl rfl)
  · replace H := giff q H
    refine R_iload_n (gxd kX5_hasRow 2 rfl) rfl rfl ?_
    refine R_aload_n (gxd kX5_hasRow 3 rfl) rfl rfl ?_
    refine R_geti (gxd kX5_hasRow 4 rfl) gf_E_19 (gSheet0 ho) (by decide) rfl ?_
    refine R_icmp_gt (gxd kX5_hasRow 5 rfl) (tgt := 30) rfl (fun q => ?_) (fun q => ?_)
    · replace H := gift q H
      refine R_iconst (v := (0 : Int32)) (gxd kX5_hasRow 16 rfl) rfl ?_
      cases H
      exact R_zret (gxd kX5_hasRow 17 rfl) rfl (Or.inl rfl)
    · replace H := giff q H
      refine R_iload_n (gxd kX5_hasRow 6 rfl) rfl rfl ?_
      refine R_if_lt (gxd kX5_hasRow 7 rfl) (tgt := 30) rfl (fun q => ?_) (fun q => ?_)
      · replace H := gift q H
        refine R_iconst (v := (0 : Int32)) (gxd kX5_hasRow 16 rfl) rfl ?_
        cases H
        exact R_zret (gxd kX5_hasRow 17 rfl) rfl (Or.inl rfl)
      · replace H := giff q H
        refine R_iload_n (gxd kX5_hasRow 8 rfl) rfl rfl ?_
        refine R_aload_n (gxd kX5_hasRow 9 rfl) rfl rfl ?_
        refine R_geti (gxd kX5_hasRow 10 rfl) gf_E_19 (gSheet0 ho) (by decide) rfl ?_
        refine R_iload_n (gxd kX5_hasRow 11 rfl) rfl rfl ?_
        refine R_isub (gxd kX5_hasRow 12 rfl) ?_
        refine R_icmp_gt (gxd kX5_hasRow 13 rfl) (tgt := 30) rfl (fun q => ?_) (fun q => ?_)
        · replace H := gift q H
          refine R_iconst (v := (0 : Int32)) (gxd kX5_hasRow 16 rfl) rfl ?_
          cases H
          exact R_zret (gxd kX5_hasRow 17 rfl) rfl (Or.inl rfl)
        · replace H := giff q H
          refine R_iconst (v := (1 : Int32)) (gxd kX5_hasRow 14 rfl) rfl ?_
          refine R_goto (gxd kX5_hasRow 15 rfl) (tgt := 31) rfl ?_
          cases H
          exact R_zret (gxd kX5_hasRow 17 rfl) rfl (Or.inr rfl)
def fE_cut (o : Nat) (v1 : Int32) (h : gH) : Option (Int32 × gH) :=
  if (h o 1) = (1 : Int32) then
    some (v1.toInt16.toInt32, h)
  else
  if (h o 1) = (2 : Int32) then
    some (v1.toInt8.toInt32, h)
  else
    some (v1, h)
theorem fE_cut_ok {o : Nat} {v1 : Int32} (ho : gSheet o) {h : gH} {x : (Int32 × gH)} (H : fE_cut o v1 h = some x) (d : Nat) : gC yX5_cut cX5_cut 2 (some .int) (d + 0) [.ref o, .int v1] h (some (.int x.1)) x.2 := by
  refine gC_of (by decide +kernel) (Nat.le_of_ble_eq_true rfl) rfl ?_
  unfold fE_cut at H
  refine R_aload_n (gxd kX5_cut 0 rfl) rfl rfl ?_
  refine R_geti (gxd kX5_cut 1 rfl) gf_E_15 (gSheet0 ho) (by decide) rfl ?_
  by_cases q0 : (h o 1) = (1 : Int32)
  · replace H := gift q0 H
    refine R_lookup (gxd kX5_cut 2 rfl) (off := 28) (tgt := 32) (by decide) (by rw [q0]; decide) rfl ?_
    refine R_iload_n (gxd kX5_cut 3 rfl) rfl rfl ?_
    refine R_i2s (gxd kX5_cut 4 rfl) ?_
    cases H
    exact R_iret (gxd kX5_cut 5 rfl) rfl
  replace H := giff q0 H
  by_cases q1 : (h o 1) = (2 : Int32)
  · replace H := gift q1 H
    refine R_lookup (gxd kX5_cut 2 rfl) (off := 31) (tgt := 35) (by decide) (by rw [q1]; decide) rfl ?_
    refine R_iload_n (gxd kX5_cut 6 rfl) rfl rfl ?_
    refine R_i2b (gxd kX5_cut 7 rfl) ?_
    cases H
    exact R_iret (gxd kX5_cut 8 rfl) rfl
  replace H := giff q1 H
  refine R_lookup (gxd kX5_cut 2 rfl) (off := 34) (tgt := 38) (by decide) ((lv_osw q0 rfl).trans ((lv_osw q1 rfl).trans (rfl))) rfl ?_
  refine R_iload_n (gxd kX5_cut 9 rfl) rfl rfl ?_
  cases H
  exact R_iret (gxd kX5_cut 10 rfl) rfl
def fX_feed (v1 : Int32) (h : gH) : Option (Int32 × gH) :=
  if v1 < (0 : Int32) then
    some ((-2 : Int32), h)
  else
    if (255 : Int32) < v1 then
      some ((-2 : Int32), h)
    else
      (fT_accept v1 h).bind fun p1 =>
      if p1.1 = (0 : Int32) then
        some ((-4 : Int32), p1.2)
      else
        some ((p1.2 10 6), p1.2)
theorem fX_feed_ok {v1 : Int32} {h : gH} {x : (Int32 × gH)} (H : fX_feed v1 h = some x) (d : Nat) : gC yX6_feed cX6_feed 2 (some .int) (d + 1) [.ref 0, .int v1] h (some (.int x.1)) x.2 := by
  refine gC_of (by decide +kernel) (Nat.le_of_ble_eq_true rfl) rfl ?_
  unfold fX_feed at H
  refine R_iload_n (gxd kX6_feed 0 rfl) rfl rfl ?_
  refine R_if_lt (gxd kX6_feed 1 rfl) (tgt := 11) rfl (fun q => ?_) (fun q => ?_)
  · replace H := gift q H
    refine R_bipush (v := (-2 : Int32)) (gxd kX6_feed 5 rfl) rfl ?_
    obtain rfl := Option.some.inj H
    exact R_iret (gxd kX6_feed 6 rfl) rfl
  · replace H := giff q H
    refine R_iload_n (gxd kX6_feed 2 rfl) rfl rfl ?_
    refine R_sipush (v := (255 : Int32)) (gxd kX6_feed 3 rfl) rfl ?_
    refine R_icmp_le (gxd kX6_feed 4 rfl) (tgt := 14) rfl (fun q => ?_) (fun q => ?_)
    · replace H := giff q H
      refine R_aload_n (gxd kX6_feed 7 rfl) rfl rfl ?_
      refine R_getr (gxd kX6_feed 8 rfl) gf_X_19 gk_0 (by decide) rfl ?_
      refine R_iload_n (gxd kX6_feed 9 rfl) rfl rfl ?_
      obtain ⟨p1, e2, H⟩ := gbi H
      refine R_callVi (gxd kX6_feed 10 rfl) gm_X_79 wX2_accept (by decide) gk_10 rfl rfl (Nat.le_of_ble_eq_true rfl) (by omega) (fT_accept_ok  e2 (d + 0)) ?_
      refine R_if_eq (gxd kX6_feed 11 rfl) (tgt := 35) rfl (fun q => ?_) (fun q => ?_)
      · replace H := gift q H
        refine R_bipush (v := (-4 : Int32)) (gxd kX6_feed 16 rfl) rfl ?_
        obtain rfl := Option.some.inj H
        exact R_iret (gxd kX6_feed 17 rfl) rfl
      · replace H := giff q H
        refine R_aload_n (gxd kX6_feed 12 rfl) rfl rfl ?_
        refine R_getr (gxd kX6_feed 13 rfl) gf_X_19 gk_0 (by decide) rfl ?_
        refine R_geti (gxd kX6_feed 14 rfl) gf_X_83 gk_10 (by decide) rfl ?_
        refine R_goto (gxd kX6_feed 15 rfl) (tgt := 37) rfl ?_
        obtain rfl := Option.some.inj H
        exact R_iret (gxd kX6_feed 17 rfl) rfl
    · replace H := gift q H
      refine R_bipush (v := (-2 : Int32)) (gxd kX6_feed 5 rfl) rfl ?_
      obtain rfl := Option.some.inj H
      exact R_iret (gxd kX6_feed 6 rfl) rfl
def fX_rule (h : gH) : Option (Int32 × gH) :=
  if (h 1 8) < (16 : Int32) then
    if (h 17 9) = (0 : Int32) then
      (fT_read h).bind fun p1 =>
      glet (hu p1.2 10 6 (0 : Int32)) fun h3 =>
      if p1.1 = (-1 : Int32) then
        (fR_add h3).bind fun p5 =>
        (fR_all p5.2).bind fun p7 =>
        glet (hu p7.2 17 6 p7.1) fun h9 =>
        glet (hu h9 17 7 ((h9 17 7) ||| ((1 : Int32) <<< (p5.1 &&& 31)))) fun h11 =>
        some (p5.1, h11)
      else
        some (((-100 : Int32) - p1.1), h3)
    else
      some ((-3 : Int32), h)
  else
    some ((-4 : Int32), h)
theorem fX_rule_ok {h : gH} {x : (Int32 × gH)} (H : fX_rule  h = some x) (d : Nat) : gC yX6_rule cX6_rule 3 (some .int) (d + 44) [.ref 0] h (some (.int x.1)) x.2 := by
  refine gC_of (by decide +kernel) (Nat.le_of_ble_eq_true rfl) rfl ?_
  unfold fX_rule at H
  refine R_aload_n (gxd kX6_rule 0 rfl) rfl rfl ?_
  refine R_getr (gxd kX6_rule 1 rfl) gf_X_12 gk_0 (by decide) rfl ?_
  refine R_geti (gxd kX6_rule 2 rfl) gf_X_86 gk_1 (by decide) rfl ?_
  refine R_bipush (v := (16 : Int32)) (gxd kX6_rule 3 rfl) rfl ?_
  refine R_icmp_lt (gxd kX6_rule 4 rfl) (tgt := 15) rfl (fun q => ?_) (fun q => ?_)
  · replace H := gift q H
    refine R_aload_n (gxd kX6_rule 7 rfl) rfl rfl ?_
    refine R_getr (gxd kX6_rule 8 rfl) gf_X_28 gk_0 (by decide) rfl ?_
    refine R_geti (gxd kX6_rule 9 rfl) gf_X_87 gk_17 (by decide) rfl ?_
    refine R_if_eq (gxd kX6_rule 10 rfl) (tgt := 28) rfl (fun q => ?_) (fun q => ?_)
    · replace H := gift q H
      refine R_aload_n (gxd kX6_rule 13 rfl) rfl rfl ?_
      refine R_getr (gxd kX6_rule 14 rfl) gf_X_19 gk_0 (by decide) rfl ?_
      obtain ⟨p1, e2, H⟩ := gbi H
      refine R_callVi (gxd kX6_rule 15 rfl) gm_X_90 wX2_read (by decide) gk_10 rfl rfl (Nat.le_of_ble_eq_true rfl) (by omega) (fT_read_ok  e2 (d + 0)) ?_
      refine R_istore_n (gxd kX6_rule 16 rfl) rfl rfl (Nat.le_of_ble_eq_true rfl) rfl ?_
      refine R_aload_n (gxd kX6_rule 17 rfl) rfl rfl ?_
      refine R_getr (gxd kX6_rule 18 rfl) gf_X_19 gk_0 (by decide) rfl ?_
      refine R_iconst (v := (0 : Int32)) (gxd kX6_rule 19 rfl) rfl ?_
      refine R_puti (gxd kX6_rule 20 rfl) gf_X_83 gp_2_6 gk_10 (by decide) rfl ?_
      obtain ⟨h3, e4, H⟩ := glei H
      refine R_heq e4 ?_
      refine R_iload_n (gxd kX6_rule 21 rfl) rfl rfl ?_
      refine R_iconst (v := (-1 : Int32)) (gxd kX6_rule 22 rfl) rfl ?_
      refine R_icmp_eq (gxd kX6_rule 23 rfl) (tgt := 54) rfl (fun q => ?_) (fun q => ?_)
      · replace H := gift q H
        refine R_aload_n (gxd kX6_rule 28 rfl) rfl rfl ?_
        refine R_getr (gxd kX6_rule 29 rfl) gf_X_12 gk_0 (by decide) rfl ?_
        refine R_aload_n (gxd kX6_rule 30 rfl) rfl rfl ?_
        refine R_getr (gxd kX6_rule 31 rfl) gf_X_19 gk_0 (by decide) rfl ?_
        obtain ⟨p5, e6, H⟩ := gbi H
        refine R_callVi (gxd kX6_rule 32 rfl) gm_X_94 wX3_add (by decide) gk_1 rfl rfl (Nat.le_of_ble_eq_true rfl) (by omega) (fR_add_ok  e6 (d + 38)) ?_
        refine R_istore_n (gxd kX6_rule 33 rfl) rfl rfl (Nat.le_of_ble_eq_true rfl) rfl ?_
        refine R_aload_n (gxd kX6_rule 34 rfl) rfl rfl ?_
        refine R_getr (gxd kX6_rule 35 rfl) gf_X_28 gk_0 (by decide) rfl ?_
        refine R_aload_n (gxd kX6_rule 36 rfl) rfl rfl ?_
        refine R_getr (gxd kX6_rule 37 rfl) gf_X_12 gk_0 (by decide) rfl ?_
        obtain ⟨p7, e8, H⟩ := gbi H
        refine R_callVi (gxd kX6_rule 38 rfl) gm_X_98 wX3_all (by decide) gk_1 rfl rfl (Nat.le_of_ble_eq_true rfl) (by omega) (fR_all_ok  e8 (d + 43)) ?_
        refine R_puti (gxd kX6_rule 39 rfl) gf_X_101 gp_0_6 gk_17 (by decide) rfl ?_
        obtain ⟨h9, e10, H⟩ := glei H
        refine R_heq e10 ?_
        refine R_aload_n (gxd kX6_rule 40 rfl) rfl rfl ?_
        refine R_getr (gxd kX6_rule 41 rfl) gf_X_28 gk_0 (by decide) rfl ?_
        refine R_dup (gxd kX6_rule 42 rfl) rfl ?_
        refine R_geti (gxd kX6_rule 43 rfl) gf_X_104 gk_17 (by decide) rfl ?_
        refine R_iconst (v := (1 : Int32)) (gxd kX6_rule 44 rfl) rfl ?_
        refine R_iload_n (gxd kX6_rule 45 rfl) rfl rfl ?_
        refine R_ishl (gxd kX6_rule 46 rfl) ?_
        refine R_ior (gxd kX6_rule 47 rfl) ?_
        refine R_puti (gxd kX6_rule 48 rfl) gf_X_104 gp_0_7 gk_17 (by decide) rfl ?_
        obtain ⟨h11, e12, H⟩ := glei H
        refine R_heq e12 ?_
        refine R_iload_n (gxd kX6_rule 49 rfl) rfl rfl ?_
        obtain rfl := Option.some.inj H
        exact R_iret (gxd kX6_rule 50 rfl) rfl
      · replace H := giff q H
        refine R_bipush (v := (-100 : Int32)) (gxd kX6_rule 24 rfl) rfl ?_
        refine R_iload_n (gxd kX6_rule 25 rfl) rfl rfl ?_
        refine R_isub (gxd kX6_rule 26 rfl) ?_
        obtain rfl := Option.some.inj H
        exact R_iret (gxd kX6_rule 27 rfl) rfl
    · replace H := giff q H
      refine R_bipush (v := (-3 : Int32)) (gxd kX6_rule 11 rfl) rfl ?_
      obtain rfl := Option.some.inj H
      exact R_iret (gxd kX6_rule 12 rfl) rfl
  · replace H := giff q H
    refine R_bipush (v := (-4 : Int32)) (gxd kX6_rule 5 rfl) rfl ?_
    obtain rfl := Option.some.inj H
    exact R_iret (gxd kX6_rule 6 rfl) rfl
def fX_isIdle (v1 : Int32) (h : gH) : Option (Int32 × gH) :=
  (fP_all 22 h).bind fun p1 =>
  (fR_all p1.2).bind fun p3 =>
  (fH_start 28 p1.1 p3.1 p3.2).bind fun h5 =>
  (fH_runAll 28 h5).bind fun p7 =>
  (fP_all 22 p7.2).bind fun p9 =>
  (fR_all p9.2).bind fun p11 =>
  (fH_start 33 p9.1 (p11.1 &&& (((1 : Int32) <<< (v1 &&& 31)) ^^^ (-1 : Int32))) p11.2).bind fun h13 =>
  (fH_runAll 33 h13).bind fun p15 =>
  (fH_isLike 28 33 p15.2).bind fun p17 =>
  gg (gbo p17.1) <|
  some (p17.1, p17.2)
theorem fX_isIdle_ok {v1 : Int32} {h : gH} {x : (Int32 × gH)} (H : fX_isIdle v1 h = some x) (d : Nat) : gC yX6_isIdle cX6_isIdle 2 (some .boolean) (d + 4) [.ref 0, .int v1] h (some (.int x.1)) x.2 := by
  refine gC_of (by decide +kernel) (Nat.le_of_ble_eq_true rfl) rfl ?_
  unfold fX_isIdle at H
  refine R_aload_n (gxd kX6_isIdle 0 rfl) rfl rfl ?_
  refine R_getr (gxd kX6_isIdle 1 rfl) gf_X_39 gk_0 (by decide) rfl ?_
  refine R_aload_n (gxd kX6_isIdle 2 rfl) rfl rfl ?_
  refine R_getr (gxd kX6_isIdle 3 rfl) gf_X_35 gk_0 (by decide) rfl ?_
  refine R_aload_n (gxd kX6_isIdle 4 rfl) rfl rfl ?_
  refine R_getr (gxd kX6_isIdle 5 rfl) gf_X_35 gk_0 (by decide) rfl ?_
  obtain ⟨p1, e2, H⟩ := gbi H
  refine R_callVi (gxd kX6_isIdle 6 rfl) gm_X_198 wX1_all (by decide) gk_22 rfl rfl (Nat.le_of_ble_eq_true rfl) (by omega) (fP_all_ok gP22 e2 (d + 3)) ?_
  refine R_aload_n (gxd kX6_isIdle 7 rfl) rfl rfl ?_
  refine R_getr (gxd kX6_isIdle 8 rfl) gf_X_12 gk_0 (by decide) rfl ?_
  obtain ⟨p3, e4, H⟩ := gbi H
  refine R_callVi (gxd kX6_isIdle 9 rfl) gm_X_98 wX3_all (by decide) gk_1 rfl rfl (Nat.le_of_ble_eq_true rfl) (by omega) (fR_all_ok  e4 (d + 3)) ?_
  obtain ⟨h5, e6, H⟩ := gbi H
  refine R_callVv (gxd kX6_isIdle 10 rfl) gm_X_203 wX0_start (by decide) gk_28 rfl rfl (Nat.le_of_ble_eq_true rfl) (by omega) (fH_start_ok gH28 e6 (d + 1)) ?_
  refine R_aload_n (gxd kX6_isIdle 11 rfl) rfl rfl ?_
  refine R_getr (gxd kX6_isIdle 12 rfl) gf_X_39 gk_0 (by decide) rfl ?_
  obtain ⟨p7, e8, H⟩ := gbi H
  refine R_callVi (gxd kX6_isIdle 13 rfl) gm_X_160 wX0_runAll (by decide) gk_28 rfl rfl (Nat.le_of_ble_eq_true rfl) (by omega) (fH_runAll_ok gH28 e8 (d + 0)) ?_
  refine R_pop (gxd kX6_isIdle 14 rfl) rfl ?_
  refine R_aload_n (gxd kX6_isIdle 15 rfl) rfl rfl ?_
  refine R_getr (gxd kX6_isIdle 16 rfl) gf_X_42 gk_0 (by decide) rfl ?_
  refine R_aload_n (gxd kX6_isIdle 17 rfl) rfl rfl ?_
  refine R_getr (gxd kX6_isIdle 18 rfl) gf_X_35 gk_0 (by decide) rfl ?_
  refine R_aload_n (gxd kX6_isIdle 19 rfl) rfl rfl ?_
  refine R_getr (gxd kX6_isIdle 20 rfl) gf_X_35 gk_0 (by decide) rfl ?_
  obtain ⟨p9, e10, H⟩ := gbi H
  refine R_callVi (gxd kX6_isIdle 21 rfl) gm_X_198 wX1_all (by decide) gk_22 rfl rfl (Nat.le_of_ble_eq_true rfl) (by omega) (fP_all_ok gP22 e10 (d + 3)) ?_
  refine R_aload_n (gxd kX6_isIdle 22 rfl) rfl rfl ?_
  refine R_getr (gxd kX6_isIdle 23 rfl) gf_X_12 gk_0 (by decide) rfl ?_
  obtain ⟨p11, e12, H⟩ := gbi H
  refine R_callVi (gxd kX6_isIdle 24 rfl) gm_X_98 wX3_all (by decide) gk_1 rfl rfl (Nat.le_of_ble_eq_true rfl) (by omega) (fR_all_ok  e12 (d + 3)) ?_
  refine R_iconst (v := (1 : Int32)) (gxd kX6_isIdle 25 rfl) rfl ?_
  refine R_iload_n (gxd kX6_isIdle 26 rfl) rfl rfl ?_
  refine R_ishl (gxd kX6_isIdle 27 rfl) ?_
  refine R_iconst (v := (-1 : Int32)) (gxd kX6_isIdle 28 rfl) rfl ?_
  refine R_ixor (gxd kX6_isIdle 29 rfl) ?_
  refine R_iand (gxd kX6_isIdle 30 rfl) ?_
  obtain ⟨h13, e14, H⟩ := gbi H
  refine R_callVv (gxd kX6_isIdle 31 rfl) gm_X_203 wX0_start (by decide) gk_33 rfl rfl (Nat.le_of_ble_eq_true rfl) (by omega) (fH_start_ok gH33 e14 (d + 1)) ?_
  refine R_aload_n (gxd kX6_isIdle 32 rfl) rfl rfl ?_
  refine R_getr (gxd kX6_isIdle 33 rfl) gf_X_42 gk_0 (by decide) rfl ?_
  obtain ⟨p15, e16, H⟩ := gbi H
  refine R_callVi (gxd kX6_isIdle 34 rfl) gm_X_160 wX0_runAll (by decide) gk_33 rfl rfl (Nat.le_of_ble_eq_true rfl) (by omega) (fH_runAll_ok gH33 e16 (d + 0)) ?_
  refine R_pop (gxd kX6_isIdle 35 rfl) rfl ?_
  refine R_aload_n (gxd kX6_isIdle 36 rfl) rfl rfl ?_
  refine R_getr (gxd kX6_isIdle 37 rfl) gf_X_39 gk_0 (by decide) rfl ?_
  refine R_aload_n (gxd kX6_isIdle 38 rfl) rfl rfl ?_
  refine R_getr (gxd kX6_isIdle 39 rfl) gf_X_42 gk_0 (by decide) rfl ?_
  obtain ⟨p17, e18, H⟩ := gbi H
  refine R_callVi (gxd kX6_isIdle 40 rfl) gm_X_311 wX0_isLike (by decide) gk_28 rfl rfl (Nat.le_of_ble_eq_true rfl) (by omega) (fH_isLike_ok gH28 gH33 e18 (d + 3)) ?_
  obtain ⟨b19, H⟩ := ggi H
  have b19 := gbo_or b19
  obtain rfl := Option.some.inj H
  exact R_zret (gxd kX6_isIdle 41 rfl) rfl b19
def fX_isRule (v1 : Int32) (h : gH) : Option (Int32 × gH) :=
  if v1 < (0 : Int32) then
    some ((0 : Int32), h)
  else
    if v1 < (h 1 8) then
      some ((1 : Int32), h)
    else
      some ((0 : Int32), h)
theorem fX_isRule_ok {v1 : Int32} {h : gH} {x : (Int32 × gH)} (H : fX_isRule v1 h = some x) (d : Nat) : gC yX6_isRule cX6_isRule 2 (some .boolean) (d + 0) [.ref 0, .int v1] h (some (.int x.1)) x.2 := by
  refine gC_of (by decide +kernel) (Nat.le_of_ble_eq_true rfl) rfl ?_
  unfold fX_isRule at H
  refine R_iload_n (gxd kX6_isRule 0 rfl) rfl rfl ?_
  refine R_if_lt (gxd kX6_isRule 1 rfl) (tgt := 19) rfl (fun q => ?_) (fun q => ?_)
  · replace H := gift q H
    refine R_iconst (v := (0 : Int32)) (gxd kX6_isRule 9 rfl) rfl ?_
    obtain rfl := Option.some.inj H
    exact R_zret (gxd kX6_isRule 10 rfl) rfl (Or.inl rfl)
  · replace H := giff q H
    refine R_iload_n (gxd kX6_isRule 2 rfl) rfl rfl ?_
    refine R_aload_n (gxd kX6_isRule 3 rfl) rfl rfl ?_
    refine R_getr (gxd kX6_isRule 4 rfl) gf_X_12 gk_0 (by decide) rfl ?_
    refine R_geti (gxd kX6_isRule 5 rfl) gf_X_86 gk_1 (by decide) rfl ?_
    refine R_icmp_ge (gxd kX6_isRule 6 rfl) (tgt := 19) rfl (fun q => ?_) (fun q => ?_)
    · replace H := giff q H
      refine R_iconst (v := (0 : Int32)) (gxd kX6_isRule 9 rfl) rfl ?_
      obtain rfl := Option.some.inj H
      exact R_zret (gxd kX6_isRule 10 rfl) rfl (Or.inl rfl)
    · replace H := gift q H
      refine R_iconst (v := (1 : Int32)) (gxd kX6_isRule 7 rfl) rfl ?_
      refine R_goto (gxd kX6_isRule 8 rfl) (tgt := 20) rfl ?_
      obtain rfl := Option.some.inj H
      exact R_zret (gxd kX6_isRule 10 rfl) rfl (Or.inr rfl)
def fX_told (v1 : Int32) (v2 : Int32) (h : gH) : Option (Int32 × gH) :=
  (fX_isRule v1 h).bind fun p1 =>
  if p1.1 = (0 : Int32) then
    some ((-2 : Int32), p1.2)
  else
    if v2 = (0 : Int32) then
      gg (gin v1 16) <|
      some ((p1.2 2 v1.toNatClampNeg), p1.2)
    else
    if v2 = (1 : Int32) then
      gg (gin v1 24) <|
      some ((p1.2 3 v1.toNatClampNeg), p1.2)
    else
    if v2 = (2 : Int32) then
      gg (gin v1 24) <|
      some ((p1.2 4 v1.toNatClampNeg), p1.2)
    else
    if v2 = (3 : Int32) then
      some ((((p1.2 17 7) >>> (v1 &&& 31)) &&& (1 : Int32)), p1.2)
    else
    if v2 = (4 : Int32) then
      (fX_isIdle v1 p1.2).bind fun p6 =>
      if p6.1 = (0 : Int32) then
        some ((0 : Int32), p6.2)
      else
        some ((1 : Int32), p6.2)
    else
    if v2 = (5 : Int32) then
      (fR_countWays v1 p1.2).bind fun p8 =>
      some (p8.1, p8.2)
    else
    if v2 = (6 : Int32) then
      (fH_wentBy 17 v1 p1.2).bind fun p10 =>
      some (p10.1, p10.2)
    else
      some ((-2 : Int32), p1.2)
theorem fX_told_ok {v1 : Int32} {v2 : Int32} {h : gH} {x : (Int32 × gH)} (H : fX_told v1 v2 h = some x) (d : Nat) : gC yX6_told cX6_told 3 (some .int) (d + 5) [.ref 0, .int v1, .int v2] h (some (.int x.1)) x.2 := by
  refine gC_of (by decide +kernel) (Nat.le_of_ble_eq_true rfl) rfl ?_
  unfold fX_told at H
  refine R_aload_n (gxd kX6_told 0 rfl) rfl rfl ?_
  refine R_iload_n (gxd kX6_told 1 rfl) rfl rfl ?_
  obtain ⟨p1, e2, H⟩ := gbi H
  refine R_callVi (gxd kX6_told 2 rfl) gm_X_107 wX6_isRule (by decide) gk_0 rfl rfl (Nat.le_of_ble_eq_true rfl) (by omega) (fX_isRule_ok  e2 (d + 4)) ?_
  refine R_if_ne (gxd kX6_told 3 rfl) (tgt := 11) rfl (fun q => ?_) (fun q => ?_)
  · replace H := giff q H
    refine R_iload_n (gxd kX6_told 6 rfl) rfl rfl ?_
    by_cases q0 : v2 = (0 : Int32)
    · replace H := gift q0 H
      refine R_tableIn (gxd kX6_told 7 rfl) (by rw [q0]; decide) (by rw [q0]; decide) (off := 44) (tgt := 56) (by rw [q0]; decide) rfl ?_
      refine R_aload_n (gxd kX6_told 8 rfl) rfl rfl ?_
      refine R_getr (gxd kX6_told 9 rfl) gf_X_12 gk_0 (by decide) rfl ?_
      refine R_getr (gxd kX6_told 10 rfl) gf_X_110 gk_1 (by decide) rfl ?_
      refine R_iload_n (gxd kX6_told 11 rfl) rfl rfl ?_
      obtain ⟨b3, H⟩ := ggi H
      have b3 := gin_in b3
      refine R_iald (gxd kX6_told 12 rfl) gk_2 b3 ?_
      obtain rfl := Option.some.inj H
      exact R_iret (gxd kX6_told 13 rfl) rfl
    replace H := giff q0 H
    by_cases q1 : v2 = (1 : Int32)
    · replace H := gift q1 H
      refine R_tableIn (gxd kX6_told 7 rfl) (by rw [q1]; decide) (by rw [q1]; decide) (off := 54) (tgt := 66) (by rw [q1]; decide) rfl ?_
      refine R_aload_n (gxd kX6_told 14 rfl) rfl rfl ?_
      refine R_getr (gxd kX6_told 15 rfl) gf_X_12 gk_0 (by decide) rfl ?_
      refine R_getr (gxd kX6_told 16 rfl) gf_X_113 gk_1 (by decide) rfl ?_
      refine R_iload_n (gxd kX6_told 17 rfl) rfl rfl ?_
      obtain ⟨b4, H⟩ := ggi H
      have b4 := gin_in b4
      refine R_iald (gxd kX6_told 18 rfl) gk_3 b4 ?_
      obtain rfl := Option.some.inj H
      exact R_iret (gxd kX6_told 19 rfl) rfl
    replace H := giff q1 H
    by_cases q2 : v2 = (2 : Int32)
    · replace H := gift q2 H
      refine R_tableIn (gxd kX6_told 7 rfl) (by rw [q2]; decide) (by rw [q2]; decide) (off := 64) (tgt := 76) (by rw [q2]; decide) rfl ?_
      refine R_aload_n (gxd kX6_told 20 rfl) rfl rfl ?_
      refine R_getr (gxd kX6_told 21 rfl) gf_X_12 gk_0 (by decide) rfl ?_
      refine R_getr (gxd kX6_told 22 rfl) gf_X_116 gk_1 (by decide) rfl ?_
      refine R_iload_n (gxd kX6_told 23 rfl) rfl rfl ?_
      obtain ⟨b5, H⟩ := ggi H
      have b5 := gin_in b5
      refine R_iald (gxd kX6_told 24 rfl) gk_4 b5 ?_
      obtain rfl := Option.some.inj H
      exact R_iret (gxd kX6_told 25 rfl) rfl
    replace H := giff q2 H
    by_cases q3 : v2 = (3 : Int32)
    · replace H := gift q3 H
      refine R_tableIn (gxd kX6_told 7 rfl) (by rw [q3]; decide) (by rw [q3]; decide) (off := 74) (tgt := 86) (by rw [q3]; decide) rfl ?_
      refine R_aload_n (gxd kX6_told 26 rfl) rfl rfl ?_
      refine R_getr (gxd kX6_told 27 rfl) gf_X_28 gk_0 (by decide) rfl ?_
      refine R_geti (gxd kX6_told 28 rfl) gf_X_104 gk_17 (by decide) rfl ?_
      refine R_iload_n (gxd kX6_told 29 rfl) rfl rfl ?_
      refine R_ishr (gxd kX6_told 30 rfl) ?_
      refine R_iconst (v := (1 : Int32)) (gxd kX6_told 31 rfl) rfl ?_
      refine R_iand (gxd kX6_told 32 rfl) ?_
      obtain rfl := Option.some.inj H
      exact R_iret (gxd kX6_told 33 rfl) rfl
    replace H := giff q3 H
    by_cases q4 : v2 = (4 : Int32)
    · replace H := gift q4 H
      refine R_tableIn (gxd kX6_told 7 rfl) (by rw [q4]; decide) (by rw [q4]; decide) (off := 86) (tgt := 98) (by rw [q4]; decide) rfl ?_
      refine R_aload_n (gxd kX6_told 34 rfl) rfl rfl ?_
      refine R_iload_n (gxd kX6_told 35 rfl) rfl rfl ?_
      obtain ⟨p6, e7, H⟩ := gbi H
      refine R_callVi (gxd kX6_told 36 rfl) gm_X_119 wX6_isIdle (by decide) gk_0 rfl rfl (Nat.le_of_ble_eq_true rfl) (by omega) (fX_isIdle_ok  e7 (d + 0)) ?_
      refine R_if_eq (gxd kX6_told 37 rfl) (tgt := 110) rfl (fun q => ?_) (fun q => ?_)
      · replace H := gift q H
        refine R_iconst (v := (0 : Int32)) (gxd kX6_told 40 rfl) rfl ?_
        obtain rfl := Option.some.inj H
        exact R_iret (gxd kX6_told 41 rfl) rfl
      · replace H := giff q H
        refine R_iconst (v := (1 : Int32)) (gxd kX6_told 38 rfl) rfl ?_
        refine R_goto (gxd kX6_told 39 rfl) (tgt := 111) rfl ?_
        obtain rfl := Option.some.inj H
        exact R_iret (gxd kX6_told 41 rfl) rfl
    replace H := giff q4 H
    by_cases q5 : v2 = (5 : Int32)
    · replace H := gift q5 H
      refine R_tableIn (gxd kX6_told 7 rfl) (by rw [q5]; decide) (by rw [q5]; decide) (off := 100) (tgt := 112) (by rw [q5]; decide) rfl ?_
      refine R_aload_n (gxd kX6_told 42 rfl) rfl rfl ?_
      refine R_getr (gxd kX6_told 43 rfl) gf_X_12 gk_0 (by decide) rfl ?_
      refine R_iload_n (gxd kX6_told 44 rfl) rfl rfl ?_
      refine R_aload_n (gxd kX6_told 45 rfl) rfl rfl ?_
      refine R_getr (gxd kX6_told 46 rfl) gf_X_28 gk_0 (by decide) rfl ?_
      refine R_getr (gxd kX6_told 47 rfl) gf_X_122 gk_17 (by decide) rfl ?_
      obtain ⟨p8, e9, H⟩ := gbi H
      refine R_callVi (gxd kX6_told 48 rfl) gm_X_125 wX3_countWays (by decide) gk_1 rfl rfl (Nat.le_of_ble_eq_true rfl) (by omega) (fR_countWays_ok  e9 (d + 3)) ?_
      obtain rfl := Option.some.inj H
      exact R_iret (gxd kX6_told 49 rfl) rfl
    replace H := giff q5 H
    by_cases q6 : v2 = (6 : Int32)
    · replace H := gift q6 H
      refine R_tableIn (gxd kX6_told 7 rfl) (by rw [q6]; decide) (by rw [q6]; decide) (off := 116) (tgt := 128) (by rw [q6]; decide) rfl ?_
      refine R_aload_n (gxd kX6_told 50 rfl) rfl rfl ?_
      refine R_getr (gxd kX6_told 51 rfl) gf_X_28 gk_0 (by decide) rfl ?_
      refine R_iload_n (gxd kX6_told 52 rfl) rfl rfl ?_
      obtain ⟨p10, e11, H⟩ := gbi H
      refine R_callVi (gxd kX6_told 53 rfl) gm_X_129 wX0_wentBy (by decide) gk_17 rfl rfl (Nat.le_of_ble_eq_true rfl) (by omega) (fH_wentBy_ok gH17 e11 (d + 4)) ?_
      obtain rfl := Option.some.inj H
      exact R_iret (gxd kX6_told 54 rfl) rfl
    replace H := giff q6 H
    refine R_tableOut (gxd kX6_told 7 rfl) (tgt := 137) (by have z0 := lv_neT q0 (a := 0) (by decide); have z1 := lv_neT q1 (a := 1) (by decide); have z2 := lv_neT q2 (a := 2) (by decide); have z3 := lv_neT q3 (a := 3) (by decide); have z4 := lv_neT q4 (a := 4) (by decide); have z5 := lv_neT q5 (a := 5) (by decide); have z6 := lv_neT q6 (a := 6) (by decide); omega) rfl ?_
    refine R_bipush (v := (-2 : Int32)) (gxd kX6_told 55 rfl) rfl ?_
    obtain rfl := Option.some.inj H
    exact R_iret (gxd kX6_told 56 rfl) rfl
  · replace H := gift q H
    refine R_bipush (v := (-2 : Int32)) (gxd kX6_told 4 rfl) rfl ?_
    obtain rfl := Option.some.inj H
    exact R_iret (gxd kX6_told 5 rfl) rfl
def fX_isValue (v0 : Int32) (h : gH) : Option (Int32 × gH) :=
  if v0 < (0 : Int32) then
    some ((0 : Int32), h)
  else
    if v0 < (10 : Int32) then
      some ((1 : Int32), h)
    else
      some ((0 : Int32), h)
theorem fX_isValue_ok {v0 : Int32} {h : gH} {x : (Int32 × gH)} (H : fX_isValue v0 h = some x) (d : Nat) : gC yX6_isValue cX6_isValue 1 (some .boolean) (d + 0) [.int v0] h (some (.int x.1)) x.2 := by
  refine gC_of (by decide +kernel) (Nat.le_of_ble_eq_true rfl) rfl ?_
  unfold fX_isValue at H
  refine R_iload_n (gxd kX6_isValue 0 rfl) rfl rfl ?_
  refine R_if_lt (gxd kX6_isValue 1 rfl) (tgt := 14) rfl (fun q => ?_) (fun q => ?_)
  · replace H := gift q H
    refine R_iconst (v := (0 : Int32)) (gxd kX6_isValue 7 rfl) rfl ?_
    obtain rfl := Option.some.inj H
    exact R_zret (gxd kX6_isValue 8 rfl) rfl (Or.inl rfl)
  · replace H := giff q H
    refine R_iload_n (gxd kX6_isValue 2 rfl) rfl rfl ?_
    refine R_bipush (v := (10 : Int32)) (gxd kX6_isValue 3 rfl) rfl ?_
    refine R_icmp_ge (gxd kX6_isValue 4 rfl) (tgt := 14) rfl (fun q => ?_) (fun q => ?_)
    · replace H := giff q H
      refine R_iconst (v := (0 : Int32)) (gxd kX6_isValue 7 rfl) rfl ?_
      obtain rfl := Option.some.inj H
      exact R_zret (gxd kX6_isValue 8 rfl) rfl (Or.inl rfl)
    · replace H := gift q H
      refine R_iconst (v := (1 : Int32)) (gxd kX6_isValue 5 rfl) rfl ?_
      refine R_goto (gxd kX6_isValue 6 rfl) (tgt := 15) rfl ?_
      obtain rfl := Option.some.inj H
      exact R_zret (gxd kX6_isValue 8 rfl) rfl (Or.inr rfl)
def fX_holds_63 (v1 : Int32) (v2 : Int32) (v3 : Int32) (v4 : Int32) (v5 : Int32) (h : gH) : Option (Int32 × gH) :=
  if v5 = (0 : Int32) then
    (fR_isWay v1 (0 : Int32) (0 : Int32) (0 : Int32) h).bind fun p5 =>
    if p5.1 = (0 : Int32) then
      some ((0 : Int32), p5.2)
    else
      some ((1 : Int32), p5.2)
  else
  if v5 = (1 : Int32) then
    (fR_isWay v1 (0 : Int32) (0 : Int32) v2 h).bind fun p7 =>
    if p7.1 = (0 : Int32) then
      some ((0 : Int32), p7.2)
    else
      some ((1 : Int32), p7.2)
  else
  if v5 = (2 : Int32) then
    (fR_isWay v1 (0 : Int32) v2 v3 h).bind fun p9 =>
    if p9.1 = (0 : Int32) then
      some ((0 : Int32), p9.2)
    else
      some ((1 : Int32), p9.2)
  else
    (fR_isWay v1 v2 v3 v4 h).bind fun p11 =>
    if p11.1 = (0 : Int32) then
      some ((0 : Int32), p11.2)
    else
      some ((1 : Int32), p11.2)
theorem fX_holds_63_ok {d : Nat} {v1 : Int32} {v2 : Int32} {v3 : Int32} {v4 : Int32} {v5 : Int32}  {h : gH} {x : (Int32 × gH)} (H : fX_holds_63 v1 v2 v3 v4 v5  h = some x) : gR RX6 cX6_holds 6 (some .int) (d + 2) 63 [.ref 0, .int v1, .int v2, .int v3, .int v4, .int v5] [] h (some (.int x.1)) x.2 := by
  unfold fX_holds_63 at H
  refine R_iload (gxd kX6_holds 30 rfl) rfl ?_
  by_cases q0 : v5 = (0 : Int32)
  · replace H := gift q0 H
    refine R_tableIn (gxd kX6_holds 31 rfl) (by rw [q0]; decide) (by rw [q0]; decide) (off := 27) (tgt := 92) (by rw [q0]; decide) rfl ?_
    refine R_aload_n (gxd kX6_holds 32 rfl) rfl rfl ?_
    refine R_getr (gxd kX6_holds 33 rfl) gf_X_12 gk_0 (by decide) rfl ?_
    refine R_iload_n (gxd kX6_holds 34 rfl) rfl rfl ?_
    refine R_iconst (v := (0 : Int32)) (gxd kX6_holds 35 rfl) rfl ?_
    refine R_iconst (v := (0 : Int32)) (gxd kX6_holds 36 rfl) rfl ?_
    refine R_iconst (v := (0 : Int32)) (gxd kX6_holds 37 rfl) rfl ?_
    obtain ⟨p5, e6, H⟩ := gbi H
    refine R_callVi (gxd kX6_holds 38 rfl) gm_X_139 wX3_isWay (by decide) gk_1 rfl rfl (Nat.le_of_ble_eq_true rfl) (by omega) (fR_isWay_ok  e6 (d + 1)) ?_
    refine R_if_eq (gxd kX6_holds 39 rfl) (tgt := 110) rfl (fun q => ?_) (fun q => ?_)
    · replace H := gift q H
      refine R_iconst (v := (0 : Int32)) (gxd kX6_holds 42 rfl) rfl ?_
      obtain rfl := Option.some.inj H
      exact R_iret (gxd kX6_holds 43 rfl) rfl
    · replace H := giff q H
      refine R_iconst (v := (1 : Int32)) (gxd kX6_holds 40 rfl) rfl ?_
      refine R_goto (gxd kX6_holds 41 rfl) (tgt := 111) rfl ?_
      obtain rfl := Option.some.inj H
      exact R_iret (gxd kX6_holds 43 rfl) rfl
  replace H := giff q0 H
  by_cases q1 : v5 = (1 : Int32)
  · replace H := gift q1 H
    refine R_tableIn (gxd kX6_holds 31 rfl) (by rw [q1]; decide) (by rw [q1]; decide) (off := 47) (tgt := 112) (by rw [q1]; decide) rfl ?_
    refine R_aload_n (gxd kX6_holds 44 rfl) rfl rfl ?_
    refine R_getr (gxd kX6_holds 45 rfl) gf_X_12 gk_0 (by decide) rfl ?_
    refine R_iload_n (gxd kX6_holds 46 rfl) rfl rfl ?_
    refine R_iconst (v := (0 : Int32)) (gxd kX6_holds 47 rfl) rfl ?_
    refine R_iconst (v := (0 : Int32)) (gxd kX6_holds 48 rfl) rfl ?_
    refine R_iload_n (gxd kX6_holds 49 rfl) rfl rfl ?_
    obtain ⟨p7, e8, H⟩ := gbi H
    refine R_callVi (gxd kX6_holds 50 rfl) gm_X_139 wX3_isWay (by decide) gk_1 rfl rfl (Nat.le_of_ble_eq_true rfl) (by omega) (fR_isWay_ok  e8 (d + 1)) ?_
    refine R_if_eq (gxd kX6_holds 51 rfl) (tgt := 130) rfl (fun q => ?_) (fun q => ?_)
    · replace H := gift q H
      refine R_iconst (v := (0 : Int32)) (gxd kX6_holds 54 rfl) rfl ?_
      obtain rfl := Option.some.inj H
      exact R_iret (gxd kX6_holds 55 rfl) rfl
    · replace H := giff q H
      refine R_iconst (v := (1 : Int32)) (gxd kX6_holds 52 rfl) rfl ?_
      refine R_goto (gxd kX6_holds 53 rfl) (tgt := 131) rfl ?_
      obtain rfl := Option.some.inj H
      exact R_iret (gxd kX6_holds 55 rfl) rfl
  replace H := giff q1 H
  by_cases q2 : v5 = (2 : Int32)
  · replace H := gift q2 H
    refine R_tableIn (gxd kX6_holds 31 rfl) (by rw [q2]; decide) (by rw [q2]; decide) (off := 67) (tgt := 132) (by rw [q2]; decide) rfl ?_
    refine R_aload_n (gxd kX6_holds 56 rfl) rfl rfl ?_
    refine R_getr (gxd kX6_holds 57 rfl) gf_X_12 gk_0 (by decide) rfl ?_
    refine R_iload_n (gxd kX6_holds 58 rfl) rfl rfl ?_
    refine R_iconst (v := (0 : Int32)) (gxd kX6_holds 59 rfl) rfl ?_
    refine R_iload_n (gxd kX6_holds 60 rfl) rfl rfl ?_
    refine R_iload_n (gxd kX6_holds 61 rfl) rfl rfl ?_
    obtain ⟨p9, e10, H⟩ := gbi H
    refine R_callVi (gxd kX6_holds 62 rfl) gm_X_139 wX3_isWay (by decide) gk_1 rfl rfl (Nat.le_of_ble_eq_true rfl) (by omega) (fR_isWay_ok  e10 (d + 1)) ?_
    refine R_if_eq (gxd kX6_holds 63 rfl) (tgt := 150) rfl (fun q => ?_) (fun q => ?_)
    · replace H := gift q H
      refine R_iconst (v := (0 : Int32)) (gxd kX6_holds 66 rfl) rfl ?_
      obtain rfl := Option.some.inj H
      exact R_iret (gxd kX6_holds 67 rfl) rfl
    · replace H := giff q H
      refine R_iconst (v := (1 : Int32)) (gxd kX6_holds 64 rfl) rfl ?_
      refine R_goto (gxd kX6_holds 65 rfl) (tgt := 151) rfl ?_
      obtain rfl := Option.some.inj H
      exact R_iret (gxd kX6_holds 67 rfl) rfl
  replace H := giff q2 H
  refine R_tableOut (gxd kX6_holds 31 rfl) (tgt := 152) (by have z0 := lv_neT q0 (a := 0) (by decide); have z1 := lv_neT q1 (a := 1) (by decide); have z2 := lv_neT q2 (a := 2) (by decide); omega) rfl ?_
  refine R_aload_n (gxd kX6_holds 68 rfl) rfl rfl ?_
  refine R_getr (gxd kX6_holds 69 rfl) gf_X_12 gk_0 (by decide) rfl ?_
  refine R_iload_n (gxd kX6_holds 70 rfl) rfl rfl ?_
  refine R_iload_n (gxd kX6_holds 71 rfl) rfl rfl ?_
  refine R_iload_n (gxd kX6_holds 72 rfl) rfl rfl ?_
  refine R_iload (gxd kX6_holds 73 rfl) rfl ?_
  obtain ⟨p11, e12, H⟩ := gbi H
  refine R_callVi (gxd kX6_holds 74 rfl) gm_X_139 wX3_isWay (by decide) gk_1 rfl rfl (Nat.le_of_ble_eq_true rfl) (by omega) (fR_isWay_ok  e12 (d + 1)) ?_
  refine R_if_eq (gxd kX6_holds 75 rfl) (tgt := 171) rfl (fun q => ?_) (fun q => ?_)
  · replace H := gift q H
    refine R_iconst (v := (0 : Int32)) (gxd kX6_holds 78 rfl) rfl ?_
    obtain rfl := Option.some.inj H
    exact R_iret (gxd kX6_holds 79 rfl) rfl
  · replace H := giff q H
    refine R_iconst (v := (1 : Int32)) (gxd kX6_holds 76 rfl) rfl ?_
    refine R_goto (gxd kX6_holds 77 rfl) (tgt := 172) rfl ?_
    obtain rfl := Option.some.inj H
    exact R_iret (gxd kX6_holds 79 rfl) rfl
def fX_holds_46 (v1 : Int32) (v2 : Int32) (v3 : Int32) (v4 : Int32) (v5 : Int32) (h : gH) : Option (Int32 × gH) :=
  if (2 : Int32) < v5 then
    (fX_isValue v4 h).bind fun p13 =>
    if p13.1 = (0 : Int32) then
      some ((-2 : Int32), p13.2)
    else
      fX_holds_63 v1 v2 v3 v4 v5 p13.2
  else
    fX_holds_63 v1 v2 v3 v4 v5 h
theorem fX_holds_46_ok {d : Nat} {v1 : Int32} {v2 : Int32} {v3 : Int32} {v4 : Int32} {v5 : Int32}  {h : gH} {x : (Int32 × gH)} (H : fX_holds_46 v1 v2 v3 v4 v5  h = some x) : gR RX6 cX6_holds 6 (some .int) (d + 2) 46 [.ref 0, .int v1, .int v2, .int v3, .int v4, .int v5] [] h (some (.int x.1)) x.2 := by
  unfold fX_holds_46 at H
  refine R_iload (gxd kX6_holds 22 rfl) rfl ?_
  refine R_iconst (v := (2 : Int32)) (gxd kX6_holds 23 rfl) rfl ?_
  refine R_icmp_le (gxd kX6_holds 24 rfl) (tgt := 63) rfl (fun q => ?_) (fun q => ?_)
  · replace H := giff q H
    exact R_weak (gle_same (gle_same (gle_same (gle_same (gle_same (gle_same gle_nil)))))) (fX_holds_63_ok  H)
  · replace H := gift q H
    refine R_iload (gxd kX6_holds 25 rfl) rfl ?_
    obtain ⟨p13, e14, H⟩ := gbi H
    refine R_callSi (gxd kX6_holds 26 rfl) gm_X_136 wX6_isValue (by decide) rfl (Nat.le_of_ble_eq_true rfl) (by omega) (fX_isValue_ok  e14 (d + 1)) ?_
    refine R_if_ne (gxd kX6_holds 27 rfl) (tgt := 63) rfl (fun q => ?_) (fun q => ?_)
    · replace H := giff q H
      exact R_weak (gle_same (gle_same (gle_same (gle_same (gle_same (gle_same gle_nil)))))) (fX_holds_63_ok  H)
    · replace H := gift q H
      refine R_bipush (v := (-2 : Int32)) (gxd kX6_holds 28 rfl) rfl ?_
      obtain rfl := Option.some.inj H
      exact R_iret (gxd kX6_holds 29 rfl) rfl
def fX_holds_33 (v1 : Int32) (v2 : Int32) (v3 : Int32) (v4 : Int32) (v5 : Int32) (h : gH) : Option (Int32 × gH) :=
  if (1 : Int32) < v5 then
    (fX_isValue v3 h).bind fun p15 =>
    if p15.1 = (0 : Int32) then
      some ((-2 : Int32), p15.2)
    else
      fX_holds_46 v1 v2 v3 v4 v5 p15.2
  else
    fX_holds_46 v1 v2 v3 v4 v5 h
theorem fX_holds_33_ok {d : Nat} {v1 : Int32} {v2 : Int32} {v3 : Int32} {v4 : Int32} {v5 : Int32}  {h : gH} {x : (Int32 × gH)} (H : fX_holds_33 v1 v2 v3 v4 v5  h = some x) : gR RX6 cX6_holds 6 (some .int) (d + 2) 33 [.ref 0, .int v1, .int v2, .int v3, .int v4, .int v5] [] h (some (.int x.1)) x.2 := by
  unfold fX_holds_33 at H
  refine R_iload (gxd kX6_holds 16 rfl) rfl ?_
  refine R_iconst (v := (1 : Int32)) (gxd kX6_holds 17 rfl) rfl ?_
  refine R_icmp_le (gxd kX6_holds 18 rfl) (tgt := 46) rfl (fun q => ?_) (fun q => ?_)
  · replace H := giff q H
    exact R_weak (gle_same (gle_same (gle_same (gle_same (gle_same (gle_same gle_nil)))))) (fX_holds_46_ok  H)
  · replace H := gift q H
    refine R_iload_n (gxd kX6_holds 19 rfl) rfl rfl ?_
    obtain ⟨p15, e16, H⟩ := gbi H
    refine R_callSi (gxd kX6_holds 20 rfl) gm_X_136 wX6_isValue (by decide) rfl (Nat.le_of_ble_eq_true rfl) (by omega) (fX_isValue_ok  e16 (d + 1)) ?_
    refine R_if_eq (gxd kX6_holds 21 rfl) (tgt := 60) rfl (fun q => ?_) (fun q => ?_)
    · replace H := gift q H
      refine R_bipush (v := (-2 : Int32)) (gxd kX6_holds 28 rfl) rfl ?_
      obtain rfl := Option.some.inj H
      exact R_iret (gxd kX6_holds 29 rfl) rfl
    · replace H := giff q H
      exact R_weak (gle_same (gle_same (gle_same (gle_same (gle_same (gle_same gle_nil)))))) (fX_holds_46_ok  H)
def fX_holds (v1 : Int32) (v2 : Int32) (v3 : Int32) (v4 : Int32) (h : gH) : Option (Int32 × gH) :=
  (fX_isRule v1 h).bind fun p1 =>
  if p1.1 = (0 : Int32) then
    some ((-2 : Int32), p1.2)
  else
    (fR_howMany v1 p1.2).bind fun p3 =>
    if (0 : Int32) < p3.1 then
      (fX_isValue v2 p3.2).bind fun p17 =>
      if p17.1 = (0 : Int32) then
        some ((-2 : Int32), p17.2)
      else
        fX_holds_33 v1 v2 v3 v4 p3.1 p17.2
    else
      fX_holds_33 v1 v2 v3 v4 p3.1 p3.2
theorem fX_holds_ok {v1 : Int32} {v2 : Int32} {v3 : Int32} {v4 : Int32} {h : gH} {x : (Int32 × gH)} (H : fX_holds v1 v2 v3 v4 h = some x) (d : Nat) : gC yX6_holds cX6_holds 6 (some .int) (d + 2) [.ref 0, .int v1, .int v2, .int v3, .int v4] h (some (.int x.1)) x.2 := by
  refine gC_of (by decide +kernel) (Nat.le_of_ble_eq_true rfl) rfl ?_
  unfold fX_holds at H
  refine R_aload_n (gxd kX6_holds 0 rfl) rfl rfl ?_
  refine R_iload_n (gxd kX6_holds 1 rfl) rfl rfl ?_
  obtain ⟨p1, e2, H⟩ := gbi H
  refine R_callVi (gxd kX6_holds 2 rfl) gm_X_107 wX6_isRule (by decide) gk_0 rfl rfl (Nat.le_of_ble_eq_true rfl) (by omega) (fX_isRule_ok  e2 (d + 1)) ?_
  refine R_if_ne (gxd kX6_holds 3 rfl) (tgt := 11) rfl (fun q => ?_) (fun q => ?_)
  · replace H := giff q H
    refine R_aload_n (gxd kX6_holds 6 rfl) rfl rfl ?_
    refine R_getr (gxd kX6_holds 7 rfl) gf_X_12 gk_0 (by decide) rfl ?_
    refine R_iload_n (gxd kX6_holds 8 rfl) rfl rfl ?_
    obtain ⟨p3, e4, H⟩ := gbi H
    refine R_callVi (gxd kX6_holds 9 rfl) gm_X_133 wX3_howMany (by decide) gk_1 rfl rfl (Nat.le_of_ble_eq_true rfl) (by omega) (fR_howMany_ok  e4 (d + 0)) ?_
    refine R_istore (gxd kX6_holds 10 rfl) rfl (Nat.le_of_ble_eq_true rfl) rfl ?_
    refine R_iload (gxd kX6_holds 11 rfl) rfl ?_
    refine R_if_le (gxd kX6_holds 12 rfl) (tgt := 33) rfl (fun q => ?_) (fun q => ?_)
    · replace H := giff q H
      exact R_weak (gle_same (gle_same (gle_same (gle_same (gle_same (gle_same gle_nil)))))) (fX_holds_33_ok  H)
    · replace H := gift q H
      refine R_iload_n (gxd kX6_holds 13 rfl) rfl rfl ?_
      obtain ⟨p17, e18, H⟩ := gbi H
      refine R_callSi (gxd kX6_holds 14 rfl) gm_X_136 wX6_isValue (by decide) rfl (Nat.le_of_ble_eq_true rfl) (by omega) (fX_isValue_ok  e18 (d + 1)) ?_
      refine R_if_eq (gxd kX6_holds 15 rfl) (tgt := 60) rfl (fun q => ?_) (fun q => ?_)
      · replace H := gift q H
        refine R_bipush (v := (-2 : Int32)) (gxd kX6_holds 28 rfl) rfl ?_
        obtain rfl := Option.some.inj H
        exact R_iret (gxd kX6_holds 29 rfl) rfl
      · replace H := giff q H
        exact R_weak (gle_same (gle_same (gle_same (gle_same (gle_same (gle_same gle_nil)))))) (fX_holds_33_ok  H)
  · replace H := gift q H
    refine R_bipush (v := (-2 : Int32)) (gxd kX6_holds 4 rfl) rfl ?_
    obtain rfl := Option.some.inj H
    exact R_iret (gxd kX6_holds 5 rfl) rfl
def fX_taken_50 (v1 : Int32) (h : gH) : Option (Int32 × gH) :=
  (fR_howMany v1 h).bind fun p4 =>
  some (p4.1, p4.2)
theorem fX_taken_50_ok {d : Nat} {v1 : Int32}  {h : gH} {x : (Int32 × gH)} (H : fX_taken_50 v1  h = some x) : gR RX6 cX6_taken 4 (some .int) (d + 2) 50 [.ref 0, .int v1, .null, .null] [] h (some (.int x.1)) x.2 := by
  unfold fX_taken_50 at H
  refine R_aload_n (gxd kX6_taken 29 rfl) rfl rfl ?_
  refine R_getr (gxd kX6_taken 30 rfl) gf_X_12 gk_0 (by decide) rfl ?_
  refine R_iload_n (gxd kX6_taken 31 rfl) rfl rfl ?_
  obtain ⟨p4, e5, H⟩ := gbi H
  refine R_callVi (gxd kX6_taken 32 rfl) gm_X_133 wX3_howMany (by decide) gk_1 rfl rfl (Nat.le_of_ble_eq_true rfl) (by omega) (fR_howMany_ok  e5 (d + 0)) ?_
  obtain rfl := Option.some.inj H
  exact R_iret (gxd kX6_taken 33 rfl) rfl
def fX_taken (v1 : Int32) (v2 : Int32) (h : gH) : Option (Int32 × gH) :=
  if v2 < (0 : Int32) then
    some ((-2 : Int32), h)
  else
    if (2 : Int32) < v2 then
      some ((-2 : Int32), h)
    else
      (fX_isRule v1 h).bind fun p1 =>
      if p1.1 = (0 : Int32) then
        some ((-11 : Int32), p1.2)
      else
        gg (gin v1 16) <|
        if (p1.2 2 v1.toNatClampNeg) = v2 then
          fX_taken_50 v1 p1.2
        else
          if (p1.2 2 v1.toNatClampNeg) = (1 : Int32) then
            if v2 = (0 : Int32) then
              fX_taken_50 v1 p1.2
            else
              some ((-13 : Int32), p1.2)
          else
            some ((-13 : Int32), p1.2)
theorem fX_taken_ok {v1 : Int32} {v2 : Int32} {h : gH} {x : (Int32 × gH)} (H : fX_taken v1 v2 h = some x) (d : Nat) : gC yX6_taken cX6_taken 4 (some .int) (d + 2) [.ref 0, .int v1, .int v2] h (some (.int x.1)) x.2 := by
  refine gC_of (by decide +kernel) (Nat.le_of_ble_eq_true rfl) rfl ?_
  unfold fX_taken at H
  refine R_iload_n (gxd kX6_taken 0 rfl) rfl rfl ?_
  refine R_if_lt (gxd kX6_taken 1 rfl) (tgt := 9) rfl (fun q => ?_) (fun q => ?_)
  · replace H := gift q H
    refine R_bipush (v := (-2 : Int32)) (gxd kX6_taken 5 rfl) rfl ?_
    obtain rfl := Option.some.inj H
    exact R_iret (gxd kX6_taken 6 rfl) rfl
  · replace H := giff q H
    refine R_iload_n (gxd kX6_taken 2 rfl) rfl rfl ?_
    refine R_iconst (v := (2 : Int32)) (gxd kX6_taken 3 rfl) rfl ?_
    refine R_icmp_le (gxd kX6_taken 4 rfl) (tgt := 12) rfl (fun q => ?_) (fun q => ?_)
    · replace H := giff q H
      refine R_aload_n (gxd kX6_taken 7 rfl) rfl rfl ?_
      refine R_iload_n (gxd kX6_taken 8 rfl) rfl rfl ?_
      obtain ⟨p1, e2, H⟩ := gbi H
      refine R_callVi (gxd kX6_taken 9 rfl) gm_X_107 wX6_isRule (by decide) gk_0 rfl rfl (Nat.le_of_ble_eq_true rfl) (by omega) (fX_isRule_ok  e2 (d + 1)) ?_
      refine R_if_ne (gxd kX6_taken 10 rfl) (tgt := 23) rfl (fun q => ?_) (fun q => ?_)
      · replace H := giff q H
        refine R_aload_n (gxd kX6_taken 13 rfl) rfl rfl ?_
        refine R_getr (gxd kX6_taken 14 rfl) gf_X_12 gk_0 (by decide) rfl ?_
        refine R_getr (gxd kX6_taken 15 rfl) gf_X_110 gk_1 (by decide) rfl ?_
        refine R_iload_n (gxd kX6_taken 16 rfl) rfl rfl ?_
        obtain ⟨b3, H⟩ := ggi H
        have b3 := gin_in b3
        refine R_iald (gxd kX6_taken 17 rfl) gk_2 b3 ?_
        refine R_istore_n (gxd kX6_taken 18 rfl) rfl rfl (Nat.le_of_ble_eq_true rfl) rfl ?_
        refine R_iload_n (gxd kX6_taken 19 rfl) rfl rfl ?_
        refine R_iload_n (gxd kX6_taken 20 rfl) rfl rfl ?_
        refine R_icmp_eq (gxd kX6_taken 21 rfl) (tgt := 50) rfl (fun q => ?_) (fun q => ?_)
        · replace H := gift q H
          exact R_weak (gle_same (gle_same (gle_null (gle_null gle_nil)))) (fX_taken_50_ok  H)
        · replace H := giff q H
          refine R_iload_n (gxd kX6_taken 22 rfl) rfl rfl ?_
          refine R_iconst (v := (1 : Int32)) (gxd kX6_taken 23 rfl) rfl ?_
          refine R_icmp_ne (gxd kX6_taken 24 rfl) (tgt := 47) rfl (fun q => ?_) (fun q => ?_)
          · replace H := giff q H
            refine R_bipush (v := (-13 : Int32)) (gxd kX6_taken 27 rfl) rfl ?_
            obtain rfl := Option.some.inj H
            exact R_iret (gxd kX6_taken 28 rfl) rfl
          · replace H := gift q H
            refine R_iload_n (gxd kX6_taken 25 rfl) rfl rfl ?_
            refine R_if_eq (gxd kX6_taken 26 rfl) (tgt := 50) rfl (fun q => ?_) (fun q => ?_)
            · replace H := gift q H
              exact R_weak (gle_same (gle_same (gle_null (gle_null gle_nil)))) (fX_taken_50_ok  H)
            · replace H := giff q H
              refine R_bipush (v := (-13 : Int32)) (gxd kX6_taken 27 rfl) rfl ?_
              obtain rfl := Option.some.inj H
              exact R_iret (gxd kX6_taken 28 rfl) rfl
      · replace H := gift q H
        refine R_bipush (v := (-11 : Int32)) (gxd kX6_taken 11 rfl) rfl ?_
        obtain rfl := Option.some.inj H
        exact R_iret (gxd kX6_taken 12 rfl) rfl
    · replace H := gift q H
      refine R_bipush (v := (-2 : Int32)) (gxd kX6_taken 5 rfl) rfl ?_
      obtain rfl := Option.some.inj H
      exact R_iret (gxd kX6_taken 6 rfl) rfl
def fX_tell (v1 : Int32) (v2 : Int32) (h : gH) : Option (Int32 × gH) :=
  (fX_isVariable v1 h).bind fun p1 =>
  if p1.1 = (0 : Int32) then
    some ((-2 : Int32), p1.2)
  else
    if v2 < (0 : Int32) then
      some ((-2 : Int32), p1.2)
    else
      if (1023 : Int32) < v2 then
        some ((-2 : Int32), p1.2)
      else
        if (p1.2 17 9) = (0 : Int32) then
          if (p1.2 22 5) < (12 : Int32) then
            (fP_decide 22 v1 v2 p1.2).bind fun p3 =>
            (fH_narrow 17 v1 v2 ((100 : Int32) + p3.1) p3.2).bind fun p5 =>
            some (p5.1, p5.2)
          else
            some ((-4 : Int32), p1.2)
        else
          some ((-3 : Int32), p1.2)
theorem fX_tell_ok {v1 : Int32} {v2 : Int32} {h : gH} {x : (Int32 × gH)} (H : fX_tell v1 v2 h = some x) (d : Nat) : gC yX6_tell cX6_tell 4 (some .int) (d + 2) [.ref 0, .int v1, .int v2] h (some (.int x.1)) x.2 := by
  refine gC_of (by decide +kernel) (Nat.le_of_ble_eq_true rfl) rfl ?_
  unfold fX_tell at H
  refine R_iload_n (gxd kX6_tell 0 rfl) rfl rfl ?_
  obtain ⟨p1, e2, H⟩ := gbi H
  refine R_callSi (gxd kX6_tell 1 rfl) gm_X_143 wX6_isVariable (by decide) rfl (Nat.le_of_ble_eq_true rfl) (by omega) (fX_isVariable_ok  e2 (d + 1)) ?_
  refine R_if_eq (gxd kX6_tell 2 rfl) (tgt := 18) rfl (fun q => ?_) (fun q => ?_)
  · replace H := gift q H
    refine R_bipush (v := (-2 : Int32)) (gxd kX6_tell 8 rfl) rfl ?_
    obtain rfl := Option.some.inj H
    exact R_iret (gxd kX6_tell 9 rfl) rfl
  · replace H := giff q H
    refine R_iload_n (gxd kX6_tell 3 rfl) rfl rfl ?_
    refine R_if_lt (gxd kX6_tell 4 rfl) (tgt := 18) rfl (fun q => ?_) (fun q => ?_)
    · replace H := gift q H
      refine R_bipush (v := (-2 : Int32)) (gxd kX6_tell 8 rfl) rfl ?_
      obtain rfl := Option.some.inj H
      exact R_iret (gxd kX6_tell 9 rfl) rfl
    · replace H := giff q H
      refine R_iload_n (gxd kX6_tell 5 rfl) rfl rfl ?_
      refine R_sipush (v := (1023 : Int32)) (gxd kX6_tell 6 rfl) rfl ?_
      refine R_icmp_le (gxd kX6_tell 7 rfl) (tgt := 21) rfl (fun q => ?_) (fun q => ?_)
      · replace H := giff q H
        refine R_aload_n (gxd kX6_tell 10 rfl) rfl rfl ?_
        refine R_getr (gxd kX6_tell 11 rfl) gf_X_28 gk_0 (by decide) rfl ?_
        refine R_geti (gxd kX6_tell 12 rfl) gf_X_87 gk_17 (by decide) rfl ?_
        refine R_if_eq (gxd kX6_tell 13 rfl) (tgt := 34) rfl (fun q => ?_) (fun q => ?_)
        · replace H := gift q H
          refine R_aload_n (gxd kX6_tell 16 rfl) rfl rfl ?_
          refine R_getr (gxd kX6_tell 17 rfl) gf_X_35 gk_0 (by decide) rfl ?_
          refine R_geti (gxd kX6_tell 18 rfl) gf_X_146 gk_22 (by decide) rfl ?_
          refine R_bipush (v := (12 : Int32)) (gxd kX6_tell 19 rfl) rfl ?_
          refine R_icmp_lt (gxd kX6_tell 20 rfl) (tgt := 49) rfl (fun q => ?_) (fun q => ?_)
          · replace H := gift q H
            refine R_aload_n (gxd kX6_tell 23 rfl) rfl rfl ?_
            refine R_getr (gxd kX6_tell 24 rfl) gf_X_35 gk_0 (by decide) rfl ?_
            refine R_iload_n (gxd kX6_tell 25 rfl) rfl rfl ?_
            refine R_iload_n (gxd kX6_tell 26 rfl) rfl rfl ?_
            obtain ⟨p3, e4, H⟩ := gbi H
            refine R_callVi (gxd kX6_tell 27 rfl) gm_X_149 wX1_decide (by decide) gk_22 rfl rfl (Nat.le_of_ble_eq_true rfl) (by omega) (fP_decide_ok gP22 e4 (d + 1)) ?_
            refine R_istore_n (gxd kX6_tell 28 rfl) rfl rfl (Nat.le_of_ble_eq_true rfl) rfl ?_
            refine R_aload_n (gxd kX6_tell 29 rfl) rfl rfl ?_
            refine R_getr (gxd kX6_tell 30 rfl) gf_X_28 gk_0 (by decide) rfl ?_
            refine R_iload_n (gxd kX6_tell 31 rfl) rfl rfl ?_
            refine R_iload_n (gxd kX6_tell 32 rfl) rfl rfl ?_
            refine R_bipush (v := (100 : Int32)) (gxd kX6_tell 33 rfl) rfl ?_
            refine R_iload_n (gxd kX6_tell 34 rfl) rfl rfl ?_
            refine R_iadd (gxd kX6_tell 35 rfl) ?_
            obtain ⟨p5, e6, H⟩ := gbi H
            refine R_callVi (gxd kX6_tell 36 rfl) gm_X_153 wX0_narrow (by decide) gk_17 rfl rfl (Nat.le_of_ble_eq_true rfl) (by omega) (fH_narrow_ok gH17 e6 (d + 0)) ?_
            obtain rfl := Option.some.inj H
            exact R_iret (gxd kX6_tell 37 rfl) rfl
          · replace H := giff q H
            refine R_bipush (v := (-4 : Int32)) (gxd kX6_tell 21 rfl) rfl ?_
            obtain rfl := Option.some.inj H
            exact R_iret (gxd kX6_tell 22 rfl) rfl
        · replace H := giff q H
          refine R_bipush (v := (-3 : Int32)) (gxd kX6_tell 14 rfl) rfl ?_
          obtain rfl := Option.some.inj H
          exact R_iret (gxd kX6_tell 15 rfl) rfl
      · replace H := gift q H
        refine R_bipush (v := (-2 : Int32)) (gxd kX6_tell 8 rfl) rfl ?_
        obtain rfl := Option.some.inj H
        exact R_iret (gxd kX6_tell 9 rfl) rfl
def fX_step (h : gH) : Option (Int32 × gH) :=
  (fH_runOne 17 h).bind fun p1 =>
  some (p1.1, p1.2)
theorem fX_step_ok {h : gH} {x : (Int32 × gH)} (H : fX_step  h = some x) (d : Nat) : gC yX6_step cX6_step 1 (some .int) (d + 3) [.ref 0] h (some (.int x.1)) x.2 := by
  refine gC_of (by decide +kernel) (Nat.le_of_ble_eq_true rfl) rfl ?_
  unfold fX_step at H
  refine R_aload_n (gxd kX6_step 0 rfl) rfl rfl ?_
  refine R_getr (gxd kX6_step 1 rfl) gf_X_28 gk_0 (by decide) rfl ?_
  obtain ⟨p1, e2, H⟩ := gbi H
  refine R_callVi (gxd kX6_step 2 rfl) gm_X_157 wX0_runOne (by decide) gk_17 rfl rfl (Nat.le_of_ble_eq_true rfl) (by omega) (fH_runOne_ok gH17 e2 (d + 0)) ?_
  obtain rfl := Option.some.inj H
  exact R_iret (gxd kX6_step 3 rfl) rfl
def fX_run (h : gH) : Option (Int32 × gH) :=
  (fH_runAll 17 h).bind fun p1 =>
  some (p1.1, p1.2)
theorem fX_run_ok {h : gH} {x : (Int32 × gH)} (H : fX_run  h = some x) (d : Nat) : gC yX6_run cX6_run 1 (some .int) (d + 4) [.ref 0] h (some (.int x.1)) x.2 := by
  refine gC_of (by decide +kernel) (Nat.le_of_ble_eq_true rfl) rfl ?_
  unfold fX_run at H
  refine R_aload_n (gxd kX6_run 0 rfl) rfl rfl ?_
  refine R_getr (gxd kX6_run 1 rfl) gf_X_28 gk_0 (by decide) rfl ?_
  obtain ⟨p1, e2, H⟩ := gbi H
  refine R_callVi (gxd kX6_run 2 rfl) gm_X_160 wX0_runAll (by decide) gk_17 rfl rfl (Nat.le_of_ble_eq_true rfl) (by omega) (fH_runAll_ok gH17 e2 (d + 0)) ?_
  obtain rfl := Option.some.inj H
  exact R_iret (gxd kX6_run 3 rfl) rfl
def fX_level (h : gH) : Option (Int32 × gH) :=
  if (h 17 9) = (0 : Int32) then
    if (h 17 7) = (0 : Int32) then
      if (h 22 6) < (8 : Int32) then
        (fP_open 22 (h 17 5) (h 1 8) h).bind fun p1 =>
        some (p1.1, p1.2)
      else
        some ((-4 : Int32), h)
    else
      some ((-3 : Int32), h)
  else
    some ((-3 : Int32), h)
theorem fX_level_ok {h : gH} {x : (Int32 × gH)} (H : fX_level  h = some x) (d : Nat) : gC yX6_level cX6_level 1 (some .int) (d + 1) [.ref 0] h (some (.int x.1)) x.2 := by
  refine gC_of (by decide +kernel) (Nat.le_of_ble_eq_true rfl) rfl ?_
  unfold fX_level at H
  refine R_aload_n (gxd kX6_level 0 rfl) rfl rfl ?_
  refine R_getr (gxd kX6_level 1 rfl) gf_X_28 gk_0 (by decide) rfl ?_
  refine R_geti (gxd kX6_level 2 rfl) gf_X_87 gk_17 (by decide) rfl ?_
  refine R_if_ne (gxd kX6_level 3 rfl) (tgt := 20) rfl (fun q => ?_) (fun q => ?_)
  · replace H := giff q H
    refine R_bipush (v := (-3 : Int32)) (gxd kX6_level 8 rfl) rfl ?_
    obtain rfl := Option.some.inj H
    exact R_iret (gxd kX6_level 9 rfl) rfl
  · replace H := gift q H
    refine R_aload_n (gxd kX6_level 4 rfl) rfl rfl ?_
    refine R_getr (gxd kX6_level 5 rfl) gf_X_28 gk_0 (by decide) rfl ?_
    refine R_geti (gxd kX6_level 6 rfl) gf_X_104 gk_17 (by decide) rfl ?_
    refine R_if_eq (gxd kX6_level 7 rfl) (tgt := 23) rfl (fun q => ?_) (fun q => ?_)
    · replace H := gift q H
      refine R_aload_n (gxd kX6_level 10 rfl) rfl rfl ?_
      refine R_getr (gxd kX6_level 11 rfl) gf_X_35 gk_0 (by decide) rfl ?_
      refine R_geti (gxd kX6_level 12 rfl) gf_X_163 gk_22 (by decide) rfl ?_
      refine R_bipush (v := (8 : Int32)) (gxd kX6_level 13 rfl) rfl ?_
      refine R_icmp_lt (gxd kX6_level 14 rfl) (tgt := 38) rfl (fun q => ?_) (fun q => ?_)
      · replace H := gift q H
        refine R_aload_n (gxd kX6_level 17 rfl) rfl rfl ?_
        refine R_getr (gxd kX6_level 18 rfl) gf_X_35 gk_0 (by decide) rfl ?_
        refine R_aload_n (gxd kX6_level 19 rfl) rfl rfl ?_
        refine R_getr (gxd kX6_level 20 rfl) gf_X_28 gk_0 (by decide) rfl ?_
        refine R_geti (gxd kX6_level 21 rfl) gf_X_166 gk_17 (by decide) rfl ?_
        refine R_aload_n (gxd kX6_level 22 rfl) rfl rfl ?_
        refine R_getr (gxd kX6_level 23 rfl) gf_X_12 gk_0 (by decide) rfl ?_
        refine R_geti (gxd kX6_level 24 rfl) gf_X_86 gk_1 (by decide) rfl ?_
        obtain ⟨p1, e2, H⟩ := gbi H
        refine R_callVi (gxd kX6_level 25 rfl) gm_X_169 wX1_open (by decide) gk_22 rfl rfl (Nat.le_of_ble_eq_true rfl) (by omega) (fP_open_ok gP22 e2 (d + 0)) ?_
        obtain rfl := Option.some.inj H
        exact R_iret (gxd kX6_level 26 rfl) rfl
      · replace H := giff q H
        refine R_bipush (v := (-4 : Int32)) (gxd kX6_level 15 rfl) rfl ?_
        obtain rfl := Option.some.inj H
        exact R_iret (gxd kX6_level 16 rfl) rfl
    · replace H := giff q H
      refine R_bipush (v := (-3 : Int32)) (gxd kX6_level 8 rfl) rfl ?_
      obtain rfl := Option.some.inj H
      exact R_iret (gxd kX6_level 9 rfl) rfl
def fX_undo (h : gH) : Option (Int32 × gH) :=
  if (0 : Int32) < (h 22 6) then
    (fP_close 22 h).bind fun p1 =>
    gg (gin p1.1 8) <|
    (fH_takeBack 17 (p1.2 25 p1.1.toNatClampNeg) p1.2).bind fun h4 =>
    (fR_all h4).bind fun p6 =>
    gg (gin p1.1 8) <|
    glet (hu p6.2 17 7 (p6.1 &&& (-((1 : Int32) <<< ((p6.2 27 p1.1.toNatClampNeg) &&& 31))))) fun h9 =>
    some (((p1.2 17 5) - (h9 17 5)), h9)
  else
    some ((-3 : Int32), h)
theorem fX_undo_ok {h : gH} {x : (Int32 × gH)} (H : fX_undo  h = some x) (d : Nat) : gC yX6_undo cX6_undo 3 (some .int) (d + 1) [.ref 0] h (some (.int x.1)) x.2 := by
  refine gC_of (by decide +kernel) (Nat.le_of_ble_eq_true rfl) rfl ?_
  unfold fX_undo at H
  refine R_aload_n (gxd kX6_undo 0 rfl) rfl rfl ?_
  refine R_getr (gxd kX6_undo 1 rfl) gf_X_35 gk_0 (by decide) rfl ?_
  refine R_geti (gxd kX6_undo 2 rfl) gf_X_163 gk_22 (by decide) rfl ?_
  refine R_if_gt (gxd kX6_undo 3 rfl) (tgt := 13) rfl (fun q => ?_) (fun q => ?_)
  · replace H := gift q H
    refine R_aload_n (gxd kX6_undo 6 rfl) rfl rfl ?_
    refine R_getr (gxd kX6_undo 7 rfl) gf_X_35 gk_0 (by decide) rfl ?_
    obtain ⟨p1, e2, H⟩ := gbi H
    refine R_callVi (gxd kX6_undo 8 rfl) gm_X_172 wX1_close (by decide) gk_22 rfl rfl (Nat.le_of_ble_eq_true rfl) (by omega) (fP_close_ok gP22 e2 (d + 0)) ?_
    refine R_istore_n (gxd kX6_undo 9 rfl) rfl rfl (Nat.le_of_ble_eq_true rfl) rfl ?_
    refine R_aload_n (gxd kX6_undo 10 rfl) rfl rfl ?_
    refine R_getr (gxd kX6_undo 11 rfl) gf_X_28 gk_0 (by decide) rfl ?_
    refine R_geti (gxd kX6_undo 12 rfl) gf_X_166 gk_17 (by decide) rfl ?_
    refine R_istore_n (gxd kX6_undo 13 rfl) rfl rfl (Nat.le_of_ble_eq_true rfl) rfl ?_
    refine R_aload_n (gxd kX6_undo 14 rfl) rfl rfl ?_
    refine R_getr (gxd kX6_undo 15 rfl) gf_X_28 gk_0 (by decide) rfl ?_
    refine R_aload_n (gxd kX6_undo 16 rfl) rfl rfl ?_
    refine R_getr (gxd kX6_undo 17 rfl) gf_X_35 gk_0 (by decide) rfl ?_
    refine R_getr (gxd kX6_undo 18 rfl) gf_X_175 gk_22 (by decide) rfl ?_
    refine R_iload_n (gxd kX6_undo 19 rfl) rfl rfl ?_
    obtain ⟨b3, H⟩ := ggi H
    have b3 := gin_in b3
    refine R_iald (gxd kX6_undo 20 rfl) gk_25 b3 ?_
    obtain ⟨h4, e5, H⟩ := gbi H
    refine R_callVv (gxd kX6_undo 21 rfl) gm_X_178 wX0_takeBack (by decide) gk_17 rfl rfl (Nat.le_of_ble_eq_true rfl) (by omega) (fH_takeBack_ok gH17 e5 (d + 0)) ?_
    refine R_aload_n (gxd kX6_undo 22 rfl) rfl rfl ?_
    refine R_getr (gxd kX6_undo 23 rfl) gf_X_28 gk_0 (by decide) rfl ?_
    refine R_aload_n (gxd kX6_undo 24 rfl) rfl rfl ?_
    refine R_getr (gxd kX6_undo 25 rfl) gf_X_12 gk_0 (by decide) rfl ?_
    obtain ⟨p6, e7, H⟩ := gbi H
    refine R_callVi (gxd kX6_undo 26 rfl) gm_X_98 wX3_all (by decide) gk_1 rfl rfl (Nat.le_of_ble_eq_true rfl) (by omega) (fR_all_ok  e7 (d + 0)) ?_
    refine R_iconst (v := (1 : Int32)) (gxd kX6_undo 27 rfl) rfl ?_
    refine R_aload_n (gxd kX6_undo 28 rfl) rfl rfl ?_
    refine R_getr (gxd kX6_undo 29 rfl) gf_X_35 gk_0 (by decide) rfl ?_
    refine R_getr (gxd kX6_undo 30 rfl) gf_X_182 gk_22 (by decide) rfl ?_
    refine R_iload_n (gxd kX6_undo 31 rfl) rfl rfl ?_
    obtain ⟨b8, H⟩ := ggi H
    have b8 := gin_in b8
    refine R_iald (gxd kX6_undo 32 rfl) gk_27 b8 ?_
    refine R_ishl (gxd kX6_undo 33 rfl) ?_
    refine R_ineg (gxd kX6_undo 34 rfl) ?_
    refine R_iand (gxd kX6_undo 35 rfl) ?_
    refine R_puti (gxd kX6_undo 36 rfl) gf_X_104 gp_0_7 gk_17 (by decide) rfl ?_
    obtain ⟨h9, e10, H⟩ := glei H
    refine R_heq e10 ?_
    refine R_iload_n (gxd kX6_undo 37 rfl) rfl rfl ?_
    refine R_aload_n (gxd kX6_undo 38 rfl) rfl rfl ?_
    refine R_getr (gxd kX6_undo 39 rfl) gf_X_28 gk_0 (by decide) rfl ?_
    refine R_geti (gxd kX6_undo 40 rfl) gf_X_166 gk_17 (by decide) rfl ?_
    refine R_isub (gxd kX6_undo 41 rfl) ?_
    obtain rfl := Option.some.inj H
    exact R_iret (gxd kX6_undo 42 rfl) rfl
  · replace H := giff q H
    refine R_bipush (v := (-3 : Int32)) (gxd kX6_undo 4 rfl) rfl ?_
    obtain rfl := Option.some.inj H
    exact R_iret (gxd kX6_undo 5 rfl) rfl
def fX_domain (v1 : Int32) (h : gH) : Option (Int32 × gH) :=
  (fX_isVariable v1 h).bind fun p1 =>
  if p1.1 = (0 : Int32) then
    some ((-2 : Int32), p1.2)
  else
    gg (gin v1 9) <|
    some ((p1.2 18 v1.toNatClampNeg), p1.2)
theorem fX_domain_ok {v1 : Int32} {h : gH} {x : (Int32 × gH)} (H : fX_domain v1 h = some x) (d : Nat) : gC yX6_domain cX6_domain 2 (some .int) (d + 1) [.ref 0, .int v1] h (some (.int x.1)) x.2 := by
  refine gC_of (by decide +kernel) (Nat.le_of_ble_eq_true rfl) rfl ?_
  unfold fX_domain at H
  refine R_iload_n (gxd kX6_domain 0 rfl) rfl rfl ?_
  obtain ⟨p1, e2, H⟩ := gbi H
  refine R_callSi (gxd kX6_domain 1 rfl) gm_X_143 wX6_isVariable (by decide) rfl (Nat.le_of_ble_eq_true rfl) (by omega) (fX_isVariable_ok  e2 (d + 0)) ?_
  refine R_if_eq (gxd kX6_domain 2 rfl) (tgt := 19) rfl (fun q => ?_) (fun q => ?_)
  · replace H := gift q H
    refine R_bipush (v := (-2 : Int32)) (gxd kX6_domain 9 rfl) rfl ?_
    obtain rfl := Option.some.inj H
    exact R_iret (gxd kX6_domain 10 rfl) rfl
  · replace H := giff q H
    refine R_aload_n (gxd kX6_domain 3 rfl) rfl rfl ?_
    refine R_getr (gxd kX6_domain 4 rfl) gf_X_28 gk_0 (by decide) rfl ?_
    refine R_getr (gxd kX6_domain 5 rfl) gf_X_122 gk_17 (by decide) rfl ?_
    refine R_iload_n (gxd kX6_domain 6 rfl) rfl rfl ?_
    obtain ⟨b3, H⟩ := ggi H
    have b3 := gin_in b3
    refine R_iald (gxd kX6_domain 7 rfl) gk_18 b3 ?_
    refine R_goto (gxd kX6_domain 8 rfl) (tgt := 21) rfl ?_
    obtain rfl := Option.some.inj H
    exact R_iret (gxd kX6_domain 10 rfl) rfl
def fX_trail_27 (v1 : Int32) (v2 : Int32) (h : gH) : Option (Int32 × gH) :=
  if v2 < (0 : Int32) then
    some ((-2 : Int32), h)
  else
    if (1 : Int32) < v2 then
      some ((-2 : Int32), h)
    else
      if v1 < (0 : Int32) then
        some ((-12 : Int32), h)
      else
        if v1 < (h 17 5) then
          if v2 = (0 : Int32) then
            gg (gin v1 80) <|
            some ((h 20 v1.toNatClampNeg), h)
          else
            gg (gin v1 80) <|
            some ((h 21 v1.toNatClampNeg), h)
        else
          some ((-12 : Int32), h)
theorem fX_trail_27_ok {d : Nat} {v1 : Int32} {v2 : Int32}  {h : gH} {x : (Int32 × gH)} (H : fX_trail_27 v1 v2  h = some x) : gR RX6 cX6_trail 3 (some .int) (d + 1) 27 [.ref 0, .int v1, .int v2] [] h (some (.int x.1)) x.2 := by
  unfold fX_trail_27 at H
  refine R_iload_n (gxd kX6_trail 13 rfl) rfl rfl ?_
  refine R_if_lt (gxd kX6_trail 14 rfl) (tgt := 36) rfl (fun q => ?_) (fun q => ?_)
  · replace H := gift q H
    refine R_bipush (v := (-2 : Int32)) (gxd kX6_trail 18 rfl) rfl ?_
    obtain rfl := Option.some.inj H
    exact R_iret (gxd kX6_trail 19 rfl) rfl
  · replace H := giff q H
    refine R_iload_n (gxd kX6_trail 15 rfl) rfl rfl ?_
    refine R_iconst (v := (1 : Int32)) (gxd kX6_trail 16 rfl) rfl ?_
    refine R_icmp_le (gxd kX6_trail 17 rfl) (tgt := 39) rfl (fun q => ?_) (fun q => ?_)
    · replace H := giff q H
      refine R_iload_n (gxd kX6_trail 20 rfl) rfl rfl ?_
      refine R_if_lt (gxd kX6_trail 21 rfl) (tgt := 54) rfl (fun q => ?_) (fun q => ?_)
      · replace H := gift q H
        refine R_bipush (v := (-12 : Int32)) (gxd kX6_trail 27 rfl) rfl ?_
        obtain rfl := Option.some.inj H
        exact R_iret (gxd kX6_trail 28 rfl) rfl
      · replace H := giff q H
        refine R_iload_n (gxd kX6_trail 22 rfl) rfl rfl ?_
        refine R_aload_n (gxd kX6_trail 23 rfl) rfl rfl ?_
        refine R_getr (gxd kX6_trail 24 rfl) gf_X_28 gk_0 (by decide) rfl ?_
        refine R_geti (gxd kX6_trail 25 rfl) gf_X_166 gk_17 (by decide) rfl ?_
        refine R_icmp_lt (gxd kX6_trail 26 rfl) (tgt := 57) rfl (fun q => ?_) (fun q => ?_)
        · replace H := gift q H
          refine R_iload_n (gxd kX6_trail 29 rfl) rfl rfl ?_
          refine R_if_ne (gxd kX6_trail 30 rfl) (tgt := 73) rfl (fun q => ?_) (fun q => ?_)
          · replace H := giff q H
            refine R_aload_n (gxd kX6_trail 37 rfl) rfl rfl ?_
            refine R_getr (gxd kX6_trail 38 rfl) gf_X_28 gk_0 (by decide) rfl ?_
            refine R_getr (gxd kX6_trail 39 rfl) gf_X_191 gk_17 (by decide) rfl ?_
            refine R_iload_n (gxd kX6_trail 40 rfl) rfl rfl ?_
            obtain ⟨b1, H⟩ := ggi H
            have b1 := gin_in b1
            refine R_iald (gxd kX6_trail 41 rfl) gk_21 b1 ?_
            obtain rfl := Option.some.inj H
            exact R_iret (gxd kX6_trail 42 rfl) rfl
          · replace H := gift q H
            refine R_aload_n (gxd kX6_trail 31 rfl) rfl rfl ?_
            refine R_getr (gxd kX6_trail 32 rfl) gf_X_28 gk_0 (by decide) rfl ?_
            refine R_getr (gxd kX6_trail 33 rfl) gf_X_188 gk_17 (by decide) rfl ?_
            refine R_iload_n (gxd kX6_trail 34 rfl) rfl rfl ?_
            obtain ⟨b2, H⟩ := ggi H
            have b2 := gin_in b2
            refine R_iald (gxd kX6_trail 35 rfl) gk_20 b2 ?_
            refine R_goto (gxd kX6_trail 36 rfl) (tgt := 82) rfl ?_
            obtain rfl := Option.some.inj H
            exact R_iret (gxd kX6_trail 42 rfl) rfl
        · replace H := giff q H
          refine R_bipush (v := (-12 : Int32)) (gxd kX6_trail 27 rfl) rfl ?_
          obtain rfl := Option.some.inj H
          exact R_iret (gxd kX6_trail 28 rfl) rfl
    · replace H := gift q H
      refine R_bipush (v := (-2 : Int32)) (gxd kX6_trail 18 rfl) rfl ?_
      obtain rfl := Option.some.inj H
      exact R_iret (gxd kX6_trail 19 rfl) rfl
def fX_trail (v1 : Int32) (v2 : Int32) (h : gH) : Option (Int32 × gH) :=
  if v2 < (1000 : Int32) then
    fX_trail_27 v1 v2 h
  else
    if v2 < (1080 : Int32) then
      (fH_placeOf 17 (v2 - (1000 : Int32)) h).bind fun p3 =>
      some (p3.1, p3.2)
    else
      fX_trail_27 v1 v2 h
theorem fX_trail_ok {v1 : Int32} {v2 : Int32} {h : gH} {x : (Int32 × gH)} (H : fX_trail v1 v2 h = some x) (d : Nat) : gC yX6_trail cX6_trail 3 (some .int) (d + 1) [.ref 0, .int v1, .int v2] h (some (.int x.1)) x.2 := by
  refine gC_of (by decide +kernel) (Nat.le_of_ble_eq_true rfl) rfl ?_
  unfold fX_trail at H
  refine R_iload_n (gxd kX6_trail 0 rfl) rfl rfl ?_
  refine R_sipush (v := (1000 : Int32)) (gxd kX6_trail 1 rfl) rfl ?_
  refine R_icmp_lt (gxd kX6_trail 2 rfl) (tgt := 27) rfl (fun q => ?_) (fun q => ?_)
  · replace H := gift q H
    exact R_weak (gle_same (gle_same (gle_same gle_nil))) (fX_trail_27_ok  H)
  · replace H := giff q H
    refine R_iload_n (gxd kX6_trail 3 rfl) rfl rfl ?_
    refine R_sipush (v := (1080 : Int32)) (gxd kX6_trail 4 rfl) rfl ?_
    refine R_icmp_ge (gxd kX6_trail 5 rfl) (tgt := 27) rfl (fun q => ?_) (fun q => ?_)
    · replace H := giff q H
      exact R_weak (gle_same (gle_same (gle_same gle_nil))) (fX_trail_27_ok  H)
    · replace H := gift q H
      refine R_aload_n (gxd kX6_trail 6 rfl) rfl rfl ?_
      refine R_getr (gxd kX6_trail 7 rfl) gf_X_28 gk_0 (by decide) rfl ?_
      refine R_iload_n (gxd kX6_trail 8 rfl) rfl rfl ?_
      refine R_sipush (v := (1000 : Int32)) (gxd kX6_trail 9 rfl) rfl ?_
      refine R_isub (gxd kX6_trail 10 rfl) ?_
      obtain ⟨p3, e4, H⟩ := gbi H
      refine R_callVi (gxd kX6_trail 11 rfl) gm_X_185 wX0_placeOf (by decide) gk_17 rfl rfl (Nat.le_of_ble_eq_true rfl) (by omega) (fH_placeOf_ok gH17 e4 (d + 0)) ?_
      obtain rfl := Option.some.inj H
      exact R_iret (gxd kX6_trail 12 rfl) rfl
def fX_decision (v1 : Int32) (v2 : Int32) (h : gH) : Option (Int32 × gH) :=
  if v2 < (0 : Int32) then
    some ((-2 : Int32), h)
  else
    if (1 : Int32) < v2 then
      some ((-2 : Int32), h)
    else
      if v1 < (0 : Int32) then
        some ((-12 : Int32), h)
      else
        if v1 < (h 22 5) then
          if v2 = (0 : Int32) then
            gg (gin v1 12) <|
            some ((h 23 v1.toNatClampNeg), h)
          else
            gg (gin v1 12) <|
            some ((h 24 v1.toNatClampNeg), h)
        else
          some ((-12 : Int32), h)
theorem fX_decision_ok {v1 : Int32} {v2 : Int32} {h : gH} {x : (Int32 × gH)} (H : fX_decision v1 v2 h = some x) (d : Nat) : gC yX6_decision cX6_decision 3 (some .int) (d + 0) [.ref 0, .int v1, .int v2] h (some (.int x.1)) x.2 := by
  refine gC_of (by decide +kernel) (Nat.le_of_ble_eq_true rfl) rfl ?_
  unfold fX_decision at H
  refine R_iload_n (gxd kX6_decision 0 rfl) rfl rfl ?_
  refine R_if_lt (gxd kX6_decision 1 rfl) (tgt := 9) rfl (fun q => ?_) (fun q => ?_)
  · replace H := gift q H
    refine R_bipush (v := (-2 : Int32)) (gxd kX6_decision 5 rfl) rfl ?_
    obtain rfl := Option.some.inj H
    exact R_iret (gxd kX6_decision 6 rfl) rfl
  · replace H := giff q H
    refine R_iload_n (gxd kX6_decision 2 rfl) rfl rfl ?_
    refine R_iconst (v := (1 : Int32)) (gxd kX6_decision 3 rfl) rfl ?_
    refine R_icmp_le (gxd kX6_decision 4 rfl) (tgt := 12) rfl (fun q => ?_) (fun q => ?_)
    · replace H := giff q H
      refine R_iload_n (gxd kX6_decision 7 rfl) rfl rfl ?_
      refine R_if_lt (gxd kX6_decision 8 rfl) (tgt := 27) rfl (fun q => ?_) (fun q => ?_)
      · replace H := gift q H
        refine R_bipush (v := (-12 : Int32)) (gxd kX6_decision 14 rfl) rfl ?_
        obtain rfl := Option.some.inj H
        exact R_iret (gxd kX6_decision 15 rfl) rfl
      · replace H := giff q H
        refine R_iload_n (gxd kX6_decision 9 rfl) rfl rfl ?_
        refine R_aload_n (gxd kX6_decision 10 rfl) rfl rfl ?_
        refine R_getr (gxd kX6_decision 11 rfl) gf_X_35 gk_0 (by decide) rfl ?_
        refine R_geti (gxd kX6_decision 12 rfl) gf_X_146 gk_22 (by decide) rfl ?_
        refine R_icmp_lt (gxd kX6_decision 13 rfl) (tgt := 30) rfl (fun q => ?_) (fun q => ?_)
        · replace H := gift q H
          refine R_iload_n (gxd kX6_decision 16 rfl) rfl rfl ?_
          refine R_if_ne (gxd kX6_decision 17 rfl) (tgt := 46) rfl (fun q => ?_) (fun q => ?_)
          · replace H := giff q H
            refine R_aload_n (gxd kX6_decision 24 rfl) rfl rfl ?_
            refine R_getr (gxd kX6_decision 25 rfl) gf_X_35 gk_0 (by decide) rfl ?_
            refine R_getr (gxd kX6_decision 26 rfl) gf_X_195 gk_22 (by decide) rfl ?_
            refine R_iload_n (gxd kX6_decision 27 rfl) rfl rfl ?_
            obtain ⟨b1, H⟩ := ggi H
            have b1 := gin_in b1
            refine R_iald (gxd kX6_decision 28 rfl) gk_24 b1 ?_
            obtain rfl := Option.some.inj H
            exact R_iret (gxd kX6_decision 29 rfl) rfl
          · replace H := gift q H
            refine R_aload_n (gxd kX6_decision 18 rfl) rfl rfl ?_
            refine R_getr (gxd kX6_decision 19 rfl) gf_X_35 gk_0 (by decide) rfl ?_
            refine R_getr (gxd kX6_decision 20 rfl) gf_X_194 gk_22 (by decide) rfl ?_
            refine R_iload_n (gxd kX6_decision 21 rfl) rfl rfl ?_
            obtain ⟨b2, H⟩ := ggi H
            have b2 := gin_in b2
            refine R_iald (gxd kX6_decision 22 rfl) gk_23 b2 ?_
            refine R_goto (gxd kX6_decision 23 rfl) (tgt := 55) rfl ?_
            obtain rfl := Option.some.inj H
            exact R_iret (gxd kX6_decision 29 rfl) rfl
        · replace H := giff q H
          refine R_bipush (v := (-12 : Int32)) (gxd kX6_decision 14 rfl) rfl ?_
          obtain rfl := Option.some.inj H
          exact R_iret (gxd kX6_decision 15 rfl) rfl
    · replace H := gift q H
      refine R_bipush (v := (-2 : Int32)) (gxd kX6_decision 5 rfl) rfl ?_
      obtain rfl := Option.some.inj H
      exact R_iret (gxd kX6_decision 6 rfl) rfl
def fX_isGone (v1 : Int32) (v2 : Int32) (v3 : Int32) (h : gH) : Option (Int32 × gH) :=
  (fR_all h).bind fun p1 =>
  (fH_start 28 v1 p1.1 p1.2).bind fun h3 =>
  (fH_runAll 28 h3).bind fun p5 =>
  if (p5.2 28 9) = (0 : Int32) then
    (fX_isVariable v2 p5.2).bind fun p7 =>
    if p7.1 = (0 : Int32) then
      some ((0 : Int32), p7.2)
    else
      gg (gin v2 9) <|
      if (((p7.2 29 v2.toNatClampNeg) >>> (v3 &&& 31)) &&& (1 : Int32)) = (0 : Int32) then
        some ((1 : Int32), p7.2)
      else
        some ((0 : Int32), p7.2)
  else
    some ((1 : Int32), p5.2)
theorem fX_isGone_ok {v1 : Int32} {v2 : Int32} {v3 : Int32} {h : gH} {x : (Int32 × gH)} (H : fX_isGone v1 v2 v3 h = some x) (d : Nat) : gC yX6_isGone cX6_isGone 4 (some .boolean) (d + 4) [.ref 0, .int v1, .int v2, .int v3] h (some (.int x.1)) x.2 := by
  refine gC_of (by decide +kernel) (Nat.le_of_ble_eq_true rfl) rfl ?_
  unfold fX_isGone at H
  refine R_aload_n (gxd kX6_isGone 0 rfl) rfl rfl ?_
  refine R_getr (gxd kX6_isGone 1 rfl) gf_X_39 gk_0 (by decide) rfl ?_
  refine R_aload_n (gxd kX6_isGone 2 rfl) rfl rfl ?_
  refine R_getr (gxd kX6_isGone 3 rfl) gf_X_35 gk_0 (by decide) rfl ?_
  refine R_iload_n (gxd kX6_isGone 4 rfl) rfl rfl ?_
  refine R_aload_n (gxd kX6_isGone 5 rfl) rfl rfl ?_
  refine R_getr (gxd kX6_isGone 6 rfl) gf_X_12 gk_0 (by decide) rfl ?_
  obtain ⟨p1, e2, H⟩ := gbi H
  refine R_callVi (gxd kX6_isGone 7 rfl) gm_X_98 wX3_all (by decide) gk_1 rfl rfl (Nat.le_of_ble_eq_true rfl) (by omega) (fR_all_ok  e2 (d + 3)) ?_
  obtain ⟨h3, e4, H⟩ := gbi H
  refine R_callVv (gxd kX6_isGone 8 rfl) gm_X_203 wX0_start (by decide) gk_28 rfl rfl (Nat.le_of_ble_eq_true rfl) (by omega) (fH_start_ok gH28 e4 (d + 1)) ?_
  refine R_aload_n (gxd kX6_isGone 9 rfl) rfl rfl ?_
  refine R_getr (gxd kX6_isGone 10 rfl) gf_X_39 gk_0 (by decide) rfl ?_
  obtain ⟨p5, e6, H⟩ := gbi H
  refine R_callVi (gxd kX6_isGone 11 rfl) gm_X_160 wX0_runAll (by decide) gk_28 rfl rfl (Nat.le_of_ble_eq_true rfl) (by omega) (fH_runAll_ok gH28 e6 (d + 0)) ?_
  refine R_pop (gxd kX6_isGone 12 rfl) rfl ?_
  refine R_aload_n (gxd kX6_isGone 13 rfl) rfl rfl ?_
  refine R_getr (gxd kX6_isGone 14 rfl) gf_X_39 gk_0 (by decide) rfl ?_
  refine R_geti (gxd kX6_isGone 15 rfl) gf_X_87 gk_28 (by decide) rfl ?_
  refine R_if_ne (gxd kX6_isGone 16 rfl) (tgt := 60) rfl (fun q => ?_) (fun q => ?_)
  · replace H := giff q H
    refine R_iconst (v := (1 : Int32)) (gxd kX6_isGone 30 rfl) rfl ?_
    refine R_goto (gxd kX6_isGone 31 rfl) (tgt := 65) rfl ?_
    obtain rfl := Option.some.inj H
    exact R_zret (gxd kX6_isGone 33 rfl) rfl (Or.inr rfl)
  · replace H := gift q H
    refine R_iload_n (gxd kX6_isGone 17 rfl) rfl rfl ?_
    obtain ⟨p7, e8, H⟩ := gbi H
    refine R_callSi (gxd kX6_isGone 18 rfl) gm_X_143 wX6_isVariable (by decide) rfl (Nat.le_of_ble_eq_true rfl) (by omega) (fX_isVariable_ok  e8 (d + 3)) ?_
    refine R_if_eq (gxd kX6_isGone 19 rfl) (tgt := 64) rfl (fun q => ?_) (fun q => ?_)
    · replace H := gift q H
      refine R_iconst (v := (0 : Int32)) (gxd kX6_isGone 32 rfl) rfl ?_
      obtain rfl := Option.some.inj H
      exact R_zret (gxd kX6_isGone 33 rfl) rfl (Or.inl rfl)
    · replace H := giff q H
      refine R_aload_n (gxd kX6_isGone 20 rfl) rfl rfl ?_
      refine R_getr (gxd kX6_isGone 21 rfl) gf_X_39 gk_0 (by decide) rfl ?_
      refine R_getr (gxd kX6_isGone 22 rfl) gf_X_122 gk_28 (by decide) rfl ?_
      refine R_iload_n (gxd kX6_isGone 23 rfl) rfl rfl ?_
      obtain ⟨b9, H⟩ := ggi H
      have b9 := gin_in b9
      refine R_iald (gxd kX6_isGone 24 rfl) gk_29 b9 ?_
      refine R_iload_n (gxd kX6_isGone 25 rfl) rfl rfl ?_
      refine R_ishr (gxd kX6_isGone 26 rfl) ?_
      refine R_iconst (v := (1 : Int32)) (gxd kX6_isGone 27 rfl) rfl ?_
      refine R_iand (gxd kX6_isGone 28 rfl) ?_
      refine R_if_ne (gxd kX6_isGone 29 rfl) (tgt := 64) rfl (fun q => ?_) (fun q => ?_)
      · replace H := giff q H
        refine R_iconst (v := (0 : Int32)) (gxd kX6_isGone 32 rfl) rfl ?_
        obtain rfl := Option.some.inj H
        exact R_zret (gxd kX6_isGone 33 rfl) rfl (Or.inl rfl)
      · replace H := gift q H
        refine R_iconst (v := (1 : Int32)) (gxd kX6_isGone 30 rfl) rfl ?_
        refine R_goto (gxd kX6_isGone 31 rfl) (tgt := 65) rfl ?_
        obtain rfl := Option.some.inj H
        exact R_zret (gxd kX6_isGone 33 rfl) rfl (Or.inr rfl)
def fX_why_57 (v1 : Int32) (v2 : Int32) : Nat → Int32 → Int32 → gH → Option (Int32 × gH)
  | 0, _, _, _ => none
  | n + 1, v4, v5, h =>
    if v5 < (h 22 5) then
      (fX_isGone (v4 &&& (((1 : Int32) <<< (v5 &&& 31)) ^^^ (-1 : Int32))) v1 v2 h).bind fun p5 =>
      if p5.1 = (0 : Int32) then
        fX_why_57 v1 v2 n v4 (v5 + (1 : Int32)) p5.2
      else
        fX_why_57 v1 v2 n (v4 &&& (((1 : Int32) <<< (v5 &&& 31)) ^^^ (-1 : Int32))) (v5 + (1 : Int32)) p5.2
    else
      some (v4, h)
theorem fX_why_57_ok {d : Nat} {v1 : Int32} {v2 : Int32}  : ∀ (n : Nat) (v4 : Int32) (v5 : Int32) (h : gH) (x : (Int32 × gH)), fX_why_57 v1 v2 n v4 v5 h = some x → gR RX6 cX6_why 7 (some .int) (d + 5) 57 [.ref 0, .int v1, .int v2, .null, .int v4, .int v5, .null] [] h (some (.int x.1)) x.2 := by
  intro n
  induction n with
  | zero => intro v4 v5 h x  H; exact g0 H
  | succ n ih =>
    intro v4 v5 h x  H
    unfold fX_why_57 at H
    refine R_iload (gxd kX6_why 31 rfl) rfl ?_
    refine R_aload_n (gxd kX6_why 32 rfl) rfl rfl ?_
    refine R_getr (gxd kX6_why 33 rfl) gf_X_35 gk_0 (by decide) rfl ?_
    refine R_geti (gxd kX6_why 34 rfl) gf_X_146 gk_22 (by decide) rfl ?_
    refine R_icmp_ge (gxd kX6_why 35 rfl) (tgt := 101) rfl (fun q => ?_) (fun q => ?_)
    · replace H := giff q H
      refine R_iload (gxd kX6_why 54 rfl) rfl ?_
      obtain rfl := Option.some.inj H
      exact R_iret (gxd kX6_why 55 rfl) rfl
    · replace H := gift q H
      refine R_iload (gxd kX6_why 36 rfl) rfl ?_
      refine R_iconst (v := (1 : Int32)) (gxd kX6_why 37 rfl) rfl ?_
      refine R_iload (gxd kX6_why 38 rfl) rfl ?_
      refine R_ishl (gxd kX6_why 39 rfl) ?_
      refine R_iconst (v := (-1 : Int32)) (gxd kX6_why 40 rfl) rfl ?_
      refine R_ixor (gxd kX6_why 41 rfl) ?_
      refine R_iand (gxd kX6_why 42 rfl) ?_
      refine R_istore (gxd kX6_why 43 rfl) rfl (Nat.le_of_ble_eq_true rfl) rfl ?_
      refine R_aload_n (gxd kX6_why 44 rfl) rfl rfl ?_
      refine R_iload (gxd kX6_why 45 rfl) rfl ?_
      refine R_iload_n (gxd kX6_why 46 rfl) rfl rfl ?_
      refine R_iload_n (gxd kX6_why 47 rfl) rfl rfl ?_
      obtain ⟨p5, e6, H⟩ := gbi H
      refine R_callVi (gxd kX6_why 48 rfl) gm_X_199 wX6_isGone (by decide) gk_0 rfl rfl (Nat.le_of_ble_eq_true rfl) (by omega) (fX_isGone_ok  e6 (d + 0)) ?_
      refine R_if_eq (gxd kX6_why 49 rfl) (tgt := 95) rfl (fun q => ?_) (fun q => ?_)
      · replace H := gift q H
        refine R_iinc (v := (v5 + (1 : Int32))) (gxd kX6_why 52 rfl) rfl rfl rfl (Nat.le_of_ble_eq_true rfl) rfl ?_
        refine R_goto (gxd kX6_why 53 rfl) (tgt := 57) rfl ?_
        exact R_weak (gle_same (gle_same (gle_same (gle_null (gle_same (gle_same (gle_null gle_nil))))))) (ih _ _ _ _  H)
      · replace H := giff q H
        refine R_iload (gxd kX6_why 50 rfl) rfl ?_
        refine R_istore (gxd kX6_why 51 rfl) rfl (Nat.le_of_ble_eq_true rfl) rfl ?_
        refine R_iinc (v := (v5 + (1 : Int32))) (gxd kX6_why 52 rfl) rfl rfl rfl (Nat.le_of_ble_eq_true rfl) rfl ?_
        refine R_goto (gxd kX6_why 53 rfl) (tgt := 57) rfl ?_
        exact R_weak (gle_same (gle_same (gle_same (gle_null (gle_same (gle_same (gle_null gle_nil))))))) (ih _ _ _ _  H)
def fX_why_32 (v1 : Int32) (v2 : Int32) (h : gH) : Option (Int32 × gH) :=
  (fP_all 22 h).bind fun p1 =>
  (fX_isGone p1.1 v1 v2 p1.2).bind fun p3 =>
  if p3.1 = (0 : Int32) then
    some ((-1 : Int32), p3.2)
  else
    fX_why_57 v1 v2 gfu p1.1 (0 : Int32) p3.2
theorem fX_why_32_ok {d : Nat} {v1 : Int32} {v2 : Int32}  {h : gH} {x : (Int32 × gH)} (H : fX_why_32 v1 v2  h = some x) : gR RX6 cX6_why 7 (some .int) (d + 5) 32 [.ref 0, .int v1, .int v2, .null, .null, .null, .null] [] h (some (.int x.1)) x.2 := by
  unfold fX_why_32 at H
  refine R_aload_n (gxd kX6_why 17 rfl) rfl rfl ?_
  refine R_getr (gxd kX6_why 18 rfl) gf_X_35 gk_0 (by decide) rfl ?_
  obtain ⟨p1, e2, H⟩ := gbi H
  refine R_callVi (gxd kX6_why 19 rfl) gm_X_198 wX1_all (by decide) gk_22 rfl rfl (Nat.le_of_ble_eq_true rfl) (by omega) (fP_all_ok gP22 e2 (d + 4)) ?_
  refine R_istore (gxd kX6_why 20 rfl) rfl (Nat.le_of_ble_eq_true rfl) rfl ?_
  refine R_aload_n (gxd kX6_why 21 rfl) rfl rfl ?_
  refine R_iload (gxd kX6_why 22 rfl) rfl ?_
  refine R_iload_n (gxd kX6_why 23 rfl) rfl rfl ?_
  refine R_iload_n (gxd kX6_why 24 rfl) rfl rfl ?_
  obtain ⟨p3, e4, H⟩ := gbi H
  refine R_callVi (gxd kX6_why 25 rfl) gm_X_199 wX6_isGone (by decide) gk_0 rfl rfl (Nat.le_of_ble_eq_true rfl) (by omega) (fX_isGone_ok  e4 (d + 0)) ?_
  refine R_if_ne (gxd kX6_why 26 rfl) (tgt := 54) rfl (fun q => ?_) (fun q => ?_)
  · replace H := giff q H
    refine R_iconst (v := (0 : Int32)) (gxd kX6_why 29 rfl) rfl ?_
    refine R_istore (gxd kX6_why 30 rfl) rfl (Nat.le_of_ble_eq_true rfl) rfl ?_
    exact R_weak (gle_same (gle_same (gle_same (gle_null (gle_same (gle_same (gle_null gle_nil))))))) (fX_why_57_ok  gfu _ _ _ _  H)
  · replace H := gift q H
    refine R_iconst (v := (-1 : Int32)) (gxd kX6_why 27 rfl) rfl ?_
    obtain rfl := Option.some.inj H
    exact R_iret (gxd kX6_why 28 rfl) rfl
def fX_why_10 (v1 : Int32) (v2 : Int32) (s0 : Int32) (h : gH) : Option (Int32 × gH) :=
  if s0 = (0 : Int32) then
    (fX_isVariable v1 h).bind fun p7 =>
    if p7.1 = (0 : Int32) then
      some ((-2 : Int32), p7.2)
    else
      (fX_isValue v2 p7.2).bind fun p9 =>
      if p9.1 = (0 : Int32) then
        some ((-2 : Int32), p9.2)
      else
        fX_why_32 v1 v2 p9.2
  else
    fX_why_32 v1 v2 h
theorem fX_why_10_ok {d : Nat} {v1 : Int32} {v2 : Int32} {s0 : Int32}  {h : gH} {x : (Int32 × gH)} (H : fX_why_10 v1 v2 s0 h = some x) : gR RX6 cX6_why 7 (some .int) (d + 5) 10 [.ref 0, .int v1, .int v2, .null, .null, .null, .null] [.int s0] h (some (.int x.1)) x.2 := by
  unfold fX_why_10 at H
  refine R_istore_n (gxd kX6_why 6 rfl) rfl rfl (Nat.le_of_ble_eq_true rfl) rfl ?_
  refine R_iload_n (gxd kX6_why 7 rfl) rfl rfl ?_
  refine R_if_ne (gxd kX6_why 8 rfl) (tgt := 32) rfl (fun q => ?_) (fun q => ?_)
  · replace H := giff q H
    exact R_weak (gle_same (gle_same (gle_same (gle_null (gle_null (gle_null (gle_null gle_nil))))))) (fX_why_32_ok  H)
  · replace H := gift q H
    refine R_iload_n (gxd kX6_why 9 rfl) rfl rfl ?_
    obtain ⟨p7, e8, H⟩ := gbi H
    refine R_callSi (gxd kX6_why 10 rfl) gm_X_143 wX6_isVariable (by decide) rfl (Nat.le_of_ble_eq_true rfl) (by omega) (fX_isVariable_ok  e8 (d + 4)) ?_
    refine R_if_eq (gxd kX6_why 11 rfl) (tgt := 29) rfl (fun q => ?_) (fun q => ?_)
    · replace H := gift q H
      refine R_bipush (v := (-2 : Int32)) (gxd kX6_why 15 rfl) rfl ?_
      obtain rfl := Option.some.inj H
      exact R_iret (gxd kX6_why 16 rfl) rfl
    · replace H := giff q H
      refine R_iload_n (gxd kX6_why 12 rfl) rfl rfl ?_
      obtain ⟨p9, e10, H⟩ := gbi H
      refine R_callSi (gxd kX6_why 13 rfl) gm_X_136 wX6_isValue (by decide) rfl (Nat.le_of_ble_eq_true rfl) (by omega) (fX_isValue_ok  e10 (d + 4)) ?_
      refine R_if_ne (gxd kX6_why 14 rfl) (tgt := 32) rfl (fun q => ?_) (fun q => ?_)
      · replace H := giff q H
        exact R_weak (gle_same (gle_same (gle_same (gle_null (gle_null (gle_null (gle_null gle_nil))))))) (fX_why_32_ok  H)
      · replace H := gift q H
        refine R_bipush (v := (-2 : Int32)) (gxd kX6_why 15 rfl) rfl ?_
        obtain rfl := Option.some.inj H
        exact R_iret (gxd kX6_why 16 rfl) rfl
def fX_why (v1 : Int32) (v2 : Int32) (h : gH) : Option (Int32 × gH) :=
  if v1 = (-1 : Int32) then
    fX_why_10 v1 v2 (1 : Int32) h
  else
    fX_why_10 v1 v2 (0 : Int32) h
theorem fX_why_ok {v1 : Int32} {v2 : Int32} {h : gH} {x : (Int32 × gH)} (H : fX_why v1 v2 h = some x) (d : Nat) : gC yX6_why cX6_why 7 (some .int) (d + 5) [.ref 0, .int v1, .int v2] h (some (.int x.1)) x.2 := by
  refine gC_of (by decide +kernel) (Nat.le_of_ble_eq_true rfl) rfl ?_
  unfold fX_why at H
  refine R_iload_n (gxd kX6_why 0 rfl) rfl rfl ?_
  refine R_iconst (v := (-1 : Int32)) (gxd kX6_why 1 rfl) rfl ?_
  refine R_icmp_ne (gxd kX6_why 2 rfl) (tgt := 9) rfl (fun q => ?_) (fun q => ?_)
  · replace H := giff q H
    refine R_iconst (v := (0 : Int32)) (gxd kX6_why 5 rfl) rfl ?_
    exact R_weak (gle_same (gle_same (gle_same (gle_null (gle_null (gle_null (gle_null gle_nil))))))) (fX_why_10_ok  H)
  · replace H := gift q H
    refine R_iconst (v := (1 : Int32)) (gxd kX6_why 3 rfl) rfl ?_
    refine R_goto (gxd kX6_why 4 rfl) (tgt := 10) rfl ?_
    exact R_weak (gle_same (gle_same (gle_same (gle_null (gle_null (gle_null (gle_null gle_nil))))))) (fX_why_10_ok  H)
def fX_mixed (v1 : Int32) (v2 : Int32) (h : gH) : Option (Int32 × gH) :=
  (fX_isVariable v2 h).bind fun p1 =>
  if p1.1 = (0 : Int32) then
    some ((-2 : Int32), p1.2)
  else
    (fP_all 22 p1.2).bind fun p3 =>
    (fR_all p3.2).bind fun p5 =>
    (fH_start 28 p3.1 p5.1 p5.2).bind fun h7 =>
    (fH_shuffle 28 v1 h7).bind fun h9 =>
    (fH_runAll 28 h9).bind fun p11 =>
    (fH_inOrder 28 p11.2).bind fun h13 =>
    if (h13 28 9) = (0 : Int32) then
      gg (gin v2 9) <|
      some ((h13 29 v2.toNatClampNeg), h13)
    else
      some ((-1 : Int32), h13)
theorem fX_mixed_ok {v1 : Int32} {v2 : Int32} {h : gH} {x : (Int32 × gH)} (H : fX_mixed v1 v2 h = some x) (d : Nat) : gC yX6_mixed cX6_mixed 3 (some .int) (d + 4) [.ref 0, .int v1, .int v2] h (some (.int x.1)) x.2 := by
  refine gC_of (by decide +kernel) (Nat.le_of_ble_eq_true rfl) rfl ?_
  unfold fX_mixed at H
  refine R_iload_n (gxd kX6_mixed 0 rfl) rfl rfl ?_
  obtain ⟨p1, e2, H⟩ := gbi H
  refine R_callSi (gxd kX6_mixed 1 rfl) gm_X_143 wX6_isVariable (by decide) rfl (Nat.le_of_ble_eq_true rfl) (by omega) (fX_isVariable_ok  e2 (d + 3)) ?_
  refine R_if_ne (gxd kX6_mixed 2 rfl) (tgt := 10) rfl (fun q => ?_) (fun q => ?_)
  · replace H := giff q H
    refine R_aload_n (gxd kX6_mixed 5 rfl) rfl rfl ?_
    refine R_getr (gxd kX6_mixed 6 rfl) gf_X_39 gk_0 (by decide) rfl ?_
    refine R_aload_n (gxd kX6_mixed 7 rfl) rfl rfl ?_
    refine R_getr (gxd kX6_mixed 8 rfl) gf_X_35 gk_0 (by decide) rfl ?_
    refine R_aload_n (gxd kX6_mixed 9 rfl) rfl rfl ?_
    refine R_getr (gxd kX6_mixed 10 rfl) gf_X_35 gk_0 (by decide) rfl ?_
    obtain ⟨p3, e4, H⟩ := gbi H
    refine R_callVi (gxd kX6_mixed 11 rfl) gm_X_198 wX1_all (by decide) gk_22 rfl rfl (Nat.le_of_ble_eq_true rfl) (by omega) (fP_all_ok gP22 e4 (d + 3)) ?_
    refine R_aload_n (gxd kX6_mixed 12 rfl) rfl rfl ?_
    refine R_getr (gxd kX6_mixed 13 rfl) gf_X_12 gk_0 (by decide) rfl ?_
    obtain ⟨p5, e6, H⟩ := gbi H
    refine R_callVi (gxd kX6_mixed 14 rfl) gm_X_98 wX3_all (by decide) gk_1 rfl rfl (Nat.le_of_ble_eq_true rfl) (by omega) (fR_all_ok  e6 (d + 3)) ?_
    obtain ⟨h7, e8, H⟩ := gbi H
    refine R_callVv (gxd kX6_mixed 15 rfl) gm_X_203 wX0_start (by decide) gk_28 rfl rfl (Nat.le_of_ble_eq_true rfl) (by omega) (fH_start_ok gH28 e8 (d + 1)) ?_
    refine R_aload_n (gxd kX6_mixed 16 rfl) rfl rfl ?_
    refine R_getr (gxd kX6_mixed 17 rfl) gf_X_39 gk_0 (by decide) rfl ?_
    refine R_iload_n (gxd kX6_mixed 18 rfl) rfl rfl ?_
    obtain ⟨h9, e10, H⟩ := gbi H
    refine R_callVv (gxd kX6_mixed 19 rfl) gm_X_207 wX0_shuffle (by decide) gk_28 rfl rfl (Nat.le_of_ble_eq_true rfl) (by omega) (fH_shuffle_ok gH28 e10 (d + 3)) ?_
    refine R_aload_n (gxd kX6_mixed 20 rfl) rfl rfl ?_
    refine R_getr (gxd kX6_mixed 21 rfl) gf_X_39 gk_0 (by decide) rfl ?_
    obtain ⟨p11, e12, H⟩ := gbi H
    refine R_callVi (gxd kX6_mixed 22 rfl) gm_X_160 wX0_runAll (by decide) gk_28 rfl rfl (Nat.le_of_ble_eq_true rfl) (by omega) (fH_runAll_ok gH28 e12 (d + 0)) ?_
    refine R_pop (gxd kX6_mixed 23 rfl) rfl ?_
    refine R_aload_n (gxd kX6_mixed 24 rfl) rfl rfl ?_
    refine R_getr (gxd kX6_mixed 25 rfl) gf_X_39 gk_0 (by decide) rfl ?_
    obtain ⟨h13, e14, H⟩ := gbi H
    refine R_callVv (gxd kX6_mixed 26 rfl) gm_X_210 wX0_inOrder (by decide) gk_28 rfl rfl (Nat.le_of_ble_eq_true rfl) (by omega) (fH_inOrder_ok gH28 e14 (d + 3)) ?_
    refine R_aload_n (gxd kX6_mixed 27 rfl) rfl rfl ?_
    refine R_getr (gxd kX6_mixed 28 rfl) gf_X_39 gk_0 (by decide) rfl ?_
    refine R_geti (gxd kX6_mixed 29 rfl) gf_X_87 gk_28 (by decide) rfl ?_
    refine R_if_eq (gxd kX6_mixed 30 rfl) (tgt := 72) rfl (fun q => ?_) (fun q => ?_)
    · replace H := gift q H
      refine R_aload_n (gxd kX6_mixed 33 rfl) rfl rfl ?_
      refine R_getr (gxd kX6_mixed 34 rfl) gf_X_39 gk_0 (by decide) rfl ?_
      refine R_getr (gxd kX6_mixed 35 rfl) gf_X_122 gk_28 (by decide) rfl ?_
      refine R_iload_n (gxd kX6_mixed 36 rfl) rfl rfl ?_
      obtain ⟨b15, H⟩ := ggi H
      have b15 := gin_in b15
      refine R_iald (gxd kX6_mixed 37 rfl) gk_29 b15 ?_
      obtain rfl := Option.some.inj H
      exact R_iret (gxd kX6_mixed 38 rfl) rfl
    · replace H := giff q H
      refine R_iconst (v := (-1 : Int32)) (gxd kX6_mixed 31 rfl) rfl ?_
      refine R_goto (gxd kX6_mixed 32 rfl) (tgt := 81) rfl ?_
      obtain rfl := Option.some.inj H
      exact R_iret (gxd kX6_mixed 38 rfl) rfl
  · replace H := gift q H
    refine R_bipush (v := (-2 : Int32)) (gxd kX6_mixed 3 rfl) rfl ?_
    obtain rfl := Option.some.inj H
    exact R_iret (gxd kX6_mixed 4 rfl) rfl
def fX_isChoice (v0 : Int32) (v1 : Int32) (h : gH) : Option (Int32 × gH) :=
  if v0 < (0 : Int32) then
    some ((0 : Int32), h)
  else
    if v0 < (4 : Int32) then
      if v1 < (0 : Int32) then
        some ((0 : Int32), h)
      else
        if v1 < (3 : Int32) then
          some ((1 : Int32), h)
        else
          some ((0 : Int32), h)
    else
      some ((0 : Int32), h)
theorem fX_isChoice_ok {v0 : Int32} {v1 : Int32} {h : gH} {x : (Int32 × gH)} (H : fX_isChoice v0 v1 h = some x) (d : Nat) : gC yX6_isChoice cX6_isChoice 2 (some .boolean) (d + 0) [.int v0, .int v1] h (some (.int x.1)) x.2 := by
  refine gC_of (by decide +kernel) (Nat.le_of_ble_eq_true rfl) rfl ?_
  unfold fX_isChoice at H
  refine R_iload_n (gxd kX6_isChoice 0 rfl) rfl rfl ?_
  refine R_if_lt (gxd kX6_isChoice 1 rfl) (tgt := 22) rfl (fun q => ?_) (fun q => ?_)
  · replace H := gift q H
    refine R_iconst (v := (0 : Int32)) (gxd kX6_isChoice 12 rfl) rfl ?_
    obtain rfl := Option.some.inj H
    exact R_zret (gxd kX6_isChoice 13 rfl) rfl (Or.inl rfl)
  · replace H := giff q H
    refine R_iload_n (gxd kX6_isChoice 2 rfl) rfl rfl ?_
    refine R_iconst (v := (4 : Int32)) (gxd kX6_isChoice 3 rfl) rfl ?_
    refine R_icmp_ge (gxd kX6_isChoice 4 rfl) (tgt := 22) rfl (fun q => ?_) (fun q => ?_)
    · replace H := giff q H
      refine R_iconst (v := (0 : Int32)) (gxd kX6_isChoice 12 rfl) rfl ?_
      obtain rfl := Option.some.inj H
      exact R_zret (gxd kX6_isChoice 13 rfl) rfl (Or.inl rfl)
    · replace H := gift q H
      refine R_iload_n (gxd kX6_isChoice 5 rfl) rfl rfl ?_
      refine R_if_lt (gxd kX6_isChoice 6 rfl) (tgt := 22) rfl (fun q => ?_) (fun q => ?_)
      · replace H := gift q H
        refine R_iconst (v := (0 : Int32)) (gxd kX6_isChoice 12 rfl) rfl ?_
        obtain rfl := Option.some.inj H
        exact R_zret (gxd kX6_isChoice 13 rfl) rfl (Or.inl rfl)
      · replace H := giff q H
        refine R_iload_n (gxd kX6_isChoice 7 rfl) rfl rfl ?_
        refine R_iconst (v := (3 : Int32)) (gxd kX6_isChoice 8 rfl) rfl ?_
        refine R_icmp_ge (gxd kX6_isChoice 9 rfl) (tgt := 22) rfl (fun q => ?_) (fun q => ?_)
        · replace H := giff q H
          refine R_iconst (v := (0 : Int32)) (gxd kX6_isChoice 12 rfl) rfl ?_
          obtain rfl := Option.some.inj H
          exact R_zret (gxd kX6_isChoice 13 rfl) rfl (Or.inl rfl)
        · replace H := gift q H
          refine R_iconst (v := (1 : Int32)) (gxd kX6_isChoice 10 rfl) rfl ?_
          refine R_goto (gxd kX6_isChoice 11 rfl) (tgt := 23) rfl ?_
          obtain rfl := Option.some.inj H
          exact R_zret (gxd kX6_isChoice 13 rfl) rfl (Or.inr rfl)
def fX_search_58 (v4 : Int32) (s1 : Int32) (s2 : Int32) (s3 : Int32) (h : gH) : Option (Int32 × gH) :=
  (fS_go s1 s2 s3 (100 : Int32) (0 : Int32) h).bind fun h5 =>
  if (h5 38 14) = (0 : Int32) then
    if v4 = (0 : Int32) then
      if (0 : Int32) < (h5 38 13) then
        (fS_digits h5).bind fun p7 =>
        some (p7.1, p7.2)
      else
        some ((-1 : Int32), h5)
    else
    if v4 = (1 : Int32) then
      some ((h5 38 10), h5)
    else
    if v4 = (2 : Int32) then
      some ((h5 38 11), h5)
    else
      some ((h5 38 12), h5)
  else
    some ((-6 : Int32), h5)
theorem fX_search_58_ok {d : Nat} {v4 : Int32} {s1 : Int32} {s2 : Int32} {s3 : Int32}  {h : gH} {x : (Int32 × gH)} (H : fX_search_58 v4 s1 s2 s3 h = some x) : gR RX6 cX6_search 5 (some .int) (d + 6) 58 [.ref 0, .null, .null, .null, .int v4] [.int s3, .int s2, .int s1, .ref 38] h (some (.int x.1)) x.2 := by
  unfold fX_search_58 at H
  refine R_bipush (v := (100 : Int32)) (gxd kX6_search 31 rfl) rfl ?_
  refine R_iconst (v := (0 : Int32)) (gxd kX6_search 32 rfl) rfl ?_
  obtain ⟨h5, e6, H⟩ := gbi H
  refine R_callVv (gxd kX6_search 33 rfl) gm_X_221 wX4_go (by decide) gk_38 rfl rfl (Nat.le_of_ble_eq_true rfl) (by omega) (fS_go_ok  e6 (d + 0)) ?_
  refine R_aload_n (gxd kX6_search 34 rfl) rfl rfl ?_
  refine R_getr (gxd kX6_search 35 rfl) gf_X_50 gk_0 (by decide) rfl ?_
  refine R_geti (gxd kX6_search 36 rfl) gf_X_225 gk_38 (by decide) rfl ?_
  refine R_if_eq (gxd kX6_search 37 rfl) (tgt := 77) rfl (fun q => ?_) (fun q => ?_)
  · replace H := gift q H
    refine R_iload (gxd kX6_search 40 rfl) rfl ?_
    by_cases q0 : v4 = (0 : Int32)
    · replace H := gift q0 H
      refine R_tableIn (gxd kX6_search 41 rfl) (by rw [q0]; decide) (by rw [q0]; decide) (off := 25) (tgt := 104) (by rw [q0]; decide) rfl ?_
      refine R_aload_n (gxd kX6_search 42 rfl) rfl rfl ?_
      refine R_getr (gxd kX6_search 43 rfl) gf_X_50 gk_0 (by decide) rfl ?_
      refine R_geti (gxd kX6_search 44 rfl) gf_X_228 gk_38 (by decide) rfl ?_
      refine R_if_le (gxd kX6_search 45 rfl) (tgt := 124) rfl (fun q => ?_) (fun q => ?_)
      · replace H := giff q H
        refine R_iconst (v := (-1 : Int32)) (gxd kX6_search 50 rfl) rfl ?_
        obtain rfl := Option.some.inj H
        exact R_iret (gxd kX6_search 51 rfl) rfl
      · replace H := gift q H
        refine R_aload_n (gxd kX6_search 46 rfl) rfl rfl ?_
        refine R_getr (gxd kX6_search 47 rfl) gf_X_50 gk_0 (by decide) rfl ?_
        obtain ⟨p7, e8, H⟩ := gbi H
        refine R_callVi (gxd kX6_search 48 rfl) gm_X_231 wX4_digits (by decide) gk_38 rfl rfl (Nat.le_of_ble_eq_true rfl) (by omega) (fS_digits_ok  e8 (d + 5)) ?_
        refine R_goto (gxd kX6_search 49 rfl) (tgt := 125) rfl ?_
        obtain rfl := Option.some.inj H
        exact R_iret (gxd kX6_search 51 rfl) rfl
    replace H := giff q0 H
    by_cases q1 : v4 = (1 : Int32)
    · replace H := gift q1 H
      refine R_tableIn (gxd kX6_search 41 rfl) (by rw [q1]; decide) (by rw [q1]; decide) (off := 47) (tgt := 126) (by rw [q1]; decide) rfl ?_
      refine R_aload_n (gxd kX6_search 52 rfl) rfl rfl ?_
      refine R_getr (gxd kX6_search 53 rfl) gf_X_50 gk_0 (by decide) rfl ?_
      refine R_geti (gxd kX6_search 54 rfl) gf_X_234 gk_38 (by decide) rfl ?_
      obtain rfl := Option.some.inj H
      exact R_iret (gxd kX6_search 55 rfl) rfl
    replace H := giff q1 H
    by_cases q2 : v4 = (2 : Int32)
    · replace H := gift q2 H
      refine R_tableIn (gxd kX6_search 41 rfl) (by rw [q2]; decide) (by rw [q2]; decide) (off := 55) (tgt := 134) (by rw [q2]; decide) rfl ?_
      refine R_aload_n (gxd kX6_search 56 rfl) rfl rfl ?_
      refine R_getr (gxd kX6_search 57 rfl) gf_X_50 gk_0 (by decide) rfl ?_
      refine R_geti (gxd kX6_search 58 rfl) gf_X_237 gk_38 (by decide) rfl ?_
      obtain rfl := Option.some.inj H
      exact R_iret (gxd kX6_search 59 rfl) rfl
    replace H := giff q2 H
    refine R_tableOut (gxd kX6_search 41 rfl) (tgt := 142) (by have z0 := lv_neT q0 (a := 0) (by decide); have z1 := lv_neT q1 (a := 1) (by decide); have z2 := lv_neT q2 (a := 2) (by decide); omega) rfl ?_
    refine R_aload_n (gxd kX6_search 60 rfl) rfl rfl ?_
    refine R_getr (gxd kX6_search 61 rfl) gf_X_50 gk_0 (by decide) rfl ?_
    refine R_geti (gxd kX6_search 62 rfl) gf_X_240 gk_38 (by decide) rfl ?_
    obtain rfl := Option.some.inj H
    exact R_iret (gxd kX6_search 63 rfl) rfl
  · replace H := giff q H
    refine R_bipush (v := (-6 : Int32)) (gxd kX6_search 38 rfl) rfl ?_
    obtain rfl := Option.some.inj H
    exact R_iret (gxd kX6_search 39 rfl) rfl
def fX_search (v1 : Int32) (v2 : Int32) (v3 : Int32) (v4 : Int32) (h : gH) : Option (Int32 × gH) :=
  (fX_isChoice v1 v2 h).bind fun p1 =>
  if p1.1 = (0 : Int32) then
    some ((-2 : Int32), p1.2)
  else
    if v3 < (0 : Int32) then
      some ((-2 : Int32), p1.2)
    else
      if (1 : Int32) < v3 then
        some ((-2 : Int32), p1.2)
      else
        if v4 < (0 : Int32) then
          some ((-2 : Int32), p1.2)
        else
          if (3 : Int32) < v4 then
            some ((-2 : Int32), p1.2)
          else
            (fH_become 28 17 p1.2).bind fun h3 =>
            if v3 = (1 : Int32) then
              fX_search_58 v4 v1 v2 (1 : Int32) h3
            else
              fX_search_58 v4 v1 v2 (0 : Int32) h3
theorem fX_search_ok {v1 : Int32} {v2 : Int32} {v3 : Int32} {v4 : Int32} {h : gH} {x : (Int32 × gH)} (H : fX_search v1 v2 v3 v4 h = some x) (d : Nat) : gC yX6_search cX6_search 5 (some .int) (d + 6) [.ref 0, .int v1, .int v2, .int v3, .int v4] h (some (.int x.1)) x.2 := by
  refine gC_of (by decide +kernel) (Nat.le_of_ble_eq_true rfl) rfl ?_
  unfold fX_search at H
  refine R_iload_n (gxd kX6_search 0 rfl) rfl rfl ?_
  refine R_iload_n (gxd kX6_search 1 rfl) rfl rfl ?_
  obtain ⟨p1, e2, H⟩ := gbi H
  refine R_callSi (gxd kX6_search 2 rfl) gm_X_213 wX6_isChoice (by decide) rfl (Nat.le_of_ble_eq_true rfl) (by omega) (fX_isChoice_ok  e2 (d + 5)) ?_
  refine R_if_eq (gxd kX6_search 3 rfl) (tgt := 28) rfl (fun q => ?_) (fun q => ?_)
  · replace H := gift q H
    refine R_bipush (v := (-2 : Int32)) (gxd kX6_search 14 rfl) rfl ?_
    obtain rfl := Option.some.inj H
    exact R_iret (gxd kX6_search 15 rfl) rfl
  · replace H := giff q H
    refine R_iload_n (gxd kX6_search 4 rfl) rfl rfl ?_
    refine R_if_lt (gxd kX6_search 5 rfl) (tgt := 28) rfl (fun q => ?_) (fun q => ?_)
    · replace H := gift q H
      refine R_bipush (v := (-2 : Int32)) (gxd kX6_search 14 rfl) rfl ?_
      obtain rfl := Option.some.inj H
      exact R_iret (gxd kX6_search 15 rfl) rfl
    · replace H := giff q H
      refine R_iload_n (gxd kX6_search 6 rfl) rfl rfl ?_
      refine R_iconst (v := (1 : Int32)) (gxd kX6_search 7 rfl) rfl ?_
      refine R_icmp_gt (gxd kX6_search 8 rfl) (tgt := 28) rfl (fun q => ?_) (fun q => ?_)
      · replace H := gift q H
        refine R_bipush (v := (-2 : Int32)) (gxd kX6_search 14 rfl) rfl ?_
        obtain rfl := Option.some.inj H
        exact R_iret (gxd kX6_search 15 rfl) rfl
      · replace H := giff q H
        refine R_iload (gxd kX6_search 9 rfl) rfl ?_
        refine R_if_lt (gxd kX6_search 10 rfl) (tgt := 28) rfl (fun q => ?_) (fun q => ?_)
        · replace H := gift q H
          refine R_bipush (v := (-2 : Int32)) (gxd kX6_search 14 rfl) rfl ?_
          obtain rfl := Option.some.inj H
          exact R_iret (gxd kX6_search 15 rfl) rfl
        · replace H := giff q H
          refine R_iload (gxd kX6_search 11 rfl) rfl ?_
          refine R_iconst (v := (3 : Int32)) (gxd kX6_search 12 rfl) rfl ?_
          refine R_icmp_le (gxd kX6_search 13 rfl) (tgt := 31) rfl (fun q => ?_) (fun q => ?_)
          · replace H := giff q H
            refine R_aload_n (gxd kX6_search 16 rfl) rfl rfl ?_
            refine R_getr (gxd kX6_search 17 rfl) gf_X_39 gk_0 (by decide) rfl ?_
            refine R_aload_n (gxd kX6_search 18 rfl) rfl rfl ?_
            refine R_getr (gxd kX6_search 19 rfl) gf_X_28 gk_0 (by decide) rfl ?_
            obtain ⟨h3, e4, H⟩ := gbi H
            refine R_callVv (gxd kX6_search 20 rfl) gm_X_217 wX0_become (by decide) gk_28 rfl rfl (Nat.le_of_ble_eq_true rfl) (by omega) (fH_become_ok gH28 gH17 e4 (d + 4)) ?_
            refine R_aload_n (gxd kX6_search 21 rfl) rfl rfl ?_
            refine R_getr (gxd kX6_search 22 rfl) gf_X_50 gk_0 (by decide) rfl ?_
            refine R_iload_n (gxd kX6_search 23 rfl) rfl rfl ?_
            refine R_iload_n (gxd kX6_search 24 rfl) rfl rfl ?_
            refine R_iload_n (gxd kX6_search 25 rfl) rfl rfl ?_
            refine R_iconst (v := (1 : Int32)) (gxd kX6_search 26 rfl) rfl ?_
            refine R_icmp_ne (gxd kX6_search 27 rfl) (tgt := 57) rfl (fun q => ?_) (fun q => ?_)
            · replace H := giff q H
              refine R_iconst (v := (0 : Int32)) (gxd kX6_search 30 rfl) rfl ?_
              exact R_weak (gle_same (gle_null (gle_null (gle_null (gle_same gle_nil))))) (fX_search_58_ok  H)
            · replace H := gift q H
              refine R_iconst (v := (1 : Int32)) (gxd kX6_search 28 rfl) rfl ?_
              refine R_goto (gxd kX6_search 29 rfl) (tgt := 58) rfl ?_
              exact R_weak (gle_same (gle_null (gle_null (gle_null (gle_same gle_nil))))) (fX_search_58_ok  H)
          · replace H := gift q H
            refine R_bipush (v := (-2 : Int32)) (gxd kX6_search 14 rfl) rfl ?_
            obtain rfl := Option.some.inj H
            exact R_iret (gxd kX6_search 15 rfl) rfl
def fX_solutions (h : gH) : Option (Int64 × gH) :=
  (fH_become 28 17 h).bind fun h1 =>
  (fS_go (0 : Int32) (0 : Int32) (0 : Int32) (300 : Int32) (1 : Int32) h1).bind fun h3 =>
  if (h3 38 14) = (0 : Int32) then
    some ((h3 38 13).toInt64, h3)
  else
    some ((-4611686018427387904 : Int64), h3)
theorem fX_solutions_ok {h : gH} {x : (Int64 × gH)} (H : fX_solutions  h = some x) (d : Nat) : gC yX6_solutions cX6_solutions 1 (some .long) (d + 6) [.ref 0] h (some (.long x.1)) x.2 := by
  refine gC_of (by decide +kernel) (Nat.le_of_ble_eq_true rfl) rfl ?_
  unfold fX_solutions at H
  refine R_aload_n (gxd kX6_solutions 0 rfl) rfl rfl ?_
  refine R_getr (gxd kX6_solutions 1 rfl) gf_X_39 gk_0 (by decide) rfl ?_
  refine R_aload_n (gxd kX6_solutions 2 rfl) rfl rfl ?_
  refine R_getr (gxd kX6_solutions 3 rfl) gf_X_28 gk_0 (by decide) rfl ?_
  obtain ⟨h1, e2, H⟩ := gbi H
  refine R_callVv (gxd kX6_solutions 4 rfl) gm_X_217 wX0_become (by decide) gk_28 rfl rfl (Nat.le_of_ble_eq_true rfl) (by omega) (fH_become_ok gH28 gH17 e2 (d + 4)) ?_
  refine R_aload_n (gxd kX6_solutions 5 rfl) rfl rfl ?_
  refine R_getr (gxd kX6_solutions 6 rfl) gf_X_50 gk_0 (by decide) rfl ?_
  refine R_iconst (v := (0 : Int32)) (gxd kX6_solutions 7 rfl) rfl ?_
  refine R_iconst (v := (0 : Int32)) (gxd kX6_solutions 8 rfl) rfl ?_
  refine R_iconst (v := (0 : Int32)) (gxd kX6_solutions 9 rfl) rfl ?_
  refine R_sipush (v := (300 : Int32)) (gxd kX6_solutions 10 rfl) rfl ?_
  refine R_iconst (v := (1 : Int32)) (gxd kX6_solutions 11 rfl) rfl ?_
  obtain ⟨h3, e4, H⟩ := gbi H
  refine R_callVv (gxd kX6_solutions 12 rfl) gm_X_221 wX4_go (by decide) gk_38 rfl rfl (Nat.le_of_ble_eq_true rfl) (by omega) (fS_go_ok  e4 (d + 0)) ?_
  refine R_aload_n (gxd kX6_solutions 13 rfl) rfl rfl ?_
  refine R_getr (gxd kX6_solutions 14 rfl) gf_X_50 gk_0 (by decide) rfl ?_
  refine R_geti (gxd kX6_solutions 15 rfl) gf_X_225 gk_38 (by decide) rfl ?_
  refine R_if_eq (gxd kX6_solutions 16 rfl) (tgt := 41) rfl (fun q => ?_) (fun q => ?_)
  · replace H := gift q H
    refine R_aload_n (gxd kX6_solutions 19 rfl) rfl rfl ?_
    refine R_getr (gxd kX6_solutions 20 rfl) gf_X_50 gk_0 (by decide) rfl ?_
    refine R_geti (gxd kX6_solutions 21 rfl) gf_X_228 gk_38 (by decide) rfl ?_
    refine R_i2l (gxd kX6_solutions 22 rfl) ?_
    obtain rfl := Option.some.inj H
    exact R_lret (gxd kX6_solutions 23 rfl) rfl
  · replace H := giff q H
    refine R_ldc2 (v := (-4611686018427387904 : Int64)) (gxd kX6_solutions 17 rfl) gc_X_243 ?_
    refine R_goto (gxd kX6_solutions 18 rfl) (tgt := 49) rfl ?_
    obtain rfl := Option.some.inj H
    exact R_lret (gxd kX6_solutions 23 rfl) rfl
def fX_reach_39 (k21 : Int32 → gH → Option (Int32 × gH)) (v1 : Int32) (v2 : Int32) (v3 : Int32) (s0 : Int32) (h : gH) : Option (Int32 × gH) :=
  if (h 17 9) = (0 : Int32) then
    gg (gin v1 9) <|
    if (((h 18 v1.toNatClampNeg) >>> (s0 &&& 31)) &&& (1 : Int32)) = (0 : Int32) then
      k21 (v3 + (1 : Int32)) h
    else
      (fH_become 28 17 h).bind fun h4 =>
      (fH_narrow 28 v1 ((1 : Int32) <<< (s0 &&& 31)) (100 : Int32) h4).bind fun p6 =>
      (fS_go (0 : Int32) (0 : Int32) (0 : Int32) (100 : Int32) (0 : Int32) p6.2).bind fun h8 =>
      if (h8 38 14) = (0 : Int32) then
        if (0 : Int32) < (h8 38 13) then
          some (s0, h8)
        else
          k21 (v3 + (1 : Int32)) h8
      else
        some ((-6 : Int32), h8)
  else
    k21 (v3 + (1 : Int32)) h
theorem fX_reach_39_ok {d : Nat} {k21 : Int32 → gH → Option (Int32 × gH)} {v1 : Int32} {v2 : Int32} {v3 : Int32} {s0 : Int32} (hk21 : ∀ (u3 : Int32) (h : gH) (x : (Int32 × gH)), k21 u3 h = some x → gR RX6 cX6_reach 5 (some .int) (d + 6) 21 [.ref 0, .int v1, .int v2, .int u3, .null] [] h (some (.int x.1)) x.2) {h : gH} {x : (Int32 × gH)} (H : fX_reach_39 k21 v1 v2 v3 s0 h = some x) : gR RX6 cX6_reach 5 (some .int) (d + 6) 39 [.ref 0, .int v1, .int v2, .int v3, .null] [.int s0] h (some (.int x.1)) x.2 := by
  unfold fX_reach_39 at H
  refine R_istore (gxd kX6_reach 22 rfl) rfl (Nat.le_of_ble_eq_true rfl) rfl ?_
  refine R_aload_n (gxd kX6_reach 23 rfl) rfl rfl ?_
  refine R_getr (gxd kX6_reach 24 rfl) gf_X_28 gk_0 (by decide) rfl ?_
  refine R_geti (gxd kX6_reach 25 rfl) gf_X_87 gk_17 (by decide) rfl ?_
  refine R_if_ne (gxd kX6_reach 26 rfl) (tgt := 136) rfl (fun q => ?_) (fun q => ?_)
  · replace H := giff q H
    refine R_iinc (v := (v3 + (1 : Int32))) (gxd kX6_reach 72 rfl) rfl rfl rfl (Nat.le_of_ble_eq_true rfl) rfl ?_
    refine R_goto (gxd kX6_reach 73 rfl) (tgt := 21) rfl ?_
    exact R_weak (gle_same (gle_same (gle_same (gle_same (gle_null gle_nil))))) (hk21 _ _ _  H)
  · replace H := gift q H
    refine R_aload_n (gxd kX6_reach 27 rfl) rfl rfl ?_
    refine R_getr (gxd kX6_reach 28 rfl) gf_X_28 gk_0 (by decide) rfl ?_
    refine R_getr (gxd kX6_reach 29 rfl) gf_X_122 gk_17 (by decide) rfl ?_
    refine R_iload_n (gxd kX6_reach 30 rfl) rfl rfl ?_
    obtain ⟨b3, H⟩ := ggi H
    have b3 := gin_in b3
    refine R_iald (gxd kX6_reach 31 rfl) gk_18 b3 ?_
    refine R_iload (gxd kX6_reach 32 rfl) rfl ?_
    refine R_ishr (gxd kX6_reach 33 rfl) ?_
    refine R_iconst (v := (1 : Int32)) (gxd kX6_reach 34 rfl) rfl ?_
    refine R_iand (gxd kX6_reach 35 rfl) ?_
    refine R_if_ne (gxd kX6_reach 36 rfl) (tgt := 71) rfl (fun q => ?_) (fun q => ?_)
    · replace H := giff q H
      refine R_aload_n (gxd kX6_reach 38 rfl) rfl rfl ?_
      refine R_getr (gxd kX6_reach 39 rfl) gf_X_39 gk_0 (by decide) rfl ?_
      refine R_aload_n (gxd kX6_reach 40 rfl) rfl rfl ?_
      refine R_getr (gxd kX6_reach 41 rfl) gf_X_28 gk_0 (by decide) rfl ?_
      obtain ⟨h4, e5, H⟩ := gbi H
      refine R_callVv (gxd kX6_reach 42 rfl) gm_X_217 wX0_become (by decide) gk_28 rfl rfl (Nat.le_of_ble_eq_true rfl) (by omega) (fH_become_ok gH28 gH17 e5 (d + 4)) ?_
      refine R_aload_n (gxd kX6_reach 43 rfl) rfl rfl ?_
      refine R_getr (gxd kX6_reach 44 rfl) gf_X_39 gk_0 (by decide) rfl ?_
      refine R_iload_n (gxd kX6_reach 45 rfl) rfl rfl ?_
      refine R_iconst (v := (1 : Int32)) (gxd kX6_reach 46 rfl) rfl ?_
      refine R_iload (gxd kX6_reach 47 rfl) rfl ?_
      refine R_ishl (gxd kX6_reach 48 rfl) ?_
      refine R_bipush (v := (100 : Int32)) (gxd kX6_reach 49 rfl) rfl ?_
      obtain ⟨p6, e7, H⟩ := gbi H
      refine R_callVi (gxd kX6_reach 50 rfl) gm_X_153 wX0_narrow (by decide) gk_28 rfl rfl (Nat.le_of_ble_eq_true rfl) (by omega) (fH_narrow_ok gH28 e7 (d + 4)) ?_
      refine R_pop (gxd kX6_reach 51 rfl) rfl ?_
      refine R_aload_n (gxd kX6_reach 52 rfl) rfl rfl ?_
      refine R_getr (gxd kX6_reach 53 rfl) gf_X_50 gk_0 (by decide) rfl ?_
      refine R_iconst (v := (0 : Int32)) (gxd kX6_reach 54 rfl) rfl ?_
      refine R_iconst (v := (0 : Int32)) (gxd kX6_reach 55 rfl) rfl ?_
      refine R_iconst (v := (0 : Int32)) (gxd kX6_reach 56 rfl) rfl ?_
      refine R_bipush (v := (100 : Int32)) (gxd kX6_reach 57 rfl) rfl ?_
      refine R_iconst (v := (0 : Int32)) (gxd kX6_reach 58 rfl) rfl ?_
      obtain ⟨h8, e9, H⟩ := gbi H
      refine R_callVv (gxd kX6_reach 59 rfl) gm_X_221 wX4_go (by decide) gk_38 rfl rfl (Nat.le_of_ble_eq_true rfl) (by omega) (fS_go_ok  e9 (d + 0)) ?_
      refine R_aload_n (gxd kX6_reach 60 rfl) rfl rfl ?_
      refine R_getr (gxd kX6_reach 61 rfl) gf_X_50 gk_0 (by decide) rfl ?_
      refine R_geti (gxd kX6_reach 62 rfl) gf_X_225 gk_38 (by decide) rfl ?_
      refine R_if_eq (gxd kX6_reach 63 rfl) (tgt := 123) rfl (fun q => ?_) (fun q => ?_)
      · replace H := gift q H
        refine R_aload_n (gxd kX6_reach 66 rfl) rfl rfl ?_
        refine R_getr (gxd kX6_reach 67 rfl) gf_X_50 gk_0 (by decide) rfl ?_
        refine R_geti (gxd kX6_reach 68 rfl) gf_X_228 gk_38 (by decide) rfl ?_
        refine R_if_le (gxd kX6_reach 69 rfl) (tgt := 136) rfl (fun q => ?_) (fun q => ?_)
        · replace H := giff q H
          refine R_iinc (v := (v3 + (1 : Int32))) (gxd kX6_reach 72 rfl) rfl rfl rfl (Nat.le_of_ble_eq_true rfl) rfl ?_
          refine R_goto (gxd kX6_reach 73 rfl) (tgt := 21) rfl ?_
          exact R_weak (gle_same (gle_same (gle_same (gle_same (gle_null gle_nil))))) (hk21 _ _ _  H)
        · replace H := gift q H
          refine R_iload (gxd kX6_reach 70 rfl) rfl ?_
          obtain rfl := Option.some.inj H
          exact R_iret (gxd kX6_reach 71 rfl) rfl
      · replace H := giff q H
        refine R_bipush (v := (-6 : Int32)) (gxd kX6_reach 64 rfl) rfl ?_
        obtain rfl := Option.some.inj H
        exact R_iret (gxd kX6_reach 65 rfl) rfl
    · replace H := gift q H
      refine R_goto (gxd kX6_reach 37 rfl) (tgt := 136) rfl ?_
      refine R_iinc (v := (v3 + (1 : Int32))) (gxd kX6_reach 72 rfl) rfl rfl rfl (Nat.le_of_ble_eq_true rfl) rfl ?_
      refine R_goto (gxd kX6_reach 73 rfl) (tgt := 21) rfl ?_
      exact R_weak (gle_same (gle_same (gle_same (gle_same (gle_null gle_nil))))) (hk21 _ _ _  H)
def fX_reach_21 (v1 : Int32) (v2 : Int32) : Nat → Int32 → gH → Option (Int32 × gH)
  | 0, _, _ => none
  | n + 1, v3, h =>
    if v3 < (10 : Int32) then
      if v2 = (0 : Int32) then
        fX_reach_39 (fX_reach_21 v1 v2 n) v1 v2 v3 v3 h
      else
        fX_reach_39 (fX_reach_21 v1 v2 n) v1 v2 v3 ((9 : Int32) - v3) h
    else
      some ((-1 : Int32), h)
theorem fX_reach_21_ok {d : Nat} {v1 : Int32} {v2 : Int32}  : ∀ (n : Nat) (v3 : Int32) (h : gH) (x : (Int32 × gH)), fX_reach_21 v1 v2 n v3 h = some x → gR RX6 cX6_reach 5 (some .int) (d + 6) 21 [.ref 0, .int v1, .int v2, .int v3, .null] [] h (some (.int x.1)) x.2 := by
  intro n
  induction n with
  | zero => intro v3 h x  H; exact g0 H
  | succ n ih =>
    intro v3 h x  H
    unfold fX_reach_21 at H
    refine R_iload_n (gxd kX6_reach 12 rfl) rfl rfl ?_
    refine R_bipush (v := (10 : Int32)) (gxd kX6_reach 13 rfl) rfl ?_
    refine R_icmp_ge (gxd kX6_reach 14 rfl) (tgt := 142) rfl (fun q => ?_) (fun q => ?_)
    · replace H := giff q H
      refine R_iconst (v := (-1 : Int32)) (gxd kX6_reach 74 rfl) rfl ?_
      obtain rfl := Option.some.inj H
      exact R_iret (gxd kX6_reach 75 rfl) rfl
    · replace H := gift q H
      refine R_iload_n (gxd kX6_reach 15 rfl) rfl rfl ?_
      refine R_if_ne (gxd kX6_reach 16 rfl) (tgt := 35) rfl (fun q => ?_) (fun q => ?_)
      · replace H := giff q H
        refine R_bipush (v := (9 : Int32)) (gxd kX6_reach 19 rfl) rfl ?_
        refine R_iload_n (gxd kX6_reach 20 rfl) rfl rfl ?_
        refine R_isub (gxd kX6_reach 21 rfl) ?_
        exact R_weak (gle_same (gle_same (gle_same (gle_same (gle_null gle_nil))))) (fX_reach_39_ok ih  H)
      · replace H := gift q H
        refine R_iload_n (gxd kX6_reach 17 rfl) rfl rfl ?_
        refine R_goto (gxd kX6_reach 18 rfl) (tgt := 39) rfl ?_
        exact R_weak (gle_same (gle_same (gle_same (gle_same (gle_null gle_nil))))) (fX_reach_39_ok ih  H)
def fX_reach (v1 : Int32) (v2 : Int32) (h : gH) : Option (Int32 × gH) :=
  (fX_isVariable v1 h).bind fun p1 =>
  if p1.1 = (0 : Int32) then
    some ((-2 : Int32), p1.2)
  else
    if v2 < (0 : Int32) then
      some ((-2 : Int32), p1.2)
    else
      if (1 : Int32) < v2 then
        some ((-2 : Int32), p1.2)
      else
        fX_reach_21 v1 v2 gfu (0 : Int32) p1.2
theorem fX_reach_ok {v1 : Int32} {v2 : Int32} {h : gH} {x : (Int32 × gH)} (H : fX_reach v1 v2 h = some x) (d : Nat) : gC yX6_reach cX6_reach 5 (some .int) (d + 6) [.ref 0, .int v1, .int v2] h (some (.int x.1)) x.2 := by
  refine gC_of (by decide +kernel) (Nat.le_of_ble_eq_true rfl) rfl ?_
  unfold fX_reach at H
  refine R_iload_n (gxd kX6_reach 0 rfl) rfl rfl ?_
  obtain ⟨p1, e2, H⟩ := gbi H
  refine R_callSi (gxd kX6_reach 1 rfl) gm_X_143 wX6_isVariable (by decide) rfl (Nat.le_of_ble_eq_true rfl) (by omega) (fX_isVariable_ok  e2 (d + 5)) ?_
  refine R_if_eq (gxd kX6_reach 2 rfl) (tgt := 16) rfl (fun q => ?_) (fun q => ?_)
  · replace H := gift q H
    refine R_bipush (v := (-2 : Int32)) (gxd kX6_reach 8 rfl) rfl ?_
    obtain rfl := Option.some.inj H
    exact R_iret (gxd kX6_reach 9 rfl) rfl
  · replace H := giff q H
    refine R_iload_n (gxd kX6_reach 3 rfl) rfl rfl ?_
    refine R_if_lt (gxd kX6_reach 4 rfl) (tgt := 16) rfl (fun q => ?_) (fun q => ?_)
    · replace H := gift q H
      refine R_bipush (v := (-2 : Int32)) (gxd kX6_reach 8 rfl) rfl ?_
      obtain rfl := Option.some.inj H
      exact R_iret (gxd kX6_reach 9 rfl) rfl
    · replace H := giff q H
      refine R_iload_n (gxd kX6_reach 5 rfl) rfl rfl ?_
      refine R_iconst (v := (1 : Int32)) (gxd kX6_reach 6 rfl) rfl ?_
      refine R_icmp_le (gxd kX6_reach 7 rfl) (tgt := 19) rfl (fun q => ?_) (fun q => ?_)
      · replace H := giff q H
        refine R_iconst (v := (0 : Int32)) (gxd kX6_reach 10 rfl) rfl ?_
        refine R_istore_n (gxd kX6_reach 11 rfl) rfl rfl (Nat.le_of_ble_eq_true rfl) rfl ?_
        exact R_weak (gle_same (gle_same (gle_same (gle_same (gle_null gle_nil))))) (fX_reach_21_ok  gfu _ _ _  H)
      · replace H := gift q H
        refine R_bipush (v := (-2 : Int32)) (gxd kX6_reach 8 rfl) rfl ?_
        obtain rfl := Option.some.inj H
        exact R_iret (gxd kX6_reach 9 rfl) rfl
def fX_choicesThatFind_22 : Nat → Int32 → Int32 → gH → Option (Int32 × gH)
  | 0, _, _, _ => none
  | n + 1, v1, v2, h =>
    if v2 < (12 : Int32) then
      (fH_become 28 17 h).bind fun h3 =>
      (fS_go (v2 / (3 : Int32)) (v2 - v2 / (3 : Int32) * (3 : Int32)) (0 : Int32) (100 : Int32) (0 : Int32) h3).bind fun h5 =>
      if (h5 38 14) = (0 : Int32) then
        if (0 : Int32) < (h5 38 13) then
          (fS_isSolution h5).bind fun p7 =>
          if p7.1 = (0 : Int32) then
            fX_choicesThatFind_22 n v1 (v2 + (1 : Int32)) p7.2
          else
            fX_choicesThatFind_22 n (v1 ||| ((1 : Int32) <<< (v2 &&& 31))) (v2 + (1 : Int32)) p7.2
        else
          fX_choicesThatFind_22 n v1 (v2 + (1 : Int32)) h5
      else
        fX_choicesThatFind_22 n v1 (v2 + (1 : Int32)) h5
    else
      some (v1, h)
theorem fX_choicesThatFind_22_ok {d : Nat}  : ∀ (n : Nat) (v1 : Int32) (v2 : Int32) (h : gH) (x : (Int32 × gH)), fX_choicesThatFind_22  n v1 v2 h = some x → gR RX6 cX6_choicesThatFind 3 (some .int) (d + 6) 22 [.ref 0, .int v1, .int v2] [] h (some (.int x.1)) x.2 := by
  intro n
  induction n with
  | zero => intro v1 v2 h x  H; exact g0 H
  | succ n ih =>
    intro v1 v2 h x  H
    unfold fX_choicesThatFind_22 at H
    refine R_iload_n (gxd kX6_choicesThatFind 13 rfl) rfl rfl ?_
    refine R_bipush (v := (12 : Int32)) (gxd kX6_choicesThatFind 14 rfl) rfl ?_
    refine R_icmp_ge (gxd kX6_choicesThatFind 15 rfl) (tgt := 102) rfl (fun q => ?_) (fun q => ?_)
    · replace H := giff q H
      refine R_iload_n (gxd kX6_choicesThatFind 55 rfl) rfl rfl ?_
      obtain rfl := Option.some.inj H
      exact R_iret (gxd kX6_choicesThatFind 56 rfl) rfl
    · replace H := gift q H
      refine R_aload_n (gxd kX6_choicesThatFind 16 rfl) rfl rfl ?_
      refine R_getr (gxd kX6_choicesThatFind 17 rfl) gf_X_39 gk_0 (by decide) rfl ?_
      refine R_aload_n (gxd kX6_choicesThatFind 18 rfl) rfl rfl ?_
      refine R_getr (gxd kX6_choicesThatFind 19 rfl) gf_X_28 gk_0 (by decide) rfl ?_
      obtain ⟨h3, e4, H⟩ := gbi H
      refine R_callVv (gxd kX6_choicesThatFind 20 rfl) gm_X_217 wX0_become (by decide) gk_28 rfl rfl (Nat.le_of_ble_eq_true rfl) (by omega) (fH_become_ok gH28 gH17 e4 (d + 4)) ?_
      refine R_aload_n (gxd kX6_choicesThatFind 21 rfl) rfl rfl ?_
      refine R_getr (gxd kX6_choicesThatFind 22 rfl) gf_X_50 gk_0 (by decide) rfl ?_
      refine R_iload_n (gxd kX6_choicesThatFind 23 rfl) rfl rfl ?_
      refine R_iconst (v := (3 : Int32)) (gxd kX6_choicesThatFind 24 rfl) rfl ?_
      refine R_idiv (gxd kX6_choicesThatFind 25 rfl) (by decide) ?_
      refine R_iload_n (gxd kX6_choicesThatFind 26 rfl) rfl rfl ?_
      refine R_iconst (v := (3 : Int32)) (gxd kX6_choicesThatFind 27 rfl) rfl ?_
      refine R_irem (gxd kX6_choicesThatFind 28 rfl) (by decide) ?_
      refine R_iconst (v := (0 : Int32)) (gxd kX6_choicesThatFind 29 rfl) rfl ?_
      refine R_bipush (v := (100 : Int32)) (gxd kX6_choicesThatFind 30 rfl) rfl ?_
      refine R_iconst (v := (0 : Int32)) (gxd kX6_choicesThatFind 31 rfl) rfl ?_
      obtain ⟨h5, e6, H⟩ := gbi H
      refine R_callVv (gxd kX6_choicesThatFind 32 rfl) gm_X_221 wX4_go (by decide) gk_38 rfl rfl (Nat.le_of_ble_eq_true rfl) (by omega) (fS_go_ok  e6 (d + 0)) ?_
      refine R_aload_n (gxd kX6_choicesThatFind 33 rfl) rfl rfl ?_
      refine R_getr (gxd kX6_choicesThatFind 34 rfl) gf_X_50 gk_0 (by decide) rfl ?_
      refine R_geti (gxd kX6_choicesThatFind 35 rfl) gf_X_225 gk_38 (by decide) rfl ?_
      refine R_if_ne (gxd kX6_choicesThatFind 36 rfl) (tgt := 96) rfl (fun q => ?_) (fun q => ?_)
      · replace H := giff q H
        refine R_iinc (v := (v2 + (1 : Int32))) (gxd kX6_choicesThatFind 53 rfl) rfl rfl rfl (Nat.le_of_ble_eq_true rfl) rfl ?_
        refine R_goto (gxd kX6_choicesThatFind 54 rfl) (tgt := 22) rfl ?_
        exact R_weak (gle_same (gle_same (gle_same gle_nil))) (ih _ _ _ _  H)
      · replace H := gift q H
        refine R_aload_n (gxd kX6_choicesThatFind 37 rfl) rfl rfl ?_
        refine R_getr (gxd kX6_choicesThatFind 38 rfl) gf_X_50 gk_0 (by decide) rfl ?_
        refine R_geti (gxd kX6_choicesThatFind 39 rfl) gf_X_228 gk_38 (by decide) rfl ?_
        refine R_if_le (gxd kX6_choicesThatFind 40 rfl) (tgt := 96) rfl (fun q => ?_) (fun q => ?_)
        · replace H := giff q H
          refine R_iinc (v := (v2 + (1 : Int32))) (gxd kX6_choicesThatFind 53 rfl) rfl rfl rfl (Nat.le_of_ble_eq_true rfl) rfl ?_
          refine R_goto (gxd kX6_choicesThatFind 54 rfl) (tgt := 22) rfl ?_
          exact R_weak (gle_same (gle_same (gle_same gle_nil))) (ih _ _ _ _  H)
        · replace H := gift q H
          refine R_aload_n (gxd kX6_choicesThatFind 41 rfl) rfl rfl ?_
          refine R_getr (gxd kX6_choicesThatFind 42 rfl) gf_X_50 gk_0 (by decide) rfl ?_
          refine R_aload_n (gxd kX6_choicesThatFind 43 rfl) rfl rfl ?_
          refine R_getr (gxd kX6_choicesThatFind 44 rfl) gf_X_67 gk_0 (by decide) rfl ?_
          obtain ⟨p7, e8, H⟩ := gbi H
          refine R_callVi (gxd kX6_choicesThatFind 45 rfl) gm_X_316 wX4_isSolution (by decide) gk_38 rfl rfl (Nat.le_of_ble_eq_true rfl) (by omega) (fS_isSolution_ok  e8 (d + 5)) ?_
          refine R_if_eq (gxd kX6_choicesThatFind 46 rfl) (tgt := 96) rfl (fun q => ?_) (fun q => ?_)
          · replace H := gift q H
            refine R_iinc (v := (v2 + (1 : Int32))) (gxd kX6_choicesThatFind 53 rfl) rfl rfl rfl (Nat.le_of_ble_eq_true rfl) rfl ?_
            refine R_goto (gxd kX6_choicesThatFind 54 rfl) (tgt := 22) rfl ?_
            exact R_weak (gle_same (gle_same (gle_same gle_nil))) (ih _ _ _ _  H)
          · replace H := giff q H
            refine R_iload_n (gxd kX6_choicesThatFind 47 rfl) rfl rfl ?_
            refine R_iconst (v := (1 : Int32)) (gxd kX6_choicesThatFind 48 rfl) rfl ?_
            refine R_iload_n (gxd kX6_choicesThatFind 49 rfl) rfl rfl ?_
            refine R_ishl (gxd kX6_choicesThatFind 50 rfl) ?_
            refine R_ior (gxd kX6_choicesThatFind 51 rfl) ?_
            refine R_istore_n (gxd kX6_choicesThatFind 52 rfl) rfl rfl (Nat.le_of_ble_eq_true rfl) rfl ?_
            refine R_iinc (v := (v2 + (1 : Int32))) (gxd kX6_choicesThatFind 53 rfl) rfl rfl rfl (Nat.le_of_ble_eq_true rfl) rfl ?_
            refine R_goto (gxd kX6_choicesThatFind 54 rfl) (tgt := 22) rfl ?_
            exact R_weak (gle_same (gle_same (gle_same gle_nil))) (ih _ _ _ _  H)
def fX_choicesThatFind (h : gH) : Option (Int32 × gH) :=
  (fH_howManyIn 17 h).bind fun p1 =>
  if p1.1 < (8 : Int32) then
    some ((0 : Int32), p1.2)
  else
    fX_choicesThatFind_22 gfu (0 : Int32) (0 : Int32) p1.2
theorem fX_choicesThatFind_ok {h : gH} {x : (Int32 × gH)} (H : fX_choicesThatFind  h = some x) (d : Nat) : gC yX6_choicesThatFind cX6_choicesThatFind 3 (some .int) (d + 6) [.ref 0] h (some (.int x.1)) x.2 := by
  refine gC_of (by decide +kernel) (Nat.le_of_ble_eq_true rfl) rfl ?_
  unfold fX_choicesThatFind at H
  refine R_aload_n (gxd kX6_choicesThatFind 0 rfl) rfl rfl ?_
  refine R_getr (gxd kX6_choicesThatFind 1 rfl) gf_X_28 gk_0 (by decide) rfl ?_
  refine R_aload_n (gxd kX6_choicesThatFind 2 rfl) rfl rfl ?_
  refine R_getr (gxd kX6_choicesThatFind 3 rfl) gf_X_67 gk_0 (by decide) rfl ?_
  obtain ⟨p1, e2, H⟩ := gbi H
  refine R_callVi (gxd kX6_choicesThatFind 4 rfl) gm_X_263 wX0_howManyIn (by decide) gk_17 rfl rfl (Nat.le_of_ble_eq_true rfl) (by omega) (fH_howManyIn_ok gH17 e2 (d + 5)) ?_
  refine R_bipush (v := (8 : Int32)) (gxd kX6_choicesThatFind 5 rfl) rfl ?_
  refine R_icmp_ge (gxd kX6_choicesThatFind 6 rfl) (tgt := 18) rfl (fun q => ?_) (fun q => ?_)
  · replace H := giff q H
    refine R_iconst (v := (0 : Int32)) (gxd kX6_choicesThatFind 9 rfl) rfl ?_
    refine R_istore_n (gxd kX6_choicesThatFind 10 rfl) rfl rfl (Nat.le_of_ble_eq_true rfl) rfl ?_
    refine R_iconst (v := (0 : Int32)) (gxd kX6_choicesThatFind 11 rfl) rfl ?_
    refine R_istore_n (gxd kX6_choicesThatFind 12 rfl) rfl rfl (Nat.le_of_ble_eq_true rfl) rfl ?_
    exact R_weak (gle_same (gle_same (gle_same gle_nil))) (fX_choicesThatFind_22_ok  gfu _ _ _ _  H)
  · replace H := gift q H
    refine R_iconst (v := (0 : Int32)) (gxd kX6_choicesThatFind 7 rfl) rfl ?_
    obtain rfl := Option.some.inj H
    exact R_iret (gxd kX6_choicesThatFind 8 rfl) rfl
def fX_isSheet (v0 : Int32) (h : gH) : Option (Int32 × gH) :=
  if v0 < (0 : Int32) then
    some ((0 : Int32), h)
  else
    if v0 < (4 : Int32) then
      some ((1 : Int32), h)
    else
      some ((0 : Int32), h)
theorem fX_isSheet_ok {v0 : Int32} {h : gH} {x : (Int32 × gH)} (H : fX_isSheet v0 h = some x) (d : Nat) : gC yX6_isSheet cX6_isSheet 1 (some .boolean) (d + 0) [.int v0] h (some (.int x.1)) x.2 := by
  refine gC_of (by decide +kernel) (Nat.le_of_ble_eq_true rfl) rfl ?_
  unfold fX_isSheet at H
  refine R_iload_n (gxd kX6_isSheet 0 rfl) rfl rfl ?_
  refine R_if_lt (gxd kX6_isSheet 1 rfl) (tgt := 13) rfl (fun q => ?_) (fun q => ?_)
  · replace H := gift q H
    refine R_iconst (v := (0 : Int32)) (gxd kX6_isSheet 7 rfl) rfl ?_
    obtain rfl := Option.some.inj H
    exact R_zret (gxd kX6_isSheet 8 rfl) rfl (Or.inl rfl)
  · replace H := giff q H
    refine R_iload_n (gxd kX6_isSheet 2 rfl) rfl rfl ?_
    refine R_iconst (v := (4 : Int32)) (gxd kX6_isSheet 3 rfl) rfl ?_
    refine R_icmp_ge (gxd kX6_isSheet 4 rfl) (tgt := 13) rfl (fun q => ?_) (fun q => ?_)
    · replace H := giff q H
      refine R_iconst (v := (0 : Int32)) (gxd kX6_isSheet 7 rfl) rfl ?_
      obtain rfl := Option.some.inj H
      exact R_zret (gxd kX6_isSheet 8 rfl) rfl (Or.inl rfl)
    · replace H := gift q H
      refine R_iconst (v := (1 : Int32)) (gxd kX6_isSheet 5 rfl) rfl ?_
      refine R_goto (gxd kX6_isSheet 6 rfl) (tgt := 14) rfl ?_
      obtain rfl := Option.some.inj H
      exact R_zret (gxd kX6_isSheet 8 rfl) rfl (Or.inr rfl)
def fX_readValues_13 (o1 : Nat) : Nat → Int32 → gH → Option (Int32 × gH)
  | 0, _, _ => none
  | n + 1, v2, h =>
    if v2 < (8 : Int32) then
      gg (gin v2 40) <|
      gg (gin v2 9) <|
      glet (hu h 64 v2.toNatClampNeg (h (o1 + 1) v2.toNatClampNeg)) fun h3 =>
      gg (gin v2 9) <|
      (fX_isValue (h3 64 v2.toNatClampNeg) h3).bind fun p6 =>
      if p6.1 = (0 : Int32) then
        some ((0 : Int32), p6.2)
      else
        fX_readValues_13 o1 n (v2 + (1 : Int32)) p6.2
    else
      some ((1 : Int32), h)
theorem fX_readValues_13_ok {d : Nat} {o1 : Nat} (ho1 : gSheet o1)  : ∀ (n : Nat) (v2 : Int32) (h : gH) (x : (Int32 × gH)), fX_readValues_13 o1  n v2 h = some x → gR RX6 cX6_readValues 3 (some .boolean) (d + 1) 13 [.ref 0, .ref o1, .int v2] [] h (some (.int x.1)) x.2 := by
  intro n
  induction n with
  | zero => intro v2 h x  H; exact g0 H
  | succ n ih =>
    intro v2 h x  H
    unfold fX_readValues_13 at H
    refine R_iload_n (gxd kX6_readValues 8 rfl) rfl rfl ?_
    refine R_bipush (v := (8 : Int32)) (gxd kX6_readValues 9 rfl) rfl ?_
    refine R_icmp_ge (gxd kX6_readValues 10 rfl) (tgt := 51) rfl (fun q => ?_) (fun q => ?_)
    · replace H := giff q H
      refine R_iconst (v := (1 : Int32)) (gxd kX6_readValues 29 rfl) rfl ?_
      obtain rfl := Option.some.inj H
      exact R_zret (gxd kX6_readValues 30 rfl) rfl (Or.inr rfl)
    · replace H := gift q H
      refine R_aload_n (gxd kX6_readValues 11 rfl) rfl rfl ?_
      refine R_getr (gxd kX6_readValues 12 rfl) gf_X_67 gk_0 (by decide) rfl ?_
      refine R_iload_n (gxd kX6_readValues 13 rfl) rfl rfl ?_
      refine R_aload_n (gxd kX6_readValues 14 rfl) rfl rfl ?_
      refine R_getr (gxd kX6_readValues 15 rfl) gf_X_269 (gSheet0 ho1) (by decide) rfl ?_
      refine R_iload_n (gxd kX6_readValues 16 rfl) rfl rfl ?_
      obtain ⟨b1, H⟩ := ggi H
      have b1 := gin_in b1
      refine R_iald (gxd kX6_readValues 17 rfl) (gSheet1 ho1) b1 ?_
      obtain ⟨b2, H⟩ := ggi H
      have b2 := gin_in b2
      refine R_iast (gxd kX6_readValues 18 rfl) gk_64 b2 ?_
      obtain ⟨h3, e4, H⟩ := glei H
      refine R_heq e4 ?_
      refine R_aload_n (gxd kX6_readValues 19 rfl) rfl rfl ?_
      refine R_getr (gxd kX6_readValues 20 rfl) gf_X_67 gk_0 (by decide) rfl ?_
      refine R_iload_n (gxd kX6_readValues 21 rfl) rfl rfl ?_
      obtain ⟨b5, H⟩ := ggi H
      have b5 := gin_in b5
      refine R_iald (gxd kX6_readValues 22 rfl) gk_64 b5 ?_
      obtain ⟨p6, e7, H⟩ := gbi H
      refine R_callSi (gxd kX6_readValues 23 rfl) gm_X_136 wX6_isValue (by decide) rfl (Nat.le_of_ble_eq_true rfl) (by omega) (fX_isValue_ok  e7 (d + 0)) ?_
      refine R_if_ne (gxd kX6_readValues 24 rfl) (tgt := 45) rfl (fun q => ?_) (fun q => ?_)
      · replace H := giff q H
        refine R_iinc (v := (v2 + (1 : Int32))) (gxd kX6_readValues 27 rfl) rfl rfl rfl (Nat.le_of_ble_eq_true rfl) rfl ?_
        refine R_goto (gxd kX6_readValues 28 rfl) (tgt := 13) rfl ?_
        exact R_weak (gle_same (gle_same (gle_same gle_nil))) (ih _ _ _  H)
      · replace H := gift q H
        refine R_iconst (v := (0 : Int32)) (gxd kX6_readValues 25 rfl) rfl ?_
        obtain rfl := Option.some.inj H
        exact R_zret (gxd kX6_readValues 26 rfl) rfl (Or.inl rfl)
def fX_readValues (o1 : Nat) (h : gH) : Option (Int32 × gH) :=
  if (h o1 2) = (8 : Int32) then
    fX_readValues_13 o1 gfu (0 : Int32) h
  else
    some ((0 : Int32), h)
theorem fX_readValues_ok {o1 : Nat} (ho1 : gSheet o1) {h : gH} {x : (Int32 × gH)} (H : fX_readValues o1 h = some x) (d : Nat) : gC yX6_readValues cX6_readValues 3 (some .boolean) (d + 1) [.ref 0, .ref o1] h (some (.int x.1)) x.2 := by
  refine gC_of (by decide +kernel) (Nat.le_of_ble_eq_true rfl) rfl ?_
  unfold fX_readValues at H
  refine R_aload_n (gxd kX6_readValues 0 rfl) rfl rfl ?_
  refine R_geti (gxd kX6_readValues 1 rfl) gf_X_315 (gSheet0 ho1) (by decide) rfl ?_
  refine R_bipush (v := (8 : Int32)) (gxd kX6_readValues 2 rfl) rfl ?_
  refine R_icmp_eq (gxd kX6_readValues 3 rfl) (tgt := 11) rfl (fun q => ?_) (fun q => ?_)
  · replace H := gift q H
    refine R_iconst (v := (0 : Int32)) (gxd kX6_readValues 6 rfl) rfl ?_
    refine R_istore_n (gxd kX6_readValues 7 rfl) rfl rfl (Nat.le_of_ble_eq_true rfl) rfl ?_
    exact R_weak (gle_same (gle_same (gle_same gle_nil))) (fX_readValues_13_ok ho1  gfu _ _ _  H)
  · replace H := giff q H
    refine R_iconst (v := (0 : Int32)) (gxd kX6_readValues 4 rfl) rfl ?_
    obtain rfl := Option.some.inj H
    exact R_zret (gxd kX6_readValues 5 rfl) rfl (Or.inl rfl)
def fX_tells (v1 : Int32) (v2 : Int32) (h : gH) : Option (Int32 × gH) :=
  (fX_isSheet v1 h).bind fun p1 =>
  if p1.1 = (0 : Int32) then
    some ((-2 : Int32), p1.2)
  else
    if v2 < (0 : Int32) then
      some ((-2 : Int32), p1.2)
    else
      if (2 : Int32) < v2 then
        some ((-2 : Int32), p1.2)
      else
        gg (gin v1 4) <|
        (fE_isMissing (gsh v1) p1.2).bind fun p5 =>
        if p5.1 = (0 : Int32) then
          (fX_readValues (gsh v1) p5.2).bind fun p7 =>
          if p7.1 = (0 : Int32) then
            some ((-2 : Int32), p7.2)
          else
            if v2 = (0 : Int32) then
              (fX_choicesThatFind p7.2).bind fun p9 =>
              some (p9.1, p9.2)
            else
            if v2 = (1 : Int32) then
              (fR_notHolding p7.2).bind fun p11 =>
              some (p11.1, p11.2)
            else
              (fH_howManyIn 17 p7.2).bind fun p13 =>
              some (p13.1, p13.2)
        else
          some ((-11 : Int32), p5.2)
theorem fX_tells_ok {v1 : Int32} {v2 : Int32} {h : gH} {x : (Int32 × gH)} (H : fX_tells v1 v2 h = some x) (d : Nat) : gC yX6_tells cX6_tells 4 (some .int) (d + 7) [.ref 0, .int v1, .int v2] h (some (.int x.1)) x.2 := by
  refine gC_of (by decide +kernel) (Nat.le_of_ble_eq_true rfl) rfl ?_
  unfold fX_tells at H
  refine R_iload_n (gxd kX6_tells 0 rfl) rfl rfl ?_
  obtain ⟨p1, e2, H⟩ := gbi H
  refine R_callSi (gxd kX6_tells 1 rfl) gm_X_245 wX6_isSheet (by decide) rfl (Nat.le_of_ble_eq_true rfl) (by omega) (fX_isSheet_ok  e2 (d + 6)) ?_
  refine R_if_eq (gxd kX6_tells 2 rfl) (tgt := 16) rfl (fun q => ?_) (fun q => ?_)
  · replace H := gift q H
    refine R_bipush (v := (-2 : Int32)) (gxd kX6_tells 8 rfl) rfl ?_
    obtain rfl := Option.some.inj H
    exact R_iret (gxd kX6_tells 9 rfl) rfl
  · replace H := giff q H
    refine R_iload_n (gxd kX6_tells 3 rfl) rfl rfl ?_
    refine R_if_lt (gxd kX6_tells 4 rfl) (tgt := 16) rfl (fun q => ?_) (fun q => ?_)
    · replace H := gift q H
      refine R_bipush (v := (-2 : Int32)) (gxd kX6_tells 8 rfl) rfl ?_
      obtain rfl := Option.some.inj H
      exact R_iret (gxd kX6_tells 9 rfl) rfl
    · replace H := giff q H
      refine R_iload_n (gxd kX6_tells 5 rfl) rfl rfl ?_
      refine R_iconst (v := (2 : Int32)) (gxd kX6_tells 6 rfl) rfl ?_
      refine R_icmp_le (gxd kX6_tells 7 rfl) (tgt := 19) rfl (fun q => ?_) (fun q => ?_)
      · replace H := giff q H
        refine R_aload_n (gxd kX6_tells 10 rfl) rfl rfl ?_
        refine R_getr (gxd kX6_tells 11 rfl) gf_X_62 gk_0 (by decide) rfl ?_
        refine R_iload_n (gxd kX6_tells 12 rfl) rfl rfl ?_
        obtain ⟨b3, H⟩ := ggi H
        have b3 := gin_in b3
        have z4 := gsh_ok b3
        refine R_aald (o2 := gsh v1) (gxd kX6_tells 13 rfl) gk_55 b3 z4.2 ?_
        refine R_astore_n (gxd kX6_tells 14 rfl) rfl rfl (Nat.le_of_ble_eq_true rfl) rfl ?_
        refine R_aload_n (gxd kX6_tells 15 rfl) rfl rfl ?_
        obtain ⟨p5, e6, H⟩ := gbi H
        refine R_callVi (gxd kX6_tells 16 rfl) gm_X_248 wX5_isMissing (by decide) (gSheet0 z4.1) rfl rfl (Nat.le_of_ble_eq_true rfl) (by omega) (fE_isMissing_ok z4.1 e6 (d + 6)) ?_
        refine R_if_eq (gxd kX6_tells 17 rfl) (tgt := 36) rfl (fun q => ?_) (fun q => ?_)
        · replace H := gift q H
          refine R_aload_n (gxd kX6_tells 20 rfl) rfl rfl ?_
          refine R_aload_n (gxd kX6_tells 21 rfl) rfl rfl ?_
          obtain ⟨p7, e8, H⟩ := gbi H
          refine R_callVi (gxd kX6_tells 22 rfl) gm_X_252 wX6_readValues (by decide) gk_0 rfl rfl (Nat.le_of_ble_eq_true rfl) (by omega) (fX_readValues_ok z4.1 e8 (d + 5)) ?_
          refine R_if_ne (gxd kX6_tells 23 rfl) (tgt := 47) rfl (fun q => ?_) (fun q => ?_)
          · replace H := giff q H
            refine R_iload_n (gxd kX6_tells 26 rfl) rfl rfl ?_
            by_cases q0 : v2 = (0 : Int32)
            · replace H := gift q0 H
              refine R_lookup (gxd kX6_tells 27 rfl) (off := 28) (tgt := 76) (by decide) (by rw [q0]; decide) rfl ?_
              refine R_aload_n (gxd kX6_tells 28 rfl) rfl rfl ?_
              obtain ⟨p9, e10, H⟩ := gbi H
              refine R_callVi (gxd kX6_tells 29 rfl) gm_X_256 wX6_choicesThatFind (by decide) gk_0 rfl rfl (Nat.le_of_ble_eq_true rfl) (by omega) (fX_choicesThatFind_ok  e10 (d + 0)) ?_
              obtain rfl := Option.some.inj H
              exact R_iret (gxd kX6_tells 30 rfl) rfl
            replace H := giff q0 H
            by_cases q1 : v2 = (1 : Int32)
            · replace H := gift q1 H
              refine R_lookup (gxd kX6_tells 27 rfl) (off := 33) (tgt := 81) (by decide) (by rw [q1]; decide) rfl ?_
              refine R_aload_n (gxd kX6_tells 31 rfl) rfl rfl ?_
              refine R_getr (gxd kX6_tells 32 rfl) gf_X_12 gk_0 (by decide) rfl ?_
              refine R_aload_n (gxd kX6_tells 33 rfl) rfl rfl ?_
              refine R_getr (gxd kX6_tells 34 rfl) gf_X_67 gk_0 (by decide) rfl ?_
              obtain ⟨p11, e12, H⟩ := gbi H
              refine R_callVi (gxd kX6_tells 35 rfl) gm_X_259 wX3_notHolding (by decide) gk_1 rfl rfl (Nat.le_of_ble_eq_true rfl) (by omega) (fR_notHolding_ok  e12 (d + 5)) ?_
              obtain rfl := Option.some.inj H
              exact R_iret (gxd kX6_tells 36 rfl) rfl
            replace H := giff q1 H
            refine R_lookup (gxd kX6_tells 27 rfl) (off := 45) (tgt := 93) (by decide) ((lv_osw q0 rfl).trans ((lv_osw q1 rfl).trans (rfl))) rfl ?_
            refine R_aload_n (gxd kX6_tells 37 rfl) rfl rfl ?_
            refine R_getr (gxd kX6_tells 38 rfl) gf_X_28 gk_0 (by decide) rfl ?_
            refine R_aload_n (gxd kX6_tells 39 rfl) rfl rfl ?_
            refine R_getr (gxd kX6_tells 40 rfl) gf_X_67 gk_0 (by decide) rfl ?_
            obtain ⟨p13, e14, H⟩ := gbi H
            refine R_callVi (gxd kX6_tells 41 rfl) gm_X_263 wX0_howManyIn (by decide) gk_17 rfl rfl (Nat.le_of_ble_eq_true rfl) (by omega) (fH_howManyIn_ok gH17 e14 (d + 6)) ?_
            obtain rfl := Option.some.inj H
            exact R_iret (gxd kX6_tells 42 rfl) rfl
          · replace H := gift q H
            refine R_bipush (v := (-2 : Int32)) (gxd kX6_tells 24 rfl) rfl ?_
            obtain rfl := Option.some.inj H
            exact R_iret (gxd kX6_tells 25 rfl) rfl
        · replace H := giff q H
          refine R_bipush (v := (-11 : Int32)) (gxd kX6_tells 18 rfl) rfl ?_
          obtain rfl := Option.some.inj H
          exact R_iret (gxd kX6_tells 19 rfl) rfl
      · replace H := gift q H
        refine R_bipush (v := (-2 : Int32)) (gxd kX6_tells 8 rfl) rfl ?_
        obtain rfl := Option.some.inj H
        exact R_iret (gxd kX6_tells 9 rfl) rfl
def fX_film_86 (v4 : Nat) : Nat → Int32 → gH → Option (Int32 × gH)
  | 0, _, _ => none
  | n + 1, v5, h =>
    if v5 < (8 : Int32) then
      gg (gin v5 8) <|
      gg (gin v5 40) <|
      glet (hu h (v4 + 1) v5.toNatClampNeg (h 43 v5.toNatClampNeg)) fun h15 =>
      fX_film_86 v4 n (v5 + (1 : Int32)) h15
    else
      some ((8 : Int32), h)
theorem fX_film_86_ok {d : Nat} {v4 : Nat}  (hv4 : gSheet v4) : ∀ (n : Nat) (v5 : Int32) (h : gH) (x : (Int32 × gH)), fX_film_86 v4 n v5 h = some x → gR RX6 cX6_film 6 (some .int) (d + 6) 86 [.ref 0, .null, .null, .null, .ref v4, .int v5] [] h (some (.int x.1)) x.2 := by
  intro n
  induction n with
  | zero => intro v5 h x  H; exact g0 H
  | succ n ih =>
    intro v5 h x  H
    unfold fX_film_86 at H
    refine R_iload (gxd kX6_film 45 rfl) rfl ?_
    refine R_bipush (v := (8 : Int32)) (gxd kX6_film 46 rfl) rfl ?_
    refine R_icmp_ge (gxd kX6_film 47 rfl) (tgt := 117) rfl (fun q => ?_) (fun q => ?_)
    · replace H := giff q H
      refine R_bipush (v := (8 : Int32)) (gxd kX6_film 59 rfl) rfl ?_
      obtain rfl := Option.some.inj H
      exact R_iret (gxd kX6_film 60 rfl) rfl
    · replace H := gift q H
      refine R_aload (gxd kX6_film 48 rfl) rfl ?_
      refine R_getr (gxd kX6_film 49 rfl) gf_X_269 (gSheet0 hv4) (by decide) rfl ?_
      refine R_iload (gxd kX6_film 50 rfl) rfl ?_
      refine R_aload_n (gxd kX6_film 51 rfl) rfl rfl ?_
      refine R_getr (gxd kX6_film 52 rfl) gf_X_50 gk_0 (by decide) rfl ?_
      refine R_getr (gxd kX6_film 53 rfl) gf_X_272 gk_38 (by decide) rfl ?_
      refine R_iload (gxd kX6_film 54 rfl) rfl ?_
      obtain ⟨b13, H⟩ := ggi H
      have b13 := gin_in b13
      refine R_iald (gxd kX6_film 55 rfl) gk_43 b13 ?_
      obtain ⟨b14, H⟩ := ggi H
      have b14 := gin_in b14
      refine R_iast (gxd kX6_film 56 rfl) (gSheet1 hv4) b14 ?_
      obtain ⟨h15, e16, H⟩ := glei H
      refine R_heq e16 ?_
      refine R_iinc (v := (v5 + (1 : Int32))) (gxd kX6_film 57 rfl) rfl rfl rfl (Nat.le_of_ble_eq_true rfl) rfl ?_
      refine R_goto (gxd kX6_film 58 rfl) (tgt := 86) rfl ?_
      exact R_weak (gle_same (gle_null (gle_null (gle_null (gle_same (gle_same gle_nil)))))) (ih _ _ _  H)
def fX_film (v1 : Int32) (v2 : Int32) (v3 : Int32) (h : gH) : Option (Int32 × gH) :=
  (fX_isSheet v1 h).bind fun p1 =>
  if p1.1 = (0 : Int32) then
    some ((-2 : Int32), p1.2)
  else
    (fX_isChoice v2 v3 p1.2).bind fun p3 =>
    if p3.1 = (0 : Int32) then
      some ((-2 : Int32), p3.2)
    else
      (fH_become 28 17 p3.2).bind fun h5 =>
      (fS_go v2 v3 (0 : Int32) (100 : Int32) (0 : Int32) h5).bind fun h7 =>
      if (h7 38 14) = (0 : Int32) then
        if (h7 38 13) = (0 : Int32) then
          some ((-1 : Int32), h7)
        else
          gg (gin v1 4) <|
          (fE_become (gsh v1) (0 : Int32) (8 : Int32) h7).bind fun h11 =>
          fX_film_86 (gsh v1) gfu (0 : Int32) h11
      else
        some ((-6 : Int32), h7)
theorem fX_film_ok {v1 : Int32} {v2 : Int32} {v3 : Int32} {h : gH} {x : (Int32 × gH)} (H : fX_film v1 v2 v3 h = some x) (d : Nat) : gC yX6_film cX6_film 6 (some .int) (d + 6) [.ref 0, .int v1, .int v2, .int v3] h (some (.int x.1)) x.2 := by
  refine gC_of (by decide +kernel) (Nat.le_of_ble_eq_true rfl) rfl ?_
  unfold fX_film at H
  refine R_iload_n (gxd kX6_film 0 rfl) rfl rfl ?_
  obtain ⟨p1, e2, H⟩ := gbi H
  refine R_callSi (gxd kX6_film 1 rfl) gm_X_245 wX6_isSheet (by decide) rfl (Nat.le_of_ble_eq_true rfl) (by omega) (fX_isSheet_ok  e2 (d + 5)) ?_
  refine R_if_eq (gxd kX6_film 2 rfl) (tgt := 15) rfl (fun q => ?_) (fun q => ?_)
  · replace H := gift q H
    refine R_bipush (v := (-2 : Int32)) (gxd kX6_film 7 rfl) rfl ?_
    obtain rfl := Option.some.inj H
    exact R_iret (gxd kX6_film 8 rfl) rfl
  · replace H := giff q H
    refine R_iload_n (gxd kX6_film 3 rfl) rfl rfl ?_
    refine R_iload_n (gxd kX6_film 4 rfl) rfl rfl ?_
    obtain ⟨p3, e4, H⟩ := gbi H
    refine R_callSi (gxd kX6_film 5 rfl) gm_X_213 wX6_isChoice (by decide) rfl (Nat.le_of_ble_eq_true rfl) (by omega) (fX_isChoice_ok  e4 (d + 5)) ?_
    refine R_if_ne (gxd kX6_film 6 rfl) (tgt := 18) rfl (fun q => ?_) (fun q => ?_)
    · replace H := giff q H
      refine R_aload_n (gxd kX6_film 9 rfl) rfl rfl ?_
      refine R_getr (gxd kX6_film 10 rfl) gf_X_39 gk_0 (by decide) rfl ?_
      refine R_aload_n (gxd kX6_film 11 rfl) rfl rfl ?_
      refine R_getr (gxd kX6_film 12 rfl) gf_X_28 gk_0 (by decide) rfl ?_
      obtain ⟨h5, e6, H⟩ := gbi H
      refine R_callVv (gxd kX6_film 13 rfl) gm_X_217 wX0_become (by decide) gk_28 rfl rfl (Nat.le_of_ble_eq_true rfl) (by omega) (fH_become_ok gH28 gH17 e6 (d + 4)) ?_
      refine R_aload_n (gxd kX6_film 14 rfl) rfl rfl ?_
      refine R_getr (gxd kX6_film 15 rfl) gf_X_50 gk_0 (by decide) rfl ?_
      refine R_iload_n (gxd kX6_film 16 rfl) rfl rfl ?_
      refine R_iload_n (gxd kX6_film 17 rfl) rfl rfl ?_
      refine R_iconst (v := (0 : Int32)) (gxd kX6_film 18 rfl) rfl ?_
      refine R_bipush (v := (100 : Int32)) (gxd kX6_film 19 rfl) rfl ?_
      refine R_iconst (v := (0 : Int32)) (gxd kX6_film 20 rfl) rfl ?_
      obtain ⟨h7, e8, H⟩ := gbi H
      refine R_callVv (gxd kX6_film 21 rfl) gm_X_221 wX4_go (by decide) gk_38 rfl rfl (Nat.le_of_ble_eq_true rfl) (by omega) (fS_go_ok  e8 (d + 0)) ?_
      refine R_aload_n (gxd kX6_film 22 rfl) rfl rfl ?_
      refine R_getr (gxd kX6_film 23 rfl) gf_X_50 gk_0 (by decide) rfl ?_
      refine R_geti (gxd kX6_film 24 rfl) gf_X_225 gk_38 (by decide) rfl ?_
      refine R_if_eq (gxd kX6_film 25 rfl) (tgt := 55) rfl (fun q => ?_) (fun q => ?_)
      · replace H := gift q H
        refine R_aload_n (gxd kX6_film 28 rfl) rfl rfl ?_
        refine R_getr (gxd kX6_film 29 rfl) gf_X_50 gk_0 (by decide) rfl ?_
        refine R_geti (gxd kX6_film 30 rfl) gf_X_228 gk_38 (by decide) rfl ?_
        refine R_if_ne (gxd kX6_film 31 rfl) (tgt := 67) rfl (fun q => ?_) (fun q => ?_)
        · replace H := giff q H
          refine R_aload_n (gxd kX6_film 34 rfl) rfl rfl ?_
          refine R_getr (gxd kX6_film 35 rfl) gf_X_62 gk_0 (by decide) rfl ?_
          refine R_iload_n (gxd kX6_film 36 rfl) rfl rfl ?_
          obtain ⟨b9, H⟩ := ggi H
          have b9 := gin_in b9
          have z10 := gsh_ok b9
          refine R_aald (o2 := gsh v1) (gxd kX6_film 37 rfl) gk_55 b9 z10.2 ?_
          refine R_astore (gxd kX6_film 38 rfl) rfl (Nat.le_of_ble_eq_true rfl) rfl ?_
          refine R_aload (gxd kX6_film 39 rfl) rfl ?_
          refine R_iconst (v := (0 : Int32)) (gxd kX6_film 40 rfl) rfl ?_
          refine R_bipush (v := (8 : Int32)) (gxd kX6_film 41 rfl) rfl ?_
          obtain ⟨h11, e12, H⟩ := gbi H
          refine R_callVv (gxd kX6_film 42 rfl) gm_X_266 wX5_become (by decide) (gSheet0 z10.1) rfl rfl (Nat.le_of_ble_eq_true rfl) (by omega) (fE_become_ok z10.1 e12 (d + 5)) ?_
          refine R_iconst (v := (0 : Int32)) (gxd kX6_film 43 rfl) rfl ?_
          refine R_istore (gxd kX6_film 44 rfl) rfl (Nat.le_of_ble_eq_true rfl) rfl ?_
          exact R_weak (gle_same (gle_null (gle_null (gle_null (gle_same (gle_same gle_nil)))))) (fX_film_86_ok z10.1 gfu _ _ _  H)
        · replace H := gift q H
          refine R_iconst (v := (-1 : Int32)) (gxd kX6_film 32 rfl) rfl ?_
          obtain rfl := Option.some.inj H
          exact R_iret (gxd kX6_film 33 rfl) rfl
      · replace H := giff q H
        refine R_bipush (v := (-6 : Int32)) (gxd kX6_film 26 rfl) rfl ?_
        obtain rfl := Option.some.inj H
        exact R_iret (gxd kX6_film 27 rfl) rfl
    · replace H := gift q H
      refine R_bipush (v := (-2 : Int32)) (gxd kX6_film 7 rfl) rfl ?_
      obtain rfl := Option.some.inj H
      exact R_iret (gxd kX6_film 8 rfl) rfl
def fX_image (h : gH) : Option (Int32 × gH) :=
  (fH_become 44 17 h).bind fun h1 =>
  (fP_become 49 22 h1).bind fun h3 =>
  glet (hu h3 0 11 (h3 1 8)) fun h5 =>
  glet (hu h5 0 12 (1 : Int32)) fun h7 =>
  some ((h7 17 5), h7)
theorem fX_image_ok {h : gH} {x : (Int32 × gH)} (H : fX_image  h = some x) (d : Nat) : gC yX6_image cX6_image 1 (some .int) (d + 2) [.ref 0] h (some (.int x.1)) x.2 := by
  refine gC_of (by decide +kernel) (Nat.le_of_ble_eq_true rfl) rfl ?_
  unfold fX_image at H
  refine R_aload_n (gxd kX6_image 0 rfl) rfl rfl ?_
  refine R_getr (gxd kX6_image 1 rfl) gf_X_54 gk_0 (by decide) rfl ?_
  refine R_aload_n (gxd kX6_image 2 rfl) rfl rfl ?_
  refine R_getr (gxd kX6_image 3 rfl) gf_X_28 gk_0 (by decide) rfl ?_
  obtain ⟨h1, e2, H⟩ := gbi H
  refine R_callVv (gxd kX6_image 4 rfl) gm_X_217 wX0_become (by decide) gk_44 rfl rfl (Nat.le_of_ble_eq_true rfl) (by omega) (fH_become_ok gH44 gH17 e2 (d + 0)) ?_
  refine R_aload_n (gxd kX6_image 5 rfl) rfl rfl ?_
  refine R_getr (gxd kX6_image 6 rfl) gf_X_57 gk_0 (by decide) rfl ?_
  refine R_aload_n (gxd kX6_image 7 rfl) rfl rfl ?_
  refine R_getr (gxd kX6_image 8 rfl) gf_X_35 gk_0 (by decide) rfl ?_
  obtain ⟨h3, e4, H⟩ := gbi H
  refine R_callVv (gxd kX6_image 9 rfl) gm_X_275 wX1_become (by decide) gk_49 rfl rfl (Nat.le_of_ble_eq_true rfl) (by omega) (fP_become_ok gP49 gP22 e4 (d + 0)) ?_
  refine R_aload_n (gxd kX6_image 10 rfl) rfl rfl ?_
  refine R_aload_n (gxd kX6_image 11 rfl) rfl rfl ?_
  refine R_getr (gxd kX6_image 12 rfl) gf_X_12 gk_0 (by decide) rfl ?_
  refine R_geti (gxd kX6_image 13 rfl) gf_X_86 gk_1 (by decide) rfl ?_
  refine R_puti (gxd kX6_image 14 rfl) gf_X_71 gp_6_11 gk_0 (by decide) rfl ?_
  obtain ⟨h5, e6, H⟩ := glei H
  refine R_heq e6 ?_
  refine R_aload_n (gxd kX6_image 15 rfl) rfl rfl ?_
  refine R_iconst (v := (1 : Int32)) (gxd kX6_image 16 rfl) rfl ?_
  refine R_putz (gxd kX6_image 17 rfl) gf_X_75 gp_6_12 (Or.inr rfl) gk_0 (by decide) rfl ?_
  obtain ⟨h7, e8, H⟩ := glei H
  refine R_heq e8 ?_
  refine R_aload_n (gxd kX6_image 18 rfl) rfl rfl ?_
  refine R_getr (gxd kX6_image 19 rfl) gf_X_28 gk_0 (by decide) rfl ?_
  refine R_geti (gxd kX6_image 20 rfl) gf_X_166 gk_17 (by decide) rfl ?_
  obtain rfl := Option.some.inj H
  exact R_iret (gxd kX6_image 21 rfl) rfl
def fX_back (h : gH) : Option (Int32 × gH) :=
  if (h 0 12) = (0 : Int32) then
    some ((-3 : Int32), h)
  else
    (fH_become 17 44 h).bind fun h1 =>
    (fP_become 22 49 h1).bind fun h3 =>
    glet (hu h3 1 8 (h3 0 11)) fun h5 =>
    some ((h5 17 5), h5)
theorem fX_back_ok {h : gH} {x : (Int32 × gH)} (H : fX_back  h = some x) (d : Nat) : gC yX6_back cX6_back 1 (some .int) (d + 2) [.ref 0] h (some (.int x.1)) x.2 := by
  refine gC_of (by decide +kernel) (Nat.le_of_ble_eq_true rfl) rfl ?_
  unfold fX_back at H
  refine R_aload_n (gxd kX6_back 0 rfl) rfl rfl ?_
  refine R_geti (gxd kX6_back 1 rfl) gf_X_75 gk_0 (by decide) rfl ?_
  refine R_if_ne (gxd kX6_back 2 rfl) (tgt := 10) rfl (fun q => ?_) (fun q => ?_)
  · replace H := giff q H
    refine R_aload_n (gxd kX6_back 5 rfl) rfl rfl ?_
    refine R_getr (gxd kX6_back 6 rfl) gf_X_28 gk_0 (by decide) rfl ?_
    refine R_aload_n (gxd kX6_back 7 rfl) rfl rfl ?_
    refine R_getr (gxd kX6_back 8 rfl) gf_X_54 gk_0 (by decide) rfl ?_
    obtain ⟨h1, e2, H⟩ := gbi H
    refine R_callVv (gxd kX6_back 9 rfl) gm_X_217 wX0_become (by decide) gk_17 rfl rfl (Nat.le_of_ble_eq_true rfl) (by omega) (fH_become_ok gH17 gH44 e2 (d + 0)) ?_
    refine R_aload_n (gxd kX6_back 10 rfl) rfl rfl ?_
    refine R_getr (gxd kX6_back 11 rfl) gf_X_35 gk_0 (by decide) rfl ?_
    refine R_aload_n (gxd kX6_back 12 rfl) rfl rfl ?_
    refine R_getr (gxd kX6_back 13 rfl) gf_X_57 gk_0 (by decide) rfl ?_
    obtain ⟨h3, e4, H⟩ := gbi H
    refine R_callVv (gxd kX6_back 14 rfl) gm_X_275 wX1_become (by decide) gk_22 rfl rfl (Nat.le_of_ble_eq_true rfl) (by omega) (fP_become_ok gP22 gP49 e4 (d + 0)) ?_
    refine R_aload_n (gxd kX6_back 15 rfl) rfl rfl ?_
    refine R_getr (gxd kX6_back 16 rfl) gf_X_12 gk_0 (by decide) rfl ?_
    refine R_aload_n (gxd kX6_back 17 rfl) rfl rfl ?_
    refine R_geti (gxd kX6_back 18 rfl) gf_X_71 gk_0 (by decide) rfl ?_
    refine R_puti (gxd kX6_back 19 rfl) gf_X_86 gp_3_8 gk_1 (by decide) rfl ?_
    obtain ⟨h5, e6, H⟩ := glei H
    refine R_heq e6 ?_
    refine R_aload_n (gxd kX6_back 20 rfl) rfl rfl ?_
    refine R_getr (gxd kX6_back 21 rfl) gf_X_28 gk_0 (by decide) rfl ?_
    refine R_geti (gxd kX6_back 22 rfl) gf_X_166 gk_17 (by decide) rfl ?_
    obtain rfl := Option.some.inj H
    exact R_iret (gxd kX6_back 23 rfl) rfl
  · replace H := gift q H
    refine R_bipush (v := (-3 : Int32)) (gxd kX6_back 3 rfl) rfl ?_
    obtain rfl := Option.some.inj H
    exact R_iret (gxd kX6_back 4 rfl) rfl
def fX_count (v1 : Int32) (h : gH) : Option (Int32 × gH) :=
  if v1 = (0 : Int32) then
    some ((h 1 8), h)
  else
  if v1 = (1 : Int32) then
    some ((h 17 5), h)
  else
  if v1 = (2 : Int32) then
    some ((h 22 5), h)
  else
  if v1 = (3 : Int32) then
    some ((h 22 6), h)
  else
  if v1 = (4 : Int32) then
    (fJ_bitCount (h 17 7) h).bind fun p1 =>
    some (p1.1, p1.2)
  else
  if v1 = (5 : Int32) then
    some ((h 17 8), h)
  else
  if v1 = (6 : Int32) then
    (fH_howManySettled 17 h).bind fun p3 =>
    some (p3.1, p3.2)
  else
  if v1 = (7 : Int32) then
    some ((h 10 6), h)
  else
  if v1 = (8 : Int32) then
    if (h 17 9) = (0 : Int32) then
      some ((0 : Int32), h)
    else
      some ((1 : Int32), h)
  else
    some ((-2 : Int32), h)
theorem fX_count_ok {v1 : Int32} {h : gH} {x : (Int32 × gH)} (H : fX_count v1 h = some x) (d : Nat) : gC yX6_count cX6_count 2 (some .int) (d + 3) [.ref 0, .int v1] h (some (.int x.1)) x.2 := by
  refine gC_of (by decide +kernel) (Nat.le_of_ble_eq_true rfl) rfl ?_
  unfold fX_count at H
  refine R_iload_n (gxd kX6_count 0 rfl) rfl rfl ?_
  by_cases q0 : v1 = (0 : Int32)
  · replace H := gift q0 H
    refine R_tableIn (gxd kX6_count 1 rfl) (by rw [q0]; decide) (by rw [q0]; decide) (off := 51) (tgt := 52) (by rw [q0]; decide) rfl ?_
    refine R_aload_n (gxd kX6_count 2 rfl) rfl rfl ?_
    refine R_getr (gxd kX6_count 3 rfl) gf_X_12 gk_0 (by decide) rfl ?_
    refine R_geti (gxd kX6_count 4 rfl) gf_X_86 gk_1 (by decide) rfl ?_
    obtain rfl := Option.some.inj H
    exact R_iret (gxd kX6_count 5 rfl) rfl
  replace H := giff q0 H
  by_cases q1 : v1 = (1 : Int32)
  · replace H := gift q1 H
    refine R_tableIn (gxd kX6_count 1 rfl) (by rw [q1]; decide) (by rw [q1]; decide) (off := 59) (tgt := 60) (by rw [q1]; decide) rfl ?_
    refine R_aload_n (gxd kX6_count 6 rfl) rfl rfl ?_
    refine R_getr (gxd kX6_count 7 rfl) gf_X_28 gk_0 (by decide) rfl ?_
    refine R_geti (gxd kX6_count 8 rfl) gf_X_166 gk_17 (by decide) rfl ?_
    obtain rfl := Option.some.inj H
    exact R_iret (gxd kX6_count 9 rfl) rfl
  replace H := giff q1 H
  by_cases q2 : v1 = (2 : Int32)
  · replace H := gift q2 H
    refine R_tableIn (gxd kX6_count 1 rfl) (by rw [q2]; decide) (by rw [q2]; decide) (off := 67) (tgt := 68) (by rw [q2]; decide) rfl ?_
    refine R_aload_n (gxd kX6_count 10 rfl) rfl rfl ?_
    refine R_getr (gxd kX6_count 11 rfl) gf_X_35 gk_0 (by decide) rfl ?_
    refine R_geti (gxd kX6_count 12 rfl) gf_X_146 gk_22 (by decide) rfl ?_
    obtain rfl := Option.some.inj H
    exact R_iret (gxd kX6_count 13 rfl) rfl
  replace H := giff q2 H
  by_cases q3 : v1 = (3 : Int32)
  · replace H := gift q3 H
    refine R_tableIn (gxd kX6_count 1 rfl) (by rw [q3]; decide) (by rw [q3]; decide) (off := 75) (tgt := 76) (by rw [q3]; decide) rfl ?_
    refine R_aload_n (gxd kX6_count 14 rfl) rfl rfl ?_
    refine R_getr (gxd kX6_count 15 rfl) gf_X_35 gk_0 (by decide) rfl ?_
    refine R_geti (gxd kX6_count 16 rfl) gf_X_163 gk_22 (by decide) rfl ?_
    obtain rfl := Option.some.inj H
    exact R_iret (gxd kX6_count 17 rfl) rfl
  replace H := giff q3 H
  by_cases q4 : v1 = (4 : Int32)
  · replace H := gift q4 H
    refine R_tableIn (gxd kX6_count 1 rfl) (by rw [q4]; decide) (by rw [q4]; decide) (off := 83) (tgt := 84) (by rw [q4]; decide) rfl ?_
    refine R_aload_n (gxd kX6_count 18 rfl) rfl rfl ?_
    refine R_getr (gxd kX6_count 19 rfl) gf_X_28 gk_0 (by decide) rfl ?_
    refine R_geti (gxd kX6_count 20 rfl) gf_X_104 gk_17 (by decide) rfl ?_
    obtain ⟨p1, e2, H⟩ := gbi H
    refine R_callSi (gxd kX6_count 21 rfl) gm_X_278 wJ6_bitCount_0f7a4 (by decide) rfl (Nat.le_of_ble_eq_true rfl) (by omega) (fJ_bitCount_ok  e2 (d + 2)) ?_
    obtain rfl := Option.some.inj H
    exact R_iret (gxd kX6_count 22 rfl) rfl
  replace H := giff q4 H
  by_cases q5 : v1 = (5 : Int32)
  · replace H := gift q5 H
    refine R_tableIn (gxd kX6_count 1 rfl) (by rw [q5]; decide) (by rw [q5]; decide) (off := 94) (tgt := 95) (by rw [q5]; decide) rfl ?_
    refine R_aload_n (gxd kX6_count 23 rfl) rfl rfl ?_
    refine R_getr (gxd kX6_count 24 rfl) gf_X_28 gk_0 (by decide) rfl ?_
    refine R_geti (gxd kX6_count 25 rfl) gf_X_283 gk_17 (by decide) rfl ?_
    obtain rfl := Option.some.inj H
    exact R_iret (gxd kX6_count 26 rfl) rfl
  replace H := giff q5 H
  by_cases q6 : v1 = (6 : Int32)
  · replace H := gift q6 H
    refine R_tableIn (gxd kX6_count 1 rfl) (by rw [q6]; decide) (by rw [q6]; decide) (off := 102) (tgt := 103) (by rw [q6]; decide) rfl ?_
    refine R_aload_n (gxd kX6_count 27 rfl) rfl rfl ?_
    refine R_getr (gxd kX6_count 28 rfl) gf_X_28 gk_0 (by decide) rfl ?_
    obtain ⟨p3, e4, H⟩ := gbi H
    refine R_callVi (gxd kX6_count 29 rfl) gm_X_286 wX0_howManySettled (by decide) gk_17 rfl rfl (Nat.le_of_ble_eq_true rfl) (by omega) (fH_howManySettled_ok gH17 e4 (d + 0)) ?_
    obtain rfl := Option.some.inj H
    exact R_iret (gxd kX6_count 30 rfl) rfl
  replace H := giff q6 H
  by_cases q7 : v1 = (7 : Int32)
  · replace H := gift q7 H
    refine R_tableIn (gxd kX6_count 1 rfl) (by rw [q7]; decide) (by rw [q7]; decide) (off := 110) (tgt := 111) (by rw [q7]; decide) rfl ?_
    refine R_aload_n (gxd kX6_count 31 rfl) rfl rfl ?_
    refine R_getr (gxd kX6_count 32 rfl) gf_X_19 gk_0 (by decide) rfl ?_
    refine R_geti (gxd kX6_count 33 rfl) gf_X_83 gk_10 (by decide) rfl ?_
    obtain rfl := Option.some.inj H
    exact R_iret (gxd kX6_count 34 rfl) rfl
  replace H := giff q7 H
  by_cases q8 : v1 = (8 : Int32)
  · replace H := gift q8 H
    refine R_tableIn (gxd kX6_count 1 rfl) (by rw [q8]; decide) (by rw [q8]; decide) (off := 118) (tgt := 119) (by rw [q8]; decide) rfl ?_
    refine R_aload_n (gxd kX6_count 35 rfl) rfl rfl ?_
    refine R_getr (gxd kX6_count 36 rfl) gf_X_28 gk_0 (by decide) rfl ?_
    refine R_geti (gxd kX6_count 37 rfl) gf_X_87 gk_17 (by decide) rfl ?_
    refine R_if_eq (gxd kX6_count 38 rfl) (tgt := 133) rfl (fun q => ?_) (fun q => ?_)
    · replace H := gift q H
      refine R_iconst (v := (0 : Int32)) (gxd kX6_count 41 rfl) rfl ?_
      obtain rfl := Option.some.inj H
      exact R_iret (gxd kX6_count 42 rfl) rfl
    · replace H := giff q H
      refine R_iconst (v := (1 : Int32)) (gxd kX6_count 39 rfl) rfl ?_
      refine R_goto (gxd kX6_count 40 rfl) (tgt := 134) rfl ?_
      obtain rfl := Option.some.inj H
      exact R_iret (gxd kX6_count 42 rfl) rfl
  replace H := giff q8 H
  refine R_tableOut (gxd kX6_count 1 rfl) (tgt := 135) (by have z0 := lv_neT q0 (a := 0) (by decide); have z1 := lv_neT q1 (a := 1) (by decide); have z2 := lv_neT q2 (a := 2) (by decide); have z3 := lv_neT q3 (a := 3) (by decide); have z4 := lv_neT q4 (a := 4) (by decide); have z5 := lv_neT q5 (a := 5) (by decide); have z6 := lv_neT q6 (a := 6) (by decide); have z7 := lv_neT q7 (a := 7) (by decide); have z8 := lv_neT q8 (a := 8) (by decide); omega) rfl ?_
  refine R_bipush (v := (-2 : Int32)) (gxd kX6_count 43 rfl) rfl ?_
  obtain rfl := Option.some.inj H
  exact R_iret (gxd kX6_count 44 rfl) rfl
def fX_sheet_46 (v1 : Int32) (v2 : Int32) (v3 : Int32) (h : gH) : Option (Int32 × gH) :=
  gg (gin v1 4) <|
  (fE_become (gsh v1) v2 v3 h).bind fun h5 =>
  some ((1 : Int32), h5)
theorem fX_sheet_46_ok {d : Nat} {v1 : Int32} {v2 : Int32} {v3 : Int32}  {h : gH} {x : (Int32 × gH)} (H : fX_sheet_46 v1 v2 v3  h = some x) : gR RX6 cX6_sheet 4 (some .int) (d + 1) 46 [.ref 0, .int v1, .int v2, .int v3] [] h (some (.int x.1)) x.2 := by
  unfold fX_sheet_46 at H
  refine R_aload_n (gxd kX6_sheet 26 rfl) rfl rfl ?_
  refine R_getr (gxd kX6_sheet 27 rfl) gf_X_62 gk_0 (by decide) rfl ?_
  refine R_iload_n (gxd kX6_sheet 28 rfl) rfl rfl ?_
  obtain ⟨b3, H⟩ := ggi H
  have b3 := gin_in b3
  have z4 := gsh_ok b3
  refine R_aald (o2 := gsh v1) (gxd kX6_sheet 29 rfl) gk_55 b3 z4.2 ?_
  refine R_iload_n (gxd kX6_sheet 30 rfl) rfl rfl ?_
  refine R_iload_n (gxd kX6_sheet 31 rfl) rfl rfl ?_
  obtain ⟨h5, e6, H⟩ := gbi H
  refine R_callVv (gxd kX6_sheet 32 rfl) gm_X_266 wX5_become (by decide) (gSheet0 z4.1) rfl rfl (Nat.le_of_ble_eq_true rfl) (by omega) (fE_become_ok z4.1 e6 (d + 0)) ?_
  refine R_iconst (v := (1 : Int32)) (gxd kX6_sheet 33 rfl) rfl ?_
  obtain rfl := Option.some.inj H
  exact R_iret (gxd kX6_sheet 34 rfl) rfl
def fX_sheet_34 (v1 : Int32) (v2 : Int32) (v3 : Int32) (h : gH) : Option (Int32 × gH) :=
  if v2 = (-1 : Int32) then
    fX_sheet_46 v1 v2 v3 h
  else
    if v3 < (0 : Int32) then
      some ((-14 : Int32), h)
    else
      fX_sheet_46 v1 v2 v3 h
theorem fX_sheet_34_ok {d : Nat} {v1 : Int32} {v2 : Int32} {v3 : Int32}  {h : gH} {x : (Int32 × gH)} (H : fX_sheet_34 v1 v2 v3  h = some x) : gR RX6 cX6_sheet 4 (some .int) (d + 1) 34 [.ref 0, .int v1, .int v2, .int v3] [] h (some (.int x.1)) x.2 := by
  unfold fX_sheet_34 at H
  refine R_iload_n (gxd kX6_sheet 19 rfl) rfl rfl ?_
  refine R_iconst (v := (-1 : Int32)) (gxd kX6_sheet 20 rfl) rfl ?_
  refine R_icmp_eq (gxd kX6_sheet 21 rfl) (tgt := 46) rfl (fun q => ?_) (fun q => ?_)
  · replace H := gift q H
    exact R_weak (gle_same (gle_same (gle_same (gle_same gle_nil)))) (fX_sheet_46_ok  H)
  · replace H := giff q H
    refine R_iload_n (gxd kX6_sheet 22 rfl) rfl rfl ?_
    refine R_if_ge (gxd kX6_sheet 23 rfl) (tgt := 46) rfl (fun q => ?_) (fun q => ?_)
    · replace H := giff q H
      exact R_weak (gle_same (gle_same (gle_same (gle_same gle_nil)))) (fX_sheet_46_ok  H)
    · replace H := gift q H
      refine R_bipush (v := (-14 : Int32)) (gxd kX6_sheet 24 rfl) rfl ?_
      obtain rfl := Option.some.inj H
      exact R_iret (gxd kX6_sheet 25 rfl) rfl
def fX_sheet (v1 : Int32) (v2 : Int32) (v3 : Int32) (h : gH) : Option (Int32 × gH) :=
  (fX_isSheet v1 h).bind fun p1 =>
  if p1.1 = (0 : Int32) then
    some ((-2 : Int32), p1.2)
  else
    if v2 < (-1 : Int32) then
      some ((-2 : Int32), p1.2)
    else
      if (2 : Int32) < v2 then
        some ((-2 : Int32), p1.2)
      else
        if v2 = (-1 : Int32) then
          fX_sheet_34 v1 v2 v3 p1.2
        else
          if (40 : Int32) < v3 then
            some ((-2 : Int32), p1.2)
          else
            fX_sheet_34 v1 v2 v3 p1.2
theorem fX_sheet_ok {v1 : Int32} {v2 : Int32} {v3 : Int32} {h : gH} {x : (Int32 × gH)} (H : fX_sheet v1 v2 v3 h = some x) (d : Nat) : gC yX6_sheet cX6_sheet 4 (some .int) (d + 1) [.ref 0, .int v1, .int v2, .int v3] h (some (.int x.1)) x.2 := by
  refine gC_of (by decide +kernel) (Nat.le_of_ble_eq_true rfl) rfl ?_
  unfold fX_sheet at H
  refine R_iload_n (gxd kX6_sheet 0 rfl) rfl rfl ?_
  obtain ⟨p1, e2, H⟩ := gbi H
  refine R_callSi (gxd kX6_sheet 1 rfl) gm_X_245 wX6_isSheet (by decide) rfl (Nat.le_of_ble_eq_true rfl) (by omega) (fX_isSheet_ok  e2 (d + 0)) ?_
  refine R_if_eq (gxd kX6_sheet 2 rfl) (tgt := 17) rfl (fun q => ?_) (fun q => ?_)
  · replace H := gift q H
    refine R_bipush (v := (-2 : Int32)) (gxd kX6_sheet 9 rfl) rfl ?_
    obtain rfl := Option.some.inj H
    exact R_iret (gxd kX6_sheet 10 rfl) rfl
  · replace H := giff q H
    refine R_iload_n (gxd kX6_sheet 3 rfl) rfl rfl ?_
    refine R_iconst (v := (-1 : Int32)) (gxd kX6_sheet 4 rfl) rfl ?_
    refine R_icmp_lt (gxd kX6_sheet 5 rfl) (tgt := 17) rfl (fun q => ?_) (fun q => ?_)
    · replace H := gift q H
      refine R_bipush (v := (-2 : Int32)) (gxd kX6_sheet 9 rfl) rfl ?_
      obtain rfl := Option.some.inj H
      exact R_iret (gxd kX6_sheet 10 rfl) rfl
    · replace H := giff q H
      refine R_iload_n (gxd kX6_sheet 6 rfl) rfl rfl ?_
      refine R_iconst (v := (2 : Int32)) (gxd kX6_sheet 7 rfl) rfl ?_
      refine R_icmp_le (gxd kX6_sheet 8 rfl) (tgt := 20) rfl (fun q => ?_) (fun q => ?_)
      · replace H := giff q H
        refine R_iload_n (gxd kX6_sheet 11 rfl) rfl rfl ?_
        refine R_iconst (v := (-1 : Int32)) (gxd kX6_sheet 12 rfl) rfl ?_
        refine R_icmp_eq (gxd kX6_sheet 13 rfl) (tgt := 34) rfl (fun q => ?_) (fun q => ?_)
        · replace H := gift q H
          exact R_weak (gle_same (gle_same (gle_same (gle_same gle_nil)))) (fX_sheet_34_ok  H)
        · replace H := giff q H
          refine R_iload_n (gxd kX6_sheet 14 rfl) rfl rfl ?_
          refine R_bipush (v := (40 : Int32)) (gxd kX6_sheet 15 rfl) rfl ?_
          refine R_icmp_le (gxd kX6_sheet 16 rfl) (tgt := 34) rfl (fun q => ?_) (fun q => ?_)
          · replace H := giff q H
            exact R_weak (gle_same (gle_same (gle_same (gle_same gle_nil)))) (fX_sheet_34_ok  H)
          · replace H := gift q H
            refine R_bipush (v := (-2 : Int32)) (gxd kX6_sheet 17 rfl) rfl ?_
            obtain rfl := Option.some.inj H
            exact R_iret (gxd kX6_sheet 18 rfl) rfl
      · replace H := gift q H
        refine R_bipush (v := (-2 : Int32)) (gxd kX6_sheet 9 rfl) rfl ?_
        obtain rfl := Option.some.inj H
        exact R_iret (gxd kX6_sheet 10 rfl) rfl
def fX_put (v1 : Int32) (v2 : Int32) (v3 : Int32) (h : gH) : Option (Int32 × gH) :=
  (fX_isSheet v1 h).bind fun p1 =>
  if p1.1 = (0 : Int32) then
    some ((-2 : Int32), p1.2)
  else
    gg (gin v1 4) <|
    (fE_isMissing (gsh v1) p1.2).bind fun p5 =>
    if p5.1 = (0 : Int32) then
      (fE_has (gsh v1) v2 p5.2).bind fun p7 =>
      if p7.1 = (0 : Int32) then
        some ((-12 : Int32), p7.2)
      else
        (fE_cut (gsh v1) v3 p7.2).bind fun p9 =>
        gg (gin v2 40) <|
        glet (hu p9.2 ((gsh v1) + 1) v2.toNatClampNeg p9.1) fun h12 =>
        some ((1 : Int32), h12)
    else
      some ((-11 : Int32), p5.2)
theorem fX_put_ok {v1 : Int32} {v2 : Int32} {v3 : Int32} {h : gH} {x : (Int32 × gH)} (H : fX_put v1 v2 v3 h = some x) (d : Nat) : gC yX6_put cX6_put 5 (some .int) (d + 1) [.ref 0, .int v1, .int v2, .int v3] h (some (.int x.1)) x.2 := by
  refine gC_of (by decide +kernel) (Nat.le_of_ble_eq_true rfl) rfl ?_
  unfold fX_put at H
  refine R_iload_n (gxd kX6_put 0 rfl) rfl rfl ?_
  obtain ⟨p1, e2, H⟩ := gbi H
  refine R_callSi (gxd kX6_put 1 rfl) gm_X_245 wX6_isSheet (by decide) rfl (Nat.le_of_ble_eq_true rfl) (by omega) (fX_isSheet_ok  e2 (d + 0)) ?_
  refine R_if_ne (gxd kX6_put 2 rfl) (tgt := 10) rfl (fun q => ?_) (fun q => ?_)
  · replace H := giff q H
    refine R_aload_n (gxd kX6_put 5 rfl) rfl rfl ?_
    refine R_getr (gxd kX6_put 6 rfl) gf_X_62 gk_0 (by decide) rfl ?_
    refine R_iload_n (gxd kX6_put 7 rfl) rfl rfl ?_
    obtain ⟨b3, H⟩ := ggi H
    have b3 := gin_in b3
    have z4 := gsh_ok b3
    refine R_aald (o2 := gsh v1) (gxd kX6_put 8 rfl) gk_55 b3 z4.2 ?_
    refine R_astore (gxd kX6_put 9 rfl) rfl (Nat.le_of_ble_eq_true rfl) rfl ?_
    refine R_aload (gxd kX6_put 10 rfl) rfl ?_
    obtain ⟨p5, e6, H⟩ := gbi H
    refine R_callVi (gxd kX6_put 11 rfl) gm_X_248 wX5_isMissing (by decide) (gSheet0 z4.1) rfl rfl (Nat.le_of_ble_eq_true rfl) (by omega) (fE_isMissing_ok z4.1 e6 (d + 0)) ?_
    refine R_if_eq (gxd kX6_put 12 rfl) (tgt := 29) rfl (fun q => ?_) (fun q => ?_)
    · replace H := gift q H
      refine R_aload (gxd kX6_put 15 rfl) rfl ?_
      refine R_iload_n (gxd kX6_put 16 rfl) rfl rfl ?_
      obtain ⟨p7, e8, H⟩ := gbi H
      refine R_callVi (gxd kX6_put 17 rfl) gm_X_289 wX5_has (by decide) (gSheet0 z4.1) rfl rfl (Nat.le_of_ble_eq_true rfl) (by omega) (fE_has_ok z4.1 e8 (d + 0)) ?_
      refine R_if_ne (gxd kX6_put 18 rfl) (tgt := 41) rfl (fun q => ?_) (fun q => ?_)
      · replace H := giff q H
        refine R_aload (gxd kX6_put 21 rfl) rfl ?_
        refine R_getr (gxd kX6_put 22 rfl) gf_X_269 (gSheet0 z4.1) (by decide) rfl ?_
        refine R_iload_n (gxd kX6_put 23 rfl) rfl rfl ?_
        refine R_aload (gxd kX6_put 24 rfl) rfl ?_
        refine R_iload_n (gxd kX6_put 25 rfl) rfl rfl ?_
        obtain ⟨p9, e10, H⟩ := gbi H
        refine R_callVi (gxd kX6_put 26 rfl) gm_X_292 wX5_cut (by decide) (gSheet0 z4.1) rfl rfl (Nat.le_of_ble_eq_true rfl) (by omega) (fE_cut_ok z4.1 e10 (d + 0)) ?_
        obtain ⟨b11, H⟩ := ggi H
        have b11 := gin_in b11
        refine R_iast (gxd kX6_put 27 rfl) (gSheet1 z4.1) b11 ?_
        obtain ⟨h12, e13, H⟩ := glei H
        refine R_heq e13 ?_
        refine R_iconst (v := (1 : Int32)) (gxd kX6_put 28 rfl) rfl ?_
        obtain rfl := Option.some.inj H
        exact R_iret (gxd kX6_put 29 rfl) rfl
      · replace H := gift q H
        refine R_bipush (v := (-12 : Int32)) (gxd kX6_put 19 rfl) rfl ?_
        obtain rfl := Option.some.inj H
        exact R_iret (gxd kX6_put 20 rfl) rfl
    · replace H := giff q H
      refine R_bipush (v := (-11 : Int32)) (gxd kX6_put 13 rfl) rfl ?_
      obtain rfl := Option.some.inj H
      exact R_iret (gxd kX6_put 14 rfl) rfl
  · replace H := gift q H
    refine R_bipush (v := (-2 : Int32)) (gxd kX6_put 3 rfl) rfl ?_
    obtain rfl := Option.some.inj H
    exact R_iret (gxd kX6_put 4 rfl) rfl
def fX_item (v1 : Int32) (v2 : Int32) (h : gH) : Option (Int32 × gH) :=
  (fX_isSheet v1 h).bind fun p1 =>
  if p1.1 = (0 : Int32) then
    some ((-99999 : Int32), p1.2)
  else
    gg (gin v1 4) <|
    (fE_has (gsh v1) v2 p1.2).bind fun p5 =>
    if p5.1 = (0 : Int32) then
      some ((-99999 : Int32), p5.2)
    else
      gg (gin v1 4) <|
      gg (gin v2 40) <|
      some ((p5.2 ((gsh v1) + 1) v2.toNatClampNeg), p5.2)
theorem fX_item_ok {v1 : Int32} {v2 : Int32} {h : gH} {x : (Int32 × gH)} (H : fX_item v1 v2 h = some x) (d : Nat) : gC yX6_item cX6_item 3 (some .int) (d + 1) [.ref 0, .int v1, .int v2] h (some (.int x.1)) x.2 := by
  refine gC_of (by decide +kernel) (Nat.le_of_ble_eq_true rfl) rfl ?_
  unfold fX_item at H
  refine R_iload_n (gxd kX6_item 0 rfl) rfl rfl ?_
  obtain ⟨p1, e2, H⟩ := gbi H
  refine R_callSi (gxd kX6_item 1 rfl) gm_X_245 wX6_isSheet (by decide) rfl (Nat.le_of_ble_eq_true rfl) (by omega) (fX_isSheet_ok  e2 (d + 0)) ?_
  refine R_if_eq (gxd kX6_item 2 rfl) (tgt := 20) rfl (fun q => ?_) (fun q => ?_)
  · replace H := gift q H
    refine R_ldcw (v := (-99999 : Int32)) (gxd kX6_item 10 rfl) gc_X_295 ?_
    obtain rfl := Option.some.inj H
    exact R_iret (gxd kX6_item 11 rfl) rfl
  · replace H := giff q H
    refine R_aload_n (gxd kX6_item 3 rfl) rfl rfl ?_
    refine R_getr (gxd kX6_item 4 rfl) gf_X_62 gk_0 (by decide) rfl ?_
    refine R_iload_n (gxd kX6_item 5 rfl) rfl rfl ?_
    obtain ⟨b3, H⟩ := ggi H
    have b3 := gin_in b3
    have z4 := gsh_ok b3
    refine R_aald (o2 := gsh v1) (gxd kX6_item 6 rfl) gk_55 b3 z4.2 ?_
    refine R_iload_n (gxd kX6_item 7 rfl) rfl rfl ?_
    obtain ⟨p5, e6, H⟩ := gbi H
    refine R_callVi (gxd kX6_item 8 rfl) gm_X_289 wX5_has (by decide) (gSheet0 z4.1) rfl rfl (Nat.le_of_ble_eq_true rfl) (by omega) (fE_has_ok z4.1 e6 (d + 0)) ?_
    refine R_if_ne (gxd kX6_item 9 rfl) (tgt := 24) rfl (fun q => ?_) (fun q => ?_)
    · replace H := giff q H
      refine R_aload_n (gxd kX6_item 12 rfl) rfl rfl ?_
      refine R_getr (gxd kX6_item 13 rfl) gf_X_62 gk_0 (by decide) rfl ?_
      refine R_iload_n (gxd kX6_item 14 rfl) rfl rfl ?_
      obtain ⟨b7, H⟩ := ggi H
      have b7 := gin_in b7
      have z8 := gsh_ok b7
      refine R_aald (o2 := gsh v1) (gxd kX6_item 15 rfl) gk_55 b7 z8.2 ?_
      refine R_getr (gxd kX6_item 16 rfl) gf_X_269 (gSheet0 z8.1) (by decide) rfl ?_
      refine R_iload_n (gxd kX6_item 17 rfl) rfl rfl ?_
      obtain ⟨b9, H⟩ := ggi H
      have b9 := gin_in b9
      refine R_iald (gxd kX6_item 18 rfl) (gSheet1 z8.1) b9 ?_
      obtain rfl := Option.some.inj H
      exact R_iret (gxd kX6_item 19 rfl) rfl
    · replace H := gift q H
      refine R_ldcw (v := (-99999 : Int32)) (gxd kX6_item 10 rfl) gc_X_295 ?_
      obtain rfl := Option.some.inj H
      exact R_iret (gxd kX6_item 11 rfl) rfl
def fX_copy (v1 : Int32) (v2 : Int32) (v3 : Int32) (v4 : Int32) (v5 : Int32) (h : gH) : Option (Int32 × gH) :=
  (fX_isSheet v1 h).bind fun p1 =>
  if p1.1 = (0 : Int32) then
    some ((-2 : Int32), p1.2)
  else
    (fX_isSheet v3 p1.2).bind fun p3 =>
    if p3.1 = (0 : Int32) then
      some ((-2 : Int32), p3.2)
    else
      gg (gin v1 4) <|
      gg (gin v3 4) <|
      (fE_isMissing (gsh v1) p3.2).bind fun p9 =>
      if p9.1 = (0 : Int32) then
        (fE_isMissing (gsh v3) p9.2).bind fun p11 =>
        if p11.1 = (0 : Int32) then
          if (p11.2 (gsh v1) 1) = (p11.2 (gsh v3) 1) then
            (fE_hasRow (gsh v1) v2 v5 p11.2).bind fun p13 =>
            if p13.1 = (0 : Int32) then
              some ((-12 : Int32), p13.2)
            else
              (fE_hasRow (gsh v3) v4 v5 p13.2).bind fun p15 =>
              if p15.1 = (0 : Int32) then
                some ((-12 : Int32), p15.2)
              else
                gg (gcpo v2 v4 v5 40 40) <|
                glet (gcp p15.2 ((gsh v1) + 1) v2.toNatClampNeg ((gsh v3) + 1) v4.toNatClampNeg v5.toNatClampNeg) fun h18 =>
                some (v5, h18)
          else
            some ((-13 : Int32), p11.2)
        else
          some ((-11 : Int32), p11.2)
      else
        some ((-11 : Int32), p9.2)
theorem fX_copy_ok {v1 : Int32} {v2 : Int32} {v3 : Int32} {v4 : Int32} {v5 : Int32} {h : gH} {x : (Int32 × gH)} (H : fX_copy v1 v2 v3 v4 v5 h = some x) (d : Nat) : gC yX6_copy cX6_copy 8 (some .int) (d + 1) [.ref 0, .int v1, .int v2, .int v3, .int v4, .int v5] h (some (.int x.1)) x.2 := by
  refine gC_of (by decide +kernel) (Nat.le_of_ble_eq_true rfl) rfl ?_
  unfold fX_copy at H
  refine R_iload_n (gxd kX6_copy 0 rfl) rfl rfl ?_
  obtain ⟨p1, e2, H⟩ := gbi H
  refine R_callSi (gxd kX6_copy 1 rfl) gm_X_245 wX6_isSheet (by decide) rfl (Nat.le_of_ble_eq_true rfl) (by omega) (fX_isSheet_ok  e2 (d + 0)) ?_
  refine R_if_eq (gxd kX6_copy 2 rfl) (tgt := 14) rfl (fun q => ?_) (fun q => ?_)
  · replace H := gift q H
    refine R_bipush (v := (-2 : Int32)) (gxd kX6_copy 6 rfl) rfl ?_
    obtain rfl := Option.some.inj H
    exact R_iret (gxd kX6_copy 7 rfl) rfl
  · replace H := giff q H
    refine R_iload_n (gxd kX6_copy 3 rfl) rfl rfl ?_
    obtain ⟨p3, e4, H⟩ := gbi H
    refine R_callSi (gxd kX6_copy 4 rfl) gm_X_245 wX6_isSheet (by decide) rfl (Nat.le_of_ble_eq_true rfl) (by omega) (fX_isSheet_ok  e4 (d + 0)) ?_
    refine R_if_ne (gxd kX6_copy 5 rfl) (tgt := 17) rfl (fun q => ?_) (fun q => ?_)
    · replace H := giff q H
      refine R_aload_n (gxd kX6_copy 8 rfl) rfl rfl ?_
      refine R_getr (gxd kX6_copy 9 rfl) gf_X_62 gk_0 (by decide) rfl ?_
      refine R_iload_n (gxd kX6_copy 10 rfl) rfl rfl ?_
      obtain ⟨b5, H⟩ := ggi H
      have b5 := gin_in b5
      have z6 := gsh_ok b5
      refine R_aald (o2 := gsh v1) (gxd kX6_copy 11 rfl) gk_55 b5 z6.2 ?_
      refine R_astore (gxd kX6_copy 12 rfl) rfl (Nat.le_of_ble_eq_true rfl) rfl ?_
      refine R_aload_n (gxd kX6_copy 13 rfl) rfl rfl ?_
      refine R_getr (gxd kX6_copy 14 rfl) gf_X_62 gk_0 (by decide) rfl ?_
      refine R_iload_n (gxd kX6_copy 15 rfl) rfl rfl ?_
      obtain ⟨b7, H⟩ := ggi H
      have b7 := gin_in b7
      have z8 := gsh_ok b7
      refine R_aald (o2 := gsh v3) (gxd kX6_copy 16 rfl) gk_55 b7 z8.2 ?_
      refine R_astore (gxd kX6_copy 17 rfl) rfl (Nat.le_of_ble_eq_true rfl) rfl ?_
      refine R_aload (gxd kX6_copy 18 rfl) rfl ?_
      obtain ⟨p9, e10, H⟩ := gbi H
      refine R_callVi (gxd kX6_copy 19 rfl) gm_X_248 wX5_isMissing (by decide) (gSheet0 z6.1) rfl rfl (Nat.le_of_ble_eq_true rfl) (by omega) (fE_isMissing_ok z6.1 e10 (d + 0)) ?_
      refine R_if_ne (gxd kX6_copy 20 rfl) (tgt := 49) rfl (fun q => ?_) (fun q => ?_)
      · replace H := giff q H
        refine R_bipush (v := (-11 : Int32)) (gxd kX6_copy 24 rfl) rfl ?_
        obtain rfl := Option.some.inj H
        exact R_iret (gxd kX6_copy 25 rfl) rfl
      · replace H := gift q H
        refine R_aload (gxd kX6_copy 21 rfl) rfl ?_
        obtain ⟨p11, e12, H⟩ := gbi H
        refine R_callVi (gxd kX6_copy 22 rfl) gm_X_248 wX5_isMissing (by decide) (gSheet0 z8.1) rfl rfl (Nat.le_of_ble_eq_true rfl) (by omega) (fE_isMissing_ok z8.1 e12 (d + 0)) ?_
        refine R_if_eq (gxd kX6_copy 23 rfl) (tgt := 52) rfl (fun q => ?_) (fun q => ?_)
        · replace H := gift q H
          refine R_aload (gxd kX6_copy 26 rfl) rfl ?_
          refine R_geti (gxd kX6_copy 27 rfl) gf_X_296 (gSheet0 z6.1) (by decide) rfl ?_
          refine R_aload (gxd kX6_copy 28 rfl) rfl ?_
          refine R_geti (gxd kX6_copy 29 rfl) gf_X_296 (gSheet0 z8.1) (by decide) rfl ?_
          refine R_icmp_eq (gxd kX6_copy 30 rfl) (tgt := 68) rfl (fun q => ?_) (fun q => ?_)
          · replace H := gift q H
            refine R_aload (gxd kX6_copy 33 rfl) rfl ?_
            refine R_iload_n (gxd kX6_copy 34 rfl) rfl rfl ?_
            refine R_iload (gxd kX6_copy 35 rfl) rfl ?_
            obtain ⟨p13, e14, H⟩ := gbi H
            refine R_callVi (gxd kX6_copy 36 rfl) gm_X_299 wX5_hasRow (by decide) (gSheet0 z6.1) rfl rfl (Nat.le_of_ble_eq_true rfl) (by omega) (fE_hasRow_ok z6.1 e14 (d + 0)) ?_
            refine R_if_eq (gxd kX6_copy 37 rfl) (tgt := 91) rfl (fun q => ?_) (fun q => ?_)
            · replace H := gift q H
              refine R_bipush (v := (-12 : Int32)) (gxd kX6_copy 43 rfl) rfl ?_
              obtain rfl := Option.some.inj H
              exact R_iret (gxd kX6_copy 44 rfl) rfl
            · replace H := giff q H
              refine R_aload (gxd kX6_copy 38 rfl) rfl ?_
              refine R_iload (gxd kX6_copy 39 rfl) rfl ?_
              refine R_iload (gxd kX6_copy 40 rfl) rfl ?_
              obtain ⟨p15, e16, H⟩ := gbi H
              refine R_callVi (gxd kX6_copy 41 rfl) gm_X_299 wX5_hasRow (by decide) (gSheet0 z8.1) rfl rfl (Nat.le_of_ble_eq_true rfl) (by omega) (fE_hasRow_ok z8.1 e16 (d + 0)) ?_
              refine R_if_ne (gxd kX6_copy 42 rfl) (tgt := 94) rfl (fun q => ?_) (fun q => ?_)
              · replace H := giff q H
                refine R_aload (gxd kX6_copy 45 rfl) rfl ?_
                refine R_getr (gxd kX6_copy 46 rfl) gf_X_269 (gSheet0 z6.1) (by decide) rfl ?_
                refine R_iload_n (gxd kX6_copy 47 rfl) rfl rfl ?_
                refine R_aload (gxd kX6_copy 48 rfl) rfl ?_
                refine R_getr (gxd kX6_copy 49 rfl) gf_X_269 (gSheet0 z8.1) (by decide) rfl ?_
                refine R_iload (gxd kX6_copy 50 rfl) rfl ?_
                refine R_iload (gxd kX6_copy 51 rfl) rfl ?_
                obtain ⟨b17, H⟩ := ggi H
                have b17 := gcpo_ok b17
                refine R_copy (gxd kX6_copy 52 rfl) gy_X_302 (gSheet1 z6.1) (gSheet1 z8.1) b17.1 b17.2.1 b17.2.2.1 b17.2.2.2.1 b17.2.2.2.2 (by omega) (Nat.le_of_ble_eq_true rfl) ?_
                obtain ⟨h18, e19, H⟩ := glei H
                refine R_heq e19 ?_
                refine R_iload (gxd kX6_copy 53 rfl) rfl ?_
                obtain rfl := Option.some.inj H
                exact R_iret (gxd kX6_copy 54 rfl) rfl
              · replace H := gift q H
                refine R_bipush (v := (-12 : Int32)) (gxd kX6_copy 43 rfl) rfl ?_
                obtain rfl := Option.some.inj H
                exact R_iret (gxd kX6_copy 44 rfl) rfl
          · replace H := giff q H
            refine R_bipush (v := (-13 : Int32)) (gxd kX6_copy 31 rfl) rfl ?_
            obtain rfl := Option.some.inj H
            exact R_iret (gxd kX6_copy 32 rfl) rfl
        · replace H := giff q H
          refine R_bipush (v := (-11 : Int32)) (gxd kX6_copy 24 rfl) rfl ?_
          obtain rfl := Option.some.inj H
          exact R_iret (gxd kX6_copy 25 rfl) rfl
    · replace H := gift q H
      refine R_bipush (v := (-2 : Int32)) (gxd kX6_copy 6 rfl) rfl ?_
      obtain rfl := Option.some.inj H
      exact R_iret (gxd kX6_copy 7 rfl) rfl
def fX_load_68 (v3 : Int32) (v4 : Int32) (v5 : Nat) : Nat → Int32 → Int32 → gH → Option (Int32 × gH)
  | 0, _, _, _ => none
  | n + 1, v6, v7, h =>
    if v7 < v4 then
      (fE_has v5 (v3 + ((2 : Int32) * v7)) h).bind fun p7 =>
      if p7.1 = (0 : Int32) then
        some ((-12 : Int32), p7.2)
      else
        (fE_has v5 ((v3 + ((2 : Int32) * v7)) + (1 : Int32)) p7.2).bind fun p9 =>
        if p9.1 = (0 : Int32) then
          some ((-12 : Int32), p9.2)
        else
          gg (gin (v3 + ((2 : Int32) * v7)) 40) <|
          gg (gin ((v3 + ((2 : Int32) * v7)) + (1 : Int32)) 40) <|
          (fX_tell (p9.2 (v5 + 1) (v3 + ((2 : Int32) * v7)).toNatClampNeg) (p9.2 (v5 + 1) ((v3 + ((2 : Int32) * v7)) + (1 : Int32)).toNatClampNeg) p9.2).bind fun p13 =>
          if p13.1 < (0 : Int32) then
            fX_load_68 v3 v4 v5 n v6 (v7 + (1 : Int32)) p13.2
          else
            fX_load_68 v3 v4 v5 n (v6 + (1 : Int32)) (v7 + (1 : Int32)) p13.2
    else
      some (v6, h)
theorem fX_load_68_ok {d : Nat} {v3 : Int32} {v4 : Int32} {v5 : Nat}  (hv5 : gSheet v5) : ∀ (n : Nat) (v6 : Int32) (v7 : Int32) (h : gH) (x : (Int32 × gH)), fX_load_68 v3 v4 v5 n v6 v7 h = some x → gR RX6 cX6_load 9 (some .int) (d + 3) 68 [.ref 0, .null, .null, .int v3, .int v4, .ref v5, .int v6, .int v7, .null] [] h (some (.int x.1)) x.2 := by
  intro n
  induction n with
  | zero => intro v6 v7 h x  H; exact g0 H
  | succ n ih =>
    intro v6 v7 h x  H
    unfold fX_load_68 at H
    refine R_iload (gxd kX6_load 35 rfl) rfl ?_
    refine R_iload (gxd kX6_load 36 rfl) rfl ?_
    refine R_icmp_ge (gxd kX6_load 37 rfl) (tgt := 142) rfl (fun q => ?_) (fun q => ?_)
    · replace H := giff q H
      refine R_iload (gxd kX6_load 72 rfl) rfl ?_
      obtain rfl := Option.some.inj H
      exact R_iret (gxd kX6_load 73 rfl) rfl
    · replace H := gift q H
      refine R_iload_n (gxd kX6_load 38 rfl) rfl rfl ?_
      refine R_iconst (v := (2 : Int32)) (gxd kX6_load 39 rfl) rfl ?_
      refine R_iload (gxd kX6_load 40 rfl) rfl ?_
      refine R_imul (gxd kX6_load 41 rfl) ?_
      refine R_iadd (gxd kX6_load 42 rfl) ?_
      refine R_istore (gxd kX6_load 43 rfl) rfl (Nat.le_of_ble_eq_true rfl) rfl ?_
      refine R_aload (gxd kX6_load 44 rfl) rfl ?_
      refine R_iload (gxd kX6_load 45 rfl) rfl ?_
      obtain ⟨p7, e8, H⟩ := gbi H
      refine R_callVi (gxd kX6_load 46 rfl) gm_X_289 wX5_has (by decide) (gSheet0 hv5) rfl rfl (Nat.le_of_ble_eq_true rfl) (by omega) (fE_has_ok hv5 e8 (d + 2)) ?_
      refine R_if_eq (gxd kX6_load 47 rfl) (tgt := 105) rfl (fun q => ?_) (fun q => ?_)
      · replace H := gift q H
        refine R_bipush (v := (-12 : Int32)) (gxd kX6_load 54 rfl) rfl ?_
        obtain rfl := Option.some.inj H
        exact R_iret (gxd kX6_load 55 rfl) rfl
      · replace H := giff q H
        refine R_aload (gxd kX6_load 48 rfl) rfl ?_
        refine R_iload (gxd kX6_load 49 rfl) rfl ?_
        refine R_iconst (v := (1 : Int32)) (gxd kX6_load 50 rfl) rfl ?_
        refine R_iadd (gxd kX6_load 51 rfl) ?_
        obtain ⟨p9, e10, H⟩ := gbi H
        refine R_callVi (gxd kX6_load 52 rfl) gm_X_289 wX5_has (by decide) (gSheet0 hv5) rfl rfl (Nat.le_of_ble_eq_true rfl) (by omega) (fE_has_ok hv5 e10 (d + 2)) ?_
        refine R_if_ne (gxd kX6_load 53 rfl) (tgt := 108) rfl (fun q => ?_) (fun q => ?_)
        · replace H := giff q H
          refine R_aload_n (gxd kX6_load 56 rfl) rfl rfl ?_
          refine R_aload (gxd kX6_load 57 rfl) rfl ?_
          refine R_getr (gxd kX6_load 58 rfl) gf_X_269 (gSheet0 hv5) (by decide) rfl ?_
          refine R_iload (gxd kX6_load 59 rfl) rfl ?_
          obtain ⟨b11, H⟩ := ggi H
          have b11 := gin_in b11
          refine R_iald (gxd kX6_load 60 rfl) (gSheet1 hv5) b11 ?_
          refine R_aload (gxd kX6_load 61 rfl) rfl ?_
          refine R_getr (gxd kX6_load 62 rfl) gf_X_269 (gSheet0 hv5) (by decide) rfl ?_
          refine R_iload (gxd kX6_load 63 rfl) rfl ?_
          refine R_iconst (v := (1 : Int32)) (gxd kX6_load 64 rfl) rfl ?_
          refine R_iadd (gxd kX6_load 65 rfl) ?_
          obtain ⟨b12, H⟩ := ggi H
          have b12 := gin_in b12
          refine R_iald (gxd kX6_load 66 rfl) (gSheet1 hv5) b12 ?_
          obtain ⟨p13, e14, H⟩ := gbi H
          refine R_callVi (gxd kX6_load 67 rfl) gm_X_308 wX6_tell (by decide) gk_0 rfl rfl (Nat.le_of_ble_eq_true rfl) (by omega) (fX_tell_ok  e14 (d + 0)) ?_
          refine R_if_lt (gxd kX6_load 68 rfl) (tgt := 136) rfl (fun q => ?_) (fun q => ?_)
          · replace H := gift q H
            refine R_iinc (v := (v7 + (1 : Int32))) (gxd kX6_load 70 rfl) rfl rfl rfl (Nat.le_of_ble_eq_true rfl) rfl ?_
            refine R_goto (gxd kX6_load 71 rfl) (tgt := 68) rfl ?_
            exact R_weak (gle_same (gle_null (gle_null (gle_same (gle_same (gle_same (gle_same (gle_same (gle_null gle_nil))))))))) (ih _ _ _ _  H)
          · replace H := giff q H
            refine R_iinc (v := (v6 + (1 : Int32))) (gxd kX6_load 69 rfl) rfl rfl rfl (Nat.le_of_ble_eq_true rfl) rfl ?_
            refine R_iinc (v := (v7 + (1 : Int32))) (gxd kX6_load 70 rfl) rfl rfl rfl (Nat.le_of_ble_eq_true rfl) rfl ?_
            refine R_goto (gxd kX6_load 71 rfl) (tgt := 68) rfl ?_
            exact R_weak (gle_same (gle_null (gle_null (gle_same (gle_same (gle_same (gle_same (gle_same (gle_null gle_nil))))))))) (ih _ _ _ _  H)
        · replace H := gift q H
          refine R_bipush (v := (-12 : Int32)) (gxd kX6_load 54 rfl) rfl ?_
          obtain rfl := Option.some.inj H
          exact R_iret (gxd kX6_load 55 rfl) rfl
def fX_load (v1 : Int32) (v2 : Int32) (v3 : Int32) (v4 : Int32) (h : gH) : Option (Int32 × gH) :=
  (fX_isSheet v1 h).bind fun p1 =>
  if p1.1 = (0 : Int32) then
    some ((-2 : Int32), p1.2)
  else
    if v2 < (0 : Int32) then
      some ((-2 : Int32), p1.2)
    else
      if (2 : Int32) < v2 then
        some ((-2 : Int32), p1.2)
      else
        if v4 < (0 : Int32) then
          some ((-2 : Int32), p1.2)
        else
          if (8 : Int32) < v4 then
            some ((-2 : Int32), p1.2)
          else
            gg (gin v1 4) <|
            (fE_isMissing (gsh v1) p1.2).bind fun p5 =>
            if p5.1 = (0 : Int32) then
              if (p5.2 (gsh v1) 1) = v2 then
                fX_load_68 v3 v4 (gsh v1) gfu (0 : Int32) (0 : Int32) p5.2
              else
                some ((-13 : Int32), p5.2)
            else
              some ((-11 : Int32), p5.2)
theorem fX_load_ok {v1 : Int32} {v2 : Int32} {v3 : Int32} {v4 : Int32} {h : gH} {x : (Int32 × gH)} (H : fX_load v1 v2 v3 v4 h = some x) (d : Nat) : gC yX6_load cX6_load 9 (some .int) (d + 3) [.ref 0, .int v1, .int v2, .int v3, .int v4] h (some (.int x.1)) x.2 := by
  refine gC_of (by decide +kernel) (Nat.le_of_ble_eq_true rfl) rfl ?_
  unfold fX_load at H
  refine R_iload_n (gxd kX6_load 0 rfl) rfl rfl ?_
  obtain ⟨p1, e2, H⟩ := gbi H
  refine R_callSi (gxd kX6_load 1 rfl) gm_X_245 wX6_isSheet (by decide) rfl (Nat.le_of_ble_eq_true rfl) (by omega) (fX_isSheet_ok  e2 (d + 2)) ?_
  refine R_if_eq (gxd kX6_load 2 rfl) (tgt := 28) rfl (fun q => ?_) (fun q => ?_)
  · replace H := gift q H
    refine R_bipush (v := (-2 : Int32)) (gxd kX6_load 13 rfl) rfl ?_
    obtain rfl := Option.some.inj H
    exact R_iret (gxd kX6_load 14 rfl) rfl
  · replace H := giff q H
    refine R_iload_n (gxd kX6_load 3 rfl) rfl rfl ?_
    refine R_if_lt (gxd kX6_load 4 rfl) (tgt := 28) rfl (fun q => ?_) (fun q => ?_)
    · replace H := gift q H
      refine R_bipush (v := (-2 : Int32)) (gxd kX6_load 13 rfl) rfl ?_
      obtain rfl := Option.some.inj H
      exact R_iret (gxd kX6_load 14 rfl) rfl
    · replace H := giff q H
      refine R_iload_n (gxd kX6_load 5 rfl) rfl rfl ?_
      refine R_iconst (v := (2 : Int32)) (gxd kX6_load 6 rfl) rfl ?_
      refine R_icmp_gt (gxd kX6_load 7 rfl) (tgt := 28) rfl (fun q => ?_) (fun q => ?_)
      · replace H := gift q H
        refine R_bipush (v := (-2 : Int32)) (gxd kX6_load 13 rfl) rfl ?_
        obtain rfl := Option.some.inj H
        exact R_iret (gxd kX6_load 14 rfl) rfl
      · replace H := giff q H
        refine R_iload (gxd kX6_load 8 rfl) rfl ?_
        refine R_if_lt (gxd kX6_load 9 rfl) (tgt := 28) rfl (fun q => ?_) (fun q => ?_)
        · replace H := gift q H
          refine R_bipush (v := (-2 : Int32)) (gxd kX6_load 13 rfl) rfl ?_
          obtain rfl := Option.some.inj H
          exact R_iret (gxd kX6_load 14 rfl) rfl
        · replace H := giff q H
          refine R_iload (gxd kX6_load 10 rfl) rfl ?_
          refine R_bipush (v := (8 : Int32)) (gxd kX6_load 11 rfl) rfl ?_
          refine R_icmp_le (gxd kX6_load 12 rfl) (tgt := 31) rfl (fun q => ?_) (fun q => ?_)
          · replace H := giff q H
            refine R_aload_n (gxd kX6_load 15 rfl) rfl rfl ?_
            refine R_getr (gxd kX6_load 16 rfl) gf_X_62 gk_0 (by decide) rfl ?_
            refine R_iload_n (gxd kX6_load 17 rfl) rfl rfl ?_
            obtain ⟨b3, H⟩ := ggi H
            have b3 := gin_in b3
            have z4 := gsh_ok b3
            refine R_aald (o2 := gsh v1) (gxd kX6_load 18 rfl) gk_55 b3 z4.2 ?_
            refine R_astore (gxd kX6_load 19 rfl) rfl (Nat.le_of_ble_eq_true rfl) rfl ?_
            refine R_aload (gxd kX6_load 20 rfl) rfl ?_
            obtain ⟨p5, e6, H⟩ := gbi H
            refine R_callVi (gxd kX6_load 21 rfl) gm_X_248 wX5_isMissing (by decide) (gSheet0 z4.1) rfl rfl (Nat.le_of_ble_eq_true rfl) (by omega) (fE_isMissing_ok z4.1 e6 (d + 2)) ?_
            refine R_if_eq (gxd kX6_load 22 rfl) (tgt := 50) rfl (fun q => ?_) (fun q => ?_)
            · replace H := gift q H
              refine R_aload (gxd kX6_load 25 rfl) rfl ?_
              refine R_geti (gxd kX6_load 26 rfl) gf_X_296 (gSheet0 z4.1) (by decide) rfl ?_
              refine R_iload_n (gxd kX6_load 27 rfl) rfl rfl ?_
              refine R_icmp_eq (gxd kX6_load 28 rfl) (tgt := 62) rfl (fun q => ?_) (fun q => ?_)
              · replace H := gift q H
                refine R_iconst (v := (0 : Int32)) (gxd kX6_load 31 rfl) rfl ?_
                refine R_istore (gxd kX6_load 32 rfl) rfl (Nat.le_of_ble_eq_true rfl) rfl ?_
                refine R_iconst (v := (0 : Int32)) (gxd kX6_load 33 rfl) rfl ?_
                refine R_istore (gxd kX6_load 34 rfl) rfl (Nat.le_of_ble_eq_true rfl) rfl ?_
                exact R_weak (gle_same (gle_null (gle_null (gle_same (gle_same (gle_same (gle_same (gle_same (gle_null gle_nil))))))))) (fX_load_68_ok z4.1 gfu _ _ _ _  H)
              · replace H := giff q H
                refine R_bipush (v := (-13 : Int32)) (gxd kX6_load 29 rfl) rfl ?_
                obtain rfl := Option.some.inj H
                exact R_iret (gxd kX6_load 30 rfl) rfl
            · replace H := giff q H
              refine R_bipush (v := (-11 : Int32)) (gxd kX6_load 23 rfl) rfl ?_
              obtain rfl := Option.some.inj H
              exact R_iret (gxd kX6_load 24 rfl) rfl
          · replace H := gift q H
            refine R_bipush (v := (-2 : Int32)) (gxd kX6_load 13 rfl) rfl ?_
            obtain rfl := Option.some.inj H
            exact R_iret (gxd kX6_load 14 rfl) rfl
