def fX_feed (v1 : Int32) (h : gH) : Option (Int32 × gH) :=
  if v1 < (0 : Int32) then
    some ((-2 : Int32), h)
  else
    if (255 : Int32) < v1 then
      some ((-2 : Int32), h)
    else
      (fT_accept v1 h).bind fun p1 =>
      if p1.1 = (0 : Int32) then
        some ((-4 : Int32), p1.2)
      else
        some ((p1.2 10 6), p1.2)
theorem fX_feed_ok {v1 : Int32} {h : gH} {x : (Int32 × gH)} (H : fX_feed v1 h = some x) (d : Nat) : gC yX6_feed cX6_feed 2 (some .int) (d + 1) [.ref 0, .int v1] h (some (.int x.1)) x.2 := by
  refine gC_of (by decide +kernel) (Nat.le_of_ble_eq_true rfl) rfl ?_
  unfold fX_feed at H
  refine R_iload_n (gxd kX6_feed 0 rfl) rfl rfl ?_
  refine R_if_lt (gxd kX6_feed 1 rfl) (tgt := 11) rfl (fun q => ?_) (fun q => ?_)
  · replace H := gift q H
    refine R_bipush (v := (-2 : Int32)) (gxd kX6_feed 5 rfl) rfl ?_
    obtain rfl := Option.some.inj H
    exact R_iret (gxd kX6_feed 6 rfl) rfl
  · replace H := giff q H
    refine R_iload_n (gxd kX6_feed 2 rfl) rfl rfl ?_
    refine R_sipush (v := (255 : Int32)) (gxd kX6_feed 3 rfl) rfl ?_
    refine R_icmp_le (gxd kX6_feed 4 rfl) (tgt := 14) rfl (fun q => ?_) (fun q => ?_)
    · replace H := giff q H
      refine R_aload_n (gxd kX6_feed 7 rfl) rfl rfl ?_
      refine R_getr (gxd kX6_feed 8 rfl) gf_X_19 gk_0 (by decide) rfl ?_
      refine R_iload_n (gxd kX6_feed 9 rfl) rfl rfl ?_
      obtain ⟨p1, e2, H⟩ := gbi H
      refine R_callVi (gxd kX6_feed 10 rfl) gm_X_79 wX2_accept (by decide) gk_10 rfl rfl (Nat.le_of_ble_eq_true rfl) (by omega) (fT_accept_ok  e2 (d + 0)) ?_
      refine R_if_eq (gxd kX6_feed 11 rfl) (tgt := 35) rfl (fun q => ?_) (fun q => ?_)
      · replace H := gift q H
        refine R_bipush (v := (-4 : Int32)) (gxd kX6_feed 16 rfl) rfl ?_
        obtain rfl := Option.some.inj H
        exact R_iret (gxd kX6_feed 17 rfl) rfl
      · replace H := giff q H
        refine R_aload_n (gxd kX6_feed 12 rfl) rfl rfl ?_
        refine R_getr (gxd kX6_feed 13 rfl) gf_X_19 gk_0 (by decide) rfl ?_
        refine R_geti (gxd kX6_feed 14 rfl) gf_X_83 gk_10 (by decide) rfl ?_
        refine R_goto (gxd kX6_feed 15 rfl) (tgt := 37) rfl ?_
        obtain rfl := Option.some.inj H
        exact R_iret (gxd kX6_feed 17 rfl) rfl
    · replace H := gift q H
      refine R_bipush (v := (-2 : Int32)) (gxd kX6_feed 5 rfl) rfl ?_
      obtain rfl := Option.some.inj H
      exact R_iret (gxd kX6_feed 6 rfl) rfl
def fX_rule (h : gH) : Option (Int32 × gH) :=
  if (h 1 8) < (16 : Int32) then
    if (h 17 9) = (0 : Int32) then
      (fT_read h).bind fun p1 =>
      glet (hu p1.2 10 6 (0 : Int32)) fun h3 =>
      if p1.1 = (-1 : Int32) then
        (fR_add h3).bind fun p5 =>
        (fR_all p5.2).bind fun p7 =>
        glet (hu p7.2 17 6 p7.1) fun h9 =>
        glet (hu h9 17 7 ((h9 17 7) ||| ((1 : Int32) <<< (p5.1 &&& 31)))) fun h11 =>
        some (p5.1, h11)
      else
        some (((-100 : Int32) - p1.1), h3)
    else
      some ((-3 : Int32), h)
  else
    some ((-4 : Int32), h)
theorem fX_rule_ok {h : gH} {x : (Int32 × gH)} (H : fX_rule  h = some x) (d : Nat) : gC yX6_rule cX6_rule 3 (some .int) (d + 44) [.ref 0] h (some (.int x.1)) x.2 := by
  refine gC_of (by decide +kernel) (Nat.le_of_ble_eq_true rfl) rfl ?_
  unfold fX_rule at H
  refine R_aload_n (gxd kX6_rule 0 rfl) rfl rfl ?_
  refine R_getr (gxd kX6_rule 1 rfl) gf_X_12 gk_0 (by decide) rfl ?_
  refine R_geti (gxd kX6_rule 2 rfl) gf_X_86 gk_1 (by decide) rfl ?_
  refine R_bipush (v := (16 : Int32)) (gxd kX6_rule 3 rfl) rfl ?_
  refine R_icmp_lt (gxd kX6_rule 4 rfl) (tgt := 15) rfl (fun q => ?_) (fun q => ?_)
  · replace H := gift q H
    refine R_aload_n (gxd kX6_rule 7 rfl) rfl rfl ?_
    refine R_getr (gxd kX6_rule 8 rfl) gf_X_28 gk_0 (by decide) rfl ?_
    refine R_geti (gxd kX6_rule 9 rfl) gf_X_87 gk_17 (by decide) rfl ?_
    refine R_if_eq (gxd kX6_rule 10 rfl) (tgt := 28) rfl (fun q => ?_) (fun q => ?_)
    · replace H := gift q H
      refine R_aload_n (gxd kX6_rule 13 rfl) rfl rfl ?_
      refine R_getr (gxd kX6_rule 14 rfl) gf_X_19 gk_0 (by decide) rfl ?_
      obtain ⟨p1, e2, H⟩ := gbi H
      refine R_callVi (gxd kX6_rule 15 rfl) gm_X_90 wX2_read (by decide) gk_10 rfl rfl (Nat.le_of_ble_eq_true rfl) (by omega) (fT_read_ok  e2 (d + 0)) ?_
      refine R_istore_n (gxd kX6_rule 16 rfl) rfl rfl (Nat.le_of_ble_eq_true rfl) rfl ?_
      refine R_aload_n (gxd kX6_rule 17 rfl) rfl rfl ?_
      refine R_getr (gxd kX6_rule 18 rfl) gf_X_19 gk_0 (by decide) rfl ?_
      refine R_iconst (v := (0 : Int32)) (gxd kX6_rule 19 rfl) rfl ?_
      refine R_puti (gxd kX6_rule 20 rfl) gf_X_83 gp_2_6 gk_10 (by decide) rfl ?_
      obtain ⟨h3, e4, H⟩ := glei H
      refine R_heq e4 ?_
      refine R_iload_n (gxd kX6_rule 21 rfl) rfl rfl ?_
      refine R_iconst (v := (-1 : Int32)) (gxd kX6_rule 22 rfl) rfl ?_
      refine R_icmp_eq (gxd kX6_rule 23 rfl) (tgt := 54) rfl (fun q => ?_) (fun q => ?_)
      · replace H := gift q H
        refine R_aload_n (gxd kX6_rule 28 rfl) rfl rfl ?_
        refine R_getr (gxd kX6_rule 29 rfl) gf_X_12 gk_0 (by decide) rfl ?_
        refine R_aload_n (gxd kX6_rule 30 rfl) rfl rfl ?_
        refine R_getr (gxd kX6_rule 31 rfl) gf_X_19 gk_0 (by decide) rfl ?_
        obtain ⟨p5, e6, H⟩ := gbi H
        refine R_callVi (gxd kX6_rule 32 rfl) gm_X_94 wX3_add (by decide) gk_1 rfl rfl (Nat.le_of_ble_eq_true rfl) (by omega) (fR_add_ok  e6 (d + 38)) ?_
        refine R_istore_n (gxd kX6_rule 33 rfl) rfl rfl (Nat.le_of_ble_eq_true rfl) rfl ?_
        refine R_aload_n (gxd kX6_rule 34 rfl) rfl rfl ?_
        refine R_getr (gxd kX6_rule 35 rfl) gf_X_28 gk_0 (by decide) rfl ?_
        refine R_aload_n (gxd kX6_rule 36 rfl) rfl rfl ?_
        refine R_getr (gxd kX6_rule 37 rfl) gf_X_12 gk_0 (by decide) rfl ?_
        obtain ⟨p7, e8, H⟩ := gbi H
        refine R_callVi (gxd kX6_rule 38 rfl) gm_X_98 wX3_all (by decide) gk_1 rfl rfl (Nat.le_of_ble_eq_true rfl) (by omega) (fR_all_ok  e8 (d + 43)) ?_
        refine R_puti (gxd kX6_rule 39 rfl) gf_X_101 gp_0_6 gk_17 (by decide) rfl ?_
        obtain ⟨h9, e10, H⟩ := glei H
        refine R_heq e10 ?_
        refine R_aload_n (gxd kX6_rule 40 rfl) rfl rfl ?_
        refine R_getr (gxd kX6_rule 41 rfl) gf_X_28 gk_0 (by decide) rfl ?_
        refine R_dup (gxd kX6_rule 42 rfl) rfl ?_
        refine R_geti (gxd kX6_rule 43 rfl) gf_X_104 gk_17 (by decide) rfl ?_
        refine R_iconst (v := (1 : Int32)) (gxd kX6_rule 44 rfl) rfl ?_
        refine R_iload_n (gxd kX6_rule 45 rfl) rfl rfl ?_
        refine R_ishl (gxd kX6_rule 46 rfl) ?_
        refine R_ior (gxd kX6_rule 47 rfl) ?_
        refine R_puti (gxd kX6_rule 48 rfl) gf_X_104 gp_0_7 gk_17 (by decide) rfl ?_
        obtain ⟨h11, e12, H⟩ := glei H
        refine R_heq e12 ?_
        refine R_iload_n (gxd kX6_rule 49 rfl) rfl rfl ?_
        obtain rfl := Option.some.inj H
        exact R_iret (gxd kX6_rule 50 rfl) rfl
      · replace H := giff q H
        refine R_bipush (v := (-100 : Int32)) (gxd kX6_rule 24 rfl) rfl ?_
        refine R_iload_n (gxd kX6_rule 25 rfl) rfl rfl ?_
        refine R_isub (gxd kX6_rule 26 rfl) ?_
        obtain rfl := Option.some.inj H
        exact R_iret (gxd kX6_rule 27 rfl) rfl
    · replace H := giff q H
      refine R_bipush (v := (-3 : Int32)) (gxd kX6_rule 11 rfl) rfl ?_
      obtain rfl := Option.some.inj H
      exact R_iret (gxd kX6_rule 12 rfl) rfl
  · replace H := giff q H
    refine R_bipush (v := (-4 : Int32)) (gxd kX6_rule 5 rfl) rfl ?_
    obtain rfl := Option.some.inj H
    exact R_iret (gxd kX6_rule 6 rfl) rfl
def fX_tell (v1 : Int32) (v2 : Int32) (h : gH) : Option (Int32 × gH) :=
  (fX_isVariable v1 h).bind fun p1 =>
  if p1.1 = (0 : Int32) then
    some ((-2 : Int32), p1.2)
  else
    if v2 < (0 : Int32) then
      some ((-2 : Int32), p1.2)
    else
      if (1023 : Int32) < v2 then
        some ((-2 : Int32), p1.2)
      else
        if (p1.2 17 9) = (0 : Int32) then
          if (p1.2 22 5) < (12 : Int32) then
            (fP_decide 22 v1 v2 p1.2).bind fun p3 =>
            (fH_narrow 17 v1 v2 ((100 : Int32) + p3.1) p3.2).bind fun p5 =>
            some (p5.1, p5.2)
          else
            some ((-4 : Int32), p1.2)
        else
          some ((-3 : Int32), p1.2)
theorem fX_tell_ok {v1 : Int32} {v2 : Int32} {h : gH} {x : (Int32 × gH)} (H : fX_tell v1 v2 h = some x) (d : Nat) : gC yX6_tell cX6_tell 4 (some .int) (d + 2) [.ref 0, .int v1, .int v2] h (some (.int x.1)) x.2 := by
  refine gC_of (by decide +kernel) (Nat.le_of_ble_eq_true rfl) rfl ?_
  unfold fX_tell at H
  refine R_iload_n (gxd kX6_tell 0 rfl) rfl rfl ?_
  obtain ⟨p1, e2, H⟩ := gbi H
  refine R_callSi (gxd kX6_tell 1 rfl) gm_X_143 wX6_isVariable (by decide) rfl (Nat.le_of_ble_eq_true rfl) (by omega) (fX_isVariable_ok  e2 (d + 1)) ?_
  refine R_if_eq (gxd kX6_tell 2 rfl) (tgt := 18) rfl (fun q => ?_) (fun q => ?_)
  · replace H := gift q H
    refine R_bipush (v := (-2 : Int32)) (gxd kX6_tell 8 rfl) rfl ?_
    obtain rfl := Option.some.inj H
    exact R_iret (gxd kX6_tell 9 rfl) rfl
  · replace H := giff q H
    refine R_iload_n (gxd kX6_tell 3 rfl) rfl rfl ?_
    refine R_if_lt (gxd kX6_tell 4 rfl) (tgt := 18) rfl (fun q => ?_) (fun q => ?_)
    · replace H := gift q H
      refine R_bipush (v := (-2 : Int32)) (gxd kX6_tell 8 rfl) rfl ?_
      obtain rfl := Option.some.inj H
      exact R_iret (gxd kX6_tell 9 rfl) rfl
    · replace H := giff q H
      refine R_iload_n (gxd kX6_tell 5 rfl) rfl rfl ?_
      refine R_sipush (v := (1023 : Int32)) (gxd kX6_tell 6 rfl) rfl ?_
      refine R_icmp_le (gxd kX6_tell 7 rfl) (tgt := 21) rfl (fun q => ?_) (fun q => ?_)
      · replace H := giff q H
        refine R_aload_n (gxd kX6_tell 10 rfl) rfl rfl ?_
        refine R_getr (gxd kX6_tell 11 rfl) gf_X_28 gk_0 (by decide) rfl ?_
        refine R_geti (gxd kX6_tell 12 rfl) gf_X_87 gk_17 (by decide) rfl ?_
        refine R_if_eq (gxd kX6_tell 13 rfl) (tgt := 34) rfl (fun q => ?_) (fun q => ?_)
        · replace H := gift q H
          refine R_aload_n (gxd kX6_tell 16 rfl) rfl rfl ?_
          refine R_getr (gxd kX6_tell 17 rfl) gf_X_35 gk_0 (by decide) rfl ?_
          refine R_geti (gxd kX6_tell 18 rfl) gf_X_146 gk_22 (by decide) rfl ?_
          refine R_bipush (v := (12 : Int32)) (gxd kX6_tell 19 rfl) rfl ?_
          refine R_icmp_lt (gxd kX6_tell 20 rfl) (tgt := 49) rfl (fun q => ?_) (fun q => ?_)
          · replace H := gift q H
            refine R_aload_n (gxd kX6_tell 23 rfl) rfl rfl ?_
            refine R_getr (gxd kX6_tell 24 rfl) gf_X_35 gk_0 (by decide) rfl ?_
            refine R_iload_n (gxd kX6_tell 25 rfl) rfl rfl ?_
            refine R_iload_n (gxd kX6_tell 26 rfl) rfl rfl ?_
            obtain ⟨p3, e4, H⟩ := gbi H
            refine R_callVi (gxd kX6_tell 27 rfl) gm_X_149 wX1_decide (by decide) gk_22 rfl rfl (Nat.le_of_ble_eq_true rfl) (by omega) (fP_decide_ok gP22 e4 (d + 1)) ?_
            refine R_istore_n (gxd kX6_tell 28 rfl) rfl rfl (Nat.le_of_ble_eq_true rfl) rfl ?_
            refine R_aload_n (gxd kX6_tell 29 rfl) rfl rfl ?_
            refine R_getr (gxd kX6_tell 30 rfl) gf_X_28 gk_0 (by decide) rfl ?_
            refine R_iload_n (gxd kX6_tell 31 rfl) rfl rfl ?_
            refine R_iload_n (gxd kX6_tell 32 rfl) rfl rfl ?_
            refine R_bipush (v := (100 : Int32)) (gxd kX6_tell 33 rfl) rfl ?_
            refine R_iload_n (gxd kX6_tell 34 rfl) rfl rfl ?_
            refine R_iadd (gxd kX6_tell 35 rfl) ?_
            obtain ⟨p5, e6, H⟩ := gbi H
            refine R_callVi (gxd kX6_tell 36 rfl) gm_X_153 wX0_narrow (by decide) gk_17 rfl rfl (Nat.le_of_ble_eq_true rfl) (by omega) (fH_narrow_ok gH17 e6 (d + 0)) ?_
            obtain rfl := Option.some.inj H
            exact R_iret (gxd kX6_tell 37 rfl) rfl
          · replace H := giff q H
            refine R_bipush (v := (-4 : Int32)) (gxd kX6_tell 21 rfl) rfl ?_
            obtain rfl := Option.some.inj H
            exact R_iret (gxd kX6_tell 22 rfl) rfl
        · replace H := giff q H
          refine R_bipush (v := (-3 : Int32)) (gxd kX6_tell 14 rfl) rfl ?_
          obtain rfl := Option.some.inj H
          exact R_iret (gxd kX6_tell 15 rfl) rfl
      · replace H := gift q H
        refine R_bipush (v := (-2 : Int32)) (gxd kX6_tell 8 rfl) rfl ?_
        obtain rfl := Option.some.inj H
        exact R_iret (gxd kX6_tell 9 rfl) rfl
def fX_run (h : gH) : Option (Int32 × gH) :=
  (fH_runAll 17 h).bind fun p1 =>
  some (p1.1, p1.2)
theorem fX_run_ok {h : gH} {x : (Int32 × gH)} (H : fX_run  h = some x) (d : Nat) : gC yX6_run cX6_run 1 (some .int) (d + 4) [.ref 0] h (some (.int x.1)) x.2 := by
  refine gC_of (by decide +kernel) (Nat.le_of_ble_eq_true rfl) rfl ?_
  unfold fX_run at H
  refine R_aload_n (gxd kX6_run 0 rfl) rfl rfl ?_
  refine R_getr (gxd kX6_run 1 rfl) gf_X_28 gk_0 (by decide) rfl ?_
  obtain ⟨p1, e2, H⟩ := gbi H
  refine R_callVi (gxd kX6_run 2 rfl) gm_X_160 wX0_runAll (by decide) gk_17 rfl rfl (Nat.le_of_ble_eq_true rfl) (by omega) (fH_runAll_ok gH17 e2 (d + 0)) ?_
  obtain rfl := Option.some.inj H
  exact R_iret (gxd kX6_run 3 rfl) rfl
def fX_level (h : gH) : Option (Int32 × gH) :=
  if (h 17 9) = (0 : Int32) then
    if (h 17 7) = (0 : Int32) then
      if (h 22 6) < (8 : Int32) then
        (fP_open 22 (h 17 5) (h 1 8) h).bind fun p1 =>
        some (p1.1, p1.2)
      else
        some ((-4 : Int32), h)
    else
      some ((-3 : Int32), h)
  else
    some ((-3 : Int32), h)
theorem fX_level_ok {h : gH} {x : (Int32 × gH)} (H : fX_level  h = some x) (d : Nat) : gC yX6_level cX6_level 1 (some .int) (d + 1) [.ref 0] h (some (.int x.1)) x.2 := by
  refine gC_of (by decide +kernel) (Nat.le_of_ble_eq_true rfl) rfl ?_
  unfold fX_level at H
  refine R_aload_n (gxd kX6_level 0 rfl) rfl rfl ?_
  refine R_getr (gxd kX6_level 1 rfl) gf_X_28 gk_0 (by decide) rfl ?_
  refine R_geti (gxd kX6_level 2 rfl) gf_X_87 gk_17 (by decide) rfl ?_
  refine R_if_ne (gxd kX6_level 3 rfl) (tgt := 20) rfl (fun q => ?_) (fun q => ?_)
  · replace H := giff q H
    refine R_bipush (v := (-3 : Int32)) (gxd kX6_level 8 rfl) rfl ?_
    obtain rfl := Option.some.inj H
    exact R_iret (gxd kX6_level 9 rfl) rfl
  · replace H := gift q H
    refine R_aload_n (gxd kX6_level 4 rfl) rfl rfl ?_
    refine R_getr (gxd kX6_level 5 rfl) gf_X_28 gk_0 (by decide) rfl ?_
    refine R_geti (gxd kX6_level 6 rfl) gf_X_104 gk_17 (by decide) rfl ?_
    refine R_if_eq (gxd kX6_level 7 rfl) (tgt := 23) rfl (fun q => ?_) (fun q => ?_)
    · replace H := gift q H
      refine R_aload_n (gxd kX6_level 10 rfl) rfl rfl ?_
      refine R_getr (gxd kX6_level 11 rfl) gf_X_35 gk_0 (by decide) rfl ?_
      refine R_geti (gxd kX6_level 12 rfl) gf_X_163 gk_22 (by decide) rfl ?_
      refine R_bipush (v := (8 : Int32)) (gxd kX6_level 13 rfl) rfl ?_
      refine R_icmp_lt (gxd kX6_level 14 rfl) (tgt := 38) rfl (fun q => ?_) (fun q => ?_)
      · replace H := gift q H
        refine R_aload_n (gxd kX6_level 17 rfl) rfl rfl ?_
        refine R_getr (gxd kX6_level 18 rfl) gf_X_35 gk_0 (by decide) rfl ?_
        refine R_aload_n (gxd kX6_level 19 rfl) rfl rfl ?_
        refine R_getr (gxd kX6_level 20 rfl) gf_X_28 gk_0 (by decide) rfl ?_
        refine R_geti (gxd kX6_level 21 rfl) gf_X_166 gk_17 (by decide) rfl ?_
        refine R_aload_n (gxd kX6_level 22 rfl) rfl rfl ?_
        refine R_getr (gxd kX6_level 23 rfl) gf_X_12 gk_0 (by decide) rfl ?_
        refine R_geti (gxd kX6_level 24 rfl) gf_X_86 gk_1 (by decide) rfl ?_
        obtain ⟨p1, e2, H⟩ := gbi H
        refine R_callVi (gxd kX6_level 25 rfl) gm_X_169 wX1_open (by decide) gk_22 rfl rfl (Nat.le_of_ble_eq_true rfl) (by omega) (fP_open_ok gP22 e2 (d + 0)) ?_
        obtain rfl := Option.some.inj H
        exact R_iret (gxd kX6_level 26 rfl) rfl
      · replace H := giff q H
        refine R_bipush (v := (-4 : Int32)) (gxd kX6_level 15 rfl) rfl ?_
        obtain rfl := Option.some.inj H
        exact R_iret (gxd kX6_level 16 rfl) rfl
    · replace H := giff q H
      refine R_bipush (v := (-3 : Int32)) (gxd kX6_level 8 rfl) rfl ?_
      obtain rfl := Option.some.inj H
      exact R_iret (gxd kX6_level 9 rfl) rfl
def fX_undo (h : gH) : Option (Int32 × gH) :=
  if (0 : Int32) < (h 22 6) then
    (fP_close 22 h).bind fun p1 =>
    gg (gin p1.1 8) <|
    (fH_takeBack 17 (p1.2 25 p1.1.toNatClampNeg) p1.2).bind fun h4 =>
    (fR_all h4).bind fun p6 =>
    gg (gin p1.1 8) <|
    glet (hu p6.2 17 7 (p6.1 &&& (-((1 : Int32) <<< ((p6.2 27 p1.1.toNatClampNeg) &&& 31))))) fun h9 =>
    some (((p1.2 17 5) - (h9 17 5)), h9)
  else
    some ((-3 : Int32), h)
theorem fX_undo_ok {h : gH} {x : (Int32 × gH)} (H : fX_undo  h = some x) (d : Nat) : gC yX6_undo cX6_undo 3 (some .int) (d + 1) [.ref 0] h (some (.int x.1)) x.2 := by
  refine gC_of (by decide +kernel) (Nat.le_of_ble_eq_true rfl) rfl ?_
  unfold fX_undo at H
  refine R_aload_n (gxd kX6_undo 0 rfl) rfl rfl ?_
  refine R_getr (gxd kX6_undo 1 rfl) gf_X_35 gk_0 (by decide) rfl ?_
  refine R_geti (gxd kX6_undo 2 rfl) gf_X_163 gk_22 (by decide) rfl ?_
  refine R_if_gt (gxd kX6_undo 3 rfl) (tgt := 13) rfl (fun q => ?_) (fun q => ?_)
  · replace H := gift q H
    refine R_aload_n (gxd kX6_undo 6 rfl) rfl rfl ?_
    refine R_getr (gxd kX6_undo 7 rfl) gf_X_35 gk_0 (by decide) rfl ?_
    obtain ⟨p1, e2, H⟩ := gbi H
    refine R_callVi (gxd kX6_undo 8 rfl) gm_X_172 wX1_close (by decide) gk_22 rfl rfl (Nat.le_of_ble_eq_true rfl) (by omega) (fP_close_ok gP22 e2 (d + 0)) ?_
    refine R_istore_n (gxd kX6_undo 9 rfl) rfl rfl (Nat.le_of_ble_eq_true rfl) rfl ?_
    refine R_aload_n (gxd kX6_undo 10 rfl) rfl rfl ?_
    refine R_getr (gxd kX6_undo 11 rfl) gf_X_28 gk_0 (by decide) rfl ?_
    refine R_geti (gxd kX6_undo 12 rfl) gf_X_166 gk_17 (by decide) rfl ?_
    refine R_istore_n (gxd kX6_undo 13 rfl) rfl rfl (Nat.le_of_ble_eq_true rfl) rfl ?_
    refine R_aload_n (gxd kX6_undo 14 rfl) rfl rfl ?_
    refine R_getr (gxd kX6_undo 15 rfl) gf_X_28 gk_0 (by decide) rfl ?_
    refine R_aload_n (gxd kX6_undo 16 rfl) rfl rfl ?_
    refine R_getr (gxd kX6_undo 17 rfl) gf_X_35 gk_0 (by decide) rfl ?_
    refine R_getr (gxd kX6_undo 18 rfl) gf_X_175 gk_22 (by decide) rfl ?_
    refine R_iload_n (gxd kX6_undo 19 rfl) rfl rfl ?_
    obtain ⟨b3, H⟩ := ggi H
    have b3 := gin_in b3
    refine R_iald (gxd kX6_undo 20 rfl) gk_25 b3 ?_
    obtain ⟨h4, e5, H⟩ := gbi H
    refine R_callVv (gxd kX6_undo 21 rfl) gm_X_178 wX0_takeBack (by decide) gk_17 rfl rfl (Nat.le_of_ble_eq_true rfl) (by omega) (fH_takeBack_ok gH17 e5 (d + 0)) ?_
    refine R_aload_n (gxd kX6_undo 22 rfl) rfl rfl ?_
    refine R_getr (gxd kX6_undo 23 rfl) gf_X_28 gk_0 (by decide) rfl ?_
    refine R_aload_n (gxd kX6_undo 24 rfl) rfl rfl ?_
    refine R_getr (gxd kX6_undo 25 rfl) gf_X_12 gk_0 (by decide) rfl ?_
    obtain ⟨p6, e7, H⟩ := gbi H
    refine R_callVi (gxd kX6_undo 26 rfl) gm_X_98 wX3_all (by decide) gk_1 rfl rfl (Nat.le_of_ble_eq_true rfl) (by omega) (fR_all_ok  e7 (d + 0)) ?_
    refine R_iconst (v := (1 : Int32)) (gxd kX6_undo 27 rfl) rfl ?_
    refine R_aload_n (gxd kX6_undo 28 rfl) rfl rfl ?_
    refine R_getr (gxd kX6_undo 29 rfl) gf_X_35 gk_0 (by decide) rfl ?_
    refine R_getr (gxd kX6_undo 30 rfl) gf_X_182 gk_22 (by decide) rfl ?_
    refine R_iload_n (gxd kX6_undo 31 rfl) rfl rfl ?_
    obtain ⟨b8, H⟩ := ggi H
    have b8 := gin_in b8
    refine R_iald (gxd kX6_undo 32 rfl) gk_27 b8 ?_
    refine R_ishl (gxd kX6_undo 33 rfl) ?_
    refine R_ineg (gxd kX6_undo 34 rfl) ?_
    refine R_iand (gxd kX6_undo 35 rfl) ?_
    refine R_puti (gxd kX6_undo 36 rfl) gf_X_104 gp_0_7 gk_17 (by decide) rfl ?_
    obtain ⟨h9, e10, H⟩ := glei H
    refine R_heq e10 ?_
    refine R_iload_n (gxd kX6_undo 37 rfl) rfl rfl ?_
    refine R_aload_n (gxd kX6_undo 38 rfl) rfl rfl ?_
    refine R_getr (gxd kX6_undo 39 rfl) gf_X_28 gk_0 (by decide) rfl ?_
    refine R_geti (gxd kX6_undo 40 rfl) gf_X_166 gk_17 (by decide) rfl ?_
    refine R_isub (gxd kX6_undo 41 rfl) ?_
    obtain rfl := Option.some.inj H
    exact R_iret (gxd kX6_undo 42 rfl) rfl
  · replace H := giff q H
    refine R_bipush (v := (-3 : Int32)) (gxd kX6_undo 4 rfl) rfl ?_
    obtain rfl := Option.some.inj H
    exact R_iret (gxd kX6_undo 5 rfl) rfl
def fX_domain (v1 : Int32) (h : gH) : Option (Int32 × gH) :=
  (fX_isVariable v1 h).bind fun p1 =>
  if p1.1 = (0 : Int32) then
    some ((-2 : Int32), p1.2)
  else
    gg (gin v1 9) <|
    some ((p1.2 18 v1.toNatClampNeg), p1.2)
theorem fX_domain_ok {v1 : Int32} {h : gH} {x : (Int32 × gH)} (H : fX_domain v1 h = some x) (d : Nat) : gC yX6_domain cX6_domain 2 (some .int) (d + 1) [.ref 0, .int v1] h (some (.int x.1)) x.2 := by
  refine gC_of (by decide +kernel) (Nat.le_of_ble_eq_true rfl) rfl ?_
  unfold fX_domain at H
  refine R_iload_n (gxd kX6_domain 0 rfl) rfl rfl ?_
  obtain ⟨p1, e2, H⟩ := gbi H
  refine R_callSi (gxd kX6_domain 1 rfl) gm_X_143 wX6_isVariable (by decide) rfl (Nat.le_of_ble_eq_true rfl) (by omega) (fX_isVariable_ok  e2 (d + 0)) ?_
  refine R_if_eq (gxd kX6_domain 2 rfl) (tgt := 19) rfl (fun q => ?_) (fun q => ?_)
  · replace H := gift q H
    refine R_bipush (v := (-2 : Int32)) (gxd kX6_domain 9 rfl) rfl ?_
    obtain rfl := Option.some.inj H
    exact R_iret (gxd kX6_domain 10 rfl) rfl
  · replace H := giff q H
    refine R_aload_n (gxd kX6_domain 3 rfl) rfl rfl ?_
    refine R_getr (gxd kX6_domain 4 rfl) gf_X_28 gk_0 (by decide) rfl ?_
    refine R_getr (gxd kX6_domain 5 rfl) gf_X_122 gk_17 (by decide) rfl ?_
    refine R_iload_n (gxd kX6_domain 6 rfl) rfl rfl ?_
    obtain ⟨b3, H⟩ := ggi H
    have b3 := gin_in b3
    refine R_iald (gxd kX6_domain 7 rfl) gk_18 b3 ?_
    refine R_goto (gxd kX6_domain 8 rfl) (tgt := 21) rfl ?_
    obtain rfl := Option.some.inj H
    exact R_iret (gxd kX6_domain 10 rfl) rfl
def fX_trail_27 (v1 : Int32) (v2 : Int32) (h : gH) : Option (Int32 × gH) :=
  if v2 < (0 : Int32) then
    some ((-2 : Int32), h)
  else
    if (1 : Int32) < v2 then
      some ((-2 : Int32), h)
    else
      if v1 < (0 : Int32) then
        some ((-12 : Int32), h)
      else
        if v1 < (h 17 5) then
          if v2 = (0 : Int32) then
            gg (gin v1 80) <|
            some ((h 20 v1.toNatClampNeg), h)
          else
            gg (gin v1 80) <|
            some ((h 21 v1.toNatClampNeg), h)
        else
          some ((-12 : Int32), h)
theorem fX_trail_27_ok {d : Nat} {v1 : Int32} {v2 : Int32}  {h : gH} {x : (Int32 × gH)} (H : fX_trail_27 v1 v2  h = some x) : gR RX6 cX6_trail 3 (some .int) (d + 1) 27 [.ref 0, .int v1, .int v2] [] h (some (.int x.1)) x.2 := by
  unfold fX_trail_27 at H
  refine R_iload_n (gxd kX6_trail 13 rfl) rfl rfl ?_
  refine R_if_lt (gxd kX6_trail 14 rfl) (tgt := 36) rfl (fun q => ?_) (fun q => ?_)
  · replace H := gift q H
    refine R_bipush (v := (-2 : Int32)) (gxd kX6_trail 18 rfl) rfl ?_
    obtain rfl := Option.some.inj H
    exact R_iret (gxd kX6_trail 19 rfl) rfl
  · replace H := giff q H
    refine R_iload_n (gxd kX6_trail 15 rfl) rfl rfl ?_
    refine R_iconst (v := (1 : Int32)) (gxd kX6_trail 16 rfl) rfl ?_
    refine R_icmp_le (gxd kX6_trail 17 rfl) (tgt := 39) rfl (fun q => ?_) (fun q => ?_)
    · replace H := giff q H
      refine R_iload_n (gxd kX6_trail 20 rfl) rfl rfl ?_
      refine R_if_lt (gxd kX6_trail 21 rfl) (tgt := 54) rfl (fun q => ?_) (fun q => ?_)
      · replace H := gift q H
        refine R_bipush (v := (-12 : Int32)) (gxd kX6_trail 27 rfl) rfl ?_
        obtain rfl := Option.some.inj H
        exact R_iret (gxd kX6_trail 28 rfl) rfl
      · replace H := giff q H
        refine R_iload_n (gxd kX6_trail 22 rfl) rfl rfl ?_
        refine R_aload_n (gxd kX6_trail 23 rfl) rfl rfl ?_
        refine R_getr (gxd kX6_trail 24 rfl) gf_X_28 gk_0 (by decide) rfl ?_
        refine R_geti (gxd kX6_trail 25 rfl) gf_X_166 gk_17 (by decide) rfl ?_
        refine R_icmp_lt (gxd kX6_trail 26 rfl) (tgt := 57) rfl (fun q => ?_) (fun q => ?_)
        · replace H := gift q H
          refine R_iload_n (gxd kX6_trail 29 rfl) rfl rfl ?_
          refine R_if_ne (gxd kX6_trail 30 rfl) (tgt := 73) rfl (fun q => ?_) (fun q => ?_)
          · replace H := giff q H
            refine R_aload_n (gxd kX6_trail 37 rfl) rfl rfl ?_
            refine R_getr (gxd kX6_trail 38 rfl) gf_X_28 gk_0 (by decide) rfl ?_
            refine R_getr (gxd kX6_trail 39 rfl) gf_X_191 gk_17 (by decide) rfl ?_
            refine R_iload_n (gxd kX6_trail 40 rfl) rfl rfl ?_
            obtain ⟨b1, H⟩ := ggi H
            have b1 := gin_in b1
            refine R_iald (gxd kX6_trail 41 rfl) gk_21 b1 ?_
            obtain rfl := Option.some.inj H
            exact R_iret (gxd kX6_trail 42 rfl) rfl
          · replace H := gift q H
            refine R_aload_n (gxd kX6_trail 31 rfl) rfl rfl ?_
            refine R_getr (gxd kX6_trail 32 rfl) gf_X_28 gk_0 (by decide) rfl ?_
            refine R_getr (gxd kX6_trail 33 rfl) gf_X_188 gk_17 (by decide) rfl ?_
            refine R_iload_n (gxd kX6_trail 34 rfl) rfl rfl ?_
            obtain ⟨b2, H⟩ := ggi H
            have b2 := gin_in b2
            refine R_iald (gxd kX6_trail 35 rfl) gk_20 b2 ?_
            refine R_goto (gxd kX6_trail 36 rfl) (tgt := 82) rfl ?_
            obtain rfl := Option.some.inj H
            exact R_iret (gxd kX6_trail 42 rfl) rfl
        · replace H := giff q H
          refine R_bipush (v := (-12 : Int32)) (gxd kX6_trail 27 rfl) rfl ?_
          obtain rfl := Option.some.inj H
          exact R_iret (gxd kX6_trail 28 rfl) rfl
    · replace H := gift q H
      refine R_bipush (v := (-2 : Int32)) (gxd kX6_trail 18 rfl) rfl ?_
      obtain rfl := Option.some.inj H
      exact R_iret (gxd kX6_trail 19 rfl) rfl
def fX_trail (v1 : Int32) (v2 : Int32) (h : gH) : Option (Int32 × gH) :=
  if v2 < (1000 : Int32) then
    fX_trail_27 v1 v2 h
  else
    if v2 < (1080 : Int32) then
      (fH_placeOf 17 (v2 - (1000 : Int32)) h).bind fun p3 =>
      some (p3.1, p3.2)
    else
      fX_trail_27 v1 v2 h
theorem fX_trail_ok {v1 : Int32} {v2 : Int32} {h : gH} {x : (Int32 × gH)} (H : fX_trail v1 v2 h = some x) (d : Nat) : gC yX6_trail cX6_trail 3 (some .int) (d + 1) [.ref 0, .int v1, .int v2] h (some (.int x.1)) x.2 := by
  refine gC_of (by decide +kernel) (Nat.le_of_ble_eq_true rfl) rfl ?_
  unfold fX_trail at H
  refine R_iload_n (gxd kX6_trail 0 rfl) rfl rfl ?_
  refine R_sipush (v := (1000 : Int32)) (gxd kX6_trail 1 rfl) rfl ?_
  refine R_icmp_lt (gxd kX6_trail 2 rfl) (tgt := 27) rfl (fun q => ?_) (fun q => ?_)
  · replace H := gift q H
    exact R_weak (gle_same (gle_same (gle_same gle_nil))) (fX_trail_27_ok  H)
  · replace H := giff q H
    refine R_iload_n (gxd kX6_trail 3 rfl) rfl rfl ?_
    refine R_sipush (v := (1080 : Int32)) (gxd kX6_trail 4 rfl) rfl ?_
    refine R_icmp_ge (gxd kX6_trail 5 rfl) (tgt := 27) rfl (fun q => ?_) (fun q => ?_)
    · replace H := giff q H
      exact R_weak (gle_same (gle_same (gle_same gle_nil))) (fX_trail_27_ok  H)
    · replace H := gift q H
      refine R_aload_n (gxd kX6_trail 6 rfl) rfl rfl ?_
      refine R_getr (gxd kX6_trail 7 rfl) gf_X_28 gk_0 (by decide) rfl ?_
      refine R_iload_n (gxd kX6_trail 8 rfl) rfl rfl ?_
      refine R_sipush (v := (1000 : Int32)) (gxd kX6_trail 9 rfl) rfl ?_
      refine R_isub (gxd kX6_trail 10 rfl) ?_
      obtain ⟨p3, e4, H⟩ := gbi H
      refine R_callVi (gxd kX6_trail 11 rfl) gm_X_185 wX0_placeOf (by decide) gk_17 rfl rfl (Nat.le_of_ble_eq_true rfl) (by omega) (fH_placeOf_ok gH17 e4 (d + 0)) ?_
      obtain rfl := Option.some.inj H
      exact R_iret (gxd kX6_trail 12 rfl) rfl
def fX_isGone (v1 : Int32) (v2 : Int32) (v3 : Int32) (h : gH) : Option (Int32 × gH) :=
  (fR_all h).bind fun p1 =>
  (fH_start 28 v1 p1.1 p1.2).bind fun h3 =>
  (fH_runAll 28 h3).bind fun p5 =>
  if (p5.2 28 9) = (0 : Int32) then
    (fX_isVariable v2 p5.2).bind fun p7 =>
    if p7.1 = (0 : Int32) then
      some ((0 : Int32), p7.2)
    else
      gg (gin v2 9) <|
      if (((p7.2 29 v2.toNatClampNeg) >>> (v3 &&& 31)) &&& (1 : Int32)) = (0 : Int32) then
        some ((1 : Int32), p7.2)
      else
        some ((0 : Int32), p7.2)
  else
    some ((1 : Int32), p5.2)
theorem fX_isGone_ok {v1 : Int32} {v2 : Int32} {v3 : Int32} {h : gH} {x : (Int32 × gH)} (H : fX_isGone v1 v2 v3 h = some x) (d : Nat) : gC yX6_isGone cX6_isGone 4 (some .boolean) (d + 4) [.ref 0, .int v1, .int v2, .int v3] h (some (.int x.1)) x.2 := by
  refine gC_of (by decide +kernel) (Nat.le_of_ble_eq_true rfl) rfl ?_
  unfold fX_isGone at H
  refine R_aload_n (gxd kX6_isGone 0 rfl) rfl rfl ?_
  refine R_getr (gxd kX6_isGone 1 rfl) gf_X_39 gk_0 (by decide) rfl ?_
  refine R_aload_n (gxd kX6_isGone 2 rfl) rfl rfl ?_
  refine R_getr (gxd kX6_isGone 3 rfl) gf_X_35 gk_0 (by decide) rfl ?_
  refine R_iload_n (gxd kX6_isGone 4 rfl) rfl rfl ?_
  refine R_aload_n (gxd kX6_isGone 5 rfl) rfl rfl ?_
  refine R_getr (gxd kX6_isGone 6 rfl) gf_X_12 gk_0 (by decide) rfl ?_
  obtain ⟨p1, e2, H⟩ := gbi H
  refine R_callVi (gxd kX6_isGone 7 rfl) gm_X_98 wX3_all (by decide) gk_1 rfl rfl (Nat.le_of_ble_eq_true rfl) (by omega) (fR_all_ok  e2 (d + 3)) ?_
  obtain ⟨h3, e4, H⟩ := gbi H
  refine R_callVv (gxd kX6_isGone 8 rfl) gm_X_203 wX0_start (by decide) gk_28 rfl rfl (Nat.le_of_ble_eq_true rfl) (by omega) (fH_start_ok gH28 e4 (d + 1)) ?_
  refine R_aload_n (gxd kX6_isGone 9 rfl) rfl rfl ?_
  refine R_getr (gxd kX6_isGone 10 rfl) gf_X_39 gk_0 (by decide) rfl ?_
  obtain ⟨p5, e6, H⟩ := gbi H
  refine R_callVi (gxd kX6_isGone 11 rfl) gm_X_160 wX0_runAll (by decide) gk_28 rfl rfl (Nat.le_of_ble_eq_true rfl) (by omega) (fH_runAll_ok gH28 e6 (d + 0)) ?_
  refine R_pop (gxd kX6_isGone 12 rfl) rfl ?_
  refine R_aload_n (gxd kX6_isGone 13 rfl) rfl rfl ?_
  refine R_getr (gxd kX6_isGone 14 rfl) gf_X_39 gk_0 (by decide) rfl ?_
  refine R_geti (gxd kX6_isGone 15 rfl) gf_X_87 gk_28 (by decide) rfl ?_
  refine R_if_ne (gxd kX6_isGone 16 rfl) (tgt := 60) rfl (fun q => ?_) (fun q => ?_)
  · replace H := giff q H
    refine R_iconst (v := (1 : Int32)) (gxd kX6_isGone 30 rfl) rfl ?_
    refine R_goto (gxd kX6_isGone 31 rfl) (tgt := 65) rfl ?_
    obtain rfl := Option.some.inj H
    exact R_zret (gxd kX6_isGone 33 rfl) rfl (Or.inr rfl)
  · replace H := gift q H
    refine R_iload_n (gxd kX6_isGone 17 rfl) rfl rfl ?_
    obtain ⟨p7, e8, H⟩ := gbi H
    refine R_callSi (gxd kX6_isGone 18 rfl) gm_X_143 wX6_isVariable (by decide) rfl (Nat.le_of_ble_eq_true rfl) (by omega) (fX_isVariable_ok  e8 (d + 3)) ?_
    refine R_if_eq (gxd kX6_isGone 19 rfl) (tgt := 64) rfl (fun q => ?_) (fun q => ?_)
    · replace H := gift q H
      refine R_iconst (v := (0 : Int32)) (gxd kX6_isGone 32 rfl) rfl ?_
      obtain rfl := Option.some.inj H
      exact R_zret (gxd kX6_isGone 33 rfl) rfl (Or.inl rfl)
    · replace H := giff q H
      refine R_aload_n (gxd kX6_isGone 20 rfl) rfl rfl ?_
      refine R_getr (gxd kX6_isGone 21 rfl) gf_X_39 gk_0 (by decide) rfl ?_
      refine R_getr (gxd kX6_isGone 22 rfl) gf_X_122 gk_28 (by decide) rfl ?_
      refine R_iload_n (gxd kX6_isGone 23 rfl) rfl rfl ?_
      obtain ⟨b9, H⟩ := ggi H
      have b9 := gin_in b9
      refine R_iald (gxd kX6_isGone 24 rfl) gk_29 b9 ?_
      refine R_iload_n (gxd kX6_isGone 25 rfl) rfl rfl ?_
      refine R_ishr (gxd kX6_isGone 26 rfl) ?_
      refine R_iconst (v := (1 : Int32)) (gxd kX6_isGone 27 rfl) rfl ?_
      refine R_iand (gxd kX6_isGone 28 rfl) ?_
      refine R_if_ne (gxd kX6_isGone 29 rfl) (tgt := 64) rfl (fun q => ?_) (fun q => ?_)
      · replace H := giff q H
        refine R_iconst (v := (0 : Int32)) (gxd kX6_isGone 32 rfl) rfl ?_
        obtain rfl := Option.some.inj H
        exact R_zret (gxd kX6_isGone 33 rfl) rfl (Or.inl rfl)
      · replace H := gift q H
        refine R_iconst (v := (1 : Int32)) (gxd kX6_isGone 30 rfl) rfl ?_
        refine R_goto (gxd kX6_isGone 31 rfl) (tgt := 65) rfl ?_
        obtain rfl := Option.some.inj H
        exact R_zret (gxd kX6_isGone 33 rfl) rfl (Or.inr rfl)
def fX_isValue (v0 : Int32) (h : gH) : Option (Int32 × gH) :=
  if v0 < (0 : Int32) then
    some ((0 : Int32), h)
  else
    if v0 < (10 : Int32) then
      some ((1 : Int32), h)
    else
      some ((0 : Int32), h)
theorem fX_isValue_ok {v0 : Int32} {h : gH} {x : (Int32 × gH)} (H : fX_isValue v0 h = some x) (d : Nat) : gC yX6_isValue cX6_isValue 1 (some .boolean) (d + 0) [.int v0] h (some (.int x.1)) x.2 := by
  refine gC_of (by decide +kernel) (Nat.le_of_ble_eq_true rfl) rfl ?_
  unfold fX_isValue at H
  refine R_iload_n (gxd kX6_isValue 0 rfl) rfl rfl ?_
  refine R_if_lt (gxd kX6_isValue 1 rfl) (tgt := 14) rfl (fun q => ?_) (fun q => ?_)
  · replace H := gift q H
    refine R_iconst (v := (0 : Int32)) (gxd kX6_isValue 7 rfl) rfl ?_
    obtain rfl := Option.some.inj H
    exact R_zret (gxd kX6_isValue 8 rfl) rfl (Or.inl rfl)
  · replace H := giff q H
    refine R_iload_n (gxd kX6_isValue 2 rfl) rfl rfl ?_
    refine R_bipush (v := (10 : Int32)) (gxd kX6_isValue 3 rfl) rfl ?_
    refine R_icmp_ge (gxd kX6_isValue 4 rfl) (tgt := 14) rfl (fun q => ?_) (fun q => ?_)
    · replace H := giff q H
      refine R_iconst (v := (0 : Int32)) (gxd kX6_isValue 7 rfl) rfl ?_
      obtain rfl := Option.some.inj H
      exact R_zret (gxd kX6_isValue 8 rfl) rfl (Or.inl rfl)
    · replace H := gift q H
      refine R_iconst (v := (1 : Int32)) (gxd kX6_isValue 5 rfl) rfl ?_
      refine R_goto (gxd kX6_isValue 6 rfl) (tgt := 15) rfl ?_
      obtain rfl := Option.some.inj H
      exact R_zret (gxd kX6_isValue 8 rfl) rfl (Or.inr rfl)
def fX_why_57 (v1 : Int32) (v2 : Int32) : Nat → Int32 → Int32 → gH → Option (Int32 × gH)
  | 0, _, _, _ => none
  | n + 1, v4, v5, h =>
    if v5 < (h 22 5) then
      (fX_isGone (v4 &&& (((1 : Int32) <<< (v5 &&& 31)) ^^^ (-1 : Int32))) v1 v2 h).bind fun p5 =>
      if p5.1 = (0 : Int32) then
        fX_why_57 v1 v2 n v4 (v5 + (1 : Int32)) p5.2
      else
        fX_why_57 v1 v2 n (v4 &&& (((1 : Int32) <<< (v5 &&& 31)) ^^^ (-1 : Int32))) (v5 + (1 : Int32)) p5.2
    else
      some (v4, h)
theorem fX_why_57_ok {d : Nat} {v1 : Int32} {v2 : Int32}  : ∀ (n : Nat) (v4 : Int32) (v5 : Int32) (h : gH) (x : (Int32 × gH)), fX_why_57 v1 v2 n v4 v5 h = some x → gR RX6 cX6_why 7 (some .int) (d + 5) 57 [.ref 0, .int v1, .int v2, .null, .int v4, .int v5, .null] [] h (some (.int x.1)) x.2 := by
  intro n
  induction n with
  | zero => intro v4 v5 h x  H; exact g0 H
  | succ n ih =>
    intro v4 v5 h x  H
    unfold fX_why_57 at H
    refine R_iload (gxd kX6_why 31 rfl) rfl ?_
    refine R_aload_n (gxd kX6_why 32 rfl) rfl rfl ?_
    refine R_getr (gxd kX6_why 33 rfl) gf_X_35 gk_0 (by decide) rfl ?_
    refine R_geti (gxd kX6_why 34 rfl) gf_X_146 gk_22 (by decide) rfl ?_
    refine R_icmp_ge (gxd kX6_why 35 rfl) (tgt := 101) rfl (fun q => ?_) (fun q => ?_)
    · replace H := giff q H
      refine R_iload (gxd kX6_why 54 rfl) rfl ?_
      obtain rfl := Option.some.inj H
      exact R_iret (gxd kX6_why 55 rfl) rfl
    · replace H := gift q H
      refine R_iload (gxd kX6_why 36 rfl) rfl ?_
      refine R_iconst (v := (1 : Int32)) (gxd kX6_why 37 rfl) rfl ?_
      refine R_iload (gxd kX6_why 38 rfl) rfl ?_
      refine R_ishl (gxd kX6_why 39 rfl) ?_
      refine R_iconst (v := (-1 : Int32)) (gxd kX6_why 40 rfl) rfl ?_
      refine R_ixor (gxd kX6_why 41 rfl) ?_
      refine R_iand (gxd kX6_why 42 rfl) ?_
      refine R_istore (gxd kX6_why 43 rfl) rfl (Nat.le_of_ble_eq_true rfl) rfl ?_
      refine R_aload_n (gxd kX6_why 44 rfl) rfl rfl ?_
      refine R_iload (gxd kX6_why 45 rfl) rfl ?_
      refine R_iload_n (gxd kX6_why 46 rfl) rfl rfl ?_
      refine R_iload_n (gxd kX6_why 47 rfl) rfl rfl ?_
      obtain ⟨p5, e6, H⟩ := gbi H
      refine R_callVi (gxd kX6_why 48 rfl) gm_X_199 wX6_isGone (by decide) gk_0 rfl rfl (Nat.le_of_ble_eq_true rfl) (by omega) (fX_isGone_ok  e6 (d + 0)) ?_
      refine R_if_eq (gxd kX6_why 49 rfl) (tgt := 95) rfl (fun q => ?_) (fun q => ?_)
      · replace H := gift q H
        refine R_iinc (v := (v5 + (1 : Int32))) (gxd kX6_why 52 rfl) rfl rfl rfl (Nat.le_of_ble_eq_true rfl) rfl ?_
        refine R_goto (gxd kX6_why 53 rfl) (tgt := 57) rfl ?_
        exact R_weak (gle_same (gle_same (gle_same (gle_null (gle_same (gle_same (gle_null gle_nil))))))) (ih _ _ _ _  H)
      · replace H := giff q H
        refine R_iload (gxd kX6_why 50 rfl) rfl ?_
        refine R_istore (gxd kX6_why 51 rfl) rfl (Nat.le_of_ble_eq_true rfl) rfl ?_
        refine R_iinc (v := (v5 + (1 : Int32))) (gxd kX6_why 52 rfl) rfl rfl rfl (Nat.le_of_ble_eq_true rfl) rfl ?_
        refine R_goto (gxd kX6_why 53 rfl) (tgt := 57) rfl ?_
        exact R_weak (gle_same (gle_same (gle_same (gle_null (gle_same (gle_same (gle_null gle_nil))))))) (ih _ _ _ _  H)
def fX_why_32 (v1 : Int32) (v2 : Int32) (h : gH) : Option (Int32 × gH) :=
  (fP_all 22 h).bind fun p1 =>
  (fX_isGone p1.1 v1 v2 p1.2).bind fun p3 =>
  if p3.1 = (0 : Int32) then
    some ((-1 : Int32), p3.2)
  else
    fX_why_57 v1 v2 gfu p1.1 (0 : Int32) p3.2
theorem fX_why_32_ok {d : Nat} {v1 : Int32} {v2 : Int32}  {h : gH} {x : (Int32 × gH)} (H : fX_why_32 v1 v2  h = some x) : gR RX6 cX6_why 7 (some .int) (d + 5) 32 [.ref 0, .int v1, .int v2, .null, .null, .null, .null] [] h (some (.int x.1)) x.2 := by
  unfold fX_why_32 at H
  refine R_aload_n (gxd kX6_why 17 rfl) rfl rfl ?_
  refine R_getr (gxd kX6_why 18 rfl) gf_X_35 gk_0 (by decide) rfl ?_
  obtain ⟨p1, e2, H⟩ := gbi H
  refine R_callVi (gxd kX6_why 19 rfl) gm_X_198 wX1_all (by decide) gk_22 rfl rfl (Nat.le_of_ble_eq_true rfl) (by omega) (fP_all_ok gP22 e2 (d + 4)) ?_
  refine R_istore (gxd kX6_why 20 rfl) rfl (Nat.le_of_ble_eq_true rfl) rfl ?_
  refine R_aload_n (gxd kX6_why 21 rfl) rfl rfl ?_
  refine R_iload (gxd kX6_why 22 rfl) rfl ?_
  refine R_iload_n (gxd kX6_why 23 rfl) rfl rfl ?_
  refine R_iload_n (gxd kX6_why 24 rfl) rfl rfl ?_
  obtain ⟨p3, e4, H⟩ := gbi H
  refine R_callVi (gxd kX6_why 25 rfl) gm_X_199 wX6_isGone (by decide) gk_0 rfl rfl (Nat.le_of_ble_eq_true rfl) (by omega) (fX_isGone_ok  e4 (d + 0)) ?_
  refine R_if_ne (gxd kX6_why 26 rfl) (tgt := 54) rfl (fun q => ?_) (fun q => ?_)
  · replace H := giff q H
    refine R_iconst (v := (0 : Int32)) (gxd kX6_why 29 rfl) rfl ?_
    refine R_istore (gxd kX6_why 30 rfl) rfl (Nat.le_of_ble_eq_true rfl) rfl ?_
    exact R_weak (gle_same (gle_same (gle_same (gle_null (gle_same (gle_same (gle_null gle_nil))))))) (fX_why_57_ok  gfu _ _ _ _  H)
  · replace H := gift q H
    refine R_iconst (v := (-1 : Int32)) (gxd kX6_why 27 rfl) rfl ?_
    obtain rfl := Option.some.inj H
    exact R_iret (gxd kX6_why 28 rfl) rfl
def fX_why_10 (v1 : Int32) (v2 : Int32) (s0 : Int32) (h : gH) : Option (Int32 × gH) :=
  if s0 = (0 : Int32) then
    (fX_isVariable v1 h).bind fun p7 =>
    if p7.1 = (0 : Int32) then
      some ((-2 : Int32), p7.2)
    else
      (fX_isValue v2 p7.2).bind fun p9 =>
      if p9.1 = (0 : Int32) then
        some ((-2 : Int32), p9.2)
      else
        fX_why_32 v1 v2 p9.2
  else
    fX_why_32 v1 v2 h
theorem fX_why_10_ok {d : Nat} {v1 : Int32} {v2 : Int32} {s0 : Int32}  {h : gH} {x : (Int32 × gH)} (H : fX_why_10 v1 v2 s0 h = some x) : gR RX6 cX6_why 7 (some .int) (d + 5) 10 [.ref 0, .int v1, .int v2, .null, .null, .null, .null] [.int s0] h (some (.int x.1)) x.2 := by
  unfold fX_why_10 at H
  refine R_istore_n (gxd kX6_why 6 rfl) rfl rfl (Nat.le_of_ble_eq_true rfl) rfl ?_
  refine R_iload_n (gxd kX6_why 7 rfl) rfl rfl ?_
  refine R_if_ne (gxd kX6_why 8 rfl) (tgt := 32) rfl (fun q => ?_) (fun q => ?_)
  · replace H := giff q H
    exact R_weak (gle_same (gle_same (gle_same (gle_null (gle_null (gle_null (gle_null gle_nil))))))) (fX_why_32_ok  H)
  · replace H := gift q H
    refine R_iload_n (gxd kX6_why 9 rfl) rfl rfl ?_
    obtain ⟨p7, e8, H⟩ := gbi H
    refine R_callSi (gxd kX6_why 10 rfl) gm_X_143 wX6_isVariable (by decide) rfl (Nat.le_of_ble_eq_true rfl) (by omega) (fX_isVariable_ok  e8 (d + 4)) ?_
    refine R_if_eq (gxd kX6_why 11 rfl) (tgt := 29) rfl (fun q => ?_) (fun q => ?_)
    · replace H := gift q H
      refine R_bipush (v := (-2 : Int32)) (gxd kX6_why 15 rfl) rfl ?_
      obtain rfl := Option.some.inj H
      exact R_iret (gxd kX6_why 16 rfl) rfl
    · replace H := giff q H
      refine R_iload_n (gxd kX6_why 12 rfl) rfl rfl ?_
      obtain ⟨p9, e10, H⟩ := gbi H
      refine R_callSi (gxd kX6_why 13 rfl) gm_X_136 wX6_isValue (by decide) rfl (Nat.le_of_ble_eq_true rfl) (by omega) (fX_isValue_ok  e10 (d + 4)) ?_
      refine R_if_ne (gxd kX6_why 14 rfl) (tgt := 32) rfl (fun q => ?_) (fun q => ?_)
      · replace H := giff q H
        exact R_weak (gle_same (gle_same (gle_same (gle_null (gle_null (gle_null (gle_null gle_nil))))))) (fX_why_32_ok  H)
      · replace H := gift q H
        refine R_bipush (v := (-2 : Int32)) (gxd kX6_why 15 rfl) rfl ?_
        obtain rfl := Option.some.inj H
        exact R_iret (gxd kX6_why 16 rfl) rfl
def fX_why (v1 : Int32) (v2 : Int32) (h : gH) : Option (Int32 × gH) :=
  if v1 = (-1 : Int32) then
    fX_why_10 v1 v2 (1 : Int32) h
  else
    fX_why_10 v1 v2 (0 : Int32) h
theorem fX_why_ok {v1 : Int32} {v2 : Int32} {h : gH} {x : (Int32 × gH)} (H : fX_why v1 v2 h = some x) (d : Nat) : gC yX6_why cX6_why 7 (some .int) (d + 5) [.ref 0, .int v1, .int v2] h (some (.int x.1)) x.2 := by
  refine gC_of (by decide +kernel) (Nat.le_of_ble_eq_true rfl) rfl ?_
  unfold fX_why at H
  refine R_iload_n (gxd kX6_why 0 rfl) rfl rfl ?_
  refine R_iconst (v := (-1 : Int32)) (gxd kX6_why 1 rfl) rfl ?_
  refine R_icmp_ne (gxd kX6_why 2 rfl) (tgt := 9) rfl (fun q => ?_) (fun q => ?_)
  · replace H := giff q H
    refine R_iconst (v := (0 : Int32)) (gxd kX6_why 5 rfl) rfl ?_
    exact R_weak (gle_same (gle_same (gle_same (gle_null (gle_null (gle_null (gle_null gle_nil))))))) (fX_why_10_ok  H)
  · replace H := gift q H
    refine R_iconst (v := (1 : Int32)) (gxd kX6_why 3 rfl) rfl ?_
    refine R_goto (gxd kX6_why 4 rfl) (tgt := 10) rfl ?_
    exact R_weak (gle_same (gle_same (gle_same (gle_null (gle_null (gle_null (gle_null gle_nil))))))) (fX_why_10_ok  H)
def fX_isChoice (v0 : Int32) (v1 : Int32) (h : gH) : Option (Int32 × gH) :=
  if v0 < (0 : Int32) then
    some ((0 : Int32), h)
  else
    if v0 < (4 : Int32) then
      if v1 < (0 : Int32) then
        some ((0 : Int32), h)
      else
        if v1 < (3 : Int32) then
          some ((1 : Int32), h)
        else
          some ((0 : Int32), h)
    else
      some ((0 : Int32), h)
theorem fX_isChoice_ok {v0 : Int32} {v1 : Int32} {h : gH} {x : (Int32 × gH)} (H : fX_isChoice v0 v1 h = some x) (d : Nat) : gC yX6_isChoice cX6_isChoice 2 (some .boolean) (d + 0) [.int v0, .int v1] h (some (.int x.1)) x.2 := by
  refine gC_of (by decide +kernel) (Nat.le_of_ble_eq_true rfl) rfl ?_
  unfold fX_isChoice at H
  refine R_iload_n (gxd kX6_isChoice 0 rfl) rfl rfl ?_
  refine R_if_lt (gxd kX6_isChoice 1 rfl) (tgt := 22) rfl (fun q => ?_) (fun q => ?_)
  · replace H := gift q H
    refine R_iconst (v := (0 : Int32)) (gxd kX6_isChoice 12 rfl) rfl ?_
    obtain rfl := Option.some.inj H
    exact R_zret (gxd kX6_isChoice 13 rfl) rfl (Or.inl rfl)
  · replace H := giff q H
    refine R_iload_n (gxd kX6_isChoice 2 rfl) rfl rfl ?_
    refine R_iconst (v := (4 : Int32)) (gxd kX6_isChoice 3 rfl) rfl ?_
    refine R_icmp_ge (gxd kX6_isChoice 4 rfl) (tgt := 22) rfl (fun q => ?_) (fun q => ?_)
    · replace H := giff q H
      refine R_iconst (v := (0 : Int32)) (gxd kX6_isChoice 12 rfl) rfl ?_
      obtain rfl := Option.some.inj H
      exact R_zret (gxd kX6_isChoice 13 rfl) rfl (Or.inl rfl)
    · replace H := gift q H
      refine R_iload_n (gxd kX6_isChoice 5 rfl) rfl rfl ?_
      refine R_if_lt (gxd kX6_isChoice 6 rfl) (tgt := 22) rfl (fun q => ?_) (fun q => ?_)
      · replace H := gift q H
        refine R_iconst (v := (0 : Int32)) (gxd kX6_isChoice 12 rfl) rfl ?_
        obtain rfl := Option.some.inj H
        exact R_zret (gxd kX6_isChoice 13 rfl) rfl (Or.inl rfl)
      · replace H := giff q H
        refine R_iload_n (gxd kX6_isChoice 7 rfl) rfl rfl ?_
        refine R_iconst (v := (3 : Int32)) (gxd kX6_isChoice 8 rfl) rfl ?_
        refine R_icmp_ge (gxd kX6_isChoice 9 rfl) (tgt := 22) rfl (fun q => ?_) (fun q => ?_)
        · replace H := giff q H
          refine R_iconst (v := (0 : Int32)) (gxd kX6_isChoice 12 rfl) rfl ?_
          obtain rfl := Option.some.inj H
          exact R_zret (gxd kX6_isChoice 13 rfl) rfl (Or.inl rfl)
        · replace H := gift q H
          refine R_iconst (v := (1 : Int32)) (gxd kX6_isChoice 10 rfl) rfl ?_
          refine R_goto (gxd kX6_isChoice 11 rfl) (tgt := 23) rfl ?_
          obtain rfl := Option.some.inj H
          exact R_zret (gxd kX6_isChoice 13 rfl) rfl (Or.inr rfl)
def fX_search_58 (v4 : Int32) (s1 : Int32) (s2 : Int32) (s3 : Int32) (h : gH) : Option (Int32 × gH) :=
  (fS_go s1 s2 s3 (100 : Int32) (0 : Int32) h).bind fun h5 =>
  if (h5 38 14) = (0 : Int32) then
    if v4 = (0 : Int32) then
      if (0 : Int32) < (h5 38 13) then
        (fS_digits h5).bind fun p7 =>
        some (p7.1, p7.2)
      else
        some ((-1 : Int32), h5)
    else
    if v4 = (1 : Int32) then
      some ((h5 38 10), h5)
    else
    if v4 = (2 : Int32) then
      some ((h5 38 11), h5)
    else
      some ((h5 38 12), h5)
  else
    some ((-6 : Int32), h5)
theorem fX_search_58_ok {d : Nat} {v4 : Int32} {s1 : Int32} {s2 : Int32} {s3 : Int32}  {h : gH} {x : (Int32 × gH)} (H : fX_search_58 v4 s1 s2 s3 h = some x) : gR RX6 cX6_search 5 (some .int) (d + 6) 58 [.ref 0, .null, .null, .null, .int v4] [.int s3, .int s2, .int s1, .ref 38] h (some (.int x.1)) x.2 := by
  unfold fX_search_58 at H
  refine R_bipush (v := (100 : Int32)) (gxd kX6_search 31 rfl) rfl ?_
  refine R_iconst (v := (0 : Int32)) (gxd kX6_search 32 rfl) rfl ?_
  obtain ⟨h5, e6, H⟩ := gbi H
  refine R_callVv (gxd kX6_search 33 rfl) gm_X_221 wX4_go (by decide) gk_38 rfl rfl (Nat.le_of_ble_eq_true rfl) (by omega) (fS_go_ok  e6 (d + 0)) ?_
  refine R_aload_n (gxd kX6_search 34 rfl) rfl rfl ?_
  refine R_getr (gxd kX6_search 35 rfl) gf_X_50 gk_0 (by decide) rfl ?_
  refine R_geti (gxd kX6_search 36 rfl) gf_X_225 gk_38 (by decide) rfl ?_
  refine R_if_eq (gxd kX6_search 37 rfl) (tgt := 77) rfl (fun q => ?_) (fun q => ?_)
  · replace H := gift q H
    refine R_iload (gxd kX6_search 40 rfl) rfl ?_
    by_cases q0 : v4 = (0 : Int32)
    · replace H := gift q0 H
      refine R_tableIn (gxd kX6_search 41 rfl) (by rw [q0]; decide) (by rw [q0]; decide) (off := 25) (tgt := 104) (by rw [q0]; decide) rfl ?_
      refine R_aload_n (gxd kX6_search 42 rfl) rfl rfl ?_
      refine R_getr (gxd kX6_search 43 rfl) gf_X_50 gk_0 (by decide) rfl ?_
      refine R_geti (gxd kX6_search 44 rfl) gf_X_228 gk_38 (by decide) rfl ?_
      refine R_if_le (gxd kX6_search 45 rfl) (tgt := 124) rfl (fun q => ?_) (fun q => ?_)
      · replace H := giff q H
        refine R_iconst (v := (-1 : Int32)) (gxd kX6_search 50 rfl) rfl ?_
        obtain rfl := Option.some.inj H
        exact R_iret (gxd kX6_search 51 rfl) rfl
      · replace H := gift q H
        refine R_aload_n (gxd kX6_search 46 rfl) rfl rfl ?_
        refine R_getr (gxd kX6_search 47 rfl) gf_X_50 gk_0 (by decide) rfl ?_
        obtain ⟨p7, e8, H⟩ := gbi H
        refine R_callVi (gxd kX6_search 48 rfl) gm_X_231 wX4_digits (by decide) gk_38 rfl rfl (Nat.le_of_ble_eq_true rfl) (by omega) (fS_digits_ok  e8 (d + 5)) ?_
        refine R_goto (gxd kX6_search 49 rfl) (tgt := 125) rfl ?_
        obtain rfl := Option.some.inj H
        exact R_iret (gxd kX6_search 51 rfl) rfl
    replace H := giff q0 H
    by_cases q1 : v4 = (1 : Int32)
    · replace H := gift q1 H
      refine R_tableIn (gxd kX6_search 41 rfl) (by rw [q1]; decide) (by rw [q1]; decide) (off := 47) (tgt := 126) (by rw [q1]; decide) rfl ?_
      refine R_aload_n (gxd kX6_search 52 rfl) rfl rfl ?_
      refine R_getr (gxd kX6_search 53 rfl) gf_X_50 gk_0 (by decide) rfl ?_
      refine R_geti (gxd kX6_search 54 rfl) gf_X_234 gk_38 (by decide) rfl ?_
      obtain rfl := Option.some.inj H
      exact R_iret (gxd kX6_search 55 rfl) rfl
    replace H := giff q1 H
    by_cases q2 : v4 = (2 : Int32)
    · replace H := gift q2 H
      refine R_tableIn (gxd kX6_search 41 rfl) (by rw [q2]; decide) (by rw [q2]; decide) (off := 55) (tgt := 134) (by rw [q2]; decide) rfl ?_
      refine R_aload_n (gxd kX6_search 56 rfl) rfl rfl ?_
      refine R_getr (gxd kX6_search 57 rfl) gf_X_50 gk_0 (by decide) rfl ?_
      refine R_geti (gxd kX6_search 58 rfl) gf_X_237 gk_38 (by decide) rfl ?_
      obtain rfl := Option.some.inj H
      exact R_iret (gxd kX6_search 59 rfl) rfl
    replace H := giff q2 H
    refine R_tableOut (gxd kX6_search 41 rfl) (tgt := 142) (by have z0 := lv_neT q0 (a := 0) (by decide); have z1 := lv_neT q1 (a := 1) (by decide); have z2 := lv_neT q2 (a := 2) (by decide); omega) rfl ?_
    refine R_aload_n (gxd kX6_search 60 rfl) rfl rfl ?_
    refine R_getr (gxd kX6_search 61 rfl) gf_X_50 gk_0 (by decide) rfl ?_
    refine R_geti (gxd kX6_search 62 rfl) gf_X_240 gk_38 (by decide) rfl ?_
    obtain rfl := Option.some.inj H
    exact R_iret (gxd kX6_search 63 rfl) rfl
  · replace H := giff q H
    refine R_bipush (v := (-6 : Int32)) (gxd kX6_search 38 rfl) rfl ?_
    obtain rfl := Option.some.inj H
    exact R_iret (gxd kX6_search 39 rfl) rfl
def fX_search (v1 : Int32) (v2 : Int32) (v3 : Int32) (v4 : Int32) (h : gH) : Option (Int32 × gH) :=
  (fX_isChoice v1 v2 h).bind fun p1 =>
  if p1.1 = (0 : Int32) then
    some ((-2 : Int32), p1.2)
  else
    if v3 < (0 : Int32) then
      some ((-2 : Int32), p1.2)
    else
      if (1 : Int32) < v3 then
        some ((-2 : Int32), p1.2)
      else
        if v4 < (0 : Int32) then
          some ((-2 : Int32), p1.2)
        else
          if (3 : Int32) < v4 then
            some ((-2 : Int32), p1.2)
          else
            (fH_become 28 17 p1.2).bind fun h3 =>
            if v3 = (1 : Int32) then
              fX_search_58 v4 v1 v2 (1 : Int32) h3
            else
              fX_search_58 v4 v1 v2 (0 : Int32) h3
theorem fX_search_ok {v1 : Int32} {v2 : Int32} {v3 : Int32} {v4 : Int32} {h : gH} {x : (Int32 × gH)} (H : fX_search v1 v2 v3 v4 h = some x) (d : Nat) : gC yX6_search cX6_search 5 (some .int) (d + 6) [.ref 0, .int v1, .int v2, .int v3, .int v4] h (some (.int x.1)) x.2 := by
  refine gC_of (by decide +kernel) (Nat.le_of_ble_eq_true rfl) rfl ?_
  unfold fX_search at H
  refine R_iload_n (gxd kX6_search 0 rfl) rfl rfl ?_
  refine R_iload_n (gxd kX6_search 1 rfl) rfl rfl ?_
  obtain ⟨p1, e2, H⟩ := gbi H
  refine R_callSi (gxd kX6_search 2 rfl) gm_X_213 wX6_isChoice (by decide) rfl (Nat.le_of_ble_eq_true rfl) (by omega) (fX_isChoice_ok  e2 (d + 5)) ?_
  refine R_if_eq (gxd kX6_search 3 rfl) (tgt := 28) rfl (fun q => ?_) (fun q => ?_)
  · replace H := gift q H
    refine R_bipush (v := (-2 : Int32)) (gxd kX6_search 14 rfl) rfl ?_
    obtain rfl := Option.some.inj H
    exact R_iret (gxd kX6_search 15 rfl) rfl
  · replace H := giff q H
    refine R_iload_n (gxd kX6_search 4 rfl) rfl rfl ?_
    refine R_if_lt (gxd kX6_search 5 rfl) (tgt := 28) rfl (fun q => ?_) (fun q => ?_)
    · replace H := gift q H
      refine R_bipush (v := (-2 : Int32)) (gxd kX6_search 14 rfl) rfl ?_
      obtain rfl := Option.some.inj H
      exact R_iret (gxd kX6_search 15 rfl) rfl
    · replace H := giff q H
      refine R_iload_n (gxd kX6_search 6 rfl) rfl rfl ?_
      refine R_iconst (v := (1 : Int32)) (gxd kX6_search 7 rfl) rfl ?_
      refine R_icmp_gt (gxd kX6_search 8 rfl) (tgt := 28) rfl (fun q => ?_) (fun q => ?_)
      · replace H := gift q H
        refine R_bipush (v := (-2 : Int32)) (gxd kX6_search 14 rfl) rfl ?_
        obtain rfl := Option.some.inj H
        exact R_iret (gxd kX6_search 15 rfl) rfl
      · replace H := giff q H
        refine R_iload (gxd kX6_search 9 rfl) rfl ?_
        refine R_if_lt (gxd kX6_search 10 rfl) (tgt := 28) rfl (fun q => ?_) (fun q => ?_)
        · replace H := gift q H
          refine R_bipush (v := (-2 : Int32)) (gxd kX6_search 14 rfl) rfl ?_
          obtain rfl := Option.some.inj H
          exact R_iret (gxd kX6_search 15 rfl) rfl
        · replace H := giff q H
          refine R_iload (gxd kX6_search 11 rfl) rfl ?_
          refine R_iconst (v := (3 : Int32)) (gxd kX6_search 12 rfl) rfl ?_
          refine R_icmp_le (gxd kX6_search 13 rfl) (tgt := 31) rfl (fun q => ?_) (fun q => ?_)
          · replace H := giff q H
            refine R_aload_n (gxd kX6_search 16 rfl) rfl rfl ?_
            refine R_getr (gxd kX6_search 17 rfl) gf_X_39 gk_0 (by decide) rfl ?_
            refine R_aload_n (gxd kX6_search 18 rfl) rfl rfl ?_
            refine R_getr (gxd kX6_search 19 rfl) gf_X_28 gk_0 (by decide) rfl ?_
            obtain ⟨h3, e4, H⟩ := gbi H
            refine R_callVv (gxd kX6_search 20 rfl) gm_X_217 wX0_become (by decide) gk_28 rfl rfl (Nat.le_of_ble_eq_true rfl) (by omega) (fH_become_ok gH28 gH17 e4 (d + 4)) ?_
            refine R_aload_n (gxd kX6_search 21 rfl) rfl rfl ?_
            refine R_getr (gxd kX6_search 22 rfl) gf_X_50 gk_0 (by decide) rfl ?_
            refine R_iload_n (gxd kX6_search 23 rfl) rfl rfl ?_
            refine R_iload_n (gxd kX6_search 24 rfl) rfl rfl ?_
            refine R_iload_n (gxd kX6_search 25 rfl) rfl rfl ?_
            refine R_iconst (v := (1 : Int32)) (gxd kX6_search 26 rfl) rfl ?_
            refine R_icmp_ne (gxd kX6_search 27 rfl) (tgt := 57) rfl (fun q => ?_) (fun q => ?_)
            · replace H := giff q H
              refine R_iconst (v := (0 : Int32)) (gxd kX6_search 30 rfl) rfl ?_
              exact R_weak (gle_same (gle_null (gle_null (gle_null (gle_same gle_nil))))) (fX_search_58_ok  H)
            · replace H := gift q H
              refine R_iconst (v := (1 : Int32)) (gxd kX6_search 28 rfl) rfl ?_
              refine R_goto (gxd kX6_search 29 rfl) (tgt := 58) rfl ?_
              exact R_weak (gle_same (gle_null (gle_null (gle_null (gle_same gle_nil))))) (fX_search_58_ok  H)
          · replace H := gift q H
            refine R_bipush (v := (-2 : Int32)) (gxd kX6_search 14 rfl) rfl ?_
            obtain rfl := Option.some.inj H
            exact R_iret (gxd kX6_search 15 rfl) rfl
def fX_solutions (h : gH) : Option (Int64 × gH) :=
  (fH_become 28 17 h).bind fun h1 =>
  (fS_go (0 : Int32) (0 : Int32) (0 : Int32) (300 : Int32) (1 : Int32) h1).bind fun h3 =>
  if (h3 38 14) = (0 : Int32) then
    some ((h3 38 13).toInt64, h3)
  else
    some ((-4611686018427387904 : Int64), h3)
theorem fX_solutions_ok {h : gH} {x : (Int64 × gH)} (H : fX_solutions  h = some x) (d : Nat) : gC yX6_solutions cX6_solutions 1 (some .long) (d + 6) [.ref 0] h (some (.long x.1)) x.2 := by
  refine gC_of (by decide +kernel) (Nat.le_of_ble_eq_true rfl) rfl ?_
  unfold fX_solutions at H
  refine R_aload_n (gxd kX6_solutions 0 rfl) rfl rfl ?_
  refine R_getr (gxd kX6_solutions 1 rfl) gf_X_39 gk_0 (by decide) rfl ?_
  refine R_aload_n (gxd kX6_solutions 2 rfl) rfl rfl ?_
  refine R_getr (gxd kX6_solutions 3 rfl) gf_X_28 gk_0 (by decide) rfl ?_
  obtain ⟨h1, e2, H⟩ := gbi H
  refine R_callVv (gxd kX6_solutions 4 rfl) gm_X_217 wX0_become (by decide) gk_28 rfl rfl (Nat.le_of_ble_eq_true rfl) (by omega) (fH_become_ok gH28 gH17 e2 (d + 4)) ?_
  refine R_aload_n (gxd kX6_solutions 5 rfl) rfl rfl ?_
  refine R_getr (gxd kX6_solutions 6 rfl) gf_X_50 gk_0 (by decide) rfl ?_
  refine R_iconst (v := (0 : Int32)) (gxd kX6_solutions 7 rfl) rfl ?_
  refine R_iconst (v := (0 : Int32)) (gxd kX6_solutions 8 rfl) rfl ?_
  refine R_iconst (v := (0 : Int32)) (gxd kX6_solutions 9 rfl) rfl ?_
  refine R_sipush (v := (300 : Int32)) (gxd kX6_solutions 10 rfl) rfl ?_
  refine R_iconst (v := (1 : Int32)) (gxd kX6_solutions 11 rfl) rfl ?_
  obtain ⟨h3, e4, H⟩ := gbi H
  refine R_callVv (gxd kX6_solutions 12 rfl) gm_X_221 wX4_go (by decide) gk_38 rfl rfl (Nat.le_of_ble_eq_true rfl) (by omega) (fS_go_ok  e4 (d + 0)) ?_
  refine R_aload_n (gxd kX6_solutions 13 rfl) rfl rfl ?_
  refine R_getr (gxd kX6_solutions 14 rfl) gf_X_50 gk_0 (by decide) rfl ?_
  refine R_geti (gxd kX6_solutions 15 rfl) gf_X_225 gk_38 (by decide) rfl ?_
  refine R_if_eq (gxd kX6_solutions 16 rfl) (tgt := 41) rfl (fun q => ?_) (fun q => ?_)
  · replace H := gift q H
    refine R_aload_n (gxd kX6_solutions 19 rfl) rfl rfl ?_
    refine R_getr (gxd kX6_solutions 20 rfl) gf_X_50 gk_0 (by decide) rfl ?_
    refine R_geti (gxd kX6_solutions 21 rfl) gf_X_228 gk_38 (by decide) rfl ?_
    refine R_i2l (gxd kX6_solutions 22 rfl) ?_
    obtain rfl := Option.some.inj H
    exact R_lret (gxd kX6_solutions 23 rfl) rfl
  · replace H := giff q H
    refine R_ldc2 (v := (-4611686018427387904 : Int64)) (gxd kX6_solutions 17 rfl) gc_X_243 ?_
    refine R_goto (gxd kX6_solutions 18 rfl) (tgt := 49) rfl ?_
    obtain rfl := Option.some.inj H
    exact R_lret (gxd kX6_solutions 23 rfl) rfl
def fX_reach_39 (k21 : Int32 → gH → Option (Int32 × gH)) (v1 : Int32) (v2 : Int32) (v3 : Int32) (s0 : Int32) (h : gH) : Option (Int32 × gH) :=
  if (h 17 9) = (0 : Int32) then
    gg (gin v1 9) <|
    if (((h 18 v1.toNatClampNeg) >>> (s0 &&& 31)) &&& (1 : Int32)) = (0 : Int32) then
      k21 (v3 + (1 : Int32)) h
    else
      (fH_become 28 17 h).bind fun h4 =>
      (fH_narrow 28 v1 ((1 : Int32) <<< (s0 &&& 31)) (100 : Int32) h4).bind fun p6 =>
      (fS_go (0 : Int32) (0 : Int32) (0 : Int32) (100 : Int32) (0 : Int32) p6.2).bind fun h8 =>
      if (h8 38 14) = (0 : Int32) then
        if (0 : Int32) < (h8 38 13) then
          some (s0, h8)
        else
          k21 (v3 + (1 : Int32)) h8
      else
        some ((-6 : Int32), h8)
  else
    k21 (v3 + (1 : Int32)) h
theorem fX_reach_39_ok {d : Nat} {k21 : Int32 → gH → Option (Int32 × gH)} {v1 : Int32} {v2 : Int32} {v3 : Int32} {s0 : Int32} (hk21 : ∀ (u3 : Int32) (h : gH) (x : (Int32 × gH)), k21 u3 h = some x → gR RX6 cX6_reach 5 (some .int) (d + 6) 21 [.ref 0, .int v1, .int v2, .int u3, .null] [] h (some (.int x.1)) x.2) {h : gH} {x : (Int32 × gH)} (H : fX_reach_39 k21 v1 v2 v3 s0 h = some x) : gR RX6 cX6_reach 5 (some .int) (d + 6) 39 [.ref 0, .int v1, .int v2, .int v3, .null] [.int s0] h (some (.int x.1)) x.2 := by
  unfold fX_reach_39 at H
  refine R_istore (gxd kX6_reach 22 rfl) rfl (Nat.le_of_ble_eq_true rfl) rfl ?_
  refine R_aload_n (gxd kX6_reach 23 rfl) rfl rfl ?_
  refine R_getr (gxd kX6_reach 24 rfl) gf_X_28 gk_0 (by decide) rfl ?_
  refine R_geti (gxd kX6_reach 25 rfl) gf_X_87 gk_17 (by decide) rfl ?_
  refine R_if_ne (gxd kX6_reach 26 rfl) (tgt := 136) rfl (fun q => ?_) (fun q => ?_)
  · replace H := giff q H
    refine R_iinc (v := (v3 + (1 : Int32))) (gxd kX6_reach 72 rfl) rfl rfl rfl (Nat.le_of_ble_eq_true rfl) rfl ?_
    refine R_goto (gxd kX6_reach 73 rfl) (tgt := 21) rfl ?_
    exact R_weak (gle_same (gle_same (gle_same (gle_same (gle_null gle_nil))))) (hk21 _ _ _  H)
  · replace H := gift q H
    refine R_aload_n (gxd kX6_reach 27 rfl) rfl rfl ?_
    refine R_getr (gxd kX6_reach 28 rfl) gf_X_28 gk_0 (by decide) rfl ?_
    refine R_getr (gxd kX6_reach 29 rfl) gf_X_122 gk_17 (by decide) rfl ?_
    refine R_iload_n (gxd kX6_reach 30 rfl) rfl rfl ?_
    obtain ⟨b3, H⟩ := ggi H
    have b3 := gin_in b3
    refine R_iald (gxd kX6_reach 31 rfl) gk_18 b3 ?_
    refine R_iload (gxd kX6_reach 32 rfl) rfl ?_
    refine R_ishr (gxd kX6_reach 33 rfl) ?_
    refine R_iconst (v := (1 : Int32)) (gxd kX6_reach 34 rfl) rfl ?_
    refine R_iand (gxd kX6_reach 35 rfl) ?_
    refine R_if_ne (gxd kX6_reach 36 rfl) (tgt := 71) rfl (fun q => ?_) (fun q => ?_)
    · replace H := giff q H
      refine R_aload_n (gxd kX6_reach 38 rfl) rfl rfl ?_
      refine R_getr (gxd kX6_reach 39 rfl) gf_X_39 gk_0 (by decide) rfl ?_
      refine R_aload_n (gxd kX6_reach 40 rfl) rfl rfl ?_
      refine R_getr (gxd kX6_reach 41 rfl) gf_X_28 gk_0 (by decide) rfl ?_
      obtain ⟨h4, e5, H⟩ := gbi H
      refine R_callVv (gxd kX6_reach 42 rfl) gm_X_217 wX0_become (by decide) gk_28 rfl rfl (Nat.le_of_ble_eq_true rfl) (by omega) (fH_become_ok gH28 gH17 e5 (d + 4)) ?_
      refine R_aload_n (gxd kX6_reach 43 rfl) rfl rfl ?_
      refine R_getr (gxd kX6_reach 44 rfl) gf_X_39 gk_0 (by decide) rfl ?_
      refine R_iload_n (gxd kX6_reach 45 rfl) rfl rfl ?_
      refine R_iconst (v := (1 : Int32)) (gxd kX6_reach 46 rfl) rfl ?_
      refine R_iload (gxd kX6_reach 47 rfl) rfl ?_
      refine R_ishl (gxd kX6_reach 48 rfl) ?_
      refine R_bipush (v := (100 : Int32)) (gxd kX6_reach 49 rfl) rfl ?_
      obtain ⟨p6, e7, H⟩ := gbi H
      refine R_callVi (gxd kX6_reach 50 rfl) gm_X_153 wX0_narrow (by decide) gk_28 rfl rfl (Nat.le_of_ble_eq_true rfl) (by omega) (fH_narrow_ok gH28 e7 (d + 4)) ?_
      refine R_pop (gxd kX6_reach 51 rfl) rfl ?_
      refine R_aload_n (gxd kX6_reach 52 rfl) rfl rfl ?_
      refine R_getr (gxd kX6_reach 53 rfl) gf_X_50 gk_0 (by decide) rfl ?_
      refine R_iconst (v := (0 : Int32)) (gxd kX6_reach 54 rfl) rfl ?_
      refine R_iconst (v := (0 : Int32)) (gxd kX6_reach 55 rfl) rfl ?_
      refine R_iconst (v := (0 : Int32)) (gxd kX6_reach 56 rfl) rfl ?_
      refine R_bipush (v := (100 : Int32)) (gxd kX6_reach 57 rfl) rfl ?_
      refine R_iconst (v := (0 : Int32)) (gxd kX6_reach 58 rfl) rfl ?_
      obtain ⟨h8, e9, H⟩ := gbi H
      refine R_callVv (gxd kX6_reach 59 rfl) gm_X_221 wX4_go (by decide) gk_38 rfl rfl (Nat.le_of_ble_eq_true rfl) (by omega) (fS_go_ok  e9 (d + 0)) ?_
      refine R_aload_n (gxd kX6_reach 60 rfl) rfl rfl ?_
      refine R_getr (gxd kX6_reach 61 rfl) gf_X_50 gk_0 (by decide) rfl ?_
      refine R_geti (gxd kX6_reach 62 rfl) gf_X_225 gk_38 (by decide) rfl ?_
      refine R_if_eq (gxd kX6_reach 63 rfl) (tgt := 123) rfl (fun q => ?_) (fun q => ?_)
      · replace H := gift q H
        refine R_aload_n (gxd kX6_reach 66 rfl) rfl rfl ?_
        refine R_getr (gxd kX6_reach 67 rfl) gf_X_50 gk_0 (by decide) rfl ?_
        refine R_geti (gxd kX6_reach 68 rfl) gf_X_228 gk_38 (by decide) rfl ?_
        refine R_if_le (gxd kX6_reach 69 rfl) (tgt := 136) rfl (fun q => ?_) (fun q => ?_)
        · replace H := giff q H
          refine R_iinc (v := (v3 + (1 : Int32))) (gxd kX6_reach 72 rfl) rfl rfl rfl (Nat.le_of_ble_eq_true rfl) rfl ?_
          refine R_goto (gxd kX6_reach 73 rfl) (tgt := 21) rfl ?_
          exact R_weak (gle_same (gle_same (gle_same (gle_same (gle_null gle_nil))))) (hk21 _ _ _  H)
        · replace H := gift q H
          refine R_iload (gxd kX6_reach 70 rfl) rfl ?_
          obtain rfl := Option.some.inj H
          exact R_iret (gxd kX6_reach 71 rfl) rfl
      · replace H := giff q H
        refine R_bipush (v := (-6 : Int32)) (gxd kX6_reach 64 rfl) rfl ?_
        obtain rfl := Option.some.inj H
        exact R_iret (gxd kX6_reach 65 rfl) rfl
    · replace H := gift q H
      refine R_goto (gxd kX6_reach 37 rfl) (tgt := 136) rfl ?_
      refine R_iinc (v := (v3 + (1 : Int32))) (gxd kX6_reach 72 rfl) rfl rfl rfl (Nat.le_of_ble_eq_true rfl) rfl ?_
      refine R_goto (gxd kX6_reach 73 rfl) (tgt := 21) rfl ?_
      exact R_weak (gle_same (gle_same (gle_same (gle_same (gle_null gle_nil))))) (hk21 _ _ _  H)
def fX_reach_21 (v1 : Int32) (v2 : Int32) : Nat → Int32 → gH → Option (Int32 × gH)
  | 0, _, _ => none
  | n + 1, v3, h =>
    if v3 < (10 : Int32) then
      if v2 = (0 : Int32) then
        fX_reach_39 (fX_reach_21 v1 v2 n) v1 v2 v3 v3 h
      else
        fX_reach_39 (fX_reach_21 v1 v2 n) v1 v2 v3 ((9 : Int32) - v3) h
    else
      some ((-1 : Int32), h)
theorem fX_reach_21_ok {d : Nat} {v1 : Int32} {v2 : Int32}  : ∀ (n : Nat) (v3 : Int32) (h : gH) (x : (Int32 × gH)), fX_reach_21 v1 v2 n v3 h = some x → gR RX6 cX6_reach 5 (some .int) (d + 6) 21 [.ref 0, .int v1, .int v2, .int v3, .null] [] h (some (.int x.1)) x.2 := by
  intro n
  induction n with
  | zero => intro v3 h x  H; exact g0 H
  | succ n ih =>
    intro v3 h x  H
    unfold fX_reach_21 at H
    refine R_iload_n (gxd kX6_reach 12 rfl) rfl rfl ?_
    refine R_bipush (v := (10 : Int32)) (gxd kX6_reach 13 rfl) rfl ?_
    refine R_icmp_ge (gxd kX6_reach 14 rfl) (tgt := 142) rfl (fun q => ?_) (fun q => ?_)
    · replace H := giff q H
      refine R_iconst (v := (-1 : Int32)) (gxd kX6_reach 74 rfl) rfl ?_
      obtain rfl := Option.some.inj H
      exact R_iret (gxd kX6_reach 75 rfl) rfl
    · replace H := gift q H
      refine R_iload_n (gxd kX6_reach 15 rfl) rfl rfl ?_
      refine R_if_ne (gxd kX6_reach 16 rfl) (tgt := 35) rfl (fun q => ?_) (fun q => ?_)
      · replace H := giff q H
        refine R_bipush (v := (9 : Int32)) (gxd kX6_reach 19 rfl) rfl ?_
        refine R_iload_n (gxd kX6_reach 20 rfl) rfl rfl ?_
        refine R_isub (gxd kX6_reach 21 rfl) ?_
        exact R_weak (gle_same (gle_same (gle_same (gle_same (gle_null gle_nil))))) (fX_reach_39_ok ih  H)
      · replace H := gift q H
        refine R_iload_n (gxd kX6_reach 17 rfl) rfl rfl ?_
        refine R_goto (gxd kX6_reach 18 rfl) (tgt := 39) rfl ?_
        exact R_weak (gle_same (gle_same (gle_same (gle_same (gle_null gle_nil))))) (fX_reach_39_ok ih  H)
def fX_reach (v1 : Int32) (v2 : Int32) (h : gH) : Option (Int32 × gH) :=
  (fX_isVariable v1 h).bind fun p1 =>
  if p1.1 = (0 : Int32) then
    some ((-2 : Int32), p1.2)
  else
    if v2 < (0 : Int32) then
      some ((-2 : Int32), p1.2)
    else
      if (1 : Int32) < v2 then
        some ((-2 : Int32), p1.2)
      else
        fX_reach_21 v1 v2 gfu (0 : Int32) p1.2
theorem fX_reach_ok {v1 : Int32} {v2 : Int32} {h : gH} {x : (Int32 × gH)} (H : fX_reach v1 v2 h = some x) (d : Nat) : gC yX6_reach cX6_reach 5 (some .int) (d + 6) [.ref 0, .int v1, .int v2] h (some (.int x.1)) x.2 := by
  refine gC_of (by decide +kernel) (Nat.le_of_ble_eq_true rfl) rfl ?_
  unfold fX_reach at H
  refine R_iload_n (gxd kX6_reach 0 rfl) rfl rfl ?_
  obtain ⟨p1, e2, H⟩ := gbi H
  refine R_callSi (gxd kX6_reach 1 rfl) gm_X_143 wX6_isVariable (by decide) rfl (Nat.le_of_ble_eq_true rfl) (by omega) (fX_isVariable_ok  e2 (d + 5)) ?_
  refine R_if_eq (gxd kX6_reach 2 rfl) (tgt := 16) rfl (fun q => ?_) (fun q => ?_)
  · replace H := gift q H
    refine R_bipush (v := (-2 : Int32)) (gxd kX6_reach 8 rfl) rfl ?_
    obtain rfl := Option.some.inj H
    exact R_iret (gxd kX6_reach 9 rfl) rfl
  · replace H := giff q H
    refine R_iload_n (gxd kX6_reach 3 rfl) rfl rfl ?_
    refine R_if_lt (gxd kX6_reach 4 rfl) (tgt := 16) rfl (fun q => ?_) (fun q => ?_)
    · replace H := gift q H
      refine R_bipush (v := (-2 : Int32)) (gxd kX6_reach 8 rfl) rfl ?_
      obtain rfl := Option.some.inj H
      exact R_iret (gxd kX6_reach 9 rfl) rfl
    · replace H := giff q H
      refine R_iload_n (gxd kX6_reach 5 rfl) rfl rfl ?_
      refine R_iconst (v := (1 : Int32)) (gxd kX6_reach 6 rfl) rfl ?_
      refine R_icmp_le (gxd kX6_reach 7 rfl) (tgt := 19) rfl (fun q => ?_) (fun q => ?_)
      · replace H := giff q H
        refine R_iconst (v := (0 : Int32)) (gxd kX6_reach 10 rfl) rfl ?_
        refine R_istore_n (gxd kX6_reach 11 rfl) rfl rfl (Nat.le_of_ble_eq_true rfl) rfl ?_
        exact R_weak (gle_same (gle_same (gle_same (gle_same (gle_null gle_nil))))) (fX_reach_21_ok  gfu _ _ _  H)
      · replace H := gift q H
        refine R_bipush (v := (-2 : Int32)) (gxd kX6_reach 8 rfl) rfl ?_
        obtain rfl := Option.some.inj H
        exact R_iret (gxd kX6_reach 9 rfl) rfl
def fX_count (v1 : Int32) (h : gH) : Option (Int32 × gH) :=
  if v1 = (0 : Int32) then
    some ((h 1 8), h)
  else
  if v1 = (1 : Int32) then
    some ((h 17 5), h)
  else
  if v1 = (2 : Int32) then
    some ((h 22 5), h)
  else
  if v1 = (3 : Int32) then
    some ((h 22 6), h)
  else
  if v1 = (4 : Int32) then
    (fJ_bitCount (h 17 7) h).bind fun p1 =>
    some (p1.1, p1.2)
  else
  if v1 = (5 : Int32) then
    some ((h 17 8), h)
  else
  if v1 = (6 : Int32) then
    (fH_howManySettled 17 h).bind fun p3 =>
    some (p3.1, p3.2)
  else
  if v1 = (7 : Int32) then
    some ((h 10 6), h)
  else
  if v1 = (8 : Int32) then
    if (h 17 9) = (0 : Int32) then
      some ((0 : Int32), h)
    else
      some ((1 : Int32), h)
  else
    some ((-2 : Int32), h)
theorem fX_count_ok {v1 : Int32} {h : gH} {x : (Int32 × gH)} (H : fX_count v1 h = some x) (d : Nat) : gC yX6_count cX6_count 2 (some .int) (d + 3) [.ref 0, .int v1] h (some (.int x.1)) x.2 := by
  refine gC_of (by decide +kernel) (Nat.le_of_ble_eq_true rfl) rfl ?_
  unfold fX_count at H
  refine R_iload_n (gxd kX6_count 0 rfl) rfl rfl ?_
  by_cases q0 : v1 = (0 : Int32)
  · replace H := gift q0 H
    refine R_tableIn (gxd kX6_count 1 rfl) (by rw [q0]; decide) (by rw [q0]; decide) (off := 51) (tgt := 52) (by rw [q0]; decide) rfl ?_
    refine R_aload_n (gxd kX6_count 2 rfl) rfl rfl ?_
    refine R_getr (gxd kX6_count 3 rfl) gf_X_12 gk_0 (by decide) rfl ?_
    refine R_geti (gxd kX6_count 4 rfl) gf_X_86 gk_1 (by decide) rfl ?_
    obtain rfl := Option.some.inj H
    exact R_iret (gxd kX6_count 5 rfl) rfl
  replace H := giff q0 H
  by_cases q1 : v1 = (1 : Int32)
  · replace H := gift q1 H
    refine R_tableIn (gxd kX6_count 1 rfl) (by rw [q1]; decide) (by rw [q1]; decide) (off := 59) (tgt := 60) (by rw [q1]; decide) rfl ?_
    refine R_aload_n (gxd kX6_count 6 rfl) rfl rfl ?_
    refine R_getr (gxd kX6_count 7 rfl) gf_X_28 gk_0 (by decide) rfl ?_
    refine R_geti (gxd kX6_count 8 rfl) gf_X_166 gk_17 (by decide) rfl ?_
    obtain rfl := Option.some.inj H
    exact R_iret (gxd kX6_count 9 rfl) rfl
  replace H := giff q1 H
  by_cases q2 : v1 = (2 : Int32)
  · replace H := gift q2 H
    refine R_tableIn (gxd kX6_count 1 rfl) (by rw [q2]; decide) (by rw [q2]; decide) (off := 67) (tgt := 68) (by rw [q2]; decide) rfl ?_
    refine R_aload_n (gxd kX6_count 10 rfl) rfl rfl ?_
    refine R_getr (gxd kX6_count 11 rfl) gf_X_35 gk_0 (by decide) rfl ?_
    refine R_geti (gxd kX6_count 12 rfl) gf_X_146 gk_22 (by decide) rfl ?_
    obtain rfl := Option.some.inj H
    exact R_iret (gxd kX6_count 13 rfl) rfl
  replace H := giff q2 H
  by_cases q3 : v1 = (3 : Int32)
  · replace H := gift q3 H
    refine R_tableIn (gxd kX6_count 1 rfl) (by rw [q3]; decide) (by rw [q3]; decide) (off := 75) (tgt := 76) (by rw [q3]; decide) rfl ?_
    refine R_aload_n (gxd kX6_count 14 rfl) rfl rfl ?_
    refine R_getr (gxd kX6_count 15 rfl) gf_X_35 gk_0 (by decide) rfl ?_
    refine R_geti (gxd kX6_count 16 rfl) gf_X_163 gk_22 (by decide) rfl ?_
    obtain rfl := Option.some.inj H
    exact R_iret (gxd kX6_count 17 rfl) rfl
  replace H := giff q3 H
  by_cases q4 : v1 = (4 : Int32)
  · replace H := gift q4 H
    refine R_tableIn (gxd kX6_count 1 rfl) (by rw [q4]; decide) (by rw [q4]; decide) (off := 83) (tgt := 84) (by rw [q4]; decide) rfl ?_
    refine R_aload_n (gxd kX6_count 18 rfl) rfl rfl ?_
    refine R_getr (gxd kX6_count 19 rfl) gf_X_28 gk_0 (by decide) rfl ?_
    refine R_geti (gxd kX6_count 20 rfl) gf_X_104 gk_17 (by decide) rfl ?_
    obtain ⟨p1, e2, H⟩ := gbi H
    refine R_callSi (gxd kX6_count 21 rfl) gm_X_278 wJ6_bitCount_0f7a4 (by decide) rfl (Nat.le_of_ble_eq_true rfl) (by omega) (fJ_bitCount_ok  e2 (d + 2)) ?_
    obtain rfl := Option.some.inj H
    exact R_iret (gxd kX6_count 22 rfl) rfl
  replace H := giff q4 H
  by_cases q5 : v1 = (5 : Int32)
  · replace H := gift q5 H
    refine R_tableIn (gxd kX6_count 1 rfl) (by rw [q5]; decide) (by rw [q5]; decide) (off := 94) (tgt := 95) (by rw [q5]; decide) rfl ?_
    refine R_aload_n (gxd kX6_count 23 rfl) rfl rfl ?_
    refine R_getr (gxd kX6_count 24 rfl) gf_X_28 gk_0 (by decide) rfl ?_
    refine R_geti (gxd kX6_count 25 rfl) gf_X_283 gk_17 (by decide) rfl ?_
    obtain rfl := Option.some.inj H
    exact R_iret (gxd kX6_count 26 rfl) rfl
  replace H := giff q5 H
  by_cases q6 : v1 = (6 : Int32)
  · replace H := gift q6 H
    refine R_tableIn (gxd kX6_count 1 rfl) (by rw [q6]; decide) (by rw [q6]; decide) (off := 102) (tgt := 103) (by rw [q6]; decide) rfl ?_
    refine R_aload_n (gxd kX6_count 27 rfl) rfl rfl ?_
    refine R_getr (gxd kX6_count 28 rfl) gf_X_28 gk_0 (by decide) rfl ?_
    obtain ⟨p3, e4, H⟩ := gbi H
    refine R_callVi (gxd kX6_count 29 rfl) gm_X_286 wX0_howManySettled (by decide) gk_17 rfl rfl (Nat.le_of_ble_eq_true rfl) (by omega) (fH_howManySettled_ok gH17 e4 (d + 0)) ?_
    obtain rfl := Option.some.inj H
    exact R_iret (gxd kX6_count 30 rfl) rfl
  replace H := giff q6 H
  by_cases q7 : v1 = (7 : Int32)
  · replace H := gift q7 H
    refine R_tableIn (gxd kX6_count 1 rfl) (by rw [q7]; decide) (by rw [q7]; decide) (off := 110) (tgt := 111) (by rw [q7]; decide) rfl ?_
    refine R_aload_n (gxd kX6_count 31 rfl) rfl rfl ?_
    refine R_getr (gxd kX6_count 32 rfl) gf_X_19 gk_0 (by decide) rfl ?_
    refine R_geti (gxd kX6_count 33 rfl) gf_X_83 gk_10 (by decide) rfl ?_
    obtain rfl := Option.some.inj H
    exact R_iret (gxd kX6_count 34 rfl) rfl
  replace H := giff q7 H
  by_cases q8 : v1 = (8 : Int32)
  · replace H := gift q8 H
    refine R_tableIn (gxd kX6_count 1 rfl) (by rw [q8]; decide) (by rw [q8]; decide) (off := 118) (tgt := 119) (by rw [q8]; decide) rfl ?_
    refine R_aload_n (gxd kX6_count 35 rfl) rfl rfl ?_
    refine R_getr (gxd kX6_count 36 rfl) gf_X_28 gk_0 (by decide) rfl ?_
    refine R_geti (gxd kX6_count 37 rfl) gf_X_87 gk_17 (by decide) rfl ?_
    refine R_if_eq (gxd kX6_count 38 rfl) (tgt := 133) rfl (fun q => ?_) (fun q => ?_)
    · replace H := gift q H
      refine R_iconst (v := (0 : Int32)) (gxd kX6_count 41 rfl) rfl ?_
      obtain rfl := Option.some.inj H
      exact R_iret (gxd kX6_count 42 rfl) rfl
    · replace H := giff q H
      refine R_iconst (v := (1 : Int32)) (gxd kX6_count 39 rfl) rfl ?_
      refine R_goto (gxd kX6_count 40 rfl) (tgt := 134) rfl ?_
      obtain rfl := Option.some.inj H
      exact R_iret (gxd kX6_count 42 rfl) rfl
  replace H := giff q8 H
  refine R_tableOut (gxd kX6_count 1 rfl) (tgt := 135) (by have z0 := lv_neT q0 (a := 0) (by decide); have z1 := lv_neT q1 (a := 1) (by decide); have z2 := lv_neT q2 (a := 2) (by decide); have z3 := lv_neT q3 (a := 3) (by decide); have z4 := lv_neT q4 (a := 4) (by decide); have z5 := lv_neT q5 (a := 5) (by decide); have z6 := lv_neT q6 (a := 6) (by decide); have z7 := lv_neT q7 (a := 7) (by decide); have z8 := lv_neT q8 (a := 8) (by decide); omega) rfl ?_
  refine R_bipush (v := (-2 : Int32)) (gxd kX6_count 43 rfl) rfl ?_
  obtain rfl := Option.some.inj H
  exact R_iret (gxd kX6_count 44 rfl) rfl
