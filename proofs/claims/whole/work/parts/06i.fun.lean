def fM_isIdle_124 (v3 : Int32) (h : gH) : Option (Int32 × gH) :=
  (fM_laysBack h).bind fun h7 =>
  gg (gbo v3) <|
  some (v3, h7)
theorem fM_isIdle_124_ok {d : Nat} {v3 : Int32}  {h : gH} {x : (Int32 × gH)} (H : fM_isIdle_124 v3  h = some x) : gR RX7 cX7_isIdle 5 (some .boolean) (d + 5) 124 [.ref 65, .null, .null, .int v3, .null] [] h (some (.int x.1)) x.2 := by
  unfold fM_isIdle_124 at H
  refine R_aload_n (gxd kX7_isIdle 72 rfl) rfl rfl ?_
  obtain ⟨h7, e8, H⟩ := gbi H
  refine R_callVv (gxd kX7_isIdle 73 rfl) gm_M_345 wX7_laysBack (by decide) gk_65 rfl rfl (Nat.le_of_ble_eq_true rfl) (by omega) (fM_laysBack_ok  e8 (d + 4)) ?_
  refine R_iload_n (gxd kX7_isIdle 74 rfl) rfl rfl ?_
  obtain ⟨b9, H⟩ := ggi H
  have b9 := gbo_or b9
  obtain rfl := Option.some.inj H
  exact R_zret (gxd kX7_isIdle 75 rfl) rfl b9
def fM_isIdle_117 (k80 : Int32 → Int32 → gH → Option (Int32 × gH)) (v2 : Int32) (v4 : Int32) (s0 : Int32) (h : gH) : Option (Int32 × gH) :=
  k80 s0 (v4 + (1 : Int32)) h
theorem fM_isIdle_117_ok {d : Nat} {k80 : Int32 → Int32 → gH → Option (Int32 × gH)} {v2 : Int32} {v4 : Int32} {s0 : Int32} (hk80 : ∀ (u3 : Int32) (u4 : Int32) (h : gH) (x : (Int32 × gH)), k80 u3 u4 h = some x → gR RX7 cX7_isIdle 5 (some .boolean) (d + 5) 80 [.ref 65, .null, .int v2, .int u3, .int u4] [] h (some (.int x.1)) x.2) {h : gH} {x : (Int32 × gH)} (H : fM_isIdle_117 k80 v2 v4 s0 h = some x) : gR RX7 cX7_isIdle 5 (some .boolean) (d + 5) 117 [.ref 65, .null, .int v2, .null, .int v4] [.int s0] h (some (.int x.1)) x.2 := by
  unfold fM_isIdle_117 at H
  refine R_istore_n (gxd kX7_isIdle 69 rfl) rfl rfl (Nat.le_of_ble_eq_true rfl) rfl ?_
  refine R_iinc (v := (v4 + (1 : Int32))) (gxd kX7_isIdle 70 rfl) rfl rfl rfl (Nat.le_of_ble_eq_true rfl) rfl ?_
  refine R_goto (gxd kX7_isIdle 71 rfl) (tgt := 80) rfl ?_
  exact R_weak (gle_same (gle_null (gle_same (gle_same (gle_same gle_nil))))) (hk80 _ _ _ _  H)
def fM_isIdle_116 (k80 : Int32 → Int32 → gH → Option (Int32 × gH)) (v2 : Int32) (v4 : Int32) (h : gH) : Option (Int32 × gH) :=
  fM_isIdle_117 k80 v2 v4 (0 : Int32) h
theorem fM_isIdle_116_ok {d : Nat} {k80 : Int32 → Int32 → gH → Option (Int32 × gH)} {v2 : Int32} {v4 : Int32} (hk80 : ∀ (u3 : Int32) (u4 : Int32) (h : gH) (x : (Int32 × gH)), k80 u3 u4 h = some x → gR RX7 cX7_isIdle 5 (some .boolean) (d + 5) 80 [.ref 65, .null, .int v2, .int u3, .int u4] [] h (some (.int x.1)) x.2) {h : gH} {x : (Int32 × gH)} (H : fM_isIdle_116 k80 v2 v4  h = some x) : gR RX7 cX7_isIdle 5 (some .boolean) (d + 5) 116 [.ref 65, .null, .int v2, .null, .int v4] [] h (some (.int x.1)) x.2 := by
  unfold fM_isIdle_116 at H
  refine R_iconst (v := (0 : Int32)) (gxd kX7_isIdle 68 rfl) rfl ?_
  exact R_weak (gle_same (gle_null (gle_same (gle_null (gle_same gle_nil))))) (fM_isIdle_117_ok hk80  H)
def fM_isIdle_80 (v2 : Int32) : Nat → Int32 → Int32 → gH → Option (Int32 × gH)
  | 0, _, _, _ => none
  | n + 1, v3, v4, h =>
    if v4 < (8 : Int32) then
      if v2 = (0 : Int32) then
        if v3 = (0 : Int32) then
          fM_isIdle_116 (fM_isIdle_80 v2 n) v2 v4 h
        else
          gg (gin v4 8) <|
          gg (gin v4 8) <|
          if (h 66 v4.toNatClampNeg) = (h 86 v4.toNatClampNeg) then
            fM_isIdle_117 (fM_isIdle_80 v2 n) v2 v4 (1 : Int32) h
          else
            fM_isIdle_116 (fM_isIdle_80 v2 n) v2 v4 h
      else
        fM_isIdle_124 v3 h
    else
      fM_isIdle_124 v3 h
theorem fM_isIdle_80_ok {d : Nat} {v2 : Int32}  : ∀ (n : Nat) (v3 : Int32) (v4 : Int32) (h : gH) (x : (Int32 × gH)), fM_isIdle_80 v2 n v3 v4 h = some x → gR RX7 cX7_isIdle 5 (some .boolean) (d + 5) 80 [.ref 65, .null, .int v2, .int v3, .int v4] [] h (some (.int x.1)) x.2 := by
  intro n
  induction n with
  | zero => intro v3 v4 h x  H; exact g0 H
  | succ n ih =>
    intro v3 v4 h x  H
    unfold fM_isIdle_80 at H
    refine R_iload (gxd kX7_isIdle 50 rfl) rfl ?_
    refine R_bipush (v := (8 : Int32)) (gxd kX7_isIdle 51 rfl) rfl ?_
    refine R_icmp_ge (gxd kX7_isIdle 52 rfl) (tgt := 124) rfl (fun q => ?_) (fun q => ?_)
    · replace H := giff q H
      exact R_weak (gle_same (gle_null (gle_null (gle_same (gle_null gle_nil))))) (fM_isIdle_124_ok  H)
    · replace H := gift q H
      refine R_iload_n (gxd kX7_isIdle 53 rfl) rfl rfl ?_
      refine R_if_ne (gxd kX7_isIdle 54 rfl) (tgt := 124) rfl (fun q => ?_) (fun q => ?_)
      · replace H := giff q H
        exact R_weak (gle_same (gle_null (gle_null (gle_same (gle_null gle_nil))))) (fM_isIdle_124_ok  H)
      · replace H := gift q H
        refine R_iload_n (gxd kX7_isIdle 55 rfl) rfl rfl ?_
        refine R_if_eq (gxd kX7_isIdle 56 rfl) (tgt := 116) rfl (fun q => ?_) (fun q => ?_)
        · replace H := gift q H
          exact R_weak (gle_same (gle_null (gle_same (gle_null (gle_same gle_nil))))) (fM_isIdle_116_ok ih  H)
        · replace H := giff q H
          refine R_aload_n (gxd kX7_isIdle 57 rfl) rfl rfl ?_
          refine R_getr (gxd kX7_isIdle 58 rfl) gf_M_13 gk_65 (by decide) rfl ?_
          refine R_iload (gxd kX7_isIdle 59 rfl) rfl ?_
          obtain ⟨b10, H⟩ := ggi H
          have b10 := gin_in b10
          refine R_iald (gxd kX7_isIdle 60 rfl) gk_66 b10 ?_
          refine R_aload_n (gxd kX7_isIdle 61 rfl) rfl rfl ?_
          refine R_getr (gxd kX7_isIdle 62 rfl) gf_M_75 gk_65 (by decide) rfl ?_
          refine R_iload (gxd kX7_isIdle 63 rfl) rfl ?_
          obtain ⟨b11, H⟩ := ggi H
          have b11 := gin_in b11
          refine R_iald (gxd kX7_isIdle 64 rfl) gk_86 b11 ?_
          refine R_icmp_ne (gxd kX7_isIdle 65 rfl) (tgt := 116) rfl (fun q => ?_) (fun q => ?_)
          · replace H := giff q H
            exact R_weak (gle_same (gle_null (gle_same (gle_null (gle_same gle_nil))))) (fM_isIdle_116_ok ih  H)
          · replace H := gift q H
            refine R_iconst (v := (1 : Int32)) (gxd kX7_isIdle 66 rfl) rfl ?_
            refine R_goto (gxd kX7_isIdle 67 rfl) (tgt := 117) rfl ?_
            exact R_weak (gle_same (gle_null (gle_same (gle_null (gle_same gle_nil))))) (fM_isIdle_117_ok ih  H)
def fM_isIdle_76 (v2 : Int32) (s0 : Int32) (h : gH) : Option (Int32 × gH) :=
  fM_isIdle_80 v2 gfu s0 (0 : Int32) h
theorem fM_isIdle_76_ok {d : Nat} {v2 : Int32} {s0 : Int32}  {h : gH} {x : (Int32 × gH)} (H : fM_isIdle_76 v2 s0 h = some x) : gR RX7 cX7_isIdle 5 (some .boolean) (d + 5) 76 [.ref 65, .null, .int v2, .null, .null] [.int s0] h (some (.int x.1)) x.2 := by
  unfold fM_isIdle_76 at H
  refine R_istore_n (gxd kX7_isIdle 47 rfl) rfl rfl (Nat.le_of_ble_eq_true rfl) rfl ?_
  refine R_iconst (v := (0 : Int32)) (gxd kX7_isIdle 48 rfl) rfl ?_
  refine R_istore (gxd kX7_isIdle 49 rfl) rfl (Nat.le_of_ble_eq_true rfl) rfl ?_
  exact R_weak (gle_same (gle_null (gle_same (gle_same (gle_same gle_nil))))) (fM_isIdle_80_ok  gfu _ _ _ _  H)
def fM_isIdle_25 (v1 : Int32) (v2 : Int32) : Nat → Int32 → gH → Option (Int32 × gH)
  | 0, _, _ => none
  | n + 1, v3, h =>
    if v3 < (8 : Int32) then
      gg (gin v3 8) <|
      gg (gin v3 8) <|
      glet (hu h 86 v3.toNatClampNeg (h 66 v3.toNatClampNeg)) fun h14 =>
      fM_isIdle_25 v1 v2 n (v3 + (1 : Int32)) h14
    else
      (fM_starts (((1 : Int32) <<< ((h 65 12) &&& 31)) - (1 : Int32)) (0 : Int32) v1 h).bind fun h5 =>
      if (h5 65 2) = v2 then
        fM_isIdle_76 v2 (1 : Int32) h5
      else
        fM_isIdle_76 v2 (0 : Int32) h5
theorem fM_isIdle_25_ok {d : Nat} {v1 : Int32} {v2 : Int32}  : ∀ (n : Nat) (v3 : Int32) (h : gH) (x : (Int32 × gH)), fM_isIdle_25 v1 v2 n v3 h = some x → gR RX7 cX7_isIdle 5 (some .boolean) (d + 5) 25 [.ref 65, .int v1, .int v2, .int v3, .null] [] h (some (.int x.1)) x.2 := by
  intro n
  induction n with
  | zero => intro v3 h x  H; exact g0 H
  | succ n ih =>
    intro v3 h x  H
    unfold fM_isIdle_25 at H
    refine R_iload_n (gxd kX7_isIdle 17 rfl) rfl rfl ?_
    refine R_bipush (v := (8 : Int32)) (gxd kX7_isIdle 18 rfl) rfl ?_
    refine R_icmp_ge (gxd kX7_isIdle 19 rfl) (tgt := 49) rfl (fun q => ?_) (fun q => ?_)
    · replace H := giff q H
      refine R_aload_n (gxd kX7_isIdle 30 rfl) rfl rfl ?_
      refine R_iconst (v := (1 : Int32)) (gxd kX7_isIdle 31 rfl) rfl ?_
      refine R_aload_n (gxd kX7_isIdle 32 rfl) rfl rfl ?_
      refine R_geti (gxd kX7_isIdle 33 rfl) gf_M_312 gk_65 (by decide) rfl ?_
      refine R_ishl (gxd kX7_isIdle 34 rfl) ?_
      refine R_iconst (v := (1 : Int32)) (gxd kX7_isIdle 35 rfl) rfl ?_
      refine R_isub (gxd kX7_isIdle 36 rfl) ?_
      refine R_iconst (v := (0 : Int32)) (gxd kX7_isIdle 37 rfl) rfl ?_
      refine R_iload_n (gxd kX7_isIdle 38 rfl) rfl rfl ?_
      obtain ⟨h5, e6, H⟩ := gbi H
      refine R_callVv (gxd kX7_isIdle 39 rfl) gm_M_339 wX7_starts (by decide) gk_65 rfl rfl (Nat.le_of_ble_eq_true rfl) (by omega) (fM_starts_ok  e6 (d + 0)) ?_
      refine R_aload_n (gxd kX7_isIdle 40 rfl) rfl rfl ?_
      refine R_geti (gxd kX7_isIdle 41 rfl) gf_M_229 gk_65 (by decide) rfl ?_
      refine R_iload_n (gxd kX7_isIdle 42 rfl) rfl rfl ?_
      refine R_icmp_ne (gxd kX7_isIdle 43 rfl) (tgt := 75) rfl (fun q => ?_) (fun q => ?_)
      · replace H := giff q H
        refine R_iconst (v := (0 : Int32)) (gxd kX7_isIdle 46 rfl) rfl ?_
        exact R_weak (gle_same (gle_null (gle_same (gle_null (gle_null gle_nil))))) (fM_isIdle_76_ok  H)
      · replace H := gift q H
        refine R_iconst (v := (1 : Int32)) (gxd kX7_isIdle 44 rfl) rfl ?_
        refine R_goto (gxd kX7_isIdle 45 rfl) (tgt := 76) rfl ?_
        exact R_weak (gle_same (gle_null (gle_same (gle_null (gle_null gle_nil))))) (fM_isIdle_76_ok  H)
    · replace H := gift q H
      refine R_aload_n (gxd kX7_isIdle 20 rfl) rfl rfl ?_
      refine R_getr (gxd kX7_isIdle 21 rfl) gf_M_75 gk_65 (by decide) rfl ?_
      refine R_iload_n (gxd kX7_isIdle 22 rfl) rfl rfl ?_
      refine R_aload_n (gxd kX7_isIdle 23 rfl) rfl rfl ?_
      refine R_getr (gxd kX7_isIdle 24 rfl) gf_M_13 gk_65 (by decide) rfl ?_
      refine R_iload_n (gxd kX7_isIdle 25 rfl) rfl rfl ?_
      obtain ⟨b12, H⟩ := ggi H
      have b12 := gin_in b12
      refine R_iald (gxd kX7_isIdle 26 rfl) gk_66 b12 ?_
      obtain ⟨b13, H⟩ := ggi H
      have b13 := gin_in b13
      refine R_iast (gxd kX7_isIdle 27 rfl) gk_86 b13 ?_
      obtain ⟨h14, e15, H⟩ := glei H
      refine R_heq e15 ?_
      refine R_iinc (v := (v3 + (1 : Int32))) (gxd kX7_isIdle 28 rfl) rfl rfl rfl (Nat.le_of_ble_eq_true rfl) rfl ?_
      refine R_goto (gxd kX7_isIdle 29 rfl) (tgt := 25) rfl ?_
      exact R_weak (gle_same (gle_same (gle_same (gle_same (gle_null gle_nil))))) (ih _ _ _  H)
def fM_isIdle (v1 : Int32) (h : gH) : Option (Int32 × gH) :=
  (fM_laysAside h).bind fun h1 =>
  (fM_starts (((1 : Int32) <<< ((h1 65 12) &&& 31)) - (1 : Int32)) (0 : Int32) (-1 : Int32) h1).bind fun h3 =>
  fM_isIdle_25 v1 (h3 65 2) gfu (0 : Int32) h3
theorem fM_isIdle_ok {v1 : Int32} {h : gH} {x : (Int32 × gH)} (H : fM_isIdle v1 h = some x) (d : Nat) : gC yX7_isIdle cX7_isIdle 5 (some .boolean) (d + 5) [.ref 65, .int v1] h (some (.int x.1)) x.2 := by
  refine gC_of (by decide +kernel) (Nat.le_of_ble_eq_true rfl) rfl ?_
  unfold fM_isIdle at H
  refine R_aload_n (gxd kX7_isIdle 0 rfl) rfl rfl ?_
  obtain ⟨h1, e2, H⟩ := gbi H
  refine R_callVv (gxd kX7_isIdle 1 rfl) gm_M_336 wX7_laysAside (by decide) gk_65 rfl rfl (Nat.le_of_ble_eq_true rfl) (by omega) (fM_laysAside_ok  e2 (d + 4)) ?_
  refine R_aload_n (gxd kX7_isIdle 2 rfl) rfl rfl ?_
  refine R_iconst (v := (1 : Int32)) (gxd kX7_isIdle 3 rfl) rfl ?_
  refine R_aload_n (gxd kX7_isIdle 4 rfl) rfl rfl ?_
  refine R_geti (gxd kX7_isIdle 5 rfl) gf_M_312 gk_65 (by decide) rfl ?_
  refine R_ishl (gxd kX7_isIdle 6 rfl) ?_
  refine R_iconst (v := (1 : Int32)) (gxd kX7_isIdle 7 rfl) rfl ?_
  refine R_isub (gxd kX7_isIdle 8 rfl) ?_
  refine R_iconst (v := (0 : Int32)) (gxd kX7_isIdle 9 rfl) rfl ?_
  refine R_iconst (v := (-1 : Int32)) (gxd kX7_isIdle 10 rfl) rfl ?_
  obtain ⟨h3, e4, H⟩ := gbi H
  refine R_callVv (gxd kX7_isIdle 11 rfl) gm_M_339 wX7_starts (by decide) gk_65 rfl rfl (Nat.le_of_ble_eq_true rfl) (by omega) (fM_starts_ok  e4 (d + 0)) ?_
  refine R_aload_n (gxd kX7_isIdle 12 rfl) rfl rfl ?_
  refine R_geti (gxd kX7_isIdle 13 rfl) gf_M_229 gk_65 (by decide) rfl ?_
  refine R_istore_n (gxd kX7_isIdle 14 rfl) rfl rfl (Nat.le_of_ble_eq_true rfl) rfl ?_
  refine R_iconst (v := (0 : Int32)) (gxd kX7_isIdle 15 rfl) rfl ?_
  refine R_istore_n (gxd kX7_isIdle 16 rfl) rfl rfl (Nat.le_of_ble_eq_true rfl) rfl ?_
  exact R_weak (gle_same (gle_same (gle_same (gle_same (gle_null gle_nil))))) (fM_isIdle_25_ok  gfu _ _ _  H)
def fM_mixed_50 (s0 : Int32) (h : gH) : Option (Int32 × gH) :=
  (fM_laysBack h).bind fun h8 =>
  some (s0, h8)
theorem fM_mixed_50_ok {d : Nat} {s0 : Int32}  {h : gH} {x : (Int32 × gH)} (H : fM_mixed_50  s0 h = some x) : gR RX7 cX7_mixed 4 (some .int) (d + 5) 50 [.ref 65, .null, .null, .null] [.int s0] h (some (.int x.1)) x.2 := by
  unfold fM_mixed_50 at H
  refine R_istore_n (gxd kX7_mixed 29 rfl) rfl rfl (Nat.le_of_ble_eq_true rfl) rfl ?_
  refine R_aload_n (gxd kX7_mixed 30 rfl) rfl rfl ?_
  obtain ⟨h8, e9, H⟩ := gbi H
  refine R_callVv (gxd kX7_mixed 31 rfl) gm_M_345 wX7_laysBack (by decide) gk_65 rfl rfl (Nat.le_of_ble_eq_true rfl) (by omega) (fM_laysBack_ok  e9 (d + 4)) ?_
  refine R_iload_n (gxd kX7_mixed 32 rfl) rfl rfl ?_
  obtain rfl := Option.some.inj H
  exact R_iret (gxd kX7_mixed 33 rfl) rfl
def fM_mixed (v1 : Int32) (v2 : Int32) (h : gH) : Option (Int32 × gH) :=
  (fM_in v2.toInt64 (0 : Int64) (7 : Int64) h).bind fun p1 =>
  if p1.1 = (0 : Int32) then
    some ((-2 : Int32), p1.2)
  else
    (fM_laysAside p1.2).bind fun h3 =>
    (fM_starts (((1 : Int32) <<< ((h3 65 12) &&& 31)) - (1 : Int32)) (0 : Int32) (-1 : Int32) h3).bind fun h5 =>
    if (h5 65 2) = (0 : Int32) then
      gg (gin v2 8) <|
      fM_mixed_50 (h5 66 v2.toNatClampNeg) h5
    else
      fM_mixed_50 (-1 : Int32) h5
theorem fM_mixed_ok {v1 : Int32} {v2 : Int32} {h : gH} {x : (Int32 × gH)} (H : fM_mixed v1 v2 h = some x) (d : Nat) : gC yX7_mixed cX7_mixed 4 (some .int) (d + 5) [.ref 65, .int v1, .int v2] h (some (.int x.1)) x.2 := by
  refine gC_of (by decide +kernel) (Nat.le_of_ble_eq_true rfl) rfl ?_
  unfold fM_mixed at H
  refine R_iload_n (gxd kX7_mixed 0 rfl) rfl rfl ?_
  refine R_i2l (gxd kX7_mixed 1 rfl) ?_
  refine R_lconst (v := (0 : Int64)) (gxd kX7_mixed 2 rfl) rfl ?_
  refine R_ldc2 (v := (7 : Int64)) (gxd kX7_mixed 3 rfl) gc_M_308 ?_
  obtain ⟨p1, e2, H⟩ := gbi H
  refine R_callSi (gxd kX7_mixed 4 rfl) gm_M_140 wX7_in (by decide) rfl (Nat.le_of_ble_eq_true rfl) (by omega) (fM_in_ok  e2 (d + 4)) ?_
  refine R_if_ne (gxd kX7_mixed 5 rfl) (tgt := 15) rfl (fun q => ?_) (fun q => ?_)
  · replace H := giff q H
    refine R_aload_n (gxd kX7_mixed 8 rfl) rfl rfl ?_
    obtain ⟨h3, e4, H⟩ := gbi H
    refine R_callVv (gxd kX7_mixed 9 rfl) gm_M_336 wX7_laysAside (by decide) gk_65 rfl rfl (Nat.le_of_ble_eq_true rfl) (by omega) (fM_laysAside_ok  e4 (d + 4)) ?_
    refine R_aload_n (gxd kX7_mixed 10 rfl) rfl rfl ?_
    refine R_iconst (v := (1 : Int32)) (gxd kX7_mixed 11 rfl) rfl ?_
    refine R_aload_n (gxd kX7_mixed 12 rfl) rfl rfl ?_
    refine R_geti (gxd kX7_mixed 13 rfl) gf_M_312 gk_65 (by decide) rfl ?_
    refine R_ishl (gxd kX7_mixed 14 rfl) ?_
    refine R_iconst (v := (1 : Int32)) (gxd kX7_mixed 15 rfl) rfl ?_
    refine R_isub (gxd kX7_mixed 16 rfl) ?_
    refine R_iconst (v := (0 : Int32)) (gxd kX7_mixed 17 rfl) rfl ?_
    refine R_iconst (v := (-1 : Int32)) (gxd kX7_mixed 18 rfl) rfl ?_
    obtain ⟨h5, e6, H⟩ := gbi H
    refine R_callVv (gxd kX7_mixed 19 rfl) gm_M_339 wX7_starts (by decide) gk_65 rfl rfl (Nat.le_of_ble_eq_true rfl) (by omega) (fM_starts_ok  e6 (d + 0)) ?_
    refine R_aload_n (gxd kX7_mixed 20 rfl) rfl rfl ?_
    refine R_geti (gxd kX7_mixed 21 rfl) gf_M_229 gk_65 (by decide) rfl ?_
    refine R_if_eq (gxd kX7_mixed 22 rfl) (tgt := 44) rfl (fun q => ?_) (fun q => ?_)
    · replace H := gift q H
      refine R_aload_n (gxd kX7_mixed 25 rfl) rfl rfl ?_
      refine R_getr (gxd kX7_mixed 26 rfl) gf_M_13 gk_65 (by decide) rfl ?_
      refine R_iload_n (gxd kX7_mixed 27 rfl) rfl rfl ?_
      obtain ⟨b7, H⟩ := ggi H
      have b7 := gin_in b7
      refine R_iald (gxd kX7_mixed 28 rfl) gk_66 b7 ?_
      exact R_weak (gle_same (gle_null (gle_null (gle_null gle_nil)))) (fM_mixed_50_ok  H)
    · replace H := giff q H
      refine R_iconst (v := (-1 : Int32)) (gxd kX7_mixed 23 rfl) rfl ?_
      refine R_goto (gxd kX7_mixed 24 rfl) (tgt := 50) rfl ?_
      exact R_weak (gle_same (gle_null (gle_null (gle_null gle_nil)))) (fM_mixed_50_ok  H)
  · replace H := gift q H
    refine R_bipush (v := (-2 : Int32)) (gxd kX7_mixed 6 rfl) rfl ?_
    obtain rfl := Option.some.inj H
    exact R_iret (gxd kX7_mixed 7 rfl) rfl
def fM_wentBy_28 (k4 : Int32 → Int32 → gH → Option (Int32 × gH)) (v1 : Int32) (v3 : Int32) (s0 : Int32) (s1 : Int32) (h : gH) : Option (Int32 × gH) :=
  k4 (s0 + s1) (v3 + (1 : Int32)) h
theorem fM_wentBy_28_ok {d : Nat} {k4 : Int32 → Int32 → gH → Option (Int32 × gH)} {v1 : Int32} {v3 : Int32} {s0 : Int32} {s1 : Int32} (hk4 : ∀ (u2 : Int32) (u3 : Int32) (h : gH) (x : (Int32 × gH)), k4 u2 u3 h = some x → gR RX7 cX7_wentBy 4 (some .int) (d + 0) 4 [.ref 65, .int v1, .int u2, .int u3] [] h (some (.int x.1)) x.2) {h : gH} {x : (Int32 × gH)} (H : fM_wentBy_28 k4 v1 v3 s0 s1 h = some x) : gR RX7 cX7_wentBy 4 (some .int) (d + 0) 28 [.ref 65, .int v1, .null, .int v3] [.int s1, .int s0] h (some (.int x.1)) x.2 := by
  unfold fM_wentBy_28 at H
  refine R_iadd (gxd kX7_wentBy 18 rfl) ?_
  refine R_istore_n (gxd kX7_wentBy 19 rfl) rfl rfl (Nat.le_of_ble_eq_true rfl) rfl ?_
  refine R_iinc (v := (v3 + (1 : Int32))) (gxd kX7_wentBy 20 rfl) rfl rfl rfl (Nat.le_of_ble_eq_true rfl) rfl ?_
  refine R_goto (gxd kX7_wentBy 21 rfl) (tgt := 4) rfl ?_
  exact R_weak (gle_same (gle_same (gle_same (gle_same gle_nil)))) (hk4 _ _ _ _  H)
def fM_wentBy_4 (v1 : Int32) : Nat → Int32 → Int32 → gH → Option (Int32 × gH)
  | 0, _, _, _ => none
  | n + 1, v2, v3, h =>
    if v3 < (h 65 15) then
      gg (gin v3 80) <|
      if (h 75 v3.toNatClampNeg) = v1 then
        fM_wentBy_28 (fM_wentBy_4 v1 n) v1 v3 v2 (1 : Int32) h
      else
        fM_wentBy_28 (fM_wentBy_4 v1 n) v1 v3 v2 (0 : Int32) h
    else
      some (v2, h)
theorem fM_wentBy_4_ok {d : Nat} {v1 : Int32}  : ∀ (n : Nat) (v2 : Int32) (v3 : Int32) (h : gH) (x : (Int32 × gH)), fM_wentBy_4 v1 n v2 v3 h = some x → gR RX7 cX7_wentBy 4 (some .int) (d + 0) 4 [.ref 65, .int v1, .int v2, .int v3] [] h (some (.int x.1)) x.2 := by
  intro n
  induction n with
  | zero => intro v2 v3 h x  H; exact g0 H
  | succ n ih =>
    intro v2 v3 h x  H
    unfold fM_wentBy_4 at H
    refine R_iload_n (gxd kX7_wentBy 4 rfl) rfl rfl ?_
    refine R_aload_n (gxd kX7_wentBy 5 rfl) rfl rfl ?_
    refine R_geti (gxd kX7_wentBy 6 rfl) gf_M_262 gk_65 (by decide) rfl ?_
    refine R_icmp_ge (gxd kX7_wentBy 7 rfl) (tgt := 36) rfl (fun q => ?_) (fun q => ?_)
    · replace H := giff q H
      refine R_iload_n (gxd kX7_wentBy 22 rfl) rfl rfl ?_
      obtain rfl := Option.some.inj H
      exact R_iret (gxd kX7_wentBy 23 rfl) rfl
    · replace H := gift q H
      refine R_iload_n (gxd kX7_wentBy 8 rfl) rfl rfl ?_
      refine R_aload_n (gxd kX7_wentBy 9 rfl) rfl rfl ?_
      refine R_getr (gxd kX7_wentBy 10 rfl) gf_M_42 gk_65 (by decide) rfl ?_
      refine R_iload_n (gxd kX7_wentBy 11 rfl) rfl rfl ?_
      obtain ⟨b1, H⟩ := ggi H
      have b1 := gin_in b1
      refine R_iald (gxd kX7_wentBy 12 rfl) gk_75 b1 ?_
      refine R_iload_n (gxd kX7_wentBy 13 rfl) rfl rfl ?_
      refine R_icmp_ne (gxd kX7_wentBy 14 rfl) (tgt := 27) rfl (fun q => ?_) (fun q => ?_)
      · replace H := giff q H
        refine R_iconst (v := (0 : Int32)) (gxd kX7_wentBy 17 rfl) rfl ?_
        exact R_weak (gle_same (gle_same (gle_null (gle_same gle_nil)))) (fM_wentBy_28_ok ih  H)
      · replace H := gift q H
        refine R_iconst (v := (1 : Int32)) (gxd kX7_wentBy 15 rfl) rfl ?_
        refine R_goto (gxd kX7_wentBy 16 rfl) (tgt := 28) rfl ?_
        exact R_weak (gle_same (gle_same (gle_null (gle_same gle_nil)))) (fM_wentBy_28_ok ih  H)
def fM_wentBy (v1 : Int32) (h : gH) : Option (Int32 × gH) :=
  fM_wentBy_4 v1 gfu (0 : Int32) (0 : Int32) h
theorem fM_wentBy_ok {v1 : Int32} {h : gH} {x : (Int32 × gH)} (H : fM_wentBy v1 h = some x) (d : Nat) : gC yX7_wentBy cX7_wentBy 4 (some .int) (d + 0) [.ref 65, .int v1] h (some (.int x.1)) x.2 := by
  refine gC_of (by decide +kernel) (Nat.le_of_ble_eq_true rfl) rfl ?_
  unfold fM_wentBy at H
  refine R_iconst (v := (0 : Int32)) (gxd kX7_wentBy 0 rfl) rfl ?_
  refine R_istore_n (gxd kX7_wentBy 1 rfl) rfl rfl (Nat.le_of_ble_eq_true rfl) rfl ?_
  refine R_iconst (v := (0 : Int32)) (gxd kX7_wentBy 2 rfl) rfl ?_
  refine R_istore_n (gxd kX7_wentBy 3 rfl) rfl rfl (Nat.le_of_ble_eq_true rfl) rfl ?_
  exact R_weak (gle_same (gle_same (gle_same (gle_same gle_nil)))) (fM_wentBy_4_ok  gfu _ _ _ _  H)
def fM_told (v1 : Int32) (v2 : Int32) (h : gH) : Option (Int32 × gH) :=
  (fM_in v1.toInt64 (0 : Int64) (((h 65 8) - (1 : Int32)).toInt64) h).bind fun p1 =>
  if p1.1 = (0 : Int32) then
    some ((-2 : Int32), p1.2)
  else
    (fM_in v2.toInt64 (0 : Int64) (6 : Int64) p1.2).bind fun p3 =>
    if p3.1 = (0 : Int32) then
      some ((-2 : Int32), p3.2)
    else
      if v2 = (5 : Int32) then
        (fM_goesThrough v1 p3.2).bind fun h14 =>
        some ((h14 65 34), h14)
      else
        if v2 = (0 : Int32) then
          gg (gin v1 24) <|
          some ((p3.2 67 v1.toNatClampNeg), p3.2)
        else
          if v2 = (1 : Int32) then
            gg (gin v1 24) <|
            some ((p3.2 68 v1.toNatClampNeg), p3.2)
          else
            if v2 = (2 : Int32) then
              (fM_priority v1 p3.2).bind fun p10 =>
              some (p10.1, p10.2)
            else
              if v2 = (3 : Int32) then
                gg (gin v1 24) <|
                if (p3.2 71 v1.toNatClampNeg) = (0 : Int32) then
                  some ((0 : Int32), p3.2)
                else
                  some ((1 : Int32), p3.2)
              else
                if v2 = (4 : Int32) then
                  (fM_isIdle v1 p3.2).bind fun p7 =>
                  if p7.1 = (0 : Int32) then
                    some ((0 : Int32), p7.2)
                  else
                    some ((1 : Int32), p7.2)
                else
                  (fM_wentBy v1 p3.2).bind fun p5 =>
                  some (p5.1, p5.2)
theorem fM_told_ok {v1 : Int32} {v2 : Int32} {h : gH} {x : (Int32 × gH)} (H : fM_told v1 v2 h = some x) (d : Nat) : gC yX7_told cX7_told 3 (some .int) (d + 6) [.ref 65, .int v1, .int v2] h (some (.int x.1)) x.2 := by
  refine gC_of (by decide +kernel) (Nat.le_of_ble_eq_true rfl) rfl ?_
  unfold fM_told at H
  refine R_iload_n (gxd kX7_told 0 rfl) rfl rfl ?_
  refine R_i2l (gxd kX7_told 1 rfl) ?_
  refine R_lconst (v := (0 : Int64)) (gxd kX7_told 2 rfl) rfl ?_
  refine R_aload_n (gxd kX7_told 3 rfl) rfl rfl ?_
  refine R_geti (gxd kX7_told 4 rfl) gf_M_226 gk_65 (by decide) rfl ?_
  refine R_iconst (v := (1 : Int32)) (gxd kX7_told 5 rfl) rfl ?_
  refine R_isub (gxd kX7_told 6 rfl) ?_
  refine R_i2l (gxd kX7_told 7 rfl) ?_
  obtain ⟨p1, e2, H⟩ := gbi H
  refine R_callSi (gxd kX7_told 8 rfl) gm_M_140 wX7_in (by decide) rfl (Nat.le_of_ble_eq_true rfl) (by omega) (fM_in_ok  e2 (d + 5)) ?_
  refine R_if_eq (gxd kX7_told 9 rfl) (tgt := 28) rfl (fun q => ?_) (fun q => ?_)
  · replace H := gift q H
    refine R_bipush (v := (-2 : Int32)) (gxd kX7_told 16 rfl) rfl ?_
    obtain rfl := Option.some.inj H
    exact R_iret (gxd kX7_told 17 rfl) rfl
  · replace H := giff q H
    refine R_iload_n (gxd kX7_told 10 rfl) rfl rfl ?_
    refine R_i2l (gxd kX7_told 11 rfl) ?_
    refine R_lconst (v := (0 : Int64)) (gxd kX7_told 12 rfl) rfl ?_
    refine R_ldc2 (v := (6 : Int64)) (gxd kX7_told 13 rfl) gc_M_348 ?_
    obtain ⟨p3, e4, H⟩ := gbi H
    refine R_callSi (gxd kX7_told 14 rfl) gm_M_140 wX7_in (by decide) rfl (Nat.le_of_ble_eq_true rfl) (by omega) (fM_in_ok  e4 (d + 5)) ?_
    refine R_if_ne (gxd kX7_told 15 rfl) (tgt := 31) rfl (fun q => ?_) (fun q => ?_)
    · replace H := giff q H
      refine R_iload_n (gxd kX7_told 18 rfl) rfl rfl ?_
      refine R_iconst (v := (5 : Int32)) (gxd kX7_told 19 rfl) rfl ?_
      refine R_icmp_ne (gxd kX7_told 20 rfl) (tgt := 46) rfl (fun q => ?_) (fun q => ?_)
      · replace H := giff q H
        refine R_iload_n (gxd kX7_told 27 rfl) rfl rfl ?_
        refine R_if_ne (gxd kX7_told 28 rfl) (tgt := 59) rfl (fun q => ?_) (fun q => ?_)
        · replace H := giff q H
          refine R_iload_n (gxd kX7_told 34 rfl) rfl rfl ?_
          refine R_iconst (v := (1 : Int32)) (gxd kX7_told 35 rfl) rfl ?_
          refine R_icmp_ne (gxd kX7_told 36 rfl) (tgt := 73) rfl (fun q => ?_) (fun q => ?_)
          · replace H := giff q H
            refine R_iload_n (gxd kX7_told 42 rfl) rfl rfl ?_
            refine R_iconst (v := (2 : Int32)) (gxd kX7_told 43 rfl) rfl ?_
            refine R_icmp_ne (gxd kX7_told 44 rfl) (tgt := 86) rfl (fun q => ?_) (fun q => ?_)
            · replace H := giff q H
              refine R_iload_n (gxd kX7_told 49 rfl) rfl rfl ?_
              refine R_iconst (v := (3 : Int32)) (gxd kX7_told 50 rfl) rfl ?_
              refine R_icmp_ne (gxd kX7_told 51 rfl) (tgt := 108) rfl (fun q => ?_) (fun q => ?_)
              · replace H := giff q H
                refine R_iload_n (gxd kX7_told 61 rfl) rfl rfl ?_
                refine R_iconst (v := (4 : Int32)) (gxd kX7_told 62 rfl) rfl ?_
                refine R_icmp_ne (gxd kX7_told 63 rfl) (tgt := 129) rfl (fun q => ?_) (fun q => ?_)
                · replace H := giff q H
                  refine R_aload_n (gxd kX7_told 72 rfl) rfl rfl ?_
                  refine R_iload_n (gxd kX7_told 73 rfl) rfl rfl ?_
                  obtain ⟨p5, e6, H⟩ := gbi H
                  refine R_callVi (gxd kX7_told 74 rfl) gm_M_353 wX7_wentBy (by decide) gk_65 rfl rfl (Nat.le_of_ble_eq_true rfl) (by omega) (fM_wentBy_ok  e6 (d + 5)) ?_
                  obtain rfl := Option.some.inj H
                  exact R_iret (gxd kX7_told 75 rfl) rfl
                · replace H := gift q H
                  refine R_aload_n (gxd kX7_told 64 rfl) rfl rfl ?_
                  refine R_iload_n (gxd kX7_told 65 rfl) rfl rfl ?_
                  obtain ⟨p7, e8, H⟩ := gbi H
                  refine R_callVi (gxd kX7_told 66 rfl) gm_M_350 wX7_isIdle (by decide) gk_65 rfl rfl (Nat.le_of_ble_eq_true rfl) (by omega) (fM_isIdle_ok  e8 (d + 0)) ?_
                  refine R_if_eq (gxd kX7_told 67 rfl) (tgt := 125) rfl (fun q => ?_) (fun q => ?_)
                  · replace H := gift q H
                    refine R_iconst (v := (0 : Int32)) (gxd kX7_told 70 rfl) rfl ?_
                    refine R_goto (gxd kX7_told 71 rfl) (tgt := 134) rfl ?_
                    obtain rfl := Option.some.inj H
                    exact R_iret (gxd kX7_told 75 rfl) rfl
                  · replace H := giff q H
                    refine R_iconst (v := (1 : Int32)) (gxd kX7_told 68 rfl) rfl ?_
                    refine R_goto (gxd kX7_told 69 rfl) (tgt := 134) rfl ?_
                    obtain rfl := Option.some.inj H
                    exact R_iret (gxd kX7_told 75 rfl) rfl
              · replace H := gift q H
                refine R_aload_n (gxd kX7_told 52 rfl) rfl rfl ?_
                refine R_getr (gxd kX7_told 53 rfl) gf_M_30 gk_65 (by decide) rfl ?_
                refine R_iload_n (gxd kX7_told 54 rfl) rfl rfl ?_
                obtain ⟨b9, H⟩ := ggi H
                have b9 := gin_in b9
                refine R_zald (gxd kX7_told 55 rfl) gk_71 b9 ?_
                refine R_if_eq (gxd kX7_told 56 rfl) (tgt := 104) rfl (fun q => ?_) (fun q => ?_)
                · replace H := gift q H
                  refine R_iconst (v := (0 : Int32)) (gxd kX7_told 59 rfl) rfl ?_
                  refine R_goto (gxd kX7_told 60 rfl) (tgt := 134) rfl ?_
                  obtain rfl := Option.some.inj H
                  exact R_iret (gxd kX7_told 75 rfl) rfl
                · replace H := giff q H
                  refine R_iconst (v := (1 : Int32)) (gxd kX7_told 57 rfl) rfl ?_
                  refine R_goto (gxd kX7_told 58 rfl) (tgt := 134) rfl ?_
                  obtain rfl := Option.some.inj H
                  exact R_iret (gxd kX7_told 75 rfl) rfl
            · replace H := gift q H
              refine R_aload_n (gxd kX7_told 45 rfl) rfl rfl ?_
              refine R_iload_n (gxd kX7_told 46 rfl) rfl rfl ?_
              obtain ⟨p10, e11, H⟩ := gbi H
              refine R_callVi (gxd kX7_told 47 rfl) gm_M_293 wX7_priority (by decide) gk_65 rfl rfl (Nat.le_of_ble_eq_true rfl) (by omega) (fM_priority_ok  e11 (d + 4)) ?_
              refine R_goto (gxd kX7_told 48 rfl) (tgt := 134) rfl ?_
              obtain rfl := Option.some.inj H
              exact R_iret (gxd kX7_told 75 rfl) rfl
          · replace H := gift q H
            refine R_aload_n (gxd kX7_told 37 rfl) rfl rfl ?_
            refine R_getr (gxd kX7_told 38 rfl) gf_M_20 gk_65 (by decide) rfl ?_
            refine R_iload_n (gxd kX7_told 39 rfl) rfl rfl ?_
            obtain ⟨b12, H⟩ := ggi H
            have b12 := gin_in b12
            refine R_iald (gxd kX7_told 40 rfl) gk_68 b12 ?_
            refine R_goto (gxd kX7_told 41 rfl) (tgt := 134) rfl ?_
            obtain rfl := Option.some.inj H
            exact R_iret (gxd kX7_told 75 rfl) rfl
        · replace H := gift q H
          refine R_aload_n (gxd kX7_told 29 rfl) rfl rfl ?_
          refine R_getr (gxd kX7_told 30 rfl) gf_M_17 gk_65 (by decide) rfl ?_
          refine R_iload_n (gxd kX7_told 31 rfl) rfl rfl ?_
          obtain ⟨b13, H⟩ := ggi H
          have b13 := gin_in b13
          refine R_iald (gxd kX7_told 32 rfl) gk_67 b13 ?_
          refine R_goto (gxd kX7_told 33 rfl) (tgt := 134) rfl ?_
          obtain rfl := Option.some.inj H
          exact R_iret (gxd kX7_told 75 rfl) rfl
      · replace H := gift q H
        refine R_aload_n (gxd kX7_told 21 rfl) rfl rfl ?_
        refine R_iload_n (gxd kX7_told 22 rfl) rfl rfl ?_
        obtain ⟨h14, e15, H⟩ := gbi H
        refine R_callVv (gxd kX7_told 23 rfl) gm_M_279 wX7_goesThrough (by decide) gk_65 rfl rfl (Nat.le_of_ble_eq_true rfl) (by omega) (fM_goesThrough_ok  e15 (d + 3)) ?_
        refine R_aload_n (gxd kX7_told 24 rfl) rfl rfl ?_
        refine R_geti (gxd kX7_told 25 rfl) gf_M_250 gk_65 (by decide) rfl ?_
        obtain rfl := Option.some.inj H
        exact R_iret (gxd kX7_told 26 rfl) rfl
    · replace H := gift q H
      refine R_bipush (v := (-2 : Int32)) (gxd kX7_told 16 rfl) rfl ?_
      obtain rfl := Option.some.inj H
      exact R_iret (gxd kX7_told 17 rfl) rfl
def fM_ruleCount_4 (v1 : Int32) : Nat → Int32 → Int32 → gH → Option (Int32 × gH)
  | 0, _, _, _ => none
  | n + 1, v2, v3, h =>
    if v3 < (h 65 8) then
      gg (gin v3 24) <|
      fM_ruleCount_4 v1 n (v2 + (((h 68 v3.toNatClampNeg) >>> (v1 &&& 31)) &&& (1 : Int32))) (v3 + (1 : Int32)) h
    else
      some (v2, h)
theorem fM_ruleCount_4_ok {d : Nat} {v1 : Int32}  : ∀ (n : Nat) (v2 : Int32) (v3 : Int32) (h : gH) (x : (Int32 × gH)), fM_ruleCount_4 v1 n v2 v3 h = some x → gR RX7 cX7_ruleCount 4 (some .int) (d + 0) 4 [.ref 65, .int v1, .int v2, .int v3] [] h (some (.int x.1)) x.2 := by
  intro n
  induction n with
  | zero => intro v2 v3 h x  H; exact g0 H
  | succ n ih =>
    intro v2 v3 h x  H
    unfold fM_ruleCount_4 at H
    refine R_iload_n (gxd kX7_ruleCount 4 rfl) rfl rfl ?_
    refine R_aload_n (gxd kX7_ruleCount 5 rfl) rfl rfl ?_
    refine R_geti (gxd kX7_ruleCount 6 rfl) gf_M_226 gk_65 (by decide) rfl ?_
    refine R_icmp_ge (gxd kX7_ruleCount 7 rfl) (tgt := 31) rfl (fun q => ?_) (fun q => ?_)
    · replace H := giff q H
      refine R_iload_n (gxd kX7_ruleCount 21 rfl) rfl rfl ?_
      obtain rfl := Option.some.inj H
      exact R_iret (gxd kX7_ruleCount 22 rfl) rfl
    · replace H := gift q H
      refine R_iload_n (gxd kX7_ruleCount 8 rfl) rfl rfl ?_
      refine R_aload_n (gxd kX7_ruleCount 9 rfl) rfl rfl ?_
      refine R_getr (gxd kX7_ruleCount 10 rfl) gf_M_20 gk_65 (by decide) rfl ?_
      refine R_iload_n (gxd kX7_ruleCount 11 rfl) rfl rfl ?_
      obtain ⟨b1, H⟩ := ggi H
      have b1 := gin_in b1
      refine R_iald (gxd kX7_ruleCount 12 rfl) gk_68 b1 ?_
      refine R_iload_n (gxd kX7_ruleCount 13 rfl) rfl rfl ?_
      refine R_ishr (gxd kX7_ruleCount 14 rfl) ?_
      refine R_iconst (v := (1 : Int32)) (gxd kX7_ruleCount 15 rfl) rfl ?_
      refine R_iand (gxd kX7_ruleCount 16 rfl) ?_
      refine R_iadd (gxd kX7_ruleCount 17 rfl) ?_
      refine R_istore_n (gxd kX7_ruleCount 18 rfl) rfl rfl (Nat.le_of_ble_eq_true rfl) rfl ?_
      refine R_iinc (v := (v3 + (1 : Int32))) (gxd kX7_ruleCount 19 rfl) rfl rfl rfl (Nat.le_of_ble_eq_true rfl) rfl ?_
      refine R_goto (gxd kX7_ruleCount 20 rfl) (tgt := 4) rfl ?_
      exact R_weak (gle_same (gle_same (gle_same (gle_same gle_nil)))) (ih _ _ _ _  H)
def fM_ruleCount (v1 : Int32) (h : gH) : Option (Int32 × gH) :=
  fM_ruleCount_4 v1 gfu (0 : Int32) (0 : Int32) h
theorem fM_ruleCount_ok {v1 : Int32} {h : gH} {x : (Int32 × gH)} (H : fM_ruleCount v1 h = some x) (d : Nat) : gC yX7_ruleCount cX7_ruleCount 4 (some .int) (d + 0) [.ref 65, .int v1] h (some (.int x.1)) x.2 := by
  refine gC_of (by decide +kernel) (Nat.le_of_ble_eq_true rfl) rfl ?_
  unfold fM_ruleCount at H
  refine R_iconst (v := (0 : Int32)) (gxd kX7_ruleCount 0 rfl) rfl ?_
  refine R_istore_n (gxd kX7_ruleCount 1 rfl) rfl rfl (Nat.le_of_ble_eq_true rfl) rfl ?_
  refine R_iconst (v := (0 : Int32)) (gxd kX7_ruleCount 2 rfl) rfl ?_
  refine R_istore_n (gxd kX7_ruleCount 3 rfl) rfl rfl (Nat.le_of_ble_eq_true rfl) rfl ?_
  exact R_weak (gle_same (gle_same (gle_same (gle_same gle_nil)))) (fM_ruleCount_4_ok  gfu _ _ _ _  H)
def fM_chosen_85 (k6 : Int32 → Int32 → Int32 → gH → Option (Int32 × gH)) (v3 : Int32) (v5 : Int32) (h : gH) : Option (Int32 × gH) :=
  k6 v3 v5 (v3 + (1 : Int32)) h
theorem fM_chosen_85_ok {d : Nat} {k6 : Int32 → Int32 → Int32 → gH → Option (Int32 × gH)} {v3 : Int32} {v5 : Int32} (hk6 : ∀ (u1 : Int32) (u2 : Int32) (u3 : Int32) (h : gH) (x : (Int32 × gH)), k6 u1 u2 u3 h = some x → gR RX7 cX7_chosen 6 (some .int) (d + 1) 6 [.ref 65, .int u1, .int u2, .int u3, .null, .null] [] h (some (.int x.1)) x.2) {h : gH} {x : (Int32 × gH)} (H : fM_chosen_85 k6 v3 v5  h = some x) : gR RX7 cX7_chosen 6 (some .int) (d + 1) 85 [.ref 65, .null, .null, .int v3, .null, .int v5] [] h (some (.int x.1)) x.2 := by
  unfold fM_chosen_85 at H
  refine R_iload_n (gxd kX7_chosen 46 rfl) rfl rfl ?_
  refine R_istore_n (gxd kX7_chosen 47 rfl) rfl rfl (Nat.le_of_ble_eq_true rfl) rfl ?_
  refine R_iload (gxd kX7_chosen 48 rfl) rfl ?_
  refine R_istore_n (gxd kX7_chosen 49 rfl) rfl rfl (Nat.le_of_ble_eq_true rfl) rfl ?_
  refine R_iinc (v := (v3 + (1 : Int32))) (gxd kX7_chosen 50 rfl) rfl rfl rfl (Nat.le_of_ble_eq_true rfl) rfl ?_
  refine R_goto (gxd kX7_chosen 51 rfl) (tgt := 6) rfl ?_
  exact R_weak (gle_same (gle_same (gle_same (gle_same (gle_null (gle_null gle_nil)))))) (hk6 _ _ _ _ _  H)
def fM_chosen_66 (k6 : Int32 → Int32 → Int32 → gH → Option (Int32 × gH)) (v1 : Int32) (v2 : Int32) (v3 : Int32) (v4 : Int32) (s0 : Int32) (h : gH) : Option (Int32 × gH) :=
  if v4 = (1 : Int32) then
    k6 v1 v2 (v3 + (1 : Int32)) h
  else
    if v1 = (-1 : Int32) then
      fM_chosen_85 k6 v3 s0 h
    else
      if v2 < s0 then
        fM_chosen_85 k6 v3 s0 h
      else
        k6 v1 v2 (v3 + (1 : Int32)) h
theorem fM_chosen_66_ok {d : Nat} {k6 : Int32 → Int32 → Int32 → gH → Option (Int32 × gH)} {v1 : Int32} {v2 : Int32} {v3 : Int32} {v4 : Int32} {s0 : Int32} (hk6 : ∀ (u1 : Int32) (u2 : Int32) (u3 : Int32) (h : gH) (x : (Int32 × gH)), k6 u1 u2 u3 h = some x → gR RX7 cX7_chosen 6 (some .int) (d + 1) 6 [.ref 65, .int u1, .int u2, .int u3, .null, .null] [] h (some (.int x.1)) x.2) {h : gH} {x : (Int32 × gH)} (H : fM_chosen_66 k6 v1 v2 v3 v4 s0 h = some x) : gR RX7 cX7_chosen 6 (some .int) (d + 1) 66 [.ref 65, .int v1, .int v2, .int v3, .int v4, .null] [.int s0] h (some (.int x.1)) x.2 := by
  unfold fM_chosen_66 at H
  refine R_istore (gxd kX7_chosen 36 rfl) rfl (Nat.le_of_ble_eq_true rfl) rfl ?_
  refine R_iload (gxd kX7_chosen 37 rfl) rfl ?_
  refine R_iconst (v := (1 : Int32)) (gxd kX7_chosen 38 rfl) rfl ?_
  refine R_icmp_eq (gxd kX7_chosen 39 rfl) (tgt := 90) rfl (fun q => ?_) (fun q => ?_)
  · replace H := gift q H
    refine R_iinc (v := (v3 + (1 : Int32))) (gxd kX7_chosen 50 rfl) rfl rfl rfl (Nat.le_of_ble_eq_true rfl) rfl ?_
    refine R_goto (gxd kX7_chosen 51 rfl) (tgt := 6) rfl ?_
    exact R_weak (gle_same (gle_same (gle_same (gle_same (gle_null (gle_null gle_nil)))))) (hk6 _ _ _ _ _  H)
  · replace H := giff q H
    refine R_iload_n (gxd kX7_chosen 40 rfl) rfl rfl ?_
    refine R_iconst (v := (-1 : Int32)) (gxd kX7_chosen 41 rfl) rfl ?_
    refine R_icmp_eq (gxd kX7_chosen 42 rfl) (tgt := 85) rfl (fun q => ?_) (fun q => ?_)
    · replace H := gift q H
      exact R_weak (gle_same (gle_null (gle_null (gle_same (gle_null (gle_same gle_nil)))))) (fM_chosen_85_ok hk6  H)
    · replace H := giff q H
      refine R_iload (gxd kX7_chosen 43 rfl) rfl ?_
      refine R_iload_n (gxd kX7_chosen 44 rfl) rfl rfl ?_
      refine R_icmp_le (gxd kX7_chosen 45 rfl) (tgt := 90) rfl (fun q => ?_) (fun q => ?_)
      · replace H := giff q H
        refine R_iinc (v := (v3 + (1 : Int32))) (gxd kX7_chosen 50 rfl) rfl rfl rfl (Nat.le_of_ble_eq_true rfl) rfl ?_
        refine R_goto (gxd kX7_chosen 51 rfl) (tgt := 6) rfl ?_
        exact R_weak (gle_same (gle_same (gle_same (gle_same (gle_null (gle_null gle_nil)))))) (hk6 _ _ _ _ _  H)
      · replace H := gift q H
        exact R_weak (gle_same (gle_null (gle_null (gle_same (gle_null (gle_same gle_nil)))))) (fM_chosen_85_ok hk6  H)
def fM_chosen_6 : Nat → Int32 → Int32 → Int32 → gH → Option (Int32 × gH)
  | 0, _, _, _, _ => none
  | n + 1, v1, v2, v3, h =>
    if v3 < (8 : Int32) then
      gg (gin v3 8) <|
      (fM_bitsOf (h 66 v3.toNatClampNeg) h).bind fun p2 =>
      if (p2.2 65 44) = (0 : Int32) then
        fM_chosen_66 (fM_chosen_6 n) v1 v2 v3 p2.1 (0 : Int32) p2.2
      else
        if (p2.2 65 44) = (1 : Int32) then
          fM_chosen_66 (fM_chosen_6 n) v1 v2 v3 p2.1 (-p2.1) p2.2
        else
          if (p2.2 65 44) = (2 : Int32) then
            fM_chosen_66 (fM_chosen_6 n) v1 v2 v3 p2.1 p2.1 p2.2
          else
            (fM_ruleCount v3 p2.2).bind fun p4 =>
            fM_chosen_66 (fM_chosen_6 n) v1 v2 v3 p2.1 p4.1 p4.2
    else
      some (v1, h)
theorem fM_chosen_6_ok {d : Nat}  : ∀ (n : Nat) (v1 : Int32) (v2 : Int32) (v3 : Int32) (h : gH) (x : (Int32 × gH)), fM_chosen_6  n v1 v2 v3 h = some x → gR RX7 cX7_chosen 6 (some .int) (d + 1) 6 [.ref 65, .int v1, .int v2, .int v3, .null, .null] [] h (some (.int x.1)) x.2 := by
  intro n
  induction n with
  | zero => intro v1 v2 v3 h x  H; exact g0 H
  | succ n ih =>
    intro v1 v2 v3 h x  H
    unfold fM_chosen_6 at H
    refine R_iload_n (gxd kX7_chosen 6 rfl) rfl rfl ?_
    refine R_bipush (v := (8 : Int32)) (gxd kX7_chosen 7 rfl) rfl ?_
    refine R_icmp_ge (gxd kX7_chosen 8 rfl) (tgt := 96) rfl (fun q => ?_) (fun q => ?_)
    · replace H := giff q H
      refine R_iload_n (gxd kX7_chosen 52 rfl) rfl rfl ?_
      obtain rfl := Option.some.inj H
      exact R_iret (gxd kX7_chosen 53 rfl) rfl
    · replace H := gift q H
      refine R_aload_n (gxd kX7_chosen 9 rfl) rfl rfl ?_
      refine R_getr (gxd kX7_chosen 10 rfl) gf_M_13 gk_65 (by decide) rfl ?_
      refine R_iload_n (gxd kX7_chosen 11 rfl) rfl rfl ?_
      obtain ⟨b1, H⟩ := ggi H
      have b1 := gin_in b1
      refine R_iald (gxd kX7_chosen 12 rfl) gk_66 b1 ?_
      obtain ⟨p2, e3, H⟩ := gbi H
      refine R_callSi (gxd kX7_chosen 13 rfl) gm_M_189 wX7_bitsOf (by decide) rfl (Nat.le_of_ble_eq_true rfl) (by omega) (fM_bitsOf_ok  e3 (d + 0)) ?_
      refine R_istore (gxd kX7_chosen 14 rfl) rfl (Nat.le_of_ble_eq_true rfl) rfl ?_
      refine R_aload_n (gxd kX7_chosen 15 rfl) rfl rfl ?_
      refine R_geti (gxd kX7_chosen 16 rfl) gf_M_356 gk_65 (by decide) rfl ?_
      refine R_if_ne (gxd kX7_chosen 17 rfl) (tgt := 34) rfl (fun q => ?_) (fun q => ?_)
      · replace H := giff q H
        refine R_aload_n (gxd kX7_chosen 20 rfl) rfl rfl ?_
        refine R_geti (gxd kX7_chosen 21 rfl) gf_M_356 gk_65 (by decide) rfl ?_
        refine R_iconst (v := (1 : Int32)) (gxd kX7_chosen 22 rfl) rfl ?_
        refine R_icmp_ne (gxd kX7_chosen 23 rfl) (tgt := 48) rfl (fun q => ?_) (fun q => ?_)
        · replace H := giff q H
          refine R_aload_n (gxd kX7_chosen 27 rfl) rfl rfl ?_
          refine R_geti (gxd kX7_chosen 28 rfl) gf_M_356 gk_65 (by decide) rfl ?_
          refine R_iconst (v := (2 : Int32)) (gxd kX7_chosen 29 rfl) rfl ?_
          refine R_icmp_ne (gxd kX7_chosen 30 rfl) (tgt := 61) rfl (fun q => ?_) (fun q => ?_)
          · replace H := giff q H
            refine R_aload_n (gxd kX7_chosen 33 rfl) rfl rfl ?_
            refine R_iload_n (gxd kX7_chosen 34 rfl) rfl rfl ?_
            obtain ⟨p4, e5, H⟩ := gbi H
            refine R_callVi (gxd kX7_chosen 35 rfl) gm_M_359 wX7_ruleCount (by decide) gk_65 rfl rfl (Nat.le_of_ble_eq_true rfl) (by omega) (fM_ruleCount_ok  e5 (d + 0)) ?_
            exact R_weak (gle_same (gle_same (gle_same (gle_same (gle_same (gle_null gle_nil)))))) (fM_chosen_66_ok ih  H)
          · replace H := gift q H
            refine R_iload (gxd kX7_chosen 31 rfl) rfl ?_
            refine R_goto (gxd kX7_chosen 32 rfl) (tgt := 66) rfl ?_
            exact R_weak (gle_same (gle_same (gle_same (gle_same (gle_same (gle_null gle_nil)))))) (fM_chosen_66_ok ih  H)
        · replace H := gift q H
          refine R_iload (gxd kX7_chosen 24 rfl) rfl ?_
          refine R_ineg (gxd kX7_chosen 25 rfl) ?_
          refine R_goto (gxd kX7_chosen 26 rfl) (tgt := 66) rfl ?_
          exact R_weak (gle_same (gle_same (gle_same (gle_same (gle_same (gle_null gle_nil)))))) (fM_chosen_66_ok ih  H)
      · replace H := gift q H
        refine R_iconst (v := (0 : Int32)) (gxd kX7_chosen 18 rfl) rfl ?_
        refine R_goto (gxd kX7_chosen 19 rfl) (tgt := 66) rfl ?_
        exact R_weak (gle_same (gle_same (gle_same (gle_same (gle_same (gle_null gle_nil)))))) (fM_chosen_66_ok ih  H)
def fM_chosen (h : gH) : Option (Int32 × gH) :=
  fM_chosen_6 gfu (-1 : Int32) (0 : Int32) (0 : Int32) h
theorem fM_chosen_ok {h : gH} {x : (Int32 × gH)} (H : fM_chosen  h = some x) (d : Nat) : gC yX7_chosen cX7_chosen 6 (some .int) (d + 1) [.ref 65] h (some (.int x.1)) x.2 := by
  refine gC_of (by decide +kernel) (Nat.le_of_ble_eq_true rfl) rfl ?_
  unfold fM_chosen at H
  refine R_iconst (v := (-1 : Int32)) (gxd kX7_chosen 0 rfl) rfl ?_
  refine R_istore_n (gxd kX7_chosen 1 rfl) rfl rfl (Nat.le_of_ble_eq_true rfl) rfl ?_
  refine R_iconst (v := (0 : Int32)) (gxd kX7_chosen 2 rfl) rfl ?_
  refine R_istore_n (gxd kX7_chosen 3 rfl) rfl rfl (Nat.le_of_ble_eq_true rfl) rfl ?_
  refine R_iconst (v := (0 : Int32)) (gxd kX7_chosen 4 rfl) rfl ?_
  refine R_istore_n (gxd kX7_chosen 5 rfl) rfl rfl (Nat.le_of_ble_eq_true rfl) rfl ?_
  exact R_weak (gle_same (gle_same (gle_same (gle_same (gle_null (gle_null gle_nil)))))) (fM_chosen_6_ok  gfu _ _ _ _ _  H)
def fM_picked_42 (v1 : Int32) : Nat → Int32 → Int32 → gH → Option (Int32 × gH)
  | 0, _, _, _ => none
  | n + 1, v3, v4, h =>
    if v4 < (10 : Int32) then
      gg (gin v1 8) <|
      if (((h 66 v1.toNatClampNeg) >>> (v4 &&& 31)) &&& (1 : Int32)) = (1 : Int32) then
        if v3 = (0 : Int32) then
          some (v4, h)
        else
          fM_picked_42 v1 n (v3 + (-1 : Int32)) (v4 + (1 : Int32)) h
      else
        fM_picked_42 v1 n v3 (v4 + (1 : Int32)) h
    else
      some ((-1 : Int32), h)
theorem fM_picked_42_ok {d : Nat} {v1 : Int32}  : ∀ (n : Nat) (v3 : Int32) (v4 : Int32) (h : gH) (x : (Int32 × gH)), fM_picked_42 v1 n v3 v4 h = some x → gR RX7 cX7_picked 5 (some .int) (d + 1) 42 [.ref 65, .int v1, .null, .int v3, .int v4] [] h (some (.int x.1)) x.2 := by
  intro n
  induction n with
  | zero => intro v3 v4 h x  H; exact g0 H
  | succ n ih =>
    intro v3 v4 h x  H
    unfold fM_picked_42 at H
    refine R_iload (gxd kX7_picked 25 rfl) rfl ?_
    refine R_bipush (v := (10 : Int32)) (gxd kX7_picked 26 rfl) rfl ?_
    refine R_icmp_ge (gxd kX7_picked 27 rfl) (tgt := 80) rfl (fun q => ?_) (fun q => ?_)
    · replace H := giff q H
      refine R_iconst (v := (-1 : Int32)) (gxd kX7_picked 45 rfl) rfl ?_
      obtain rfl := Option.some.inj H
      exact R_iret (gxd kX7_picked 46 rfl) rfl
    · replace H := gift q H
      refine R_aload_n (gxd kX7_picked 28 rfl) rfl rfl ?_
      refine R_getr (gxd kX7_picked 29 rfl) gf_M_13 gk_65 (by decide) rfl ?_
      refine R_iload_n (gxd kX7_picked 30 rfl) rfl rfl ?_
      obtain ⟨b4, H⟩ := ggi H
      have b4 := gin_in b4
      refine R_iald (gxd kX7_picked 31 rfl) gk_66 b4 ?_
      refine R_iload (gxd kX7_picked 32 rfl) rfl ?_
      refine R_ishr (gxd kX7_picked 33 rfl) ?_
      refine R_iconst (v := (1 : Int32)) (gxd kX7_picked 34 rfl) rfl ?_
      refine R_iand (gxd kX7_picked 35 rfl) ?_
      refine R_iconst (v := (1 : Int32)) (gxd kX7_picked 36 rfl) rfl ?_
      refine R_icmp_ne (gxd kX7_picked 37 rfl) (tgt := 74) rfl (fun q => ?_) (fun q => ?_)
      · replace H := giff q H
        refine R_iinc (v := (v4 + (1 : Int32))) (gxd kX7_picked 43 rfl) rfl rfl rfl (Nat.le_of_ble_eq_true rfl) rfl ?_
        refine R_goto (gxd kX7_picked 44 rfl) (tgt := 42) rfl ?_
        exact R_weak (gle_same (gle_same (gle_null (gle_same (gle_same gle_nil))))) (ih _ _ _ _  H)
      · replace H := gift q H
        refine R_iload_n (gxd kX7_picked 38 rfl) rfl rfl ?_
        refine R_if_ne (gxd kX7_picked 39 rfl) (tgt := 71) rfl (fun q => ?_) (fun q => ?_)
        · replace H := giff q H
          refine R_iinc (v := (v3 + (-1 : Int32))) (gxd kX7_picked 42 rfl) rfl rfl rfl (Nat.le_of_ble_eq_true rfl) rfl ?_
          refine R_iinc (v := (v4 + (1 : Int32))) (gxd kX7_picked 43 rfl) rfl rfl rfl (Nat.le_of_ble_eq_true rfl) rfl ?_
          refine R_goto (gxd kX7_picked 44 rfl) (tgt := 42) rfl ?_
          exact R_weak (gle_same (gle_same (gle_null (gle_same (gle_same gle_nil))))) (ih _ _ _ _  H)
        · replace H := gift q H
          refine R_iload (gxd kX7_picked 40 rfl) rfl ?_
          obtain rfl := Option.some.inj H
          exact R_iret (gxd kX7_picked 41 rfl) rfl
def fM_picked_38 (v1 : Int32) (s0 : Int32) (h : gH) : Option (Int32 × gH) :=
  fM_picked_42 v1 gfu s0 (0 : Int32) h
theorem fM_picked_38_ok {d : Nat} {v1 : Int32} {s0 : Int32}  {h : gH} {x : (Int32 × gH)} (H : fM_picked_38 v1 s0 h = some x) : gR RX7 cX7_picked 5 (some .int) (d + 1) 38 [.ref 65, .int v1, .null, .null, .null] [.int s0] h (some (.int x.1)) x.2 := by
  unfold fM_picked_38 at H
  refine R_istore_n (gxd kX7_picked 22 rfl) rfl rfl (Nat.le_of_ble_eq_true rfl) rfl ?_
  refine R_iconst (v := (0 : Int32)) (gxd kX7_picked 23 rfl) rfl ?_
  refine R_istore (gxd kX7_picked 24 rfl) rfl (Nat.le_of_ble_eq_true rfl) rfl ?_
  exact R_weak (gle_same (gle_same (gle_null (gle_same (gle_same gle_nil))))) (fM_picked_42_ok  gfu _ _ _ _  H)
def fM_picked (v1 : Int32) (h : gH) : Option (Int32 × gH) :=
  gg (gin v1 8) <|
  (fM_bitsOf (h 66 v1.toNatClampNeg) h).bind fun p2 =>
  if (p2.2 65 45) = (0 : Int32) then
    fM_picked_38 v1 (0 : Int32) p2.2
  else
    if (p2.2 65 45) = (1 : Int32) then
      fM_picked_38 v1 (p2.1 - (1 : Int32)) p2.2
    else
      fM_picked_38 v1 (p2.1 / (2 : Int32)) p2.2
theorem fM_picked_ok {v1 : Int32} {h : gH} {x : (Int32 × gH)} (H : fM_picked v1 h = some x) (d : Nat) : gC yX7_picked cX7_picked 5 (some .int) (d + 1) [.ref 65, .int v1] h (some (.int x.1)) x.2 := by
  refine gC_of (by decide +kernel) (Nat.le_of_ble_eq_true rfl) rfl ?_
  unfold fM_picked at H
  refine R_aload_n (gxd kX7_picked 0 rfl) rfl rfl ?_
  refine R_getr (gxd kX7_picked 1 rfl) gf_M_13 gk_65 (by decide) rfl ?_
  refine R_iload_n (gxd kX7_picked 2 rfl) rfl rfl ?_
  obtain ⟨b1, H⟩ := ggi H
  have b1 := gin_in b1
  refine R_iald (gxd kX7_picked 3 rfl) gk_66 b1 ?_
  obtain ⟨p2, e3, H⟩ := gbi H
  refine R_callSi (gxd kX7_picked 4 rfl) gm_M_189 wX7_bitsOf (by decide) rfl (Nat.le_of_ble_eq_true rfl) (by omega) (fM_bitsOf_ok  e3 (d + 0)) ?_
  refine R_istore_n (gxd kX7_picked 5 rfl) rfl rfl (Nat.le_of_ble_eq_true rfl) rfl ?_
  refine R_aload_n (gxd kX7_picked 6 rfl) rfl rfl ?_
  refine R_geti (gxd kX7_picked 7 rfl) gf_M_362 gk_65 (by decide) rfl ?_
  refine R_if_ne (gxd kX7_picked 8 rfl) (tgt := 21) rfl (fun q => ?_) (fun q => ?_)
  · replace H := giff q H
    refine R_aload_n (gxd kX7_picked 11 rfl) rfl rfl ?_
    refine R_geti (gxd kX7_picked 12 rfl) gf_M_362 gk_65 (by decide) rfl ?_
    refine R_iconst (v := (1 : Int32)) (gxd kX7_picked 13 rfl) rfl ?_
    refine R_icmp_ne (gxd kX7_picked 14 rfl) (tgt := 35) rfl (fun q => ?_) (fun q => ?_)
    · replace H := giff q H
      refine R_iload_n (gxd kX7_picked 19 rfl) rfl rfl ?_
      refine R_iconst (v := (2 : Int32)) (gxd kX7_picked 20 rfl) rfl ?_
      refine R_idiv (gxd kX7_picked 21 rfl) (by decide) ?_
      exact R_weak (gle_same (gle_same (gle_null (gle_null (gle_null gle_nil))))) (fM_picked_38_ok  H)
    · replace H := gift q H
      refine R_iload_n (gxd kX7_picked 15 rfl) rfl rfl ?_
      refine R_iconst (v := (1 : Int32)) (gxd kX7_picked 16 rfl) rfl ?_
      refine R_isub (gxd kX7_picked 17 rfl) ?_
      refine R_goto (gxd kX7_picked 18 rfl) (tgt := 38) rfl ?_
      exact R_weak (gle_same (gle_same (gle_null (gle_null (gle_null gle_nil))))) (fM_picked_38_ok  H)
  · replace H := gift q H
    refine R_iconst (v := (0 : Int32)) (gxd kX7_picked 9 rfl) rfl ?_
    refine R_goto (gxd kX7_picked 10 rfl) (tgt := 38) rfl ?_
    exact R_weak (gle_same (gle_same (gle_null (gle_null (gle_null gle_nil))))) (fM_picked_38_ok  H)
def fM_runsAll_5 : Nat → Int32 → gH → Option gH
  | 0, _, _ => none
  | n + 1, v1, h =>
    if v1 = (-1 : Int32) then
      some h
    else
      gg (gin v1 24) <|
      glet (hu h 71 v1.toNatClampNeg (0 : Int32)) fun h4 =>
      (fM_prunes v1 h4).bind fun h6 =>
      (fM_nextRule h6).bind fun p8 =>
      fM_runsAll_5 n p8.1 p8.2
theorem fM_runsAll_5_ok {d : Nat}  : ∀ (n : Nat) (v1 : Int32) (h : gH) (x : gH), fM_runsAll_5  n v1 h = some x → gR RX7 cX7_runsAll 2 none (d + 4) 5 [.ref 65, .int v1] [] h none x := by
  intro n
  induction n with
  | zero => intro v1 h x  H; exact g0 H
  | succ n ih =>
    intro v1 h x  H
    unfold fM_runsAll_5 at H
    refine R_iload_n (gxd kX7_runsAll 3 rfl) rfl rfl ?_
    refine R_iconst (v := (-1 : Int32)) (gxd kX7_runsAll 4 rfl) rfl ?_
    refine R_icmp_eq (gxd kX7_runsAll 5 rfl) (tgt := 30) rfl (fun q => ?_) (fun q => ?_)
    · replace H := gift q H
      obtain rfl := Option.some.inj H
      exact R_vret (gxd kX7_runsAll 18 rfl) rfl
    · replace H := giff q H
      refine R_aload_n (gxd kX7_runsAll 6 rfl) rfl rfl ?_
      refine R_getr (gxd kX7_runsAll 7 rfl) gf_M_30 gk_65 (by decide) rfl ?_
      refine R_iload_n (gxd kX7_runsAll 8 rfl) rfl rfl ?_
      refine R_iconst (v := (0 : Int32)) (gxd kX7_runsAll 9 rfl) rfl ?_
      obtain ⟨b3, H⟩ := ggi H
      have b3 := gin_in b3
      refine R_zast (gxd kX7_runsAll 10 rfl) gk_71 b3 (Or.inl rfl) ?_
      obtain ⟨h4, e5, H⟩ := glei H
      refine R_heq e5 ?_
      refine R_aload_n (gxd kX7_runsAll 11 rfl) rfl rfl ?_
      refine R_iload_n (gxd kX7_runsAll 12 rfl) rfl rfl ?_
      obtain ⟨h6, e7, H⟩ := gbi H
      refine R_callVv (gxd kX7_runsAll 13 rfl) gm_M_302 wX7_prunes (by decide) gk_65 rfl rfl (Nat.le_of_ble_eq_true rfl) (by omega) (fM_prunes_ok  e7 (d + 0)) ?_
      refine R_aload_n (gxd kX7_runsAll 14 rfl) rfl rfl ?_
      obtain ⟨p8, e9, H⟩ := gbi H
      refine R_callVi (gxd kX7_runsAll 15 rfl) gm_M_296 wX7_nextRule (by decide) gk_65 rfl rfl (Nat.le_of_ble_eq_true rfl) (by omega) (fM_nextRule_ok  e9 (d + 1)) ?_
      refine R_istore_n (gxd kX7_runsAll 16 rfl) rfl rfl (Nat.le_of_ble_eq_true rfl) rfl ?_
      refine R_goto (gxd kX7_runsAll 17 rfl) (tgt := 5) rfl ?_
      exact R_weak (gle_same (gle_same gle_nil)) (ih _ _ _  H)
def fM_runsAll (h : gH) : Option gH :=
  (fM_nextRule h).bind fun p1 =>
  fM_runsAll_5 gfu p1.1 p1.2
theorem fM_runsAll_ok {h : gH} {x : gH} (H : fM_runsAll  h = some x) (d : Nat) : gC yX7_runsAll cX7_runsAll 2 none (d + 4) [.ref 65] h none x := by
  refine gC_of (by decide +kernel) (Nat.le_of_ble_eq_true rfl) rfl ?_
  unfold fM_runsAll at H
  refine R_aload_n (gxd kX7_runsAll 0 rfl) rfl rfl ?_
  obtain ⟨p1, e2, H⟩ := gbi H
  refine R_callVi (gxd kX7_runsAll 1 rfl) gm_M_296 wX7_nextRule (by decide) gk_65 rfl rfl (Nat.le_of_ble_eq_true rfl) (by omega) (fM_nextRule_ok  e2 (d + 1)) ?_
  refine R_istore_n (gxd kX7_runsAll 2 rfl) rfl rfl (Nat.le_of_ble_eq_true rfl) rfl ?_
  exact R_weak (gle_same (gle_same gle_nil)) (fM_runsAll_5_ok  gfu _ _ _  H)
def fM_lowest_2 (v0 : Int32) : Nat → Int32 → gH → Option (Int32 × gH)
  | 0, _, _ => none
  | n + 1, v1, h =>
    if ((v0 >>> (v1 &&& 31)) &&& (1 : Int32)) = (0 : Int32) then
      fM_lowest_2 v0 n (v1 + (1 : Int32)) h
    else
      some (v1, h)
theorem fM_lowest_2_ok {d : Nat} {v0 : Int32}  : ∀ (n : Nat) (v1 : Int32) (h : gH) (x : (Int32 × gH)), fM_lowest_2 v0 n v1 h = some x → gR RX7 cX7_lowest 2 (some .int) (d + 0) 2 [.int v0, .int v1] [] h (some (.int x.1)) x.2 := by
  intro n
  induction n with
  | zero => intro v1 h x  H; exact g0 H
  | succ n ih =>
    intro v1 h x  H
    unfold fM_lowest_2 at H
    refine R_iload_n (gxd kX7_lowest 2 rfl) rfl rfl ?_
    refine R_iload_n (gxd kX7_lowest 3 rfl) rfl rfl ?_
    refine R_ishr (gxd kX7_lowest 4 rfl) ?_
    refine R_iconst (v := (1 : Int32)) (gxd kX7_lowest 5 rfl) rfl ?_
    refine R_iand (gxd kX7_lowest 6 rfl) ?_
    refine R_if_ne (gxd kX7_lowest 7 rfl) (tgt := 16) rfl (fun q => ?_) (fun q => ?_)
    · replace H := giff q H
      refine R_iload_n (gxd kX7_lowest 10 rfl) rfl rfl ?_
      obtain rfl := Option.some.inj H
      exact R_iret (gxd kX7_lowest 11 rfl) rfl
    · replace H := gift q H
      refine R_iinc (v := (v1 + (1 : Int32))) (gxd kX7_lowest 8 rfl) rfl rfl rfl (Nat.le_of_ble_eq_true rfl) rfl ?_
      refine R_goto (gxd kX7_lowest 9 rfl) (tgt := 2) rfl ?_
      exact R_weak (gle_same (gle_same gle_nil)) (ih _ _ _  H)
def fM_lowest (v0 : Int32) (h : gH) : Option (Int32 × gH) :=
  fM_lowest_2 v0 gfu (0 : Int32) h
theorem fM_lowest_ok {v0 : Int32} {h : gH} {x : (Int32 × gH)} (H : fM_lowest v0 h = some x) (d : Nat) : gC yX7_lowest cX7_lowest 2 (some .int) (d + 0) [.int v0] h (some (.int x.1)) x.2 := by
  refine gC_of (by decide +kernel) (Nat.le_of_ble_eq_true rfl) rfl ?_
  unfold fM_lowest at H
  refine R_iconst (v := (0 : Int32)) (gxd kX7_lowest 0 rfl) rfl ?_
  refine R_istore_n (gxd kX7_lowest 1 rfl) rfl rfl (Nat.le_of_ble_eq_true rfl) rfl ?_
  exact R_weak (gle_same (gle_same gle_nil)) (fM_lowest_2_ok  gfu _ _ _  H)
def fM_clears_2 : Nat → Int32 → gH → Option gH
  | 0, _, _ => none
  | n + 1, v1, h =>
    if v1 < (24 : Int32) then
      gg (gin v1 24) <|
      glet (hu h 71 v1.toNatClampNeg (0 : Int32)) fun h2 =>
      fM_clears_2 n (v1 + (1 : Int32)) h2
    else
      some (hu h 65 2 (0 : Int32))
theorem fM_clears_2_ok {d : Nat}  : ∀ (n : Nat) (v1 : Int32) (h : gH) (x : gH), fM_clears_2  n v1 h = some x → gR RX7 cX7_clears 2 none (d + 0) 2 [.ref 65, .int v1] [] h none x := by
  intro n
  induction n with
  | zero => intro v1 h x  H; exact g0 H
  | succ n ih =>
    intro v1 h x  H
    unfold fM_clears_2 at H
    refine R_iload_n (gxd kX7_clears 2 rfl) rfl rfl ?_
    refine R_bipush (v := (24 : Int32)) (gxd kX7_clears 3 rfl) rfl ?_
    refine R_icmp_ge (gxd kX7_clears 4 rfl) (tgt := 21) rfl (fun q => ?_) (fun q => ?_)
    · replace H := giff q H
      refine R_aload_n (gxd kX7_clears 12 rfl) rfl rfl ?_
      refine R_iconst (v := (0 : Int32)) (gxd kX7_clears 13 rfl) rfl ?_
      refine R_putz (gxd kX7_clears 14 rfl) gf_M_229 gp_7_2 (Or.inl rfl) gk_65 (by decide) rfl ?_
      obtain rfl := Option.some.inj H
      exact R_vret (gxd kX7_clears 15 rfl) rfl
    · replace H := gift q H
      refine R_aload_n (gxd kX7_clears 5 rfl) rfl rfl ?_
      refine R_getr (gxd kX7_clears 6 rfl) gf_M_30 gk_65 (by decide) rfl ?_
      refine R_iload_n (gxd kX7_clears 7 rfl) rfl rfl ?_
      refine R_iconst (v := (0 : Int32)) (gxd kX7_clears 8 rfl) rfl ?_
      obtain ⟨b1, H⟩ := ggi H
      have b1 := gin_in b1
      refine R_zast (gxd kX7_clears 9 rfl) gk_71 b1 (Or.inl rfl) ?_
      obtain ⟨h2, e3, H⟩ := glei H
      refine R_heq e3 ?_
      refine R_iinc (v := (v1 + (1 : Int32))) (gxd kX7_clears 10 rfl) rfl rfl rfl (Nat.le_of_ble_eq_true rfl) rfl ?_
      refine R_goto (gxd kX7_clears 11 rfl) (tgt := 2) rfl ?_
      exact R_weak (gle_same (gle_same gle_nil)) (ih _ _ _  H)
def fM_clears (h : gH) : Option gH :=
  fM_clears_2 gfu (0 : Int32) h
theorem fM_clears_ok {h : gH} {x : gH} (H : fM_clears  h = some x) (d : Nat) : gC yX7_clears cX7_clears 2 none (d + 0) [.ref 65] h none x := by
  refine gC_of (by decide +kernel) (Nat.le_of_ble_eq_true rfl) rfl ?_
  unfold fM_clears at H
  refine R_iconst (v := (0 : Int32)) (gxd kX7_clears 0 rfl) rfl ?_
  refine R_istore_n (gxd kX7_clears 1 rfl) rfl rfl (Nat.le_of_ble_eq_true rfl) rfl ?_
  exact R_weak (gle_same (gle_same gle_nil)) (fM_clears_2_ok  gfu _ _ _  H)
def fM_learns_108 (v1 : Int32) (v2 : Int32) (v4 : Int32) : Nat → Int32 → gH → Option (Int32 × gH)
  | 0, _, _ => none
  | n + 1, v5, h =>
    if v5 < v1 then
      if ((v2 >>> (v5 &&& 31)) &&& (1 : Int32)) = (1 : Int32) then
        gg (gin v4 24) <|
        gg (gin v5 16) <|
        gg (gin v4 24) <|
        glet (hu h 68 v4.toNatClampNeg ((h 68 v4.toNatClampNeg) ||| ((1 : Int32) <<< ((h 84 v5.toNatClampNeg) &&& 31)))) fun h14 =>
        gg (gin v5 16) <|
        gg (gin v5 16) <|
        gg (gin (((8 : Int32) * (h14 65 9)) + (h14 84 v5.toNatClampNeg)) 64) <|
        glet (hu h14 70 (((8 : Int32) * (h14 65 9)) + (h14 84 v5.toNatClampNeg)).toNatClampNeg (h14 85 v5.toNatClampNeg)) fun h19 =>
        fM_learns_108 v1 v2 v4 n (v5 + (1 : Int32)) h19
      else
        fM_learns_108 v1 v2 v4 n (v5 + (1 : Int32)) h
    else
      glet (hu h 65 9 ((h 65 9) + (1 : Int32))) fun h9 =>
      some ((1 : Int32), h9)
theorem fM_learns_108_ok {d : Nat} {v1 : Int32} {v2 : Int32} {v4 : Int32}  : ∀ (n : Nat) (v5 : Int32) (h : gH) (x : (Int32 × gH)), fM_learns_108 v1 v2 v4 n v5 h = some x → gR RX7 cX7_learns 6 (some .boolean) (d + 5) 108 [.ref 65, .int v1, .int v2, .null, .int v4, .int v5] [] h (some (.int x.1)) x.2 := by
  intro n
  induction n with
  | zero => intro v5 h x  H; exact g0 H
  | succ n ih =>
    intro v5 h x  H
    unfold fM_learns_108 at H
    refine R_iload (gxd kX7_learns 71 rfl) rfl ?_
    refine R_iload_n (gxd kX7_learns 72 rfl) rfl rfl ?_
    refine R_icmp_ge (gxd kX7_learns 73 rfl) (tgt := 176) rfl (fun q => ?_) (fun q => ?_)
    · replace H := giff q H
      refine R_aload_n (gxd kX7_learns 112 rfl) rfl rfl ?_
      refine R_dup (gxd kX7_learns 113 rfl) rfl ?_
      refine R_geti (gxd kX7_learns 114 rfl) gf_M_239 gk_65 (by decide) rfl ?_
      refine R_iconst (v := (1 : Int32)) (gxd kX7_learns 115 rfl) rfl ?_
      refine R_iadd (gxd kX7_learns 116 rfl) ?_
      refine R_puti (gxd kX7_learns 117 rfl) gf_M_239 gp_7_9 gk_65 (by decide) rfl ?_
      obtain ⟨h9, e10, H⟩ := glei H
      refine R_heq e10 ?_
      refine R_iconst (v := (1 : Int32)) (gxd kX7_learns 118 rfl) rfl ?_
      obtain rfl := Option.some.inj H
      exact R_zret (gxd kX7_learns 119 rfl) rfl (Or.inr rfl)
    · replace H := gift q H
      refine R_iload_n (gxd kX7_learns 74 rfl) rfl rfl ?_
      refine R_iload (gxd kX7_learns 75 rfl) rfl ?_
      refine R_ishr (gxd kX7_learns 76 rfl) ?_
      refine R_iconst (v := (1 : Int32)) (gxd kX7_learns 77 rfl) rfl ?_
      refine R_iand (gxd kX7_learns 78 rfl) ?_
      refine R_iconst (v := (1 : Int32)) (gxd kX7_learns 79 rfl) rfl ?_
      refine R_icmp_ne (gxd kX7_learns 80 rfl) (tgt := 170) rfl (fun q => ?_) (fun q => ?_)
      · replace H := giff q H
        refine R_iinc (v := (v5 + (1 : Int32))) (gxd kX7_learns 110 rfl) rfl rfl rfl (Nat.le_of_ble_eq_true rfl) rfl ?_
        refine R_goto (gxd kX7_learns 111 rfl) (tgt := 108) rfl ?_
        exact R_weak (gle_same (gle_same (gle_same (gle_null (gle_same (gle_same gle_nil)))))) (ih _ _ _  H)
      · replace H := gift q H
        refine R_aload_n (gxd kX7_learns 81 rfl) rfl rfl ?_
        refine R_getr (gxd kX7_learns 82 rfl) gf_M_20 gk_65 (by decide) rfl ?_
        refine R_iload (gxd kX7_learns 83 rfl) rfl ?_
        refine R_dup2 (gxd kX7_learns 84 rfl) rfl rfl ?_
        obtain ⟨b11, H⟩ := ggi H
        have b11 := gin_in b11
        refine R_iald (gxd kX7_learns 85 rfl) gk_68 b11 ?_
        refine R_iconst (v := (1 : Int32)) (gxd kX7_learns 86 rfl) rfl ?_
        refine R_aload_n (gxd kX7_learns 87 rfl) rfl rfl ?_
        refine R_getr (gxd kX7_learns 88 rfl) gf_M_69 gk_65 (by decide) rfl ?_
        refine R_iload (gxd kX7_learns 89 rfl) rfl ?_
        obtain ⟨b12, H⟩ := ggi H
        have b12 := gin_in b12
        refine R_iald (gxd kX7_learns 90 rfl) gk_84 b12 ?_
        refine R_ishl (gxd kX7_learns 91 rfl) ?_
        refine R_ior (gxd kX7_learns 92 rfl) ?_
        obtain ⟨b13, H⟩ := ggi H
        have b13 := gin_in b13
        refine R_iast (gxd kX7_learns 93 rfl) gk_68 b13 ?_
        obtain ⟨h14, e15, H⟩ := glei H
        refine R_heq e15 ?_
        refine R_aload_n (gxd kX7_learns 94 rfl) rfl rfl ?_
        refine R_getr (gxd kX7_learns 95 rfl) gf_M_27 gk_65 (by decide) rfl ?_
        refine R_bipush (v := (8 : Int32)) (gxd kX7_learns 96 rfl) rfl ?_
        refine R_aload_n (gxd kX7_learns 97 rfl) rfl rfl ?_
        refine R_geti (gxd kX7_learns 98 rfl) gf_M_239 gk_65 (by decide) rfl ?_
        refine R_imul (gxd kX7_learns 99 rfl) ?_
        refine R_aload_n (gxd kX7_learns 100 rfl) rfl rfl ?_
        refine R_getr (gxd kX7_learns 101 rfl) gf_M_69 gk_65 (by decide) rfl ?_
        refine R_iload (gxd kX7_learns 102 rfl) rfl ?_
        obtain ⟨b16, H⟩ := ggi H
        have b16 := gin_in b16
        refine R_iald (gxd kX7_learns 103 rfl) gk_84 b16 ?_
        refine R_iadd (gxd kX7_learns 104 rfl) ?_
        refine R_aload_n (gxd kX7_learns 105 rfl) rfl rfl ?_
        refine R_getr (gxd kX7_learns 106 rfl) gf_M_72 gk_65 (by decide) rfl ?_
        refine R_iload (gxd kX7_learns 107 rfl) rfl ?_
        obtain ⟨b17, H⟩ := ggi H
        have b17 := gin_in b17
        refine R_iald (gxd kX7_learns 108 rfl) gk_85 b17 ?_
        obtain ⟨b18, H⟩ := ggi H
        have b18 := gin_in b18
        refine R_iast (gxd kX7_learns 109 rfl) gk_70 b18 ?_
        obtain ⟨h19, e20, H⟩ := glei H
        refine R_heq e20 ?_
        refine R_iinc (v := (v5 + (1 : Int32))) (gxd kX7_learns 110 rfl) rfl rfl rfl (Nat.le_of_ble_eq_true rfl) rfl ?_
        refine R_goto (gxd kX7_learns 111 rfl) (tgt := 108) rfl ?_
        exact R_weak (gle_same (gle_same (gle_same (gle_null (gle_same (gle_same gle_nil)))))) (ih _ _ _  H)
def fM_learns_73 (k34 : Int32 → Int32 → gH → Option (Int32 × gH)) (v1 : Int32) (v3 : Int32) (v4 : Int32) (s0 : Int32) (h : gH) : Option (Int32 × gH) :=
  k34 s0 (v4 + (1 : Int32)) h
theorem fM_learns_73_ok {d : Nat} {k34 : Int32 → Int32 → gH → Option (Int32 × gH)} {v1 : Int32} {v3 : Int32} {v4 : Int32} {s0 : Int32} (hk34 : ∀ (u2 : Int32) (u4 : Int32) (h : gH) (x : (Int32 × gH)), k34 u2 u4 h = some x → gR RX7 cX7_learns 6 (some .boolean) (d + 5) 34 [.ref 65, .int v1, .int u2, .int v3, .int u4, .null] [] h (some (.int x.1)) x.2) {h : gH} {x : (Int32 × gH)} (H : fM_learns_73 k34 v1 v3 v4 s0 h = some x) : gR RX7 cX7_learns 6 (some .boolean) (d + 5) 73 [.ref 65, .int v1, .null, .int v3, .int v4, .null] [.int s0] h (some (.int x.1)) x.2 := by
  unfold fM_learns_73 at H
  refine R_istore_n (gxd kX7_learns 51 rfl) rfl rfl (Nat.le_of_ble_eq_true rfl) rfl ?_
  refine R_iinc (v := (v4 + (1 : Int32))) (gxd kX7_learns 52 rfl) rfl rfl rfl (Nat.le_of_ble_eq_true rfl) rfl ?_
  refine R_goto (gxd kX7_learns 53 rfl) (tgt := 34) rfl ?_
  exact R_weak (gle_same (gle_same (gle_same (gle_same (gle_same (gle_null gle_nil)))))) (hk34 _ _ _ _  H)
def fM_learns_34 (v1 : Int32) (v3 : Int32) : Nat → Int32 → Int32 → gH → Option (Int32 × gH)
  | 0, _, _, _ => none
  | n + 1, v2, v4, h =>
    if v4 < v1 then
      (fM_starts v3 (v2 &&& (((1 : Int32) <<< (v4 &&& 31)) ^^^ (-1 : Int32))) (-1 : Int32) h).bind fun h21 =>
      if (h21 65 2) = (0 : Int32) then
        fM_learns_73 (fM_learns_34 v1 v3 n) v1 v3 v4 v2 h21
      else
        fM_learns_73 (fM_learns_34 v1 v3 n) v1 v3 v4 (v2 &&& (((1 : Int32) <<< (v4 &&& 31)) ^^^ (-1 : Int32))) h21
    else
      gg (gin ((16 : Int32) + (h 65 9)) 24) <|
      glet (hu h 67 ((16 : Int32) + (h 65 9)).toNatClampNeg (3 : Int32)) fun h4 =>
      gg (gin ((16 : Int32) + (h 65 9)) 24) <|
      glet (hu h4 68 ((16 : Int32) + (h 65 9)).toNatClampNeg (0 : Int32)) fun h7 =>
      fM_learns_108 v1 v2 ((16 : Int32) + (h 65 9)) gfu (0 : Int32) h7
theorem fM_learns_34_ok {d : Nat} {v1 : Int32} {v3 : Int32}  : ∀ (n : Nat) (v2 : Int32) (v4 : Int32) (h : gH) (x : (Int32 × gH)), fM_learns_34 v1 v3 n v2 v4 h = some x → gR RX7 cX7_learns 6 (some .boolean) (d + 5) 34 [.ref 65, .int v1, .int v2, .int v3, .int v4, .null] [] h (some (.int x.1)) x.2 := by
  intro n
  induction n with
  | zero => intro v2 v4 h x  H; exact g0 H
  | succ n ih =>
    intro v2 v4 h x  H
    unfold fM_learns_34 at H
    refine R_iload (gxd kX7_learns 25 rfl) rfl ?_
    refine R_iload_n (gxd kX7_learns 26 rfl) rfl rfl ?_
    refine R_icmp_ge (gxd kX7_learns 27 rfl) (tgt := 80) rfl (fun q => ?_) (fun q => ?_)
    · replace H := giff q H
      refine R_bipush (v := (16 : Int32)) (gxd kX7_learns 54 rfl) rfl ?_
      refine R_aload_n (gxd kX7_learns 55 rfl) rfl rfl ?_
      refine R_geti (gxd kX7_learns 56 rfl) gf_M_239 gk_65 (by decide) rfl ?_
      refine R_iadd (gxd kX7_learns 57 rfl) ?_
      refine R_istore (gxd kX7_learns 58 rfl) rfl (Nat.le_of_ble_eq_true rfl) rfl ?_
      refine R_aload_n (gxd kX7_learns 59 rfl) rfl rfl ?_
      refine R_getr (gxd kX7_learns 60 rfl) gf_M_17 gk_65 (by decide) rfl ?_
      refine R_iload (gxd kX7_learns 61 rfl) rfl ?_
      refine R_iconst (v := (3 : Int32)) (gxd kX7_learns 62 rfl) rfl ?_
      obtain ⟨b3, H⟩ := ggi H
      have b3 := gin_in b3
      refine R_iast (gxd kX7_learns 63 rfl) gk_67 b3 ?_
      obtain ⟨h4, e5, H⟩ := glei H
      refine R_heq e5 ?_
      refine R_aload_n (gxd kX7_learns 64 rfl) rfl rfl ?_
      refine R_getr (gxd kX7_learns 65 rfl) gf_M_20 gk_65 (by decide) rfl ?_
      refine R_iload (gxd kX7_learns 66 rfl) rfl ?_
      refine R_iconst (v := (0 : Int32)) (gxd kX7_learns 67 rfl) rfl ?_
      obtain ⟨b6, H⟩ := ggi H
      have b6 := gin_in b6
      refine R_iast (gxd kX7_learns 68 rfl) gk_68 b6 ?_
      obtain ⟨h7, e8, H⟩ := glei H
      refine R_heq e8 ?_
      refine R_iconst (v := (0 : Int32)) (gxd kX7_learns 69 rfl) rfl ?_
      refine R_istore (gxd kX7_learns 70 rfl) rfl (Nat.le_of_ble_eq_true rfl) rfl ?_
      exact R_weak (gle_same (gle_same (gle_same (gle_null (gle_same (gle_same gle_nil)))))) (fM_learns_108_ok  gfu _ _ _  H)
    · replace H := gift q H
      refine R_aload_n (gxd kX7_learns 28 rfl) rfl rfl ?_
      refine R_iload_n (gxd kX7_learns 29 rfl) rfl rfl ?_
      refine R_iload_n (gxd kX7_learns 30 rfl) rfl rfl ?_
      refine R_iconst (v := (1 : Int32)) (gxd kX7_learns 31 rfl) rfl ?_
      refine R_iload (gxd kX7_learns 32 rfl) rfl ?_
      refine R_ishl (gxd kX7_learns 33 rfl) ?_
      refine R_iconst (v := (-1 : Int32)) (gxd kX7_learns 34 rfl) rfl ?_
      refine R_ixor (gxd kX7_learns 35 rfl) ?_
      refine R_iand (gxd kX7_learns 36 rfl) ?_
      refine R_iconst (v := (-1 : Int32)) (gxd kX7_learns 37 rfl) rfl ?_
      obtain ⟨h21, e22, H⟩ := gbi H
      refine R_callVv (gxd kX7_learns 38 rfl) gm_M_339 wX7_starts (by decide) gk_65 rfl rfl (Nat.le_of_ble_eq_true rfl) (by omega) (fM_starts_ok  e22 (d + 0)) ?_
      refine R_aload_n (gxd kX7_learns 39 rfl) rfl rfl ?_
      refine R_geti (gxd kX7_learns 40 rfl) gf_M_229 gk_65 (by decide) rfl ?_
      refine R_if_eq (gxd kX7_learns 41 rfl) (tgt := 72) rfl (fun q => ?_) (fun q => ?_)
      · replace H := gift q H
        refine R_iload_n (gxd kX7_learns 50 rfl) rfl rfl ?_
        exact R_weak (gle_same (gle_same (gle_null (gle_same (gle_same (gle_null gle_nil)))))) (fM_learns_73_ok ih  H)
      · replace H := giff q H
        refine R_iload_n (gxd kX7_learns 42 rfl) rfl rfl ?_
        refine R_iconst (v := (1 : Int32)) (gxd kX7_learns 43 rfl) rfl ?_
        refine R_iload (gxd kX7_learns 44 rfl) rfl ?_
        refine R_ishl (gxd kX7_learns 45 rfl) ?_
        refine R_iconst (v := (-1 : Int32)) (gxd kX7_learns 46 rfl) rfl ?_
        refine R_ixor (gxd kX7_learns 47 rfl) ?_
        refine R_iand (gxd kX7_learns 48 rfl) ?_
        refine R_goto (gxd kX7_learns 49 rfl) (tgt := 73) rfl ?_
        exact R_weak (gle_same (gle_same (gle_null (gle_same (gle_same (gle_null gle_nil)))))) (fM_learns_73_ok ih  H)
def fM_learns (v1 : Int32) (h : gH) : Option (Int32 × gH) :=
  (fM_starts (((1 : Int32) <<< ((h 65 12) &&& 31)) - (1 : Int32)) (((1 : Int32) <<< (v1 &&& 31)) - (1 : Int32)) (-1 : Int32) h).bind fun h1 =>
  if (h1 65 2) = (0 : Int32) then
    some ((0 : Int32), h1)
  else
    fM_learns_34 v1 (((1 : Int32) <<< ((h 65 12) &&& 31)) - (1 : Int32)) gfu (((1 : Int32) <<< (v1 &&& 31)) - (1 : Int32)) (0 : Int32) h1
theorem fM_learns_ok {v1 : Int32} {h : gH} {x : (Int32 × gH)} (H : fM_learns v1 h = some x) (d : Nat) : gC yX7_learns cX7_learns 6 (some .boolean) (d + 5) [.ref 65, .int v1] h (some (.int x.1)) x.2 := by
  refine gC_of (by decide +kernel) (Nat.le_of_ble_eq_true rfl) rfl ?_
  unfold fM_learns at H
  refine R_iconst (v := (1 : Int32)) (gxd kX7_learns 0 rfl) rfl ?_
  refine R_iload_n (gxd kX7_learns 1 rfl) rfl rfl ?_
  refine R_ishl (gxd kX7_learns 2 rfl) ?_
  refine R_iconst (v := (1 : Int32)) (gxd kX7_learns 3 rfl) rfl ?_
  refine R_isub (gxd kX7_learns 4 rfl) ?_
  refine R_istore_n (gxd kX7_learns 5 rfl) rfl rfl (Nat.le_of_ble_eq_true rfl) rfl ?_
  refine R_iconst (v := (1 : Int32)) (gxd kX7_learns 6 rfl) rfl ?_
  refine R_aload_n (gxd kX7_learns 7 rfl) rfl rfl ?_
  refine R_geti (gxd kX7_learns 8 rfl) gf_M_312 gk_65 (by decide) rfl ?_
  refine R_ishl (gxd kX7_learns 9 rfl) ?_
  refine R_iconst (v := (1 : Int32)) (gxd kX7_learns 10 rfl) rfl ?_
  refine R_isub (gxd kX7_learns 11 rfl) ?_
  refine R_istore_n (gxd kX7_learns 12 rfl) rfl rfl (Nat.le_of_ble_eq_true rfl) rfl ?_
  refine R_aload_n (gxd kX7_learns 13 rfl) rfl rfl ?_
  refine R_iload_n (gxd kX7_learns 14 rfl) rfl rfl ?_
  refine R_iload_n (gxd kX7_learns 15 rfl) rfl rfl ?_
  refine R_iconst (v := (-1 : Int32)) (gxd kX7_learns 16 rfl) rfl ?_
  obtain ⟨h1, e2, H⟩ := gbi H
  refine R_callVv (gxd kX7_learns 17 rfl) gm_M_339 wX7_starts (by decide) gk_65 rfl rfl (Nat.le_of_ble_eq_true rfl) (by omega) (fM_starts_ok  e2 (d + 0)) ?_
  refine R_aload_n (gxd kX7_learns 18 rfl) rfl rfl ?_
  refine R_geti (gxd kX7_learns 19 rfl) gf_M_229 gk_65 (by decide) rfl ?_
  refine R_if_ne (gxd kX7_learns 20 rfl) (tgt := 31) rfl (fun q => ?_) (fun q => ?_)
  · replace H := giff q H
    refine R_iconst (v := (0 : Int32)) (gxd kX7_learns 23 rfl) rfl ?_
    refine R_istore (gxd kX7_learns 24 rfl) rfl (Nat.le_of_ble_eq_true rfl) rfl ?_
    exact R_weak (gle_same (gle_same (gle_same (gle_same (gle_same (gle_null gle_nil)))))) (fM_learns_34_ok  gfu _ _ _ _  H)
  · replace H := gift q H
    refine R_iconst (v := (0 : Int32)) (gxd kX7_learns 21 rfl) rfl ?_
    obtain rfl := Option.some.inj H
    exact R_zret (gxd kX7_learns 22 rfl) rfl (Or.inl rfl)
def fM_searches_272 (R : Int32 → Int32 → gH → Option (Int32 × gH)) (k10 : Int32 → gH → Option (Int32 × gH)) (v1 : Int32) (v2 : Int32) (v3 : Int32) (v4 : Int32) (v5 : Int32) (v7 : Int32) : Nat → Int32 → gH → Option (Int32 × gH)
  | 0, _, _ => none
  | n + 1, v8, h =>
    if v8 < (8 : Int32) then
      gg (gin (((8 : Int32) * v1) + v8) 128) <|
      gg (gin v8 8) <|
      glet (hu h 66 v8.toNatClampNeg (h 88 (((8 : Int32) * v1) + v8).toNatClampNeg)) fun h28 =>
      fM_searches_272 R k10 v1 v2 v3 v4 v5 v7 n (v8 + (1 : Int32)) h28
    else
      (fM_decides v4 (((1 : Int32) <<< (v5 &&& 31)) ^^^ (-1 : Int32)) (0 : Int32) h).bind fun h23 =>
      if v7 = (0 : Int32) then
        k10 v3 h23
      else
        gg (gin (((16 : Int32) + (h23 65 9)) - (1 : Int32)) 24) <|
        k10 v3 (hu h23 71 (((16 : Int32) + (h23 65 9)) - (1 : Int32)).toNatClampNeg (1 : Int32))
theorem fM_searches_272_ok {d : Nat} {R : Int32 → Int32 → gH → Option (Int32 × gH)} {k10 : Int32 → gH → Option (Int32 × gH)} {v1 : Int32} {v2 : Int32} {v3 : Int32} {v4 : Int32} {v5 : Int32} {v7 : Int32} (hR0 : ∀ a b h x, R a b h = some x → gC yX7_searches cX7_searches 9 (some .int) (d + 5) [.ref 65, .int a, .int b] h (some (.int x.1)) x.2) (hk10 : ∀ (u3 : Int32) (h : gH) (x : (Int32 × gH)), k10 u3 h = some x → gR RX7 cX7_searches 9 (some .int) (d + 6) 10 [.ref 65, .int v1, .int v2, .int u3, .null, .null, .null, .null, .null] [] h (some (.int x.1)) x.2) : ∀ (n : Nat) (v8 : Int32) (h : gH) (x : (Int32 × gH)), fM_searches_272 R k10 v1 v2 v3 v4 v5 v7 n v8 h = some x → gR RX7 cX7_searches 9 (some .int) (d + 6) 272 [.ref 65, .int v1, .int v2, .int v3, .int v4, .int v5, .null, .int v7, .int v8] [] h (some (.int x.1)) x.2 := by
  intro n
  induction n with
  | zero => intro v8 h x  H; exact g0 H
  | succ n ih =>
    intro v8 h x  H
    unfold fM_searches_272 at H
    refine R_iload (gxd kX7_searches 152 rfl) rfl ?_
    refine R_bipush (v := (8 : Int32)) (gxd kX7_searches 153 rfl) rfl ?_
    refine R_icmp_ge (gxd kX7_searches 154 rfl) (tgt := 304) rfl (fun q => ?_) (fun q => ?_)
    · replace H := giff q H
      refine R_aload_n (gxd kX7_searches 169 rfl) rfl rfl ?_
      refine R_iload (gxd kX7_searches 170 rfl) rfl ?_
      refine R_iconst (v := (1 : Int32)) (gxd kX7_searches 171 rfl) rfl ?_
      refine R_iload (gxd kX7_searches 172 rfl) rfl ?_
      refine R_ishl (gxd kX7_searches 173 rfl) ?_
      refine R_iconst (v := (-1 : Int32)) (gxd kX7_searches 174 rfl) rfl ?_
      refine R_ixor (gxd kX7_searches 175 rfl) ?_
      refine R_iconst (v := (0 : Int32)) (gxd kX7_searches 176 rfl) rfl ?_
      obtain ⟨h23, e24, H⟩ := gbi H
      refine R_callVv (gxd kX7_searches 177 rfl) gm_M_315 wX7_decides (by decide) gk_65 rfl rfl (Nat.le_of_ble_eq_true rfl) (by omega) (fM_decides_ok  e24 (d + 3)) ?_
      refine R_iload (gxd kX7_searches 178 rfl) rfl ?_
      refine R_if_eq (gxd kX7_searches 179 rfl) (tgt := 337) rfl (fun q => ?_) (fun q => ?_)
      · replace H := gift q H
        refine R_goto (gxd kX7_searches 190 rfl) (tgt := 10) rfl ?_
        exact R_weak (gle_same (gle_same (gle_same (gle_same (gle_null (gle_null (gle_null (gle_null (gle_null gle_nil))))))))) (hk10 _ _ _  H)
      · replace H := giff q H
        refine R_aload_n (gxd kX7_searches 180 rfl) rfl rfl ?_
        refine R_getr (gxd kX7_searches 181 rfl) gf_M_30 gk_65 (by decide) rfl ?_
        refine R_bipush (v := (16 : Int32)) (gxd kX7_searches 182 rfl) rfl ?_
        refine R_aload_n (gxd kX7_searches 183 rfl) rfl rfl ?_
        refine R_geti (gxd kX7_searches 184 rfl) gf_M_239 gk_65 (by decide) rfl ?_
        refine R_iadd (gxd kX7_searches 185 rfl) ?_
        refine R_iconst (v := (1 : Int32)) (gxd kX7_searches 186 rfl) rfl ?_
        refine R_isub (gxd kX7_searches 187 rfl) ?_
        refine R_iconst (v := (1 : Int32)) (gxd kX7_searches 188 rfl) rfl ?_
        obtain ⟨b25, H⟩ := ggi H
        have b25 := gin_in b25
        refine R_zast (gxd kX7_searches 189 rfl) gk_71 b25 (Or.inr rfl) ?_
        refine R_goto (gxd kX7_searches 190 rfl) (tgt := 10) rfl ?_
        exact R_weak (gle_same (gle_same (gle_same (gle_same (gle_null (gle_null (gle_null (gle_null (gle_null gle_nil))))))))) (hk10 _ _ _  H)
    · replace H := gift q H
      refine R_aload_n (gxd kX7_searches 155 rfl) rfl rfl ?_
      refine R_getr (gxd kX7_searches 156 rfl) gf_M_13 gk_65 (by decide) rfl ?_
      refine R_iload (gxd kX7_searches 157 rfl) rfl ?_
      refine R_aload_n (gxd kX7_searches 158 rfl) rfl rfl ?_
      refine R_getr (gxd kX7_searches 159 rfl) gf_M_81 gk_65 (by decide) rfl ?_
      refine R_bipush (v := (8 : Int32)) (gxd kX7_searches 160 rfl) rfl ?_
      refine R_iload_n (gxd kX7_searches 161 rfl) rfl rfl ?_
      refine R_imul (gxd kX7_searches 162 rfl) ?_
      refine R_iload (gxd kX7_searches 163 rfl) rfl ?_
      refine R_iadd (gxd kX7_searches 164 rfl) ?_
      obtain ⟨b26, H⟩ := ggi H
      have b26 := gin_in b26
      refine R_iald (gxd kX7_searches 165 rfl) gk_88 b26 ?_
      obtain ⟨b27, H⟩ := ggi H
      have b27 := gin_in b27
      refine R_iast (gxd kX7_searches 166 rfl) gk_66 b27 ?_
      obtain ⟨h28, e29, H⟩ := glei H
      refine R_heq e29 ?_
      refine R_iinc (v := (v8 + (1 : Int32))) (gxd kX7_searches 167 rfl) rfl rfl rfl (Nat.le_of_ble_eq_true rfl) rfl ?_
      refine R_goto (gxd kX7_searches 168 rfl) (tgt := 272) rfl ?_
      exact R_weak (gle_same (gle_same (gle_same (gle_same (gle_same (gle_same (gle_null (gle_same (gle_same gle_nil))))))))) (ih _ _ _  H)
def fM_searches_258 (R : Int32 → Int32 → gH → Option (Int32 × gH)) (k10 : Int32 → gH → Option (Int32 × gH)) (v1 : Int32) (v2 : Int32) (v3 : Int32) (v4 : Int32) (v5 : Int32) (s0 : Int32) (h : gH) : Option (Int32 × gH) :=
  glet (hu h 65 53 (0 : Int32)) fun h19 =>
  (fM_clears h19).bind fun h21 =>
  fM_searches_272 R k10 v1 v2 v3 v4 v5 s0 gfu (0 : Int32) h21
theorem fM_searches_258_ok {d : Nat} {R : Int32 → Int32 → gH → Option (Int32 × gH)} {k10 : Int32 → gH → Option (Int32 × gH)} {v1 : Int32} {v2 : Int32} {v3 : Int32} {v4 : Int32} {v5 : Int32} {s0 : Int32} (hR0 : ∀ a b h x, R a b h = some x → gC yX7_searches cX7_searches 9 (some .int) (d + 5) [.ref 65, .int a, .int b] h (some (.int x.1)) x.2) (hk10 : ∀ (u3 : Int32) (h : gH) (x : (Int32 × gH)), k10 u3 h = some x → gR RX7 cX7_searches 9 (some .int) (d + 6) 10 [.ref 65, .int v1, .int v2, .int u3, .null, .null, .null, .null, .null] [] h (some (.int x.1)) x.2) {h : gH} {x : (Int32 × gH)} (H : fM_searches_258 R k10 v1 v2 v3 v4 v5 s0 h = some x) : gR RX7 cX7_searches 9 (some .int) (d + 6) 258 [.ref 65, .int v1, .int v2, .int v3, .int v4, .int v5, .null, .null, .null] [.int s0] h (some (.int x.1)) x.2 := by
  unfold fM_searches_258 at H
  refine R_istore (gxd kX7_searches 144 rfl) rfl (Nat.le_of_ble_eq_true rfl) rfl ?_
  refine R_aload_n (gxd kX7_searches 145 rfl) rfl rfl ?_
  refine R_iconst (v := (0 : Int32)) (gxd kX7_searches 146 rfl) rfl ?_
  refine R_putz (gxd kX7_searches 147 rfl) gf_M_371 gp_7_53 (Or.inl rfl) gk_65 (by decide) rfl ?_
  obtain ⟨h19, e20, H⟩ := glei H
  refine R_heq e20 ?_
  refine R_aload_n (gxd kX7_searches 148 rfl) rfl rfl ?_
  obtain ⟨h21, e22, H⟩ := gbi H
  refine R_callVv (gxd kX7_searches 149 rfl) gm_M_401 wX7_clears (by decide) gk_65 rfl rfl (Nat.le_of_ble_eq_true rfl) (by omega) (fM_clears_ok  e22 (d + 5)) ?_
  refine R_iconst (v := (0 : Int32)) (gxd kX7_searches 150 rfl) rfl ?_
  refine R_istore (gxd kX7_searches 151 rfl) rfl (Nat.le_of_ble_eq_true rfl) rfl ?_
  exact R_weak (gle_same (gle_same (gle_same (gle_same (gle_same (gle_same (gle_null (gle_same (gle_same gle_nil))))))))) (fM_searches_272_ok hR0 hk10  gfu _ _ _  H)
def fM_searches_257 (R : Int32 → Int32 → gH → Option (Int32 × gH)) (k10 : Int32 → gH → Option (Int32 × gH)) (v1 : Int32) (v2 : Int32) (v3 : Int32) (v4 : Int32) (v5 : Int32) (h : gH) : Option (Int32 × gH) :=
  fM_searches_258 R k10 v1 v2 v3 v4 v5 (0 : Int32) h
theorem fM_searches_257_ok {d : Nat} {R : Int32 → Int32 → gH → Option (Int32 × gH)} {k10 : Int32 → gH → Option (Int32 × gH)} {v1 : Int32} {v2 : Int32} {v3 : Int32} {v4 : Int32} {v5 : Int32} (hR0 : ∀ a b h x, R a b h = some x → gC yX7_searches cX7_searches 9 (some .int) (d + 5) [.ref 65, .int a, .int b] h (some (.int x.1)) x.2) (hk10 : ∀ (u3 : Int32) (h : gH) (x : (Int32 × gH)), k10 u3 h = some x → gR RX7 cX7_searches 9 (some .int) (d + 6) 10 [.ref 65, .int v1, .int v2, .int u3, .null, .null, .null, .null, .null] [] h (some (.int x.1)) x.2) {h : gH} {x : (Int32 × gH)} (H : fM_searches_257 R k10 v1 v2 v3 v4 v5  h = some x) : gR RX7 cX7_searches 9 (some .int) (d + 6) 257 [.ref 65, .int v1, .int v2, .int v3, .int v4, .int v5, .null, .null, .null] [] h (some (.int x.1)) x.2 := by
  unfold fM_searches_257 at H
  refine R_iconst (v := (0 : Int32)) (gxd kX7_searches 143 rfl) rfl ?_
  exact R_weak (gle_same (gle_same (gle_same (gle_same (gle_same (gle_same (gle_null (gle_null (gle_null gle_nil))))))))) (fM_searches_258_ok hR0 hk10  H)
def fM_searches_159 (R : Int32 → Int32 → gH → Option (Int32 × gH)) (k10 : Int32 → gH → Option (Int32 × gH)) (v1 : Int32) (v2 : Int32) (v3 : Int32) (v4 : Int32) (v5 : Int32) : Nat → Int32 → gH → Option (Int32 × gH)
  | 0, _, _ => none
  | n + 1, v6, h =>
    if v6 < (8 : Int32) then
      gg (gin v6 8) <|
      gg (gin (((8 : Int32) * v1) + v6) 128) <|
      glet (hu h 88 (((8 : Int32) * v1) + v6).toNatClampNeg (h 66 v6.toNatClampNeg)) fun h34 =>
      fM_searches_159 R k10 v1 v2 v3 v4 v5 n (v6 + (1 : Int32)) h34
    else
      (fM_decides v4 ((1 : Int32) <<< (v5 &&& 31)) (0 : Int32) h).bind fun h15 =>
      (R (v1 + (1 : Int32)) v2 h15).bind fun p17 =>
      if p17.1 = (0 : Int32) then
        if (p17.2 65 53) = (0 : Int32) then
          fM_searches_257 R k10 v1 v2 v3 v4 v5 p17.2
        else
          if (p17.2 65 46) = (0 : Int32) then
            fM_searches_257 R k10 v1 v2 v3 v4 v5 p17.2
          else
            if (p17.2 65 9) < (8 : Int32) then
              (fM_learns (v1 + (1 : Int32)) p17.2).bind fun p30 =>
              if p30.1 = (0 : Int32) then
                fM_searches_257 R k10 v1 v2 v3 v4 v5 p30.2
              else
                fM_searches_258 R k10 v1 v2 v3 v4 v5 (1 : Int32) p30.2
            else
              fM_searches_257 R k10 v1 v2 v3 v4 v5 p17.2
      else
        some (p17.1, p17.2)
theorem fM_searches_159_ok {d : Nat} {R : Int32 → Int32 → gH → Option (Int32 × gH)} {k10 : Int32 → gH → Option (Int32 × gH)} {v1 : Int32} {v2 : Int32} {v3 : Int32} {v4 : Int32} {v5 : Int32} (hR0 : ∀ a b h x, R a b h = some x → gC yX7_searches cX7_searches 9 (some .int) (d + 5) [.ref 65, .int a, .int b] h (some (.int x.1)) x.2) (hk10 : ∀ (u3 : Int32) (h : gH) (x : (Int32 × gH)), k10 u3 h = some x → gR RX7 cX7_searches 9 (some .int) (d + 6) 10 [.ref 65, .int v1, .int v2, .int u3, .null, .null, .null, .null, .null] [] h (some (.int x.1)) x.2) : ∀ (n : Nat) (v6 : Int32) (h : gH) (x : (Int32 × gH)), fM_searches_159 R k10 v1 v2 v3 v4 v5 n v6 h = some x → gR RX7 cX7_searches 9 (some .int) (d + 6) 159 [.ref 65, .int v1, .int v2, .int v3, .int v4, .int v5, .int v6, .null, .null] [] h (some (.int x.1)) x.2 := by
  intro n
  induction n with
  | zero => intro v6 h x  H; exact g0 H
  | succ n ih =>
    intro v6 h x  H
    unfold fM_searches_159 at H
    refine R_iload (gxd kX7_searches 90 rfl) rfl ?_
    refine R_bipush (v := (8 : Int32)) (gxd kX7_searches 91 rfl) rfl ?_
    refine R_icmp_ge (gxd kX7_searches 92 rfl) (tgt := 191) rfl (fun q => ?_) (fun q => ?_)
    · replace H := giff q H
      refine R_aload_n (gxd kX7_searches 107 rfl) rfl rfl ?_
      refine R_iload (gxd kX7_searches 108 rfl) rfl ?_
      refine R_iconst (v := (1 : Int32)) (gxd kX7_searches 109 rfl) rfl ?_
      refine R_iload (gxd kX7_searches 110 rfl) rfl ?_
      refine R_ishl (gxd kX7_searches 111 rfl) ?_
      refine R_iconst (v := (0 : Int32)) (gxd kX7_searches 112 rfl) rfl ?_
      obtain ⟨h15, e16, H⟩ := gbi H
      refine R_callVv (gxd kX7_searches 113 rfl) gm_M_315 wX7_decides (by decide) gk_65 rfl rfl (Nat.le_of_ble_eq_true rfl) (by omega) (fM_decides_ok  e16 (d + 3)) ?_
      refine R_aload_n (gxd kX7_searches 114 rfl) rfl rfl ?_
      refine R_iload_n (gxd kX7_searches 115 rfl) rfl rfl ?_
      refine R_iconst (v := (1 : Int32)) (gxd kX7_searches 116 rfl) rfl ?_
      refine R_iadd (gxd kX7_searches 117 rfl) ?_
      refine R_iload_n (gxd kX7_searches 118 rfl) rfl rfl ?_
      obtain ⟨p17, e18, H⟩ := gbi H
      refine R_callVi (gxd kX7_searches 119 rfl) gm_M_392 wX7_searches (by decide) gk_65 rfl rfl (Nat.le_of_ble_eq_true rfl) (by omega) (hR0 _ _ _ _ e18) ?_
      refine R_istore (gxd kX7_searches 120 rfl) rfl (Nat.le_of_ble_eq_true rfl) rfl ?_
      refine R_iload (gxd kX7_searches 121 rfl) rfl ?_
      refine R_if_eq (gxd kX7_searches 122 rfl) (tgt := 220) rfl (fun q => ?_) (fun q => ?_)
      · replace H := gift q H
        refine R_aload_n (gxd kX7_searches 125 rfl) rfl rfl ?_
        refine R_geti (gxd kX7_searches 126 rfl) gf_M_371 gk_65 (by decide) rfl ?_
        refine R_if_eq (gxd kX7_searches 127 rfl) (tgt := 257) rfl (fun q => ?_) (fun q => ?_)
        · replace H := gift q H
          exact R_weak (gle_same (gle_same (gle_same (gle_same (gle_same (gle_same (gle_null (gle_null (gle_null gle_nil))))))))) (fM_searches_257_ok hR0 hk10  H)
        · replace H := giff q H
          refine R_aload_n (gxd kX7_searches 128 rfl) rfl rfl ?_
          refine R_geti (gxd kX7_searches 129 rfl) gf_M_395 gk_65 (by decide) rfl ?_
          refine R_if_eq (gxd kX7_searches 130 rfl) (tgt := 257) rfl (fun q => ?_) (fun q => ?_)
          · replace H := gift q H
            exact R_weak (gle_same (gle_same (gle_same (gle_same (gle_same (gle_same (gle_null (gle_null (gle_null gle_nil))))))))) (fM_searches_257_ok hR0 hk10  H)
          · replace H := giff q H
            refine R_aload_n (gxd kX7_searches 131 rfl) rfl rfl ?_
            refine R_geti (gxd kX7_searches 132 rfl) gf_M_239 gk_65 (by decide) rfl ?_
            refine R_bipush (v := (8 : Int32)) (gxd kX7_searches 133 rfl) rfl ?_
            refine R_icmp_ge (gxd kX7_searches 134 rfl) (tgt := 257) rfl (fun q => ?_) (fun q => ?_)
            · replace H := giff q H
              exact R_weak (gle_same (gle_same (gle_same (gle_same (gle_same (gle_same (gle_null (gle_null (gle_null gle_nil))))))))) (fM_searches_257_ok hR0 hk10  H)
            · replace H := gift q H
              refine R_aload_n (gxd kX7_searches 135 rfl) rfl rfl ?_
              refine R_iload_n (gxd kX7_searches 136 rfl) rfl rfl ?_
              refine R_iconst (v := (1 : Int32)) (gxd kX7_searches 137 rfl) rfl ?_
              refine R_iadd (gxd kX7_searches 138 rfl) ?_
              obtain ⟨p30, e31, H⟩ := gbi H
              refine R_callVi (gxd kX7_searches 139 rfl) gm_M_398 wX7_learns (by decide) gk_65 rfl rfl (Nat.le_of_ble_eq_true rfl) (by omega) (fM_learns_ok  e31 (d + 0)) ?_
              refine R_if_eq (gxd kX7_searches 140 rfl) (tgt := 257) rfl (fun q => ?_) (fun q => ?_)
              · replace H := gift q H
                exact R_weak (gle_same (gle_same (gle_same (gle_same (gle_same (gle_same (gle_null (gle_null (gle_null gle_nil))))))))) (fM_searches_257_ok hR0 hk10  H)
              · replace H := giff q H
                refine R_iconst (v := (1 : Int32)) (gxd kX7_searches 141 rfl) rfl ?_
                refine R_goto (gxd kX7_searches 142 rfl) (tgt := 258) rfl ?_
                exact R_weak (gle_same (gle_same (gle_same (gle_same (gle_same (gle_same (gle_null (gle_null (gle_null gle_nil))))))))) (fM_searches_258_ok hR0 hk10  H)
      · replace H := giff q H
        refine R_iload (gxd kX7_searches 123 rfl) rfl ?_
        obtain rfl := Option.some.inj H
        exact R_iret (gxd kX7_searches 124 rfl) rfl
    · replace H := gift q H
      refine R_aload_n (gxd kX7_searches 93 rfl) rfl rfl ?_
      refine R_getr (gxd kX7_searches 94 rfl) gf_M_81 gk_65 (by decide) rfl ?_
      refine R_bipush (v := (8 : Int32)) (gxd kX7_searches 95 rfl) rfl ?_
      refine R_iload_n (gxd kX7_searches 96 rfl) rfl rfl ?_
      refine R_imul (gxd kX7_searches 97 rfl) ?_
      refine R_iload (gxd kX7_searches 98 rfl) rfl ?_
      refine R_iadd (gxd kX7_searches 99 rfl) ?_
      refine R_aload_n (gxd kX7_searches 100 rfl) rfl rfl ?_
      refine R_getr (gxd kX7_searches 101 rfl) gf_M_13 gk_65 (by decide) rfl ?_
      refine R_iload (gxd kX7_searches 102 rfl) rfl ?_
      obtain ⟨b32, H⟩ := ggi H
      have b32 := gin_in b32
      refine R_iald (gxd kX7_searches 103 rfl) gk_66 b32 ?_
      obtain ⟨b33, H⟩ := ggi H
      have b33 := gin_in b33
      refine R_iast (gxd kX7_searches 104 rfl) gk_88 b33 ?_
      obtain ⟨h34, e35, H⟩ := glei H
      refine R_heq e35 ?_
      refine R_iinc (v := (v6 + (1 : Int32))) (gxd kX7_searches 105 rfl) rfl rfl rfl (Nat.le_of_ble_eq_true rfl) rfl ?_
      refine R_goto (gxd kX7_searches 106 rfl) (tgt := 159) rfl ?_
      exact R_weak (gle_same (gle_same (gle_same (gle_same (gle_same (gle_same (gle_same (gle_null (gle_null gle_nil))))))))) (ih _ _ _  H)
def fM_searches_65 (R : Int32 → Int32 → gH → Option (Int32 × gH)) : Nat → Int32 → gH → Option (Int32 × gH)
  | 0, _, _ => none
  | n + 1, v5, h =>
    if v5 < (8 : Int32) then
      gg (gin v5 8) <|
      (fM_lowest (h 66 v5.toNatClampNeg) h).bind fun p41 =>
      gg (gin v5 8) <|
      glet (hu p41.2 87 v5.toNatClampNeg p41.1) fun h44 =>
      fM_searches_65 R n (v5 + (1 : Int32)) h44
    else
      glet (hu h 65 53 (0 : Int32)) fun h38 =>
      if (h38 65 47) = (0 : Int32) then
        some ((1 : Int32), h38)
      else
        some ((0 : Int32), h38)
theorem fM_searches_65_ok {d : Nat} {R : Int32 → Int32 → gH → Option (Int32 × gH)} (hR0 : ∀ a b h x, R a b h = some x → gC yX7_searches cX7_searches 9 (some .int) (d + 5) [.ref 65, .int a, .int b] h (some (.int x.1)) x.2)  : ∀ (n : Nat) (v5 : Int32) (h : gH) (x : (Int32 × gH)), fM_searches_65 R  n v5 h = some x → gR RX7 cX7_searches 9 (some .int) (d + 6) 65 [.ref 65, .null, .null, .null, .null, .int v5, .null, .null, .null] [] h (some (.int x.1)) x.2 := by
  intro n
  induction n with
  | zero => intro v5 h x  H; exact g0 H
  | succ n ih =>
    intro v5 h x  H
    unfold fM_searches_65 at H
    refine R_iload (gxd kX7_searches 38 rfl) rfl ?_
    refine R_bipush (v := (8 : Int32)) (gxd kX7_searches 39 rfl) rfl ?_
    refine R_icmp_ge (gxd kX7_searches 40 rfl) (tgt := 95) rfl (fun q => ?_) (fun q => ?_)
    · replace H := giff q H
      refine R_aload_n (gxd kX7_searches 52 rfl) rfl rfl ?_
      refine R_iconst (v := (0 : Int32)) (gxd kX7_searches 53 rfl) rfl ?_
      refine R_putz (gxd kX7_searches 54 rfl) gf_M_371 gp_7_53 (Or.inl rfl) gk_65 (by decide) rfl ?_
      obtain ⟨h38, e39, H⟩ := glei H
      refine R_heq e39 ?_
      refine R_aload_n (gxd kX7_searches 55 rfl) rfl rfl ?_
      refine R_geti (gxd kX7_searches 56 rfl) gf_M_383 gk_65 (by decide) rfl ?_
      refine R_if_ne (gxd kX7_searches 57 rfl) (tgt := 109) rfl (fun q => ?_) (fun q => ?_)
      · replace H := giff q H
        refine R_iconst (v := (0 : Int32)) (gxd kX7_searches 60 rfl) rfl ?_
        obtain rfl := Option.some.inj H
        exact R_iret (gxd kX7_searches 61 rfl) rfl
      · replace H := gift q H
        refine R_iconst (v := (1 : Int32)) (gxd kX7_searches 58 rfl) rfl ?_
        obtain rfl := Option.some.inj H
        exact R_iret (gxd kX7_searches 59 rfl) rfl
    · replace H := gift q H
      refine R_aload_n (gxd kX7_searches 41 rfl) rfl rfl ?_
      refine R_getr (gxd kX7_searches 42 rfl) gf_M_78 gk_65 (by decide) rfl ?_
      refine R_iload (gxd kX7_searches 43 rfl) rfl ?_
      refine R_aload_n (gxd kX7_searches 44 rfl) rfl rfl ?_
      refine R_getr (gxd kX7_searches 45 rfl) gf_M_13 gk_65 (by decide) rfl ?_
      refine R_iload (gxd kX7_searches 46 rfl) rfl ?_
      obtain ⟨b40, H⟩ := ggi H
      have b40 := gin_in b40
      refine R_iald (gxd kX7_searches 47 rfl) gk_66 b40 ?_
      obtain ⟨p41, e42, H⟩ := gbi H
      refine R_callSi (gxd kX7_searches 48 rfl) gm_M_380 wX7_lowest (by decide) rfl (Nat.le_of_ble_eq_true rfl) (by omega) (fM_lowest_ok  e42 (d + 5)) ?_
      obtain ⟨b43, H⟩ := ggi H
      have b43 := gin_in b43
      refine R_iast (gxd kX7_searches 49 rfl) gk_87 b43 ?_
      obtain ⟨h44, e45, H⟩ := glei H
      refine R_heq e45 ?_
      refine R_iinc (v := (v5 + (1 : Int32))) (gxd kX7_searches 50 rfl) rfl rfl rfl (Nat.le_of_ble_eq_true rfl) rfl ?_
      refine R_goto (gxd kX7_searches 51 rfl) (tgt := 65) rfl ?_
      exact R_weak (gle_same (gle_null (gle_null (gle_null (gle_null (gle_same (gle_null (gle_null (gle_null gle_nil))))))))) (ih _ _ _  H)
def fM_searches_10 (R : Int32 → Int32 → gH → Option (Int32 × gH)) (v1 : Int32) (v2 : Int32) : Nat → Int32 → gH → Option (Int32 × gH)
  | 0, _, _ => none
  | n + 1, v3, h =>
    (fM_runsAll h).bind fun h1 =>
    if (h1 65 2) = (0 : Int32) then
      (fM_chosen h1).bind fun p3 =>
      if p3.1 = (-1 : Int32) then
        glet (hu p3.2 65 50 ((p3.2 65 50) + (1 : Int32))) fun h36 =>
        fM_searches_65 R gfu (0 : Int32) h36
      else
        if (p3.2 65 48) = v2 then
          some ((-6 : Int32), p3.2)
        else
          glet (hu p3.2 65 48 ((p3.2 65 48) + (1 : Int32))) fun h5 =>
          (fM_picked p3.1 h5).bind fun p7 =>
          gg (gin v1 16) <|
          glet (hu p7.2 84 v1.toNatClampNeg p3.1) fun h10 =>
          gg (gin v1 16) <|
          glet (hu h10 85 v1.toNatClampNeg p7.1) fun h13 =>
          fM_searches_159 R (fM_searches_10 R v1 v2 n) v1 v2 (0 : Int32) p3.1 p7.1 gfu (0 : Int32) h13
    else
      glet (hu h1 65 49 ((h1 65 49) + (1 : Int32))) fun h46 =>
      gg (gbo v3) <|
      glet (hu h46 65 53 v3) fun h49 =>
      some ((0 : Int32), h49)
theorem fM_searches_10_ok {d : Nat} {R : Int32 → Int32 → gH → Option (Int32 × gH)} {v1 : Int32} {v2 : Int32} (hR0 : ∀ a b h x, R a b h = some x → gC yX7_searches cX7_searches 9 (some .int) (d + 5) [.ref 65, .int a, .int b] h (some (.int x.1)) x.2)  : ∀ (n : Nat) (v3 : Int32) (h : gH) (x : (Int32 × gH)), fM_searches_10 R v1 v2 n v3 h = some x → gR RX7 cX7_searches 9 (some .int) (d + 6) 10 [.ref 65, .int v1, .int v2, .int v3, .null, .null, .null, .null, .null] [] h (some (.int x.1)) x.2 := by
  intro n
  induction n with
  | zero => intro v3 h x  H; exact g0 H
  | succ n ih =>
    intro v3 h x  H
    unfold fM_searches_10 at H
    refine R_aload_n (gxd kX7_searches 6 rfl) rfl rfl ?_
    obtain ⟨h1, e2, H⟩ := gbi H
    refine R_callVv (gxd kX7_searches 7 rfl) gm_M_365 wX7_runsAll (by decide) gk_65 rfl rfl (Nat.le_of_ble_eq_true rfl) (by omega) (fM_runsAll_ok  e2 (d + 1)) ?_
    refine R_aload_n (gxd kX7_searches 8 rfl) rfl rfl ?_
    refine R_geti (gxd kX7_searches 9 rfl) gf_M_229 gk_65 (by decide) rfl ?_
    refine R_if_eq (gxd kX7_searches 10 rfl) (tgt := 38) rfl (fun q => ?_) (fun q => ?_)
    · replace H := gift q H
      refine R_iconst (v := (0 : Int32)) (gxd kX7_searches 22 rfl) rfl ?_
      refine R_istore_n (gxd kX7_searches 23 rfl) rfl rfl (Nat.le_of_ble_eq_true rfl) rfl ?_
      refine R_aload_n (gxd kX7_searches 24 rfl) rfl rfl ?_
      obtain ⟨p3, e4, H⟩ := gbi H
      refine R_callVi (gxd kX7_searches 25 rfl) gm_M_374 wX7_chosen (by decide) gk_65 rfl rfl (Nat.le_of_ble_eq_true rfl) (by omega) (fM_chosen_ok  e4 (d + 4)) ?_
      refine R_istore (gxd kX7_searches 26 rfl) rfl (Nat.le_of_ble_eq_true rfl) rfl ?_
      refine R_iload (gxd kX7_searches 27 rfl) rfl ?_
      refine R_iconst (v := (-1 : Int32)) (gxd kX7_searches 28 rfl) rfl ?_
      refine R_icmp_ne (gxd kX7_searches 29 rfl) (tgt := 111) rfl (fun q => ?_) (fun q => ?_)
      · replace H := giff q H
        refine R_aload_n (gxd kX7_searches 62 rfl) rfl rfl ?_
        refine R_geti (gxd kX7_searches 63 rfl) gf_M_386 gk_65 (by decide) rfl ?_
        refine R_iload_n (gxd kX7_searches 64 rfl) rfl rfl ?_
        refine R_icmp_ne (gxd kX7_searches 65 rfl) (tgt := 122) rfl (fun q => ?_) (fun q => ?_)
        · replace H := giff q H
          refine R_aload_n (gxd kX7_searches 68 rfl) rfl rfl ?_
          refine R_dup (gxd kX7_searches 69 rfl) rfl ?_
          refine R_geti (gxd kX7_searches 70 rfl) gf_M_386 gk_65 (by decide) rfl ?_
          refine R_iconst (v := (1 : Int32)) (gxd kX7_searches 71 rfl) rfl ?_
          refine R_iadd (gxd kX7_searches 72 rfl) ?_
          refine R_puti (gxd kX7_searches 73 rfl) gf_M_386 gp_7_48 gk_65 (by decide) rfl ?_
          obtain ⟨h5, e6, H⟩ := glei H
          refine R_heq e6 ?_
          refine R_aload_n (gxd kX7_searches 74 rfl) rfl rfl ?_
          refine R_iload (gxd kX7_searches 75 rfl) rfl ?_
          obtain ⟨p7, e8, H⟩ := gbi H
          refine R_callVi (gxd kX7_searches 76 rfl) gm_M_389 wX7_picked (by decide) gk_65 rfl rfl (Nat.le_of_ble_eq_true rfl) (by omega) (fM_picked_ok  e8 (d + 4)) ?_
          refine R_istore (gxd kX7_searches 77 rfl) rfl (Nat.le_of_ble_eq_true rfl) rfl ?_
          refine R_aload_n (gxd kX7_searches 78 rfl) rfl rfl ?_
          refine R_getr (gxd kX7_searches 79 rfl) gf_M_69 gk_65 (by decide) rfl ?_
          refine R_iload_n (gxd kX7_searches 80 rfl) rfl rfl ?_
          refine R_iload (gxd kX7_searches 81 rfl) rfl ?_
          obtain ⟨b9, H⟩ := ggi H
          have b9 := gin_in b9
          refine R_iast (gxd kX7_searches 82 rfl) gk_84 b9 ?_
          obtain ⟨h10, e11, H⟩ := glei H
          refine R_heq e11 ?_
          refine R_aload_n (gxd kX7_searches 83 rfl) rfl rfl ?_
          refine R_getr (gxd kX7_searches 84 rfl) gf_M_72 gk_65 (by decide) rfl ?_
          refine R_iload_n (gxd kX7_searches 85 rfl) rfl rfl ?_
          refine R_iload (gxd kX7_searches 86 rfl) rfl ?_
          obtain ⟨b12, H⟩ := ggi H
          have b12 := gin_in b12
          refine R_iast (gxd kX7_searches 87 rfl) gk_85 b12 ?_
          obtain ⟨h13, e14, H⟩ := glei H
          refine R_heq e14 ?_
          refine R_iconst (v := (0 : Int32)) (gxd kX7_searches 88 rfl) rfl ?_
          refine R_istore (gxd kX7_searches 89 rfl) rfl (Nat.le_of_ble_eq_true rfl) rfl ?_
          exact R_weak (gle_same (gle_same (gle_same (gle_same (gle_same (gle_same (gle_same (gle_null (gle_null gle_nil))))))))) (fM_searches_159_ok hR0 ih  gfu _ _ _  H)
        · replace H := gift q H
          refine R_bipush (v := (-6 : Int32)) (gxd kX7_searches 66 rfl) rfl ?_
          obtain rfl := Option.some.inj H
          exact R_iret (gxd kX7_searches 67 rfl) rfl
      · replace H := gift q H
        refine R_aload_n (gxd kX7_searches 30 rfl) rfl rfl ?_
        refine R_dup (gxd kX7_searches 31 rfl) rfl ?_
        refine R_geti (gxd kX7_searches 32 rfl) gf_M_377 gk_65 (by decide) rfl ?_
        refine R_iconst (v := (1 : Int32)) (gxd kX7_searches 33 rfl) rfl ?_
        refine R_iadd (gxd kX7_searches 34 rfl) ?_
        refine R_puti (gxd kX7_searches 35 rfl) gf_M_377 gp_7_50 gk_65 (by decide) rfl ?_
        obtain ⟨h36, e37, H⟩ := glei H
        refine R_heq e37 ?_
        refine R_iconst (v := (0 : Int32)) (gxd kX7_searches 36 rfl) rfl ?_
        refine R_istore (gxd kX7_searches 37 rfl) rfl (Nat.le_of_ble_eq_true rfl) rfl ?_
        exact R_weak (gle_same (gle_null (gle_null (gle_null (gle_null (gle_same (gle_null (gle_null (gle_null gle_nil))))))))) (fM_searches_65_ok hR0  gfu _ _ _  H)
    · replace H := giff q H
      refine R_aload_n (gxd kX7_searches 11 rfl) rfl rfl ?_
      refine R_dup (gxd kX7_searches 12 rfl) rfl ?_
      refine R_geti (gxd kX7_searches 13 rfl) gf_M_368 gk_65 (by decide) rfl ?_
      refine R_iconst (v := (1 : Int32)) (gxd kX7_searches 14 rfl) rfl ?_
      refine R_iadd (gxd kX7_searches 15 rfl) ?_
      refine R_puti (gxd kX7_searches 16 rfl) gf_M_368 gp_7_49 gk_65 (by decide) rfl ?_
      obtain ⟨h46, e47, H⟩ := glei H
      refine R_heq e47 ?_
      refine R_aload_n (gxd kX7_searches 17 rfl) rfl rfl ?_
      refine R_iload_n (gxd kX7_searches 18 rfl) rfl rfl ?_
      obtain ⟨b48, H⟩ := ggi H
      have b48 := gbo_or b48
      refine R_putz (gxd kX7_searches 19 rfl) gf_M_371 gp_7_53 b48 gk_65 (by decide) rfl ?_
      obtain ⟨h49, e50, H⟩ := glei H
      refine R_heq e50 ?_
      refine R_iconst (v := (0 : Int32)) (gxd kX7_searches 20 rfl) rfl ?_
      obtain rfl := Option.some.inj H
      exact R_iret (gxd kX7_searches 21 rfl) rfl
def fM_searches_9 (R : Int32 → Int32 → gH → Option (Int32 × gH)) (v1 : Int32) (v2 : Int32) (s0 : Int32) (h : gH) : Option (Int32 × gH) :=
  fM_searches_10 R v1 v2 gfu s0 h
theorem fM_searches_9_ok {d : Nat} {R : Int32 → Int32 → gH → Option (Int32 × gH)} {v1 : Int32} {v2 : Int32} {s0 : Int32} (hR0 : ∀ a b h x, R a b h = some x → gC yX7_searches cX7_searches 9 (some .int) (d + 5) [.ref 65, .int a, .int b] h (some (.int x.1)) x.2)  {h : gH} {x : (Int32 × gH)} (H : fM_searches_9 R v1 v2 s0 h = some x) : gR RX7 cX7_searches 9 (some .int) (d + 6) 9 [.ref 65, .int v1, .int v2, .null, .null, .null, .null, .null, .null] [.int s0] h (some (.int x.1)) x.2 := by
  unfold fM_searches_9 at H
  refine R_istore_n (gxd kX7_searches 5 rfl) rfl rfl (Nat.le_of_ble_eq_true rfl) rfl ?_
  exact R_weak (gle_same (gle_same (gle_same (gle_same (gle_null (gle_null (gle_null (gle_null (gle_null gle_nil))))))))) (fM_searches_10_ok hR0  gfu _ _ _  H)
def fM_searches (R : Int32 → Int32 → gH → Option (Int32 × gH)) (v1 : Int32) (v2 : Int32) (h : gH) : Option (Int32 × gH) :=
  if (0 : Int32) < v1 then
    fM_searches_9 R v1 v2 (1 : Int32) h
  else
    fM_searches_9 R v1 v2 (0 : Int32) h
theorem fM_searches_ok {d : Nat} {R : Int32 → Int32 → gH → Option (Int32 × gH)} {v1 : Int32} {v2 : Int32} (hR0 : ∀ a b h x, R a b h = some x → gC yX7_searches cX7_searches 9 (some .int) (d + 5) [.ref 65, .int a, .int b] h (some (.int x.1)) x.2) {h : gH} {x : (Int32 × gH)} (H : fM_searches R v1 v2 h = some x) : gC yX7_searches cX7_searches 9 (some .int) (d + 6) [.ref 65, .int v1, .int v2] h (some (.int x.1)) x.2 := by
  refine gC_of (by decide +kernel) (Nat.le_of_ble_eq_true rfl) rfl ?_
  unfold fM_searches at H
  refine R_iload_n (gxd kX7_searches 0 rfl) rfl rfl ?_
  refine R_if_le (gxd kX7_searches 1 rfl) (tgt := 8) rfl (fun q => ?_) (fun q => ?_)
  · replace H := giff q H
    refine R_iconst (v := (0 : Int32)) (gxd kX7_searches 4 rfl) rfl ?_
    exact R_weak (gle_same (gle_same (gle_same (gle_null (gle_null (gle_null (gle_null (gle_null (gle_null gle_nil))))))))) (fM_searches_9_ok hR0  H)
  · replace H := gift q H
    refine R_iconst (v := (1 : Int32)) (gxd kX7_searches 2 rfl) rfl ?_
    refine R_goto (gxd kX7_searches 3 rfl) (tgt := 9) rfl ?_
    exact R_weak (gle_same (gle_same (gle_same (gle_null (gle_null (gle_null (gle_null (gle_null (gle_null gle_nil))))))))) (fM_searches_9_ok hR0  H)
def gMS : Nat → Int32 → Int32 → gH → Option (Int32 × gH)
  | 0, _, _, _ => none
  | n + 1, a, b, h => fM_searches (gMS n) a b h
theorem gMS_all : ∀ n : Nat, ∀ (a b : Int32) (h : gH) (x : Int32 × gH), gMS n a b h = some x → ∀ d : Nat, gC yX7_searches cX7_searches 9 (some .int) (d + (5 + n)) [.ref 65, .int a, .int b] h (some (.int x.1)) x.2 := by
  intro n
  induction n with
  | zero => exact fun a b h x H => g0 H
  | succ n ih =>
    exact (fun a b h x H d => by
      have H2 := fM_searches_ok (d := d + n)  (fun a b h x H => by have := ih a b h x H d; rw [show d + (5 + n) = d + n + 5 by omega] at this; exact this) H
      rw [show d + (5 + (n + 1)) = d + n + 6 by omega]
      exact H2)
theorem gMS_ok_0 (n : Nat) : ∀ (a b : Int32) (h : gH) (x : Int32 × gH), gMS n a b h = some x → ∀ d : Nat, gC yX7_searches cX7_searches 9 (some .int) (d + (5 + n)) [.ref 65, .int a, .int b] h (some (.int x.1)) x.2 := gMS_all n
def fM_searched (v1 : Int32) (v2 : Int32) (v3 : Int32) (v4 : Int32) (v5 : Int32) (h : gH) : Option (Int32 × gH) :=
  glet (hu h 65 44 v1) fun h1 =>
  glet (hu h1 65 45 v2) fun h3 =>
  gg (gbo v3) <|
  glet (hu h3 65 46 v3) fun h6 =>
  gg (gbo v4) <|
  glet (hu h6 65 47 v4) fun h9 =>
  glet (hu h9 65 48 (0 : Int32)) fun h11 =>
  glet (hu h11 65 49 (0 : Int32)) fun h13 =>
  glet (hu h13 65 50 (0 : Int32)) fun h15 =>
  glet (hu h15 65 9 (0 : Int32)) fun h17 =>
  glet (hu h17 65 53 (0 : Int32)) fun h19 =>
  (gMS 40 (0 : Int32) v5 h19).bind fun p21 =>
  glet (hu p21.2 65 54 (p21.2 65 9)) fun h23 =>
  glet (hu h23 65 9 (0 : Int32)) fun h25 =>
  some (p21.1, h25)
theorem fM_searched_ok {v1 : Int32} {v2 : Int32} {v3 : Int32} {v4 : Int32} {v5 : Int32} {h : gH} {x : (Int32 × gH)} (H : fM_searched v1 v2 v3 v4 v5 h = some x) (d : Nat) : gC yX7_searched cX7_searched 7 (some .int) (d + 46) [.ref 65, .int v1, .int v2, .int v3, .int v4, .int v5] h (some (.int x.1)) x.2 := by
  refine gC_of (by decide +kernel) (Nat.le_of_ble_eq_true rfl) rfl ?_
  unfold fM_searched at H
  refine R_aload_n (gxd kX7_searched 0 rfl) rfl rfl ?_
  refine R_iload_n (gxd kX7_searched 1 rfl) rfl rfl ?_
  refine R_puti (gxd kX7_searched 2 rfl) gf_M_356 gp_7_44 gk_65 (by decide) rfl ?_
  obtain ⟨h1, e2, H⟩ := glei H
  refine R_heq e2 ?_
  refine R_aload_n (gxd kX7_searched 3 rfl) rfl rfl ?_
  refine R_iload_n (gxd kX7_searched 4 rfl) rfl rfl ?_
  refine R_puti (gxd kX7_searched 5 rfl) gf_M_362 gp_7_45 gk_65 (by decide) rfl ?_
  obtain ⟨h3, e4, H⟩ := glei H
  refine R_heq e4 ?_
  refine R_aload_n (gxd kX7_searched 6 rfl) rfl rfl ?_
  refine R_iload_n (gxd kX7_searched 7 rfl) rfl rfl ?_
  obtain ⟨b5, H⟩ := ggi H
  have b5 := gbo_or b5
  refine R_putz (gxd kX7_searched 8 rfl) gf_M_395 gp_7_46 b5 gk_65 (by decide) rfl ?_
  obtain ⟨h6, e7, H⟩ := glei H
  refine R_heq e7 ?_
  refine R_aload_n (gxd kX7_searched 9 rfl) rfl rfl ?_
  refine R_iload (gxd kX7_searched 10 rfl) rfl ?_
  obtain ⟨b8, H⟩ := ggi H
  have b8 := gbo_or b8
  refine R_putz (gxd kX7_searched 11 rfl) gf_M_383 gp_7_47 b8 gk_65 (by decide) rfl ?_
  obtain ⟨h9, e10, H⟩ := glei H
  refine R_heq e10 ?_
  refine R_aload_n (gxd kX7_searched 12 rfl) rfl rfl ?_
  refine R_iconst (v := (0 : Int32)) (gxd kX7_searched 13 rfl) rfl ?_
  refine R_puti (gxd kX7_searched 14 rfl) gf_M_386 gp_7_48 gk_65 (by decide) rfl ?_
  obtain ⟨h11, e12, H⟩ := glei H
  refine R_heq e12 ?_
  refine R_aload_n (gxd kX7_searched 15 rfl) rfl rfl ?_
  refine R_iconst (v := (0 : Int32)) (gxd kX7_searched 16 rfl) rfl ?_
  refine R_puti (gxd kX7_searched 17 rfl) gf_M_368 gp_7_49 gk_65 (by decide) rfl ?_
  obtain ⟨h13, e14, H⟩ := glei H
  refine R_heq e14 ?_
  refine R_aload_n (gxd kX7_searched 18 rfl) rfl rfl ?_
  refine R_iconst (v := (0 : Int32)) (gxd kX7_searched 19 rfl) rfl ?_
  refine R_puti (gxd kX7_searched 20 rfl) gf_M_377 gp_7_50 gk_65 (by decide) rfl ?_
  obtain ⟨h15, e16, H⟩ := glei H
  refine R_heq e16 ?_
  refine R_aload_n (gxd kX7_searched 21 rfl) rfl rfl ?_
  refine R_iconst (v := (0 : Int32)) (gxd kX7_searched 22 rfl) rfl ?_
  refine R_puti (gxd kX7_searched 23 rfl) gf_M_239 gp_7_9 gk_65 (by decide) rfl ?_
  obtain ⟨h17, e18, H⟩ := glei H
  refine R_heq e18 ?_
  refine R_aload_n (gxd kX7_searched 24 rfl) rfl rfl ?_
  refine R_iconst (v := (0 : Int32)) (gxd kX7_searched 25 rfl) rfl ?_
  refine R_putz (gxd kX7_searched 26 rfl) gf_M_371 gp_7_53 (Or.inl rfl) gk_65 (by decide) rfl ?_
  obtain ⟨h19, e20, H⟩ := glei H
  refine R_heq e20 ?_
  refine R_aload_n (gxd kX7_searched 27 rfl) rfl rfl ?_
  refine R_iconst (v := (0 : Int32)) (gxd kX7_searched 28 rfl) rfl ?_
  refine R_iload (gxd kX7_searched 29 rfl) rfl ?_
  obtain ⟨p21, e22, H⟩ := gbi H
  refine R_callVi (gxd kX7_searched 30 rfl) gm_M_392 wX7_searches (by decide) gk_65 rfl rfl (Nat.le_of_ble_eq_true rfl) (by omega) (gMS_ok_0 40 _ _ _ _ e22 (d + 0)) ?_
  refine R_istore (gxd kX7_searched 31 rfl) rfl (Nat.le_of_ble_eq_true rfl) rfl ?_
  refine R_aload_n (gxd kX7_searched 32 rfl) rfl rfl ?_
  refine R_aload_n (gxd kX7_searched 33 rfl) rfl rfl ?_
  refine R_geti (gxd kX7_searched 34 rfl) gf_M_239 gk_65 (by decide) rfl ?_
  refine R_puti (gxd kX7_searched 35 rfl) gf_M_404 gp_7_54 gk_65 (by decide) rfl ?_
  obtain ⟨h23, e24, H⟩ := glei H
  refine R_heq e24 ?_
  refine R_aload_n (gxd kX7_searched 36 rfl) rfl rfl ?_
  refine R_iconst (v := (0 : Int32)) (gxd kX7_searched 37 rfl) rfl ?_
  refine R_puti (gxd kX7_searched 38 rfl) gf_M_239 gp_7_9 gk_65 (by decide) rfl ?_
  obtain ⟨h25, e26, H⟩ := glei H
  refine R_heq e26 ?_
  refine R_iload (gxd kX7_searched 39 rfl) rfl ?_
  obtain rfl := Option.some.inj H
  exact R_iret (gxd kX7_searched 40 rfl) rfl
def fM_laysAside2_28 : Nat → Int32 → gH → Option gH
  | 0, _, _ => none
  | n + 1, v1, h =>
    if v1 < (24 : Int32) then
      gg (gin v1 24) <|
      gg (gin v1 24) <|
      gg (gbo (h 71 v1.toNatClampNeg)) <|
      glet (hu h 90 v1.toNatClampNeg (h 71 v1.toNatClampNeg)) fun h7 =>
      fM_laysAside2_28 n (v1 + (1 : Int32)) h7
    else
      gg (gbo (h 65 2)) <|
      glet (hu h 65 57 (h 65 2)) fun h2 =>
      some (hu h2 65 36 (1 : Int32))
theorem fM_laysAside2_28_ok {d : Nat}  : ∀ (n : Nat) (v1 : Int32) (h : gH) (x : gH), fM_laysAside2_28  n v1 h = some x → gR RX7 cX7_laysAside2 2 none (d + 0) 28 [.ref 65, .int v1] [] h none x := by
  intro n
  induction n with
  | zero => intro v1 h x  H; exact g0 H
  | succ n ih =>
    intro v1 h x  H
    unfold fM_laysAside2_28 at H
    refine R_iload_n (gxd kX7_laysAside2 17 rfl) rfl rfl ?_
    refine R_bipush (v := (24 : Int32)) (gxd kX7_laysAside2 18 rfl) rfl ?_
    refine R_icmp_ge (gxd kX7_laysAside2 19 rfl) (tgt := 52) rfl (fun q => ?_) (fun q => ?_)
    · replace H := giff q H
      refine R_aload_n (gxd kX7_laysAside2 30 rfl) rfl rfl ?_
      refine R_aload_n (gxd kX7_laysAside2 31 rfl) rfl rfl ?_
      refine R_geti (gxd kX7_laysAside2 32 rfl) gf_M_229 gk_65 (by decide) rfl ?_
      obtain ⟨b1, H⟩ := ggi H
      have b1 := gbo_or b1
      refine R_putz (gxd kX7_laysAside2 33 rfl) gf_M_419 gp_7_57 b1 gk_65 (by decide) rfl ?_
      obtain ⟨h2, e3, H⟩ := glei H
      refine R_heq e3 ?_
      refine R_aload_n (gxd kX7_laysAside2 34 rfl) rfl rfl ?_
      refine R_iconst (v := (1 : Int32)) (gxd kX7_laysAside2 35 rfl) rfl ?_
      refine R_putz (gxd kX7_laysAside2 36 rfl) gf_M_259 gp_7_36 (Or.inr rfl) gk_65 (by decide) rfl ?_
      obtain rfl := Option.some.inj H
      exact R_vret (gxd kX7_laysAside2 37 rfl) rfl
    · replace H := gift q H
      refine R_aload_n (gxd kX7_laysAside2 20 rfl) rfl rfl ?_
      refine R_getr (gxd kX7_laysAside2 21 rfl) gf_M_87 gk_65 (by decide) rfl ?_
      refine R_iload_n (gxd kX7_laysAside2 22 rfl) rfl rfl ?_
      refine R_aload_n (gxd kX7_laysAside2 23 rfl) rfl rfl ?_
      refine R_getr (gxd kX7_laysAside2 24 rfl) gf_M_30 gk_65 (by decide) rfl ?_
      refine R_iload_n (gxd kX7_laysAside2 25 rfl) rfl rfl ?_
      obtain ⟨b4, H⟩ := ggi H
      have b4 := gin_in b4
      refine R_zald (gxd kX7_laysAside2 26 rfl) gk_71 b4 ?_
      obtain ⟨b5, H⟩ := ggi H
      have b5 := gin_in b5
      obtain ⟨b6, H⟩ := ggi H
      have b6 := gbo_or b6
      refine R_zast (gxd kX7_laysAside2 27 rfl) gk_90 b5 b6 ?_
      obtain ⟨h7, e8, H⟩ := glei H
      refine R_heq e8 ?_
      refine R_iinc (v := (v1 + (1 : Int32))) (gxd kX7_laysAside2 28 rfl) rfl rfl rfl (Nat.le_of_ble_eq_true rfl) rfl ?_
      refine R_goto (gxd kX7_laysAside2 29 rfl) (tgt := 28) rfl ?_
      exact R_weak (gle_same (gle_same gle_nil)) (ih _ _ _  H)
def fM_laysAside2_2 : Nat → Int32 → gH → Option gH
  | 0, _, _ => none
  | n + 1, v1, h =>
    if v1 < (8 : Int32) then
      gg (gin v1 8) <|
      gg (gin v1 8) <|
      glet (hu h 89 v1.toNatClampNeg (h 66 v1.toNatClampNeg)) fun h11 =>
      fM_laysAside2_2 n (v1 + (1 : Int32)) h11
    else
      fM_laysAside2_28 gfu (0 : Int32) h
theorem fM_laysAside2_2_ok {d : Nat}  : ∀ (n : Nat) (v1 : Int32) (h : gH) (x : gH), fM_laysAside2_2  n v1 h = some x → gR RX7 cX7_laysAside2 2 none (d + 0) 2 [.ref 65, .int v1] [] h none x := by
  intro n
  induction n with
  | zero => intro v1 h x  H; exact g0 H
  | succ n ih =>
    intro v1 h x  H
    unfold fM_laysAside2_2 at H
    refine R_iload_n (gxd kX7_laysAside2 2 rfl) rfl rfl ?_
    refine R_bipush (v := (8 : Int32)) (gxd kX7_laysAside2 3 rfl) rfl ?_
    refine R_icmp_ge (gxd kX7_laysAside2 4 rfl) (tgt := 26) rfl (fun q => ?_) (fun q => ?_)
    · replace H := giff q H
      refine R_iconst (v := (0 : Int32)) (gxd kX7_laysAside2 15 rfl) rfl ?_
      refine R_istore_n (gxd kX7_laysAside2 16 rfl) rfl rfl (Nat.le_of_ble_eq_true rfl) rfl ?_
      exact R_weak (gle_same (gle_same gle_nil)) (fM_laysAside2_28_ok  gfu _ _ _  H)
    · replace H := gift q H
      refine R_aload_n (gxd kX7_laysAside2 5 rfl) rfl rfl ?_
      refine R_getr (gxd kX7_laysAside2 6 rfl) gf_M_84 gk_65 (by decide) rfl ?_
      refine R_iload_n (gxd kX7_laysAside2 7 rfl) rfl rfl ?_
      refine R_aload_n (gxd kX7_laysAside2 8 rfl) rfl rfl ?_
      refine R_getr (gxd kX7_laysAside2 9 rfl) gf_M_13 gk_65 (by decide) rfl ?_
      refine R_iload_n (gxd kX7_laysAside2 10 rfl) rfl rfl ?_
      obtain ⟨b9, H⟩ := ggi H
      have b9 := gin_in b9
      refine R_iald (gxd kX7_laysAside2 11 rfl) gk_66 b9 ?_
      obtain ⟨b10, H⟩ := ggi H
      have b10 := gin_in b10
      refine R_iast (gxd kX7_laysAside2 12 rfl) gk_89 b10 ?_
      obtain ⟨h11, e12, H⟩ := glei H
      refine R_heq e12 ?_
      refine R_iinc (v := (v1 + (1 : Int32))) (gxd kX7_laysAside2 13 rfl) rfl rfl rfl (Nat.le_of_ble_eq_true rfl) rfl ?_
      refine R_goto (gxd kX7_laysAside2 14 rfl) (tgt := 2) rfl ?_
      exact R_weak (gle_same (gle_same gle_nil)) (ih _ _ _  H)
def fM_laysAside2 (h : gH) : Option gH :=
  fM_laysAside2_2 gfu (0 : Int32) h
theorem fM_laysAside2_ok {h : gH} {x : gH} (H : fM_laysAside2  h = some x) (d : Nat) : gC yX7_laysAside2 cX7_laysAside2 2 none (d + 0) [.ref 65] h none x := by
  refine gC_of (by decide +kernel) (Nat.le_of_ble_eq_true rfl) rfl ?_
  unfold fM_laysAside2 at H
  refine R_iconst (v := (0 : Int32)) (gxd kX7_laysAside2 0 rfl) rfl ?_
  refine R_istore_n (gxd kX7_laysAside2 1 rfl) rfl rfl (Nat.le_of_ble_eq_true rfl) rfl ?_
  exact R_weak (gle_same (gle_same gle_nil)) (fM_laysAside2_2_ok  gfu _ _ _  H)
def fM_laysBack2_28 : Nat → Int32 → gH → Option gH
  | 0, _, _ => none
  | n + 1, v1, h =>
    if v1 < (24 : Int32) then
      gg (gin v1 24) <|
      gg (gin v1 24) <|
      gg (gbo (h 90 v1.toNatClampNeg)) <|
      glet (hu h 71 v1.toNatClampNeg (h 90 v1.toNatClampNeg)) fun h7 =>
      fM_laysBack2_28 n (v1 + (1 : Int32)) h7
    else
      gg (gbo (h 65 57)) <|
      glet (hu h 65 2 (h 65 57)) fun h2 =>
      some (hu h2 65 36 (0 : Int32))
theorem fM_laysBack2_28_ok {d : Nat}  : ∀ (n : Nat) (v1 : Int32) (h : gH) (x : gH), fM_laysBack2_28  n v1 h = some x → gR RX7 cX7_laysBack2 2 none (d + 0) 28 [.ref 65, .int v1] [] h none x := by
  intro n
  induction n with
  | zero => intro v1 h x  H; exact g0 H
  | succ n ih =>
    intro v1 h x  H
    unfold fM_laysBack2_28 at H
    refine R_iload_n (gxd kX7_laysBack2 17 rfl) rfl rfl ?_
    refine R_bipush (v := (24 : Int32)) (gxd kX7_laysBack2 18 rfl) rfl ?_
    refine R_icmp_ge (gxd kX7_laysBack2 19 rfl) (tgt := 52) rfl (fun q => ?_) (fun q => ?_)
    · replace H := giff q H
      refine R_aload_n (gxd kX7_laysBack2 30 rfl) rfl rfl ?_
      refine R_aload_n (gxd kX7_laysBack2 31 rfl) rfl rfl ?_
      refine R_geti (gxd kX7_laysBack2 32 rfl) gf_M_419 gk_65 (by decide) rfl ?_
      obtain ⟨b1, H⟩ := ggi H
      have b1 := gbo_or b1
      refine R_putz (gxd kX7_laysBack2 33 rfl) gf_M_229 gp_7_2 b1 gk_65 (by decide) rfl ?_
      obtain ⟨h2, e3, H⟩ := glei H
      refine R_heq e3 ?_
      refine R_aload_n (gxd kX7_laysBack2 34 rfl) rfl rfl ?_
      refine R_iconst (v := (0 : Int32)) (gxd kX7_laysBack2 35 rfl) rfl ?_
      refine R_putz (gxd kX7_laysBack2 36 rfl) gf_M_259 gp_7_36 (Or.inl rfl) gk_65 (by decide) rfl ?_
      obtain rfl := Option.some.inj H
      exact R_vret (gxd kX7_laysBack2 37 rfl) rfl
    · replace H := gift q H
      refine R_aload_n (gxd kX7_laysBack2 20 rfl) rfl rfl ?_
      refine R_getr (gxd kX7_laysBack2 21 rfl) gf_M_30 gk_65 (by decide) rfl ?_
      refine R_iload_n (gxd kX7_laysBack2 22 rfl) rfl rfl ?_
      refine R_aload_n (gxd kX7_laysBack2 23 rfl) rfl rfl ?_
      refine R_getr (gxd kX7_laysBack2 24 rfl) gf_M_87 gk_65 (by decide) rfl ?_
      refine R_iload_n (gxd kX7_laysBack2 25 rfl) rfl rfl ?_
      obtain ⟨b4, H⟩ := ggi H
      have b4 := gin_in b4
      refine R_zald (gxd kX7_laysBack2 26 rfl) gk_90 b4 ?_
      obtain ⟨b5, H⟩ := ggi H
      have b5 := gin_in b5
      obtain ⟨b6, H⟩ := ggi H
      have b6 := gbo_or b6
      refine R_zast (gxd kX7_laysBack2 27 rfl) gk_71 b5 b6 ?_
      obtain ⟨h7, e8, H⟩ := glei H
      refine R_heq e8 ?_
      refine R_iinc (v := (v1 + (1 : Int32))) (gxd kX7_laysBack2 28 rfl) rfl rfl rfl (Nat.le_of_ble_eq_true rfl) rfl ?_
      refine R_goto (gxd kX7_laysBack2 29 rfl) (tgt := 28) rfl ?_
      exact R_weak (gle_same (gle_same gle_nil)) (ih _ _ _  H)
def fM_laysBack2_2 : Nat → Int32 → gH → Option gH
  | 0, _, _ => none
  | n + 1, v1, h =>
    if v1 < (8 : Int32) then
      gg (gin v1 8) <|
      gg (gin v1 8) <|
      glet (hu h 66 v1.toNatClampNeg (h 89 v1.toNatClampNeg)) fun h11 =>
      fM_laysBack2_2 n (v1 + (1 : Int32)) h11
    else
      fM_laysBack2_28 gfu (0 : Int32) h
theorem fM_laysBack2_2_ok {d : Nat}  : ∀ (n : Nat) (v1 : Int32) (h : gH) (x : gH), fM_laysBack2_2  n v1 h = some x → gR RX7 cX7_laysBack2 2 none (d + 0) 2 [.ref 65, .int v1] [] h none x := by
  intro n
  induction n with
  | zero => intro v1 h x  H; exact g0 H
  | succ n ih =>
    intro v1 h x  H
    unfold fM_laysBack2_2 at H
    refine R_iload_n (gxd kX7_laysBack2 2 rfl) rfl rfl ?_
    refine R_bipush (v := (8 : Int32)) (gxd kX7_laysBack2 3 rfl) rfl ?_
    refine R_icmp_ge (gxd kX7_laysBack2 4 rfl) (tgt := 26) rfl (fun q => ?_) (fun q => ?_)
    · replace H := giff q H
      refine R_iconst (v := (0 : Int32)) (gxd kX7_laysBack2 15 rfl) rfl ?_
      refine R_istore_n (gxd kX7_laysBack2 16 rfl) rfl rfl (Nat.le_of_ble_eq_true rfl) rfl ?_
      exact R_weak (gle_same (gle_same gle_nil)) (fM_laysBack2_28_ok  gfu _ _ _  H)
    · replace H := gift q H
      refine R_aload_n (gxd kX7_laysBack2 5 rfl) rfl rfl ?_
      refine R_getr (gxd kX7_laysBack2 6 rfl) gf_M_13 gk_65 (by decide) rfl ?_
      refine R_iload_n (gxd kX7_laysBack2 7 rfl) rfl rfl ?_
      refine R_aload_n (gxd kX7_laysBack2 8 rfl) rfl rfl ?_
      refine R_getr (gxd kX7_laysBack2 9 rfl) gf_M_84 gk_65 (by decide) rfl ?_
      refine R_iload_n (gxd kX7_laysBack2 10 rfl) rfl rfl ?_
      obtain ⟨b9, H⟩ := ggi H
      have b9 := gin_in b9
      refine R_iald (gxd kX7_laysBack2 11 rfl) gk_89 b9 ?_
      obtain ⟨b10, H⟩ := ggi H
      have b10 := gin_in b10
      refine R_iast (gxd kX7_laysBack2 12 rfl) gk_66 b10 ?_
      obtain ⟨h11, e12, H⟩ := glei H
      refine R_heq e12 ?_
      refine R_iinc (v := (v1 + (1 : Int32))) (gxd kX7_laysBack2 13 rfl) rfl rfl rfl (Nat.le_of_ble_eq_true rfl) rfl ?_
      refine R_goto (gxd kX7_laysBack2 14 rfl) (tgt := 2) rfl ?_
      exact R_weak (gle_same (gle_same gle_nil)) (ih _ _ _  H)
def fM_laysBack2 (h : gH) : Option gH :=
  fM_laysBack2_2 gfu (0 : Int32) h
theorem fM_laysBack2_ok {h : gH} {x : gH} (H : fM_laysBack2  h = some x) (d : Nat) : gC yX7_laysBack2 cX7_laysBack2 2 none (d + 0) [.ref 65] h none x := by
  refine gC_of (by decide +kernel) (Nat.le_of_ble_eq_true rfl) rfl ?_
  unfold fM_laysBack2 at H
  refine R_iconst (v := (0 : Int32)) (gxd kX7_laysBack2 0 rfl) rfl ?_
  refine R_istore_n (gxd kX7_laysBack2 1 rfl) rfl rfl (Nat.le_of_ble_eq_true rfl) rfl ?_
  exact R_weak (gle_same (gle_same gle_nil)) (fM_laysBack2_2_ok  gfu _ _ _  H)
def fM_search_131 (v5 : Int32) : Nat → Int32 → Int32 → gH → Option (Int32 × gH)
  | 0, _, _, _ => none
  | n + 1, v6, v7, h =>
    if v7 < (8 : Int32) then
      gg (gin v7 8) <|
      fM_search_131 v5 n (((10 : Int32) * v6) + (h 87 v7.toNatClampNeg)) (v7 + (1 : Int32)) h
    else
      if v5 = (1 : Int32) then
        some (v6, h)
      else
        some ((-1 : Int32), h)
theorem fM_search_131_ok {d : Nat} {v5 : Int32}  : ∀ (n : Nat) (v6 : Int32) (v7 : Int32) (h : gH) (x : (Int32 × gH)), fM_search_131 v5 n v6 v7 h = some x → gR RX7 cX7_search 8 (some .int) (d + 47) 131 [.ref 65, .null, .null, .null, .null, .int v5, .int v6, .int v7] [] h (some (.int x.1)) x.2 := by
  intro n
  induction n with
  | zero => intro v6 v7 h x  H; exact g0 H
  | succ n ih =>
    intro v6 v7 h x  H
    unfold fM_search_131 at H
    refine R_iload (gxd kX7_search 69 rfl) rfl ?_
    refine R_bipush (v := (8 : Int32)) (gxd kX7_search 70 rfl) rfl ?_
    refine R_icmp_ge (gxd kX7_search 71 rfl) (tgt := 159) rfl (fun q => ?_) (fun q => ?_)
    · replace H := giff q H
      refine R_iload (gxd kX7_search 83 rfl) rfl ?_
      refine R_iconst (v := (1 : Int32)) (gxd kX7_search 84 rfl) rfl ?_
      refine R_icmp_ne (gxd kX7_search 85 rfl) (tgt := 170) rfl (fun q => ?_) (fun q => ?_)
      · replace H := giff q H
        refine R_iconst (v := (-1 : Int32)) (gxd kX7_search 88 rfl) rfl ?_
        obtain rfl := Option.some.inj H
        exact R_iret (gxd kX7_search 89 rfl) rfl
      · replace H := gift q H
        refine R_iload (gxd kX7_search 86 rfl) rfl ?_
        refine R_goto (gxd kX7_search 87 rfl) (tgt := 171) rfl ?_
        obtain rfl := Option.some.inj H
        exact R_iret (gxd kX7_search 89 rfl) rfl
    · replace H := gift q H
      refine R_bipush (v := (10 : Int32)) (gxd kX7_search 72 rfl) rfl ?_
      refine R_iload (gxd kX7_search 73 rfl) rfl ?_
      refine R_imul (gxd kX7_search 74 rfl) ?_
      refine R_aload_n (gxd kX7_search 75 rfl) rfl rfl ?_
      refine R_getr (gxd kX7_search 76 rfl) gf_M_78 gk_65 (by decide) rfl ?_
      refine R_iload (gxd kX7_search 77 rfl) rfl ?_
      obtain ⟨b15, H⟩ := ggi H
      have b15 := gin_in b15
      refine R_iald (gxd kX7_search 78 rfl) gk_87 b15 ?_
      refine R_iadd (gxd kX7_search 79 rfl) ?_
      refine R_istore (gxd kX7_search 80 rfl) rfl (Nat.le_of_ble_eq_true rfl) rfl ?_
      refine R_iinc (v := (v7 + (1 : Int32))) (gxd kX7_search 81 rfl) rfl rfl rfl (Nat.le_of_ble_eq_true rfl) rfl ?_
      refine R_goto (gxd kX7_search 82 rfl) (tgt := 131) rfl ?_
      exact R_weak (gle_same (gle_null (gle_null (gle_null (gle_null (gle_same (gle_same (gle_same gle_nil)))))))) (ih _ _ _ _  H)
def fM_search_67 (v4 : Int32) (s1 : Int32) (s2 : Int32) (s3 : Int32) (h : gH) : Option (Int32 × gH) :=
  (fM_searched s1 s2 s3 (0 : Int32) (100 : Int32) h).bind fun p11 =>
  (fM_laysBack2 p11.2).bind fun h13 =>
  if p11.1 = (-6 : Int32) then
    some ((-6 : Int32), h13)
  else
    if (0 : Int32) < v4 then
      if v4 = (1 : Int32) then
        some ((h13 65 48), h13)
      else
        if v4 = (2 : Int32) then
          some ((h13 65 49), h13)
        else
          some ((h13 65 54), h13)
    else
      fM_search_131 p11.1 gfu (0 : Int32) (0 : Int32) h13
theorem fM_search_67_ok {d : Nat} {v4 : Int32} {s1 : Int32} {s2 : Int32} {s3 : Int32}  {h : gH} {x : (Int32 × gH)} (H : fM_search_67 v4 s1 s2 s3 h = some x) : gR RX7 cX7_search 8 (some .int) (d + 47) 67 [.ref 65, .null, .null, .null, .int v4, .null, .null, .null] [.int s3, .int s2, .int s1, .ref 65] h (some (.int x.1)) x.2 := by
  unfold fM_search_67 at H
  refine R_iconst (v := (0 : Int32)) (gxd kX7_search 37 rfl) rfl ?_
  refine R_bipush (v := (100 : Int32)) (gxd kX7_search 38 rfl) rfl ?_
  obtain ⟨p11, e12, H⟩ := gbi H
  refine R_callVi (gxd kX7_search 39 rfl) gm_M_412 wX7_searched (by decide) gk_65 rfl rfl (Nat.le_of_ble_eq_true rfl) (by omega) (fM_searched_ok  e12 (d + 0)) ?_
  refine R_istore (gxd kX7_search 40 rfl) rfl (Nat.le_of_ble_eq_true rfl) rfl ?_
  refine R_aload_n (gxd kX7_search 41 rfl) rfl rfl ?_
  obtain ⟨h13, e14, H⟩ := gbi H
  refine R_callVv (gxd kX7_search 42 rfl) gm_M_416 wX7_laysBack2 (by decide) gk_65 rfl rfl (Nat.le_of_ble_eq_true rfl) (by omega) (fM_laysBack2_ok  e14 (d + 46)) ?_
  refine R_iload (gxd kX7_search 43 rfl) rfl ?_
  refine R_bipush (v := (-6 : Int32)) (gxd kX7_search 44 rfl) rfl ?_
  refine R_icmp_ne (gxd kX7_search 45 rfl) (tgt := 89) rfl (fun q => ?_) (fun q => ?_)
  · replace H := giff q H
    refine R_iload (gxd kX7_search 48 rfl) rfl ?_
    refine R_if_le (gxd kX7_search 49 rfl) (tgt := 125) rfl (fun q => ?_) (fun q => ?_)
    · replace H := giff q H
      refine R_iconst (v := (0 : Int32)) (gxd kX7_search 65 rfl) rfl ?_
      refine R_istore (gxd kX7_search 66 rfl) rfl (Nat.le_of_ble_eq_true rfl) rfl ?_
      refine R_iconst (v := (0 : Int32)) (gxd kX7_search 67 rfl) rfl ?_
      refine R_istore (gxd kX7_search 68 rfl) rfl (Nat.le_of_ble_eq_true rfl) rfl ?_
      exact R_weak (gle_same (gle_null (gle_null (gle_null (gle_null (gle_same (gle_same (gle_same gle_nil)))))))) (fM_search_131_ok  gfu _ _ _ _  H)
    · replace H := gift q H
      refine R_iload (gxd kX7_search 50 rfl) rfl ?_
      refine R_iconst (v := (1 : Int32)) (gxd kX7_search 51 rfl) rfl ?_
      refine R_icmp_ne (gxd kX7_search 52 rfl) (tgt := 107) rfl (fun q => ?_) (fun q => ?_)
      · replace H := giff q H
        refine R_iload (gxd kX7_search 56 rfl) rfl ?_
        refine R_iconst (v := (2 : Int32)) (gxd kX7_search 57 rfl) rfl ?_
        refine R_icmp_ne (gxd kX7_search 58 rfl) (tgt := 120) rfl (fun q => ?_) (fun q => ?_)
        · replace H := giff q H
          refine R_aload_n (gxd kX7_search 62 rfl) rfl rfl ?_
          refine R_geti (gxd kX7_search 63 rfl) gf_M_404 gk_65 (by decide) rfl ?_
          obtain rfl := Option.some.inj H
          exact R_iret (gxd kX7_search 64 rfl) rfl
        · replace H := gift q H
          refine R_aload_n (gxd kX7_search 59 rfl) rfl rfl ?_
          refine R_geti (gxd kX7_search 60 rfl) gf_M_368 gk_65 (by decide) rfl ?_
          refine R_goto (gxd kX7_search 61 rfl) (tgt := 124) rfl ?_
          obtain rfl := Option.some.inj H
          exact R_iret (gxd kX7_search 64 rfl) rfl
      · replace H := gift q H
        refine R_aload_n (gxd kX7_search 53 rfl) rfl rfl ?_
        refine R_geti (gxd kX7_search 54 rfl) gf_M_386 gk_65 (by decide) rfl ?_
        refine R_goto (gxd kX7_search 55 rfl) (tgt := 124) rfl ?_
        obtain rfl := Option.some.inj H
        exact R_iret (gxd kX7_search 64 rfl) rfl
  · replace H := gift q H
    refine R_bipush (v := (-6 : Int32)) (gxd kX7_search 46 rfl) rfl ?_
    obtain rfl := Option.some.inj H
    exact R_iret (gxd kX7_search 47 rfl) rfl
def fM_search (v1 : Int32) (v2 : Int32) (v3 : Int32) (v4 : Int32) (h : gH) : Option (Int32 × gH) :=
  (fM_in v1.toInt64 (0 : Int64) (3 : Int64) h).bind fun p1 =>
  if p1.1 = (0 : Int32) then
    some ((-2 : Int32), p1.2)
  else
    (fM_in v2.toInt64 (0 : Int64) (2 : Int64) p1.2).bind fun p3 =>
    if p3.1 = (0 : Int32) then
      some ((-2 : Int32), p3.2)
    else
      (fM_in v3.toInt64 (0 : Int64) (1 : Int64) p3.2).bind fun p5 =>
      if p5.1 = (0 : Int32) then
        some ((-2 : Int32), p5.2)
      else
        (fM_in v4.toInt64 (0 : Int64) (3 : Int64) p5.2).bind fun p7 =>
        if p7.1 = (0 : Int32) then
          some ((-2 : Int32), p7.2)
        else
          (fM_laysAside2 p7.2).bind fun h9 =>
          if v3 = (1 : Int32) then
            fM_search_67 v4 v1 v2 (1 : Int32) h9
          else
            fM_search_67 v4 v1 v2 (0 : Int32) h9
theorem fM_search_ok {v1 : Int32} {v2 : Int32} {v3 : Int32} {v4 : Int32} {h : gH} {x : (Int32 × gH)} (H : fM_search v1 v2 v3 v4 h = some x) (d : Nat) : gC yX7_search cX7_search 8 (some .int) (d + 47) [.ref 65, .int v1, .int v2, .int v3, .int v4] h (some (.int x.1)) x.2 := by
  refine gC_of (by decide +kernel) (Nat.le_of_ble_eq_true rfl) rfl ?_
  unfold fM_search at H
  refine R_iload_n (gxd kX7_search 0 rfl) rfl rfl ?_
  refine R_i2l (gxd kX7_search 1 rfl) ?_
  refine R_lconst (v := (0 : Int64)) (gxd kX7_search 2 rfl) rfl ?_
  refine R_ldc2 (v := (3 : Int64)) (gxd kX7_search 3 rfl) gc_M_407 ?_
  obtain ⟨p1, e2, H⟩ := gbi H
  refine R_callSi (gxd kX7_search 4 rfl) gm_M_140 wX7_in (by decide) rfl (Nat.le_of_ble_eq_true rfl) (by omega) (fM_in_ok  e2 (d + 46)) ?_
  refine R_if_eq (gxd kX7_search 5 rfl) (tgt := 47) rfl (fun q => ?_) (fun q => ?_)
  · replace H := gift q H
    refine R_bipush (v := (-2 : Int32)) (gxd kX7_search 24 rfl) rfl ?_
    obtain rfl := Option.some.inj H
    exact R_iret (gxd kX7_search 25 rfl) rfl
  · replace H := giff q H
    refine R_iload_n (gxd kX7_search 6 rfl) rfl rfl ?_
    refine R_i2l (gxd kX7_search 7 rfl) ?_
    refine R_lconst (v := (0 : Int64)) (gxd kX7_search 8 rfl) rfl ?_
    refine R_ldc2 (v := (2 : Int64)) (gxd kX7_search 9 rfl) gc_M_248 ?_
    obtain ⟨p3, e4, H⟩ := gbi H
    refine R_callSi (gxd kX7_search 10 rfl) gm_M_140 wX7_in (by decide) rfl (Nat.le_of_ble_eq_true rfl) (by omega) (fM_in_ok  e4 (d + 46)) ?_
    refine R_if_eq (gxd kX7_search 11 rfl) (tgt := 47) rfl (fun q => ?_) (fun q => ?_)
    · replace H := gift q H
      refine R_bipush (v := (-2 : Int32)) (gxd kX7_search 24 rfl) rfl ?_
      obtain rfl := Option.some.inj H
      exact R_iret (gxd kX7_search 25 rfl) rfl
    · replace H := giff q H
      refine R_iload_n (gxd kX7_search 12 rfl) rfl rfl ?_
      refine R_i2l (gxd kX7_search 13 rfl) ?_
      refine R_lconst (v := (0 : Int64)) (gxd kX7_search 14 rfl) rfl ?_
      refine R_lconst (v := (1 : Int64)) (gxd kX7_search 15 rfl) rfl ?_
      obtain ⟨p5, e6, H⟩ := gbi H
      refine R_callSi (gxd kX7_search 16 rfl) gm_M_140 wX7_in (by decide) rfl (Nat.le_of_ble_eq_true rfl) (by omega) (fM_in_ok  e6 (d + 46)) ?_
      refine R_if_eq (gxd kX7_search 17 rfl) (tgt := 47) rfl (fun q => ?_) (fun q => ?_)
      · replace H := gift q H
        refine R_bipush (v := (-2 : Int32)) (gxd kX7_search 24 rfl) rfl ?_
        obtain rfl := Option.some.inj H
        exact R_iret (gxd kX7_search 25 rfl) rfl
      · replace H := giff q H
        refine R_iload (gxd kX7_search 18 rfl) rfl ?_
        refine R_i2l (gxd kX7_search 19 rfl) ?_
        refine R_lconst (v := (0 : Int64)) (gxd kX7_search 20 rfl) rfl ?_
        refine R_ldc2 (v := (3 : Int64)) (gxd kX7_search 21 rfl) gc_M_407 ?_
        obtain ⟨p7, e8, H⟩ := gbi H
        refine R_callSi (gxd kX7_search 22 rfl) gm_M_140 wX7_in (by decide) rfl (Nat.le_of_ble_eq_true rfl) (by omega) (fM_in_ok  e8 (d + 46)) ?_
        refine R_if_ne (gxd kX7_search 23 rfl) (tgt := 50) rfl (fun q => ?_) (fun q => ?_)
        · replace H := giff q H
          refine R_aload_n (gxd kX7_search 26 rfl) rfl rfl ?_
          obtain ⟨h9, e10, H⟩ := gbi H
          refine R_callVv (gxd kX7_search 27 rfl) gm_M_409 wX7_laysAside2 (by decide) gk_65 rfl rfl (Nat.le_of_ble_eq_true rfl) (by omega) (fM_laysAside2_ok  e10 (d + 46)) ?_
          refine R_aload_n (gxd kX7_search 28 rfl) rfl rfl ?_
          refine R_iload_n (gxd kX7_search 29 rfl) rfl rfl ?_
          refine R_iload_n (gxd kX7_search 30 rfl) rfl rfl ?_
          refine R_iload_n (gxd kX7_search 31 rfl) rfl rfl ?_
          refine R_iconst (v := (1 : Int32)) (gxd kX7_search 32 rfl) rfl ?_
          refine R_icmp_ne (gxd kX7_search 33 rfl) (tgt := 66) rfl (fun q => ?_) (fun q => ?_)
          · replace H := giff q H
            refine R_iconst (v := (0 : Int32)) (gxd kX7_search 36 rfl) rfl ?_
            exact R_weak (gle_same (gle_null (gle_null (gle_null (gle_same (gle_null (gle_null (gle_null gle_nil)))))))) (fM_search_67_ok  H)
          · replace H := gift q H
            refine R_iconst (v := (1 : Int32)) (gxd kX7_search 34 rfl) rfl ?_
            refine R_goto (gxd kX7_search 35 rfl) (tgt := 67) rfl ?_
            exact R_weak (gle_same (gle_null (gle_null (gle_null (gle_same (gle_null (gle_null (gle_null gle_nil)))))))) (fM_search_67_ok  H)
        · replace H := gift q H
          refine R_bipush (v := (-2 : Int32)) (gxd kX7_search 24 rfl) rfl ?_
          obtain rfl := Option.some.inj H
          exact R_iret (gxd kX7_search 25 rfl) rfl
def fM_solutions (h : gH) : Option (Int64 × gH) :=
  (fM_laysAside2 h).bind fun h1 =>
  (fM_searched (0 : Int32) (0 : Int32) (0 : Int32) (1 : Int32) (300 : Int32) h1).bind fun p3 =>
  (fM_laysBack2 p3.2).bind fun h5 =>
  if p3.1 = (-6 : Int32) then
    some ((-4611686018427387904 : Int64), h5)
  else
    some ((h5 65 50).toInt64, h5)
theorem fM_solutions_ok {h : gH} {x : (Int64 × gH)} (H : fM_solutions  h = some x) (d : Nat) : gC yX7_solutions cX7_solutions 2 (some .long) (d + 47) [.ref 65] h (some (.long x.1)) x.2 := by
  refine gC_of (by decide +kernel) (Nat.le_of_ble_eq_true rfl) rfl ?_
  unfold fM_solutions at H
  refine R_aload_n (gxd kX7_solutions 0 rfl) rfl rfl ?_
  obtain ⟨h1, e2, H⟩ := gbi H
  refine R_callVv (gxd kX7_solutions 1 rfl) gm_M_409 wX7_laysAside2 (by decide) gk_65 rfl rfl (Nat.le_of_ble_eq_true rfl) (by omega) (fM_laysAside2_ok  e2 (d + 46)) ?_
  refine R_aload_n (gxd kX7_solutions 2 rfl) rfl rfl ?_
  refine R_iconst (v := (0 : Int32)) (gxd kX7_solutions 3 rfl) rfl ?_
  refine R_iconst (v := (0 : Int32)) (gxd kX7_solutions 4 rfl) rfl ?_
  refine R_iconst (v := (0 : Int32)) (gxd kX7_solutions 5 rfl) rfl ?_
  refine R_iconst (v := (1 : Int32)) (gxd kX7_solutions 6 rfl) rfl ?_
  refine R_sipush (v := (300 : Int32)) (gxd kX7_solutions 7 rfl) rfl ?_
  obtain ⟨p3, e4, H⟩ := gbi H
  refine R_callVi (gxd kX7_solutions 8 rfl) gm_M_412 wX7_searched (by decide) gk_65 rfl rfl (Nat.le_of_ble_eq_true rfl) (by omega) (fM_searched_ok  e4 (d + 0)) ?_
  refine R_istore_n (gxd kX7_solutions 9 rfl) rfl rfl (Nat.le_of_ble_eq_true rfl) rfl ?_
  refine R_aload_n (gxd kX7_solutions 10 rfl) rfl rfl ?_
  obtain ⟨h5, e6, H⟩ := gbi H
  refine R_callVv (gxd kX7_solutions 11 rfl) gm_M_416 wX7_laysBack2 (by decide) gk_65 rfl rfl (Nat.le_of_ble_eq_true rfl) (by omega) (fM_laysBack2_ok  e6 (d + 46)) ?_
  refine R_iload_n (gxd kX7_solutions 12 rfl) rfl rfl ?_
  refine R_bipush (v := (-6 : Int32)) (gxd kX7_solutions 13 rfl) rfl ?_
  refine R_icmp_ne (gxd kX7_solutions 14 rfl) (tgt := 32) rfl (fun q => ?_) (fun q => ?_)
  · replace H := giff q H
    refine R_aload_n (gxd kX7_solutions 17 rfl) rfl rfl ?_
    refine R_geti (gxd kX7_solutions 18 rfl) gf_M_377 gk_65 (by decide) rfl ?_
    refine R_i2l (gxd kX7_solutions 19 rfl) ?_
    obtain rfl := Option.some.inj H
    exact R_lret (gxd kX7_solutions 20 rfl) rfl
  · replace H := gift q H
    refine R_ldc2 (v := (-4611686018427387904 : Int64)) (gxd kX7_solutions 15 rfl) gc_M_422 ?_
    refine R_goto (gxd kX7_solutions 16 rfl) (tgt := 37) rfl ?_
    obtain rfl := Option.some.inj H
    exact R_lret (gxd kX7_solutions 20 rfl) rfl
def fM_reach_144 (k30 : Int32 → Int32 → gH → Option (Int32 × gH)) (v1 : Int32) (v2 : Int32) (v4 : Int32) (v7 : Int32) (s0 : Int32) (h : gH) : Option (Int32 × gH) :=
  if v7 = (0 : Int32) then
    k30 (-1 : Int32) (v4 + (1 : Int32)) h
  else
    k30 s0 (v4 + (1 : Int32)) h
theorem fM_reach_144_ok {d : Nat} {k30 : Int32 → Int32 → gH → Option (Int32 × gH)} {v1 : Int32} {v2 : Int32} {v4 : Int32} {v7 : Int32} {s0 : Int32} (hk30 : ∀ (u3 : Int32) (u4 : Int32) (h : gH) (x : (Int32 × gH)), k30 u3 u4 h = some x → gR RX7 cX7_reach 8 (some .int) (d + 47) 30 [.ref 65, .int v1, .int v2, .int u3, .int u4, .null, .null, .null] [] h (some (.int x.1)) x.2) {h : gH} {x : (Int32 × gH)} (H : fM_reach_144 k30 v1 v2 v4 v7 s0 h = some x) : gR RX7 cX7_reach 8 (some .int) (d + 47) 144 [.ref 65, .int v1, .int v2, .null, .int v4, .null, .null, .int v7] [.int s0] h (some (.int x.1)) x.2 := by
  unfold fM_reach_144 at H
  refine R_istore_n (gxd kX7_reach 80 rfl) rfl rfl (Nat.le_of_ble_eq_true rfl) rfl ?_
  refine R_iload (gxd kX7_reach 81 rfl) rfl ?_
  refine R_if_ne (gxd kX7_reach 82 rfl) (tgt := 152) rfl (fun q => ?_) (fun q => ?_)
  · replace H := giff q H
    refine R_iinc (v := (v4 + (1 : Int32))) (gxd kX7_reach 85 rfl) rfl rfl rfl (Nat.le_of_ble_eq_true rfl) rfl ?_
    refine R_goto (gxd kX7_reach 86 rfl) (tgt := 30) rfl ?_
    exact R_weak (gle_same (gle_same (gle_same (gle_same (gle_same (gle_null (gle_null (gle_null gle_nil)))))))) (hk30 _ _ _ _  H)
  · replace H := gift q H
    refine R_iconst (v := (-1 : Int32)) (gxd kX7_reach 83 rfl) rfl ?_
    refine R_istore_n (gxd kX7_reach 84 rfl) rfl rfl (Nat.le_of_ble_eq_true rfl) rfl ?_
    refine R_iinc (v := (v4 + (1 : Int32))) (gxd kX7_reach 85 rfl) rfl rfl rfl (Nat.le_of_ble_eq_true rfl) rfl ?_
    refine R_goto (gxd kX7_reach 86 rfl) (tgt := 30) rfl ?_
    exact R_weak (gle_same (gle_same (gle_same (gle_same (gle_same (gle_null (gle_null (gle_null gle_nil)))))))) (hk30 _ _ _ _  H)
def fM_reach_125 (k30 : Int32 → Int32 → gH → Option (Int32 × gH)) (v1 : Int32) (v2 : Int32) (v4 : Int32) (v5 : Int32) (s0 : Int32) (h : gH) : Option (Int32 × gH) :=
  (fM_laysBack2 h).bind fun h7 =>
  if s0 = (1 : Int32) then
    fM_reach_144 k30 v1 v2 v4 s0 v5 h7
  else
    fM_reach_144 k30 v1 v2 v4 s0 s0 h7
theorem fM_reach_125_ok {d : Nat} {k30 : Int32 → Int32 → gH → Option (Int32 × gH)} {v1 : Int32} {v2 : Int32} {v4 : Int32} {v5 : Int32} {s0 : Int32} (hk30 : ∀ (u3 : Int32) (u4 : Int32) (h : gH) (x : (Int32 × gH)), k30 u3 u4 h = some x → gR RX7 cX7_reach 8 (some .int) (d + 47) 30 [.ref 65, .int v1, .int v2, .int u3, .int u4, .null, .null, .null] [] h (some (.int x.1)) x.2) {h : gH} {x : (Int32 × gH)} (H : fM_reach_125 k30 v1 v2 v4 v5 s0 h = some x) : gR RX7 cX7_reach 8 (some .int) (d + 47) 125 [.ref 65, .int v1, .int v2, .null, .int v4, .int v5, .null, .null] [.int s0] h (some (.int x.1)) x.2 := by
  unfold fM_reach_125 at H
  refine R_istore (gxd kX7_reach 71 rfl) rfl (Nat.le_of_ble_eq_true rfl) rfl ?_
  refine R_aload_n (gxd kX7_reach 72 rfl) rfl rfl ?_
  obtain ⟨h7, e8, H⟩ := gbi H
  refine R_callVv (gxd kX7_reach 73 rfl) gm_M_416 wX7_laysBack2 (by decide) gk_65 rfl rfl (Nat.le_of_ble_eq_true rfl) (by omega) (fM_laysBack2_ok  e8 (d + 46)) ?_
  refine R_iload (gxd kX7_reach 74 rfl) rfl ?_
  refine R_iconst (v := (1 : Int32)) (gxd kX7_reach 75 rfl) rfl ?_
  refine R_icmp_ne (gxd kX7_reach 76 rfl) (tgt := 142) rfl (fun q => ?_) (fun q => ?_)
  · replace H := giff q H
    refine R_iload (gxd kX7_reach 79 rfl) rfl ?_
    exact R_weak (gle_same (gle_same (gle_same (gle_null (gle_same (gle_null (gle_null (gle_same gle_nil)))))))) (fM_reach_144_ok hk30  H)
  · replace H := gift q H
    refine R_iload (gxd kX7_reach 77 rfl) rfl ?_
    refine R_goto (gxd kX7_reach 78 rfl) (tgt := 144) rfl ?_
    exact R_weak (gle_same (gle_same (gle_same (gle_null (gle_same (gle_null (gle_null (gle_same gle_nil)))))))) (fM_reach_144_ok hk30  H)
def fM_reach_106 (k30 : Int32 → Int32 → gH → Option (Int32 × gH)) (v1 : Int32) (v2 : Int32) (v4 : Int32) (v5 : Int32) (v6 : Int32) (h : gH) : Option (Int32 × gH) :=
  if v6 = (0 : Int32) then
    fM_reach_125 k30 v1 v2 v4 v5 (0 : Int32) h
  else
    (fM_searched (0 : Int32) (0 : Int32) (0 : Int32) (0 : Int32) (100 : Int32) h).bind fun p9 =>
    fM_reach_125 k30 v1 v2 v4 v5 p9.1 p9.2
theorem fM_reach_106_ok {d : Nat} {k30 : Int32 → Int32 → gH → Option (Int32 × gH)} {v1 : Int32} {v2 : Int32} {v4 : Int32} {v5 : Int32} {v6 : Int32} (hk30 : ∀ (u3 : Int32) (u4 : Int32) (h : gH) (x : (Int32 × gH)), k30 u3 u4 h = some x → gR RX7 cX7_reach 8 (some .int) (d + 47) 30 [.ref 65, .int v1, .int v2, .int u3, .int u4, .null, .null, .null] [] h (some (.int x.1)) x.2) {h : gH} {x : (Int32 × gH)} (H : fM_reach_106 k30 v1 v2 v4 v5 v6  h = some x) : gR RX7 cX7_reach 8 (some .int) (d + 47) 106 [.ref 65, .int v1, .int v2, .null, .int v4, .int v5, .int v6, .null] [] h (some (.int x.1)) x.2 := by
  unfold fM_reach_106 at H
  refine R_iload (gxd kX7_reach 60 rfl) rfl ?_
  refine R_if_eq (gxd kX7_reach 61 rfl) (tgt := 124) rfl (fun q => ?_) (fun q => ?_)
  · replace H := gift q H
    refine R_iconst (v := (0 : Int32)) (gxd kX7_reach 70 rfl) rfl ?_
    exact R_weak (gle_same (gle_same (gle_same (gle_null (gle_same (gle_same (gle_null (gle_null gle_nil)))))))) (fM_reach_125_ok hk30  H)
  · replace H := giff q H
    refine R_aload_n (gxd kX7_reach 62 rfl) rfl rfl ?_
    refine R_iconst (v := (0 : Int32)) (gxd kX7_reach 63 rfl) rfl ?_
    refine R_iconst (v := (0 : Int32)) (gxd kX7_reach 64 rfl) rfl ?_
    refine R_iconst (v := (0 : Int32)) (gxd kX7_reach 65 rfl) rfl ?_
    refine R_iconst (v := (0 : Int32)) (gxd kX7_reach 66 rfl) rfl ?_
    refine R_bipush (v := (100 : Int32)) (gxd kX7_reach 67 rfl) rfl ?_
    obtain ⟨p9, e10, H⟩ := gbi H
    refine R_callVi (gxd kX7_reach 68 rfl) gm_M_412 wX7_searched (by decide) gk_65 rfl rfl (Nat.le_of_ble_eq_true rfl) (by omega) (fM_searched_ok  e10 (d + 0)) ?_
    refine R_goto (gxd kX7_reach 69 rfl) (tgt := 125) rfl ?_
    exact R_weak (gle_same (gle_same (gle_same (gle_null (gle_same (gle_same (gle_null (gle_null gle_nil)))))))) (fM_reach_125_ok hk30  H)
def fM_reach_89 (k30 : Int32 → Int32 → gH → Option (Int32 × gH)) (v1 : Int32) (v2 : Int32) (v4 : Int32) (v5 : Int32) (s0 : Int32) (h : gH) : Option (Int32 × gH) :=
  if s0 = (0 : Int32) then
    fM_reach_106 k30 v1 v2 v4 v5 s0 h
  else
    (fM_decides v1 ((1 : Int32) <<< (v5 &&& 31)) (0 : Int32) h).bind fun h11 =>
    fM_reach_106 k30 v1 v2 v4 v5 s0 h11
theorem fM_reach_89_ok {d : Nat} {k30 : Int32 → Int32 → gH → Option (Int32 × gH)} {v1 : Int32} {v2 : Int32} {v4 : Int32} {v5 : Int32} {s0 : Int32} (hk30 : ∀ (u3 : Int32) (u4 : Int32) (h : gH) (x : (Int32 × gH)), k30 u3 u4 h = some x → gR RX7 cX7_reach 8 (some .int) (d + 47) 30 [.ref 65, .int v1, .int v2, .int u3, .int u4, .null, .null, .null] [] h (some (.int x.1)) x.2) {h : gH} {x : (Int32 × gH)} (H : fM_reach_89 k30 v1 v2 v4 v5 s0 h = some x) : gR RX7 cX7_reach 8 (some .int) (d + 47) 89 [.ref 65, .int v1, .int v2, .null, .int v4, .int v5, .null, .null] [.int s0] h (some (.int x.1)) x.2 := by
  unfold fM_reach_89 at H
  refine R_istore (gxd kX7_reach 50 rfl) rfl (Nat.le_of_ble_eq_true rfl) rfl ?_
  refine R_iload (gxd kX7_reach 51 rfl) rfl ?_
  refine R_if_eq (gxd kX7_reach 52 rfl) (tgt := 106) rfl (fun q => ?_) (fun q => ?_)
  · replace H := gift q H
    exact R_weak (gle_same (gle_same (gle_same (gle_null (gle_same (gle_same (gle_same (gle_null gle_nil)))))))) (fM_reach_106_ok hk30  H)
  · replace H := giff q H
    refine R_aload_n (gxd kX7_reach 53 rfl) rfl rfl ?_
    refine R_iload_n (gxd kX7_reach 54 rfl) rfl rfl ?_
    refine R_iconst (v := (1 : Int32)) (gxd kX7_reach 55 rfl) rfl ?_
    refine R_iload (gxd kX7_reach 56 rfl) rfl ?_
    refine R_ishl (gxd kX7_reach 57 rfl) ?_
    refine R_iconst (v := (0 : Int32)) (gxd kX7_reach 58 rfl) rfl ?_
    obtain ⟨h11, e12, H⟩ := gbi H
    refine R_callVv (gxd kX7_reach 59 rfl) gm_M_315 wX7_decides (by decide) gk_65 rfl rfl (Nat.le_of_ble_eq_true rfl) (by omega) (fM_decides_ok  e12 (d + 44)) ?_
    exact R_weak (gle_same (gle_same (gle_same (gle_null (gle_same (gle_same (gle_same (gle_null gle_nil)))))))) (fM_reach_106_ok hk30  H)
def fM_reach_88 (k30 : Int32 → Int32 → gH → Option (Int32 × gH)) (v1 : Int32) (v2 : Int32) (v4 : Int32) (v5 : Int32) (h : gH) : Option (Int32 × gH) :=
  fM_reach_89 k30 v1 v2 v4 v5 (0 : Int32) h
theorem fM_reach_88_ok {d : Nat} {k30 : Int32 → Int32 → gH → Option (Int32 × gH)} {v1 : Int32} {v2 : Int32} {v4 : Int32} {v5 : Int32} (hk30 : ∀ (u3 : Int32) (u4 : Int32) (h : gH) (x : (Int32 × gH)), k30 u3 u4 h = some x → gR RX7 cX7_reach 8 (some .int) (d + 47) 30 [.ref 65, .int v1, .int v2, .int u3, .int u4, .null, .null, .null] [] h (some (.int x.1)) x.2) {h : gH} {x : (Int32 × gH)} (H : fM_reach_88 k30 v1 v2 v4 v5  h = some x) : gR RX7 cX7_reach 8 (some .int) (d + 47) 88 [.ref 65, .int v1, .int v2, .null, .int v4, .int v5, .null, .null] [] h (some (.int x.1)) x.2 := by
  unfold fM_reach_88 at H
  refine R_iconst (v := (0 : Int32)) (gxd kX7_reach 49 rfl) rfl ?_
  exact R_weak (gle_same (gle_same (gle_same (gle_null (gle_same (gle_same (gle_null (gle_null gle_nil)))))))) (fM_reach_89_ok hk30  H)
def fM_reach_56 (k30 : Int32 → Int32 → gH → Option (Int32 × gH)) (v1 : Int32) (v2 : Int32) (v4 : Int32) (s0 : Int32) (h : gH) : Option (Int32 × gH) :=
  (fM_laysAside2 h).bind fun h5 =>
  if (h5 65 2) = (0 : Int32) then
    gg (gin v1 8) <|
    if (((h5 66 v1.toNatClampNeg) >>> (s0 &&& 31)) &&& (1 : Int32)) = (1 : Int32) then
      fM_reach_89 k30 v1 v2 v4 s0 (1 : Int32) h5
    else
      fM_reach_88 k30 v1 v2 v4 s0 h5
  else
    fM_reach_88 k30 v1 v2 v4 s0 h5
theorem fM_reach_56_ok {d : Nat} {k30 : Int32 → Int32 → gH → Option (Int32 × gH)} {v1 : Int32} {v2 : Int32} {v4 : Int32} {s0 : Int32} (hk30 : ∀ (u3 : Int32) (u4 : Int32) (h : gH) (x : (Int32 × gH)), k30 u3 u4 h = some x → gR RX7 cX7_reach 8 (some .int) (d + 47) 30 [.ref 65, .int v1, .int v2, .int u3, .int u4, .null, .null, .null] [] h (some (.int x.1)) x.2) {h : gH} {x : (Int32 × gH)} (H : fM_reach_56 k30 v1 v2 v4 s0 h = some x) : gR RX7 cX7_reach 8 (some .int) (d + 47) 56 [.ref 65, .int v1, .int v2, .null, .int v4, .null, .null, .null] [.int s0] h (some (.int x.1)) x.2 := by
  unfold fM_reach_56 at H
  refine R_istore (gxd kX7_reach 31 rfl) rfl (Nat.le_of_ble_eq_true rfl) rfl ?_
  refine R_aload_n (gxd kX7_reach 32 rfl) rfl rfl ?_
  obtain ⟨h5, e6, H⟩ := gbi H
  refine R_callVv (gxd kX7_reach 33 rfl) gm_M_409 wX7_laysAside2 (by decide) gk_65 rfl rfl (Nat.le_of_ble_eq_true rfl) (by omega) (fM_laysAside2_ok  e6 (d + 46)) ?_
  refine R_aload_n (gxd kX7_reach 34 rfl) rfl rfl ?_
  refine R_geti (gxd kX7_reach 35 rfl) gf_M_229 gk_65 (by decide) rfl ?_
  refine R_if_ne (gxd kX7_reach 36 rfl) (tgt := 88) rfl (fun q => ?_) (fun q => ?_)
  · replace H := giff q H
    exact R_weak (gle_same (gle_same (gle_same (gle_null (gle_same (gle_same (gle_null (gle_null gle_nil)))))))) (fM_reach_88_ok hk30  H)
  · replace H := gift q H
    refine R_aload_n (gxd kX7_reach 37 rfl) rfl rfl ?_
    refine R_getr (gxd kX7_reach 38 rfl) gf_M_13 gk_65 (by decide) rfl ?_
    refine R_iload_n (gxd kX7_reach 39 rfl) rfl rfl ?_
    obtain ⟨b13, H⟩ := ggi H
    have b13 := gin_in b13
    refine R_iald (gxd kX7_reach 40 rfl) gk_66 b13 ?_
    refine R_iload (gxd kX7_reach 41 rfl) rfl ?_
    refine R_ishr (gxd kX7_reach 42 rfl) ?_
    refine R_iconst (v := (1 : Int32)) (gxd kX7_reach 43 rfl) rfl ?_
    refine R_iand (gxd kX7_reach 44 rfl) ?_
    refine R_iconst (v := (1 : Int32)) (gxd kX7_reach 45 rfl) rfl ?_
    refine R_icmp_ne (gxd kX7_reach 46 rfl) (tgt := 88) rfl (fun q => ?_) (fun q => ?_)
    · replace H := giff q H
      exact R_weak (gle_same (gle_same (gle_same (gle_null (gle_same (gle_same (gle_null (gle_null gle_nil)))))))) (fM_reach_88_ok hk30  H)
    · replace H := gift q H
      refine R_iconst (v := (1 : Int32)) (gxd kX7_reach 47 rfl) rfl ?_
      refine R_goto (gxd kX7_reach 48 rfl) (tgt := 89) rfl ?_
      exact R_weak (gle_same (gle_same (gle_same (gle_null (gle_same (gle_same (gle_null (gle_null gle_nil)))))))) (fM_reach_89_ok hk30  H)
def fM_reach_30 (v1 : Int32) (v2 : Int32) : Nat → Int32 → Int32 → gH → Option (Int32 × gH)
  | 0, _, _, _ => none
  | n + 1, v3, v4, h =>
    if v4 < (10 : Int32) then
      if v3 = (-1 : Int32) then
        if v2 = (0 : Int32) then
          fM_reach_56 (fM_reach_30 v1 v2 n) v1 v2 v4 v4 h
        else
          fM_reach_56 (fM_reach_30 v1 v2 n) v1 v2 v4 ((9 : Int32) - v4) h
      else
        some (v3, h)
    else
      some (v3, h)
theorem fM_reach_30_ok {d : Nat} {v1 : Int32} {v2 : Int32}  : ∀ (n : Nat) (v3 : Int32) (v4 : Int32) (h : gH) (x : (Int32 × gH)), fM_reach_30 v1 v2 n v3 v4 h = some x → gR RX7 cX7_reach 8 (some .int) (d + 47) 30 [.ref 65, .int v1, .int v2, .int v3, .int v4, .null, .null, .null] [] h (some (.int x.1)) x.2 := by
  intro n
  induction n with
  | zero => intro v3 v4 h x  H; exact g0 H
  | succ n ih =>
    intro v3 v4 h x  H
    unfold fM_reach_30 at H
    refine R_iload (gxd kX7_reach 18 rfl) rfl ?_
    refine R_bipush (v := (10 : Int32)) (gxd kX7_reach 19 rfl) rfl ?_
    refine R_icmp_ge (gxd kX7_reach 20 rfl) (tgt := 158) rfl (fun q => ?_) (fun q => ?_)
    · replace H := giff q H
      refine R_iload_n (gxd kX7_reach 87 rfl) rfl rfl ?_
      obtain rfl := Option.some.inj H
      exact R_iret (gxd kX7_reach 88 rfl) rfl
    · replace H := gift q H
      refine R_iload_n (gxd kX7_reach 21 rfl) rfl rfl ?_
      refine R_iconst (v := (-1 : Int32)) (gxd kX7_reach 22 rfl) rfl ?_
      refine R_icmp_ne (gxd kX7_reach 23 rfl) (tgt := 158) rfl (fun q => ?_) (fun q => ?_)
      · replace H := giff q H
        refine R_iload_n (gxd kX7_reach 87 rfl) rfl rfl ?_
        obtain rfl := Option.some.inj H
        exact R_iret (gxd kX7_reach 88 rfl) rfl
      · replace H := gift q H
        refine R_iload_n (gxd kX7_reach 24 rfl) rfl rfl ?_
        refine R_if_ne (gxd kX7_reach 25 rfl) (tgt := 51) rfl (fun q => ?_) (fun q => ?_)
        · replace H := giff q H
          refine R_bipush (v := (9 : Int32)) (gxd kX7_reach 28 rfl) rfl ?_
          refine R_iload (gxd kX7_reach 29 rfl) rfl ?_
          refine R_isub (gxd kX7_reach 30 rfl) ?_
          exact R_weak (gle_same (gle_same (gle_same (gle_null (gle_same (gle_null (gle_null (gle_null gle_nil)))))))) (fM_reach_56_ok ih  H)
        · replace H := gift q H
          refine R_iload (gxd kX7_reach 26 rfl) rfl ?_
          refine R_goto (gxd kX7_reach 27 rfl) (tgt := 56) rfl ?_
          exact R_weak (gle_same (gle_same (gle_same (gle_null (gle_same (gle_null (gle_null (gle_null gle_nil)))))))) (fM_reach_56_ok ih  H)
def fM_reach (v1 : Int32) (v2 : Int32) (h : gH) : Option (Int32 × gH) :=
  (fM_in v1.toInt64 (0 : Int64) (7 : Int64) h).bind fun p1 =>
  if p1.1 = (0 : Int32) then
    some ((-2 : Int32), p1.2)
  else
    (fM_in v2.toInt64 (0 : Int64) (1 : Int64) p1.2).bind fun p3 =>
    if p3.1 = (0 : Int32) then
      some ((-2 : Int32), p3.2)
    else
      fM_reach_30 v1 v2 gfu (-1 : Int32) (0 : Int32) p3.2
theorem fM_reach_ok {v1 : Int32} {v2 : Int32} {h : gH} {x : (Int32 × gH)} (H : fM_reach v1 v2 h = some x) (d : Nat) : gC yX7_reach cX7_reach 8 (some .int) (d + 47) [.ref 65, .int v1, .int v2] h (some (.int x.1)) x.2 := by
  refine gC_of (by decide +kernel) (Nat.le_of_ble_eq_true rfl) rfl ?_
  unfold fM_reach at H
  refine R_iload_n (gxd kX7_reach 0 rfl) rfl rfl ?_
  refine R_i2l (gxd kX7_reach 1 rfl) ?_
  refine R_lconst (v := (0 : Int64)) (gxd kX7_reach 2 rfl) rfl ?_
  refine R_ldc2 (v := (7 : Int64)) (gxd kX7_reach 3 rfl) gc_M_308 ?_
  obtain ⟨p1, e2, H⟩ := gbi H
  refine R_callSi (gxd kX7_reach 4 rfl) gm_M_140 wX7_in (by decide) rfl (Nat.le_of_ble_eq_true rfl) (by omega) (fM_in_ok  e2 (d + 46)) ?_
  refine R_if_eq (gxd kX7_reach 5 rfl) (tgt := 22) rfl (fun q => ?_) (fun q => ?_)
  · replace H := gift q H
    refine R_bipush (v := (-2 : Int32)) (gxd kX7_reach 12 rfl) rfl ?_
    obtain rfl := Option.some.inj H
    exact R_iret (gxd kX7_reach 13 rfl) rfl
  · replace H := giff q H
    refine R_iload_n (gxd kX7_reach 6 rfl) rfl rfl ?_
    refine R_i2l (gxd kX7_reach 7 rfl) ?_
    refine R_lconst (v := (0 : Int64)) (gxd kX7_reach 8 rfl) rfl ?_
    refine R_lconst (v := (1 : Int64)) (gxd kX7_reach 9 rfl) rfl ?_
    obtain ⟨p3, e4, H⟩ := gbi H
    refine R_callSi (gxd kX7_reach 10 rfl) gm_M_140 wX7_in (by decide) rfl (Nat.le_of_ble_eq_true rfl) (by omega) (fM_in_ok  e4 (d + 46)) ?_
    refine R_if_ne (gxd kX7_reach 11 rfl) (tgt := 25) rfl (fun q => ?_) (fun q => ?_)
    · replace H := giff q H
      refine R_iconst (v := (-1 : Int32)) (gxd kX7_reach 14 rfl) rfl ?_
      refine R_istore_n (gxd kX7_reach 15 rfl) rfl rfl (Nat.le_of_ble_eq_true rfl) rfl ?_
      refine R_iconst (v := (0 : Int32)) (gxd kX7_reach 16 rfl) rfl ?_
      refine R_istore (gxd kX7_reach 17 rfl) rfl (Nat.le_of_ble_eq_true rfl) rfl ?_
      exact R_weak (gle_same (gle_same (gle_same (gle_same (gle_same (gle_null (gle_null (gle_null gle_nil)))))))) (fM_reach_30_ok  gfu _ _ _ _  H)
    · replace H := gift q H
      refine R_bipush (v := (-2 : Int32)) (gxd kX7_reach 12 rfl) rfl ?_
      obtain rfl := Option.some.inj H
      exact R_iret (gxd kX7_reach 13 rfl) rfl
def fM_isFound_71 (k32 : Int32 → Int32 → gH → Option (Int32 × gH)) (v1 : Int32) (v5 : Int32) (s0 : Int32) (h : gH) : Option (Int32 × gH) :=
  k32 s0 (v5 + (1 : Int32)) h
theorem fM_isFound_71_ok {d : Nat} {k32 : Int32 → Int32 → gH → Option (Int32 × gH)} {v1 : Int32} {v5 : Int32} {s0 : Int32} (hk32 : ∀ (u4 : Int32) (u5 : Int32) (h : gH) (x : (Int32 × gH)), k32 u4 u5 h = some x → gR RX7 cX7_isFound 6 (some .boolean) (d + 47) 32 [.ref 65, .int v1, .null, .null, .int u4, .int u5] [] h (some (.int x.1)) x.2) {h : gH} {x : (Int32 × gH)} (H : fM_isFound_71 k32 v1 v5 s0 h = some x) : gR RX7 cX7_isFound 6 (some .boolean) (d + 47) 71 [.ref 65, .int v1, .null, .null, .null, .int v5] [.int s0] h (some (.int x.1)) x.2 := by
  unfold fM_isFound_71 at H
  refine R_istore (gxd kX7_isFound 40 rfl) rfl (Nat.le_of_ble_eq_true rfl) rfl ?_
  refine R_iinc (v := (v5 + (1 : Int32))) (gxd kX7_isFound 41 rfl) rfl rfl rfl (Nat.le_of_ble_eq_true rfl) rfl ?_
  refine R_goto (gxd kX7_isFound 42 rfl) (tgt := 32) rfl ?_
  exact R_weak (gle_same (gle_same (gle_null (gle_null (gle_same (gle_same gle_nil)))))) (hk32 _ _ _ _  H)
def fM_isFound_70 (k32 : Int32 → Int32 → gH → Option (Int32 × gH)) (v1 : Int32) (v5 : Int32) (h : gH) : Option (Int32 × gH) :=
  fM_isFound_71 k32 v1 v5 (0 : Int32) h
theorem fM_isFound_70_ok {d : Nat} {k32 : Int32 → Int32 → gH → Option (Int32 × gH)} {v1 : Int32} {v5 : Int32} (hk32 : ∀ (u4 : Int32) (u5 : Int32) (h : gH) (x : (Int32 × gH)), k32 u4 u5 h = some x → gR RX7 cX7_isFound 6 (some .boolean) (d + 47) 32 [.ref 65, .int v1, .null, .null, .int u4, .int u5] [] h (some (.int x.1)) x.2) {h : gH} {x : (Int32 × gH)} (H : fM_isFound_70 k32 v1 v5  h = some x) : gR RX7 cX7_isFound 6 (some .boolean) (d + 47) 70 [.ref 65, .int v1, .null, .null, .null, .int v5] [] h (some (.int x.1)) x.2 := by
  unfold fM_isFound_70 at H
  refine R_iconst (v := (0 : Int32)) (gxd kX7_isFound 39 rfl) rfl ?_
  exact R_weak (gle_same (gle_same (gle_null (gle_null (gle_null (gle_same gle_nil)))))) (fM_isFound_71_ok hk32  H)
def fM_isFound_32 (v1 : Int32) : Nat → Int32 → Int32 → gH → Option (Int32 × gH)
  | 0, _, _, _ => none
  | n + 1, v4, v5, h =>
    if v5 < (8 : Int32) then
      if v4 = (0 : Int32) then
        fM_isFound_70 (fM_isFound_32 v1 n) v1 v5 h
      else
        gg (gin v5 8) <|
        gg (gin (((40 : Int32) * v1) + v5) 160) <|
        if (h 87 v5.toNatClampNeg) = (h 106 (((40 : Int32) * v1) + v5).toNatClampNeg) then
          fM_isFound_71 (fM_isFound_32 v1 n) v1 v5 (1 : Int32) h
        else
          fM_isFound_70 (fM_isFound_32 v1 n) v1 v5 h
    else
      gg (gbo v4) <|
      some (v4, h)
theorem fM_isFound_32_ok {d : Nat} {v1 : Int32}  : ∀ (n : Nat) (v4 : Int32) (v5 : Int32) (h : gH) (x : (Int32 × gH)), fM_isFound_32 v1 n v4 v5 h = some x → gR RX7 cX7_isFound 6 (some .boolean) (d + 47) 32 [.ref 65, .int v1, .null, .null, .int v4, .int v5] [] h (some (.int x.1)) x.2 := by
  intro n
  induction n with
  | zero => intro v4 v5 h x  H; exact g0 H
  | succ n ih =>
    intro v4 v5 h x  H
    unfold fM_isFound_32 at H
    refine R_iload (gxd kX7_isFound 19 rfl) rfl ?_
    refine R_bipush (v := (8 : Int32)) (gxd kX7_isFound 20 rfl) rfl ?_
    refine R_icmp_ge (gxd kX7_isFound 21 rfl) (tgt := 79) rfl (fun q => ?_) (fun q => ?_)
    · replace H := giff q H
      refine R_iload (gxd kX7_isFound 43 rfl) rfl ?_
      obtain ⟨b7, H⟩ := ggi H
      have b7 := gbo_or b7
      obtain rfl := Option.some.inj H
      exact R_zret (gxd kX7_isFound 44 rfl) rfl b7
    · replace H := gift q H
      refine R_iload (gxd kX7_isFound 22 rfl) rfl ?_
      refine R_if_eq (gxd kX7_isFound 23 rfl) (tgt := 70) rfl (fun q => ?_) (fun q => ?_)
      · replace H := gift q H
        exact R_weak (gle_same (gle_same (gle_null (gle_null (gle_null (gle_same gle_nil)))))) (fM_isFound_70_ok ih  H)
      · replace H := giff q H
        refine R_aload_n (gxd kX7_isFound 24 rfl) rfl rfl ?_
        refine R_getr (gxd kX7_isFound 25 rfl) gf_M_78 gk_65 (by decide) rfl ?_
        refine R_iload (gxd kX7_isFound 26 rfl) rfl ?_
        obtain ⟨b8, H⟩ := ggi H
        have b8 := gin_in b8
        refine R_iald (gxd kX7_isFound 27 rfl) gk_87 b8 ?_
        refine R_aload_n (gxd kX7_isFound 28 rfl) rfl rfl ?_
        refine R_getr (gxd kX7_isFound 29 rfl) gf_M_135 gk_65 (by decide) rfl ?_
        refine R_bipush (v := (40 : Int32)) (gxd kX7_isFound 30 rfl) rfl ?_
        refine R_iload_n (gxd kX7_isFound 31 rfl) rfl rfl ?_
        refine R_imul (gxd kX7_isFound 32 rfl) ?_
        refine R_iload (gxd kX7_isFound 33 rfl) rfl ?_
        refine R_iadd (gxd kX7_isFound 34 rfl) ?_
        obtain ⟨b9, H⟩ := ggi H
        have b9 := gin_in b9
        refine R_iald (gxd kX7_isFound 35 rfl) gk_106 b9 ?_
        refine R_icmp_ne (gxd kX7_isFound 36 rfl) (tgt := 70) rfl (fun q => ?_) (fun q => ?_)
        · replace H := giff q H
          exact R_weak (gle_same (gle_same (gle_null (gle_null (gle_null (gle_same gle_nil)))))) (fM_isFound_70_ok ih  H)
        · replace H := gift q H
          refine R_iconst (v := (1 : Int32)) (gxd kX7_isFound 37 rfl) rfl ?_
          refine R_goto (gxd kX7_isFound 38 rfl) (tgt := 71) rfl ?_
          exact R_weak (gle_same (gle_same (gle_null (gle_null (gle_null (gle_same gle_nil)))))) (fM_isFound_71_ok ih  H)
def fM_isFound_23 (v1 : Int32) (s0 : Int32) (h : gH) : Option (Int32 × gH) :=
  (fM_laysBack2 h).bind fun h5 =>
  fM_isFound_32 v1 gfu s0 (0 : Int32) h5
theorem fM_isFound_23_ok {d : Nat} {v1 : Int32} {s0 : Int32}  {h : gH} {x : (Int32 × gH)} (H : fM_isFound_23 v1 s0 h = some x) : gR RX7 cX7_isFound 6 (some .boolean) (d + 47) 23 [.ref 65, .int v1, .null, .null, .null, .null] [.int s0] h (some (.int x.1)) x.2 := by
  unfold fM_isFound_23 at H
  refine R_istore (gxd kX7_isFound 14 rfl) rfl (Nat.le_of_ble_eq_true rfl) rfl ?_
  refine R_aload_n (gxd kX7_isFound 15 rfl) rfl rfl ?_
  obtain ⟨h5, e6, H⟩ := gbi H
  refine R_callVv (gxd kX7_isFound 16 rfl) gm_M_416 wX7_laysBack2 (by decide) gk_65 rfl rfl (Nat.le_of_ble_eq_true rfl) (by omega) (fM_laysBack2_ok  e6 (d + 46)) ?_
  refine R_iconst (v := (0 : Int32)) (gxd kX7_isFound 17 rfl) rfl ?_
  refine R_istore (gxd kX7_isFound 18 rfl) rfl (Nat.le_of_ble_eq_true rfl) rfl ?_
  exact R_weak (gle_same (gle_same (gle_null (gle_null (gle_same (gle_same gle_nil)))))) (fM_isFound_32_ok  gfu _ _ _ _  H)
def fM_isFound (v1 : Int32) (v2 : Int32) (v3 : Int32) (h : gH) : Option (Int32 × gH) :=
  (fM_laysAside2 h).bind fun h1 =>
  (fM_searched v2 v3 (0 : Int32) (0 : Int32) (100 : Int32) h1).bind fun p3 =>
  if p3.1 = (1 : Int32) then
    fM_isFound_23 v1 (1 : Int32) p3.2
  else
    fM_isFound_23 v1 (0 : Int32) p3.2
theorem fM_isFound_ok {v1 : Int32} {v2 : Int32} {v3 : Int32} {h : gH} {x : (Int32 × gH)} (H : fM_isFound v1 v2 v3 h = some x) (d : Nat) : gC yX7_isFound cX7_isFound 6 (some .boolean) (d + 47) [.ref 65, .int v1, .int v2, .int v3] h (some (.int x.1)) x.2 := by
  refine gC_of (by decide +kernel) (Nat.le_of_ble_eq_true rfl) rfl ?_
  unfold fM_isFound at H
  refine R_aload_n (gxd kX7_isFound 0 rfl) rfl rfl ?_
  obtain ⟨h1, e2, H⟩ := gbi H
  refine R_callVv (gxd kX7_isFound 1 rfl) gm_M_409 wX7_laysAside2 (by decide) gk_65 rfl rfl (Nat.le_of_ble_eq_true rfl) (by omega) (fM_laysAside2_ok  e2 (d + 46)) ?_
  refine R_aload_n (gxd kX7_isFound 2 rfl) rfl rfl ?_
  refine R_iload_n (gxd kX7_isFound 3 rfl) rfl rfl ?_
  refine R_iload_n (gxd kX7_isFound 4 rfl) rfl rfl ?_
  refine R_iconst (v := (0 : Int32)) (gxd kX7_isFound 5 rfl) rfl ?_
  refine R_iconst (v := (0 : Int32)) (gxd kX7_isFound 6 rfl) rfl ?_
  refine R_bipush (v := (100 : Int32)) (gxd kX7_isFound 7 rfl) rfl ?_
  obtain ⟨p3, e4, H⟩ := gbi H
  refine R_callVi (gxd kX7_isFound 8 rfl) gm_M_412 wX7_searched (by decide) gk_65 rfl rfl (Nat.le_of_ble_eq_true rfl) (by omega) (fM_searched_ok  e4 (d + 0)) ?_
  refine R_iconst (v := (1 : Int32)) (gxd kX7_isFound 9 rfl) rfl ?_
  refine R_icmp_ne (gxd kX7_isFound 10 rfl) (tgt := 22) rfl (fun q => ?_) (fun q => ?_)
  · replace H := giff q H
    refine R_iconst (v := (0 : Int32)) (gxd kX7_isFound 13 rfl) rfl ?_
    exact R_weak (gle_same (gle_same (gle_null (gle_null (gle_null (gle_null gle_nil)))))) (fM_isFound_23_ok  H)
  · replace H := gift q H
    refine R_iconst (v := (1 : Int32)) (gxd kX7_isFound 11 rfl) rfl ?_
    refine R_goto (gxd kX7_isFound 12 rfl) (tgt := 23) rfl ?_
    exact R_weak (gle_same (gle_same (gle_null (gle_null (gle_null (gle_null gle_nil)))))) (fM_isFound_23_ok  H)
def fM_isSo_100 (v2 : Int32) (v4 : Int32) (v5 : Int32) (s0 : Int32) (h : gH) : Option (Int32 × gH) :=
  (fM_isHolding v2 v4 v5 s0 h).bind fun p4 =>
  gg (gbo p4.1) <|
  some (p4.1, p4.2)
theorem fM_isSo_100_ok {d : Nat} {v2 : Int32} {v4 : Int32} {v5 : Int32} {s0 : Int32}  {h : gH} {x : (Int32 × gH)} (H : fM_isSo_100 v2 v4 v5 s0 h = some x) : gR RX7 cX7_isSo 7 (some .boolean) (d + 2) 100 [.ref 65, .null, .int v2, .null, .int v4, .int v5, .null] [.int s0] h (some (.int x.1)) x.2 := by
  unfold fM_isSo_100 at H
  refine R_istore (gxd kX7_isSo 61 rfl) rfl (Nat.le_of_ble_eq_true rfl) rfl ?_
  refine R_aload_n (gxd kX7_isSo 62 rfl) rfl rfl ?_
  refine R_iload_n (gxd kX7_isSo 63 rfl) rfl rfl ?_
  refine R_iload (gxd kX7_isSo 64 rfl) rfl ?_
  refine R_iload (gxd kX7_isSo 65 rfl) rfl ?_
  refine R_iload (gxd kX7_isSo 66 rfl) rfl ?_
  obtain ⟨p4, e5, H⟩ := gbi H
  refine R_callVi (gxd kX7_isSo 67 rfl) gm_M_244 wX7_isHolding (by decide) gk_65 rfl rfl (Nat.le_of_ble_eq_true rfl) (by omega) (fM_isHolding_ok  e5 (d + 0)) ?_
  obtain ⟨b6, H⟩ := ggi H
  have b6 := gbo_or b6
  obtain rfl := Option.some.inj H
  exact R_zret (gxd kX7_isSo 68 rfl) rfl b6
def fM_isSo_69 (v1 : Int32) (v2 : Int32) (v3 : Int32) (v4 : Int32) (s0 : Int32) (h : gH) : Option (Int32 × gH) :=
  if (2 : Int32) < v3 then
    gg (gin v2 24) <|
    (fM_variable (h 68 v2.toNatClampNeg) (2 : Int32) h).bind fun p8 =>
    gg (gin (((40 : Int32) * v1) + p8.1) 160) <|
    fM_isSo_100 v2 v4 s0 (p8.2 106 (((40 : Int32) * v1) + p8.1).toNatClampNeg) p8.2
  else
    fM_isSo_100 v2 v4 s0 (0 : Int32) h
theorem fM_isSo_69_ok {d : Nat} {v1 : Int32} {v2 : Int32} {v3 : Int32} {v4 : Int32} {s0 : Int32}  {h : gH} {x : (Int32 × gH)} (H : fM_isSo_69 v1 v2 v3 v4 s0 h = some x) : gR RX7 cX7_isSo 7 (some .boolean) (d + 2) 69 [.ref 65, .int v1, .int v2, .int v3, .int v4, .null, .null] [.int s0] h (some (.int x.1)) x.2 := by
  unfold fM_isSo_69 at H
  refine R_istore (gxd kX7_isSo 42 rfl) rfl (Nat.le_of_ble_eq_true rfl) rfl ?_
  refine R_iload_n (gxd kX7_isSo 43 rfl) rfl rfl ?_
  refine R_iconst (v := (2 : Int32)) (gxd kX7_isSo 44 rfl) rfl ?_
  refine R_icmp_le (gxd kX7_isSo 45 rfl) (tgt := 99) rfl (fun q => ?_) (fun q => ?_)
  · replace H := giff q H
    refine R_iconst (v := (0 : Int32)) (gxd kX7_isSo 60 rfl) rfl ?_
    exact R_weak (gle_same (gle_null (gle_same (gle_null (gle_same (gle_same (gle_null gle_nil))))))) (fM_isSo_100_ok  H)
  · replace H := gift q H
    refine R_aload_n (gxd kX7_isSo 46 rfl) rfl rfl ?_
    refine R_getr (gxd kX7_isSo 47 rfl) gf_M_135 gk_65 (by decide) rfl ?_
    refine R_bipush (v := (40 : Int32)) (gxd kX7_isSo 48 rfl) rfl ?_
    refine R_iload_n (gxd kX7_isSo 49 rfl) rfl rfl ?_
    refine R_imul (gxd kX7_isSo 50 rfl) ?_
    refine R_aload_n (gxd kX7_isSo 51 rfl) rfl rfl ?_
    refine R_getr (gxd kX7_isSo 52 rfl) gf_M_20 gk_65 (by decide) rfl ?_
    refine R_iload_n (gxd kX7_isSo 53 rfl) rfl rfl ?_
    obtain ⟨b7, H⟩ := ggi H
    have b7 := gin_in b7
    refine R_iald (gxd kX7_isSo 54 rfl) gk_68 b7 ?_
    refine R_iconst (v := (2 : Int32)) (gxd kX7_isSo 55 rfl) rfl ?_
    obtain ⟨p8, e9, H⟩ := gbi H
    refine R_callSi (gxd kX7_isSo 56 rfl) gm_M_235 wX7_variable (by decide) rfl (Nat.le_of_ble_eq_true rfl) (by omega) (fM_variable_ok  e9 (d + 1)) ?_
    refine R_iadd (gxd kX7_isSo 57 rfl) ?_
    obtain ⟨b10, H⟩ := ggi H
    have b10 := gin_in b10
    refine R_iald (gxd kX7_isSo 58 rfl) gk_106 b10 ?_
    refine R_goto (gxd kX7_isSo 59 rfl) (tgt := 100) rfl ?_
    exact R_weak (gle_same (gle_null (gle_same (gle_null (gle_same (gle_same (gle_null gle_nil))))))) (fM_isSo_100_ok  H)
def fM_isSo_38 (v1 : Int32) (v2 : Int32) (v3 : Int32) (s0 : Int32) (h : gH) : Option (Int32 × gH) :=
  if (1 : Int32) < v3 then
    gg (gin v2 24) <|
    (fM_variable (h 68 v2.toNatClampNeg) (1 : Int32) h).bind fun p12 =>
    gg (gin (((40 : Int32) * v1) + p12.1) 160) <|
    fM_isSo_69 v1 v2 v3 s0 (p12.2 106 (((40 : Int32) * v1) + p12.1).toNatClampNeg) p12.2
  else
    fM_isSo_69 v1 v2 v3 s0 (0 : Int32) h
theorem fM_isSo_38_ok {d : Nat} {v1 : Int32} {v2 : Int32} {v3 : Int32} {s0 : Int32}  {h : gH} {x : (Int32 × gH)} (H : fM_isSo_38 v1 v2 v3 s0 h = some x) : gR RX7 cX7_isSo 7 (some .boolean) (d + 2) 38 [.ref 65, .int v1, .int v2, .int v3, .null, .null, .null] [.int s0] h (some (.int x.1)) x.2 := by
  unfold fM_isSo_38 at H
  refine R_istore (gxd kX7_isSo 23 rfl) rfl (Nat.le_of_ble_eq_true rfl) rfl ?_
  refine R_iload_n (gxd kX7_isSo 24 rfl) rfl rfl ?_
  refine R_iconst (v := (1 : Int32)) (gxd kX7_isSo 25 rfl) rfl ?_
  refine R_icmp_le (gxd kX7_isSo 26 rfl) (tgt := 68) rfl (fun q => ?_) (fun q => ?_)
  · replace H := giff q H
    refine R_iconst (v := (0 : Int32)) (gxd kX7_isSo 41 rfl) rfl ?_
    exact R_weak (gle_same (gle_same (gle_same (gle_same (gle_same (gle_null (gle_null gle_nil))))))) (fM_isSo_69_ok  H)
  · replace H := gift q H
    refine R_aload_n (gxd kX7_isSo 27 rfl) rfl rfl ?_
    refine R_getr (gxd kX7_isSo 28 rfl) gf_M_135 gk_65 (by decide) rfl ?_
    refine R_bipush (v := (40 : Int32)) (gxd kX7_isSo 29 rfl) rfl ?_
    refine R_iload_n (gxd kX7_isSo 30 rfl) rfl rfl ?_
    refine R_imul (gxd kX7_isSo 31 rfl) ?_
    refine R_aload_n (gxd kX7_isSo 32 rfl) rfl rfl ?_
    refine R_getr (gxd kX7_isSo 33 rfl) gf_M_20 gk_65 (by decide) rfl ?_
    refine R_iload_n (gxd kX7_isSo 34 rfl) rfl rfl ?_
    obtain ⟨b11, H⟩ := ggi H
    have b11 := gin_in b11
    refine R_iald (gxd kX7_isSo 35 rfl) gk_68 b11 ?_
    refine R_iconst (v := (1 : Int32)) (gxd kX7_isSo 36 rfl) rfl ?_
    obtain ⟨p12, e13, H⟩ := gbi H
    refine R_callSi (gxd kX7_isSo 37 rfl) gm_M_235 wX7_variable (by decide) rfl (Nat.le_of_ble_eq_true rfl) (by omega) (fM_variable_ok  e13 (d + 1)) ?_
    refine R_iadd (gxd kX7_isSo 38 rfl) ?_
    obtain ⟨b14, H⟩ := ggi H
    have b14 := gin_in b14
    refine R_iald (gxd kX7_isSo 39 rfl) gk_106 b14 ?_
    refine R_goto (gxd kX7_isSo 40 rfl) (tgt := 69) rfl ?_
    exact R_weak (gle_same (gle_same (gle_same (gle_same (gle_same (gle_null (gle_null gle_nil))))))) (fM_isSo_69_ok  H)
def fM_isSo (v1 : Int32) (v2 : Int32) (h : gH) : Option (Int32 × gH) :=
  gg (gin v2 24) <|
  (fM_bitsOf (h 68 v2.toNatClampNeg) h).bind fun p2 =>
  if (0 : Int32) < p2.1 then
    gg (gin v2 24) <|
    (fM_variable (p2.2 68 v2.toNatClampNeg) (0 : Int32) p2.2).bind fun p16 =>
    gg (gin (((40 : Int32) * v1) + p16.1) 160) <|
    fM_isSo_38 v1 v2 p2.1 (p16.2 106 (((40 : Int32) * v1) + p16.1).toNatClampNeg) p16.2
  else
    fM_isSo_38 v1 v2 p2.1 (0 : Int32) p2.2
theorem fM_isSo_ok {v1 : Int32} {v2 : Int32} {h : gH} {x : (Int32 × gH)} (H : fM_isSo v1 v2 h = some x) (d : Nat) : gC yX7_isSo cX7_isSo 7 (some .boolean) (d + 2) [.ref 65, .int v1, .int v2] h (some (.int x.1)) x.2 := by
  refine gC_of (by decide +kernel) (Nat.le_of_ble_eq_true rfl) rfl ?_
  unfold fM_isSo at H
  refine R_aload_n (gxd kX7_isSo 0 rfl) rfl rfl ?_
  refine R_getr (gxd kX7_isSo 1 rfl) gf_M_20 gk_65 (by decide) rfl ?_
  refine R_iload_n (gxd kX7_isSo 2 rfl) rfl rfl ?_
  obtain ⟨b1, H⟩ := ggi H
  have b1 := gin_in b1
  refine R_iald (gxd kX7_isSo 3 rfl) gk_68 b1 ?_
  obtain ⟨p2, e3, H⟩ := gbi H
  refine R_callSi (gxd kX7_isSo 4 rfl) gm_M_189 wX7_bitsOf (by decide) rfl (Nat.le_of_ble_eq_true rfl) (by omega) (fM_bitsOf_ok  e3 (d + 1)) ?_
  refine R_istore_n (gxd kX7_isSo 5 rfl) rfl rfl (Nat.le_of_ble_eq_true rfl) rfl ?_
  refine R_iload_n (gxd kX7_isSo 6 rfl) rfl rfl ?_
  refine R_if_le (gxd kX7_isSo 7 rfl) (tgt := 37) rfl (fun q => ?_) (fun q => ?_)
  · replace H := giff q H
    refine R_iconst (v := (0 : Int32)) (gxd kX7_isSo 22 rfl) rfl ?_
    exact R_weak (gle_same (gle_same (gle_same (gle_same (gle_null (gle_null (gle_null gle_nil))))))) (fM_isSo_38_ok  H)
  · replace H := gift q H
    refine R_aload_n (gxd kX7_isSo 8 rfl) rfl rfl ?_
    refine R_getr (gxd kX7_isSo 9 rfl) gf_M_135 gk_65 (by decide) rfl ?_
    refine R_bipush (v := (40 : Int32)) (gxd kX7_isSo 10 rfl) rfl ?_
    refine R_iload_n (gxd kX7_isSo 11 rfl) rfl rfl ?_
    refine R_imul (gxd kX7_isSo 12 rfl) ?_
    refine R_aload_n (gxd kX7_isSo 13 rfl) rfl rfl ?_
    refine R_getr (gxd kX7_isSo 14 rfl) gf_M_20 gk_65 (by decide) rfl ?_
    refine R_iload_n (gxd kX7_isSo 15 rfl) rfl rfl ?_
    obtain ⟨b15, H⟩ := ggi H
    have b15 := gin_in b15
    refine R_iald (gxd kX7_isSo 16 rfl) gk_68 b15 ?_
    refine R_iconst (v := (0 : Int32)) (gxd kX7_isSo 17 rfl) rfl ?_
    obtain ⟨p16, e17, H⟩ := gbi H
    refine R_callSi (gxd kX7_isSo 18 rfl) gm_M_235 wX7_variable (by decide) rfl (Nat.le_of_ble_eq_true rfl) (by omega) (fM_variable_ok  e17 (d + 1)) ?_
    refine R_iadd (gxd kX7_isSo 19 rfl) ?_
    obtain ⟨b18, H⟩ := ggi H
    have b18 := gin_in b18
    refine R_iald (gxd kX7_isSo 20 rfl) gk_106 b18 ?_
    refine R_goto (gxd kX7_isSo 21 rfl) (tgt := 38) rfl ?_
    exact R_weak (gle_same (gle_same (gle_same (gle_same (gle_null (gle_null (gle_null gle_nil))))))) (fM_isSo_38_ok  H)
def fM_isSheet (v0 : Int32) (h : gH) : Option (Int32 × gH) :=
  (fM_in v0.toInt64 (0 : Int64) (3 : Int64) h).bind fun p1 =>
  gg (gbo p1.1) <|
  some (p1.1, p1.2)
theorem fM_isSheet_ok {v0 : Int32} {h : gH} {x : (Int32 × gH)} (H : fM_isSheet v0 h = some x) (d : Nat) : gC yX7_isSheet cX7_isSheet 1 (some .boolean) (d + 1) [.int v0] h (some (.int x.1)) x.2 := by
  refine gC_of (by decide +kernel) (Nat.le_of_ble_eq_true rfl) rfl ?_
  unfold fM_isSheet at H
  refine R_iload_n (gxd kX7_isSheet 0 rfl) rfl rfl ?_
  refine R_i2l (gxd kX7_isSheet 1 rfl) ?_
  refine R_lconst (v := (0 : Int64)) (gxd kX7_isSheet 2 rfl) rfl ?_
  refine R_ldc2 (v := (3 : Int64)) (gxd kX7_isSheet 3 rfl) gc_M_407 ?_
  obtain ⟨p1, e2, H⟩ := gbi H
  refine R_callSi (gxd kX7_isSheet 4 rfl) gm_M_140 wX7_in (by decide) rfl (Nat.le_of_ble_eq_true rfl) (by omega) (fM_in_ok  e2 (d + 0)) ?_
  obtain ⟨b3, H⟩ := ggi H
  have b3 := gbo_or b3
  obtain rfl := Option.some.inj H
  exact R_zret (gxd kX7_isSheet 5 rfl) rfl b3
def fM_tells_183 (v1 : Int32) (v2 : Int32) : Nat → Int32 → Int32 → gH → Option (Int32 × gH)
  | 0, _, _, _ => none
  | n + 1, v3, v4, h =>
    if v4 < (8 : Int32) then
      if v2 = (2 : Int32) then
        gg (gin v4 8) <|
        gg (gin (((40 : Int32) * v1) + v4) 160) <|
        fM_tells_183 v1 v2 n (v3 + (((h 66 v4.toNatClampNeg) >>> ((h 106 (((40 : Int32) * v1) + v4).toNatClampNeg) &&& 31)) &&& (1 : Int32))) (v4 + (1 : Int32)) h
      else
        some (v3, h)
    else
      some (v3, h)
theorem fM_tells_183_ok {d : Nat} {v1 : Int32} {v2 : Int32}  : ∀ (n : Nat) (v3 : Int32) (v4 : Int32) (h : gH) (x : (Int32 × gH)), fM_tells_183 v1 v2 n v3 v4 h = some x → gR RX7 cX7_tells 5 (some .int) (d + 48) 183 [.ref 65, .int v1, .int v2, .int v3, .int v4] [] h (some (.int x.1)) x.2 := by
  intro n
  induction n with
  | zero => intro v3 v4 h x  H; exact g0 H
  | succ n ih =>
    intro v3 v4 h x  H
    unfold fM_tells_183 at H
    refine R_iload (gxd kX7_tells 103 rfl) rfl ?_
    refine R_bipush (v := (8 : Int32)) (gxd kX7_tells 104 rfl) rfl ?_
    refine R_icmp_ge (gxd kX7_tells 105 rfl) (tgt := 226) rfl (fun q => ?_) (fun q => ?_)
    · replace H := giff q H
      refine R_iload_n (gxd kX7_tells 129 rfl) rfl rfl ?_
      obtain rfl := Option.some.inj H
      exact R_iret (gxd kX7_tells 130 rfl) rfl
    · replace H := gift q H
      refine R_iload_n (gxd kX7_tells 106 rfl) rfl rfl ?_
      refine R_iconst (v := (2 : Int32)) (gxd kX7_tells 107 rfl) rfl ?_
      refine R_icmp_ne (gxd kX7_tells 108 rfl) (tgt := 226) rfl (fun q => ?_) (fun q => ?_)
      · replace H := giff q H
        refine R_iload_n (gxd kX7_tells 129 rfl) rfl rfl ?_
        obtain rfl := Option.some.inj H
        exact R_iret (gxd kX7_tells 130 rfl) rfl
      · replace H := gift q H
        refine R_iload_n (gxd kX7_tells 109 rfl) rfl rfl ?_
        refine R_aload_n (gxd kX7_tells 110 rfl) rfl rfl ?_
        refine R_getr (gxd kX7_tells 111 rfl) gf_M_13 gk_65 (by decide) rfl ?_
        refine R_iload (gxd kX7_tells 112 rfl) rfl ?_
        obtain ⟨b7, H⟩ := ggi H
        have b7 := gin_in b7
        refine R_iald (gxd kX7_tells 113 rfl) gk_66 b7 ?_
        refine R_aload_n (gxd kX7_tells 114 rfl) rfl rfl ?_
        refine R_getr (gxd kX7_tells 115 rfl) gf_M_135 gk_65 (by decide) rfl ?_
        refine R_bipush (v := (40 : Int32)) (gxd kX7_tells 116 rfl) rfl ?_
        refine R_iload_n (gxd kX7_tells 117 rfl) rfl rfl ?_
        refine R_imul (gxd kX7_tells 118 rfl) ?_
        refine R_iload (gxd kX7_tells 119 rfl) rfl ?_
        refine R_iadd (gxd kX7_tells 120 rfl) ?_
        obtain ⟨b8, H⟩ := ggi H
        have b8 := gin_in b8
        refine R_iald (gxd kX7_tells 121 rfl) gk_106 b8 ?_
        refine R_ishr (gxd kX7_tells 122 rfl) ?_
        refine R_iconst (v := (1 : Int32)) (gxd kX7_tells 123 rfl) rfl ?_
        refine R_iand (gxd kX7_tells 124 rfl) ?_
        refine R_iadd (gxd kX7_tells 125 rfl) ?_
        refine R_istore_n (gxd kX7_tells 126 rfl) rfl rfl (Nat.le_of_ble_eq_true rfl) rfl ?_
        refine R_iinc (v := (v4 + (1 : Int32))) (gxd kX7_tells 127 rfl) rfl rfl rfl (Nat.le_of_ble_eq_true rfl) rfl ?_
        refine R_goto (gxd kX7_tells 128 rfl) (tgt := 183) rfl ?_
        exact R_weak (gle_same (gle_same (gle_same (gle_same (gle_same gle_nil))))) (ih _ _ _ _  H)
def fM_tells_180 (v1 : Int32) (v2 : Int32) (v3 : Int32) (h : gH) : Option (Int32 × gH) :=
  fM_tells_183 v1 v2 gfu v3 (0 : Int32) h
theorem fM_tells_180_ok {d : Nat} {v1 : Int32} {v2 : Int32} {v3 : Int32}  {h : gH} {x : (Int32 × gH)} (H : fM_tells_180 v1 v2 v3  h = some x) : gR RX7 cX7_tells 5 (some .int) (d + 48) 180 [.ref 65, .int v1, .int v2, .int v3, .null] [] h (some (.int x.1)) x.2 := by
  unfold fM_tells_180 at H
  refine R_iconst (v := (0 : Int32)) (gxd kX7_tells 101 rfl) rfl ?_
  refine R_istore (gxd kX7_tells 102 rfl) rfl (Nat.le_of_ble_eq_true rfl) rfl ?_
  exact R_weak (gle_same (gle_same (gle_same (gle_same (gle_same gle_nil))))) (fM_tells_183_ok  gfu _ _ _ _  H)
def fM_tells_169 (k139 : Int32 → Int32 → gH → Option (Int32 × gH)) (v1 : Int32) (v2 : Int32) (v4 : Int32) (s0 : Int32) (s1 : Int32) (h : gH) : Option (Int32 × gH) :=
  k139 (s0 ||| (s1 <<< (v4 &&& 31))) (v4 + (1 : Int32)) h
theorem fM_tells_169_ok {d : Nat} {k139 : Int32 → Int32 → gH → Option (Int32 × gH)} {v1 : Int32} {v2 : Int32} {v4 : Int32} {s0 : Int32} {s1 : Int32} (hk139 : ∀ (u3 : Int32) (u4 : Int32) (h : gH) (x : (Int32 × gH)), k139 u3 u4 h = some x → gR RX7 cX7_tells 5 (some .int) (d + 48) 139 [.ref 65, .int v1, .int v2, .int u3, .int u4] [] h (some (.int x.1)) x.2) {h : gH} {x : (Int32 × gH)} (H : fM_tells_169 k139 v1 v2 v4 s0 s1 h = some x) : gR RX7 cX7_tells 5 (some .int) (d + 48) 169 [.ref 65, .int v1, .int v2, .null, .int v4] [.int s1, .int s0] h (some (.int x.1)) x.2 := by
  unfold fM_tells_169 at H
  refine R_iload (gxd kX7_tells 95 rfl) rfl ?_
  refine R_ishl (gxd kX7_tells 96 rfl) ?_
  refine R_ior (gxd kX7_tells 97 rfl) ?_
  refine R_istore_n (gxd kX7_tells 98 rfl) rfl rfl (Nat.le_of_ble_eq_true rfl) rfl ?_
  refine R_iinc (v := (v4 + (1 : Int32))) (gxd kX7_tells 99 rfl) rfl rfl rfl (Nat.le_of_ble_eq_true rfl) rfl ?_
  refine R_goto (gxd kX7_tells 100 rfl) (tgt := 139) rfl ?_
  exact R_weak (gle_same (gle_same (gle_same (gle_same (gle_same gle_nil))))) (hk139 _ _ _ _  H)
def fM_tells_139 (v1 : Int32) (v2 : Int32) : Nat → Int32 → Int32 → gH → Option (Int32 × gH)
  | 0, _, _, _ => none
  | n + 1, v3, v4, h =>
    if v4 < (h 65 8) then
      if v2 = (1 : Int32) then
        (fM_isSo v1 v4 h).bind fun p9 =>
        if p9.1 = (0 : Int32) then
          fM_tells_169 (fM_tells_139 v1 v2 n) v1 v2 v4 v3 (1 : Int32) p9.2
        else
          fM_tells_169 (fM_tells_139 v1 v2 n) v1 v2 v4 v3 (0 : Int32) p9.2
      else
        fM_tells_180 v1 v2 v3 h
    else
      fM_tells_180 v1 v2 v3 h
theorem fM_tells_139_ok {d : Nat} {v1 : Int32} {v2 : Int32}  : ∀ (n : Nat) (v3 : Int32) (v4 : Int32) (h : gH) (x : (Int32 × gH)), fM_tells_139 v1 v2 n v3 v4 h = some x → gR RX7 cX7_tells 5 (some .int) (d + 48) 139 [.ref 65, .int v1, .int v2, .int v3, .int v4] [] h (some (.int x.1)) x.2 := by
  intro n
  induction n with
  | zero => intro v3 v4 h x  H; exact g0 H
  | succ n ih =>
    intro v3 v4 h x  H
    unfold fM_tells_139 at H
    refine R_iload (gxd kX7_tells 79 rfl) rfl ?_
    refine R_aload_n (gxd kX7_tells 80 rfl) rfl rfl ?_
    refine R_geti (gxd kX7_tells 81 rfl) gf_M_226 gk_65 (by decide) rfl ?_
    refine R_icmp_ge (gxd kX7_tells 82 rfl) (tgt := 180) rfl (fun q => ?_) (fun q => ?_)
    · replace H := giff q H
      exact R_weak (gle_same (gle_same (gle_same (gle_same (gle_null gle_nil))))) (fM_tells_180_ok  H)
    · replace H := gift q H
      refine R_iload_n (gxd kX7_tells 83 rfl) rfl rfl ?_
      refine R_iconst (v := (1 : Int32)) (gxd kX7_tells 84 rfl) rfl ?_
      refine R_icmp_ne (gxd kX7_tells 85 rfl) (tgt := 180) rfl (fun q => ?_) (fun q => ?_)
      · replace H := giff q H
        exact R_weak (gle_same (gle_same (gle_same (gle_same (gle_null gle_nil))))) (fM_tells_180_ok  H)
      · replace H := gift q H
        refine R_iload_n (gxd kX7_tells 86 rfl) rfl rfl ?_
        refine R_aload_n (gxd kX7_tells 87 rfl) rfl rfl ?_
        refine R_iload_n (gxd kX7_tells 88 rfl) rfl rfl ?_
        refine R_iload (gxd kX7_tells 89 rfl) rfl ?_
        obtain ⟨p9, e10, H⟩ := gbi H
        refine R_callVi (gxd kX7_tells 90 rfl) gm_M_431 wX7_isSo (by decide) gk_65 rfl rfl (Nat.le_of_ble_eq_true rfl) (by omega) (fM_isSo_ok  e10 (d + 45)) ?_
        refine R_if_eq (gxd kX7_tells 91 rfl) (tgt := 168) rfl (fun q => ?_) (fun q => ?_)
        · replace H := gift q H
          refine R_iconst (v := (1 : Int32)) (gxd kX7_tells 94 rfl) rfl ?_
          exact R_weak (gle_same (gle_same (gle_same (gle_null (gle_same gle_nil))))) (fM_tells_169_ok ih  H)
        · replace H := giff q H
          refine R_iconst (v := (0 : Int32)) (gxd kX7_tells 92 rfl) rfl ?_
          refine R_goto (gxd kX7_tells 93 rfl) (tgt := 169) rfl ?_
          exact R_weak (gle_same (gle_same (gle_same (gle_null (gle_same gle_nil))))) (fM_tells_169_ok ih  H)
def fM_tells_136 (v1 : Int32) (v2 : Int32) (v3 : Int32) (h : gH) : Option (Int32 × gH) :=
  fM_tells_139 v1 v2 gfu v3 (0 : Int32) h
theorem fM_tells_136_ok {d : Nat} {v1 : Int32} {v2 : Int32} {v3 : Int32}  {h : gH} {x : (Int32 × gH)} (H : fM_tells_136 v1 v2 v3  h = some x) : gR RX7 cX7_tells 5 (some .int) (d + 48) 136 [.ref 65, .int v1, .int v2, .int v3, .null] [] h (some (.int x.1)) x.2 := by
  unfold fM_tells_136 at H
  refine R_iconst (v := (0 : Int32)) (gxd kX7_tells 77 rfl) rfl ?_
  refine R_istore (gxd kX7_tells 78 rfl) rfl (Nat.le_of_ble_eq_true rfl) rfl ?_
  exact R_weak (gle_same (gle_same (gle_same (gle_same (gle_same gle_nil))))) (fM_tells_139_ok  gfu _ _ _ _  H)
def fM_tells_125 (k92 : Int32 → Int32 → gH → Option (Int32 × gH)) (v1 : Int32) (v2 : Int32) (v4 : Int32) (s0 : Int32) (s1 : Int32) (h : gH) : Option (Int32 × gH) :=
  k92 (s0 ||| (s1 <<< (v4 &&& 31))) (v4 + (1 : Int32)) h
theorem fM_tells_125_ok {d : Nat} {k92 : Int32 → Int32 → gH → Option (Int32 × gH)} {v1 : Int32} {v2 : Int32} {v4 : Int32} {s0 : Int32} {s1 : Int32} (hk92 : ∀ (u3 : Int32) (u4 : Int32) (h : gH) (x : (Int32 × gH)), k92 u3 u4 h = some x → gR RX7 cX7_tells 5 (some .int) (d + 48) 92 [.ref 65, .int v1, .int v2, .int u3, .int u4] [] h (some (.int x.1)) x.2) {h : gH} {x : (Int32 × gH)} (H : fM_tells_125 k92 v1 v2 v4 s0 s1 h = some x) : gR RX7 cX7_tells 5 (some .int) (d + 48) 125 [.ref 65, .int v1, .int v2, .null, .int v4] [.int s1, .int s0] h (some (.int x.1)) x.2 := by
  unfold fM_tells_125 at H
  refine R_iload (gxd kX7_tells 71 rfl) rfl ?_
  refine R_ishl (gxd kX7_tells 72 rfl) ?_
  refine R_ior (gxd kX7_tells 73 rfl) ?_
  refine R_istore_n (gxd kX7_tells 74 rfl) rfl rfl (Nat.le_of_ble_eq_true rfl) rfl ?_
  refine R_iinc (v := (v4 + (1 : Int32))) (gxd kX7_tells 75 rfl) rfl rfl rfl (Nat.le_of_ble_eq_true rfl) rfl ?_
  refine R_goto (gxd kX7_tells 76 rfl) (tgt := 92) rfl ?_
  exact R_weak (gle_same (gle_same (gle_same (gle_same (gle_same gle_nil))))) (hk92 _ _ _ _  H)
def fM_tells_92 (v1 : Int32) (v2 : Int32) : Nat → Int32 → Int32 → gH → Option (Int32 × gH)
  | 0, _, _, _ => none
  | n + 1, v3, v4, h =>
    if v4 < (12 : Int32) then
      if v2 = (0 : Int32) then
        (fM_isFound v1 (v4 / (3 : Int32)) (v4 - v4 / (3 : Int32) * (3 : Int32)) h).bind fun p11 =>
        if p11.1 = (0 : Int32) then
          fM_tells_125 (fM_tells_92 v1 v2 n) v1 v2 v4 v3 (0 : Int32) p11.2
        else
          fM_tells_125 (fM_tells_92 v1 v2 n) v1 v2 v4 v3 (1 : Int32) p11.2
      else
        fM_tells_136 v1 v2 v3 h
    else
      fM_tells_136 v1 v2 v3 h
theorem fM_tells_92_ok {d : Nat} {v1 : Int32} {v2 : Int32}  : ∀ (n : Nat) (v3 : Int32) (v4 : Int32) (h : gH) (x : (Int32 × gH)), fM_tells_92 v1 v2 n v3 v4 h = some x → gR RX7 cX7_tells 5 (some .int) (d + 48) 92 [.ref 65, .int v1, .int v2, .int v3, .int v4] [] h (some (.int x.1)) x.2 := by
  intro n
  induction n with
  | zero => intro v3 v4 h x  H; exact g0 H
  | succ n ih =>
    intro v3 v4 h x  H
    unfold fM_tells_92 at H
    refine R_iload (gxd kX7_tells 52 rfl) rfl ?_
    refine R_bipush (v := (12 : Int32)) (gxd kX7_tells 53 rfl) rfl ?_
    refine R_icmp_ge (gxd kX7_tells 54 rfl) (tgt := 136) rfl (fun q => ?_) (fun q => ?_)
    · replace H := giff q H
      exact R_weak (gle_same (gle_same (gle_same (gle_same (gle_null gle_nil))))) (fM_tells_136_ok  H)
    · replace H := gift q H
      refine R_iload_n (gxd kX7_tells 55 rfl) rfl rfl ?_
      refine R_if_ne (gxd kX7_tells 56 rfl) (tgt := 136) rfl (fun q => ?_) (fun q => ?_)
      · replace H := giff q H
        exact R_weak (gle_same (gle_same (gle_same (gle_same (gle_null gle_nil))))) (fM_tells_136_ok  H)
      · replace H := gift q H
        refine R_iload_n (gxd kX7_tells 57 rfl) rfl rfl ?_
        refine R_aload_n (gxd kX7_tells 58 rfl) rfl rfl ?_
        refine R_iload_n (gxd kX7_tells 59 rfl) rfl rfl ?_
        refine R_iload (gxd kX7_tells 60 rfl) rfl ?_
        refine R_iconst (v := (3 : Int32)) (gxd kX7_tells 61 rfl) rfl ?_
        refine R_idiv (gxd kX7_tells 62 rfl) (by decide) ?_
        refine R_iload (gxd kX7_tells 63 rfl) rfl ?_
        refine R_iconst (v := (3 : Int32)) (gxd kX7_tells 64 rfl) rfl ?_
        refine R_irem (gxd kX7_tells 65 rfl) (by decide) ?_
        obtain ⟨p11, e12, H⟩ := gbi H
        refine R_callVi (gxd kX7_tells 66 rfl) gm_M_427 wX7_isFound (by decide) gk_65 rfl rfl (Nat.le_of_ble_eq_true rfl) (by omega) (fM_isFound_ok  e12 (d + 0)) ?_
        refine R_if_eq (gxd kX7_tells 67 rfl) (tgt := 124) rfl (fun q => ?_) (fun q => ?_)
        · replace H := gift q H
          refine R_iconst (v := (0 : Int32)) (gxd kX7_tells 70 rfl) rfl ?_
          exact R_weak (gle_same (gle_same (gle_same (gle_null (gle_same gle_nil))))) (fM_tells_125_ok ih  H)
        · replace H := giff q H
          refine R_iconst (v := (1 : Int32)) (gxd kX7_tells 68 rfl) rfl ?_
          refine R_goto (gxd kX7_tells 69 rfl) (tgt := 125) rfl ?_
          exact R_weak (gle_same (gle_same (gle_same (gle_null (gle_same gle_nil))))) (fM_tells_125_ok ih  H)
def fM_tells_50 (v1 : Int32) (v2 : Int32) : Nat → Int32 → gH → Option (Int32 × gH)
  | 0, _, _ => none
  | n + 1, v3, h =>
    if v3 < (8 : Int32) then
      gg (gin (((40 : Int32) * v1) + v3) 160) <|
      (fM_in ((h 106 (((40 : Int32) * v1) + v3).toNatClampNeg).toInt64) (0 : Int64) (9 : Int64) h).bind fun p14 =>
      if p14.1 = (0 : Int32) then
        some ((-2 : Int32), p14.2)
      else
        fM_tells_50 v1 v2 n (v3 + (1 : Int32)) p14.2
    else
      fM_tells_92 v1 v2 gfu (0 : Int32) (0 : Int32) h
theorem fM_tells_50_ok {d : Nat} {v1 : Int32} {v2 : Int32}  : ∀ (n : Nat) (v3 : Int32) (h : gH) (x : (Int32 × gH)), fM_tells_50 v1 v2 n v3 h = some x → gR RX7 cX7_tells 5 (some .int) (d + 48) 50 [.ref 65, .int v1, .int v2, .int v3, .null] [] h (some (.int x.1)) x.2 := by
  intro n
  induction n with
  | zero => intro v3 h x  H; exact g0 H
  | succ n ih =>
    intro v3 h x  H
    unfold fM_tells_50 at H
    refine R_iload_n (gxd kX7_tells 28 rfl) rfl rfl ?_
    refine R_bipush (v := (8 : Int32)) (gxd kX7_tells 29 rfl) rfl ?_
    refine R_icmp_ge (gxd kX7_tells 30 rfl) (tgt := 87) rfl (fun q => ?_) (fun q => ?_)
    · replace H := giff q H
      refine R_iconst (v := (0 : Int32)) (gxd kX7_tells 48 rfl) rfl ?_
      refine R_istore_n (gxd kX7_tells 49 rfl) rfl rfl (Nat.le_of_ble_eq_true rfl) rfl ?_
      refine R_iconst (v := (0 : Int32)) (gxd kX7_tells 50 rfl) rfl ?_
      refine R_istore (gxd kX7_tells 51 rfl) rfl (Nat.le_of_ble_eq_true rfl) rfl ?_
      exact R_weak (gle_same (gle_same (gle_same (gle_same (gle_same gle_nil))))) (fM_tells_92_ok  gfu _ _ _ _  H)
    · replace H := gift q H
      refine R_aload_n (gxd kX7_tells 31 rfl) rfl rfl ?_
      refine R_getr (gxd kX7_tells 32 rfl) gf_M_135 gk_65 (by decide) rfl ?_
      refine R_bipush (v := (40 : Int32)) (gxd kX7_tells 33 rfl) rfl ?_
      refine R_iload_n (gxd kX7_tells 34 rfl) rfl rfl ?_
      refine R_imul (gxd kX7_tells 35 rfl) ?_
      refine R_iload_n (gxd kX7_tells 36 rfl) rfl rfl ?_
      refine R_iadd (gxd kX7_tells 37 rfl) ?_
      obtain ⟨b13, H⟩ := ggi H
      have b13 := gin_in b13
      refine R_iald (gxd kX7_tells 38 rfl) gk_106 b13 ?_
      refine R_i2l (gxd kX7_tells 39 rfl) ?_
      refine R_lconst (v := (0 : Int64)) (gxd kX7_tells 40 rfl) rfl ?_
      refine R_ldc2 (v := (9 : Int64)) (gxd kX7_tells 41 rfl) gc_M_242 ?_
      obtain ⟨p14, e15, H⟩ := gbi H
      refine R_callSi (gxd kX7_tells 42 rfl) gm_M_140 wX7_in (by decide) rfl (Nat.le_of_ble_eq_true rfl) (by omega) (fM_in_ok  e15 (d + 47)) ?_
      refine R_if_ne (gxd kX7_tells 43 rfl) (tgt := 81) rfl (fun q => ?_) (fun q => ?_)
      · replace H := giff q H
        refine R_iinc (v := (v3 + (1 : Int32))) (gxd kX7_tells 46 rfl) rfl rfl rfl (Nat.le_of_ble_eq_true rfl) rfl ?_
        refine R_goto (gxd kX7_tells 47 rfl) (tgt := 50) rfl ?_
        exact R_weak (gle_same (gle_same (gle_same (gle_same (gle_null gle_nil))))) (ih _ _ _  H)
      · replace H := gift q H
        refine R_bipush (v := (-2 : Int32)) (gxd kX7_tells 44 rfl) rfl ?_
        obtain rfl := Option.some.inj H
        exact R_iret (gxd kX7_tells 45 rfl) rfl
def fM_tells (v1 : Int32) (v2 : Int32) (h : gH) : Option (Int32 × gH) :=
  (fM_isSheet v1 h).bind fun p1 =>
  if p1.1 = (0 : Int32) then
    some ((-2 : Int32), p1.2)
  else
    (fM_in v2.toInt64 (0 : Int64) (2 : Int64) p1.2).bind fun p3 =>
    if p3.1 = (0 : Int32) then
      some ((-2 : Int32), p3.2)
    else
      gg (gin v1 4) <|
      if (p3.2 103 v1.toNatClampNeg) = (0 : Int32) then
        some ((-11 : Int32), p3.2)
      else
        gg (gin v1 4) <|
        if (p3.2 105 v1.toNatClampNeg) = (8 : Int32) then
          fM_tells_50 v1 v2 gfu (0 : Int32) p3.2
        else
          some ((-2 : Int32), p3.2)
theorem fM_tells_ok {v1 : Int32} {v2 : Int32} {h : gH} {x : (Int32 × gH)} (H : fM_tells v1 v2 h = some x) (d : Nat) : gC yX7_tells cX7_tells 5 (some .int) (d + 48) [.ref 65, .int v1, .int v2] h (some (.int x.1)) x.2 := by
  refine gC_of (by decide +kernel) (Nat.le_of_ble_eq_true rfl) rfl ?_
  unfold fM_tells at H
  refine R_iload_n (gxd kX7_tells 0 rfl) rfl rfl ?_
  obtain ⟨p1, e2, H⟩ := gbi H
  refine R_callSi (gxd kX7_tells 1 rfl) gm_M_424 wX7_isSheet (by decide) rfl (Nat.le_of_ble_eq_true rfl) (by omega) (fM_isSheet_ok  e2 (d + 46)) ?_
  refine R_if_eq (gxd kX7_tells 2 rfl) (tgt := 19) rfl (fun q => ?_) (fun q => ?_)
  · replace H := gift q H
    refine R_bipush (v := (-2 : Int32)) (gxd kX7_tells 9 rfl) rfl ?_
    obtain rfl := Option.some.inj H
    exact R_iret (gxd kX7_tells 10 rfl) rfl
  · replace H := giff q H
    refine R_iload_n (gxd kX7_tells 3 rfl) rfl rfl ?_
    refine R_i2l (gxd kX7_tells 4 rfl) ?_
    refine R_lconst (v := (0 : Int64)) (gxd kX7_tells 5 rfl) rfl ?_
    refine R_ldc2 (v := (2 : Int64)) (gxd kX7_tells 6 rfl) gc_M_248 ?_
    obtain ⟨p3, e4, H⟩ := gbi H
    refine R_callSi (gxd kX7_tells 7 rfl) gm_M_140 wX7_in (by decide) rfl (Nat.le_of_ble_eq_true rfl) (by omega) (fM_in_ok  e4 (d + 47)) ?_
    refine R_if_ne (gxd kX7_tells 8 rfl) (tgt := 22) rfl (fun q => ?_) (fun q => ?_)
    · replace H := giff q H
      refine R_aload_n (gxd kX7_tells 11 rfl) rfl rfl ?_
      refine R_getr (gxd kX7_tells 12 rfl) gf_M_126 gk_65 (by decide) rfl ?_
      refine R_iload_n (gxd kX7_tells 13 rfl) rfl rfl ?_
      obtain ⟨b5, H⟩ := ggi H
      have b5 := gin_in b5
      refine R_zald (gxd kX7_tells 14 rfl) gk_103 b5 ?_
      refine R_if_ne (gxd kX7_tells 15 rfl) (tgt := 34) rfl (fun q => ?_) (fun q => ?_)
      · replace H := giff q H
        refine R_aload_n (gxd kX7_tells 18 rfl) rfl rfl ?_
        refine R_getr (gxd kX7_tells 19 rfl) gf_M_132 gk_65 (by decide) rfl ?_
        refine R_iload_n (gxd kX7_tells 20 rfl) rfl rfl ?_
        obtain ⟨b6, H⟩ := ggi H
        have b6 := gin_in b6
        refine R_iald (gxd kX7_tells 21 rfl) gk_105 b6 ?_
        refine R_bipush (v := (8 : Int32)) (gxd kX7_tells 22 rfl) rfl ?_
        refine R_icmp_eq (gxd kX7_tells 23 rfl) (tgt := 48) rfl (fun q => ?_) (fun q => ?_)
        · replace H := gift q H
          refine R_iconst (v := (0 : Int32)) (gxd kX7_tells 26 rfl) rfl ?_
          refine R_istore_n (gxd kX7_tells 27 rfl) rfl rfl (Nat.le_of_ble_eq_true rfl) rfl ?_
          exact R_weak (gle_same (gle_same (gle_same (gle_same (gle_null gle_nil))))) (fM_tells_50_ok  gfu _ _ _  H)
        · replace H := giff q H
          refine R_bipush (v := (-2 : Int32)) (gxd kX7_tells 24 rfl) rfl ?_
          obtain rfl := Option.some.inj H
          exact R_iret (gxd kX7_tells 25 rfl) rfl
      · replace H := gift q H
        refine R_bipush (v := (-11 : Int32)) (gxd kX7_tells 16 rfl) rfl ?_
        obtain rfl := Option.some.inj H
        exact R_iret (gxd kX7_tells 17 rfl) rfl
    · replace H := gift q H
      refine R_bipush (v := (-2 : Int32)) (gxd kX7_tells 9 rfl) rfl ?_
      obtain rfl := Option.some.inj H
      exact R_iret (gxd kX7_tells 10 rfl) rfl
