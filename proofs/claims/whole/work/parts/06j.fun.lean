def fM_sheet_77 (v1 : Int32) (v2 : Int32) (v3 : Int32) : Nat → Int32 → gH → Option (Int32 × gH)
  | 0, _, _ => none
  | n + 1, v4, h =>
    if v4 < v3 then
      if v2 < (0 : Int32) then
        some ((1 : Int32), h)
      else
        gg (gin (((40 : Int32) * v1) + v4) 160) <|
        glet (hu h 106 (((40 : Int32) * v1) + v4).toNatClampNeg (0 : Int32)) fun h16 =>
        fM_sheet_77 v1 v2 v3 n (v4 + (1 : Int32)) h16
    else
      some ((1 : Int32), h)
theorem fM_sheet_77_ok {d : Nat} {v1 : Int32} {v2 : Int32} {v3 : Int32}  : ∀ (n : Nat) (v4 : Int32) (h : gH) (x : (Int32 × gH)), fM_sheet_77 v1 v2 v3 n v4 h = some x → gR RX7 cX7_sheet 5 (some .int) (d + 2) 77 [.ref 65, .int v1, .int v2, .int v3, .int v4] [] h (some (.int x.1)) x.2 := by
  intro n
  induction n with
  | zero => intro v4 h x  H; exact g0 H
  | succ n ih =>
    intro v4 h x  H
    unfold fM_sheet_77 at H
    refine R_iload (gxd kX7_sheet 43 rfl) rfl ?_
    refine R_iload_n (gxd kX7_sheet 44 rfl) rfl rfl ?_
    refine R_icmp_ge (gxd kX7_sheet 45 rfl) (tgt := 106) rfl (fun q => ?_) (fun q => ?_)
    · replace H := giff q H
      refine R_iconst (v := (1 : Int32)) (gxd kX7_sheet 59 rfl) rfl ?_
      obtain rfl := Option.some.inj H
      exact R_iret (gxd kX7_sheet 60 rfl) rfl
    · replace H := gift q H
      refine R_iload_n (gxd kX7_sheet 46 rfl) rfl rfl ?_
      refine R_if_lt (gxd kX7_sheet 47 rfl) (tgt := 106) rfl (fun q => ?_) (fun q => ?_)
      · replace H := gift q H
        refine R_iconst (v := (1 : Int32)) (gxd kX7_sheet 59 rfl) rfl ?_
        obtain rfl := Option.some.inj H
        exact R_iret (gxd kX7_sheet 60 rfl) rfl
      · replace H := giff q H
        refine R_aload_n (gxd kX7_sheet 48 rfl) rfl rfl ?_
        refine R_getr (gxd kX7_sheet 49 rfl) gf_M_135 gk_65 (by decide) rfl ?_
        refine R_bipush (v := (40 : Int32)) (gxd kX7_sheet 50 rfl) rfl ?_
        refine R_iload_n (gxd kX7_sheet 51 rfl) rfl rfl ?_
        refine R_imul (gxd kX7_sheet 52 rfl) ?_
        refine R_iload (gxd kX7_sheet 53 rfl) rfl ?_
        refine R_iadd (gxd kX7_sheet 54 rfl) ?_
        refine R_iconst (v := (0 : Int32)) (gxd kX7_sheet 55 rfl) rfl ?_
        obtain ⟨b15, H⟩ := ggi H
        have b15 := gin_in b15
        refine R_iast (gxd kX7_sheet 56 rfl) gk_106 b15 ?_
        obtain ⟨h16, e17, H⟩ := glei H
        refine R_heq e17 ?_
        refine R_iinc (v := (v4 + (1 : Int32))) (gxd kX7_sheet 57 rfl) rfl rfl rfl (Nat.le_of_ble_eq_true rfl) rfl ?_
        refine R_goto (gxd kX7_sheet 58 rfl) (tgt := 77) rfl ?_
        exact R_weak (gle_same (gle_same (gle_same (gle_same (gle_same gle_nil))))) (ih _ _ _  H)
def fM_sheet_59 (v1 : Int32) (v2 : Int32) (v3 : Int32) (s1 : Int32) (s2 : Int32) (h : gH) : Option (Int32 × gH) :=
  gg (gin s1 4) <|
  gg (gbo s2) <|
  glet (hu h 103 s1.toNatClampNeg s2) fun h7 =>
  gg (gin v1 4) <|
  glet (hu h7 104 v1.toNatClampNeg v2) fun h10 =>
  gg (gin v1 4) <|
  glet (hu h10 105 v1.toNatClampNeg v3) fun h13 =>
  fM_sheet_77 v1 v2 v3 gfu (0 : Int32) h13
theorem fM_sheet_59_ok {d : Nat} {v1 : Int32} {v2 : Int32} {v3 : Int32} {s1 : Int32} {s2 : Int32}  {h : gH} {x : (Int32 × gH)} (H : fM_sheet_59 v1 v2 v3 s1 s2 h = some x) : gR RX7 cX7_sheet 5 (some .int) (d + 2) 59 [.ref 65, .int v1, .int v2, .int v3, .null] [.int s2, .int s1, .ref 103] h (some (.int x.1)) x.2 := by
  unfold fM_sheet_59 at H
  obtain ⟨b5, H⟩ := ggi H
  have b5 := gin_in b5
  obtain ⟨b6, H⟩ := ggi H
  have b6 := gbo_or b6
  refine R_zast (gxd kX7_sheet 30 rfl) gk_103 b5 b6 ?_
  obtain ⟨h7, e8, H⟩ := glei H
  refine R_heq e8 ?_
  refine R_aload_n (gxd kX7_sheet 31 rfl) rfl rfl ?_
  refine R_getr (gxd kX7_sheet 32 rfl) gf_M_129 gk_65 (by decide) rfl ?_
  refine R_iload_n (gxd kX7_sheet 33 rfl) rfl rfl ?_
  refine R_iload_n (gxd kX7_sheet 34 rfl) rfl rfl ?_
  obtain ⟨b9, H⟩ := ggi H
  have b9 := gin_in b9
  refine R_iast (gxd kX7_sheet 35 rfl) gk_104 b9 ?_
  obtain ⟨h10, e11, H⟩ := glei H
  refine R_heq e11 ?_
  refine R_aload_n (gxd kX7_sheet 36 rfl) rfl rfl ?_
  refine R_getr (gxd kX7_sheet 37 rfl) gf_M_132 gk_65 (by decide) rfl ?_
  refine R_iload_n (gxd kX7_sheet 38 rfl) rfl rfl ?_
  refine R_iload_n (gxd kX7_sheet 39 rfl) rfl rfl ?_
  obtain ⟨b12, H⟩ := ggi H
  have b12 := gin_in b12
  refine R_iast (gxd kX7_sheet 40 rfl) gk_105 b12 ?_
  obtain ⟨h13, e14, H⟩ := glei H
  refine R_heq e14 ?_
  refine R_iconst (v := (0 : Int32)) (gxd kX7_sheet 41 rfl) rfl ?_
  refine R_istore (gxd kX7_sheet 42 rfl) rfl (Nat.le_of_ble_eq_true rfl) rfl ?_
  exact R_weak (gle_same (gle_same (gle_same (gle_same (gle_same gle_nil))))) (fM_sheet_77_ok  gfu _ _ _  H)
def fM_sheet_45 (v1 : Int32) (v2 : Int32) (v3 : Int32) (h : gH) : Option (Int32 × gH) :=
  if v2 < (0 : Int32) then
    fM_sheet_59 v1 v2 v3 v1 (0 : Int32) h
  else
    fM_sheet_59 v1 v2 v3 v1 (1 : Int32) h
theorem fM_sheet_45_ok {d : Nat} {v1 : Int32} {v2 : Int32} {v3 : Int32}  {h : gH} {x : (Int32 × gH)} (H : fM_sheet_45 v1 v2 v3  h = some x) : gR RX7 cX7_sheet 5 (some .int) (d + 2) 45 [.ref 65, .int v1, .int v2, .int v3, .null] [] h (some (.int x.1)) x.2 := by
  unfold fM_sheet_45 at H
  refine R_aload_n (gxd kX7_sheet 22 rfl) rfl rfl ?_
  refine R_getr (gxd kX7_sheet 23 rfl) gf_M_126 gk_65 (by decide) rfl ?_
  refine R_iload_n (gxd kX7_sheet 24 rfl) rfl rfl ?_
  refine R_iload_n (gxd kX7_sheet 25 rfl) rfl rfl ?_
  refine R_if_lt (gxd kX7_sheet 26 rfl) (tgt := 58) rfl (fun q => ?_) (fun q => ?_)
  · replace H := gift q H
    refine R_iconst (v := (0 : Int32)) (gxd kX7_sheet 29 rfl) rfl ?_
    exact R_weak (gle_same (gle_same (gle_same (gle_same (gle_null gle_nil))))) (fM_sheet_59_ok  H)
  · replace H := giff q H
    refine R_iconst (v := (1 : Int32)) (gxd kX7_sheet 27 rfl) rfl ?_
    refine R_goto (gxd kX7_sheet 28 rfl) (tgt := 59) rfl ?_
    exact R_weak (gle_same (gle_same (gle_same (gle_same (gle_null gle_nil))))) (fM_sheet_59_ok  H)
def fM_sheet_34 (v1 : Int32) (v2 : Int32) (v3 : Int32) (h : gH) : Option (Int32 × gH) :=
  if v2 < (0 : Int32) then
    fM_sheet_45 v1 v2 v3 h
  else
    if v3 < (0 : Int32) then
      some ((-14 : Int32), h)
    else
      fM_sheet_45 v1 v2 v3 h
theorem fM_sheet_34_ok {d : Nat} {v1 : Int32} {v2 : Int32} {v3 : Int32}  {h : gH} {x : (Int32 × gH)} (H : fM_sheet_34 v1 v2 v3  h = some x) : gR RX7 cX7_sheet 5 (some .int) (d + 2) 34 [.ref 65, .int v1, .int v2, .int v3, .null] [] h (some (.int x.1)) x.2 := by
  unfold fM_sheet_34 at H
  refine R_iload_n (gxd kX7_sheet 16 rfl) rfl rfl ?_
  refine R_if_lt (gxd kX7_sheet 17 rfl) (tgt := 45) rfl (fun q => ?_) (fun q => ?_)
  · replace H := gift q H
    exact R_weak (gle_same (gle_same (gle_same (gle_same (gle_null gle_nil))))) (fM_sheet_45_ok  H)
  · replace H := giff q H
    refine R_iload_n (gxd kX7_sheet 18 rfl) rfl rfl ?_
    refine R_if_ge (gxd kX7_sheet 19 rfl) (tgt := 45) rfl (fun q => ?_) (fun q => ?_)
    · replace H := giff q H
      exact R_weak (gle_same (gle_same (gle_same (gle_same (gle_null gle_nil))))) (fM_sheet_45_ok  H)
    · replace H := gift q H
      refine R_bipush (v := (-14 : Int32)) (gxd kX7_sheet 20 rfl) rfl ?_
      obtain rfl := Option.some.inj H
      exact R_iret (gxd kX7_sheet 21 rfl) rfl
def fM_sheet (v1 : Int32) (v2 : Int32) (v3 : Int32) (h : gH) : Option (Int32 × gH) :=
  (fM_isSheet v1 h).bind fun p1 =>
  if p1.1 = (0 : Int32) then
    some ((-2 : Int32), p1.2)
  else
    (fM_in v2.toInt64 (-1 : Int64) (2 : Int64) p1.2).bind fun p3 =>
    if p3.1 = (0 : Int32) then
      some ((-2 : Int32), p3.2)
    else
      if v2 < (0 : Int32) then
        fM_sheet_34 v1 v2 v3 p3.2
      else
        if (40 : Int32) < v3 then
          some ((-2 : Int32), p3.2)
        else
          fM_sheet_34 v1 v2 v3 p3.2
theorem fM_sheet_ok {v1 : Int32} {v2 : Int32} {v3 : Int32} {h : gH} {x : (Int32 × gH)} (H : fM_sheet v1 v2 v3 h = some x) (d : Nat) : gC yX7_sheet cX7_sheet 5 (some .int) (d + 2) [.ref 65, .int v1, .int v2, .int v3] h (some (.int x.1)) x.2 := by
  refine gC_of (by decide +kernel) (Nat.le_of_ble_eq_true rfl) rfl ?_
  unfold fM_sheet at H
  refine R_iload_n (gxd kX7_sheet 0 rfl) rfl rfl ?_
  obtain ⟨p1, e2, H⟩ := gbi H
  refine R_callSi (gxd kX7_sheet 1 rfl) gm_M_424 wX7_isSheet (by decide) rfl (Nat.le_of_ble_eq_true rfl) (by omega) (fM_isSheet_ok  e2 (d + 0)) ?_
  refine R_if_eq (gxd kX7_sheet 2 rfl) (tgt := 31) rfl (fun q => ?_) (fun q => ?_)
  · replace H := gift q H
    refine R_bipush (v := (-2 : Int32)) (gxd kX7_sheet 14 rfl) rfl ?_
    obtain rfl := Option.some.inj H
    exact R_iret (gxd kX7_sheet 15 rfl) rfl
  · replace H := giff q H
    refine R_iload_n (gxd kX7_sheet 3 rfl) rfl rfl ?_
    refine R_i2l (gxd kX7_sheet 4 rfl) ?_
    refine R_ldc2 (v := (-1 : Int64)) (gxd kX7_sheet 5 rfl) gc_M_334 ?_
    refine R_ldc2 (v := (2 : Int64)) (gxd kX7_sheet 6 rfl) gc_M_248 ?_
    obtain ⟨p3, e4, H⟩ := gbi H
    refine R_callSi (gxd kX7_sheet 7 rfl) gm_M_140 wX7_in (by decide) rfl (Nat.le_of_ble_eq_true rfl) (by omega) (fM_in_ok  e4 (d + 1)) ?_
    refine R_if_eq (gxd kX7_sheet 8 rfl) (tgt := 31) rfl (fun q => ?_) (fun q => ?_)
    · replace H := gift q H
      refine R_bipush (v := (-2 : Int32)) (gxd kX7_sheet 14 rfl) rfl ?_
      obtain rfl := Option.some.inj H
      exact R_iret (gxd kX7_sheet 15 rfl) rfl
    · replace H := giff q H
      refine R_iload_n (gxd kX7_sheet 9 rfl) rfl rfl ?_
      refine R_if_lt (gxd kX7_sheet 10 rfl) (tgt := 34) rfl (fun q => ?_) (fun q => ?_)
      · replace H := gift q H
        exact R_weak (gle_same (gle_same (gle_same (gle_same (gle_null gle_nil))))) (fM_sheet_34_ok  H)
      · replace H := giff q H
        refine R_iload_n (gxd kX7_sheet 11 rfl) rfl rfl ?_
        refine R_bipush (v := (40 : Int32)) (gxd kX7_sheet 12 rfl) rfl ?_
        refine R_icmp_le (gxd kX7_sheet 13 rfl) (tgt := 34) rfl (fun q => ?_) (fun q => ?_)
        · replace H := giff q H
          exact R_weak (gle_same (gle_same (gle_same (gle_same (gle_null gle_nil))))) (fM_sheet_34_ok  H)
        · replace H := gift q H
          refine R_bipush (v := (-2 : Int32)) (gxd kX7_sheet 14 rfl) rfl ?_
          obtain rfl := Option.some.inj H
          exact R_iret (gxd kX7_sheet 15 rfl) rfl
def fM_film_86 (v1 : Int32) : Nat → Int32 → gH → Option (Int32 × gH)
  | 0, _, _ => none
  | n + 1, v5, h =>
    if v5 < (8 : Int32) then
      gg (gin v5 8) <|
      gg (gin (((40 : Int32) * v1) + v5) 160) <|
      glet (hu h 106 (((40 : Int32) * v1) + v5).toNatClampNeg (h 87 v5.toNatClampNeg)) fun h17 =>
      fM_film_86 v1 n (v5 + (1 : Int32)) h17
    else
      some ((8 : Int32), h)
theorem fM_film_86_ok {d : Nat} {v1 : Int32}  : ∀ (n : Nat) (v5 : Int32) (h : gH) (x : (Int32 × gH)), fM_film_86 v1 n v5 h = some x → gR RX7 cX7_film 6 (some .int) (d + 47) 86 [.ref 65, .int v1, .null, .null, .null, .int v5] [] h (some (.int x.1)) x.2 := by
  intro n
  induction n with
  | zero => intro v5 h x  H; exact g0 H
  | succ n ih =>
    intro v5 h x  H
    unfold fM_film_86 at H
    refine R_iload (gxd kX7_film 47 rfl) rfl ?_
    refine R_bipush (v := (8 : Int32)) (gxd kX7_film 48 rfl) rfl ?_
    refine R_icmp_ge (gxd kX7_film 49 rfl) (tgt := 118) rfl (fun q => ?_) (fun q => ?_)
    · replace H := giff q H
      refine R_bipush (v := (8 : Int32)) (gxd kX7_film 64 rfl) rfl ?_
      obtain rfl := Option.some.inj H
      exact R_iret (gxd kX7_film 65 rfl) rfl
    · replace H := gift q H
      refine R_aload_n (gxd kX7_film 50 rfl) rfl rfl ?_
      refine R_getr (gxd kX7_film 51 rfl) gf_M_135 gk_65 (by decide) rfl ?_
      refine R_bipush (v := (40 : Int32)) (gxd kX7_film 52 rfl) rfl ?_
      refine R_iload_n (gxd kX7_film 53 rfl) rfl rfl ?_
      refine R_imul (gxd kX7_film 54 rfl) ?_
      refine R_iload (gxd kX7_film 55 rfl) rfl ?_
      refine R_iadd (gxd kX7_film 56 rfl) ?_
      refine R_aload_n (gxd kX7_film 57 rfl) rfl rfl ?_
      refine R_getr (gxd kX7_film 58 rfl) gf_M_78 gk_65 (by decide) rfl ?_
      refine R_iload (gxd kX7_film 59 rfl) rfl ?_
      obtain ⟨b15, H⟩ := ggi H
      have b15 := gin_in b15
      refine R_iald (gxd kX7_film 60 rfl) gk_87 b15 ?_
      obtain ⟨b16, H⟩ := ggi H
      have b16 := gin_in b16
      refine R_iast (gxd kX7_film 61 rfl) gk_106 b16 ?_
      obtain ⟨h17, e18, H⟩ := glei H
      refine R_heq e18 ?_
      refine R_iinc (v := (v5 + (1 : Int32))) (gxd kX7_film 62 rfl) rfl rfl rfl (Nat.le_of_ble_eq_true rfl) rfl ?_
      refine R_goto (gxd kX7_film 63 rfl) (tgt := 86) rfl ?_
      exact R_weak (gle_same (gle_same (gle_null (gle_null (gle_null (gle_same gle_nil)))))) (ih _ _ _  H)
def fM_film (v1 : Int32) (v2 : Int32) (v3 : Int32) (h : gH) : Option (Int32 × gH) :=
  (fM_isSheet v1 h).bind fun p1 =>
  if p1.1 = (0 : Int32) then
    some ((-2 : Int32), p1.2)
  else
    (fM_in v2.toInt64 (0 : Int64) (3 : Int64) p1.2).bind fun p3 =>
    if p3.1 = (0 : Int32) then
      some ((-2 : Int32), p3.2)
    else
      (fM_in v3.toInt64 (0 : Int64) (2 : Int64) p3.2).bind fun p5 =>
      if p5.1 = (0 : Int32) then
        some ((-2 : Int32), p5.2)
      else
        (fM_laysAside2 p5.2).bind fun h7 =>
        (fM_searched v2 v3 (0 : Int32) (0 : Int32) (100 : Int32) h7).bind fun p9 =>
        (fM_laysBack2 p9.2).bind fun h11 =>
        if p9.1 = (1 : Int32) then
          (fM_sheet v1 (0 : Int32) (8 : Int32) h11).bind fun p13 =>
          fM_film_86 v1 gfu (0 : Int32) p13.2
        else
          if p9.1 = (-6 : Int32) then
            some ((-6 : Int32), h11)
          else
            some ((-1 : Int32), h11)
theorem fM_film_ok {v1 : Int32} {v2 : Int32} {v3 : Int32} {h : gH} {x : (Int32 × gH)} (H : fM_film v1 v2 v3 h = some x) (d : Nat) : gC yX7_film cX7_film 6 (some .int) (d + 47) [.ref 65, .int v1, .int v2, .int v3] h (some (.int x.1)) x.2 := by
  refine gC_of (by decide +kernel) (Nat.le_of_ble_eq_true rfl) rfl ?_
  unfold fM_film at H
  refine R_iload_n (gxd kX7_film 0 rfl) rfl rfl ?_
  obtain ⟨p1, e2, H⟩ := gbi H
  refine R_callSi (gxd kX7_film 1 rfl) gm_M_424 wX7_isSheet (by decide) rfl (Nat.le_of_ble_eq_true rfl) (by omega) (fM_isSheet_ok  e2 (d + 45)) ?_
  refine R_if_eq (gxd kX7_film 2 rfl) (tgt := 31) rfl (fun q => ?_) (fun q => ?_)
  · replace H := gift q H
    refine R_bipush (v := (-2 : Int32)) (gxd kX7_film 15 rfl) rfl ?_
    obtain rfl := Option.some.inj H
    exact R_iret (gxd kX7_film 16 rfl) rfl
  · replace H := giff q H
    refine R_iload_n (gxd kX7_film 3 rfl) rfl rfl ?_
    refine R_i2l (gxd kX7_film 4 rfl) ?_
    refine R_lconst (v := (0 : Int64)) (gxd kX7_film 5 rfl) rfl ?_
    refine R_ldc2 (v := (3 : Int64)) (gxd kX7_film 6 rfl) gc_M_407 ?_
    obtain ⟨p3, e4, H⟩ := gbi H
    refine R_callSi (gxd kX7_film 7 rfl) gm_M_140 wX7_in (by decide) rfl (Nat.le_of_ble_eq_true rfl) (by omega) (fM_in_ok  e4 (d + 46)) ?_
    refine R_if_eq (gxd kX7_film 8 rfl) (tgt := 31) rfl (fun q => ?_) (fun q => ?_)
    · replace H := gift q H
      refine R_bipush (v := (-2 : Int32)) (gxd kX7_film 15 rfl) rfl ?_
      obtain rfl := Option.some.inj H
      exact R_iret (gxd kX7_film 16 rfl) rfl
    · replace H := giff q H
      refine R_iload_n (gxd kX7_film 9 rfl) rfl rfl ?_
      refine R_i2l (gxd kX7_film 10 rfl) ?_
      refine R_lconst (v := (0 : Int64)) (gxd kX7_film 11 rfl) rfl ?_
      refine R_ldc2 (v := (2 : Int64)) (gxd kX7_film 12 rfl) gc_M_248 ?_
      obtain ⟨p5, e6, H⟩ := gbi H
      refine R_callSi (gxd kX7_film 13 rfl) gm_M_140 wX7_in (by decide) rfl (Nat.le_of_ble_eq_true rfl) (by omega) (fM_in_ok  e6 (d + 46)) ?_
      refine R_if_ne (gxd kX7_film 14 rfl) (tgt := 34) rfl (fun q => ?_) (fun q => ?_)
      · replace H := giff q H
        refine R_aload_n (gxd kX7_film 17 rfl) rfl rfl ?_
        obtain ⟨h7, e8, H⟩ := gbi H
        refine R_callVv (gxd kX7_film 18 rfl) gm_M_409 wX7_laysAside2 (by decide) gk_65 rfl rfl (Nat.le_of_ble_eq_true rfl) (by omega) (fM_laysAside2_ok  e8 (d + 46)) ?_
        refine R_aload_n (gxd kX7_film 19 rfl) rfl rfl ?_
        refine R_iload_n (gxd kX7_film 20 rfl) rfl rfl ?_
        refine R_iload_n (gxd kX7_film 21 rfl) rfl rfl ?_
        refine R_iconst (v := (0 : Int32)) (gxd kX7_film 22 rfl) rfl ?_
        refine R_iconst (v := (0 : Int32)) (gxd kX7_film 23 rfl) rfl ?_
        refine R_bipush (v := (100 : Int32)) (gxd kX7_film 24 rfl) rfl ?_
        obtain ⟨p9, e10, H⟩ := gbi H
        refine R_callVi (gxd kX7_film 25 rfl) gm_M_412 wX7_searched (by decide) gk_65 rfl rfl (Nat.le_of_ble_eq_true rfl) (by omega) (fM_searched_ok  e10 (d + 0)) ?_
        refine R_istore (gxd kX7_film 26 rfl) rfl (Nat.le_of_ble_eq_true rfl) rfl ?_
        refine R_aload_n (gxd kX7_film 27 rfl) rfl rfl ?_
        obtain ⟨h11, e12, H⟩ := gbi H
        refine R_callVv (gxd kX7_film 28 rfl) gm_M_416 wX7_laysBack2 (by decide) gk_65 rfl rfl (Nat.le_of_ble_eq_true rfl) (by omega) (fM_laysBack2_ok  e12 (d + 46)) ?_
        refine R_iload (gxd kX7_film 29 rfl) rfl ?_
        refine R_iconst (v := (1 : Int32)) (gxd kX7_film 30 rfl) rfl ?_
        refine R_icmp_eq (gxd kX7_film 31 rfl) (tgt := 74) rfl (fun q => ?_) (fun q => ?_)
        · replace H := gift q H
          refine R_aload_n (gxd kX7_film 39 rfl) rfl rfl ?_
          refine R_iload_n (gxd kX7_film 40 rfl) rfl rfl ?_
          refine R_iconst (v := (0 : Int32)) (gxd kX7_film 41 rfl) rfl ?_
          refine R_bipush (v := (8 : Int32)) (gxd kX7_film 42 rfl) rfl ?_
          obtain ⟨p13, e14, H⟩ := gbi H
          refine R_callVi (gxd kX7_film 43 rfl) gm_M_434 wX7_sheet (by decide) gk_65 rfl rfl (Nat.le_of_ble_eq_true rfl) (by omega) (fM_sheet_ok  e14 (d + 44)) ?_
          refine R_pop (gxd kX7_film 44 rfl) rfl ?_
          refine R_iconst (v := (0 : Int32)) (gxd kX7_film 45 rfl) rfl ?_
          refine R_istore (gxd kX7_film 46 rfl) rfl (Nat.le_of_ble_eq_true rfl) rfl ?_
          exact R_weak (gle_same (gle_same (gle_null (gle_null (gle_null (gle_same gle_nil)))))) (fM_film_86_ok  gfu _ _ _  H)
        · replace H := giff q H
          refine R_iload (gxd kX7_film 32 rfl) rfl ?_
          refine R_bipush (v := (-6 : Int32)) (gxd kX7_film 33 rfl) rfl ?_
          refine R_icmp_ne (gxd kX7_film 34 rfl) (tgt := 72) rfl (fun q => ?_) (fun q => ?_)
          · replace H := giff q H
            refine R_iconst (v := (-1 : Int32)) (gxd kX7_film 37 rfl) rfl ?_
            obtain rfl := Option.some.inj H
            exact R_iret (gxd kX7_film 38 rfl) rfl
          · replace H := gift q H
            refine R_bipush (v := (-6 : Int32)) (gxd kX7_film 35 rfl) rfl ?_
            refine R_goto (gxd kX7_film 36 rfl) (tgt := 73) rfl ?_
            obtain rfl := Option.some.inj H
            exact R_iret (gxd kX7_film 38 rfl) rfl
      · replace H := gift q H
        refine R_bipush (v := (-2 : Int32)) (gxd kX7_film 15 rfl) rfl ?_
        obtain rfl := Option.some.inj H
        exact R_iret (gxd kX7_film 16 rfl) rfl
def fM_image_155 : Nat → Int32 → gH → Option (Int32 × gH)
  | 0, _, _ => none
  | n + 1, v1, h =>
    if v1 < (8 : Int32) then
      gg (gin v1 8) <|
      gg (gin v1 8) <|
      glet (hu h 95 v1.toNatClampNeg (h 66 v1.toNatClampNeg)) fun h18 =>
      gg (gin v1 8) <|
      gg (gin v1 8) <|
      glet (hu h18 100 v1.toNatClampNeg (h18 76 v1.toNatClampNeg)) fun h22 =>
      gg (gin v1 8) <|
      gg (gin v1 8) <|
      glet (hu h22 101 v1.toNatClampNeg (h22 77 v1.toNatClampNeg)) fun h26 =>
      gg (gin v1 8) <|
      gg (gin v1 8) <|
      glet (hu h26 102 v1.toNatClampNeg (h26 78 v1.toNatClampNeg)) fun h30 =>
      fM_image_155 n (v1 + (1 : Int32)) h30
    else
      gg (gbo (h 65 2)) <|
      glet (hu h 65 70 (h 65 2)) fun h2 =>
      glet (hu h2 65 71 (h2 65 8)) fun h4 =>
      glet (hu h4 65 72 (h4 65 12)) fun h6 =>
      glet (hu h6 65 73 (h6 65 15)) fun h8 =>
      glet (hu h8 65 74 (h8 65 19)) fun h10 =>
      glet (hu h10 65 75 (h10 65 20)) fun h12 =>
      glet (hu h12 65 76 (1 : Int32)) fun h14 =>
      some ((h14 65 15), h14)
theorem fM_image_155_ok {d : Nat}  : ∀ (n : Nat) (v1 : Int32) (h : gH) (x : (Int32 × gH)), fM_image_155  n v1 h = some x → gR RX7 cX7_image 2 (some .int) (d + 0) 155 [.ref 65, .int v1] [] h (some (.int x.1)) x.2 := by
  intro n
  induction n with
  | zero => intro v1 h x  H; exact g0 H
  | succ n ih =>
    intro v1 h x  H
    unfold fM_image_155 at H
    refine R_iload_n (gxd kX7_image 94 rfl) rfl rfl ?_
    refine R_bipush (v := (8 : Int32)) (gxd kX7_image 95 rfl) rfl ?_
    refine R_icmp_ge (gxd kX7_image 96 rfl) (tgt := 215) rfl (fun q => ?_) (fun q => ?_)
    · replace H := giff q H
      refine R_aload_n (gxd kX7_image 131 rfl) rfl rfl ?_
      refine R_aload_n (gxd kX7_image 132 rfl) rfl rfl ?_
      refine R_geti (gxd kX7_image 133 rfl) gf_M_229 gk_65 (by decide) rfl ?_
      obtain ⟨b1, H⟩ := ggi H
      have b1 := gbo_or b1
      refine R_putz (gxd kX7_image 134 rfl) gf_M_438 gp_7_70 b1 gk_65 (by decide) rfl ?_
      obtain ⟨h2, e3, H⟩ := glei H
      refine R_heq e3 ?_
      refine R_aload_n (gxd kX7_image 135 rfl) rfl rfl ?_
      refine R_aload_n (gxd kX7_image 136 rfl) rfl rfl ?_
      refine R_geti (gxd kX7_image 137 rfl) gf_M_226 gk_65 (by decide) rfl ?_
      refine R_puti (gxd kX7_image 138 rfl) gf_M_441 gp_7_71 gk_65 (by decide) rfl ?_
      obtain ⟨h4, e5, H⟩ := glei H
      refine R_heq e5 ?_
      refine R_aload_n (gxd kX7_image 139 rfl) rfl rfl ?_
      refine R_aload_n (gxd kX7_image 140 rfl) rfl rfl ?_
      refine R_geti (gxd kX7_image 141 rfl) gf_M_312 gk_65 (by decide) rfl ?_
      refine R_puti (gxd kX7_image 142 rfl) gf_M_444 gp_7_72 gk_65 (by decide) rfl ?_
      obtain ⟨h6, e7, H⟩ := glei H
      refine R_heq e7 ?_
      refine R_aload_n (gxd kX7_image 143 rfl) rfl rfl ?_
      refine R_aload_n (gxd kX7_image 144 rfl) rfl rfl ?_
      refine R_geti (gxd kX7_image 145 rfl) gf_M_262 gk_65 (by decide) rfl ?_
      refine R_puti (gxd kX7_image 146 rfl) gf_M_447 gp_7_73 gk_65 (by decide) rfl ?_
      obtain ⟨h8, e9, H⟩ := glei H
      refine R_heq e9 ?_
      refine R_aload_n (gxd kX7_image 147 rfl) rfl rfl ?_
      refine R_aload_n (gxd kX7_image 148 rfl) rfl rfl ?_
      refine R_geti (gxd kX7_image 149 rfl) gf_M_321 gk_65 (by decide) rfl ?_
      refine R_puti (gxd kX7_image 150 rfl) gf_M_450 gp_7_74 gk_65 (by decide) rfl ?_
      obtain ⟨h10, e11, H⟩ := glei H
      refine R_heq e11 ?_
      refine R_aload_n (gxd kX7_image 151 rfl) rfl rfl ?_
      refine R_aload_n (gxd kX7_image 152 rfl) rfl rfl ?_
      refine R_geti (gxd kX7_image 153 rfl) gf_M_299 gk_65 (by decide) rfl ?_
      refine R_puti (gxd kX7_image 154 rfl) gf_M_453 gp_7_75 gk_65 (by decide) rfl ?_
      obtain ⟨h12, e13, H⟩ := glei H
      refine R_heq e13 ?_
      refine R_aload_n (gxd kX7_image 155 rfl) rfl rfl ?_
      refine R_iconst (v := (1 : Int32)) (gxd kX7_image 156 rfl) rfl ?_
      refine R_putz (gxd kX7_image 157 rfl) gf_M_456 gp_7_76 (Or.inr rfl) gk_65 (by decide) rfl ?_
      obtain ⟨h14, e15, H⟩ := glei H
      refine R_heq e15 ?_
      refine R_aload_n (gxd kX7_image 158 rfl) rfl rfl ?_
      refine R_geti (gxd kX7_image 159 rfl) gf_M_262 gk_65 (by decide) rfl ?_
      obtain rfl := Option.some.inj H
      exact R_iret (gxd kX7_image 160 rfl) rfl
    · replace H := gift q H
      refine R_aload_n (gxd kX7_image 97 rfl) rfl rfl ?_
      refine R_getr (gxd kX7_image 98 rfl) gf_M_102 gk_65 (by decide) rfl ?_
      refine R_iload_n (gxd kX7_image 99 rfl) rfl rfl ?_
      refine R_aload_n (gxd kX7_image 100 rfl) rfl rfl ?_
      refine R_getr (gxd kX7_image 101 rfl) gf_M_13 gk_65 (by decide) rfl ?_
      refine R_iload_n (gxd kX7_image 102 rfl) rfl rfl ?_
      obtain ⟨b16, H⟩ := ggi H
      have b16 := gin_in b16
      refine R_iald (gxd kX7_image 103 rfl) gk_66 b16 ?_
      obtain ⟨b17, H⟩ := ggi H
      have b17 := gin_in b17
      refine R_iast (gxd kX7_image 104 rfl) gk_95 b17 ?_
      obtain ⟨h18, e19, H⟩ := glei H
      refine R_heq e19 ?_
      refine R_aload_n (gxd kX7_image 105 rfl) rfl rfl ?_
      refine R_getr (gxd kX7_image 106 rfl) gf_M_117 gk_65 (by decide) rfl ?_
      refine R_iload_n (gxd kX7_image 107 rfl) rfl rfl ?_
      refine R_aload_n (gxd kX7_image 108 rfl) rfl rfl ?_
      refine R_getr (gxd kX7_image 109 rfl) gf_M_45 gk_65 (by decide) rfl ?_
      refine R_iload_n (gxd kX7_image 110 rfl) rfl rfl ?_
      obtain ⟨b20, H⟩ := ggi H
      have b20 := gin_in b20
      refine R_iald (gxd kX7_image 111 rfl) gk_76 b20 ?_
      obtain ⟨b21, H⟩ := ggi H
      have b21 := gin_in b21
      refine R_iast (gxd kX7_image 112 rfl) gk_100 b21 ?_
      obtain ⟨h22, e23, H⟩ := glei H
      refine R_heq e23 ?_
      refine R_aload_n (gxd kX7_image 113 rfl) rfl rfl ?_
      refine R_getr (gxd kX7_image 114 rfl) gf_M_120 gk_65 (by decide) rfl ?_
      refine R_iload_n (gxd kX7_image 115 rfl) rfl rfl ?_
      refine R_aload_n (gxd kX7_image 116 rfl) rfl rfl ?_
      refine R_getr (gxd kX7_image 117 rfl) gf_M_48 gk_65 (by decide) rfl ?_
      refine R_iload_n (gxd kX7_image 118 rfl) rfl rfl ?_
      obtain ⟨b24, H⟩ := ggi H
      have b24 := gin_in b24
      refine R_iald (gxd kX7_image 119 rfl) gk_77 b24 ?_
      obtain ⟨b25, H⟩ := ggi H
      have b25 := gin_in b25
      refine R_iast (gxd kX7_image 120 rfl) gk_101 b25 ?_
      obtain ⟨h26, e27, H⟩ := glei H
      refine R_heq e27 ?_
      refine R_aload_n (gxd kX7_image 121 rfl) rfl rfl ?_
      refine R_getr (gxd kX7_image 122 rfl) gf_M_123 gk_65 (by decide) rfl ?_
      refine R_iload_n (gxd kX7_image 123 rfl) rfl rfl ?_
      refine R_aload_n (gxd kX7_image 124 rfl) rfl rfl ?_
      refine R_getr (gxd kX7_image 125 rfl) gf_M_51 gk_65 (by decide) rfl ?_
      refine R_iload_n (gxd kX7_image 126 rfl) rfl rfl ?_
      obtain ⟨b28, H⟩ := ggi H
      have b28 := gin_in b28
      refine R_iald (gxd kX7_image 127 rfl) gk_78 b28 ?_
      obtain ⟨b29, H⟩ := ggi H
      have b29 := gin_in b29
      refine R_iast (gxd kX7_image 128 rfl) gk_102 b29 ?_
      obtain ⟨h30, e31, H⟩ := glei H
      refine R_heq e31 ?_
      refine R_iinc (v := (v1 + (1 : Int32))) (gxd kX7_image 129 rfl) rfl rfl rfl (Nat.le_of_ble_eq_true rfl) rfl ?_
      refine R_goto (gxd kX7_image 130 rfl) (tgt := 155) rfl ?_
      exact R_weak (gle_same (gle_same gle_nil)) (ih _ _ _  H)
def fM_image_117 : Nat → Int32 → gH → Option (Int32 × gH)
  | 0, _, _ => none
  | n + 1, v1, h =>
    if v1 < (12 : Int32) then
      gg (gin v1 12) <|
      gg (gin v1 12) <|
      glet (hu h 96 v1.toNatClampNeg (h 72 v1.toNatClampNeg)) fun h34 =>
      gg (gin v1 12) <|
      gg (gin v1 12) <|
      glet (hu h34 97 v1.toNatClampNeg (h34 73 v1.toNatClampNeg)) fun h38 =>
      fM_image_117 n (v1 + (1 : Int32)) h38
    else
      fM_image_155 gfu (0 : Int32) h
theorem fM_image_117_ok {d : Nat}  : ∀ (n : Nat) (v1 : Int32) (h : gH) (x : (Int32 × gH)), fM_image_117  n v1 h = some x → gR RX7 cX7_image 2 (some .int) (d + 0) 117 [.ref 65, .int v1] [] h (some (.int x.1)) x.2 := by
  intro n
  induction n with
  | zero => intro v1 h x  H; exact g0 H
  | succ n ih =>
    intro v1 h x  H
    unfold fM_image_117 at H
    refine R_iload_n (gxd kX7_image 71 rfl) rfl rfl ?_
    refine R_bipush (v := (12 : Int32)) (gxd kX7_image 72 rfl) rfl ?_
    refine R_icmp_ge (gxd kX7_image 73 rfl) (tgt := 153) rfl (fun q => ?_) (fun q => ?_)
    · replace H := giff q H
      refine R_iconst (v := (0 : Int32)) (gxd kX7_image 92 rfl) rfl ?_
      refine R_istore_n (gxd kX7_image 93 rfl) rfl rfl (Nat.le_of_ble_eq_true rfl) rfl ?_
      exact R_weak (gle_same (gle_same gle_nil)) (fM_image_155_ok  gfu _ _ _  H)
    · replace H := gift q H
      refine R_aload_n (gxd kX7_image 74 rfl) rfl rfl ?_
      refine R_getr (gxd kX7_image 75 rfl) gf_M_105 gk_65 (by decide) rfl ?_
      refine R_iload_n (gxd kX7_image 76 rfl) rfl rfl ?_
      refine R_aload_n (gxd kX7_image 77 rfl) rfl rfl ?_
      refine R_getr (gxd kX7_image 78 rfl) gf_M_33 gk_65 (by decide) rfl ?_
      refine R_iload_n (gxd kX7_image 79 rfl) rfl rfl ?_
      obtain ⟨b32, H⟩ := ggi H
      have b32 := gin_in b32
      refine R_iald (gxd kX7_image 80 rfl) gk_72 b32 ?_
      obtain ⟨b33, H⟩ := ggi H
      have b33 := gin_in b33
      refine R_iast (gxd kX7_image 81 rfl) gk_96 b33 ?_
      obtain ⟨h34, e35, H⟩ := glei H
      refine R_heq e35 ?_
      refine R_aload_n (gxd kX7_image 82 rfl) rfl rfl ?_
      refine R_getr (gxd kX7_image 83 rfl) gf_M_108 gk_65 (by decide) rfl ?_
      refine R_iload_n (gxd kX7_image 84 rfl) rfl rfl ?_
      refine R_aload_n (gxd kX7_image 85 rfl) rfl rfl ?_
      refine R_getr (gxd kX7_image 86 rfl) gf_M_36 gk_65 (by decide) rfl ?_
      refine R_iload_n (gxd kX7_image 87 rfl) rfl rfl ?_
      obtain ⟨b36, H⟩ := ggi H
      have b36 := gin_in b36
      refine R_iald (gxd kX7_image 88 rfl) gk_73 b36 ?_
      obtain ⟨b37, H⟩ := ggi H
      have b37 := gin_in b37
      refine R_iast (gxd kX7_image 89 rfl) gk_97 b37 ?_
      obtain ⟨h38, e39, H⟩ := glei H
      refine R_heq e39 ?_
      refine R_iinc (v := (v1 + (1 : Int32))) (gxd kX7_image 90 rfl) rfl rfl rfl (Nat.le_of_ble_eq_true rfl) rfl ?_
      refine R_goto (gxd kX7_image 91 rfl) (tgt := 117) rfl ?_
      exact R_weak (gle_same (gle_same gle_nil)) (ih _ _ _  H)
def fM_image_79 : Nat → Int32 → gH → Option (Int32 × gH)
  | 0, _, _ => none
  | n + 1, v1, h =>
    if v1 < (80 : Int32) then
      gg (gin v1 80) <|
      gg (gin v1 80) <|
      glet (hu h 98 v1.toNatClampNeg (h 74 v1.toNatClampNeg)) fun h42 =>
      gg (gin v1 80) <|
      gg (gin v1 80) <|
      glet (hu h42 99 v1.toNatClampNeg (h42 75 v1.toNatClampNeg)) fun h46 =>
      fM_image_79 n (v1 + (1 : Int32)) h46
    else
      fM_image_117 gfu (0 : Int32) h
theorem fM_image_79_ok {d : Nat}  : ∀ (n : Nat) (v1 : Int32) (h : gH) (x : (Int32 × gH)), fM_image_79  n v1 h = some x → gR RX7 cX7_image 2 (some .int) (d + 0) 79 [.ref 65, .int v1] [] h (some (.int x.1)) x.2 := by
  intro n
  induction n with
  | zero => intro v1 h x  H; exact g0 H
  | succ n ih =>
    intro v1 h x  H
    unfold fM_image_79 at H
    refine R_iload_n (gxd kX7_image 48 rfl) rfl rfl ?_
    refine R_bipush (v := (80 : Int32)) (gxd kX7_image 49 rfl) rfl ?_
    refine R_icmp_ge (gxd kX7_image 50 rfl) (tgt := 115) rfl (fun q => ?_) (fun q => ?_)
    · replace H := giff q H
      refine R_iconst (v := (0 : Int32)) (gxd kX7_image 69 rfl) rfl ?_
      refine R_istore_n (gxd kX7_image 70 rfl) rfl rfl (Nat.le_of_ble_eq_true rfl) rfl ?_
      exact R_weak (gle_same (gle_same gle_nil)) (fM_image_117_ok  gfu _ _ _  H)
    · replace H := gift q H
      refine R_aload_n (gxd kX7_image 51 rfl) rfl rfl ?_
      refine R_getr (gxd kX7_image 52 rfl) gf_M_111 gk_65 (by decide) rfl ?_
      refine R_iload_n (gxd kX7_image 53 rfl) rfl rfl ?_
      refine R_aload_n (gxd kX7_image 54 rfl) rfl rfl ?_
      refine R_getr (gxd kX7_image 55 rfl) gf_M_39 gk_65 (by decide) rfl ?_
      refine R_iload_n (gxd kX7_image 56 rfl) rfl rfl ?_
      obtain ⟨b40, H⟩ := ggi H
      have b40 := gin_in b40
      refine R_iald (gxd kX7_image 57 rfl) gk_74 b40 ?_
      obtain ⟨b41, H⟩ := ggi H
      have b41 := gin_in b41
      refine R_iast (gxd kX7_image 58 rfl) gk_98 b41 ?_
      obtain ⟨h42, e43, H⟩ := glei H
      refine R_heq e43 ?_
      refine R_aload_n (gxd kX7_image 59 rfl) rfl rfl ?_
      refine R_getr (gxd kX7_image 60 rfl) gf_M_114 gk_65 (by decide) rfl ?_
      refine R_iload_n (gxd kX7_image 61 rfl) rfl rfl ?_
      refine R_aload_n (gxd kX7_image 62 rfl) rfl rfl ?_
      refine R_getr (gxd kX7_image 63 rfl) gf_M_42 gk_65 (by decide) rfl ?_
      refine R_iload_n (gxd kX7_image 64 rfl) rfl rfl ?_
      obtain ⟨b44, H⟩ := ggi H
      have b44 := gin_in b44
      refine R_iald (gxd kX7_image 65 rfl) gk_75 b44 ?_
      obtain ⟨b45, H⟩ := ggi H
      have b45 := gin_in b45
      refine R_iast (gxd kX7_image 66 rfl) gk_99 b45 ?_
      obtain ⟨h46, e47, H⟩ := glei H
      refine R_heq e47 ?_
      refine R_iinc (v := (v1 + (1 : Int32))) (gxd kX7_image 67 rfl) rfl rfl rfl (Nat.le_of_ble_eq_true rfl) rfl ?_
      refine R_goto (gxd kX7_image 68 rfl) (tgt := 79) rfl ?_
      exact R_weak (gle_same (gle_same gle_nil)) (ih _ _ _  H)
def fM_image_29 : Nat → Int32 → gH → Option (Int32 × gH)
  | 0, _, _ => none
  | n + 1, v1, h =>
    if v1 < (16 : Int32) then
      gg (gin v1 24) <|
      gg (gin v1 16) <|
      glet (hu h 91 v1.toNatClampNeg (h 67 v1.toNatClampNeg)) fun h50 =>
      gg (gin v1 24) <|
      gg (gin v1 16) <|
      glet (hu h50 92 v1.toNatClampNeg (h50 68 v1.toNatClampNeg)) fun h54 =>
      gg (gin v1 24) <|
      gg (gin v1 16) <|
      gg (gbo (h54 71 v1.toNatClampNeg)) <|
      glet (hu h54 94 v1.toNatClampNeg (h54 71 v1.toNatClampNeg)) fun h59 =>
      fM_image_29 n (v1 + (1 : Int32)) h59
    else
      fM_image_79 gfu (0 : Int32) h
theorem fM_image_29_ok {d : Nat}  : ∀ (n : Nat) (v1 : Int32) (h : gH) (x : (Int32 × gH)), fM_image_29  n v1 h = some x → gR RX7 cX7_image 2 (some .int) (d + 0) 29 [.ref 65, .int v1] [] h (some (.int x.1)) x.2 := by
  intro n
  induction n with
  | zero => intro v1 h x  H; exact g0 H
  | succ n ih =>
    intro v1 h x  H
    unfold fM_image_29 at H
    refine R_iload_n (gxd kX7_image 17 rfl) rfl rfl ?_
    refine R_bipush (v := (16 : Int32)) (gxd kX7_image 18 rfl) rfl ?_
    refine R_icmp_ge (gxd kX7_image 19 rfl) (tgt := 77) rfl (fun q => ?_) (fun q => ?_)
    · replace H := giff q H
      refine R_iconst (v := (0 : Int32)) (gxd kX7_image 46 rfl) rfl ?_
      refine R_istore_n (gxd kX7_image 47 rfl) rfl rfl (Nat.le_of_ble_eq_true rfl) rfl ?_
      exact R_weak (gle_same (gle_same gle_nil)) (fM_image_79_ok  gfu _ _ _  H)
    · replace H := gift q H
      refine R_aload_n (gxd kX7_image 20 rfl) rfl rfl ?_
      refine R_getr (gxd kX7_image 21 rfl) gf_M_90 gk_65 (by decide) rfl ?_
      refine R_iload_n (gxd kX7_image 22 rfl) rfl rfl ?_
      refine R_aload_n (gxd kX7_image 23 rfl) rfl rfl ?_
      refine R_getr (gxd kX7_image 24 rfl) gf_M_17 gk_65 (by decide) rfl ?_
      refine R_iload_n (gxd kX7_image 25 rfl) rfl rfl ?_
      obtain ⟨b48, H⟩ := ggi H
      have b48 := gin_in b48
      refine R_iald (gxd kX7_image 26 rfl) gk_67 b48 ?_
      obtain ⟨b49, H⟩ := ggi H
      have b49 := gin_in b49
      refine R_iast (gxd kX7_image 27 rfl) gk_91 b49 ?_
      obtain ⟨h50, e51, H⟩ := glei H
      refine R_heq e51 ?_
      refine R_aload_n (gxd kX7_image 28 rfl) rfl rfl ?_
      refine R_getr (gxd kX7_image 29 rfl) gf_M_93 gk_65 (by decide) rfl ?_
      refine R_iload_n (gxd kX7_image 30 rfl) rfl rfl ?_
      refine R_aload_n (gxd kX7_image 31 rfl) rfl rfl ?_
      refine R_getr (gxd kX7_image 32 rfl) gf_M_20 gk_65 (by decide) rfl ?_
      refine R_iload_n (gxd kX7_image 33 rfl) rfl rfl ?_
      obtain ⟨b52, H⟩ := ggi H
      have b52 := gin_in b52
      refine R_iald (gxd kX7_image 34 rfl) gk_68 b52 ?_
      obtain ⟨b53, H⟩ := ggi H
      have b53 := gin_in b53
      refine R_iast (gxd kX7_image 35 rfl) gk_92 b53 ?_
      obtain ⟨h54, e55, H⟩ := glei H
      refine R_heq e55 ?_
      refine R_aload_n (gxd kX7_image 36 rfl) rfl rfl ?_
      refine R_getr (gxd kX7_image 37 rfl) gf_M_99 gk_65 (by decide) rfl ?_
      refine R_iload_n (gxd kX7_image 38 rfl) rfl rfl ?_
      refine R_aload_n (gxd kX7_image 39 rfl) rfl rfl ?_
      refine R_getr (gxd kX7_image 40 rfl) gf_M_30 gk_65 (by decide) rfl ?_
      refine R_iload_n (gxd kX7_image 41 rfl) rfl rfl ?_
      obtain ⟨b56, H⟩ := ggi H
      have b56 := gin_in b56
      refine R_zald (gxd kX7_image 42 rfl) gk_71 b56 ?_
      obtain ⟨b57, H⟩ := ggi H
      have b57 := gin_in b57
      obtain ⟨b58, H⟩ := ggi H
      have b58 := gbo_or b58
      refine R_zast (gxd kX7_image 43 rfl) gk_94 b57 b58 ?_
      obtain ⟨h59, e60, H⟩ := glei H
      refine R_heq e60 ?_
      refine R_iinc (v := (v1 + (1 : Int32))) (gxd kX7_image 44 rfl) rfl rfl rfl (Nat.le_of_ble_eq_true rfl) rfl ?_
      refine R_goto (gxd kX7_image 45 rfl) (tgt := 29) rfl ?_
      exact R_weak (gle_same (gle_same gle_nil)) (ih _ _ _  H)
def fM_image_2 : Nat → Int32 → gH → Option (Int32 × gH)
  | 0, _, _ => none
  | n + 1, v1, h =>
    if v1 < (16000 : Int32) then
      gg (gin v1 16000) <|
      gg (gin v1 16000) <|
      gg (gbo (h 69 v1.toNatClampNeg)) <|
      glet (hu h 93 v1.toNatClampNeg (h 69 v1.toNatClampNeg)) fun h64 =>
      fM_image_2 n (v1 + (1 : Int32)) h64
    else
      fM_image_29 gfu (0 : Int32) h
theorem fM_image_2_ok {d : Nat}  : ∀ (n : Nat) (v1 : Int32) (h : gH) (x : (Int32 × gH)), fM_image_2  n v1 h = some x → gR RX7 cX7_image 2 (some .int) (d + 0) 2 [.ref 65, .int v1] [] h (some (.int x.1)) x.2 := by
  intro n
  induction n with
  | zero => intro v1 h x  H; exact g0 H
  | succ n ih =>
    intro v1 h x  H
    unfold fM_image_2 at H
    refine R_iload_n (gxd kX7_image 2 rfl) rfl rfl ?_
    refine R_sipush (v := (16000 : Int32)) (gxd kX7_image 3 rfl) rfl ?_
    refine R_icmp_ge (gxd kX7_image 4 rfl) (tgt := 27) rfl (fun q => ?_) (fun q => ?_)
    · replace H := giff q H
      refine R_iconst (v := (0 : Int32)) (gxd kX7_image 15 rfl) rfl ?_
      refine R_istore_n (gxd kX7_image 16 rfl) rfl rfl (Nat.le_of_ble_eq_true rfl) rfl ?_
      exact R_weak (gle_same (gle_same gle_nil)) (fM_image_29_ok  gfu _ _ _  H)
    · replace H := gift q H
      refine R_aload_n (gxd kX7_image 5 rfl) rfl rfl ?_
      refine R_getr (gxd kX7_image 6 rfl) gf_M_96 gk_65 (by decide) rfl ?_
      refine R_iload_n (gxd kX7_image 7 rfl) rfl rfl ?_
      refine R_aload_n (gxd kX7_image 8 rfl) rfl rfl ?_
      refine R_getr (gxd kX7_image 9 rfl) gf_M_23 gk_65 (by decide) rfl ?_
      refine R_iload_n (gxd kX7_image 10 rfl) rfl rfl ?_
      obtain ⟨b61, H⟩ := ggi H
      have b61 := gin_in b61
      refine R_zald (gxd kX7_image 11 rfl) gk_69 b61 ?_
      obtain ⟨b62, H⟩ := ggi H
      have b62 := gin_in b62
      obtain ⟨b63, H⟩ := ggi H
      have b63 := gbo_or b63
      refine R_zast (gxd kX7_image 12 rfl) gk_93 b62 b63 ?_
      obtain ⟨h64, e65, H⟩ := glei H
      refine R_heq e65 ?_
      refine R_iinc (v := (v1 + (1 : Int32))) (gxd kX7_image 13 rfl) rfl rfl rfl (Nat.le_of_ble_eq_true rfl) rfl ?_
      refine R_goto (gxd kX7_image 14 rfl) (tgt := 2) rfl ?_
      exact R_weak (gle_same (gle_same gle_nil)) (ih _ _ _  H)
def fM_image (h : gH) : Option (Int32 × gH) :=
  fM_image_2 gfu (0 : Int32) h
theorem fM_image_ok {h : gH} {x : (Int32 × gH)} (H : fM_image  h = some x) (d : Nat) : gC yX7_image cX7_image 2 (some .int) (d + 0) [.ref 65] h (some (.int x.1)) x.2 := by
  refine gC_of (by decide +kernel) (Nat.le_of_ble_eq_true rfl) rfl ?_
  unfold fM_image at H
  refine R_iconst (v := (0 : Int32)) (gxd kX7_image 0 rfl) rfl ?_
  refine R_istore_n (gxd kX7_image 1 rfl) rfl rfl (Nat.le_of_ble_eq_true rfl) rfl ?_
  exact R_weak (gle_same (gle_same gle_nil)) (fM_image_2_ok  gfu _ _ _  H)
def fM_back_165 : Nat → Int32 → gH → Option (Int32 × gH)
  | 0, _, _ => none
  | n + 1, v1, h =>
    if v1 < (8 : Int32) then
      gg (gin v1 8) <|
      gg (gin v1 8) <|
      glet (hu h 66 v1.toNatClampNeg (h 95 v1.toNatClampNeg)) fun h16 =>
      gg (gin v1 8) <|
      gg (gin v1 8) <|
      glet (hu h16 76 v1.toNatClampNeg (h16 100 v1.toNatClampNeg)) fun h20 =>
      gg (gin v1 8) <|
      gg (gin v1 8) <|
      glet (hu h20 77 v1.toNatClampNeg (h20 101 v1.toNatClampNeg)) fun h24 =>
      gg (gin v1 8) <|
      gg (gin v1 8) <|
      glet (hu h24 78 v1.toNatClampNeg (h24 102 v1.toNatClampNeg)) fun h28 =>
      fM_back_165 n (v1 + (1 : Int32)) h28
    else
      gg (gbo (h 65 70)) <|
      glet (hu h 65 2 (h 65 70)) fun h2 =>
      glet (hu h2 65 8 (h2 65 71)) fun h4 =>
      glet (hu h4 65 12 (h4 65 72)) fun h6 =>
      glet (hu h6 65 15 (h6 65 73)) fun h8 =>
      glet (hu h8 65 19 (h8 65 74)) fun h10 =>
      glet (hu h10 65 20 (h10 65 75)) fun h12 =>
      some ((h12 65 15), h12)
theorem fM_back_165_ok {d : Nat}  : ∀ (n : Nat) (v1 : Int32) (h : gH) (x : (Int32 × gH)), fM_back_165  n v1 h = some x → gR RX7 cX7_back 2 (some .int) (d + 0) 165 [.ref 65, .int v1] [] h (some (.int x.1)) x.2 := by
  intro n
  induction n with
  | zero => intro v1 h x  H; exact g0 H
  | succ n ih =>
    intro v1 h x  H
    unfold fM_back_165 at H
    refine R_iload_n (gxd kX7_back 99 rfl) rfl rfl ?_
    refine R_bipush (v := (8 : Int32)) (gxd kX7_back 100 rfl) rfl ?_
    refine R_icmp_ge (gxd kX7_back 101 rfl) (tgt := 225) rfl (fun q => ?_) (fun q => ?_)
    · replace H := giff q H
      refine R_aload_n (gxd kX7_back 136 rfl) rfl rfl ?_
      refine R_aload_n (gxd kX7_back 137 rfl) rfl rfl ?_
      refine R_geti (gxd kX7_back 138 rfl) gf_M_438 gk_65 (by decide) rfl ?_
      obtain ⟨b1, H⟩ := ggi H
      have b1 := gbo_or b1
      refine R_putz (gxd kX7_back 139 rfl) gf_M_229 gp_7_2 b1 gk_65 (by decide) rfl ?_
      obtain ⟨h2, e3, H⟩ := glei H
      refine R_heq e3 ?_
      refine R_aload_n (gxd kX7_back 140 rfl) rfl rfl ?_
      refine R_aload_n (gxd kX7_back 141 rfl) rfl rfl ?_
      refine R_geti (gxd kX7_back 142 rfl) gf_M_441 gk_65 (by decide) rfl ?_
      refine R_puti (gxd kX7_back 143 rfl) gf_M_226 gp_7_8 gk_65 (by decide) rfl ?_
      obtain ⟨h4, e5, H⟩ := glei H
      refine R_heq e5 ?_
      refine R_aload_n (gxd kX7_back 144 rfl) rfl rfl ?_
      refine R_aload_n (gxd kX7_back 145 rfl) rfl rfl ?_
      refine R_geti (gxd kX7_back 146 rfl) gf_M_444 gk_65 (by decide) rfl ?_
      refine R_puti (gxd kX7_back 147 rfl) gf_M_312 gp_7_12 gk_65 (by decide) rfl ?_
      obtain ⟨h6, e7, H⟩ := glei H
      refine R_heq e7 ?_
      refine R_aload_n (gxd kX7_back 148 rfl) rfl rfl ?_
      refine R_aload_n (gxd kX7_back 149 rfl) rfl rfl ?_
      refine R_geti (gxd kX7_back 150 rfl) gf_M_447 gk_65 (by decide) rfl ?_
      refine R_puti (gxd kX7_back 151 rfl) gf_M_262 gp_7_15 gk_65 (by decide) rfl ?_
      obtain ⟨h8, e9, H⟩ := glei H
      refine R_heq e9 ?_
      refine R_aload_n (gxd kX7_back 152 rfl) rfl rfl ?_
      refine R_aload_n (gxd kX7_back 153 rfl) rfl rfl ?_
      refine R_geti (gxd kX7_back 154 rfl) gf_M_450 gk_65 (by decide) rfl ?_
      refine R_puti (gxd kX7_back 155 rfl) gf_M_321 gp_7_19 gk_65 (by decide) rfl ?_
      obtain ⟨h10, e11, H⟩ := glei H
      refine R_heq e11 ?_
      refine R_aload_n (gxd kX7_back 156 rfl) rfl rfl ?_
      refine R_aload_n (gxd kX7_back 157 rfl) rfl rfl ?_
      refine R_geti (gxd kX7_back 158 rfl) gf_M_453 gk_65 (by decide) rfl ?_
      refine R_puti (gxd kX7_back 159 rfl) gf_M_299 gp_7_20 gk_65 (by decide) rfl ?_
      obtain ⟨h12, e13, H⟩ := glei H
      refine R_heq e13 ?_
      refine R_aload_n (gxd kX7_back 160 rfl) rfl rfl ?_
      refine R_geti (gxd kX7_back 161 rfl) gf_M_262 gk_65 (by decide) rfl ?_
      obtain rfl := Option.some.inj H
      exact R_iret (gxd kX7_back 162 rfl) rfl
    · replace H := gift q H
      refine R_aload_n (gxd kX7_back 102 rfl) rfl rfl ?_
      refine R_getr (gxd kX7_back 103 rfl) gf_M_13 gk_65 (by decide) rfl ?_
      refine R_iload_n (gxd kX7_back 104 rfl) rfl rfl ?_
      refine R_aload_n (gxd kX7_back 105 rfl) rfl rfl ?_
      refine R_getr (gxd kX7_back 106 rfl) gf_M_102 gk_65 (by decide) rfl ?_
      refine R_iload_n (gxd kX7_back 107 rfl) rfl rfl ?_
      obtain ⟨b14, H⟩ := ggi H
      have b14 := gin_in b14
      refine R_iald (gxd kX7_back 108 rfl) gk_95 b14 ?_
      obtain ⟨b15, H⟩ := ggi H
      have b15 := gin_in b15
      refine R_iast (gxd kX7_back 109 rfl) gk_66 b15 ?_
      obtain ⟨h16, e17, H⟩ := glei H
      refine R_heq e17 ?_
      refine R_aload_n (gxd kX7_back 110 rfl) rfl rfl ?_
      refine R_getr (gxd kX7_back 111 rfl) gf_M_45 gk_65 (by decide) rfl ?_
      refine R_iload_n (gxd kX7_back 112 rfl) rfl rfl ?_
      refine R_aload_n (gxd kX7_back 113 rfl) rfl rfl ?_
      refine R_getr (gxd kX7_back 114 rfl) gf_M_117 gk_65 (by decide) rfl ?_
      refine R_iload_n (gxd kX7_back 115 rfl) rfl rfl ?_
      obtain ⟨b18, H⟩ := ggi H
      have b18 := gin_in b18
      refine R_iald (gxd kX7_back 116 rfl) gk_100 b18 ?_
      obtain ⟨b19, H⟩ := ggi H
      have b19 := gin_in b19
      refine R_iast (gxd kX7_back 117 rfl) gk_76 b19 ?_
      obtain ⟨h20, e21, H⟩ := glei H
      refine R_heq e21 ?_
      refine R_aload_n (gxd kX7_back 118 rfl) rfl rfl ?_
      refine R_getr (gxd kX7_back 119 rfl) gf_M_48 gk_65 (by decide) rfl ?_
      refine R_iload_n (gxd kX7_back 120 rfl) rfl rfl ?_
      refine R_aload_n (gxd kX7_back 121 rfl) rfl rfl ?_
      refine R_getr (gxd kX7_back 122 rfl) gf_M_120 gk_65 (by decide) rfl ?_
      refine R_iload_n (gxd kX7_back 123 rfl) rfl rfl ?_
      obtain ⟨b22, H⟩ := ggi H
      have b22 := gin_in b22
      refine R_iald (gxd kX7_back 124 rfl) gk_101 b22 ?_
      obtain ⟨b23, H⟩ := ggi H
      have b23 := gin_in b23
      refine R_iast (gxd kX7_back 125 rfl) gk_77 b23 ?_
      obtain ⟨h24, e25, H⟩ := glei H
      refine R_heq e25 ?_
      refine R_aload_n (gxd kX7_back 126 rfl) rfl rfl ?_
      refine R_getr (gxd kX7_back 127 rfl) gf_M_51 gk_65 (by decide) rfl ?_
      refine R_iload_n (gxd kX7_back 128 rfl) rfl rfl ?_
      refine R_aload_n (gxd kX7_back 129 rfl) rfl rfl ?_
      refine R_getr (gxd kX7_back 130 rfl) gf_M_123 gk_65 (by decide) rfl ?_
      refine R_iload_n (gxd kX7_back 131 rfl) rfl rfl ?_
      obtain ⟨b26, H⟩ := ggi H
      have b26 := gin_in b26
      refine R_iald (gxd kX7_back 132 rfl) gk_102 b26 ?_
      obtain ⟨b27, H⟩ := ggi H
      have b27 := gin_in b27
      refine R_iast (gxd kX7_back 133 rfl) gk_78 b27 ?_
      obtain ⟨h28, e29, H⟩ := glei H
      refine R_heq e29 ?_
      refine R_iinc (v := (v1 + (1 : Int32))) (gxd kX7_back 134 rfl) rfl rfl rfl (Nat.le_of_ble_eq_true rfl) rfl ?_
      refine R_goto (gxd kX7_back 135 rfl) (tgt := 165) rfl ?_
      exact R_weak (gle_same (gle_same gle_nil)) (ih _ _ _  H)
def fM_back_127 : Nat → Int32 → gH → Option (Int32 × gH)
  | 0, _, _ => none
  | n + 1, v1, h =>
    if v1 < (12 : Int32) then
      gg (gin v1 12) <|
      gg (gin v1 12) <|
      glet (hu h 72 v1.toNatClampNeg (h 96 v1.toNatClampNeg)) fun h32 =>
      gg (gin v1 12) <|
      gg (gin v1 12) <|
      glet (hu h32 73 v1.toNatClampNeg (h32 97 v1.toNatClampNeg)) fun h36 =>
      fM_back_127 n (v1 + (1 : Int32)) h36
    else
      fM_back_165 gfu (0 : Int32) h
theorem fM_back_127_ok {d : Nat}  : ∀ (n : Nat) (v1 : Int32) (h : gH) (x : (Int32 × gH)), fM_back_127  n v1 h = some x → gR RX7 cX7_back 2 (some .int) (d + 0) 127 [.ref 65, .int v1] [] h (some (.int x.1)) x.2 := by
  intro n
  induction n with
  | zero => intro v1 h x  H; exact g0 H
  | succ n ih =>
    intro v1 h x  H
    unfold fM_back_127 at H
    refine R_iload_n (gxd kX7_back 76 rfl) rfl rfl ?_
    refine R_bipush (v := (12 : Int32)) (gxd kX7_back 77 rfl) rfl ?_
    refine R_icmp_ge (gxd kX7_back 78 rfl) (tgt := 163) rfl (fun q => ?_) (fun q => ?_)
    · replace H := giff q H
      refine R_iconst (v := (0 : Int32)) (gxd kX7_back 97 rfl) rfl ?_
      refine R_istore_n (gxd kX7_back 98 rfl) rfl rfl (Nat.le_of_ble_eq_true rfl) rfl ?_
      exact R_weak (gle_same (gle_same gle_nil)) (fM_back_165_ok  gfu _ _ _  H)
    · replace H := gift q H
      refine R_aload_n (gxd kX7_back 79 rfl) rfl rfl ?_
      refine R_getr (gxd kX7_back 80 rfl) gf_M_33 gk_65 (by decide) rfl ?_
      refine R_iload_n (gxd kX7_back 81 rfl) rfl rfl ?_
      refine R_aload_n (gxd kX7_back 82 rfl) rfl rfl ?_
      refine R_getr (gxd kX7_back 83 rfl) gf_M_105 gk_65 (by decide) rfl ?_
      refine R_iload_n (gxd kX7_back 84 rfl) rfl rfl ?_
      obtain ⟨b30, H⟩ := ggi H
      have b30 := gin_in b30
      refine R_iald (gxd kX7_back 85 rfl) gk_96 b30 ?_
      obtain ⟨b31, H⟩ := ggi H
      have b31 := gin_in b31
      refine R_iast (gxd kX7_back 86 rfl) gk_72 b31 ?_
      obtain ⟨h32, e33, H⟩ := glei H
      refine R_heq e33 ?_
      refine R_aload_n (gxd kX7_back 87 rfl) rfl rfl ?_
      refine R_getr (gxd kX7_back 88 rfl) gf_M_36 gk_65 (by decide) rfl ?_
      refine R_iload_n (gxd kX7_back 89 rfl) rfl rfl ?_
      refine R_aload_n (gxd kX7_back 90 rfl) rfl rfl ?_
      refine R_getr (gxd kX7_back 91 rfl) gf_M_108 gk_65 (by decide) rfl ?_
      refine R_iload_n (gxd kX7_back 92 rfl) rfl rfl ?_
      obtain ⟨b34, H⟩ := ggi H
      have b34 := gin_in b34
      refine R_iald (gxd kX7_back 93 rfl) gk_97 b34 ?_
      obtain ⟨b35, H⟩ := ggi H
      have b35 := gin_in b35
      refine R_iast (gxd kX7_back 94 rfl) gk_73 b35 ?_
      obtain ⟨h36, e37, H⟩ := glei H
      refine R_heq e37 ?_
      refine R_iinc (v := (v1 + (1 : Int32))) (gxd kX7_back 95 rfl) rfl rfl rfl (Nat.le_of_ble_eq_true rfl) rfl ?_
      refine R_goto (gxd kX7_back 96 rfl) (tgt := 127) rfl ?_
      exact R_weak (gle_same (gle_same gle_nil)) (ih _ _ _  H)
def fM_back_89 : Nat → Int32 → gH → Option (Int32 × gH)
  | 0, _, _ => none
  | n + 1, v1, h =>
    if v1 < (80 : Int32) then
      gg (gin v1 80) <|
      gg (gin v1 80) <|
      glet (hu h 74 v1.toNatClampNeg (h 98 v1.toNatClampNeg)) fun h40 =>
      gg (gin v1 80) <|
      gg (gin v1 80) <|
      glet (hu h40 75 v1.toNatClampNeg (h40 99 v1.toNatClampNeg)) fun h44 =>
      fM_back_89 n (v1 + (1 : Int32)) h44
    else
      fM_back_127 gfu (0 : Int32) h
theorem fM_back_89_ok {d : Nat}  : ∀ (n : Nat) (v1 : Int32) (h : gH) (x : (Int32 × gH)), fM_back_89  n v1 h = some x → gR RX7 cX7_back 2 (some .int) (d + 0) 89 [.ref 65, .int v1] [] h (some (.int x.1)) x.2 := by
  intro n
  induction n with
  | zero => intro v1 h x  H; exact g0 H
  | succ n ih =>
    intro v1 h x  H
    unfold fM_back_89 at H
    refine R_iload_n (gxd kX7_back 53 rfl) rfl rfl ?_
    refine R_bipush (v := (80 : Int32)) (gxd kX7_back 54 rfl) rfl ?_
    refine R_icmp_ge (gxd kX7_back 55 rfl) (tgt := 125) rfl (fun q => ?_) (fun q => ?_)
    · replace H := giff q H
      refine R_iconst (v := (0 : Int32)) (gxd kX7_back 74 rfl) rfl ?_
      refine R_istore_n (gxd kX7_back 75 rfl) rfl rfl (Nat.le_of_ble_eq_true rfl) rfl ?_
      exact R_weak (gle_same (gle_same gle_nil)) (fM_back_127_ok  gfu _ _ _  H)
    · replace H := gift q H
      refine R_aload_n (gxd kX7_back 56 rfl) rfl rfl ?_
      refine R_getr (gxd kX7_back 57 rfl) gf_M_39 gk_65 (by decide) rfl ?_
      refine R_iload_n (gxd kX7_back 58 rfl) rfl rfl ?_
      refine R_aload_n (gxd kX7_back 59 rfl) rfl rfl ?_
      refine R_getr (gxd kX7_back 60 rfl) gf_M_111 gk_65 (by decide) rfl ?_
      refine R_iload_n (gxd kX7_back 61 rfl) rfl rfl ?_
      obtain ⟨b38, H⟩ := ggi H
      have b38 := gin_in b38
      refine R_iald (gxd kX7_back 62 rfl) gk_98 b38 ?_
      obtain ⟨b39, H⟩ := ggi H
      have b39 := gin_in b39
      refine R_iast (gxd kX7_back 63 rfl) gk_74 b39 ?_
      obtain ⟨h40, e41, H⟩ := glei H
      refine R_heq e41 ?_
      refine R_aload_n (gxd kX7_back 64 rfl) rfl rfl ?_
      refine R_getr (gxd kX7_back 65 rfl) gf_M_42 gk_65 (by decide) rfl ?_
      refine R_iload_n (gxd kX7_back 66 rfl) rfl rfl ?_
      refine R_aload_n (gxd kX7_back 67 rfl) rfl rfl ?_
      refine R_getr (gxd kX7_back 68 rfl) gf_M_114 gk_65 (by decide) rfl ?_
      refine R_iload_n (gxd kX7_back 69 rfl) rfl rfl ?_
      obtain ⟨b42, H⟩ := ggi H
      have b42 := gin_in b42
      refine R_iald (gxd kX7_back 70 rfl) gk_99 b42 ?_
      obtain ⟨b43, H⟩ := ggi H
      have b43 := gin_in b43
      refine R_iast (gxd kX7_back 71 rfl) gk_75 b43 ?_
      obtain ⟨h44, e45, H⟩ := glei H
      refine R_heq e45 ?_
      refine R_iinc (v := (v1 + (1 : Int32))) (gxd kX7_back 72 rfl) rfl rfl rfl (Nat.le_of_ble_eq_true rfl) rfl ?_
      refine R_goto (gxd kX7_back 73 rfl) (tgt := 89) rfl ?_
      exact R_weak (gle_same (gle_same gle_nil)) (ih _ _ _  H)
def fM_back_39 : Nat → Int32 → gH → Option (Int32 × gH)
  | 0, _, _ => none
  | n + 1, v1, h =>
    if v1 < (16 : Int32) then
      gg (gin v1 16) <|
      gg (gin v1 24) <|
      glet (hu h 67 v1.toNatClampNeg (h 91 v1.toNatClampNeg)) fun h48 =>
      gg (gin v1 16) <|
      gg (gin v1 24) <|
      glet (hu h48 68 v1.toNatClampNeg (h48 92 v1.toNatClampNeg)) fun h52 =>
      gg (gin v1 16) <|
      gg (gin v1 24) <|
      gg (gbo (h52 94 v1.toNatClampNeg)) <|
      glet (hu h52 71 v1.toNatClampNeg (h52 94 v1.toNatClampNeg)) fun h57 =>
      fM_back_39 n (v1 + (1 : Int32)) h57
    else
      fM_back_89 gfu (0 : Int32) h
theorem fM_back_39_ok {d : Nat}  : ∀ (n : Nat) (v1 : Int32) (h : gH) (x : (Int32 × gH)), fM_back_39  n v1 h = some x → gR RX7 cX7_back 2 (some .int) (d + 0) 39 [.ref 65, .int v1] [] h (some (.int x.1)) x.2 := by
  intro n
  induction n with
  | zero => intro v1 h x  H; exact g0 H
  | succ n ih =>
    intro v1 h x  H
    unfold fM_back_39 at H
    refine R_iload_n (gxd kX7_back 22 rfl) rfl rfl ?_
    refine R_bipush (v := (16 : Int32)) (gxd kX7_back 23 rfl) rfl ?_
    refine R_icmp_ge (gxd kX7_back 24 rfl) (tgt := 87) rfl (fun q => ?_) (fun q => ?_)
    · replace H := giff q H
      refine R_iconst (v := (0 : Int32)) (gxd kX7_back 51 rfl) rfl ?_
      refine R_istore_n (gxd kX7_back 52 rfl) rfl rfl (Nat.le_of_ble_eq_true rfl) rfl ?_
      exact R_weak (gle_same (gle_same gle_nil)) (fM_back_89_ok  gfu _ _ _  H)
    · replace H := gift q H
      refine R_aload_n (gxd kX7_back 25 rfl) rfl rfl ?_
      refine R_getr (gxd kX7_back 26 rfl) gf_M_17 gk_65 (by decide) rfl ?_
      refine R_iload_n (gxd kX7_back 27 rfl) rfl rfl ?_
      refine R_aload_n (gxd kX7_back 28 rfl) rfl rfl ?_
      refine R_getr (gxd kX7_back 29 rfl) gf_M_90 gk_65 (by decide) rfl ?_
      refine R_iload_n (gxd kX7_back 30 rfl) rfl rfl ?_
      obtain ⟨b46, H⟩ := ggi H
      have b46 := gin_in b46
      refine R_iald (gxd kX7_back 31 rfl) gk_91 b46 ?_
      obtain ⟨b47, H⟩ := ggi H
      have b47 := gin_in b47
      refine R_iast (gxd kX7_back 32 rfl) gk_67 b47 ?_
      obtain ⟨h48, e49, H⟩ := glei H
      refine R_heq e49 ?_
      refine R_aload_n (gxd kX7_back 33 rfl) rfl rfl ?_
      refine R_getr (gxd kX7_back 34 rfl) gf_M_20 gk_65 (by decide) rfl ?_
      refine R_iload_n (gxd kX7_back 35 rfl) rfl rfl ?_
      refine R_aload_n (gxd kX7_back 36 rfl) rfl rfl ?_
      refine R_getr (gxd kX7_back 37 rfl) gf_M_93 gk_65 (by decide) rfl ?_
      refine R_iload_n (gxd kX7_back 38 rfl) rfl rfl ?_
      obtain ⟨b50, H⟩ := ggi H
      have b50 := gin_in b50
      refine R_iald (gxd kX7_back 39 rfl) gk_92 b50 ?_
      obtain ⟨b51, H⟩ := ggi H
      have b51 := gin_in b51
      refine R_iast (gxd kX7_back 40 rfl) gk_68 b51 ?_
      obtain ⟨h52, e53, H⟩ := glei H
      refine R_heq e53 ?_
      refine R_aload_n (gxd kX7_back 41 rfl) rfl rfl ?_
      refine R_getr (gxd kX7_back 42 rfl) gf_M_30 gk_65 (by decide) rfl ?_
      refine R_iload_n (gxd kX7_back 43 rfl) rfl rfl ?_
      refine R_aload_n (gxd kX7_back 44 rfl) rfl rfl ?_
      refine R_getr (gxd kX7_back 45 rfl) gf_M_99 gk_65 (by decide) rfl ?_
      refine R_iload_n (gxd kX7_back 46 rfl) rfl rfl ?_
      obtain ⟨b54, H⟩ := ggi H
      have b54 := gin_in b54
      refine R_zald (gxd kX7_back 47 rfl) gk_94 b54 ?_
      obtain ⟨b55, H⟩ := ggi H
      have b55 := gin_in b55
      obtain ⟨b56, H⟩ := ggi H
      have b56 := gbo_or b56
      refine R_zast (gxd kX7_back 48 rfl) gk_71 b55 b56 ?_
      obtain ⟨h57, e58, H⟩ := glei H
      refine R_heq e58 ?_
      refine R_iinc (v := (v1 + (1 : Int32))) (gxd kX7_back 49 rfl) rfl rfl rfl (Nat.le_of_ble_eq_true rfl) rfl ?_
      refine R_goto (gxd kX7_back 50 rfl) (tgt := 39) rfl ?_
      exact R_weak (gle_same (gle_same gle_nil)) (ih _ _ _  H)
def fM_back_12 : Nat → Int32 → gH → Option (Int32 × gH)
  | 0, _, _ => none
  | n + 1, v1, h =>
    if v1 < (16000 : Int32) then
      gg (gin v1 16000) <|
      gg (gin v1 16000) <|
      gg (gbo (h 93 v1.toNatClampNeg)) <|
      glet (hu h 69 v1.toNatClampNeg (h 93 v1.toNatClampNeg)) fun h62 =>
      fM_back_12 n (v1 + (1 : Int32)) h62
    else
      fM_back_39 gfu (0 : Int32) h
theorem fM_back_12_ok {d : Nat}  : ∀ (n : Nat) (v1 : Int32) (h : gH) (x : (Int32 × gH)), fM_back_12  n v1 h = some x → gR RX7 cX7_back 2 (some .int) (d + 0) 12 [.ref 65, .int v1] [] h (some (.int x.1)) x.2 := by
  intro n
  induction n with
  | zero => intro v1 h x  H; exact g0 H
  | succ n ih =>
    intro v1 h x  H
    unfold fM_back_12 at H
    refine R_iload_n (gxd kX7_back 7 rfl) rfl rfl ?_
    refine R_sipush (v := (16000 : Int32)) (gxd kX7_back 8 rfl) rfl ?_
    refine R_icmp_ge (gxd kX7_back 9 rfl) (tgt := 37) rfl (fun q => ?_) (fun q => ?_)
    · replace H := giff q H
      refine R_iconst (v := (0 : Int32)) (gxd kX7_back 20 rfl) rfl ?_
      refine R_istore_n (gxd kX7_back 21 rfl) rfl rfl (Nat.le_of_ble_eq_true rfl) rfl ?_
      exact R_weak (gle_same (gle_same gle_nil)) (fM_back_39_ok  gfu _ _ _  H)
    · replace H := gift q H
      refine R_aload_n (gxd kX7_back 10 rfl) rfl rfl ?_
      refine R_getr (gxd kX7_back 11 rfl) gf_M_23 gk_65 (by decide) rfl ?_
      refine R_iload_n (gxd kX7_back 12 rfl) rfl rfl ?_
      refine R_aload_n (gxd kX7_back 13 rfl) rfl rfl ?_
      refine R_getr (gxd kX7_back 14 rfl) gf_M_96 gk_65 (by decide) rfl ?_
      refine R_iload_n (gxd kX7_back 15 rfl) rfl rfl ?_
      obtain ⟨b59, H⟩ := ggi H
      have b59 := gin_in b59
      refine R_zald (gxd kX7_back 16 rfl) gk_93 b59 ?_
      obtain ⟨b60, H⟩ := ggi H
      have b60 := gin_in b60
      obtain ⟨b61, H⟩ := ggi H
      have b61 := gbo_or b61
      refine R_zast (gxd kX7_back 17 rfl) gk_69 b60 b61 ?_
      obtain ⟨h62, e63, H⟩ := glei H
      refine R_heq e63 ?_
      refine R_iinc (v := (v1 + (1 : Int32))) (gxd kX7_back 18 rfl) rfl rfl rfl (Nat.le_of_ble_eq_true rfl) rfl ?_
      refine R_goto (gxd kX7_back 19 rfl) (tgt := 12) rfl ?_
      exact R_weak (gle_same (gle_same gle_nil)) (ih _ _ _  H)
def fM_back (h : gH) : Option (Int32 × gH) :=
  if (h 65 76) = (0 : Int32) then
    some ((-3 : Int32), h)
  else
    fM_back_12 gfu (0 : Int32) h
theorem fM_back_ok {h : gH} {x : (Int32 × gH)} (H : fM_back  h = some x) (d : Nat) : gC yX7_back cX7_back 2 (some .int) (d + 0) [.ref 65] h (some (.int x.1)) x.2 := by
  refine gC_of (by decide +kernel) (Nat.le_of_ble_eq_true rfl) rfl ?_
  unfold fM_back at H
  refine R_aload_n (gxd kX7_back 0 rfl) rfl rfl ?_
  refine R_geti (gxd kX7_back 1 rfl) gf_M_456 gk_65 (by decide) rfl ?_
  refine R_if_ne (gxd kX7_back 2 rfl) (tgt := 10) rfl (fun q => ?_) (fun q => ?_)
  · replace H := giff q H
    refine R_iconst (v := (0 : Int32)) (gxd kX7_back 5 rfl) rfl ?_
    refine R_istore_n (gxd kX7_back 6 rfl) rfl rfl (Nat.le_of_ble_eq_true rfl) rfl ?_
    exact R_weak (gle_same (gle_same gle_nil)) (fM_back_12_ok  gfu _ _ _  H)
  · replace H := gift q H
    refine R_bipush (v := (-3 : Int32)) (gxd kX7_back 3 rfl) rfl ?_
    obtain rfl := Option.some.inj H
    exact R_iret (gxd kX7_back 4 rfl) rfl
def fM_count_63 (v1 : Int32) (v2 : Int32) (h : gH) : Option (Int32 × gH) :=
  if v1 = (6 : Int32) then
    some (v2, h)
  else
    (fM_queued h).bind fun p3 =>
    some (p3.1, p3.2)
theorem fM_count_63_ok {d : Nat} {v1 : Int32} {v2 : Int32}  {h : gH} {x : (Int32 × gH)} (H : fM_count_63 v1 v2  h = some x) : gR RX7 cX7_count 4 (some .int) (d + 1) 63 [.ref 65, .int v1, .int v2, .null] [] h (some (.int x.1)) x.2 := by
  unfold fM_count_63 at H
  refine R_iload_n (gxd kX7_count 36 rfl) rfl rfl ?_
  refine R_bipush (v := (6 : Int32)) (gxd kX7_count 37 rfl) rfl ?_
  refine R_icmp_ne (gxd kX7_count 38 rfl) (tgt := 73) rfl (fun q => ?_) (fun q => ?_)
  · replace H := giff q H
    refine R_aload_n (gxd kX7_count 41 rfl) rfl rfl ?_
    obtain ⟨p3, e4, H⟩ := gbi H
    refine R_callVi (gxd kX7_count 42 rfl) gm_M_318 wX7_queued (by decide) gk_65 rfl rfl (Nat.le_of_ble_eq_true rfl) (by omega) (fM_queued_ok  e4 (d + 0)) ?_
    obtain rfl := Option.some.inj H
    exact R_iret (gxd kX7_count 43 rfl) rfl
  · replace H := gift q H
    refine R_iload_n (gxd kX7_count 39 rfl) rfl rfl ?_
    refine R_goto (gxd kX7_count 40 rfl) (tgt := 77) rfl ?_
    obtain rfl := Option.some.inj H
    exact R_iret (gxd kX7_count 43 rfl) rfl
def fM_count_44 (k19 : Int32 → Int32 → gH → Option (Int32 × gH)) (v1 : Int32) (v3 : Int32) (s0 : Int32) (s1 : Int32) (h : gH) : Option (Int32 × gH) :=
  k19 (s0 + s1) (v3 + (1 : Int32)) h
theorem fM_count_44_ok {d : Nat} {k19 : Int32 → Int32 → gH → Option (Int32 × gH)} {v1 : Int32} {v3 : Int32} {s0 : Int32} {s1 : Int32} (hk19 : ∀ (u2 : Int32) (u3 : Int32) (h : gH) (x : (Int32 × gH)), k19 u2 u3 h = some x → gR RX7 cX7_count 4 (some .int) (d + 1) 19 [.ref 65, .int v1, .int u2, .int u3] [] h (some (.int x.1)) x.2) {h : gH} {x : (Int32 × gH)} (H : fM_count_44 k19 v1 v3 s0 s1 h = some x) : gR RX7 cX7_count 4 (some .int) (d + 1) 44 [.ref 65, .int v1, .null, .int v3] [.int s1, .int s0] h (some (.int x.1)) x.2 := by
  unfold fM_count_44 at H
  refine R_iadd (gxd kX7_count 26 rfl) ?_
  refine R_istore_n (gxd kX7_count 27 rfl) rfl rfl (Nat.le_of_ble_eq_true rfl) rfl ?_
  refine R_iinc (v := (v3 + (1 : Int32))) (gxd kX7_count 28 rfl) rfl rfl rfl (Nat.le_of_ble_eq_true rfl) rfl ?_
  refine R_goto (gxd kX7_count 29 rfl) (tgt := 19) rfl ?_
  exact R_weak (gle_same (gle_same (gle_same (gle_same gle_nil)))) (hk19 _ _ _ _  H)
def fM_count_19 (v1 : Int32) : Nat → Int32 → Int32 → gH → Option (Int32 × gH)
  | 0, _, _, _ => none
  | n + 1, v2, v3, h =>
    if v3 < (8 : Int32) then
      gg (gin v3 8) <|
      (fM_bitsOf (h 66 v3.toNatClampNeg) h).bind fun p6 =>
      if p6.1 = (1 : Int32) then
        fM_count_44 (fM_count_19 v1 n) v1 v3 v2 (1 : Int32) p6.2
      else
        fM_count_44 (fM_count_19 v1 n) v1 v3 v2 (0 : Int32) p6.2
    else
      if v1 = (6 : Int32) then
        fM_count_63 v1 v2 h
      else
        if v1 = (4 : Int32) then
          fM_count_63 v1 v2 h
        else
          if v1 = (0 : Int32) then
            some ((h 65 8), h)
          else
            if v1 = (1 : Int32) then
              some ((h 65 15), h)
            else
              if v1 = (2 : Int32) then
                some ((h 65 12), h)
              else
                if v1 = (3 : Int32) then
                  some ((h 65 19), h)
                else
                  if v1 = (5 : Int32) then
                    some ((h 65 20), h)
                  else
                    if v1 = (7 : Int32) then
                      some ((h 65 22), h)
                    else
                      if (h 65 2) = (0 : Int32) then
                        some ((0 : Int32), h)
                      else
                        some ((1 : Int32), h)
theorem fM_count_19_ok {d : Nat} {v1 : Int32}  : ∀ (n : Nat) (v2 : Int32) (v3 : Int32) (h : gH) (x : (Int32 × gH)), fM_count_19 v1 n v2 v3 h = some x → gR RX7 cX7_count 4 (some .int) (d + 1) 19 [.ref 65, .int v1, .int v2, .int v3] [] h (some (.int x.1)) x.2 := by
  intro n
  induction n with
  | zero => intro v2 v3 h x  H; exact g0 H
  | succ n ih =>
    intro v2 v3 h x  H
    unfold fM_count_19 at H
    refine R_iload_n (gxd kX7_count 12 rfl) rfl rfl ?_
    refine R_bipush (v := (8 : Int32)) (gxd kX7_count 13 rfl) rfl ?_
    refine R_icmp_ge (gxd kX7_count 14 rfl) (tgt := 52) rfl (fun q => ?_) (fun q => ?_)
    · replace H := giff q H
      refine R_iload_n (gxd kX7_count 30 rfl) rfl rfl ?_
      refine R_bipush (v := (6 : Int32)) (gxd kX7_count 31 rfl) rfl ?_
      refine R_icmp_eq (gxd kX7_count 32 rfl) (tgt := 63) rfl (fun q => ?_) (fun q => ?_)
      · replace H := gift q H
        exact R_weak (gle_same (gle_same (gle_same (gle_null gle_nil)))) (fM_count_63_ok  H)
      · replace H := giff q H
        refine R_iload_n (gxd kX7_count 33 rfl) rfl rfl ?_
        refine R_iconst (v := (4 : Int32)) (gxd kX7_count 34 rfl) rfl ?_
        refine R_icmp_ne (gxd kX7_count 35 rfl) (tgt := 78) rfl (fun q => ?_) (fun q => ?_)
        · replace H := giff q H
          refine R_iload_n (gxd kX7_count 44 rfl) rfl rfl ?_
          refine R_if_ne (gxd kX7_count 45 rfl) (tgt := 89) rfl (fun q => ?_) (fun q => ?_)
          · replace H := giff q H
            refine R_iload_n (gxd kX7_count 49 rfl) rfl rfl ?_
            refine R_iconst (v := (1 : Int32)) (gxd kX7_count 50 rfl) rfl ?_
            refine R_icmp_ne (gxd kX7_count 51 rfl) (tgt := 101) rfl (fun q => ?_) (fun q => ?_)
            · replace H := giff q H
              refine R_iload_n (gxd kX7_count 55 rfl) rfl rfl ?_
              refine R_iconst (v := (2 : Int32)) (gxd kX7_count 56 rfl) rfl ?_
              refine R_icmp_ne (gxd kX7_count 57 rfl) (tgt := 113) rfl (fun q => ?_) (fun q => ?_)
              · replace H := giff q H
                refine R_iload_n (gxd kX7_count 61 rfl) rfl rfl ?_
                refine R_iconst (v := (3 : Int32)) (gxd kX7_count 62 rfl) rfl ?_
                refine R_icmp_ne (gxd kX7_count 63 rfl) (tgt := 125) rfl (fun q => ?_) (fun q => ?_)
                · replace H := giff q H
                  refine R_iload_n (gxd kX7_count 67 rfl) rfl rfl ?_
                  refine R_iconst (v := (5 : Int32)) (gxd kX7_count 68 rfl) rfl ?_
                  refine R_icmp_ne (gxd kX7_count 69 rfl) (tgt := 137) rfl (fun q => ?_) (fun q => ?_)
                  · replace H := giff q H
                    refine R_iload_n (gxd kX7_count 73 rfl) rfl rfl ?_
                    refine R_bipush (v := (7 : Int32)) (gxd kX7_count 74 rfl) rfl ?_
                    refine R_icmp_ne (gxd kX7_count 75 rfl) (tgt := 150) rfl (fun q => ?_) (fun q => ?_)
                    · replace H := giff q H
                      refine R_aload_n (gxd kX7_count 79 rfl) rfl rfl ?_
                      refine R_geti (gxd kX7_count 80 rfl) gf_M_229 gk_65 (by decide) rfl ?_
                      refine R_if_eq (gxd kX7_count 81 rfl) (tgt := 161) rfl (fun q => ?_) (fun q => ?_)
                      · replace H := gift q H
                        refine R_iconst (v := (0 : Int32)) (gxd kX7_count 84 rfl) rfl ?_
                        obtain rfl := Option.some.inj H
                        exact R_iret (gxd kX7_count 85 rfl) rfl
                      · replace H := giff q H
                        refine R_iconst (v := (1 : Int32)) (gxd kX7_count 82 rfl) rfl ?_
                        refine R_goto (gxd kX7_count 83 rfl) (tgt := 162) rfl ?_
                        obtain rfl := Option.some.inj H
                        exact R_iret (gxd kX7_count 85 rfl) rfl
                    · replace H := gift q H
                      refine R_aload_n (gxd kX7_count 76 rfl) rfl rfl ?_
                      refine R_geti (gxd kX7_count 77 rfl) gf_M_144 gk_65 (by decide) rfl ?_
                      refine R_goto (gxd kX7_count 78 rfl) (tgt := 162) rfl ?_
                      obtain rfl := Option.some.inj H
                      exact R_iret (gxd kX7_count 85 rfl) rfl
                  · replace H := gift q H
                    refine R_aload_n (gxd kX7_count 70 rfl) rfl rfl ?_
                    refine R_geti (gxd kX7_count 71 rfl) gf_M_299 gk_65 (by decide) rfl ?_
                    refine R_goto (gxd kX7_count 72 rfl) (tgt := 162) rfl ?_
                    obtain rfl := Option.some.inj H
                    exact R_iret (gxd kX7_count 85 rfl) rfl
                · replace H := gift q H
                  refine R_aload_n (gxd kX7_count 64 rfl) rfl rfl ?_
                  refine R_geti (gxd kX7_count 65 rfl) gf_M_321 gk_65 (by decide) rfl ?_
                  refine R_goto (gxd kX7_count 66 rfl) (tgt := 162) rfl ?_
                  obtain rfl := Option.some.inj H
                  exact R_iret (gxd kX7_count 85 rfl) rfl
              · replace H := gift q H
                refine R_aload_n (gxd kX7_count 58 rfl) rfl rfl ?_
                refine R_geti (gxd kX7_count 59 rfl) gf_M_312 gk_65 (by decide) rfl ?_
                refine R_goto (gxd kX7_count 60 rfl) (tgt := 162) rfl ?_
                obtain rfl := Option.some.inj H
                exact R_iret (gxd kX7_count 85 rfl) rfl
            · replace H := gift q H
              refine R_aload_n (gxd kX7_count 52 rfl) rfl rfl ?_
              refine R_geti (gxd kX7_count 53 rfl) gf_M_262 gk_65 (by decide) rfl ?_
              refine R_goto (gxd kX7_count 54 rfl) (tgt := 162) rfl ?_
              obtain rfl := Option.some.inj H
              exact R_iret (gxd kX7_count 85 rfl) rfl
          · replace H := gift q H
            refine R_aload_n (gxd kX7_count 46 rfl) rfl rfl ?_
            refine R_geti (gxd kX7_count 47 rfl) gf_M_226 gk_65 (by decide) rfl ?_
            refine R_goto (gxd kX7_count 48 rfl) (tgt := 162) rfl ?_
            obtain rfl := Option.some.inj H
            exact R_iret (gxd kX7_count 85 rfl) rfl
        · replace H := gift q H
          exact R_weak (gle_same (gle_same (gle_same (gle_null gle_nil)))) (fM_count_63_ok  H)
    · replace H := gift q H
      refine R_iload_n (gxd kX7_count 15 rfl) rfl rfl ?_
      refine R_aload_n (gxd kX7_count 16 rfl) rfl rfl ?_
      refine R_getr (gxd kX7_count 17 rfl) gf_M_13 gk_65 (by decide) rfl ?_
      refine R_iload_n (gxd kX7_count 18 rfl) rfl rfl ?_
      obtain ⟨b5, H⟩ := ggi H
      have b5 := gin_in b5
      refine R_iald (gxd kX7_count 19 rfl) gk_66 b5 ?_
      obtain ⟨p6, e7, H⟩ := gbi H
      refine R_callSi (gxd kX7_count 20 rfl) gm_M_189 wX7_bitsOf (by decide) rfl (Nat.le_of_ble_eq_true rfl) (by omega) (fM_bitsOf_ok  e7 (d + 0)) ?_
      refine R_iconst (v := (1 : Int32)) (gxd kX7_count 21 rfl) rfl ?_
      refine R_icmp_ne (gxd kX7_count 22 rfl) (tgt := 43) rfl (fun q => ?_) (fun q => ?_)
      · replace H := giff q H
        refine R_iconst (v := (0 : Int32)) (gxd kX7_count 25 rfl) rfl ?_
        exact R_weak (gle_same (gle_same (gle_null (gle_same gle_nil)))) (fM_count_44_ok ih  H)
      · replace H := gift q H
        refine R_iconst (v := (1 : Int32)) (gxd kX7_count 23 rfl) rfl ?_
        refine R_goto (gxd kX7_count 24 rfl) (tgt := 44) rfl ?_
        exact R_weak (gle_same (gle_same (gle_null (gle_same gle_nil)))) (fM_count_44_ok ih  H)
def fM_count (v1 : Int32) (h : gH) : Option (Int32 × gH) :=
  (fM_in v1.toInt64 (0 : Int64) (8 : Int64) h).bind fun p1 =>
  if p1.1 = (0 : Int32) then
    some ((-2 : Int32), p1.2)
  else
    fM_count_19 v1 gfu (0 : Int32) (0 : Int32) p1.2
theorem fM_count_ok {v1 : Int32} {h : gH} {x : (Int32 × gH)} (H : fM_count v1 h = some x) (d : Nat) : gC yX7_count cX7_count 4 (some .int) (d + 1) [.ref 65, .int v1] h (some (.int x.1)) x.2 := by
  refine gC_of (by decide +kernel) (Nat.le_of_ble_eq_true rfl) rfl ?_
  unfold fM_count at H
  refine R_iload_n (gxd kX7_count 0 rfl) rfl rfl ?_
  refine R_i2l (gxd kX7_count 1 rfl) ?_
  refine R_lconst (v := (0 : Int64)) (gxd kX7_count 2 rfl) rfl ?_
  refine R_ldc2 (v := (8 : Int64)) (gxd kX7_count 3 rfl) gc_M_459 ?_
  obtain ⟨p1, e2, H⟩ := gbi H
  refine R_callSi (gxd kX7_count 4 rfl) gm_M_140 wX7_in (by decide) rfl (Nat.le_of_ble_eq_true rfl) (by omega) (fM_in_ok  e2 (d + 0)) ?_
  refine R_if_ne (gxd kX7_count 5 rfl) (tgt := 15) rfl (fun q => ?_) (fun q => ?_)
  · replace H := giff q H
    refine R_iconst (v := (0 : Int32)) (gxd kX7_count 8 rfl) rfl ?_
    refine R_istore_n (gxd kX7_count 9 rfl) rfl rfl (Nat.le_of_ble_eq_true rfl) rfl ?_
    refine R_iconst (v := (0 : Int32)) (gxd kX7_count 10 rfl) rfl ?_
    refine R_istore_n (gxd kX7_count 11 rfl) rfl rfl (Nat.le_of_ble_eq_true rfl) rfl ?_
    exact R_weak (gle_same (gle_same (gle_same (gle_same gle_nil)))) (fM_count_19_ok  gfu _ _ _ _  H)
  · replace H := gift q H
    refine R_bipush (v := (-2 : Int32)) (gxd kX7_count 6 rfl) rfl ?_
    obtain rfl := Option.some.inj H
    exact R_iret (gxd kX7_count 7 rfl) rfl
def fM_put (v1 : Int32) (v2 : Int32) (v3 : Int32) (h : gH) : Option (Int32 × gH) :=
  (fM_isSheet v1 h).bind fun p1 =>
  if p1.1 = (0 : Int32) then
    some ((-2 : Int32), p1.2)
  else
    gg (gin v1 4) <|
    if (p1.2 103 v1.toNatClampNeg) = (0 : Int32) then
      some ((-11 : Int32), p1.2)
    else
      gg (gin v1 4) <|
      (fM_in v2.toInt64 (0 : Int64) (((p1.2 105 v1.toNatClampNeg) - (1 : Int32)).toInt64) p1.2).bind fun p5 =>
      if p5.1 = (0 : Int32) then
        some ((-12 : Int32), p5.2)
      else
        gg (gin v1 4) <|
        if (p5.2 104 v1.toNatClampNeg) = (0 : Int32) then
          gg (gin (((40 : Int32) * v1) + v2) 160) <|
          glet (hu p5.2 106 (((40 : Int32) * v1) + v2).toNatClampNeg v3) fun h16 =>
          some ((1 : Int32), h16)
        else
          gg (gin v1 4) <|
          if (p5.2 104 v1.toNatClampNeg) = (1 : Int32) then
            gg (gin (((40 : Int32) * v1) + v2) 160) <|
            glet (hu p5.2 106 (((40 : Int32) * v1) + v2).toNatClampNeg v3.toInt16.toInt32) fun h13 =>
            some ((1 : Int32), h13)
          else
            gg (gin (((40 : Int32) * v1) + v2) 160) <|
            glet (hu p5.2 106 (((40 : Int32) * v1) + v2).toNatClampNeg v3.toInt8.toInt32) fun h10 =>
            some ((1 : Int32), h10)
theorem fM_put_ok {v1 : Int32} {v2 : Int32} {v3 : Int32} {h : gH} {x : (Int32 × gH)} (H : fM_put v1 v2 v3 h = some x) (d : Nat) : gC yX7_put cX7_put 4 (some .int) (d + 2) [.ref 65, .int v1, .int v2, .int v3] h (some (.int x.1)) x.2 := by
  refine gC_of (by decide +kernel) (Nat.le_of_ble_eq_true rfl) rfl ?_
  unfold fM_put at H
  refine R_iload_n (gxd kX7_put 0 rfl) rfl rfl ?_
  obtain ⟨p1, e2, H⟩ := gbi H
  refine R_callSi (gxd kX7_put 1 rfl) gm_M_424 wX7_isSheet (by decide) rfl (Nat.le_of_ble_eq_true rfl) (by omega) (fM_isSheet_ok  e2 (d + 0)) ?_
  refine R_if_ne (gxd kX7_put 2 rfl) (tgt := 10) rfl (fun q => ?_) (fun q => ?_)
  · replace H := giff q H
    refine R_aload_n (gxd kX7_put 5 rfl) rfl rfl ?_
    refine R_getr (gxd kX7_put 6 rfl) gf_M_126 gk_65 (by decide) rfl ?_
    refine R_iload_n (gxd kX7_put 7 rfl) rfl rfl ?_
    obtain ⟨b3, H⟩ := ggi H
    have b3 := gin_in b3
    refine R_zald (gxd kX7_put 8 rfl) gk_103 b3 ?_
    refine R_if_ne (gxd kX7_put 9 rfl) (tgt := 22) rfl (fun q => ?_) (fun q => ?_)
    · replace H := giff q H
      refine R_iload_n (gxd kX7_put 12 rfl) rfl rfl ?_
      refine R_i2l (gxd kX7_put 13 rfl) ?_
      refine R_lconst (v := (0 : Int64)) (gxd kX7_put 14 rfl) rfl ?_
      refine R_aload_n (gxd kX7_put 15 rfl) rfl rfl ?_
      refine R_getr (gxd kX7_put 16 rfl) gf_M_132 gk_65 (by decide) rfl ?_
      refine R_iload_n (gxd kX7_put 17 rfl) rfl rfl ?_
      obtain ⟨b4, H⟩ := ggi H
      have b4 := gin_in b4
      refine R_iald (gxd kX7_put 18 rfl) gk_105 b4 ?_
      refine R_iconst (v := (1 : Int32)) (gxd kX7_put 19 rfl) rfl ?_
      refine R_isub (gxd kX7_put 20 rfl) ?_
      refine R_i2l (gxd kX7_put 21 rfl) ?_
      obtain ⟨p5, e6, H⟩ := gbi H
      refine R_callSi (gxd kX7_put 22 rfl) gm_M_140 wX7_in (by decide) rfl (Nat.le_of_ble_eq_true rfl) (by omega) (fM_in_ok  e6 (d + 1)) ?_
      refine R_if_ne (gxd kX7_put 23 rfl) (tgt := 43) rfl (fun q => ?_) (fun q => ?_)
      · replace H := giff q H
        refine R_aload_n (gxd kX7_put 26 rfl) rfl rfl ?_
        refine R_getr (gxd kX7_put 27 rfl) gf_M_135 gk_65 (by decide) rfl ?_
        refine R_bipush (v := (40 : Int32)) (gxd kX7_put 28 rfl) rfl ?_
        refine R_iload_n (gxd kX7_put 29 rfl) rfl rfl ?_
        refine R_imul (gxd kX7_put 30 rfl) ?_
        refine R_iload_n (gxd kX7_put 31 rfl) rfl rfl ?_
        refine R_iadd (gxd kX7_put 32 rfl) ?_
        refine R_aload_n (gxd kX7_put 33 rfl) rfl rfl ?_
        refine R_getr (gxd kX7_put 34 rfl) gf_M_129 gk_65 (by decide) rfl ?_
        refine R_iload_n (gxd kX7_put 35 rfl) rfl rfl ?_
        obtain ⟨b7, H⟩ := ggi H
        have b7 := gin_in b7
        refine R_iald (gxd kX7_put 36 rfl) gk_104 b7 ?_
        refine R_if_ne (gxd kX7_put 37 rfl) (tgt := 66) rfl (fun q => ?_) (fun q => ?_)
        · replace H := giff q H
          refine R_aload_n (gxd kX7_put 40 rfl) rfl rfl ?_
          refine R_getr (gxd kX7_put 41 rfl) gf_M_129 gk_65 (by decide) rfl ?_
          refine R_iload_n (gxd kX7_put 42 rfl) rfl rfl ?_
          obtain ⟨b8, H⟩ := ggi H
          have b8 := gin_in b8
          refine R_iald (gxd kX7_put 43 rfl) gk_104 b8 ?_
          refine R_iconst (v := (1 : Int32)) (gxd kX7_put 44 rfl) rfl ?_
          refine R_icmp_ne (gxd kX7_put 45 rfl) (tgt := 81) rfl (fun q => ?_) (fun q => ?_)
          · replace H := giff q H
            refine R_iload_n (gxd kX7_put 49 rfl) rfl rfl ?_
            refine R_i2b (gxd kX7_put 50 rfl) ?_
            obtain ⟨b9, H⟩ := ggi H
            have b9 := gin_in b9
            refine R_iast (gxd kX7_put 51 rfl) gk_106 b9 ?_
            obtain ⟨h10, e11, H⟩ := glei H
            refine R_heq e11 ?_
            refine R_iconst (v := (1 : Int32)) (gxd kX7_put 52 rfl) rfl ?_
            obtain rfl := Option.some.inj H
            exact R_iret (gxd kX7_put 53 rfl) rfl
          · replace H := gift q H
            refine R_iload_n (gxd kX7_put 46 rfl) rfl rfl ?_
            refine R_i2s (gxd kX7_put 47 rfl) ?_
            refine R_goto (gxd kX7_put 48 rfl) (tgt := 83) rfl ?_
            obtain ⟨b12, H⟩ := ggi H
            have b12 := gin_in b12
            refine R_iast (gxd kX7_put 51 rfl) gk_106 b12 ?_
            obtain ⟨h13, e14, H⟩ := glei H
            refine R_heq e14 ?_
            refine R_iconst (v := (1 : Int32)) (gxd kX7_put 52 rfl) rfl ?_
            obtain rfl := Option.some.inj H
            exact R_iret (gxd kX7_put 53 rfl) rfl
        · replace H := gift q H
          refine R_iload_n (gxd kX7_put 38 rfl) rfl rfl ?_
          refine R_goto (gxd kX7_put 39 rfl) (tgt := 83) rfl ?_
          obtain ⟨b15, H⟩ := ggi H
          have b15 := gin_in b15
          refine R_iast (gxd kX7_put 51 rfl) gk_106 b15 ?_
          obtain ⟨h16, e17, H⟩ := glei H
          refine R_heq e17 ?_
          refine R_iconst (v := (1 : Int32)) (gxd kX7_put 52 rfl) rfl ?_
          obtain rfl := Option.some.inj H
          exact R_iret (gxd kX7_put 53 rfl) rfl
      · replace H := gift q H
        refine R_bipush (v := (-12 : Int32)) (gxd kX7_put 24 rfl) rfl ?_
        obtain rfl := Option.some.inj H
        exact R_iret (gxd kX7_put 25 rfl) rfl
    · replace H := gift q H
      refine R_bipush (v := (-11 : Int32)) (gxd kX7_put 10 rfl) rfl ?_
      obtain rfl := Option.some.inj H
      exact R_iret (gxd kX7_put 11 rfl) rfl
  · replace H := gift q H
    refine R_bipush (v := (-2 : Int32)) (gxd kX7_put 3 rfl) rfl ?_
    obtain rfl := Option.some.inj H
    exact R_iret (gxd kX7_put 4 rfl) rfl
def fM_item (v1 : Int32) (v2 : Int32) (h : gH) : Option (Int32 × gH) :=
  (fM_isSheet v1 h).bind fun p1 =>
  if p1.1 = (0 : Int32) then
    some ((-99999 : Int32), p1.2)
  else
    gg (gin v1 4) <|
    if (p1.2 103 v1.toNatClampNeg) = (0 : Int32) then
      some ((-99999 : Int32), p1.2)
    else
      gg (gin v1 4) <|
      (fM_in v2.toInt64 (0 : Int64) (((p1.2 105 v1.toNatClampNeg) - (1 : Int32)).toInt64) p1.2).bind fun p5 =>
      if p5.1 = (0 : Int32) then
        some ((-99999 : Int32), p5.2)
      else
        gg (gin (((40 : Int32) * v1) + v2) 160) <|
        some ((p5.2 106 (((40 : Int32) * v1) + v2).toNatClampNeg), p5.2)
theorem fM_item_ok {v1 : Int32} {v2 : Int32} {h : gH} {x : (Int32 × gH)} (H : fM_item v1 v2 h = some x) (d : Nat) : gC yX7_item cX7_item 3 (some .int) (d + 2) [.ref 65, .int v1, .int v2] h (some (.int x.1)) x.2 := by
  refine gC_of (by decide +kernel) (Nat.le_of_ble_eq_true rfl) rfl ?_
  unfold fM_item at H
  refine R_iload_n (gxd kX7_item 0 rfl) rfl rfl ?_
  obtain ⟨p1, e2, H⟩ := gbi H
  refine R_callSi (gxd kX7_item 1 rfl) gm_M_424 wX7_isSheet (by decide) rfl (Nat.le_of_ble_eq_true rfl) (by omega) (fM_isSheet_ok  e2 (d + 0)) ?_
  refine R_if_eq (gxd kX7_item 2 rfl) (tgt := 48) rfl (fun q => ?_) (fun q => ?_)
  · replace H := gift q H
    refine R_ldcw (v := (-99999 : Int32)) (gxd kX7_item 29 rfl) gc_M_461 ?_
    obtain rfl := Option.some.inj H
    exact R_iret (gxd kX7_item 30 rfl) rfl
  · replace H := giff q H
    refine R_aload_n (gxd kX7_item 3 rfl) rfl rfl ?_
    refine R_getr (gxd kX7_item 4 rfl) gf_M_126 gk_65 (by decide) rfl ?_
    refine R_iload_n (gxd kX7_item 5 rfl) rfl rfl ?_
    obtain ⟨b3, H⟩ := ggi H
    have b3 := gin_in b3
    refine R_zald (gxd kX7_item 6 rfl) gk_103 b3 ?_
    refine R_if_eq (gxd kX7_item 7 rfl) (tgt := 48) rfl (fun q => ?_) (fun q => ?_)
    · replace H := gift q H
      refine R_ldcw (v := (-99999 : Int32)) (gxd kX7_item 29 rfl) gc_M_461 ?_
      obtain rfl := Option.some.inj H
      exact R_iret (gxd kX7_item 30 rfl) rfl
    · replace H := giff q H
      refine R_iload_n (gxd kX7_item 8 rfl) rfl rfl ?_
      refine R_i2l (gxd kX7_item 9 rfl) ?_
      refine R_lconst (v := (0 : Int64)) (gxd kX7_item 10 rfl) rfl ?_
      refine R_aload_n (gxd kX7_item 11 rfl) rfl rfl ?_
      refine R_getr (gxd kX7_item 12 rfl) gf_M_132 gk_65 (by decide) rfl ?_
      refine R_iload_n (gxd kX7_item 13 rfl) rfl rfl ?_
      obtain ⟨b4, H⟩ := ggi H
      have b4 := gin_in b4
      refine R_iald (gxd kX7_item 14 rfl) gk_105 b4 ?_
      refine R_iconst (v := (1 : Int32)) (gxd kX7_item 15 rfl) rfl ?_
      refine R_isub (gxd kX7_item 16 rfl) ?_
      refine R_i2l (gxd kX7_item 17 rfl) ?_
      obtain ⟨p5, e6, H⟩ := gbi H
      refine R_callSi (gxd kX7_item 18 rfl) gm_M_140 wX7_in (by decide) rfl (Nat.le_of_ble_eq_true rfl) (by omega) (fM_in_ok  e6 (d + 1)) ?_
      refine R_if_eq (gxd kX7_item 19 rfl) (tgt := 48) rfl (fun q => ?_) (fun q => ?_)
      · replace H := gift q H
        refine R_ldcw (v := (-99999 : Int32)) (gxd kX7_item 29 rfl) gc_M_461 ?_
        obtain rfl := Option.some.inj H
        exact R_iret (gxd kX7_item 30 rfl) rfl
      · replace H := giff q H
        refine R_aload_n (gxd kX7_item 20 rfl) rfl rfl ?_
        refine R_getr (gxd kX7_item 21 rfl) gf_M_135 gk_65 (by decide) rfl ?_
        refine R_bipush (v := (40 : Int32)) (gxd kX7_item 22 rfl) rfl ?_
        refine R_iload_n (gxd kX7_item 23 rfl) rfl rfl ?_
        refine R_imul (gxd kX7_item 24 rfl) ?_
        refine R_iload_n (gxd kX7_item 25 rfl) rfl rfl ?_
        refine R_iadd (gxd kX7_item 26 rfl) ?_
        obtain ⟨b7, H⟩ := ggi H
        have b7 := gin_in b7
        refine R_iald (gxd kX7_item 27 rfl) gk_106 b7 ?_
        refine R_goto (gxd kX7_item 28 rfl) (tgt := 51) rfl ?_
        obtain rfl := Option.some.inj H
        exact R_iret (gxd kX7_item 30 rfl) rfl
def fM_copy_145 (k121 : Int32 → gH → Option (Int32 × gH)) (v1 : Int32) (v2 : Int32) (v3 : Int32) (v4 : Int32) (v5 : Int32) (v6 : Int32) (v7 : Int32) (s0 : Int32) (h : gH) : Option (Int32 × gH) :=
  gg (gin ((((40 : Int32) * v1) + v2) + s0) 160) <|
  gg (gin ((((40 : Int32) * v3) + v4) + s0) 160) <|
  glet (hu h 106 ((((40 : Int32) * v3) + v4) + s0).toNatClampNeg (h 106 ((((40 : Int32) * v1) + v2) + s0).toNatClampNeg)) fun h13 =>
  k121 (v7 + (1 : Int32)) h13
theorem fM_copy_145_ok {d : Nat} {k121 : Int32 → gH → Option (Int32 × gH)} {v1 : Int32} {v2 : Int32} {v3 : Int32} {v4 : Int32} {v5 : Int32} {v6 : Int32} {v7 : Int32} {s0 : Int32} (hk121 : ∀ (u7 : Int32) (h : gH) (x : (Int32 × gH)), k121 u7 h = some x → gR RX7 cX7_copy 9 (some .int) (d + 2) 121 [.ref 65, .int v1, .int v2, .int v3, .int v4, .int v5, .int v6, .int u7, .null] [] h (some (.int x.1)) x.2) {h : gH} {x : (Int32 × gH)} (H : fM_copy_145 k121 v1 v2 v3 v4 v5 v6 v7 s0 h = some x) : gR RX7 cX7_copy 9 (some .int) (d + 2) 145 [.ref 65, .int v1, .int v2, .int v3, .int v4, .int v5, .int v6, .int v7, .null] [.int s0] h (some (.int x.1)) x.2 := by
  unfold fM_copy_145 at H
  refine R_istore (gxd kX7_copy 79 rfl) rfl (Nat.le_of_ble_eq_true rfl) rfl ?_
  refine R_aload_n (gxd kX7_copy 80 rfl) rfl rfl ?_
  refine R_getr (gxd kX7_copy 81 rfl) gf_M_135 gk_65 (by decide) rfl ?_
  refine R_bipush (v := (40 : Int32)) (gxd kX7_copy 82 rfl) rfl ?_
  refine R_iload_n (gxd kX7_copy 83 rfl) rfl rfl ?_
  refine R_imul (gxd kX7_copy 84 rfl) ?_
  refine R_iload (gxd kX7_copy 85 rfl) rfl ?_
  refine R_iadd (gxd kX7_copy 86 rfl) ?_
  refine R_iload (gxd kX7_copy 87 rfl) rfl ?_
  refine R_iadd (gxd kX7_copy 88 rfl) ?_
  refine R_aload_n (gxd kX7_copy 89 rfl) rfl rfl ?_
  refine R_getr (gxd kX7_copy 90 rfl) gf_M_135 gk_65 (by decide) rfl ?_
  refine R_bipush (v := (40 : Int32)) (gxd kX7_copy 91 rfl) rfl ?_
  refine R_iload_n (gxd kX7_copy 92 rfl) rfl rfl ?_
  refine R_imul (gxd kX7_copy 93 rfl) ?_
  refine R_iload_n (gxd kX7_copy 94 rfl) rfl rfl ?_
  refine R_iadd (gxd kX7_copy 95 rfl) ?_
  refine R_iload (gxd kX7_copy 96 rfl) rfl ?_
  refine R_iadd (gxd kX7_copy 97 rfl) ?_
  obtain ⟨b11, H⟩ := ggi H
  have b11 := gin_in b11
  refine R_iald (gxd kX7_copy 98 rfl) gk_106 b11 ?_
  obtain ⟨b12, H⟩ := ggi H
  have b12 := gin_in b12
  refine R_iast (gxd kX7_copy 99 rfl) gk_106 b12 ?_
  obtain ⟨h13, e14, H⟩ := glei H
  refine R_heq e14 ?_
  refine R_iinc (v := (v7 + (1 : Int32))) (gxd kX7_copy 100 rfl) rfl rfl rfl (Nat.le_of_ble_eq_true rfl) rfl ?_
  refine R_goto (gxd kX7_copy 101 rfl) (tgt := 121) rfl ?_
  exact R_weak (gle_same (gle_same (gle_same (gle_same (gle_same (gle_same (gle_same (gle_same (gle_null gle_nil))))))))) (hk121 _ _ _  H)
def fM_copy_121 (v1 : Int32) (v2 : Int32) (v3 : Int32) (v4 : Int32) (v5 : Int32) (v6 : Int32) : Nat → Int32 → gH → Option (Int32 × gH)
  | 0, _, _ => none
  | n + 1, v7, h =>
    if v7 < v5 then
      if v6 = (0 : Int32) then
        fM_copy_145 (fM_copy_121 v1 v2 v3 v4 v5 v6 n) v1 v2 v3 v4 v5 v6 v7 v7 h
      else
        fM_copy_145 (fM_copy_121 v1 v2 v3 v4 v5 v6 n) v1 v2 v3 v4 v5 v6 v7 ((v5 - (1 : Int32)) - v7) h
    else
      some (v5, h)
theorem fM_copy_121_ok {d : Nat} {v1 : Int32} {v2 : Int32} {v3 : Int32} {v4 : Int32} {v5 : Int32} {v6 : Int32}  : ∀ (n : Nat) (v7 : Int32) (h : gH) (x : (Int32 × gH)), fM_copy_121 v1 v2 v3 v4 v5 v6 n v7 h = some x → gR RX7 cX7_copy 9 (some .int) (d + 2) 121 [.ref 65, .int v1, .int v2, .int v3, .int v4, .int v5, .int v6, .int v7, .null] [] h (some (.int x.1)) x.2 := by
  intro n
  induction n with
  | zero => intro v7 h x  H; exact g0 H
  | succ n ih =>
    intro v7 h x  H
    unfold fM_copy_121 at H
    refine R_iload (gxd kX7_copy 67 rfl) rfl ?_
    refine R_iload (gxd kX7_copy 68 rfl) rfl ?_
    refine R_icmp_ge (gxd kX7_copy 69 rfl) (tgt := 182) rfl (fun q => ?_) (fun q => ?_)
    · replace H := giff q H
      refine R_iload (gxd kX7_copy 102 rfl) rfl ?_
      obtain rfl := Option.some.inj H
      exact R_iret (gxd kX7_copy 103 rfl) rfl
    · replace H := gift q H
      refine R_iload (gxd kX7_copy 70 rfl) rfl ?_
      refine R_if_eq (gxd kX7_copy 71 rfl) (tgt := 143) rfl (fun q => ?_) (fun q => ?_)
      · replace H := gift q H
        refine R_iload (gxd kX7_copy 78 rfl) rfl ?_
        exact R_weak (gle_same (gle_same (gle_same (gle_same (gle_same (gle_same (gle_same (gle_same (gle_null gle_nil))))))))) (fM_copy_145_ok ih  H)
      · replace H := giff q H
        refine R_iload (gxd kX7_copy 72 rfl) rfl ?_
        refine R_iconst (v := (1 : Int32)) (gxd kX7_copy 73 rfl) rfl ?_
        refine R_isub (gxd kX7_copy 74 rfl) ?_
        refine R_iload (gxd kX7_copy 75 rfl) rfl ?_
        refine R_isub (gxd kX7_copy 76 rfl) ?_
        refine R_goto (gxd kX7_copy 77 rfl) (tgt := 145) rfl ?_
        exact R_weak (gle_same (gle_same (gle_same (gle_same (gle_same (gle_same (gle_same (gle_same (gle_null gle_nil))))))))) (fM_copy_145_ok ih  H)
def fM_copy_116 (v1 : Int32) (v2 : Int32) (v3 : Int32) (v4 : Int32) (v5 : Int32) (s0 : Int32) (h : gH) : Option (Int32 × gH) :=
  fM_copy_121 v1 v2 v3 v4 v5 s0 gfu (0 : Int32) h
theorem fM_copy_116_ok {d : Nat} {v1 : Int32} {v2 : Int32} {v3 : Int32} {v4 : Int32} {v5 : Int32} {s0 : Int32}  {h : gH} {x : (Int32 × gH)} (H : fM_copy_116 v1 v2 v3 v4 v5 s0 h = some x) : gR RX7 cX7_copy 9 (some .int) (d + 2) 116 [.ref 65, .int v1, .int v2, .int v3, .int v4, .int v5, .null, .null, .null] [.int s0] h (some (.int x.1)) x.2 := by
  unfold fM_copy_116 at H
  refine R_istore (gxd kX7_copy 64 rfl) rfl (Nat.le_of_ble_eq_true rfl) rfl ?_
  refine R_iconst (v := (0 : Int32)) (gxd kX7_copy 65 rfl) rfl ?_
  refine R_istore (gxd kX7_copy 66 rfl) rfl (Nat.le_of_ble_eq_true rfl) rfl ?_
  exact R_weak (gle_same (gle_same (gle_same (gle_same (gle_same (gle_same (gle_same (gle_same (gle_null gle_nil))))))))) (fM_copy_121_ok  gfu _ _ _  H)
def fM_copy_115 (v1 : Int32) (v2 : Int32) (v3 : Int32) (v4 : Int32) (v5 : Int32) (h : gH) : Option (Int32 × gH) :=
  fM_copy_116 v1 v2 v3 v4 v5 (0 : Int32) h
theorem fM_copy_115_ok {d : Nat} {v1 : Int32} {v2 : Int32} {v3 : Int32} {v4 : Int32} {v5 : Int32}  {h : gH} {x : (Int32 × gH)} (H : fM_copy_115 v1 v2 v3 v4 v5  h = some x) : gR RX7 cX7_copy 9 (some .int) (d + 2) 115 [.ref 65, .int v1, .int v2, .int v3, .int v4, .int v5, .null, .null, .null] [] h (some (.int x.1)) x.2 := by
  unfold fM_copy_115 at H
  refine R_iconst (v := (0 : Int32)) (gxd kX7_copy 63 rfl) rfl ?_
  exact R_weak (gle_same (gle_same (gle_same (gle_same (gle_same (gle_same (gle_null (gle_null (gle_null gle_nil))))))))) (fM_copy_116_ok  H)
def fM_copy (v1 : Int32) (v2 : Int32) (v3 : Int32) (v4 : Int32) (v5 : Int32) (h : gH) : Option (Int32 × gH) :=
  (fM_isSheet v1 h).bind fun p1 =>
  if p1.1 = (0 : Int32) then
    some ((-2 : Int32), p1.2)
  else
    (fM_isSheet v3 p1.2).bind fun p3 =>
    if p3.1 = (0 : Int32) then
      some ((-2 : Int32), p3.2)
    else
      gg (gin v1 4) <|
      if (p3.2 103 v1.toNatClampNeg) = (0 : Int32) then
        some ((-11 : Int32), p3.2)
      else
        gg (gin v3 4) <|
        if (p3.2 103 v3.toNatClampNeg) = (0 : Int32) then
          some ((-11 : Int32), p3.2)
        else
          gg (gin v1 4) <|
          gg (gin v3 4) <|
          if (p3.2 104 v1.toNatClampNeg) = (p3.2 104 v3.toNatClampNeg) then
            if v5 < (0 : Int32) then
              some ((-12 : Int32), p3.2)
            else
              if v2 < (0 : Int32) then
                some ((-12 : Int32), p3.2)
              else
                if v4 < (0 : Int32) then
                  some ((-12 : Int32), p3.2)
                else
                  gg (gin v1 4) <|
                  if ((p3.2 105 v1.toNatClampNeg) - v5) < v2 then
                    some ((-12 : Int32), p3.2)
                  else
                    gg (gin v3 4) <|
                    if ((p3.2 105 v3.toNatClampNeg) - v5) < v4 then
                      some ((-12 : Int32), p3.2)
                    else
                      if v1 = v3 then
                        if v2 < v4 then
                          fM_copy_116 v1 v2 v3 v4 v5 (1 : Int32) p3.2
                        else
                          fM_copy_115 v1 v2 v3 v4 v5 p3.2
                      else
                        fM_copy_115 v1 v2 v3 v4 v5 p3.2
          else
            some ((-13 : Int32), p3.2)
theorem fM_copy_ok {v1 : Int32} {v2 : Int32} {v3 : Int32} {v4 : Int32} {v5 : Int32} {h : gH} {x : (Int32 × gH)} (H : fM_copy v1 v2 v3 v4 v5 h = some x) (d : Nat) : gC yX7_copy cX7_copy 9 (some .int) (d + 2) [.ref 65, .int v1, .int v2, .int v3, .int v4, .int v5] h (some (.int x.1)) x.2 := by
  refine gC_of (by decide +kernel) (Nat.le_of_ble_eq_true rfl) rfl ?_
  unfold fM_copy at H
  refine R_iload_n (gxd kX7_copy 0 rfl) rfl rfl ?_
  obtain ⟨p1, e2, H⟩ := gbi H
  refine R_callSi (gxd kX7_copy 1 rfl) gm_M_424 wX7_isSheet (by decide) rfl (Nat.le_of_ble_eq_true rfl) (by omega) (fM_isSheet_ok  e2 (d + 0)) ?_
  refine R_if_eq (gxd kX7_copy 2 rfl) (tgt := 14) rfl (fun q => ?_) (fun q => ?_)
  · replace H := gift q H
    refine R_bipush (v := (-2 : Int32)) (gxd kX7_copy 6 rfl) rfl ?_
    obtain rfl := Option.some.inj H
    exact R_iret (gxd kX7_copy 7 rfl) rfl
  · replace H := giff q H
    refine R_iload_n (gxd kX7_copy 3 rfl) rfl rfl ?_
    obtain ⟨p3, e4, H⟩ := gbi H
    refine R_callSi (gxd kX7_copy 4 rfl) gm_M_424 wX7_isSheet (by decide) rfl (Nat.le_of_ble_eq_true rfl) (by omega) (fM_isSheet_ok  e4 (d + 0)) ?_
    refine R_if_ne (gxd kX7_copy 5 rfl) (tgt := 17) rfl (fun q => ?_) (fun q => ?_)
    · replace H := giff q H
      refine R_aload_n (gxd kX7_copy 8 rfl) rfl rfl ?_
      refine R_getr (gxd kX7_copy 9 rfl) gf_M_126 gk_65 (by decide) rfl ?_
      refine R_iload_n (gxd kX7_copy 10 rfl) rfl rfl ?_
      obtain ⟨b5, H⟩ := ggi H
      have b5 := gin_in b5
      refine R_zald (gxd kX7_copy 11 rfl) gk_103 b5 ?_
      refine R_if_eq (gxd kX7_copy 12 rfl) (tgt := 35) rfl (fun q => ?_) (fun q => ?_)
      · replace H := gift q H
        refine R_bipush (v := (-11 : Int32)) (gxd kX7_copy 18 rfl) rfl ?_
        obtain rfl := Option.some.inj H
        exact R_iret (gxd kX7_copy 19 rfl) rfl
      · replace H := giff q H
        refine R_aload_n (gxd kX7_copy 13 rfl) rfl rfl ?_
        refine R_getr (gxd kX7_copy 14 rfl) gf_M_126 gk_65 (by decide) rfl ?_
        refine R_iload_n (gxd kX7_copy 15 rfl) rfl rfl ?_
        obtain ⟨b6, H⟩ := ggi H
        have b6 := gin_in b6
        refine R_zald (gxd kX7_copy 16 rfl) gk_103 b6 ?_
        refine R_if_ne (gxd kX7_copy 17 rfl) (tgt := 38) rfl (fun q => ?_) (fun q => ?_)
        · replace H := giff q H
          refine R_aload_n (gxd kX7_copy 20 rfl) rfl rfl ?_
          refine R_getr (gxd kX7_copy 21 rfl) gf_M_129 gk_65 (by decide) rfl ?_
          refine R_iload_n (gxd kX7_copy 22 rfl) rfl rfl ?_
          obtain ⟨b7, H⟩ := ggi H
          have b7 := gin_in b7
          refine R_iald (gxd kX7_copy 23 rfl) gk_104 b7 ?_
          refine R_aload_n (gxd kX7_copy 24 rfl) rfl rfl ?_
          refine R_getr (gxd kX7_copy 25 rfl) gf_M_129 gk_65 (by decide) rfl ?_
          refine R_iload_n (gxd kX7_copy 26 rfl) rfl rfl ?_
          obtain ⟨b8, H⟩ := ggi H
          have b8 := gin_in b8
          refine R_iald (gxd kX7_copy 27 rfl) gk_104 b8 ?_
          refine R_icmp_eq (gxd kX7_copy 28 rfl) (tgt := 56) rfl (fun q => ?_) (fun q => ?_)
          · replace H := gift q H
            refine R_iload (gxd kX7_copy 31 rfl) rfl ?_
            refine R_if_lt (gxd kX7_copy 32 rfl) (tgt := 97) rfl (fun q => ?_) (fun q => ?_)
            · replace H := gift q H
              refine R_bipush (v := (-12 : Int32)) (gxd kX7_copy 53 rfl) rfl ?_
              obtain rfl := Option.some.inj H
              exact R_iret (gxd kX7_copy 54 rfl) rfl
            · replace H := giff q H
              refine R_iload_n (gxd kX7_copy 33 rfl) rfl rfl ?_
              refine R_if_lt (gxd kX7_copy 34 rfl) (tgt := 97) rfl (fun q => ?_) (fun q => ?_)
              · replace H := gift q H
                refine R_bipush (v := (-12 : Int32)) (gxd kX7_copy 53 rfl) rfl ?_
                obtain rfl := Option.some.inj H
                exact R_iret (gxd kX7_copy 54 rfl) rfl
              · replace H := giff q H
                refine R_iload (gxd kX7_copy 35 rfl) rfl ?_
                refine R_if_lt (gxd kX7_copy 36 rfl) (tgt := 97) rfl (fun q => ?_) (fun q => ?_)
                · replace H := gift q H
                  refine R_bipush (v := (-12 : Int32)) (gxd kX7_copy 53 rfl) rfl ?_
                  obtain rfl := Option.some.inj H
                  exact R_iret (gxd kX7_copy 54 rfl) rfl
                · replace H := giff q H
                  refine R_iload_n (gxd kX7_copy 37 rfl) rfl rfl ?_
                  refine R_aload_n (gxd kX7_copy 38 rfl) rfl rfl ?_
                  refine R_getr (gxd kX7_copy 39 rfl) gf_M_132 gk_65 (by decide) rfl ?_
                  refine R_iload_n (gxd kX7_copy 40 rfl) rfl rfl ?_
                  obtain ⟨b9, H⟩ := ggi H
                  have b9 := gin_in b9
                  refine R_iald (gxd kX7_copy 41 rfl) gk_105 b9 ?_
                  refine R_iload (gxd kX7_copy 42 rfl) rfl ?_
                  refine R_isub (gxd kX7_copy 43 rfl) ?_
                  refine R_icmp_gt (gxd kX7_copy 44 rfl) (tgt := 97) rfl (fun q => ?_) (fun q => ?_)
                  · replace H := gift q H
                    refine R_bipush (v := (-12 : Int32)) (gxd kX7_copy 53 rfl) rfl ?_
                    obtain rfl := Option.some.inj H
                    exact R_iret (gxd kX7_copy 54 rfl) rfl
                  · replace H := giff q H
                    refine R_iload (gxd kX7_copy 45 rfl) rfl ?_
                    refine R_aload_n (gxd kX7_copy 46 rfl) rfl rfl ?_
                    refine R_getr (gxd kX7_copy 47 rfl) gf_M_132 gk_65 (by decide) rfl ?_
                    refine R_iload_n (gxd kX7_copy 48 rfl) rfl rfl ?_
                    obtain ⟨b10, H⟩ := ggi H
                    have b10 := gin_in b10
                    refine R_iald (gxd kX7_copy 49 rfl) gk_105 b10 ?_
                    refine R_iload (gxd kX7_copy 50 rfl) rfl ?_
                    refine R_isub (gxd kX7_copy 51 rfl) ?_
                    refine R_icmp_le (gxd kX7_copy 52 rfl) (tgt := 100) rfl (fun q => ?_) (fun q => ?_)
                    · replace H := giff q H
                      refine R_iload_n (gxd kX7_copy 55 rfl) rfl rfl ?_
                      refine R_iload_n (gxd kX7_copy 56 rfl) rfl rfl ?_
                      refine R_icmp_ne (gxd kX7_copy 57 rfl) (tgt := 115) rfl (fun q => ?_) (fun q => ?_)
                      · replace H := giff q H
                        exact R_weak (gle_same (gle_same (gle_same (gle_same (gle_same (gle_same (gle_null (gle_null (gle_null gle_nil))))))))) (fM_copy_115_ok  H)
                      · replace H := gift q H
                        refine R_iload_n (gxd kX7_copy 58 rfl) rfl rfl ?_
                        refine R_iload (gxd kX7_copy 59 rfl) rfl ?_
                        refine R_icmp_ge (gxd kX7_copy 60 rfl) (tgt := 115) rfl (fun q => ?_) (fun q => ?_)
                        · replace H := giff q H
                          exact R_weak (gle_same (gle_same (gle_same (gle_same (gle_same (gle_same (gle_null (gle_null (gle_null gle_nil))))))))) (fM_copy_115_ok  H)
                        · replace H := gift q H
                          refine R_iconst (v := (1 : Int32)) (gxd kX7_copy 61 rfl) rfl ?_
                          refine R_goto (gxd kX7_copy 62 rfl) (tgt := 116) rfl ?_
                          exact R_weak (gle_same (gle_same (gle_same (gle_same (gle_same (gle_same (gle_null (gle_null (gle_null gle_nil))))))))) (fM_copy_116_ok  H)
                    · replace H := gift q H
                      refine R_bipush (v := (-12 : Int32)) (gxd kX7_copy 53 rfl) rfl ?_
                      obtain rfl := Option.some.inj H
                      exact R_iret (gxd kX7_copy 54 rfl) rfl
          · replace H := giff q H
            refine R_bipush (v := (-13 : Int32)) (gxd kX7_copy 29 rfl) rfl ?_
            obtain rfl := Option.some.inj H
            exact R_iret (gxd kX7_copy 30 rfl) rfl
        · replace H := gift q H
          refine R_bipush (v := (-11 : Int32)) (gxd kX7_copy 18 rfl) rfl ?_
          obtain rfl := Option.some.inj H
          exact R_iret (gxd kX7_copy 19 rfl) rfl
    · replace H := gift q H
      refine R_bipush (v := (-2 : Int32)) (gxd kX7_copy 6 rfl) rfl ?_
      obtain rfl := Option.some.inj H
      exact R_iret (gxd kX7_copy 7 rfl) rfl
def fM_load_149 (k75 : Int32 → Int32 → gH → Option (Int32 × gH)) (v1 : Int32) (v3 : Int32) (v4 : Int32) (v6 : Int32) (s0 : Int32) (s1 : Int32) (h : gH) : Option (Int32 × gH) :=
  k75 (s0 + s1) (v6 + (1 : Int32)) h
theorem fM_load_149_ok {d : Nat} {k75 : Int32 → Int32 → gH → Option (Int32 × gH)} {v1 : Int32} {v3 : Int32} {v4 : Int32} {v6 : Int32} {s0 : Int32} {s1 : Int32} (hk75 : ∀ (u5 : Int32) (u6 : Int32) (h : gH) (x : (Int32 × gH)), k75 u5 u6 h = some x → gR RX7 cX7_load 8 (some .int) (d + 4) 75 [.ref 65, .int v1, .null, .int v3, .int v4, .int u5, .int u6, .null] [] h (some (.int x.1)) x.2) {h : gH} {x : (Int32 × gH)} (H : fM_load_149 k75 v1 v3 v4 v6 s0 s1 h = some x) : gR RX7 cX7_load 8 (some .int) (d + 4) 149 [.ref 65, .int v1, .null, .int v3, .int v4, .null, .int v6, .null] [.int s1, .int s0] h (some (.int x.1)) x.2 := by
  unfold fM_load_149 at H
  refine R_iadd (gxd kX7_load 87 rfl) ?_
  refine R_istore (gxd kX7_load 88 rfl) rfl (Nat.le_of_ble_eq_true rfl) rfl ?_
  refine R_iinc (v := (v6 + (1 : Int32))) (gxd kX7_load 89 rfl) rfl rfl rfl (Nat.le_of_ble_eq_true rfl) rfl ?_
  refine R_goto (gxd kX7_load 90 rfl) (tgt := 75) rfl ?_
  exact R_weak (gle_same (gle_same (gle_null (gle_same (gle_same (gle_same (gle_same (gle_null gle_nil)))))))) (hk75 _ _ _ _  H)
def fM_load_75 (v1 : Int32) (v3 : Int32) (v4 : Int32) : Nat → Int32 → Int32 → gH → Option (Int32 × gH)
  | 0, _, _, _ => none
  | n + 1, v5, v6, h =>
    if v6 < v4 then
      if v3 < (0 : Int32) then
        some ((-12 : Int32), h)
      else
        gg (gin v1 4) <|
        if (((h 105 v1.toNatClampNeg) - ((2 : Int32) * v6)) - (2 : Int32)) < v3 then
          some ((-12 : Int32), h)
        else
          gg (gin ((((40 : Int32) * v1) + v3) + ((2 : Int32) * v6)) 160) <|
          gg (gin (((((40 : Int32) * v1) + v3) + ((2 : Int32) * v6)) + (1 : Int32)) 160) <|
          (fM_tell (h 106 ((((40 : Int32) * v1) + v3) + ((2 : Int32) * v6)).toNatClampNeg) (h 106 (((((40 : Int32) * v1) + v3) + ((2 : Int32) * v6)) + (1 : Int32)).toNatClampNeg) h).bind fun p12 =>
          if p12.1 < (0 : Int32) then
            fM_load_149 (fM_load_75 v1 v3 v4 n) v1 v3 v4 v6 v5 (0 : Int32) p12.2
          else
            fM_load_149 (fM_load_75 v1 v3 v4 n) v1 v3 v4 v6 v5 (1 : Int32) p12.2
    else
      some (v5, h)
theorem fM_load_75_ok {d : Nat} {v1 : Int32} {v3 : Int32} {v4 : Int32}  : ∀ (n : Nat) (v5 : Int32) (v6 : Int32) (h : gH) (x : (Int32 × gH)), fM_load_75 v1 v3 v4 n v5 v6 h = some x → gR RX7 cX7_load 8 (some .int) (d + 4) 75 [.ref 65, .int v1, .null, .int v3, .int v4, .int v5, .int v6, .null] [] h (some (.int x.1)) x.2 := by
  intro n
  induction n with
  | zero => intro v5 v6 h x  H; exact g0 H
  | succ n ih =>
    intro v5 v6 h x  H
    unfold fM_load_75 at H
    refine R_iload (gxd kX7_load 41 rfl) rfl ?_
    refine R_iload (gxd kX7_load 42 rfl) rfl ?_
    refine R_icmp_ge (gxd kX7_load 43 rfl) (tgt := 158) rfl (fun q => ?_) (fun q => ?_)
    · replace H := giff q H
      refine R_iload (gxd kX7_load 91 rfl) rfl ?_
      obtain rfl := Option.some.inj H
      exact R_iret (gxd kX7_load 92 rfl) rfl
    · replace H := gift q H
      refine R_iload_n (gxd kX7_load 44 rfl) rfl rfl ?_
      refine R_if_lt (gxd kX7_load 45 rfl) (tgt := 103) rfl (fun q => ?_) (fun q => ?_)
      · replace H := gift q H
        refine R_bipush (v := (-12 : Int32)) (gxd kX7_load 58 rfl) rfl ?_
        obtain rfl := Option.some.inj H
        exact R_iret (gxd kX7_load 59 rfl) rfl
      · replace H := giff q H
        refine R_iload_n (gxd kX7_load 46 rfl) rfl rfl ?_
        refine R_aload_n (gxd kX7_load 47 rfl) rfl rfl ?_
        refine R_getr (gxd kX7_load 48 rfl) gf_M_132 gk_65 (by decide) rfl ?_
        refine R_iload_n (gxd kX7_load 49 rfl) rfl rfl ?_
        obtain ⟨b9, H⟩ := ggi H
        have b9 := gin_in b9
        refine R_iald (gxd kX7_load 50 rfl) gk_105 b9 ?_
        refine R_iconst (v := (2 : Int32)) (gxd kX7_load 51 rfl) rfl ?_
        refine R_iload (gxd kX7_load 52 rfl) rfl ?_
        refine R_imul (gxd kX7_load 53 rfl) ?_
        refine R_isub (gxd kX7_load 54 rfl) ?_
        refine R_iconst (v := (2 : Int32)) (gxd kX7_load 55 rfl) rfl ?_
        refine R_isub (gxd kX7_load 56 rfl) ?_
        refine R_icmp_le (gxd kX7_load 57 rfl) (tgt := 106) rfl (fun q => ?_) (fun q => ?_)
        · replace H := giff q H
          refine R_bipush (v := (40 : Int32)) (gxd kX7_load 60 rfl) rfl ?_
          refine R_iload_n (gxd kX7_load 61 rfl) rfl rfl ?_
          refine R_imul (gxd kX7_load 62 rfl) ?_
          refine R_iload_n (gxd kX7_load 63 rfl) rfl rfl ?_
          refine R_iadd (gxd kX7_load 64 rfl) ?_
          refine R_iconst (v := (2 : Int32)) (gxd kX7_load 65 rfl) rfl ?_
          refine R_iload (gxd kX7_load 66 rfl) rfl ?_
          refine R_imul (gxd kX7_load 67 rfl) ?_
          refine R_iadd (gxd kX7_load 68 rfl) ?_
          refine R_istore (gxd kX7_load 69 rfl) rfl (Nat.le_of_ble_eq_true rfl) rfl ?_
          refine R_iload (gxd kX7_load 70 rfl) rfl ?_
          refine R_aload_n (gxd kX7_load 71 rfl) rfl rfl ?_
          refine R_aload_n (gxd kX7_load 72 rfl) rfl rfl ?_
          refine R_getr (gxd kX7_load 73 rfl) gf_M_135 gk_65 (by decide) rfl ?_
          refine R_iload (gxd kX7_load 74 rfl) rfl ?_
          obtain ⟨b10, H⟩ := ggi H
          have b10 := gin_in b10
          refine R_iald (gxd kX7_load 75 rfl) gk_106 b10 ?_
          refine R_aload_n (gxd kX7_load 76 rfl) rfl rfl ?_
          refine R_getr (gxd kX7_load 77 rfl) gf_M_135 gk_65 (by decide) rfl ?_
          refine R_iload (gxd kX7_load 78 rfl) rfl ?_
          refine R_iconst (v := (1 : Int32)) (gxd kX7_load 79 rfl) rfl ?_
          refine R_iadd (gxd kX7_load 80 rfl) ?_
          obtain ⟨b11, H⟩ := ggi H
          have b11 := gin_in b11
          refine R_iald (gxd kX7_load 81 rfl) gk_106 b11 ?_
          obtain ⟨p12, e13, H⟩ := gbi H
          refine R_callVi (gxd kX7_load 82 rfl) gm_M_462 wX7_tell (by decide) gk_65 rfl rfl (Nat.le_of_ble_eq_true rfl) (by omega) (fM_tell_ok  e13 (d + 0)) ?_
          refine R_if_lt (gxd kX7_load 83 rfl) (tgt := 148) rfl (fun q => ?_) (fun q => ?_)
          · replace H := gift q H
            refine R_iconst (v := (0 : Int32)) (gxd kX7_load 86 rfl) rfl ?_
            exact R_weak (gle_same (gle_same (gle_null (gle_same (gle_same (gle_null (gle_same (gle_null gle_nil)))))))) (fM_load_149_ok ih  H)
          · replace H := giff q H
            refine R_iconst (v := (1 : Int32)) (gxd kX7_load 84 rfl) rfl ?_
            refine R_goto (gxd kX7_load 85 rfl) (tgt := 149) rfl ?_
            exact R_weak (gle_same (gle_same (gle_null (gle_same (gle_same (gle_null (gle_same (gle_null gle_nil)))))))) (fM_load_149_ok ih  H)
        · replace H := gift q H
          refine R_bipush (v := (-12 : Int32)) (gxd kX7_load 58 rfl) rfl ?_
          obtain rfl := Option.some.inj H
          exact R_iret (gxd kX7_load 59 rfl) rfl
def fM_load_57 (v1 : Int32) (v3 : Int32) (v4 : Int32) (h : gH) : Option (Int32 × gH) :=
  gg (gin v1 4) <|
  if (h 103 v1.toNatClampNeg) = (0 : Int32) then
    some ((-11 : Int32), h)
  else
    fM_load_75 v1 v3 v4 gfu (0 : Int32) (0 : Int32) h
theorem fM_load_57_ok {d : Nat} {v1 : Int32} {v3 : Int32} {v4 : Int32}  {h : gH} {x : (Int32 × gH)} (H : fM_load_57 v1 v3 v4  h = some x) : gR RX7 cX7_load 8 (some .int) (d + 4) 57 [.ref 65, .int v1, .null, .int v3, .int v4, .null, .null, .null] [] h (some (.int x.1)) x.2 := by
  unfold fM_load_57 at H
  refine R_aload_n (gxd kX7_load 30 rfl) rfl rfl ?_
  refine R_getr (gxd kX7_load 31 rfl) gf_M_126 gk_65 (by decide) rfl ?_
  refine R_iload_n (gxd kX7_load 32 rfl) rfl rfl ?_
  obtain ⟨b8, H⟩ := ggi H
  have b8 := gin_in b8
  refine R_zald (gxd kX7_load 33 rfl) gk_103 b8 ?_
  refine R_if_ne (gxd kX7_load 34 rfl) (tgt := 69) rfl (fun q => ?_) (fun q => ?_)
  · replace H := giff q H
    refine R_iconst (v := (0 : Int32)) (gxd kX7_load 37 rfl) rfl ?_
    refine R_istore (gxd kX7_load 38 rfl) rfl (Nat.le_of_ble_eq_true rfl) rfl ?_
    refine R_iconst (v := (0 : Int32)) (gxd kX7_load 39 rfl) rfl ?_
    refine R_istore (gxd kX7_load 40 rfl) rfl (Nat.le_of_ble_eq_true rfl) rfl ?_
    exact R_weak (gle_same (gle_same (gle_null (gle_same (gle_same (gle_same (gle_same (gle_null gle_nil)))))))) (fM_load_75_ok  gfu _ _ _ _  H)
  · replace H := gift q H
    refine R_bipush (v := (-11 : Int32)) (gxd kX7_load 35 rfl) rfl ?_
    obtain rfl := Option.some.inj H
    exact R_iret (gxd kX7_load 36 rfl) rfl
def fM_load (v1 : Int32) (v2 : Int32) (v3 : Int32) (v4 : Int32) (h : gH) : Option (Int32 × gH) :=
  (fM_isSheet v1 h).bind fun p1 =>
  if p1.1 = (0 : Int32) then
    some ((-2 : Int32), p1.2)
  else
    (fM_in v2.toInt64 (0 : Int64) (2 : Int64) p1.2).bind fun p3 =>
    if p3.1 = (0 : Int32) then
      some ((-2 : Int32), p3.2)
    else
      (fM_in v4.toInt64 (0 : Int64) (8 : Int64) p3.2).bind fun p5 =>
      if p5.1 = (0 : Int32) then
        some ((-2 : Int32), p5.2)
      else
        gg (gin v1 4) <|
        if (p5.2 103 v1.toNatClampNeg) = (0 : Int32) then
          fM_load_57 v1 v3 v4 p5.2
        else
          gg (gin v1 4) <|
          if (p5.2 104 v1.toNatClampNeg) = v2 then
            fM_load_57 v1 v3 v4 p5.2
          else
            some ((-13 : Int32), p5.2)
theorem fM_load_ok {v1 : Int32} {v2 : Int32} {v3 : Int32} {v4 : Int32} {h : gH} {x : (Int32 × gH)} (H : fM_load v1 v2 v3 v4 h = some x) (d : Nat) : gC yX7_load cX7_load 8 (some .int) (d + 4) [.ref 65, .int v1, .int v2, .int v3, .int v4] h (some (.int x.1)) x.2 := by
  refine gC_of (by decide +kernel) (Nat.le_of_ble_eq_true rfl) rfl ?_
  unfold fM_load at H
  refine R_iload_n (gxd kX7_load 0 rfl) rfl rfl ?_
  obtain ⟨p1, e2, H⟩ := gbi H
  refine R_callSi (gxd kX7_load 1 rfl) gm_M_424 wX7_isSheet (by decide) rfl (Nat.le_of_ble_eq_true rfl) (by omega) (fM_isSheet_ok  e2 (d + 2)) ?_
  refine R_if_eq (gxd kX7_load 2 rfl) (tgt := 32) rfl (fun q => ?_) (fun q => ?_)
  · replace H := gift q H
    refine R_bipush (v := (-2 : Int32)) (gxd kX7_load 15 rfl) rfl ?_
    obtain rfl := Option.some.inj H
    exact R_iret (gxd kX7_load 16 rfl) rfl
  · replace H := giff q H
    refine R_iload_n (gxd kX7_load 3 rfl) rfl rfl ?_
    refine R_i2l (gxd kX7_load 4 rfl) ?_
    refine R_lconst (v := (0 : Int64)) (gxd kX7_load 5 rfl) rfl ?_
    refine R_ldc2 (v := (2 : Int64)) (gxd kX7_load 6 rfl) gc_M_248 ?_
    obtain ⟨p3, e4, H⟩ := gbi H
    refine R_callSi (gxd kX7_load 7 rfl) gm_M_140 wX7_in (by decide) rfl (Nat.le_of_ble_eq_true rfl) (by omega) (fM_in_ok  e4 (d + 3)) ?_
    refine R_if_eq (gxd kX7_load 8 rfl) (tgt := 32) rfl (fun q => ?_) (fun q => ?_)
    · replace H := gift q H
      refine R_bipush (v := (-2 : Int32)) (gxd kX7_load 15 rfl) rfl ?_
      obtain rfl := Option.some.inj H
      exact R_iret (gxd kX7_load 16 rfl) rfl
    · replace H := giff q H
      refine R_iload (gxd kX7_load 9 rfl) rfl ?_
      refine R_i2l (gxd kX7_load 10 rfl) ?_
      refine R_lconst (v := (0 : Int64)) (gxd kX7_load 11 rfl) rfl ?_
      refine R_ldc2 (v := (8 : Int64)) (gxd kX7_load 12 rfl) gc_M_459 ?_
      obtain ⟨p5, e6, H⟩ := gbi H
      refine R_callSi (gxd kX7_load 13 rfl) gm_M_140 wX7_in (by decide) rfl (Nat.le_of_ble_eq_true rfl) (by omega) (fM_in_ok  e6 (d + 3)) ?_
      refine R_if_ne (gxd kX7_load 14 rfl) (tgt := 35) rfl (fun q => ?_) (fun q => ?_)
      · replace H := giff q H
        refine R_aload_n (gxd kX7_load 17 rfl) rfl rfl ?_
        refine R_getr (gxd kX7_load 18 rfl) gf_M_126 gk_65 (by decide) rfl ?_
        refine R_iload_n (gxd kX7_load 19 rfl) rfl rfl ?_
        obtain ⟨b7, H⟩ := ggi H
        have b7 := gin_in b7
        refine R_zald (gxd kX7_load 20 rfl) gk_103 b7 ?_
        refine R_if_eq (gxd kX7_load 21 rfl) (tgt := 57) rfl (fun q => ?_) (fun q => ?_)
        · replace H := gift q H
          exact R_weak (gle_same (gle_same (gle_null (gle_same (gle_same (gle_null (gle_null (gle_null gle_nil)))))))) (fM_load_57_ok  H)
        · replace H := giff q H
          refine R_aload_n (gxd kX7_load 22 rfl) rfl rfl ?_
          refine R_getr (gxd kX7_load 23 rfl) gf_M_129 gk_65 (by decide) rfl ?_
          refine R_iload_n (gxd kX7_load 24 rfl) rfl rfl ?_
          obtain ⟨b14, H⟩ := ggi H
          have b14 := gin_in b14
          refine R_iald (gxd kX7_load 25 rfl) gk_104 b14 ?_
          refine R_iload_n (gxd kX7_load 26 rfl) rfl rfl ?_
          refine R_icmp_eq (gxd kX7_load 27 rfl) (tgt := 57) rfl (fun q => ?_) (fun q => ?_)
          · replace H := gift q H
            exact R_weak (gle_same (gle_same (gle_null (gle_same (gle_same (gle_null (gle_null (gle_null gle_nil)))))))) (fM_load_57_ok  H)
          · replace H := giff q H
            refine R_bipush (v := (-13 : Int32)) (gxd kX7_load 28 rfl) rfl ?_
            obtain rfl := Option.some.inj H
            exact R_iret (gxd kX7_load 29 rfl) rfl
      · replace H := gift q H
        refine R_bipush (v := (-2 : Int32)) (gxd kX7_load 15 rfl) rfl ?_
        obtain rfl := Option.some.inj H
        exact R_iret (gxd kX7_load 16 rfl) rfl
