def fM_in (v0 : Int64) (v2 : Int64) (v4 : Int64) (h : gH) : Option (Int32 × gH) :=
  if (lg_cmp v0 v2) < (0 : Int32) then
    some ((0 : Int32), h)
  else
    if (0 : Int32) < (lg_cmp v0 v4) then
      some ((0 : Int32), h)
    else
      some ((1 : Int32), h)
theorem fM_in_ok {v0 : Int64} {v2 : Int64} {v4 : Int64} {h : gH} {x : (Int32 × gH)} (H : fM_in v0 v2 v4 h = some x) (d : Nat) : gC yX7_in cX7_in 6 (some .boolean) (d + 0) [.long v0, .long v2, .long v4] h (some (.int x.1)) x.2 := by
  refine gC_of (by decide +kernel) (Nat.le_of_ble_eq_true rfl) rfl ?_
  unfold fM_in at H
  refine R_lload_n (gxd kX7_in 0 rfl) rfl rfl ?_
  refine R_lload_n (gxd kX7_in 1 rfl) rfl rfl ?_
  refine R_lcmp (gxd kX7_in 2 rfl) ?_
  refine R_if_lt (gxd kX7_in 3 rfl) (tgt := 17) rfl (fun q => ?_) (fun q => ?_)
  · replace H := gift q H
    refine R_iconst (v := (0 : Int32)) (gxd kX7_in 10 rfl) rfl ?_
    obtain rfl := Option.some.inj H
    exact R_zret (gxd kX7_in 11 rfl) rfl (Or.inl rfl)
  · replace H := giff q H
    refine R_lload_n (gxd kX7_in 4 rfl) rfl rfl ?_
    refine R_lload (gxd kX7_in 5 rfl) rfl ?_
    refine R_lcmp (gxd kX7_in 6 rfl) ?_
    refine R_if_gt (gxd kX7_in 7 rfl) (tgt := 17) rfl (fun q => ?_) (fun q => ?_)
    · replace H := gift q H
      refine R_iconst (v := (0 : Int32)) (gxd kX7_in 10 rfl) rfl ?_
      obtain rfl := Option.some.inj H
      exact R_zret (gxd kX7_in 11 rfl) rfl (Or.inl rfl)
    · replace H := giff q H
      refine R_iconst (v := (1 : Int32)) (gxd kX7_in 8 rfl) rfl ?_
      refine R_goto (gxd kX7_in 9 rfl) (tgt := 18) rfl ?_
      obtain rfl := Option.some.inj H
      exact R_zret (gxd kX7_in 11 rfl) rfl (Or.inr rfl)
def fM_bitsOf_4 : Nat → Int32 → Int32 → gH → Option (Int32 × gH)
  | 0, _, _, _ => none
  | n + 1, v1, v2, h =>
    if v2 = (0 : Int32) then
      some (v1, h)
    else
      fM_bitsOf_4 n (v1 + (1 : Int32)) (v2 &&& (v2 - (1 : Int32))) h
theorem fM_bitsOf_4_ok {d : Nat}  : ∀ (n : Nat) (v1 : Int32) (v2 : Int32) (h : gH) (x : (Int32 × gH)), fM_bitsOf_4  n v1 v2 h = some x → gR RX7 cX7_bitsOf 3 (some .int) (d + 0) 4 [.null, .int v1, .int v2] [] h (some (.int x.1)) x.2 := by
  intro n
  induction n with
  | zero => intro v1 v2 h x  H; exact g0 H
  | succ n ih =>
    intro v1 v2 h x  H
    unfold fM_bitsOf_4 at H
    refine R_iload_n (gxd kX7_bitsOf 4 rfl) rfl rfl ?_
    refine R_if_eq (gxd kX7_bitsOf 5 rfl) (tgt := 20) rfl (fun q => ?_) (fun q => ?_)
    · replace H := gift q H
      refine R_iload_n (gxd kX7_bitsOf 14 rfl) rfl rfl ?_
      obtain rfl := Option.some.inj H
      exact R_iret (gxd kX7_bitsOf 15 rfl) rfl
    · replace H := giff q H
      refine R_iinc (v := (v1 + (1 : Int32))) (gxd kX7_bitsOf 6 rfl) rfl rfl rfl (Nat.le_of_ble_eq_true rfl) rfl ?_
      refine R_iload_n (gxd kX7_bitsOf 7 rfl) rfl rfl ?_
      refine R_iload_n (gxd kX7_bitsOf 8 rfl) rfl rfl ?_
      refine R_iconst (v := (1 : Int32)) (gxd kX7_bitsOf 9 rfl) rfl ?_
      refine R_isub (gxd kX7_bitsOf 10 rfl) ?_
      refine R_iand (gxd kX7_bitsOf 11 rfl) ?_
      refine R_istore_n (gxd kX7_bitsOf 12 rfl) rfl rfl (Nat.le_of_ble_eq_true rfl) rfl ?_
      refine R_goto (gxd kX7_bitsOf 13 rfl) (tgt := 4) rfl ?_
      exact R_weak (gle_null (gle_same (gle_same gle_nil))) (ih _ _ _ _  H)
def fM_bitsOf (v0 : Int32) (h : gH) : Option (Int32 × gH) :=
  fM_bitsOf_4 gfu (0 : Int32) v0 h
theorem fM_bitsOf_ok {v0 : Int32} {h : gH} {x : (Int32 × gH)} (H : fM_bitsOf v0 h = some x) (d : Nat) : gC yX7_bitsOf cX7_bitsOf 3 (some .int) (d + 0) [.int v0] h (some (.int x.1)) x.2 := by
  refine gC_of (by decide +kernel) (Nat.le_of_ble_eq_true rfl) rfl ?_
  unfold fM_bitsOf at H
  refine R_iconst (v := (0 : Int32)) (gxd kX7_bitsOf 0 rfl) rfl ?_
  refine R_istore_n (gxd kX7_bitsOf 1 rfl) rfl rfl (Nat.le_of_ble_eq_true rfl) rfl ?_
  refine R_iload_n (gxd kX7_bitsOf 2 rfl) rfl rfl ?_
  refine R_istore_n (gxd kX7_bitsOf 3 rfl) rfl rfl (Nat.le_of_ble_eq_true rfl) rfl ?_
  exact R_weak (gle_null (gle_same (gle_same gle_nil))) (fM_bitsOf_4_ok  gfu _ _ _ _  H)
def fM_feed (v1 : Int32) (h : gH) : Option (Int32 × gH) :=
  (fM_in v1.toInt64 (0 : Int64) (255 : Int64) h).bind fun p1 =>
  if p1.1 = (0 : Int32) then
    some ((-2 : Int32), p1.2)
  else
    if (p1.2 65 22) = (90 : Int32) then
      some ((-4 : Int32), p1.2)
    else
      gg (gin (p1.2 65 22) 90) <|
      glet (hu p1.2 79 (p1.2 65 22).toNatClampNeg v1) fun h4 =>
      glet (hu h4 65 22 ((h4 65 22) + (1 : Int32))) fun h6 =>
      some ((h6 65 22), h6)
theorem fM_feed_ok {v1 : Int32} {h : gH} {x : (Int32 × gH)} (H : fM_feed v1 h = some x) (d : Nat) : gC yX7_feed cX7_feed 2 (some .int) (d + 1) [.ref 65, .int v1] h (some (.int x.1)) x.2 := by
  refine gC_of (by decide +kernel) (Nat.le_of_ble_eq_true rfl) rfl ?_
  unfold fM_feed at H
  refine R_iload_n (gxd kX7_feed 0 rfl) rfl rfl ?_
  refine R_i2l (gxd kX7_feed 1 rfl) ?_
  refine R_lconst (v := (0 : Int64)) (gxd kX7_feed 2 rfl) rfl ?_
  refine R_ldc2 (v := (255 : Int64)) (gxd kX7_feed 3 rfl) gc_M_138 ?_
  obtain ⟨p1, e2, H⟩ := gbi H
  refine R_callSi (gxd kX7_feed 4 rfl) gm_M_140 wX7_in (by decide) rfl (Nat.le_of_ble_eq_true rfl) (by omega) (fM_in_ok  e2 (d + 0)) ?_
  refine R_if_ne (gxd kX7_feed 5 rfl) (tgt := 15) rfl (fun q => ?_) (fun q => ?_)
  · replace H := giff q H
    refine R_aload_n (gxd kX7_feed 8 rfl) rfl rfl ?_
    refine R_geti (gxd kX7_feed 9 rfl) gf_M_144 gk_65 (by decide) rfl ?_
    refine R_bipush (v := (90 : Int32)) (gxd kX7_feed 10 rfl) rfl ?_
    refine R_icmp_ne (gxd kX7_feed 11 rfl) (tgt := 27) rfl (fun q => ?_) (fun q => ?_)
    · replace H := giff q H
      refine R_aload_n (gxd kX7_feed 14 rfl) rfl rfl ?_
      refine R_getr (gxd kX7_feed 15 rfl) gf_M_54 gk_65 (by decide) rfl ?_
      refine R_aload_n (gxd kX7_feed 16 rfl) rfl rfl ?_
      refine R_geti (gxd kX7_feed 17 rfl) gf_M_144 gk_65 (by decide) rfl ?_
      refine R_iload_n (gxd kX7_feed 18 rfl) rfl rfl ?_
      obtain ⟨b3, H⟩ := ggi H
      have b3 := gin_in b3
      refine R_iast (gxd kX7_feed 19 rfl) gk_79 b3 ?_
      obtain ⟨h4, e5, H⟩ := glei H
      refine R_heq e5 ?_
      refine R_aload_n (gxd kX7_feed 20 rfl) rfl rfl ?_
      refine R_dup (gxd kX7_feed 21 rfl) rfl ?_
      refine R_geti (gxd kX7_feed 22 rfl) gf_M_144 gk_65 (by decide) rfl ?_
      refine R_iconst (v := (1 : Int32)) (gxd kX7_feed 23 rfl) rfl ?_
      refine R_iadd (gxd kX7_feed 24 rfl) ?_
      refine R_puti (gxd kX7_feed 25 rfl) gf_M_144 gp_7_22 gk_65 (by decide) rfl ?_
      obtain ⟨h6, e7, H⟩ := glei H
      refine R_heq e7 ?_
      refine R_aload_n (gxd kX7_feed 26 rfl) rfl rfl ?_
      refine R_geti (gxd kX7_feed 27 rfl) gf_M_144 gk_65 (by decide) rfl ?_
      obtain rfl := Option.some.inj H
      exact R_iret (gxd kX7_feed 28 rfl) rfl
    · replace H := gift q H
      refine R_bipush (v := (-4 : Int32)) (gxd kX7_feed 12 rfl) rfl ?_
      obtain rfl := Option.some.inj H
      exact R_iret (gxd kX7_feed 13 rfl) rfl
  · replace H := gift q H
    refine R_bipush (v := (-2 : Int32)) (gxd kX7_feed 6 rfl) rfl ?_
    obtain rfl := Option.some.inj H
    exact R_iret (gxd kX7_feed 7 rfl) rfl
def fM_byteAt (v1 : Int32) (h : gH) : Option (Int32 × gH) :=
  if v1 < (h 65 22) then
    gg (gin v1 90) <|
    some ((h 79 v1.toNatClampNeg), h)
  else
    some ((-1 : Int32), h)
theorem fM_byteAt_ok {v1 : Int32} {h : gH} {x : (Int32 × gH)} (H : fM_byteAt v1 h = some x) (d : Nat) : gC yX7_byteAt cX7_byteAt 2 (some .int) (d + 0) [.ref 65, .int v1] h (some (.int x.1)) x.2 := by
  refine gC_of (by decide +kernel) (Nat.le_of_ble_eq_true rfl) rfl ?_
  unfold fM_byteAt at H
  refine R_iload_n (gxd kX7_byteAt 0 rfl) rfl rfl ?_
  refine R_aload_n (gxd kX7_byteAt 1 rfl) rfl rfl ?_
  refine R_geti (gxd kX7_byteAt 2 rfl) gf_M_144 gk_65 (by decide) rfl ?_
  refine R_icmp_ge (gxd kX7_byteAt 3 rfl) (tgt := 17) rfl (fun q => ?_) (fun q => ?_)
  · replace H := giff q H
    refine R_iconst (v := (-1 : Int32)) (gxd kX7_byteAt 9 rfl) rfl ?_
    obtain rfl := Option.some.inj H
    exact R_iret (gxd kX7_byteAt 10 rfl) rfl
  · replace H := gift q H
    refine R_aload_n (gxd kX7_byteAt 4 rfl) rfl rfl ?_
    refine R_getr (gxd kX7_byteAt 5 rfl) gf_M_54 gk_65 (by decide) rfl ?_
    refine R_iload_n (gxd kX7_byteAt 6 rfl) rfl rfl ?_
    obtain ⟨b1, H⟩ := ggi H
    have b1 := gin_in b1
    refine R_iald (gxd kX7_byteAt 7 rfl) gk_79 b1 ?_
    refine R_goto (gxd kX7_byteAt 8 rfl) (tgt := 18) rfl ?_
    obtain rfl := Option.some.inj H
    exact R_iret (gxd kX7_byteAt 10 rfl) rfl
def fM_isSignByte (v0 : Int32) (h : gH) : Option (Int32 × gH) :=
  if v0 = (40 : Int32) then
    some ((1 : Int32), h)
  else
    if v0 = (41 : Int32) then
      some ((1 : Int32), h)
    else
      if v0 = (58 : Int32) then
        some ((1 : Int32), h)
      else
        if v0 = (43 : Int32) then
          some ((1 : Int32), h)
        else
          if v0 = (45 : Int32) then
            some ((1 : Int32), h)
          else
            if v0 = (42 : Int32) then
              some ((1 : Int32), h)
            else
              if v0 = (60 : Int32) then
                some ((1 : Int32), h)
              else
                if v0 = (61 : Int32) then
                  some ((1 : Int32), h)
                else
                  if v0 = (62 : Int32) then
                    some ((1 : Int32), h)
                  else
                    if v0 = (33 : Int32) then
                      some ((1 : Int32), h)
                    else
                      some ((0 : Int32), h)
theorem fM_isSignByte_ok {v0 : Int32} {h : gH} {x : (Int32 × gH)} (H : fM_isSignByte v0 h = some x) (d : Nat) : gC yX7_isSignByte cX7_isSignByte 1 (some .boolean) (d + 0) [.int v0] h (some (.int x.1)) x.2 := by
  refine gC_of (by decide +kernel) (Nat.le_of_ble_eq_true rfl) rfl ?_
  unfold fM_isSignByte at H
  refine R_iload_n (gxd kX7_isSignByte 0 rfl) rfl rfl ?_
  refine R_bipush (v := (40 : Int32)) (gxd kX7_isSignByte 1 rfl) rfl ?_
  refine R_icmp_eq (gxd kX7_isSignByte 2 rfl) (tgt := 60) rfl (fun q => ?_) (fun q => ?_)
  · replace H := gift q H
    refine R_iconst (v := (1 : Int32)) (gxd kX7_isSignByte 30 rfl) rfl ?_
    refine R_goto (gxd kX7_isSignByte 31 rfl) (tgt := 65) rfl ?_
    obtain rfl := Option.some.inj H
    exact R_zret (gxd kX7_isSignByte 33 rfl) rfl (Or.inr rfl)
  · replace H := giff q H
    refine R_iload_n (gxd kX7_isSignByte 3 rfl) rfl rfl ?_
    refine R_bipush (v := (41 : Int32)) (gxd kX7_isSignByte 4 rfl) rfl ?_
    refine R_icmp_eq (gxd kX7_isSignByte 5 rfl) (tgt := 60) rfl (fun q => ?_) (fun q => ?_)
    · replace H := gift q H
      refine R_iconst (v := (1 : Int32)) (gxd kX7_isSignByte 30 rfl) rfl ?_
      refine R_goto (gxd kX7_isSignByte 31 rfl) (tgt := 65) rfl ?_
      obtain rfl := Option.some.inj H
      exact R_zret (gxd kX7_isSignByte 33 rfl) rfl (Or.inr rfl)
    · replace H := giff q H
      refine R_iload_n (gxd kX7_isSignByte 6 rfl) rfl rfl ?_
      refine R_bipush (v := (58 : Int32)) (gxd kX7_isSignByte 7 rfl) rfl ?_
      refine R_icmp_eq (gxd kX7_isSignByte 8 rfl) (tgt := 60) rfl (fun q => ?_) (fun q => ?_)
      · replace H := gift q H
        refine R_iconst (v := (1 : Int32)) (gxd kX7_isSignByte 30 rfl) rfl ?_
        refine R_goto (gxd kX7_isSignByte 31 rfl) (tgt := 65) rfl ?_
        obtain rfl := Option.some.inj H
        exact R_zret (gxd kX7_isSignByte 33 rfl) rfl (Or.inr rfl)
      · replace H := giff q H
        refine R_iload_n (gxd kX7_isSignByte 9 rfl) rfl rfl ?_
        refine R_bipush (v := (43 : Int32)) (gxd kX7_isSignByte 10 rfl) rfl ?_
        refine R_icmp_eq (gxd kX7_isSignByte 11 rfl) (tgt := 60) rfl (fun q => ?_) (fun q => ?_)
        · replace H := gift q H
          refine R_iconst (v := (1 : Int32)) (gxd kX7_isSignByte 30 rfl) rfl ?_
          refine R_goto (gxd kX7_isSignByte 31 rfl) (tgt := 65) rfl ?_
          obtain rfl := Option.some.inj H
          exact R_zret (gxd kX7_isSignByte 33 rfl) rfl (Or.inr rfl)
        · replace H := giff q H
          refine R_iload_n (gxd kX7_isSignByte 12 rfl) rfl rfl ?_
          refine R_bipush (v := (45 : Int32)) (gxd kX7_isSignByte 13 rfl) rfl ?_
          refine R_icmp_eq (gxd kX7_isSignByte 14 rfl) (tgt := 60) rfl (fun q => ?_) (fun q => ?_)
          · replace H := gift q H
            refine R_iconst (v := (1 : Int32)) (gxd kX7_isSignByte 30 rfl) rfl ?_
            refine R_goto (gxd kX7_isSignByte 31 rfl) (tgt := 65) rfl ?_
            obtain rfl := Option.some.inj H
            exact R_zret (gxd kX7_isSignByte 33 rfl) rfl (Or.inr rfl)
          · replace H := giff q H
            refine R_iload_n (gxd kX7_isSignByte 15 rfl) rfl rfl ?_
            refine R_bipush (v := (42 : Int32)) (gxd kX7_isSignByte 16 rfl) rfl ?_
            refine R_icmp_eq (gxd kX7_isSignByte 17 rfl) (tgt := 60) rfl (fun q => ?_) (fun q => ?_)
            · replace H := gift q H
              refine R_iconst (v := (1 : Int32)) (gxd kX7_isSignByte 30 rfl) rfl ?_
              refine R_goto (gxd kX7_isSignByte 31 rfl) (tgt := 65) rfl ?_
              obtain rfl := Option.some.inj H
              exact R_zret (gxd kX7_isSignByte 33 rfl) rfl (Or.inr rfl)
            · replace H := giff q H
              refine R_iload_n (gxd kX7_isSignByte 18 rfl) rfl rfl ?_
              refine R_bipush (v := (60 : Int32)) (gxd kX7_isSignByte 19 rfl) rfl ?_
              refine R_icmp_eq (gxd kX7_isSignByte 20 rfl) (tgt := 60) rfl (fun q => ?_) (fun q => ?_)
              · replace H := gift q H
                refine R_iconst (v := (1 : Int32)) (gxd kX7_isSignByte 30 rfl) rfl ?_
                refine R_goto (gxd kX7_isSignByte 31 rfl) (tgt := 65) rfl ?_
                obtain rfl := Option.some.inj H
                exact R_zret (gxd kX7_isSignByte 33 rfl) rfl (Or.inr rfl)
              · replace H := giff q H
                refine R_iload_n (gxd kX7_isSignByte 21 rfl) rfl rfl ?_
                refine R_bipush (v := (61 : Int32)) (gxd kX7_isSignByte 22 rfl) rfl ?_
                refine R_icmp_eq (gxd kX7_isSignByte 23 rfl) (tgt := 60) rfl (fun q => ?_) (fun q => ?_)
                · replace H := gift q H
                  refine R_iconst (v := (1 : Int32)) (gxd kX7_isSignByte 30 rfl) rfl ?_
                  refine R_goto (gxd kX7_isSignByte 31 rfl) (tgt := 65) rfl ?_
                  obtain rfl := Option.some.inj H
                  exact R_zret (gxd kX7_isSignByte 33 rfl) rfl (Or.inr rfl)
                · replace H := giff q H
                  refine R_iload_n (gxd kX7_isSignByte 24 rfl) rfl rfl ?_
                  refine R_bipush (v := (62 : Int32)) (gxd kX7_isSignByte 25 rfl) rfl ?_
                  refine R_icmp_eq (gxd kX7_isSignByte 26 rfl) (tgt := 60) rfl (fun q => ?_) (fun q => ?_)
                  · replace H := gift q H
                    refine R_iconst (v := (1 : Int32)) (gxd kX7_isSignByte 30 rfl) rfl ?_
                    refine R_goto (gxd kX7_isSignByte 31 rfl) (tgt := 65) rfl ?_
                    obtain rfl := Option.some.inj H
                    exact R_zret (gxd kX7_isSignByte 33 rfl) rfl (Or.inr rfl)
                  · replace H := giff q H
                    refine R_iload_n (gxd kX7_isSignByte 27 rfl) rfl rfl ?_
                    refine R_bipush (v := (33 : Int32)) (gxd kX7_isSignByte 28 rfl) rfl ?_
                    refine R_icmp_ne (gxd kX7_isSignByte 29 rfl) (tgt := 64) rfl (fun q => ?_) (fun q => ?_)
                    · replace H := giff q H
                      refine R_iconst (v := (0 : Int32)) (gxd kX7_isSignByte 32 rfl) rfl ?_
                      obtain rfl := Option.some.inj H
                      exact R_zret (gxd kX7_isSignByte 33 rfl) rfl (Or.inl rfl)
                    · replace H := gift q H
                      refine R_iconst (v := (1 : Int32)) (gxd kX7_isSignByte 30 rfl) rfl ?_
                      refine R_goto (gxd kX7_isSignByte 31 rfl) (tgt := 65) rfl ?_
                      obtain rfl := Option.some.inj H
                      exact R_zret (gxd kX7_isSignByte 33 rfl) rfl (Or.inr rfl)
def fM_isDistinct (h : gH) : Option (Int32 × gH) :=
  if (h 65 24) = ((h 65 26) + (8 : Int32)) then
    (fM_byteAt (h 65 26) h).bind fun p1 =>
    if p1.1 = (100 : Int32) then
      (fM_byteAt ((p1.2 65 26) + (1 : Int32)) p1.2).bind fun p3 =>
      if p3.1 = (105 : Int32) then
        (fM_byteAt ((p3.2 65 26) + (2 : Int32)) p3.2).bind fun p5 =>
        if p5.1 = (115 : Int32) then
          (fM_byteAt ((p5.2 65 26) + (3 : Int32)) p5.2).bind fun p7 =>
          if p7.1 = (116 : Int32) then
            (fM_byteAt ((p7.2 65 26) + (4 : Int32)) p7.2).bind fun p9 =>
            if p9.1 = (105 : Int32) then
              (fM_byteAt ((p9.2 65 26) + (5 : Int32)) p9.2).bind fun p11 =>
              if p11.1 = (110 : Int32) then
                (fM_byteAt ((p11.2 65 26) + (6 : Int32)) p11.2).bind fun p13 =>
                if p13.1 = (99 : Int32) then
                  (fM_byteAt ((p13.2 65 26) + (7 : Int32)) p13.2).bind fun p15 =>
                  if p15.1 = (116 : Int32) then
                    some ((1 : Int32), p15.2)
                  else
                    some ((0 : Int32), p15.2)
                else
                  some ((0 : Int32), p13.2)
              else
                some ((0 : Int32), p11.2)
            else
              some ((0 : Int32), p9.2)
          else
            some ((0 : Int32), p7.2)
        else
          some ((0 : Int32), p5.2)
      else
        some ((0 : Int32), p3.2)
    else
      some ((0 : Int32), p1.2)
  else
    some ((0 : Int32), h)
theorem fM_isDistinct_ok {h : gH} {x : (Int32 × gH)} (H : fM_isDistinct  h = some x) (d : Nat) : gC yX7_isDistinct cX7_isDistinct 1 (some .boolean) (d + 1) [.ref 65] h (some (.int x.1)) x.2 := by
  refine gC_of (by decide +kernel) (Nat.le_of_ble_eq_true rfl) rfl ?_
  unfold fM_isDistinct at H
  refine R_aload_n (gxd kX7_isDistinct 0 rfl) rfl rfl ?_
  refine R_geti (gxd kX7_isDistinct 1 rfl) gf_M_147 gk_65 (by decide) rfl ?_
  refine R_aload_n (gxd kX7_isDistinct 2 rfl) rfl rfl ?_
  refine R_geti (gxd kX7_isDistinct 3 rfl) gf_M_150 gk_65 (by decide) rfl ?_
  refine R_bipush (v := (8 : Int32)) (gxd kX7_isDistinct 4 rfl) rfl ?_
  refine R_iadd (gxd kX7_isDistinct 5 rfl) ?_
  refine R_icmp_ne (gxd kX7_isDistinct 6 rfl) (tgt := 138) rfl (fun q => ?_) (fun q => ?_)
  · replace H := giff q H
    refine R_iconst (v := (0 : Int32)) (gxd kX7_isDistinct 71 rfl) rfl ?_
    obtain rfl := Option.some.inj H
    exact R_zret (gxd kX7_isDistinct 72 rfl) rfl (Or.inl rfl)
  · replace H := gift q H
    refine R_aload_n (gxd kX7_isDistinct 7 rfl) rfl rfl ?_
    refine R_aload_n (gxd kX7_isDistinct 8 rfl) rfl rfl ?_
    refine R_geti (gxd kX7_isDistinct 9 rfl) gf_M_150 gk_65 (by decide) rfl ?_
    obtain ⟨p1, e2, H⟩ := gbi H
    refine R_callVi (gxd kX7_isDistinct 10 rfl) gm_M_153 wX7_byteAt (by decide) gk_65 rfl rfl (Nat.le_of_ble_eq_true rfl) (by omega) (fM_byteAt_ok  e2 (d + 0)) ?_
    refine R_bipush (v := (100 : Int32)) (gxd kX7_isDistinct 11 rfl) rfl ?_
    refine R_icmp_ne (gxd kX7_isDistinct 12 rfl) (tgt := 138) rfl (fun q => ?_) (fun q => ?_)
    · replace H := giff q H
      refine R_iconst (v := (0 : Int32)) (gxd kX7_isDistinct 71 rfl) rfl ?_
      obtain rfl := Option.some.inj H
      exact R_zret (gxd kX7_isDistinct 72 rfl) rfl (Or.inl rfl)
    · replace H := gift q H
      refine R_aload_n (gxd kX7_isDistinct 13 rfl) rfl rfl ?_
      refine R_aload_n (gxd kX7_isDistinct 14 rfl) rfl rfl ?_
      refine R_geti (gxd kX7_isDistinct 15 rfl) gf_M_150 gk_65 (by decide) rfl ?_
      refine R_iconst (v := (1 : Int32)) (gxd kX7_isDistinct 16 rfl) rfl ?_
      refine R_iadd (gxd kX7_isDistinct 17 rfl) ?_
      obtain ⟨p3, e4, H⟩ := gbi H
      refine R_callVi (gxd kX7_isDistinct 18 rfl) gm_M_153 wX7_byteAt (by decide) gk_65 rfl rfl (Nat.le_of_ble_eq_true rfl) (by omega) (fM_byteAt_ok  e4 (d + 0)) ?_
      refine R_bipush (v := (105 : Int32)) (gxd kX7_isDistinct 19 rfl) rfl ?_
      refine R_icmp_ne (gxd kX7_isDistinct 20 rfl) (tgt := 138) rfl (fun q => ?_) (fun q => ?_)
      · replace H := giff q H
        refine R_iconst (v := (0 : Int32)) (gxd kX7_isDistinct 71 rfl) rfl ?_
        obtain rfl := Option.some.inj H
        exact R_zret (gxd kX7_isDistinct 72 rfl) rfl (Or.inl rfl)
      · replace H := gift q H
        refine R_aload_n (gxd kX7_isDistinct 21 rfl) rfl rfl ?_
        refine R_aload_n (gxd kX7_isDistinct 22 rfl) rfl rfl ?_
        refine R_geti (gxd kX7_isDistinct 23 rfl) gf_M_150 gk_65 (by decide) rfl ?_
        refine R_iconst (v := (2 : Int32)) (gxd kX7_isDistinct 24 rfl) rfl ?_
        refine R_iadd (gxd kX7_isDistinct 25 rfl) ?_
        obtain ⟨p5, e6, H⟩ := gbi H
        refine R_callVi (gxd kX7_isDistinct 26 rfl) gm_M_153 wX7_byteAt (by decide) gk_65 rfl rfl (Nat.le_of_ble_eq_true rfl) (by omega) (fM_byteAt_ok  e6 (d + 0)) ?_
        refine R_bipush (v := (115 : Int32)) (gxd kX7_isDistinct 27 rfl) rfl ?_
        refine R_icmp_ne (gxd kX7_isDistinct 28 rfl) (tgt := 138) rfl (fun q => ?_) (fun q => ?_)
        · replace H := giff q H
          refine R_iconst (v := (0 : Int32)) (gxd kX7_isDistinct 71 rfl) rfl ?_
          obtain rfl := Option.some.inj H
          exact R_zret (gxd kX7_isDistinct 72 rfl) rfl (Or.inl rfl)
        · replace H := gift q H
          refine R_aload_n (gxd kX7_isDistinct 29 rfl) rfl rfl ?_
          refine R_aload_n (gxd kX7_isDistinct 30 rfl) rfl rfl ?_
          refine R_geti (gxd kX7_isDistinct 31 rfl) gf_M_150 gk_65 (by decide) rfl ?_
          refine R_iconst (v := (3 : Int32)) (gxd kX7_isDistinct 32 rfl) rfl ?_
          refine R_iadd (gxd kX7_isDistinct 33 rfl) ?_
          obtain ⟨p7, e8, H⟩ := gbi H
          refine R_callVi (gxd kX7_isDistinct 34 rfl) gm_M_153 wX7_byteAt (by decide) gk_65 rfl rfl (Nat.le_of_ble_eq_true rfl) (by omega) (fM_byteAt_ok  e8 (d + 0)) ?_
          refine R_bipush (v := (116 : Int32)) (gxd kX7_isDistinct 35 rfl) rfl ?_
          refine R_icmp_ne (gxd kX7_isDistinct 36 rfl) (tgt := 138) rfl (fun q => ?_) (fun q => ?_)
          · replace H := giff q H
            refine R_iconst (v := (0 : Int32)) (gxd kX7_isDistinct 71 rfl) rfl ?_
            obtain rfl := Option.some.inj H
            exact R_zret (gxd kX7_isDistinct 72 rfl) rfl (Or.inl rfl)
          · replace H := gift q H
            refine R_aload_n (gxd kX7_isDistinct 37 rfl) rfl rfl ?_
            refine R_aload_n (gxd kX7_isDistinct 38 rfl) rfl rfl ?_
            refine R_geti (gxd kX7_isDistinct 39 rfl) gf_M_150 gk_65 (by decide) rfl ?_
            refine R_iconst (v := (4 : Int32)) (gxd kX7_isDistinct 40 rfl) rfl ?_
            refine R_iadd (gxd kX7_isDistinct 41 rfl) ?_
            obtain ⟨p9, e10, H⟩ := gbi H
            refine R_callVi (gxd kX7_isDistinct 42 rfl) gm_M_153 wX7_byteAt (by decide) gk_65 rfl rfl (Nat.le_of_ble_eq_true rfl) (by omega) (fM_byteAt_ok  e10 (d + 0)) ?_
            refine R_bipush (v := (105 : Int32)) (gxd kX7_isDistinct 43 rfl) rfl ?_
            refine R_icmp_ne (gxd kX7_isDistinct 44 rfl) (tgt := 138) rfl (fun q => ?_) (fun q => ?_)
            · replace H := giff q H
              refine R_iconst (v := (0 : Int32)) (gxd kX7_isDistinct 71 rfl) rfl ?_
              obtain rfl := Option.some.inj H
              exact R_zret (gxd kX7_isDistinct 72 rfl) rfl (Or.inl rfl)
            · replace H := gift q H
              refine R_aload_n (gxd kX7_isDistinct 45 rfl) rfl rfl ?_
              refine R_aload_n (gxd kX7_isDistinct 46 rfl) rfl rfl ?_
              refine R_geti (gxd kX7_isDistinct 47 rfl) gf_M_150 gk_65 (by decide) rfl ?_
              refine R_iconst (v := (5 : Int32)) (gxd kX7_isDistinct 48 rfl) rfl ?_
              refine R_iadd (gxd kX7_isDistinct 49 rfl) ?_
              obtain ⟨p11, e12, H⟩ := gbi H
              refine R_callVi (gxd kX7_isDistinct 50 rfl) gm_M_153 wX7_byteAt (by decide) gk_65 rfl rfl (Nat.le_of_ble_eq_true rfl) (by omega) (fM_byteAt_ok  e12 (d + 0)) ?_
              refine R_bipush (v := (110 : Int32)) (gxd kX7_isDistinct 51 rfl) rfl ?_
              refine R_icmp_ne (gxd kX7_isDistinct 52 rfl) (tgt := 138) rfl (fun q => ?_) (fun q => ?_)
              · replace H := giff q H
                refine R_iconst (v := (0 : Int32)) (gxd kX7_isDistinct 71 rfl) rfl ?_
                obtain rfl := Option.some.inj H
                exact R_zret (gxd kX7_isDistinct 72 rfl) rfl (Or.inl rfl)
              · replace H := gift q H
                refine R_aload_n (gxd kX7_isDistinct 53 rfl) rfl rfl ?_
                refine R_aload_n (gxd kX7_isDistinct 54 rfl) rfl rfl ?_
                refine R_geti (gxd kX7_isDistinct 55 rfl) gf_M_150 gk_65 (by decide) rfl ?_
                refine R_bipush (v := (6 : Int32)) (gxd kX7_isDistinct 56 rfl) rfl ?_
                refine R_iadd (gxd kX7_isDistinct 57 rfl) ?_
                obtain ⟨p13, e14, H⟩ := gbi H
                refine R_callVi (gxd kX7_isDistinct 58 rfl) gm_M_153 wX7_byteAt (by decide) gk_65 rfl rfl (Nat.le_of_ble_eq_true rfl) (by omega) (fM_byteAt_ok  e14 (d + 0)) ?_
                refine R_bipush (v := (99 : Int32)) (gxd kX7_isDistinct 59 rfl) rfl ?_
                refine R_icmp_ne (gxd kX7_isDistinct 60 rfl) (tgt := 138) rfl (fun q => ?_) (fun q => ?_)
                · replace H := giff q H
                  refine R_iconst (v := (0 : Int32)) (gxd kX7_isDistinct 71 rfl) rfl ?_
                  obtain rfl := Option.some.inj H
                  exact R_zret (gxd kX7_isDistinct 72 rfl) rfl (Or.inl rfl)
                · replace H := gift q H
                  refine R_aload_n (gxd kX7_isDistinct 61 rfl) rfl rfl ?_
                  refine R_aload_n (gxd kX7_isDistinct 62 rfl) rfl rfl ?_
                  refine R_geti (gxd kX7_isDistinct 63 rfl) gf_M_150 gk_65 (by decide) rfl ?_
                  refine R_bipush (v := (7 : Int32)) (gxd kX7_isDistinct 64 rfl) rfl ?_
                  refine R_iadd (gxd kX7_isDistinct 65 rfl) ?_
                  obtain ⟨p15, e16, H⟩ := gbi H
                  refine R_callVi (gxd kX7_isDistinct 66 rfl) gm_M_153 wX7_byteAt (by decide) gk_65 rfl rfl (Nat.le_of_ble_eq_true rfl) (by omega) (fM_byteAt_ok  e16 (d + 0)) ?_
                  refine R_bipush (v := (116 : Int32)) (gxd kX7_isDistinct 67 rfl) rfl ?_
                  refine R_icmp_ne (gxd kX7_isDistinct 68 rfl) (tgt := 138) rfl (fun q => ?_) (fun q => ?_)
                  · replace H := giff q H
                    refine R_iconst (v := (0 : Int32)) (gxd kX7_isDistinct 71 rfl) rfl ?_
                    obtain rfl := Option.some.inj H
                    exact R_zret (gxd kX7_isDistinct 72 rfl) rfl (Or.inl rfl)
                  · replace H := gift q H
                    refine R_iconst (v := (1 : Int32)) (gxd kX7_isDistinct 69 rfl) rfl ?_
                    refine R_goto (gxd kX7_isDistinct 70 rfl) (tgt := 139) rfl ?_
                    obtain rfl := Option.some.inj H
                    exact R_zret (gxd kX7_isDistinct 72 rfl) rfl (Or.inr rfl)
def fM_next_26 (k0 : gH → Option gH) (h : gH) : Option gH :=
  k0  (hu h 65 24 ((h 65 24) + (1 : Int32)))
theorem fM_next_26_ok {d : Nat} {k0 : gH → Option gH} (hk0 : ∀  (h : gH) (x : gH), k0  h = some x → gR RX7 cX7_next 3 none (d + 2) 0 [.ref 65, .null, .null] [] h none x) {h : gH} {x : gH} (H : fM_next_26 k0   h = some x) : gR RX7 cX7_next 3 none (d + 2) 26 [.ref 65, .null, .null] [] h none x := by
  unfold fM_next_26 at H
  refine R_aload_n (gxd kX7_next 12 rfl) rfl rfl ?_
  refine R_dup (gxd kX7_next 13 rfl) rfl ?_
  refine R_geti (gxd kX7_next 14 rfl) gf_M_147 gk_65 (by decide) rfl ?_
  refine R_iconst (v := (1 : Int32)) (gxd kX7_next 15 rfl) rfl ?_
  refine R_iadd (gxd kX7_next 16 rfl) ?_
  refine R_puti (gxd kX7_next 17 rfl) gf_M_147 gp_7_24 gk_65 (by decide) rfl ?_
  refine R_goto (gxd kX7_next 18 rfl) (tgt := 0) rfl ?_
  exact R_weak (gle_same (gle_null (gle_null gle_nil))) (hk0  _ _  H)
def fM_next_266 (k213 : Int32 → gH → Option gH) (v2 : Int32) (s1 : Int32) (h : gH) : Option gH :=
  glet (hu h 65 27 s1) fun h25 =>
  k213 (v2 + (1 : Int32)) (hu h25 65 24 ((h25 65 24) + (1 : Int32)))
theorem fM_next_266_ok {d : Nat} {k213 : Int32 → gH → Option gH} {v2 : Int32} {s1 : Int32} (hk213 : ∀ (u2 : Int32) (h : gH) (x : gH), k213 u2 h = some x → gR RX7 cX7_next 3 none (d + 2) 213 [.ref 65, .null, .int u2] [] h none x) {h : gH} {x : gH} (H : fM_next_266 k213 v2 s1 h = some x) : gR RX7 cX7_next 3 none (d + 2) 266 [.ref 65, .null, .int v2] [.int s1, .ref 65] h none x := by
  unfold fM_next_266 at H
  refine R_puti (gxd kX7_next 133 rfl) gf_M_168 gp_7_27 gk_65 (by decide) rfl ?_
  obtain ⟨h25, e26, H⟩ := glei H
  refine R_heq e26 ?_
  refine R_iinc (v := (v2 + (1 : Int32))) (gxd kX7_next 134 rfl) rfl rfl rfl (Nat.le_of_ble_eq_true rfl) rfl ?_
  refine R_aload_n (gxd kX7_next 135 rfl) rfl rfl ?_
  refine R_dup (gxd kX7_next 136 rfl) rfl ?_
  refine R_geti (gxd kX7_next 137 rfl) gf_M_147 gk_65 (by decide) rfl ?_
  refine R_iconst (v := (1 : Int32)) (gxd kX7_next 138 rfl) rfl ?_
  refine R_iadd (gxd kX7_next 139 rfl) ?_
  refine R_puti (gxd kX7_next 140 rfl) gf_M_147 gp_7_24 gk_65 (by decide) rfl ?_
  refine R_goto (gxd kX7_next 141 rfl) (tgt := 213) rfl ?_
  exact R_weak (gle_same (gle_null (gle_same gle_nil))) (hk213 _ _ _  H)
def fM_next_213 : Nat → Int32 → gH → Option gH
  | 0, _, _ => none
  | n + 1, v2, h =>
    (fM_byteAt (h 65 24) h).bind fun p21 =>
    (fM_in p21.1.toInt64 (48 : Int64) (57 : Int64) p21.2).bind fun p23 =>
    if p23.1 = (0 : Int32) then
      if (4 : Int32) < v2 then
        some (hu p23.2 65 25 (4 : Int32))
      else
        some (hu p23.2 65 25 (2 : Int32))
    else
      if v2 < (4 : Int32) then
        (fM_byteAt (p23.2 65 24) p23.2).bind fun p27 =>
        fM_next_266 (fM_next_213 n) v2 ((((10 : Int32) * (p23.2 65 27)) + p27.1) - (48 : Int32)) p27.2
      else
        fM_next_266 (fM_next_213 n) v2 (p23.2 65 27) p23.2
theorem fM_next_213_ok {d : Nat}  : ∀ (n : Nat) (v2 : Int32) (h : gH) (x : gH), fM_next_213  n v2 h = some x → gR RX7 cX7_next 3 none (d + 2) 213 [.ref 65, .null, .int v2] [] h none x := by
  intro n
  induction n with
  | zero => intro v2 h x  H; exact g0 H
  | succ n ih =>
    intro v2 h x  H
    unfold fM_next_213 at H
    refine R_aload_n (gxd kX7_next 106 rfl) rfl rfl ?_
    refine R_aload_n (gxd kX7_next 107 rfl) rfl rfl ?_
    refine R_geti (gxd kX7_next 108 rfl) gf_M_147 gk_65 (by decide) rfl ?_
    obtain ⟨p21, e22, H⟩ := gbi H
    refine R_callVi (gxd kX7_next 109 rfl) gm_M_153 wX7_byteAt (by decide) gk_65 rfl rfl (Nat.le_of_ble_eq_true rfl) (by omega) (fM_byteAt_ok  e22 (d + 1)) ?_
    refine R_i2l (gxd kX7_next 110 rfl) ?_
    refine R_ldc2 (v := (48 : Int64)) (gxd kX7_next 111 rfl) gc_M_171 ?_
    refine R_ldc2 (v := (57 : Int64)) (gxd kX7_next 112 rfl) gc_M_173 ?_
    obtain ⟨p23, e24, H⟩ := gbi H
    refine R_callSi (gxd kX7_next 113 rfl) gm_M_140 wX7_in (by decide) rfl (Nat.le_of_ble_eq_true rfl) (by omega) (fM_in_ok  e24 (d + 1)) ?_
    refine R_if_eq (gxd kX7_next 114 rfl) (tgt := 285) rfl (fun q => ?_) (fun q => ?_)
    · replace H := gift q H
      refine R_aload_n (gxd kX7_next 142 rfl) rfl rfl ?_
      refine R_iload_n (gxd kX7_next 143 rfl) rfl rfl ?_
      refine R_iconst (v := (4 : Int32)) (gxd kX7_next 144 rfl) rfl ?_
      refine R_icmp_le (gxd kX7_next 145 rfl) (tgt := 295) rfl (fun q => ?_) (fun q => ?_)
      · replace H := giff q H
        refine R_iconst (v := (2 : Int32)) (gxd kX7_next 148 rfl) rfl ?_
        refine R_puti (gxd kX7_next 149 rfl) gf_M_157 gp_7_25 gk_65 (by decide) rfl ?_
        refine R_goto (gxd kX7_next 150 rfl) (tgt := 329) rfl ?_
        obtain rfl := Option.some.inj H
        exact R_vret (gxd kX7_next 166 rfl) rfl
      · replace H := gift q H
        refine R_iconst (v := (4 : Int32)) (gxd kX7_next 146 rfl) rfl ?_
        refine R_goto (gxd kX7_next 147 rfl) (tgt := 296) rfl ?_
        refine R_puti (gxd kX7_next 149 rfl) gf_M_157 gp_7_25 gk_65 (by decide) rfl ?_
        refine R_goto (gxd kX7_next 150 rfl) (tgt := 329) rfl ?_
        obtain rfl := Option.some.inj H
        exact R_vret (gxd kX7_next 166 rfl) rfl
    · replace H := giff q H
      refine R_aload_n (gxd kX7_next 115 rfl) rfl rfl ?_
      refine R_iload_n (gxd kX7_next 116 rfl) rfl rfl ?_
      refine R_iconst (v := (4 : Int32)) (gxd kX7_next 117 rfl) rfl ?_
      refine R_icmp_ge (gxd kX7_next 118 rfl) (tgt := 262) rfl (fun q => ?_) (fun q => ?_)
      · replace H := giff q H
        refine R_aload_n (gxd kX7_next 131 rfl) rfl rfl ?_
        refine R_geti (gxd kX7_next 132 rfl) gf_M_168 gk_65 (by decide) rfl ?_
        exact R_weak (gle_same (gle_null (gle_same gle_nil))) (fM_next_266_ok ih  H)
      · replace H := gift q H
        refine R_bipush (v := (10 : Int32)) (gxd kX7_next 119 rfl) rfl ?_
        refine R_aload_n (gxd kX7_next 120 rfl) rfl rfl ?_
        refine R_geti (gxd kX7_next 121 rfl) gf_M_168 gk_65 (by decide) rfl ?_
        refine R_imul (gxd kX7_next 122 rfl) ?_
        refine R_aload_n (gxd kX7_next 123 rfl) rfl rfl ?_
        refine R_aload_n (gxd kX7_next 124 rfl) rfl rfl ?_
        refine R_geti (gxd kX7_next 125 rfl) gf_M_147 gk_65 (by decide) rfl ?_
        obtain ⟨p27, e28, H⟩ := gbi H
        refine R_callVi (gxd kX7_next 126 rfl) gm_M_153 wX7_byteAt (by decide) gk_65 rfl rfl (Nat.le_of_ble_eq_true rfl) (by omega) (fM_byteAt_ok  e28 (d + 1)) ?_
        refine R_iadd (gxd kX7_next 127 rfl) ?_
        refine R_bipush (v := (48 : Int32)) (gxd kX7_next 128 rfl) rfl ?_
        refine R_isub (gxd kX7_next 129 rfl) ?_
        refine R_goto (gxd kX7_next 130 rfl) (tgt := 266) rfl ?_
        exact R_weak (gle_same (gle_null (gle_same gle_nil))) (fM_next_266_ok ih  H)
def fM_next_169 (s1 : Int32) (h : gH) : Option gH :=
  glet (hu h 65 27 s1) fun h35 =>
  if (h35 65 27) = (-1 : Int32) then
    some (hu h35 65 25 (4 : Int32))
  else
    some (hu h35 65 25 (1 : Int32))
theorem fM_next_169_ok {d : Nat} {s1 : Int32}  {h : gH} {x : gH} (H : fM_next_169  s1 h = some x) : gR RX7 cX7_next 3 none (d + 2) 169 [.ref 65, .null, .null] [.int s1, .ref 65] h none x := by
  unfold fM_next_169 at H
  refine R_puti (gxd kX7_next 84 rfl) gf_M_168 gp_7_27 gk_65 (by decide) rfl ?_
  obtain ⟨h35, e36, H⟩ := glei H
  refine R_heq e36 ?_
  refine R_aload_n (gxd kX7_next 85 rfl) rfl rfl ?_
  refine R_aload_n (gxd kX7_next 86 rfl) rfl rfl ?_
  refine R_geti (gxd kX7_next 87 rfl) gf_M_168 gk_65 (by decide) rfl ?_
  refine R_iconst (v := (-1 : Int32)) (gxd kX7_next 88 rfl) rfl ?_
  refine R_icmp_ne (gxd kX7_next 89 rfl) (tgt := 185) rfl (fun q => ?_) (fun q => ?_)
  · replace H := giff q H
    refine R_iconst (v := (1 : Int32)) (gxd kX7_next 92 rfl) rfl ?_
    refine R_puti (gxd kX7_next 93 rfl) gf_M_157 gp_7_25 gk_65 (by decide) rfl ?_
    refine R_goto (gxd kX7_next 94 rfl) (tgt := 329) rfl ?_
    obtain rfl := Option.some.inj H
    exact R_vret (gxd kX7_next 166 rfl) rfl
  · replace H := gift q H
    refine R_iconst (v := (4 : Int32)) (gxd kX7_next 90 rfl) rfl ?_
    refine R_goto (gxd kX7_next 91 rfl) (tgt := 186) rfl ?_
    refine R_puti (gxd kX7_next 93 rfl) gf_M_157 gp_7_25 gk_65 (by decide) rfl ?_
    refine R_goto (gxd kX7_next 94 rfl) (tgt := 329) rfl ?_
    obtain rfl := Option.some.inj H
    exact R_vret (gxd kX7_next 166 rfl) rfl
def fM_next_156 (h : gH) : Option gH :=
  (fM_isDistinct h).bind fun p33 =>
  if p33.1 = (0 : Int32) then
    fM_next_169 (-1 : Int32) p33.2
  else
    fM_next_169 (8 : Int32) p33.2
theorem fM_next_156_ok {d : Nat}  {h : gH} {x : gH} (H : fM_next_156   h = some x) : gR RX7 cX7_next 3 none (d + 2) 156 [.ref 65, .null, .null] [.ref 65] h none x := by
  unfold fM_next_156 at H
  refine R_aload_n (gxd kX7_next 78 rfl) rfl rfl ?_
  obtain ⟨p33, e34, H⟩ := gbi H
  refine R_callVi (gxd kX7_next 79 rfl) gm_M_164 wX7_isDistinct (by decide) gk_65 rfl rfl (Nat.le_of_ble_eq_true rfl) (by omega) (fM_isDistinct_ok  e34 (d + 0)) ?_
  refine R_if_eq (gxd kX7_next 80 rfl) (tgt := 168) rfl (fun q => ?_) (fun q => ?_)
  · replace H := gift q H
    refine R_iconst (v := (-1 : Int32)) (gxd kX7_next 83 rfl) rfl ?_
    exact R_weak (gle_same (gle_null (gle_null gle_nil))) (fM_next_169_ok  H)
  · replace H := giff q H
    refine R_bipush (v := (8 : Int32)) (gxd kX7_next 81 rfl) rfl ?_
    refine R_goto (gxd kX7_next 82 rfl) (tgt := 169) rfl ?_
    exact R_weak (gle_same (gle_null (gle_null gle_nil))) (fM_next_169_ok  H)
def fM_next_95 (v1 : Int32) : Nat → gH → Option gH
  | 0, _ => none
  | n + 1, h =>
    (fM_byteAt (h 65 24) h).bind fun p29 =>
    (fM_in p29.1.toInt64 (97 : Int64) (122 : Int64) p29.2).bind fun p31 =>
    if p31.1 = (0 : Int32) then
      if (p31.2 65 24) = ((p31.2 65 26) + (1 : Int32)) then
        if (104 : Int32) < v1 then
          fM_next_156 p31.2
        else
          fM_next_169 (v1 - (97 : Int32)) p31.2
      else
        fM_next_156 p31.2
    else
      fM_next_95 v1 n  (hu p31.2 65 24 ((p31.2 65 24) + (1 : Int32)))
theorem fM_next_95_ok {d : Nat} {v1 : Int32}  : ∀ (n : Nat) (h : gH) (x : gH), fM_next_95 v1 n  h = some x → gR RX7 cX7_next 3 none (d + 2) 95 [.ref 65, .int v1, .null] [] h none x := by
  intro n
  induction n with
  | zero => intro  h x  H; exact g0 H
  | succ n ih =>
    intro  h x  H
    unfold fM_next_95 at H
    refine R_aload_n (gxd kX7_next 47 rfl) rfl rfl ?_
    refine R_aload_n (gxd kX7_next 48 rfl) rfl rfl ?_
    refine R_geti (gxd kX7_next 49 rfl) gf_M_147 gk_65 (by decide) rfl ?_
    obtain ⟨p29, e30, H⟩ := gbi H
    refine R_callVi (gxd kX7_next 50 rfl) gm_M_153 wX7_byteAt (by decide) gk_65 rfl rfl (Nat.le_of_ble_eq_true rfl) (by omega) (fM_byteAt_ok  e30 (d + 1)) ?_
    refine R_i2l (gxd kX7_next 51 rfl) ?_
    refine R_ldc2 (v := (97 : Int64)) (gxd kX7_next 52 rfl) gc_M_160 ?_
    refine R_ldc2 (v := (122 : Int64)) (gxd kX7_next 53 rfl) gc_M_162 ?_
    obtain ⟨p31, e32, H⟩ := gbi H
    refine R_callSi (gxd kX7_next 54 rfl) gm_M_140 wX7_in (by decide) rfl (Nat.le_of_ble_eq_true rfl) (by omega) (fM_in_ok  e32 (d + 1)) ?_
    refine R_if_eq (gxd kX7_next 55 rfl) (tgt := 129) rfl (fun q => ?_) (fun q => ?_)
    · replace H := gift q H
      refine R_aload_n (gxd kX7_next 63 rfl) rfl rfl ?_
      refine R_aload_n (gxd kX7_next 64 rfl) rfl rfl ?_
      refine R_geti (gxd kX7_next 65 rfl) gf_M_147 gk_65 (by decide) rfl ?_
      refine R_aload_n (gxd kX7_next 66 rfl) rfl rfl ?_
      refine R_geti (gxd kX7_next 67 rfl) gf_M_150 gk_65 (by decide) rfl ?_
      refine R_iconst (v := (1 : Int32)) (gxd kX7_next 68 rfl) rfl ?_
      refine R_iadd (gxd kX7_next 69 rfl) ?_
      refine R_icmp_ne (gxd kX7_next 70 rfl) (tgt := 156) rfl (fun q => ?_) (fun q => ?_)
      · replace H := giff q H
        exact R_weak (gle_same (gle_null (gle_null gle_nil))) (fM_next_156_ok  H)
      · replace H := gift q H
        refine R_iload_n (gxd kX7_next 71 rfl) rfl rfl ?_
        refine R_bipush (v := (104 : Int32)) (gxd kX7_next 72 rfl) rfl ?_
        refine R_icmp_gt (gxd kX7_next 73 rfl) (tgt := 156) rfl (fun q => ?_) (fun q => ?_)
        · replace H := gift q H
          exact R_weak (gle_same (gle_null (gle_null gle_nil))) (fM_next_156_ok  H)
        · replace H := giff q H
          refine R_iload_n (gxd kX7_next 74 rfl) rfl rfl ?_
          refine R_bipush (v := (97 : Int32)) (gxd kX7_next 75 rfl) rfl ?_
          refine R_isub (gxd kX7_next 76 rfl) ?_
          refine R_goto (gxd kX7_next 77 rfl) (tgt := 169) rfl ?_
          exact R_weak (gle_same (gle_null (gle_null gle_nil))) (fM_next_169_ok  H)
    · replace H := giff q H
      refine R_aload_n (gxd kX7_next 56 rfl) rfl rfl ?_
      refine R_dup (gxd kX7_next 57 rfl) rfl ?_
      refine R_geti (gxd kX7_next 58 rfl) gf_M_147 gk_65 (by decide) rfl ?_
      refine R_iconst (v := (1 : Int32)) (gxd kX7_next 59 rfl) rfl ?_
      refine R_iadd (gxd kX7_next 60 rfl) ?_
      refine R_puti (gxd kX7_next 61 rfl) gf_M_147 gp_7_24 gk_65 (by decide) rfl ?_
      refine R_goto (gxd kX7_next 62 rfl) (tgt := 95) rfl ?_
      exact R_weak (gle_same (gle_same (gle_null gle_nil))) (ih  _ _  H)
def fM_next_0 : Nat → gH → Option gH
  | 0, _ => none
  | n + 1, h =>
    (fM_byteAt (h 65 24) h).bind fun p1 =>
    if p1.1 = (32 : Int32) then
      fM_next_26 (fM_next_0 n) p1.2
    else
      (fM_byteAt (p1.2 65 24) p1.2).bind fun p3 =>
      if p3.1 = (10 : Int32) then
        fM_next_26 (fM_next_0 n) p3.2
      else
        glet (hu p3.2 65 26 (p3.2 65 24)) fun h5 =>
        (fM_byteAt (h5 65 24) h5).bind fun p7 =>
        glet (hu p7.2 65 25 (4 : Int32)) fun h9 =>
        if p7.1 < (0 : Int32) then
          glet (hu h9 65 25 (0 : Int32)) fun h37 =>
          some (hu h37 65 26 (h37 65 22))
        else
          (fM_in p7.1.toInt64 (97 : Int64) (122 : Int64) h9).bind fun p11 =>
          if p11.1 = (0 : Int32) then
            (fM_in p7.1.toInt64 (48 : Int64) (57 : Int64) p11.2).bind fun p13 =>
            if p13.1 = (0 : Int32) then
              (fM_isSignByte p7.1 p13.2).bind fun p15 =>
              if p15.1 = (0 : Int32) then
                some p15.2
              else
                glet (hu p15.2 65 25 (3 : Int32)) fun h17 =>
                glet (hu h17 65 27 p7.1) fun h19 =>
                some (hu h19 65 24 ((h19 65 24) + (1 : Int32)))
            else
              fM_next_213 gfu (0 : Int32) (hu p13.2 65 27 (0 : Int32))
          else
            fM_next_95 p7.1 gfu p11.2
theorem fM_next_0_ok {d : Nat}  : ∀ (n : Nat) (h : gH) (x : gH), fM_next_0  n  h = some x → gR RX7 cX7_next 3 none (d + 2) 0 [.ref 65, .null, .null] [] h none x := by
  intro n
  induction n with
  | zero => intro  h x  H; exact g0 H
  | succ n ih =>
    intro  h x  H
    unfold fM_next_0 at H
    refine R_aload_n (gxd kX7_next 0 rfl) rfl rfl ?_
    refine R_aload_n (gxd kX7_next 1 rfl) rfl rfl ?_
    refine R_geti (gxd kX7_next 2 rfl) gf_M_147 gk_65 (by decide) rfl ?_
    obtain ⟨p1, e2, H⟩ := gbi H
    refine R_callVi (gxd kX7_next 3 rfl) gm_M_153 wX7_byteAt (by decide) gk_65 rfl rfl (Nat.le_of_ble_eq_true rfl) (by omega) (fM_byteAt_ok  e2 (d + 1)) ?_
    refine R_bipush (v := (32 : Int32)) (gxd kX7_next 4 rfl) rfl ?_
    refine R_icmp_eq (gxd kX7_next 5 rfl) (tgt := 26) rfl (fun q => ?_) (fun q => ?_)
    · replace H := gift q H
      exact R_weak (gle_same (gle_null (gle_null gle_nil))) (fM_next_26_ok ih  H)
    · replace H := giff q H
      refine R_aload_n (gxd kX7_next 6 rfl) rfl rfl ?_
      refine R_aload_n (gxd kX7_next 7 rfl) rfl rfl ?_
      refine R_geti (gxd kX7_next 8 rfl) gf_M_147 gk_65 (by decide) rfl ?_
      obtain ⟨p3, e4, H⟩ := gbi H
      refine R_callVi (gxd kX7_next 9 rfl) gm_M_153 wX7_byteAt (by decide) gk_65 rfl rfl (Nat.le_of_ble_eq_true rfl) (by omega) (fM_byteAt_ok  e4 (d + 1)) ?_
      refine R_bipush (v := (10 : Int32)) (gxd kX7_next 10 rfl) rfl ?_
      refine R_icmp_ne (gxd kX7_next 11 rfl) (tgt := 39) rfl (fun q => ?_) (fun q => ?_)
      · replace H := giff q H
        refine R_aload_n (gxd kX7_next 19 rfl) rfl rfl ?_
        refine R_aload_n (gxd kX7_next 20 rfl) rfl rfl ?_
        refine R_geti (gxd kX7_next 21 rfl) gf_M_147 gk_65 (by decide) rfl ?_
        refine R_puti (gxd kX7_next 22 rfl) gf_M_150 gp_7_26 gk_65 (by decide) rfl ?_
        obtain ⟨h5, e6, H⟩ := glei H
        refine R_heq e6 ?_
        refine R_aload_n (gxd kX7_next 23 rfl) rfl rfl ?_
        refine R_aload_n (gxd kX7_next 24 rfl) rfl rfl ?_
        refine R_geti (gxd kX7_next 25 rfl) gf_M_147 gk_65 (by decide) rfl ?_
        obtain ⟨p7, e8, H⟩ := gbi H
        refine R_callVi (gxd kX7_next 26 rfl) gm_M_153 wX7_byteAt (by decide) gk_65 rfl rfl (Nat.le_of_ble_eq_true rfl) (by omega) (fM_byteAt_ok  e8 (d + 1)) ?_
        refine R_istore_n (gxd kX7_next 27 rfl) rfl rfl (Nat.le_of_ble_eq_true rfl) rfl ?_
        refine R_aload_n (gxd kX7_next 28 rfl) rfl rfl ?_
        refine R_iconst (v := (4 : Int32)) (gxd kX7_next 29 rfl) rfl ?_
        refine R_puti (gxd kX7_next 30 rfl) gf_M_157 gp_7_25 gk_65 (by decide) rfl ?_
        obtain ⟨h9, e10, H⟩ := glei H
        refine R_heq e10 ?_
        refine R_iload_n (gxd kX7_next 31 rfl) rfl rfl ?_
        refine R_if_ge (gxd kX7_next 32 rfl) (tgt := 81) rfl (fun q => ?_) (fun q => ?_)
        · replace H := giff q H
          refine R_iload_n (gxd kX7_next 41 rfl) rfl rfl ?_
          refine R_i2l (gxd kX7_next 42 rfl) ?_
          refine R_ldc2 (v := (97 : Int64)) (gxd kX7_next 43 rfl) gc_M_160 ?_
          refine R_ldc2 (v := (122 : Int64)) (gxd kX7_next 44 rfl) gc_M_162 ?_
          obtain ⟨p11, e12, H⟩ := gbi H
          refine R_callSi (gxd kX7_next 45 rfl) gm_M_140 wX7_in (by decide) rfl (Nat.le_of_ble_eq_true rfl) (by omega) (fM_in_ok  e12 (d + 1)) ?_
          refine R_if_eq (gxd kX7_next 46 rfl) (tgt := 192) rfl (fun q => ?_) (fun q => ?_)
          · replace H := gift q H
            refine R_iload_n (gxd kX7_next 95 rfl) rfl rfl ?_
            refine R_i2l (gxd kX7_next 96 rfl) ?_
            refine R_ldc2 (v := (48 : Int64)) (gxd kX7_next 97 rfl) gc_M_171 ?_
            refine R_ldc2 (v := (57 : Int64)) (gxd kX7_next 98 rfl) gc_M_173 ?_
            obtain ⟨p13, e14, H⟩ := gbi H
            refine R_callSi (gxd kX7_next 99 rfl) gm_M_140 wX7_in (by decide) rfl (Nat.le_of_ble_eq_true rfl) (by omega) (fM_in_ok  e14 (d + 1)) ?_
            refine R_if_eq (gxd kX7_next 100 rfl) (tgt := 302) rfl (fun q => ?_) (fun q => ?_)
            · replace H := gift q H
              refine R_iload_n (gxd kX7_next 151 rfl) rfl rfl ?_
              obtain ⟨p15, e16, H⟩ := gbi H
              refine R_callSi (gxd kX7_next 152 rfl) gm_M_175 wX7_isSignByte (by decide) rfl (Nat.le_of_ble_eq_true rfl) (by omega) (fM_isSignByte_ok  e16 (d + 1)) ?_
              refine R_if_eq (gxd kX7_next 153 rfl) (tgt := 329) rfl (fun q => ?_) (fun q => ?_)
              · replace H := gift q H
                obtain rfl := Option.some.inj H
                exact R_vret (gxd kX7_next 166 rfl) rfl
              · replace H := giff q H
                refine R_aload_n (gxd kX7_next 154 rfl) rfl rfl ?_
                refine R_iconst (v := (3 : Int32)) (gxd kX7_next 155 rfl) rfl ?_
                refine R_puti (gxd kX7_next 156 rfl) gf_M_157 gp_7_25 gk_65 (by decide) rfl ?_
                obtain ⟨h17, e18, H⟩ := glei H
                refine R_heq e18 ?_
                refine R_aload_n (gxd kX7_next 157 rfl) rfl rfl ?_
                refine R_iload_n (gxd kX7_next 158 rfl) rfl rfl ?_
                refine R_puti (gxd kX7_next 159 rfl) gf_M_168 gp_7_27 gk_65 (by decide) rfl ?_
                obtain ⟨h19, e20, H⟩ := glei H
                refine R_heq e20 ?_
                refine R_aload_n (gxd kX7_next 160 rfl) rfl rfl ?_
                refine R_dup (gxd kX7_next 161 rfl) rfl ?_
                refine R_geti (gxd kX7_next 162 rfl) gf_M_147 gk_65 (by decide) rfl ?_
                refine R_iconst (v := (1 : Int32)) (gxd kX7_next 163 rfl) rfl ?_
                refine R_iadd (gxd kX7_next 164 rfl) ?_
                refine R_puti (gxd kX7_next 165 rfl) gf_M_147 gp_7_24 gk_65 (by decide) rfl ?_
                obtain rfl := Option.some.inj H
                exact R_vret (gxd kX7_next 166 rfl) rfl
            · replace H := giff q H
              refine R_iconst (v := (0 : Int32)) (gxd kX7_next 101 rfl) rfl ?_
              refine R_istore_n (gxd kX7_next 102 rfl) rfl rfl (Nat.le_of_ble_eq_true rfl) rfl ?_
              refine R_aload_n (gxd kX7_next 103 rfl) rfl rfl ?_
              refine R_iconst (v := (0 : Int32)) (gxd kX7_next 104 rfl) rfl ?_
              refine R_puti (gxd kX7_next 105 rfl) gf_M_168 gp_7_27 gk_65 (by decide) rfl ?_
              exact R_weak (gle_same (gle_null (gle_same gle_nil))) (fM_next_213_ok  gfu _ _ _  H)
          · replace H := giff q H
            exact R_weak (gle_same (gle_same (gle_null gle_nil))) (fM_next_95_ok  gfu  _ _  H)
        · replace H := gift q H
          refine R_aload_n (gxd kX7_next 33 rfl) rfl rfl ?_
          refine R_iconst (v := (0 : Int32)) (gxd kX7_next 34 rfl) rfl ?_
          refine R_puti (gxd kX7_next 35 rfl) gf_M_157 gp_7_25 gk_65 (by decide) rfl ?_
          obtain ⟨h37, e38, H⟩ := glei H
          refine R_heq e38 ?_
          refine R_aload_n (gxd kX7_next 36 rfl) rfl rfl ?_
          refine R_aload_n (gxd kX7_next 37 rfl) rfl rfl ?_
          refine R_geti (gxd kX7_next 38 rfl) gf_M_144 gk_65 (by decide) rfl ?_
          refine R_puti (gxd kX7_next 39 rfl) gf_M_150 gp_7_26 gk_65 (by decide) rfl ?_
          refine R_goto (gxd kX7_next 40 rfl) (tgt := 329) rfl ?_
          obtain rfl := Option.some.inj H
          exact R_vret (gxd kX7_next 166 rfl) rfl
      · replace H := gift q H
        exact R_weak (gle_same (gle_null (gle_null gle_nil))) (fM_next_26_ok ih  H)
def fM_next (h : gH) : Option gH :=
  fM_next_0 gfu h
theorem fM_next_ok {h : gH} {x : gH} (H : fM_next  h = some x) (d : Nat) : gC yX7_next cX7_next 3 none (d + 2) [.ref 65] h none x := by
  refine gC_of (by decide +kernel) (Nat.le_of_ble_eq_true rfl) rfl ?_
  unfold fM_next at H
  exact R_weak (gle_same (gle_null (gle_null gle_nil))) (fM_next_0_ok  gfu  _ _  H)
def fM_fail (h : gH) : Option gH :=
  if (h 65 29) = (0 : Int32) then
    glet (hu h 65 29 (1 : Int32)) fun h1 =>
    some (hu h1 65 30 (h1 65 26))
  else
    some h
theorem fM_fail_ok {h : gH} {x : gH} (H : fM_fail  h = some x) (d : Nat) : gC yX7_fail cX7_fail 1 none (d + 0) [.ref 65] h none x := by
  refine gC_of (by decide +kernel) (Nat.le_of_ble_eq_true rfl) rfl ?_
  unfold fM_fail at H
  refine R_aload_n (gxd kX7_fail 0 rfl) rfl rfl ?_
  refine R_geti (gxd kX7_fail 1 rfl) gf_M_179 gk_65 (by decide) rfl ?_
  refine R_if_ne (gxd kX7_fail 2 rfl) (tgt := 20) rfl (fun q => ?_) (fun q => ?_)
  · replace H := giff q H
    obtain rfl := Option.some.inj H
    exact R_vret (gxd kX7_fail 10 rfl) rfl
  · replace H := gift q H
    refine R_aload_n (gxd kX7_fail 3 rfl) rfl rfl ?_
    refine R_iconst (v := (1 : Int32)) (gxd kX7_fail 4 rfl) rfl ?_
    refine R_putz (gxd kX7_fail 5 rfl) gf_M_179 gp_7_29 (Or.inr rfl) gk_65 (by decide) rfl ?_
    obtain ⟨h1, e2, H⟩ := glei H
    refine R_heq e2 ?_
    refine R_aload_n (gxd kX7_fail 6 rfl) rfl rfl ?_
    refine R_aload_n (gxd kX7_fail 7 rfl) rfl rfl ?_
    refine R_geti (gxd kX7_fail 8 rfl) gf_M_150 gk_65 (by decide) rfl ?_
    refine R_puti (gxd kX7_fail 9 rfl) gf_M_183 gp_7_30 gk_65 (by decide) rfl ?_
    obtain rfl := Option.some.inj H
    exact R_vret (gxd kX7_fail 10 rfl) rfl
def fM_isSign (v1 : Int32) (h : gH) : Option (Int32 × gH) :=
  if (h 65 29) = (0 : Int32) then
    if (h 65 25) = (3 : Int32) then
      if (h 65 27) = v1 then
        some ((1 : Int32), h)
      else
        some ((0 : Int32), h)
    else
      some ((0 : Int32), h)
  else
    some ((0 : Int32), h)
theorem fM_isSign_ok {v1 : Int32} {h : gH} {x : (Int32 × gH)} (H : fM_isSign v1 h = some x) (d : Nat) : gC yX7_isSign cX7_isSign 2 (some .boolean) (d + 0) [.ref 65, .int v1] h (some (.int x.1)) x.2 := by
  refine gC_of (by decide +kernel) (Nat.le_of_ble_eq_true rfl) rfl ?_
  unfold fM_isSign at H
  refine R_aload_n (gxd kX7_isSign 0 rfl) rfl rfl ?_
  refine R_geti (gxd kX7_isSign 1 rfl) gf_M_179 gk_65 (by decide) rfl ?_
  refine R_if_ne (gxd kX7_isSign 2 rfl) (tgt := 27) rfl (fun q => ?_) (fun q => ?_)
  · replace H := giff q H
    refine R_iconst (v := (0 : Int32)) (gxd kX7_isSign 13 rfl) rfl ?_
    obtain rfl := Option.some.inj H
    exact R_zret (gxd kX7_isSign 14 rfl) rfl (Or.inl rfl)
  · replace H := gift q H
    refine R_aload_n (gxd kX7_isSign 3 rfl) rfl rfl ?_
    refine R_geti (gxd kX7_isSign 4 rfl) gf_M_157 gk_65 (by decide) rfl ?_
    refine R_iconst (v := (3 : Int32)) (gxd kX7_isSign 5 rfl) rfl ?_
    refine R_icmp_ne (gxd kX7_isSign 6 rfl) (tgt := 27) rfl (fun q => ?_) (fun q => ?_)
    · replace H := giff q H
      refine R_iconst (v := (0 : Int32)) (gxd kX7_isSign 13 rfl) rfl ?_
      obtain rfl := Option.some.inj H
      exact R_zret (gxd kX7_isSign 14 rfl) rfl (Or.inl rfl)
    · replace H := gift q H
      refine R_aload_n (gxd kX7_isSign 7 rfl) rfl rfl ?_
      refine R_geti (gxd kX7_isSign 8 rfl) gf_M_168 gk_65 (by decide) rfl ?_
      refine R_iload_n (gxd kX7_isSign 9 rfl) rfl rfl ?_
      refine R_icmp_ne (gxd kX7_isSign 10 rfl) (tgt := 27) rfl (fun q => ?_) (fun q => ?_)
      · replace H := giff q H
        refine R_iconst (v := (0 : Int32)) (gxd kX7_isSign 13 rfl) rfl ?_
        obtain rfl := Option.some.inj H
        exact R_zret (gxd kX7_isSign 14 rfl) rfl (Or.inl rfl)
      · replace H := gift q H
        refine R_iconst (v := (1 : Int32)) (gxd kX7_isSign 11 rfl) rfl ?_
        refine R_goto (gxd kX7_isSign 12 rfl) (tgt := 28) rfl ?_
        obtain rfl := Option.some.inj H
        exact R_zret (gxd kX7_isSign 14 rfl) rfl (Or.inr rfl)
def fM_name_42 (h : gH) : Option (Int32 × gH) :=
  (fM_fail h).bind fun h1 =>
  some ((0 : Int32), h1)
theorem fM_name_42_ok {d : Nat}  {h : gH} {x : (Int32 × gH)} (H : fM_name_42   h = some x) : gR RX7 cX7_name 2 (some .int) (d + 3) 42 [.ref 65, .null] [] h (some (.int x.1)) x.2 := by
  unfold fM_name_42 at H
  refine R_aload_n (gxd kX7_name 21 rfl) rfl rfl ?_
  obtain ⟨h1, e2, H⟩ := gbi H
  refine R_callVv (gxd kX7_name 22 rfl) gm_M_192 wX7_fail (by decide) gk_65 rfl rfl (Nat.le_of_ble_eq_true rfl) (by omega) (fM_fail_ok  e2 (d + 2)) ?_
  refine R_iconst (v := (0 : Int32)) (gxd kX7_name 23 rfl) rfl ?_
  obtain rfl := Option.some.inj H
  exact R_iret (gxd kX7_name 24 rfl) rfl
def fM_name (h : gH) : Option (Int32 × gH) :=
  if (h 65 29) = (0 : Int32) then
    if (h 65 25) = (1 : Int32) then
      if (h 65 27) = (8 : Int32) then
        fM_name_42 h
      else
        (fM_bitsOf ((h 65 31) ||| ((1 : Int32) <<< ((h 65 27) &&& 31))) h).bind fun p3 =>
        if (3 : Int32) < p3.1 then
          fM_name_42 p3.2
        else
          glet (hu p3.2 65 31 ((p3.2 65 31) ||| ((1 : Int32) <<< ((p3.2 65 27) &&& 31)))) fun h5 =>
          (fM_next h5).bind fun h7 =>
          gg (gin (p3.2 65 27) 8) <|
          some ((h7 80 (p3.2 65 27).toNatClampNeg), h7)
    else
      fM_name_42 h
  else
    fM_name_42 h
theorem fM_name_ok {h : gH} {x : (Int32 × gH)} (H : fM_name  h = some x) (d : Nat) : gC yX7_name cX7_name 2 (some .int) (d + 3) [.ref 65] h (some (.int x.1)) x.2 := by
  refine gC_of (by decide +kernel) (Nat.le_of_ble_eq_true rfl) rfl ?_
  unfold fM_name at H
  refine R_aload_n (gxd kX7_name 0 rfl) rfl rfl ?_
  refine R_geti (gxd kX7_name 1 rfl) gf_M_179 gk_65 (by decide) rfl ?_
  refine R_if_ne (gxd kX7_name 2 rfl) (tgt := 42) rfl (fun q => ?_) (fun q => ?_)
  · replace H := giff q H
    exact R_weak (gle_same (gle_null gle_nil)) (fM_name_42_ok  H)
  · replace H := gift q H
    refine R_aload_n (gxd kX7_name 3 rfl) rfl rfl ?_
    refine R_geti (gxd kX7_name 4 rfl) gf_M_157 gk_65 (by decide) rfl ?_
    refine R_iconst (v := (1 : Int32)) (gxd kX7_name 5 rfl) rfl ?_
    refine R_icmp_ne (gxd kX7_name 6 rfl) (tgt := 42) rfl (fun q => ?_) (fun q => ?_)
    · replace H := giff q H
      exact R_weak (gle_same (gle_null gle_nil)) (fM_name_42_ok  H)
    · replace H := gift q H
      refine R_aload_n (gxd kX7_name 7 rfl) rfl rfl ?_
      refine R_geti (gxd kX7_name 8 rfl) gf_M_168 gk_65 (by decide) rfl ?_
      refine R_bipush (v := (8 : Int32)) (gxd kX7_name 9 rfl) rfl ?_
      refine R_icmp_eq (gxd kX7_name 10 rfl) (tgt := 42) rfl (fun q => ?_) (fun q => ?_)
      · replace H := gift q H
        exact R_weak (gle_same (gle_null gle_nil)) (fM_name_42_ok  H)
      · replace H := giff q H
        refine R_aload_n (gxd kX7_name 11 rfl) rfl rfl ?_
        refine R_geti (gxd kX7_name 12 rfl) gf_M_186 gk_65 (by decide) rfl ?_
        refine R_iconst (v := (1 : Int32)) (gxd kX7_name 13 rfl) rfl ?_
        refine R_aload_n (gxd kX7_name 14 rfl) rfl rfl ?_
        refine R_geti (gxd kX7_name 15 rfl) gf_M_168 gk_65 (by decide) rfl ?_
        refine R_ishl (gxd kX7_name 16 rfl) ?_
        refine R_ior (gxd kX7_name 17 rfl) ?_
        obtain ⟨p3, e4, H⟩ := gbi H
        refine R_callSi (gxd kX7_name 18 rfl) gm_M_189 wX7_bitsOf (by decide) rfl (Nat.le_of_ble_eq_true rfl) (by omega) (fM_bitsOf_ok  e4 (d + 2)) ?_
        refine R_iconst (v := (3 : Int32)) (gxd kX7_name 19 rfl) rfl ?_
        refine R_icmp_le (gxd kX7_name 20 rfl) (tgt := 48) rfl (fun q => ?_) (fun q => ?_)
        · replace H := giff q H
          refine R_aload_n (gxd kX7_name 25 rfl) rfl rfl ?_
          refine R_geti (gxd kX7_name 26 rfl) gf_M_168 gk_65 (by decide) rfl ?_
          refine R_istore_n (gxd kX7_name 27 rfl) rfl rfl (Nat.le_of_ble_eq_true rfl) rfl ?_
          refine R_aload_n (gxd kX7_name 28 rfl) rfl rfl ?_
          refine R_dup (gxd kX7_name 29 rfl) rfl ?_
          refine R_geti (gxd kX7_name 30 rfl) gf_M_186 gk_65 (by decide) rfl ?_
          refine R_iconst (v := (1 : Int32)) (gxd kX7_name 31 rfl) rfl ?_
          refine R_iload_n (gxd kX7_name 32 rfl) rfl rfl ?_
          refine R_ishl (gxd kX7_name 33 rfl) ?_
          refine R_ior (gxd kX7_name 34 rfl) ?_
          refine R_puti (gxd kX7_name 35 rfl) gf_M_186 gp_7_31 gk_65 (by decide) rfl ?_
          obtain ⟨h5, e6, H⟩ := glei H
          refine R_heq e6 ?_
          refine R_aload_n (gxd kX7_name 36 rfl) rfl rfl ?_
          obtain ⟨h7, e8, H⟩ := gbi H
          refine R_callVv (gxd kX7_name 37 rfl) gm_M_195 wX7_next (by decide) gk_65 rfl rfl (Nat.le_of_ble_eq_true rfl) (by omega) (fM_next_ok  e8 (d + 0)) ?_
          refine R_aload_n (gxd kX7_name 38 rfl) rfl rfl ?_
          refine R_getr (gxd kX7_name 39 rfl) gf_M_57 gk_65 (by decide) rfl ?_
          refine R_iload_n (gxd kX7_name 40 rfl) rfl rfl ?_
          obtain ⟨b9, H⟩ := ggi H
          have b9 := gin_in b9
          refine R_iald (gxd kX7_name 41 rfl) gk_80 b9 ?_
          obtain rfl := Option.some.inj H
          exact R_iret (gxd kX7_name 42 rfl) rfl
        · replace H := gift q H
          exact R_weak (gle_same (gle_null gle_nil)) (fM_name_42_ok  H)
def fM_term_5 (R : Nat → gH → Option (Int32 × gH)) : Nat → Int32 → gH → Option (Int32 × gH)
  | 0, _, _ => none
  | n + 1, v1, h =>
    (fM_isSign (42 : Int32) h).bind fun p3 =>
    if p3.1 = (0 : Int32) then
      some (v1, p3.2)
    else
      (fM_next p3.2).bind fun h5 =>
      (R 0 h5).bind fun p7 =>
      fM_term_5 R n (v1 * p7.1) p7.2
theorem fM_term_5_ok {d : Nat} {R : Nat → gH → Option (Int32 × gH)} (hR0 : ∀ h x, R 0 h = some x → gC yX7_one cX7_one 3 (some .int) (d + 3) [.ref 65] h (some (.int x.1)) x.2) (hR1 : ∀ h x, R 1 h = some x → gC yX7_term cX7_term 2 (some .int) (d + 3) [.ref 65] h (some (.int x.1)) x.2) (hR2 : ∀ h x, R 2 h = some x → gC yX7_sum cX7_sum 4 (some .int) (d + 3) [.ref 65] h (some (.int x.1)) x.2)  : ∀ (n : Nat) (v1 : Int32) (h : gH) (x : (Int32 × gH)), fM_term_5 R  n v1 h = some x → gR RX7 cX7_term 2 (some .int) (d + 4) 5 [.ref 65, .int v1] [] h (some (.int x.1)) x.2 := by
  intro n
  induction n with
  | zero => intro v1 h x  H; exact g0 H
  | succ n ih =>
    intro v1 h x  H
    unfold fM_term_5 at H
    refine R_aload_n (gxd kX7_term 3 rfl) rfl rfl ?_
    refine R_bipush (v := (42 : Int32)) (gxd kX7_term 4 rfl) rfl ?_
    obtain ⟨p3, e4, H⟩ := gbi H
    refine R_callVi (gxd kX7_term 5 rfl) gm_M_198 wX7_isSign (by decide) gk_65 rfl rfl (Nat.le_of_ble_eq_true rfl) (by omega) (fM_isSign_ok  e4 (d + 3)) ?_
    refine R_if_eq (gxd kX7_term 6 rfl) (tgt := 28) rfl (fun q => ?_) (fun q => ?_)
    · replace H := gift q H
      refine R_iload_n (gxd kX7_term 15 rfl) rfl rfl ?_
      obtain rfl := Option.some.inj H
      exact R_iret (gxd kX7_term 16 rfl) rfl
    · replace H := giff q H
      refine R_aload_n (gxd kX7_term 7 rfl) rfl rfl ?_
      obtain ⟨h5, e6, H⟩ := gbi H
      refine R_callVv (gxd kX7_term 8 rfl) gm_M_195 wX7_next (by decide) gk_65 rfl rfl (Nat.le_of_ble_eq_true rfl) (by omega) (fM_next_ok  e6 (d + 1)) ?_
      refine R_iload_n (gxd kX7_term 9 rfl) rfl rfl ?_
      refine R_aload_n (gxd kX7_term 10 rfl) rfl rfl ?_
      obtain ⟨p7, e8, H⟩ := gbi H
      refine R_callVi (gxd kX7_term 11 rfl) gm_M_208 wX7_one (by decide) gk_65 rfl rfl (Nat.le_of_ble_eq_true rfl) (by omega) (hR0 _ _ e8) ?_
      refine R_imul (gxd kX7_term 12 rfl) ?_
      refine R_istore_n (gxd kX7_term 13 rfl) rfl rfl (Nat.le_of_ble_eq_true rfl) rfl ?_
      refine R_goto (gxd kX7_term 14 rfl) (tgt := 5) rfl ?_
      exact R_weak (gle_same (gle_same gle_nil)) (ih _ _ _  H)
def fM_term (R : Nat → gH → Option (Int32 × gH)) (h : gH) : Option (Int32 × gH) :=
  (R 0 h).bind fun p1 =>
  fM_term_5 R gfu p1.1 p1.2
theorem fM_term_ok {d : Nat} {R : Nat → gH → Option (Int32 × gH)} (hR0 : ∀ h x, R 0 h = some x → gC yX7_one cX7_one 3 (some .int) (d + 3) [.ref 65] h (some (.int x.1)) x.2) (hR1 : ∀ h x, R 1 h = some x → gC yX7_term cX7_term 2 (some .int) (d + 3) [.ref 65] h (some (.int x.1)) x.2) (hR2 : ∀ h x, R 2 h = some x → gC yX7_sum cX7_sum 4 (some .int) (d + 3) [.ref 65] h (some (.int x.1)) x.2) {h : gH} {x : (Int32 × gH)} (H : fM_term R  h = some x) : gC yX7_term cX7_term 2 (some .int) (d + 4) [.ref 65] h (some (.int x.1)) x.2 := by
  refine gC_of (by decide +kernel) (Nat.le_of_ble_eq_true rfl) rfl ?_
  unfold fM_term at H
  refine R_aload_n (gxd kX7_term 0 rfl) rfl rfl ?_
  obtain ⟨p1, e2, H⟩ := gbi H
  refine R_callVi (gxd kX7_term 1 rfl) gm_M_208 wX7_one (by decide) gk_65 rfl rfl (Nat.le_of_ble_eq_true rfl) (by omega) (hR0 _ _ e2) ?_
  refine R_istore_n (gxd kX7_term 2 rfl) rfl rfl (Nat.le_of_ble_eq_true rfl) rfl ?_
  exact R_weak (gle_same (gle_same gle_nil)) (fM_term_5_ok hR0 hR1 hR2  gfu _ _ _  H)
def fM_sum_52 (R : Nat → gH → Option (Int32 × gH)) (k5 : Int32 → gH → Option (Int32 × gH)) (s0 : Int32) (h : gH) : Option (Int32 × gH) :=
  k5 s0 h
theorem fM_sum_52_ok {d : Nat} {R : Nat → gH → Option (Int32 × gH)} {k5 : Int32 → gH → Option (Int32 × gH)} {s0 : Int32} (hR0 : ∀ h x, R 0 h = some x → gC yX7_one cX7_one 3 (some .int) (d + 3) [.ref 65] h (some (.int x.1)) x.2) (hR1 : ∀ h x, R 1 h = some x → gC yX7_term cX7_term 2 (some .int) (d + 3) [.ref 65] h (some (.int x.1)) x.2) (hR2 : ∀ h x, R 2 h = some x → gC yX7_sum cX7_sum 4 (some .int) (d + 3) [.ref 65] h (some (.int x.1)) x.2) (hk5 : ∀ (u1 : Int32) (h : gH) (x : (Int32 × gH)), k5 u1 h = some x → gR RX7 cX7_sum 4 (some .int) (d + 4) 5 [.ref 65, .int u1, .null, .null] [] h (some (.int x.1)) x.2) {h : gH} {x : (Int32 × gH)} (H : fM_sum_52 R k5  s0 h = some x) : gR RX7 cX7_sum 4 (some .int) (d + 4) 52 [.ref 65, .null, .null, .null] [.int s0] h (some (.int x.1)) x.2 := by
  unfold fM_sum_52 at H
  refine R_istore_n (gxd kX7_sum 29 rfl) rfl rfl (Nat.le_of_ble_eq_true rfl) rfl ?_
  refine R_goto (gxd kX7_sum 30 rfl) (tgt := 5) rfl ?_
  exact R_weak (gle_same (gle_same (gle_null (gle_null gle_nil)))) (hk5 _ _ _  H)
def fM_sum_23 (R : Nat → gH → Option (Int32 × gH)) (k5 : Int32 → gH → Option (Int32 × gH)) (v1 : Int32) (h : gH) : Option (Int32 × gH) :=
  (fM_isSign (43 : Int32) h).bind fun p5 =>
  (fM_next p5.2).bind fun h7 =>
  (R 1 h7).bind fun p9 =>
  if p5.1 = (0 : Int32) then
    fM_sum_52 R k5 (v1 - p9.1) p9.2
  else
    fM_sum_52 R k5 (v1 + p9.1) p9.2
theorem fM_sum_23_ok {d : Nat} {R : Nat → gH → Option (Int32 × gH)} {k5 : Int32 → gH → Option (Int32 × gH)} {v1 : Int32} (hR0 : ∀ h x, R 0 h = some x → gC yX7_one cX7_one 3 (some .int) (d + 3) [.ref 65] h (some (.int x.1)) x.2) (hR1 : ∀ h x, R 1 h = some x → gC yX7_term cX7_term 2 (some .int) (d + 3) [.ref 65] h (some (.int x.1)) x.2) (hR2 : ∀ h x, R 2 h = some x → gC yX7_sum cX7_sum 4 (some .int) (d + 3) [.ref 65] h (some (.int x.1)) x.2) (hk5 : ∀ (u1 : Int32) (h : gH) (x : (Int32 × gH)), k5 u1 h = some x → gR RX7 cX7_sum 4 (some .int) (d + 4) 5 [.ref 65, .int u1, .null, .null] [] h (some (.int x.1)) x.2) {h : gH} {x : (Int32 × gH)} (H : fM_sum_23 R k5 v1  h = some x) : gR RX7 cX7_sum 4 (some .int) (d + 4) 23 [.ref 65, .int v1, .null, .null] [] h (some (.int x.1)) x.2 := by
  unfold fM_sum_23 at H
  refine R_aload_n (gxd kX7_sum 11 rfl) rfl rfl ?_
  refine R_bipush (v := (43 : Int32)) (gxd kX7_sum 12 rfl) rfl ?_
  obtain ⟨p5, e6, H⟩ := gbi H
  refine R_callVi (gxd kX7_sum 13 rfl) gm_M_198 wX7_isSign (by decide) gk_65 rfl rfl (Nat.le_of_ble_eq_true rfl) (by omega) (fM_isSign_ok  e6 (d + 3)) ?_
  refine R_istore_n (gxd kX7_sum 14 rfl) rfl rfl (Nat.le_of_ble_eq_true rfl) rfl ?_
  refine R_aload_n (gxd kX7_sum 15 rfl) rfl rfl ?_
  obtain ⟨h7, e8, H⟩ := gbi H
  refine R_callVv (gxd kX7_sum 16 rfl) gm_M_195 wX7_next (by decide) gk_65 rfl rfl (Nat.le_of_ble_eq_true rfl) (by omega) (fM_next_ok  e8 (d + 1)) ?_
  refine R_aload_n (gxd kX7_sum 17 rfl) rfl rfl ?_
  obtain ⟨p9, e10, H⟩ := gbi H
  refine R_callVi (gxd kX7_sum 18 rfl) gm_M_214 wX7_term (by decide) gk_65 rfl rfl (Nat.le_of_ble_eq_true rfl) (by omega) (hR1 _ _ e10) ?_
  refine R_istore_n (gxd kX7_sum 19 rfl) rfl rfl (Nat.le_of_ble_eq_true rfl) rfl ?_
  refine R_iload_n (gxd kX7_sum 20 rfl) rfl rfl ?_
  refine R_if_eq (gxd kX7_sum 21 rfl) (tgt := 49) rfl (fun q => ?_) (fun q => ?_)
  · replace H := gift q H
    refine R_iload_n (gxd kX7_sum 26 rfl) rfl rfl ?_
    refine R_iload_n (gxd kX7_sum 27 rfl) rfl rfl ?_
    refine R_isub (gxd kX7_sum 28 rfl) ?_
    exact R_weak (gle_same (gle_null (gle_null (gle_null gle_nil)))) (fM_sum_52_ok hR0 hR1 hR2 hk5  H)
  · replace H := giff q H
    refine R_iload_n (gxd kX7_sum 22 rfl) rfl rfl ?_
    refine R_iload_n (gxd kX7_sum 23 rfl) rfl rfl ?_
    refine R_iadd (gxd kX7_sum 24 rfl) ?_
    refine R_goto (gxd kX7_sum 25 rfl) (tgt := 52) rfl ?_
    exact R_weak (gle_same (gle_null (gle_null (gle_null gle_nil)))) (fM_sum_52_ok hR0 hR1 hR2 hk5  H)
def fM_sum_5 (R : Nat → gH → Option (Int32 × gH)) : Nat → Int32 → gH → Option (Int32 × gH)
  | 0, _, _ => none
  | n + 1, v1, h =>
    (fM_isSign (43 : Int32) h).bind fun p3 =>
    if p3.1 = (0 : Int32) then
      (fM_isSign (45 : Int32) p3.2).bind fun p11 =>
      if p11.1 = (0 : Int32) then
        some (v1, p11.2)
      else
        fM_sum_23 R (fM_sum_5 R n) v1 p11.2
    else
      fM_sum_23 R (fM_sum_5 R n) v1 p3.2
theorem fM_sum_5_ok {d : Nat} {R : Nat → gH → Option (Int32 × gH)} (hR0 : ∀ h x, R 0 h = some x → gC yX7_one cX7_one 3 (some .int) (d + 3) [.ref 65] h (some (.int x.1)) x.2) (hR1 : ∀ h x, R 1 h = some x → gC yX7_term cX7_term 2 (some .int) (d + 3) [.ref 65] h (some (.int x.1)) x.2) (hR2 : ∀ h x, R 2 h = some x → gC yX7_sum cX7_sum 4 (some .int) (d + 3) [.ref 65] h (some (.int x.1)) x.2)  : ∀ (n : Nat) (v1 : Int32) (h : gH) (x : (Int32 × gH)), fM_sum_5 R  n v1 h = some x → gR RX7 cX7_sum 4 (some .int) (d + 4) 5 [.ref 65, .int v1, .null, .null] [] h (some (.int x.1)) x.2 := by
  intro n
  induction n with
  | zero => intro v1 h x  H; exact g0 H
  | succ n ih =>
    intro v1 h x  H
    unfold fM_sum_5 at H
    refine R_aload_n (gxd kX7_sum 3 rfl) rfl rfl ?_
    refine R_bipush (v := (43 : Int32)) (gxd kX7_sum 4 rfl) rfl ?_
    obtain ⟨p3, e4, H⟩ := gbi H
    refine R_callVi (gxd kX7_sum 5 rfl) gm_M_198 wX7_isSign (by decide) gk_65 rfl rfl (Nat.le_of_ble_eq_true rfl) (by omega) (fM_isSign_ok  e4 (d + 3)) ?_
    refine R_if_ne (gxd kX7_sum 6 rfl) (tgt := 23) rfl (fun q => ?_) (fun q => ?_)
    · replace H := giff q H
      exact R_weak (gle_same (gle_same (gle_null (gle_null gle_nil)))) (fM_sum_23_ok hR0 hR1 hR2 ih  H)
    · replace H := gift q H
      refine R_aload_n (gxd kX7_sum 7 rfl) rfl rfl ?_
      refine R_bipush (v := (45 : Int32)) (gxd kX7_sum 8 rfl) rfl ?_
      obtain ⟨p11, e12, H⟩ := gbi H
      refine R_callVi (gxd kX7_sum 9 rfl) gm_M_198 wX7_isSign (by decide) gk_65 rfl rfl (Nat.le_of_ble_eq_true rfl) (by omega) (fM_isSign_ok  e12 (d + 3)) ?_
      refine R_if_eq (gxd kX7_sum 10 rfl) (tgt := 56) rfl (fun q => ?_) (fun q => ?_)
      · replace H := gift q H
        refine R_iload_n (gxd kX7_sum 31 rfl) rfl rfl ?_
        obtain rfl := Option.some.inj H
        exact R_iret (gxd kX7_sum 32 rfl) rfl
      · replace H := giff q H
        exact R_weak (gle_same (gle_same (gle_null (gle_null gle_nil)))) (fM_sum_23_ok hR0 hR1 hR2 ih  H)
def fM_sum (R : Nat → gH → Option (Int32 × gH)) (h : gH) : Option (Int32 × gH) :=
  (R 1 h).bind fun p1 =>
  fM_sum_5 R gfu p1.1 p1.2
theorem fM_sum_ok {d : Nat} {R : Nat → gH → Option (Int32 × gH)} (hR0 : ∀ h x, R 0 h = some x → gC yX7_one cX7_one 3 (some .int) (d + 3) [.ref 65] h (some (.int x.1)) x.2) (hR1 : ∀ h x, R 1 h = some x → gC yX7_term cX7_term 2 (some .int) (d + 3) [.ref 65] h (some (.int x.1)) x.2) (hR2 : ∀ h x, R 2 h = some x → gC yX7_sum cX7_sum 4 (some .int) (d + 3) [.ref 65] h (some (.int x.1)) x.2) {h : gH} {x : (Int32 × gH)} (H : fM_sum R  h = some x) : gC yX7_sum cX7_sum 4 (some .int) (d + 4) [.ref 65] h (some (.int x.1)) x.2 := by
  refine gC_of (by decide +kernel) (Nat.le_of_ble_eq_true rfl) rfl ?_
  unfold fM_sum at H
  refine R_aload_n (gxd kX7_sum 0 rfl) rfl rfl ?_
  obtain ⟨p1, e2, H⟩ := gbi H
  refine R_callVi (gxd kX7_sum 1 rfl) gm_M_214 wX7_term (by decide) gk_65 rfl rfl (Nat.le_of_ble_eq_true rfl) (by omega) (hR1 _ _ e2) ?_
  refine R_istore_n (gxd kX7_sum 2 rfl) rfl rfl (Nat.le_of_ble_eq_true rfl) rfl ?_
  exact R_weak (gle_same (gle_same (gle_null (gle_null gle_nil)))) (fM_sum_5_ok hR0 hR1 hR2  gfu _ _ _  H)
def fM_one_118 (R : Nat → gH → Option (Int32 × gH)) (v1 : Int32) (v2 : Int32) (h : gH) : Option (Int32 × gH) :=
  glet (hu h 65 28 ((h 65 28) - (1 : Int32))) fun h11 =>
  if v1 = (0 : Int32) then
    if (h11 65 29) = (0 : Int32) then
      (fM_next h11).bind fun h13 =>
      some (v2, h13)
    else
      some (v2, h11)
  else
    some (v2, h11)
theorem fM_one_118_ok {d : Nat} {R : Nat → gH → Option (Int32 × gH)} {v1 : Int32} {v2 : Int32} (hR0 : ∀ h x, R 0 h = some x → gC yX7_one cX7_one 3 (some .int) (d + 3) [.ref 65] h (some (.int x.1)) x.2) (hR1 : ∀ h x, R 1 h = some x → gC yX7_term cX7_term 2 (some .int) (d + 3) [.ref 65] h (some (.int x.1)) x.2) (hR2 : ∀ h x, R 2 h = some x → gC yX7_sum cX7_sum 4 (some .int) (d + 3) [.ref 65] h (some (.int x.1)) x.2)  {h : gH} {x : (Int32 × gH)} (H : fM_one_118 R v1 v2  h = some x) : gR RX7 cX7_one 3 (some .int) (d + 4) 118 [.ref 65, .int v1, .int v2] [] h (some (.int x.1)) x.2 := by
  unfold fM_one_118 at H
  refine R_aload_n (gxd kX7_one 62 rfl) rfl rfl ?_
  refine R_dup (gxd kX7_one 63 rfl) rfl ?_
  refine R_geti (gxd kX7_one 64 rfl) gf_M_205 gk_65 (by decide) rfl ?_
  refine R_iconst (v := (1 : Int32)) (gxd kX7_one 65 rfl) rfl ?_
  refine R_isub (gxd kX7_one 66 rfl) ?_
  refine R_puti (gxd kX7_one 67 rfl) gf_M_205 gp_7_28 gk_65 (by decide) rfl ?_
  obtain ⟨h11, e12, H⟩ := glei H
  refine R_heq e12 ?_
  refine R_iload_n (gxd kX7_one 68 rfl) rfl rfl ?_
  refine R_if_ne (gxd kX7_one 69 rfl) (tgt := 143) rfl (fun q => ?_) (fun q => ?_)
  · replace H := giff q H
    refine R_iload_n (gxd kX7_one 75 rfl) rfl rfl ?_
    obtain rfl := Option.some.inj H
    exact R_iret (gxd kX7_one 76 rfl) rfl
  · replace H := gift q H
    refine R_aload_n (gxd kX7_one 70 rfl) rfl rfl ?_
    refine R_geti (gxd kX7_one 71 rfl) gf_M_179 gk_65 (by decide) rfl ?_
    refine R_if_ne (gxd kX7_one 72 rfl) (tgt := 143) rfl (fun q => ?_) (fun q => ?_)
    · replace H := giff q H
      refine R_iload_n (gxd kX7_one 75 rfl) rfl rfl ?_
      obtain rfl := Option.some.inj H
      exact R_iret (gxd kX7_one 76 rfl) rfl
    · replace H := gift q H
      refine R_aload_n (gxd kX7_one 73 rfl) rfl rfl ?_
      obtain ⟨h13, e14, H⟩ := gbi H
      refine R_callVv (gxd kX7_one 74 rfl) gm_M_195 wX7_next (by decide) gk_65 rfl rfl (Nat.le_of_ble_eq_true rfl) (by omega) (fM_next_ok  e14 (d + 1)) ?_
      refine R_iload_n (gxd kX7_one 75 rfl) rfl rfl ?_
      obtain rfl := Option.some.inj H
      exact R_iret (gxd kX7_one 76 rfl) rfl
def fM_one_100 (R : Nat → gH → Option (Int32 × gH)) (v1 : Int32) (s0 : Int32) (h : gH) : Option (Int32 × gH) :=
  if v1 = (0 : Int32) then
    (fM_isSign (41 : Int32) h).bind fun p15 =>
    if p15.1 = (0 : Int32) then
      (fM_fail p15.2).bind fun h17 =>
      fM_one_118 R v1 s0 h17
    else
      fM_one_118 R v1 s0 p15.2
  else
    fM_one_118 R v1 s0 h
theorem fM_one_100_ok {d : Nat} {R : Nat → gH → Option (Int32 × gH)} {v1 : Int32} {s0 : Int32} (hR0 : ∀ h x, R 0 h = some x → gC yX7_one cX7_one 3 (some .int) (d + 3) [.ref 65] h (some (.int x.1)) x.2) (hR1 : ∀ h x, R 1 h = some x → gC yX7_term cX7_term 2 (some .int) (d + 3) [.ref 65] h (some (.int x.1)) x.2) (hR2 : ∀ h x, R 2 h = some x → gC yX7_sum cX7_sum 4 (some .int) (d + 3) [.ref 65] h (some (.int x.1)) x.2)  {h : gH} {x : (Int32 × gH)} (H : fM_one_100 R v1 s0 h = some x) : gR RX7 cX7_one 3 (some .int) (d + 4) 100 [.ref 65, .int v1, .null] [.int s0] h (some (.int x.1)) x.2 := by
  unfold fM_one_100 at H
  refine R_istore_n (gxd kX7_one 53 rfl) rfl rfl (Nat.le_of_ble_eq_true rfl) rfl ?_
  refine R_iload_n (gxd kX7_one 54 rfl) rfl rfl ?_
  refine R_if_ne (gxd kX7_one 55 rfl) (tgt := 118) rfl (fun q => ?_) (fun q => ?_)
  · replace H := giff q H
    exact R_weak (gle_same (gle_same (gle_same gle_nil))) (fM_one_118_ok hR0 hR1 hR2  H)
  · replace H := gift q H
    refine R_aload_n (gxd kX7_one 56 rfl) rfl rfl ?_
    refine R_bipush (v := (41 : Int32)) (gxd kX7_one 57 rfl) rfl ?_
    obtain ⟨p15, e16, H⟩ := gbi H
    refine R_callVi (gxd kX7_one 58 rfl) gm_M_198 wX7_isSign (by decide) gk_65 rfl rfl (Nat.le_of_ble_eq_true rfl) (by omega) (fM_isSign_ok  e16 (d + 3)) ?_
    refine R_if_ne (gxd kX7_one 59 rfl) (tgt := 118) rfl (fun q => ?_) (fun q => ?_)
    · replace H := giff q H
      exact R_weak (gle_same (gle_same (gle_same gle_nil))) (fM_one_118_ok hR0 hR1 hR2  H)
    · replace H := gift q H
      refine R_aload_n (gxd kX7_one 60 rfl) rfl rfl ?_
      obtain ⟨h17, e18, H⟩ := gbi H
      refine R_callVv (gxd kX7_one 61 rfl) gm_M_192 wX7_fail (by decide) gk_65 rfl rfl (Nat.le_of_ble_eq_true rfl) (by omega) (fM_fail_ok  e18 (d + 3)) ?_
      exact R_weak (gle_same (gle_same (gle_same gle_nil))) (fM_one_118_ok hR0 hR1 hR2  H)
def fM_one_49 (R : Nat → gH → Option (Int32 × gH)) (h : gH) : Option (Int32 × gH) :=
  if (h 65 28) = (5 : Int32) then
    (fM_fail h).bind fun h21 =>
    some ((0 : Int32), h21)
  else
    (fM_isSign (45 : Int32) h).bind fun p3 =>
    glet (hu p3.2 65 28 ((p3.2 65 28) + (1 : Int32))) fun h5 =>
    (fM_next h5).bind fun h7 =>
    if p3.1 = (0 : Int32) then
      (R 2 h7).bind fun p9 =>
      fM_one_100 R p3.1 p9.1 p9.2
    else
      (R 0 h7).bind fun p19 =>
      fM_one_100 R p3.1 (-p19.1) p19.2
theorem fM_one_49_ok {d : Nat} {R : Nat → gH → Option (Int32 × gH)} (hR0 : ∀ h x, R 0 h = some x → gC yX7_one cX7_one 3 (some .int) (d + 3) [.ref 65] h (some (.int x.1)) x.2) (hR1 : ∀ h x, R 1 h = some x → gC yX7_term cX7_term 2 (some .int) (d + 3) [.ref 65] h (some (.int x.1)) x.2) (hR2 : ∀ h x, R 2 h = some x → gC yX7_sum cX7_sum 4 (some .int) (d + 3) [.ref 65] h (some (.int x.1)) x.2)  {h : gH} {x : (Int32 × gH)} (H : fM_one_49 R   h = some x) : gR RX7 cX7_one 3 (some .int) (d + 4) 49 [.ref 65, .null, .null] [] h (some (.int x.1)) x.2 := by
  unfold fM_one_49 at H
  refine R_aload_n (gxd kX7_one 25 rfl) rfl rfl ?_
  refine R_geti (gxd kX7_one 26 rfl) gf_M_205 gk_65 (by decide) rfl ?_
  refine R_iconst (v := (5 : Int32)) (gxd kX7_one 27 rfl) rfl ?_
  refine R_icmp_ne (gxd kX7_one 28 rfl) (tgt := 63) rfl (fun q => ?_) (fun q => ?_)
  · replace H := giff q H
    refine R_aload_n (gxd kX7_one 33 rfl) rfl rfl ?_
    refine R_bipush (v := (45 : Int32)) (gxd kX7_one 34 rfl) rfl ?_
    obtain ⟨p3, e4, H⟩ := gbi H
    refine R_callVi (gxd kX7_one 35 rfl) gm_M_198 wX7_isSign (by decide) gk_65 rfl rfl (Nat.le_of_ble_eq_true rfl) (by omega) (fM_isSign_ok  e4 (d + 3)) ?_
    refine R_istore_n (gxd kX7_one 36 rfl) rfl rfl (Nat.le_of_ble_eq_true rfl) rfl ?_
    refine R_aload_n (gxd kX7_one 37 rfl) rfl rfl ?_
    refine R_dup (gxd kX7_one 38 rfl) rfl ?_
    refine R_geti (gxd kX7_one 39 rfl) gf_M_205 gk_65 (by decide) rfl ?_
    refine R_iconst (v := (1 : Int32)) (gxd kX7_one 40 rfl) rfl ?_
    refine R_iadd (gxd kX7_one 41 rfl) ?_
    refine R_puti (gxd kX7_one 42 rfl) gf_M_205 gp_7_28 gk_65 (by decide) rfl ?_
    obtain ⟨h5, e6, H⟩ := glei H
    refine R_heq e6 ?_
    refine R_aload_n (gxd kX7_one 43 rfl) rfl rfl ?_
    obtain ⟨h7, e8, H⟩ := gbi H
    refine R_callVv (gxd kX7_one 44 rfl) gm_M_195 wX7_next (by decide) gk_65 rfl rfl (Nat.le_of_ble_eq_true rfl) (by omega) (fM_next_ok  e8 (d + 1)) ?_
    refine R_iload_n (gxd kX7_one 45 rfl) rfl rfl ?_
    refine R_if_eq (gxd kX7_one 46 rfl) (tgt := 96) rfl (fun q => ?_) (fun q => ?_)
    · replace H := gift q H
      refine R_aload_n (gxd kX7_one 51 rfl) rfl rfl ?_
      obtain ⟨p9, e10, H⟩ := gbi H
      refine R_callVi (gxd kX7_one 52 rfl) gm_M_211 wX7_sum (by decide) gk_65 rfl rfl (Nat.le_of_ble_eq_true rfl) (by omega) (hR2 _ _ e10) ?_
      exact R_weak (gle_same (gle_same (gle_null gle_nil))) (fM_one_100_ok hR0 hR1 hR2  H)
    · replace H := giff q H
      refine R_aload_n (gxd kX7_one 47 rfl) rfl rfl ?_
      obtain ⟨p19, e20, H⟩ := gbi H
      refine R_callVi (gxd kX7_one 48 rfl) gm_M_208 wX7_one (by decide) gk_65 rfl rfl (Nat.le_of_ble_eq_true rfl) (by omega) (hR0 _ _ e20) ?_
      refine R_ineg (gxd kX7_one 49 rfl) ?_
      refine R_goto (gxd kX7_one 50 rfl) (tgt := 100) rfl ?_
      exact R_weak (gle_same (gle_same (gle_null gle_nil))) (fM_one_100_ok hR0 hR1 hR2  H)
  · replace H := gift q H
    refine R_aload_n (gxd kX7_one 29 rfl) rfl rfl ?_
    obtain ⟨h21, e22, H⟩ := gbi H
    refine R_callVv (gxd kX7_one 30 rfl) gm_M_192 wX7_fail (by decide) gk_65 rfl rfl (Nat.le_of_ble_eq_true rfl) (by omega) (fM_fail_ok  e22 (d + 3)) ?_
    refine R_iconst (v := (0 : Int32)) (gxd kX7_one 31 rfl) rfl ?_
    obtain rfl := Option.some.inj H
    exact R_iret (gxd kX7_one 32 rfl) rfl
def fM_one_26 (R : Nat → gH → Option (Int32 × gH)) (h : gH) : Option (Int32 × gH) :=
  (fM_isSign (45 : Int32) h).bind fun p1 =>
  if p1.1 = (0 : Int32) then
    (fM_isSign (40 : Int32) p1.2).bind fun p23 =>
    if p23.1 = (0 : Int32) then
      (fM_name p23.2).bind fun p25 =>
      some (p25.1, p25.2)
    else
      fM_one_49 R p23.2
  else
    fM_one_49 R p1.2
theorem fM_one_26_ok {d : Nat} {R : Nat → gH → Option (Int32 × gH)} (hR0 : ∀ h x, R 0 h = some x → gC yX7_one cX7_one 3 (some .int) (d + 3) [.ref 65] h (some (.int x.1)) x.2) (hR1 : ∀ h x, R 1 h = some x → gC yX7_term cX7_term 2 (some .int) (d + 3) [.ref 65] h (some (.int x.1)) x.2) (hR2 : ∀ h x, R 2 h = some x → gC yX7_sum cX7_sum 4 (some .int) (d + 3) [.ref 65] h (some (.int x.1)) x.2)  {h : gH} {x : (Int32 × gH)} (H : fM_one_26 R   h = some x) : gR RX7 cX7_one 3 (some .int) (d + 4) 26 [.ref 65, .null, .null] [] h (some (.int x.1)) x.2 := by
  unfold fM_one_26 at H
  refine R_aload_n (gxd kX7_one 14 rfl) rfl rfl ?_
  refine R_bipush (v := (45 : Int32)) (gxd kX7_one 15 rfl) rfl ?_
  obtain ⟨p1, e2, H⟩ := gbi H
  refine R_callVi (gxd kX7_one 16 rfl) gm_M_198 wX7_isSign (by decide) gk_65 rfl rfl (Nat.le_of_ble_eq_true rfl) (by omega) (fM_isSign_ok  e2 (d + 3)) ?_
  refine R_if_ne (gxd kX7_one 17 rfl) (tgt := 49) rfl (fun q => ?_) (fun q => ?_)
  · replace H := giff q H
    exact R_weak (gle_same (gle_null (gle_null gle_nil))) (fM_one_49_ok hR0 hR1 hR2  H)
  · replace H := gift q H
    refine R_aload_n (gxd kX7_one 18 rfl) rfl rfl ?_
    refine R_bipush (v := (40 : Int32)) (gxd kX7_one 19 rfl) rfl ?_
    obtain ⟨p23, e24, H⟩ := gbi H
    refine R_callVi (gxd kX7_one 20 rfl) gm_M_198 wX7_isSign (by decide) gk_65 rfl rfl (Nat.le_of_ble_eq_true rfl) (by omega) (fM_isSign_ok  e24 (d + 3)) ?_
    refine R_if_ne (gxd kX7_one 21 rfl) (tgt := 49) rfl (fun q => ?_) (fun q => ?_)
    · replace H := giff q H
      exact R_weak (gle_same (gle_null (gle_null gle_nil))) (fM_one_49_ok hR0 hR1 hR2  H)
    · replace H := gift q H
      refine R_aload_n (gxd kX7_one 22 rfl) rfl rfl ?_
      obtain ⟨p25, e26, H⟩ := gbi H
      refine R_callVi (gxd kX7_one 23 rfl) gm_M_201 wX7_name (by decide) gk_65 rfl rfl (Nat.le_of_ble_eq_true rfl) (by omega) (fM_name_ok  e26 (d + 0)) ?_
      obtain rfl := Option.some.inj H
      exact R_iret (gxd kX7_one 24 rfl) rfl
def fM_one (R : Nat → gH → Option (Int32 × gH)) (h : gH) : Option (Int32 × gH) :=
  if (h 65 29) = (0 : Int32) then
    if (h 65 25) = (2 : Int32) then
      (fM_next h).bind fun h27 =>
      some ((h 65 27), h27)
    else
      fM_one_26 R h
  else
    fM_one_26 R h
theorem fM_one_ok {d : Nat} {R : Nat → gH → Option (Int32 × gH)} (hR0 : ∀ h x, R 0 h = some x → gC yX7_one cX7_one 3 (some .int) (d + 3) [.ref 65] h (some (.int x.1)) x.2) (hR1 : ∀ h x, R 1 h = some x → gC yX7_term cX7_term 2 (some .int) (d + 3) [.ref 65] h (some (.int x.1)) x.2) (hR2 : ∀ h x, R 2 h = some x → gC yX7_sum cX7_sum 4 (some .int) (d + 3) [.ref 65] h (some (.int x.1)) x.2) {h : gH} {x : (Int32 × gH)} (H : fM_one R  h = some x) : gC yX7_one cX7_one 3 (some .int) (d + 4) [.ref 65] h (some (.int x.1)) x.2 := by
  refine gC_of (by decide +kernel) (Nat.le_of_ble_eq_true rfl) rfl ?_
  unfold fM_one at H
  refine R_aload_n (gxd kX7_one 0 rfl) rfl rfl ?_
  refine R_geti (gxd kX7_one 1 rfl) gf_M_179 gk_65 (by decide) rfl ?_
  refine R_if_ne (gxd kX7_one 2 rfl) (tgt := 26) rfl (fun q => ?_) (fun q => ?_)
  · replace H := giff q H
    exact R_weak (gle_same (gle_null (gle_null gle_nil))) (fM_one_26_ok hR0 hR1 hR2  H)
  · replace H := gift q H
    refine R_aload_n (gxd kX7_one 3 rfl) rfl rfl ?_
    refine R_geti (gxd kX7_one 4 rfl) gf_M_157 gk_65 (by decide) rfl ?_
    refine R_iconst (v := (2 : Int32)) (gxd kX7_one 5 rfl) rfl ?_
    refine R_icmp_ne (gxd kX7_one 6 rfl) (tgt := 26) rfl (fun q => ?_) (fun q => ?_)
    · replace H := giff q H
      exact R_weak (gle_same (gle_null (gle_null gle_nil))) (fM_one_26_ok hR0 hR1 hR2  H)
    · replace H := gift q H
      refine R_aload_n (gxd kX7_one 7 rfl) rfl rfl ?_
      refine R_geti (gxd kX7_one 8 rfl) gf_M_168 gk_65 (by decide) rfl ?_
      refine R_istore_n (gxd kX7_one 9 rfl) rfl rfl (Nat.le_of_ble_eq_true rfl) rfl ?_
      refine R_aload_n (gxd kX7_one 10 rfl) rfl rfl ?_
      obtain ⟨h27, e28, H⟩ := gbi H
      refine R_callVv (gxd kX7_one 11 rfl) gm_M_195 wX7_next (by decide) gk_65 rfl rfl (Nat.le_of_ble_eq_true rfl) (by omega) (fM_next_ok  e28 (d + 1)) ?_
      refine R_iload_n (gxd kX7_one 12 rfl) rfl rfl ?_
      obtain rfl := Option.some.inj H
      exact R_iret (gxd kX7_one 13 rfl) rfl
def gMG : Nat → Nat → gH → Option (Int32 × gH)
  | 0, _, _ => none
  | n + 1, 0, h => fM_one (gMG n) h
  | n + 1, 1, h => fM_term (gMG n) h
  | n + 1, 2, h => fM_sum (gMG n) h
  | _ + 1, _, _ => none
theorem gMG_all : ∀ n : Nat, (∀ (h : gH) (x : Int32 × gH), gMG n 0 h = some x → ∀ d : Nat, gC yX7_one cX7_one 3 (some .int) (d + (3 + n)) [.ref 65] h (some (.int x.1)) x.2) ∧ (∀ (h : gH) (x : Int32 × gH), gMG n 1 h = some x → ∀ d : Nat, gC yX7_term cX7_term 2 (some .int) (d + (3 + n)) [.ref 65] h (some (.int x.1)) x.2) ∧ (∀ (h : gH) (x : Int32 × gH), gMG n 2 h = some x → ∀ d : Nat, gC yX7_sum cX7_sum 4 (some .int) (d + (3 + n)) [.ref 65] h (some (.int x.1)) x.2) := by
  intro n
  induction n with
  | zero => exact ⟨fun h x H => g0 H, fun h x H => g0 H, fun h x H => g0 H⟩
  | succ n ih =>
    exact ⟨(fun h x H d => by
      have H2 := fM_one_ok (d := d + n)  (fun h x H => by have := ih.1 h x H d; rw [show d + (3 + n) = d + n + 3 by omega] at this; exact this) (fun h x H => by have := ih.2.1 h x H d; rw [show d + (3 + n) = d + n + 3 by omega] at this; exact this) (fun h x H => by have := ih.2.2 h x H d; rw [show d + (3 + n) = d + n + 3 by omega] at this; exact this) H
      rw [show d + (3 + (n + 1)) = d + n + 4 by omega]
      exact H2),
      (fun h x H d => by
      have H2 := fM_term_ok (d := d + n)  (fun h x H => by have := ih.1 h x H d; rw [show d + (3 + n) = d + n + 3 by omega] at this; exact this) (fun h x H => by have := ih.2.1 h x H d; rw [show d + (3 + n) = d + n + 3 by omega] at this; exact this) (fun h x H => by have := ih.2.2 h x H d; rw [show d + (3 + n) = d + n + 3 by omega] at this; exact this) H
      rw [show d + (3 + (n + 1)) = d + n + 4 by omega]
      exact H2),
      (fun h x H d => by
      have H2 := fM_sum_ok (d := d + n)  (fun h x H => by have := ih.1 h x H d; rw [show d + (3 + n) = d + n + 3 by omega] at this; exact this) (fun h x H => by have := ih.2.1 h x H d; rw [show d + (3 + n) = d + n + 3 by omega] at this; exact this) (fun h x H => by have := ih.2.2 h x H d; rw [show d + (3 + n) = d + n + 3 by omega] at this; exact this) H
      rw [show d + (3 + (n + 1)) = d + n + 4 by omega]
      exact H2)⟩
theorem gMG_ok_0 (n : Nat) : ∀ (h : gH) (x : Int32 × gH), gMG n 0 h = some x → ∀ d : Nat, gC yX7_one cX7_one 3 (some .int) (d + (3 + n)) [.ref 65] h (some (.int x.1)) x.2 := (gMG_all n).1
theorem gMG_ok_1 (n : Nat) : ∀ (h : gH) (x : Int32 × gH), gMG n 1 h = some x → ∀ d : Nat, gC yX7_term cX7_term 2 (some .int) (d + (3 + n)) [.ref 65] h (some (.int x.1)) x.2 := (gMG_all n).2.1
theorem gMG_ok_2 (n : Nat) : ∀ (h : gH) (x : Int32 × gH), gMG n 2 h = some x → ∀ d : Nat, gC yX7_sum cX7_sum 4 (some .int) (d + (3 + n)) [.ref 65] h (some (.int x.1)) x.2 := (gMG_all n).2.2
def fM_test_47 (v1 : Int32) (h : gH) : Option (Int32 × gH) :=
  (fM_next h).bind fun h5 =>
  (gMG 40 2 h5).bind fun p7 =>
  if (h 65 27) = (60 : Int32) then
    if v1 < p7.1 then
      some ((1 : Int32), p7.2)
    else
      some ((0 : Int32), p7.2)
  else
    if (h 65 27) = (61 : Int32) then
      if v1 = p7.1 then
        some ((1 : Int32), p7.2)
      else
        some ((0 : Int32), p7.2)
    else
      if (h 65 27) = (62 : Int32) then
        if p7.1 < v1 then
          some ((1 : Int32), p7.2)
        else
          some ((0 : Int32), p7.2)
      else
        if v1 = p7.1 then
          some ((0 : Int32), p7.2)
        else
          some ((1 : Int32), p7.2)
theorem fM_test_47_ok {d : Nat} {v1 : Int32}  {h : gH} {x : (Int32 × gH)} (H : fM_test_47 v1  h = some x) : gR RX7 cX7_test 4 (some .boolean) (d + 44) 47 [.ref 65, .int v1, .null, .null] [] h (some (.int x.1)) x.2 := by
  unfold fM_test_47 at H
  refine R_aload_n (gxd kX7_test 23 rfl) rfl rfl ?_
  refine R_geti (gxd kX7_test 24 rfl) gf_M_168 gk_65 (by decide) rfl ?_
  refine R_istore_n (gxd kX7_test 25 rfl) rfl rfl (Nat.le_of_ble_eq_true rfl) rfl ?_
  refine R_aload_n (gxd kX7_test 26 rfl) rfl rfl ?_
  obtain ⟨h5, e6, H⟩ := gbi H
  refine R_callVv (gxd kX7_test 27 rfl) gm_M_195 wX7_next (by decide) gk_65 rfl rfl (Nat.le_of_ble_eq_true rfl) (by omega) (fM_next_ok  e6 (d + 41)) ?_
  refine R_aload_n (gxd kX7_test 28 rfl) rfl rfl ?_
  obtain ⟨p7, e8, H⟩ := gbi H
  refine R_callVi (gxd kX7_test 29 rfl) gm_M_211 wX7_sum (by decide) gk_65 rfl rfl (Nat.le_of_ble_eq_true rfl) (by omega) (gMG_ok_2 40 _ _ e8 (d + 0)) ?_
  refine R_istore_n (gxd kX7_test 30 rfl) rfl rfl (Nat.le_of_ble_eq_true rfl) rfl ?_
  refine R_iload_n (gxd kX7_test 31 rfl) rfl rfl ?_
  refine R_bipush (v := (60 : Int32)) (gxd kX7_test 32 rfl) rfl ?_
  refine R_icmp_ne (gxd kX7_test 33 rfl) (tgt := 80) rfl (fun q => ?_) (fun q => ?_)
  · replace H := giff q H
    refine R_iload_n (gxd kX7_test 41 rfl) rfl rfl ?_
    refine R_bipush (v := (61 : Int32)) (gxd kX7_test 42 rfl) rfl ?_
    refine R_icmp_ne (gxd kX7_test 43 rfl) (tgt := 99) rfl (fun q => ?_) (fun q => ?_)
    · replace H := giff q H
      refine R_iload_n (gxd kX7_test 51 rfl) rfl rfl ?_
      refine R_bipush (v := (62 : Int32)) (gxd kX7_test 52 rfl) rfl ?_
      refine R_icmp_ne (gxd kX7_test 53 rfl) (tgt := 118) rfl (fun q => ?_) (fun q => ?_)
      · replace H := giff q H
        refine R_iload_n (gxd kX7_test 61 rfl) rfl rfl ?_
        refine R_iload_n (gxd kX7_test 62 rfl) rfl rfl ?_
        refine R_icmp_eq (gxd kX7_test 63 rfl) (tgt := 127) rfl (fun q => ?_) (fun q => ?_)
        · replace H := gift q H
          refine R_iconst (v := (0 : Int32)) (gxd kX7_test 66 rfl) rfl ?_
          obtain rfl := Option.some.inj H
          exact R_zret (gxd kX7_test 67 rfl) rfl (Or.inl rfl)
        · replace H := giff q H
          refine R_iconst (v := (1 : Int32)) (gxd kX7_test 64 rfl) rfl ?_
          refine R_goto (gxd kX7_test 65 rfl) (tgt := 128) rfl ?_
          obtain rfl := Option.some.inj H
          exact R_zret (gxd kX7_test 67 rfl) rfl (Or.inr rfl)
      · replace H := gift q H
        refine R_iload_n (gxd kX7_test 54 rfl) rfl rfl ?_
        refine R_iload_n (gxd kX7_test 55 rfl) rfl rfl ?_
        refine R_icmp_le (gxd kX7_test 56 rfl) (tgt := 114) rfl (fun q => ?_) (fun q => ?_)
        · replace H := giff q H
          refine R_iconst (v := (0 : Int32)) (gxd kX7_test 59 rfl) rfl ?_
          refine R_goto (gxd kX7_test 60 rfl) (tgt := 128) rfl ?_
          obtain rfl := Option.some.inj H
          exact R_zret (gxd kX7_test 67 rfl) rfl (Or.inl rfl)
        · replace H := gift q H
          refine R_iconst (v := (1 : Int32)) (gxd kX7_test 57 rfl) rfl ?_
          refine R_goto (gxd kX7_test 58 rfl) (tgt := 128) rfl ?_
          obtain rfl := Option.some.inj H
          exact R_zret (gxd kX7_test 67 rfl) rfl (Or.inr rfl)
    · replace H := gift q H
      refine R_iload_n (gxd kX7_test 44 rfl) rfl rfl ?_
      refine R_iload_n (gxd kX7_test 45 rfl) rfl rfl ?_
      refine R_icmp_ne (gxd kX7_test 46 rfl) (tgt := 95) rfl (fun q => ?_) (fun q => ?_)
      · replace H := giff q H
        refine R_iconst (v := (0 : Int32)) (gxd kX7_test 49 rfl) rfl ?_
        refine R_goto (gxd kX7_test 50 rfl) (tgt := 128) rfl ?_
        obtain rfl := Option.some.inj H
        exact R_zret (gxd kX7_test 67 rfl) rfl (Or.inl rfl)
      · replace H := gift q H
        refine R_iconst (v := (1 : Int32)) (gxd kX7_test 47 rfl) rfl ?_
        refine R_goto (gxd kX7_test 48 rfl) (tgt := 128) rfl ?_
        obtain rfl := Option.some.inj H
        exact R_zret (gxd kX7_test 67 rfl) rfl (Or.inr rfl)
  · replace H := gift q H
    refine R_iload_n (gxd kX7_test 34 rfl) rfl rfl ?_
    refine R_iload_n (gxd kX7_test 35 rfl) rfl rfl ?_
    refine R_icmp_ge (gxd kX7_test 36 rfl) (tgt := 76) rfl (fun q => ?_) (fun q => ?_)
    · replace H := giff q H
      refine R_iconst (v := (0 : Int32)) (gxd kX7_test 39 rfl) rfl ?_
      refine R_goto (gxd kX7_test 40 rfl) (tgt := 128) rfl ?_
      obtain rfl := Option.some.inj H
      exact R_zret (gxd kX7_test 67 rfl) rfl (Or.inl rfl)
    · replace H := gift q H
      refine R_iconst (v := (1 : Int32)) (gxd kX7_test 37 rfl) rfl ?_
      refine R_goto (gxd kX7_test 38 rfl) (tgt := 128) rfl ?_
      obtain rfl := Option.some.inj H
      exact R_zret (gxd kX7_test 67 rfl) rfl (Or.inr rfl)
def fM_test (h : gH) : Option (Int32 × gH) :=
  (gMG 40 2 h).bind fun p1 =>
  (fM_isSign (60 : Int32) p1.2).bind fun p3 =>
  if p3.1 = (0 : Int32) then
    (fM_isSign (61 : Int32) p3.2).bind fun p9 =>
    if p9.1 = (0 : Int32) then
      (fM_isSign (62 : Int32) p9.2).bind fun p11 =>
      if p11.1 = (0 : Int32) then
        (fM_isSign (33 : Int32) p11.2).bind fun p13 =>
        if p13.1 = (0 : Int32) then
          (fM_fail p13.2).bind fun h15 =>
          some ((0 : Int32), h15)
        else
          fM_test_47 p1.1 p13.2
      else
        fM_test_47 p1.1 p11.2
    else
      fM_test_47 p1.1 p9.2
  else
    fM_test_47 p1.1 p3.2
theorem fM_test_ok {h : gH} {x : (Int32 × gH)} (H : fM_test  h = some x) (d : Nat) : gC yX7_test cX7_test 4 (some .boolean) (d + 44) [.ref 65] h (some (.int x.1)) x.2 := by
  refine gC_of (by decide +kernel) (Nat.le_of_ble_eq_true rfl) rfl ?_
  unfold fM_test at H
  refine R_aload_n (gxd kX7_test 0 rfl) rfl rfl ?_
  obtain ⟨p1, e2, H⟩ := gbi H
  refine R_callVi (gxd kX7_test 1 rfl) gm_M_211 wX7_sum (by decide) gk_65 rfl rfl (Nat.le_of_ble_eq_true rfl) (by omega) (gMG_ok_2 40 _ _ e2 (d + 0)) ?_
  refine R_istore_n (gxd kX7_test 2 rfl) rfl rfl (Nat.le_of_ble_eq_true rfl) rfl ?_
  refine R_aload_n (gxd kX7_test 3 rfl) rfl rfl ?_
  refine R_bipush (v := (60 : Int32)) (gxd kX7_test 4 rfl) rfl ?_
  obtain ⟨p3, e4, H⟩ := gbi H
  refine R_callVi (gxd kX7_test 5 rfl) gm_M_198 wX7_isSign (by decide) gk_65 rfl rfl (Nat.le_of_ble_eq_true rfl) (by omega) (fM_isSign_ok  e4 (d + 43)) ?_
  refine R_if_ne (gxd kX7_test 6 rfl) (tgt := 47) rfl (fun q => ?_) (fun q => ?_)
  · replace H := giff q H
    exact R_weak (gle_same (gle_same (gle_null (gle_null gle_nil)))) (fM_test_47_ok  H)
  · replace H := gift q H
    refine R_aload_n (gxd kX7_test 7 rfl) rfl rfl ?_
    refine R_bipush (v := (61 : Int32)) (gxd kX7_test 8 rfl) rfl ?_
    obtain ⟨p9, e10, H⟩ := gbi H
    refine R_callVi (gxd kX7_test 9 rfl) gm_M_198 wX7_isSign (by decide) gk_65 rfl rfl (Nat.le_of_ble_eq_true rfl) (by omega) (fM_isSign_ok  e10 (d + 43)) ?_
    refine R_if_ne (gxd kX7_test 10 rfl) (tgt := 47) rfl (fun q => ?_) (fun q => ?_)
    · replace H := giff q H
      exact R_weak (gle_same (gle_same (gle_null (gle_null gle_nil)))) (fM_test_47_ok  H)
    · replace H := gift q H
      refine R_aload_n (gxd kX7_test 11 rfl) rfl rfl ?_
      refine R_bipush (v := (62 : Int32)) (gxd kX7_test 12 rfl) rfl ?_
      obtain ⟨p11, e12, H⟩ := gbi H
      refine R_callVi (gxd kX7_test 13 rfl) gm_M_198 wX7_isSign (by decide) gk_65 rfl rfl (Nat.le_of_ble_eq_true rfl) (by omega) (fM_isSign_ok  e12 (d + 43)) ?_
      refine R_if_ne (gxd kX7_test 14 rfl) (tgt := 47) rfl (fun q => ?_) (fun q => ?_)
      · replace H := giff q H
        exact R_weak (gle_same (gle_same (gle_null (gle_null gle_nil)))) (fM_test_47_ok  H)
      · replace H := gift q H
        refine R_aload_n (gxd kX7_test 15 rfl) rfl rfl ?_
        refine R_bipush (v := (33 : Int32)) (gxd kX7_test 16 rfl) rfl ?_
        obtain ⟨p13, e14, H⟩ := gbi H
        refine R_callVi (gxd kX7_test 17 rfl) gm_M_198 wX7_isSign (by decide) gk_65 rfl rfl (Nat.le_of_ble_eq_true rfl) (by omega) (fM_isSign_ok  e14 (d + 43)) ?_
        refine R_if_ne (gxd kX7_test 18 rfl) (tgt := 47) rfl (fun q => ?_) (fun q => ?_)
        · replace H := giff q H
          exact R_weak (gle_same (gle_same (gle_null (gle_null gle_nil)))) (fM_test_47_ok  H)
        · replace H := gift q H
          refine R_aload_n (gxd kX7_test 19 rfl) rfl rfl ?_
          obtain ⟨h15, e16, H⟩ := gbi H
          refine R_callVv (gxd kX7_test 20 rfl) gm_M_192 wX7_fail (by decide) gk_65 rfl rfl (Nat.le_of_ble_eq_true rfl) (by omega) (fM_fail_ok  e16 (d + 43)) ?_
          refine R_iconst (v := (0 : Int32)) (gxd kX7_test 21 rfl) rfl ?_
          obtain rfl := Option.some.inj H
          exact R_zret (gxd kX7_test 22 rfl) rfl (Or.inl rfl)
def fM_fresh_43 (h : gH) : Option (Int32 × gH) :=
  (fM_name h).bind fun p1 =>
  some (p1.1, p1.2)
theorem fM_fresh_43_ok {d : Nat}  {h : gH} {x : (Int32 × gH)} (H : fM_fresh_43   h = some x) : gR RX7 cX7_fresh 1 (some .int) (d + 4) 43 [.ref 65] [] h (some (.int x.1)) x.2 := by
  unfold fM_fresh_43 at H
  refine R_aload_n (gxd kX7_fresh 22 rfl) rfl rfl ?_
  obtain ⟨p1, e2, H⟩ := gbi H
  refine R_callVi (gxd kX7_fresh 23 rfl) gm_M_201 wX7_name (by decide) gk_65 rfl rfl (Nat.le_of_ble_eq_true rfl) (by omega) (fM_name_ok  e2 (d + 0)) ?_
  obtain rfl := Option.some.inj H
  exact R_iret (gxd kX7_fresh 24 rfl) rfl
def fM_fresh (h : gH) : Option (Int32 × gH) :=
  if (h 65 29) = (0 : Int32) then
    if (h 65 25) = (1 : Int32) then
      if (h 65 27) < (8 : Int32) then
        if (((h 65 31) >>> ((h 65 27) &&& 31)) &&& (1 : Int32)) = (1 : Int32) then
          (fM_fail h).bind fun h3 =>
          fM_fresh_43 h3
        else
          fM_fresh_43 h
      else
        fM_fresh_43 h
    else
      fM_fresh_43 h
  else
    fM_fresh_43 h
theorem fM_fresh_ok {h : gH} {x : (Int32 × gH)} (H : fM_fresh  h = some x) (d : Nat) : gC yX7_fresh cX7_fresh 1 (some .int) (d + 4) [.ref 65] h (some (.int x.1)) x.2 := by
  refine gC_of (by decide +kernel) (Nat.le_of_ble_eq_true rfl) rfl ?_
  unfold fM_fresh at H
  refine R_aload_n (gxd kX7_fresh 0 rfl) rfl rfl ?_
  refine R_geti (gxd kX7_fresh 1 rfl) gf_M_179 gk_65 (by decide) rfl ?_
  refine R_if_ne (gxd kX7_fresh 2 rfl) (tgt := 43) rfl (fun q => ?_) (fun q => ?_)
  · replace H := giff q H
    exact R_weak (gle_same gle_nil) (fM_fresh_43_ok  H)
  · replace H := gift q H
    refine R_aload_n (gxd kX7_fresh 3 rfl) rfl rfl ?_
    refine R_geti (gxd kX7_fresh 4 rfl) gf_M_157 gk_65 (by decide) rfl ?_
    refine R_iconst (v := (1 : Int32)) (gxd kX7_fresh 5 rfl) rfl ?_
    refine R_icmp_ne (gxd kX7_fresh 6 rfl) (tgt := 43) rfl (fun q => ?_) (fun q => ?_)
    · replace H := giff q H
      exact R_weak (gle_same gle_nil) (fM_fresh_43_ok  H)
    · replace H := gift q H
      refine R_aload_n (gxd kX7_fresh 7 rfl) rfl rfl ?_
      refine R_geti (gxd kX7_fresh 8 rfl) gf_M_168 gk_65 (by decide) rfl ?_
      refine R_bipush (v := (8 : Int32)) (gxd kX7_fresh 9 rfl) rfl ?_
      refine R_icmp_ge (gxd kX7_fresh 10 rfl) (tgt := 43) rfl (fun q => ?_) (fun q => ?_)
      · replace H := giff q H
        exact R_weak (gle_same gle_nil) (fM_fresh_43_ok  H)
      · replace H := gift q H
        refine R_aload_n (gxd kX7_fresh 11 rfl) rfl rfl ?_
        refine R_geti (gxd kX7_fresh 12 rfl) gf_M_186 gk_65 (by decide) rfl ?_
        refine R_aload_n (gxd kX7_fresh 13 rfl) rfl rfl ?_
        refine R_geti (gxd kX7_fresh 14 rfl) gf_M_168 gk_65 (by decide) rfl ?_
        refine R_ishr (gxd kX7_fresh 15 rfl) ?_
        refine R_iconst (v := (1 : Int32)) (gxd kX7_fresh 16 rfl) rfl ?_
        refine R_iand (gxd kX7_fresh 17 rfl) ?_
        refine R_iconst (v := (1 : Int32)) (gxd kX7_fresh 18 rfl) rfl ?_
        refine R_icmp_ne (gxd kX7_fresh 19 rfl) (tgt := 43) rfl (fun q => ?_) (fun q => ?_)
        · replace H := giff q H
          exact R_weak (gle_same gle_nil) (fM_fresh_43_ok  H)
        · replace H := gift q H
          refine R_aload_n (gxd kX7_fresh 20 rfl) rfl rfl ?_
          obtain ⟨h3, e4, H⟩ := gbi H
          refine R_callVv (gxd kX7_fresh 21 rfl) gm_M_192 wX7_fail (by decide) gk_65 rfl rfl (Nat.le_of_ble_eq_true rfl) (by omega) (fM_fail_ok  e4 (d + 3)) ?_
          exact R_weak (gle_same gle_nil) (fM_fresh_43_ok  H)
def fM_reads_261 (v1 : Int32) (h : gH) : Option (Int32 × gH) :=
  if (h 65 29) = (0 : Int32) then
    if (h 65 25) = (0 : Int32) then
      gg (gbo v1) <|
      some (v1, h)
    else
      (fM_fail h).bind fun h23 =>
      gg (gbo v1) <|
      some (v1, h23)
  else
    gg (gbo v1) <|
    some (v1, h)
theorem fM_reads_261_ok {d : Nat} {v1 : Int32}  {h : gH} {x : (Int32 × gH)} (H : fM_reads_261 v1  h = some x) : gR RX7 cX7_reads 6 (some .boolean) (d + 45) 261 [.ref 65, .int v1, .null, .null, .null, .null] [] h (some (.int x.1)) x.2 := by
  unfold fM_reads_261 at H
  refine R_aload_n (gxd kX7_reads 141 rfl) rfl rfl ?_
  refine R_geti (gxd kX7_reads 142 rfl) gf_M_179 gk_65 (by decide) rfl ?_
  refine R_if_ne (gxd kX7_reads 143 rfl) (tgt := 279) rfl (fun q => ?_) (fun q => ?_)
  · replace H := giff q H
    refine R_iload_n (gxd kX7_reads 149 rfl) rfl rfl ?_
    obtain ⟨b21, H⟩ := ggi H
    have b21 := gbo_or b21
    obtain rfl := Option.some.inj H
    exact R_zret (gxd kX7_reads 150 rfl) rfl b21
  · replace H := gift q H
    refine R_aload_n (gxd kX7_reads 144 rfl) rfl rfl ?_
    refine R_geti (gxd kX7_reads 145 rfl) gf_M_157 gk_65 (by decide) rfl ?_
    refine R_if_eq (gxd kX7_reads 146 rfl) (tgt := 279) rfl (fun q => ?_) (fun q => ?_)
    · replace H := gift q H
      refine R_iload_n (gxd kX7_reads 149 rfl) rfl rfl ?_
      obtain ⟨b22, H⟩ := ggi H
      have b22 := gbo_or b22
      obtain rfl := Option.some.inj H
      exact R_zret (gxd kX7_reads 150 rfl) rfl b22
    · replace H := giff q H
      refine R_aload_n (gxd kX7_reads 147 rfl) rfl rfl ?_
      obtain ⟨h23, e24, H⟩ := gbi H
      refine R_callVv (gxd kX7_reads 148 rfl) gm_M_192 wX7_fail (by decide) gk_65 rfl rfl (Nat.le_of_ble_eq_true rfl) (by omega) (fM_fail_ok  e24 (d + 44)) ?_
      refine R_iload_n (gxd kX7_reads 149 rfl) rfl rfl ?_
      obtain ⟨b25, H⟩ := ggi H
      have b25 := gbo_or b25
      obtain rfl := Option.some.inj H
      exact R_zret (gxd kX7_reads 150 rfl) rfl b25
def fM_reads_260 (s0 : Int32) (h : gH) : Option (Int32 × gH) :=
  fM_reads_261 s0 h
theorem fM_reads_260_ok {d : Nat} {s0 : Int32}  {h : gH} {x : (Int32 × gH)} (H : fM_reads_260  s0 h = some x) : gR RX7 cX7_reads 6 (some .boolean) (d + 45) 260 [.ref 65, .null, .null, .null, .null, .null] [.int s0] h (some (.int x.1)) x.2 := by
  unfold fM_reads_260 at H
  refine R_istore_n (gxd kX7_reads 140 rfl) rfl rfl (Nat.le_of_ble_eq_true rfl) rfl ?_
  exact R_weak (gle_same (gle_same (gle_null (gle_null (gle_null (gle_null gle_nil)))))) (fM_reads_261_ok  H)
def fM_reads_259 (h : gH) : Option (Int32 × gH) :=
  fM_reads_260 (0 : Int32) h
theorem fM_reads_259_ok {d : Nat}  {h : gH} {x : (Int32 × gH)} (H : fM_reads_259   h = some x) : gR RX7 cX7_reads 6 (some .boolean) (d + 45) 259 [.ref 65, .null, .null, .null, .null, .null] [] h (some (.int x.1)) x.2 := by
  unfold fM_reads_259 at H
  refine R_iconst (v := (0 : Int32)) (gxd kX7_reads 139 rfl) rfl ?_
  exact R_weak (gle_same (gle_null (gle_null (gle_null (gle_null (gle_null gle_nil)))))) (fM_reads_260_ok  H)
def fM_reads_255 (h : gH) : Option (Int32 × gH) :=
  fM_reads_260 (1 : Int32) h
theorem fM_reads_255_ok {d : Nat}  {h : gH} {x : (Int32 × gH)} (H : fM_reads_255   h = some x) : gR RX7 cX7_reads 6 (some .boolean) (d + 45) 255 [.ref 65, .null, .null, .null, .null, .null] [] h (some (.int x.1)) x.2 := by
  unfold fM_reads_255 at H
  refine R_iconst (v := (1 : Int32)) (gxd kX7_reads 137 rfl) rfl ?_
  refine R_goto (gxd kX7_reads 138 rfl) (tgt := 260) rfl ?_
  exact R_weak (gle_same (gle_null (gle_null (gle_null (gle_null (gle_null gle_nil)))))) (fM_reads_260_ok  H)
def fM_reads_242 (v1 : Int32) (v2 : Int32) (h : gH) : Option (Int32 × gH) :=
  gg (gin v2 8) <|
  if (h 80 v2.toNatClampNeg) = (0 : Int32) then
    if v1 = (0 : Int32) then
      fM_reads_255 h
    else
      fM_reads_259 h
  else
    fM_reads_259 h
theorem fM_reads_242_ok {d : Nat} {v1 : Int32} {v2 : Int32}  {h : gH} {x : (Int32 × gH)} (H : fM_reads_242 v1 v2  h = some x) : gR RX7 cX7_reads 6 (some .boolean) (d + 45) 242 [.ref 65, .int v1, .int v2, .null, .null, .null] [] h (some (.int x.1)) x.2 := by
  unfold fM_reads_242 at H
  refine R_aload_n (gxd kX7_reads 130 rfl) rfl rfl ?_
  refine R_getr (gxd kX7_reads 131 rfl) gf_M_57 gk_65 (by decide) rfl ?_
  refine R_iload_n (gxd kX7_reads 132 rfl) rfl rfl ?_
  obtain ⟨b27, H⟩ := ggi H
  have b27 := gin_in b27
  refine R_iald (gxd kX7_reads 133 rfl) gk_80 b27 ?_
  refine R_if_ne (gxd kX7_reads 134 rfl) (tgt := 259) rfl (fun q => ?_) (fun q => ?_)
  · replace H := giff q H
    exact R_weak (gle_same (gle_null (gle_null (gle_null (gle_null (gle_null gle_nil)))))) (fM_reads_259_ok  H)
  · replace H := gift q H
    refine R_iload_n (gxd kX7_reads 135 rfl) rfl rfl ?_
    refine R_if_ne (gxd kX7_reads 136 rfl) (tgt := 259) rfl (fun q => ?_) (fun q => ?_)
    · replace H := giff q H
      exact R_weak (gle_same (gle_null (gle_null (gle_null (gle_null (gle_null gle_nil)))))) (fM_reads_259_ok  H)
    · replace H := gift q H
      exact R_weak (gle_same (gle_null (gle_null (gle_null (gle_null (gle_null gle_nil)))))) (fM_reads_255_ok  H)
def fM_reads_218 (v2 : Int32) (v5 : Int32) (h : gH) : Option (Int32 × gH) :=
  (fM_test h).bind fun p19 =>
  if v5 = (0 : Int32) then
    fM_reads_261 p19.1 p19.2
  else
    gg (gin v2 8) <|
    if (p19.2 80 v2.toNatClampNeg) = (1 : Int32) then
      if p19.1 = (0 : Int32) then
        fM_reads_242 p19.1 v2 p19.2
      else
        fM_reads_255 p19.2
    else
      fM_reads_242 p19.1 v2 p19.2
theorem fM_reads_218_ok {d : Nat} {v2 : Int32} {v5 : Int32}  {h : gH} {x : (Int32 × gH)} (H : fM_reads_218 v2 v5  h = some x) : gR RX7 cX7_reads 6 (some .boolean) (d + 45) 218 [.ref 65, .null, .int v2, .null, .null, .int v5] [] h (some (.int x.1)) x.2 := by
  unfold fM_reads_218 at H
  refine R_aload_n (gxd kX7_reads 117 rfl) rfl rfl ?_
  obtain ⟨p19, e20, H⟩ := gbi H
  refine R_callVi (gxd kX7_reads 118 rfl) gm_M_223 wX7_test (by decide) gk_65 rfl rfl (Nat.le_of_ble_eq_true rfl) (by omega) (fM_test_ok  e20 (d + 0)) ?_
  refine R_istore_n (gxd kX7_reads 119 rfl) rfl rfl (Nat.le_of_ble_eq_true rfl) rfl ?_
  refine R_iload (gxd kX7_reads 120 rfl) rfl ?_
  refine R_if_eq (gxd kX7_reads 121 rfl) (tgt := 261) rfl (fun q => ?_) (fun q => ?_)
  · replace H := gift q H
    exact R_weak (gle_same (gle_same (gle_null (gle_null (gle_null (gle_null gle_nil)))))) (fM_reads_261_ok  H)
  · replace H := giff q H
    refine R_aload_n (gxd kX7_reads 122 rfl) rfl rfl ?_
    refine R_getr (gxd kX7_reads 123 rfl) gf_M_57 gk_65 (by decide) rfl ?_
    refine R_iload_n (gxd kX7_reads 124 rfl) rfl rfl ?_
    obtain ⟨b26, H⟩ := ggi H
    have b26 := gin_in b26
    refine R_iald (gxd kX7_reads 125 rfl) gk_80 b26 ?_
    refine R_iconst (v := (1 : Int32)) (gxd kX7_reads 126 rfl) rfl ?_
    refine R_icmp_ne (gxd kX7_reads 127 rfl) (tgt := 242) rfl (fun q => ?_) (fun q => ?_)
    · replace H := giff q H
      exact R_weak (gle_same (gle_same (gle_same (gle_null (gle_null (gle_null gle_nil)))))) (fM_reads_242_ok  H)
    · replace H := gift q H
      refine R_iload_n (gxd kX7_reads 128 rfl) rfl rfl ?_
      refine R_if_ne (gxd kX7_reads 129 rfl) (tgt := 255) rfl (fun q => ?_) (fun q => ?_)
      · replace H := giff q H
        exact R_weak (gle_same (gle_null (gle_null (gle_null (gle_null (gle_null gle_nil)))))) (fM_reads_255_ok  H)
      · replace H := gift q H
        exact R_weak (gle_same (gle_same (gle_same (gle_null (gle_null (gle_null gle_nil)))))) (fM_reads_242_ok  H)
def fM_reads_182 (v2 : Int32) (v4 : Int32) (s0 : Int32) (h : gH) : Option (Int32 × gH) :=
  if s0 = (0 : Int32) then
    glet (hu h 65 24 v4) fun h15 =>
    (fM_next h15).bind fun h17 =>
    fM_reads_218 v2 s0 h17
  else
    glet (hu h 65 32 (1 : Int32)) fun h28 =>
    glet (hu h28 65 31 ((1 : Int32) <<< (v2 &&& 31))) fun h30 =>
    (fM_next h30).bind fun h32 =>
    fM_reads_218 v2 s0 h32
theorem fM_reads_182_ok {d : Nat} {v2 : Int32} {v4 : Int32} {s0 : Int32}  {h : gH} {x : (Int32 × gH)} (H : fM_reads_182 v2 v4 s0 h = some x) : gR RX7 cX7_reads 6 (some .boolean) (d + 45) 182 [.ref 65, .null, .int v2, .null, .int v4, .null] [.int s0] h (some (.int x.1)) x.2 := by
  unfold fM_reads_182 at H
  refine R_istore (gxd kX7_reads 98 rfl) rfl (Nat.le_of_ble_eq_true rfl) rfl ?_
  refine R_iload (gxd kX7_reads 99 rfl) rfl ?_
  refine R_if_eq (gxd kX7_reads 100 rfl) (tgt := 208) rfl (fun q => ?_) (fun q => ?_)
  · replace H := gift q H
    refine R_aload_n (gxd kX7_reads 112 rfl) rfl rfl ?_
    refine R_iload (gxd kX7_reads 113 rfl) rfl ?_
    refine R_puti (gxd kX7_reads 114 rfl) gf_M_147 gp_7_24 gk_65 (by decide) rfl ?_
    obtain ⟨h15, e16, H⟩ := glei H
    refine R_heq e16 ?_
    refine R_aload_n (gxd kX7_reads 115 rfl) rfl rfl ?_
    obtain ⟨h17, e18, H⟩ := gbi H
    refine R_callVv (gxd kX7_reads 116 rfl) gm_M_195 wX7_next (by decide) gk_65 rfl rfl (Nat.le_of_ble_eq_true rfl) (by omega) (fM_next_ok  e18 (d + 42)) ?_
    exact R_weak (gle_same (gle_null (gle_same (gle_null (gle_null (gle_same gle_nil)))))) (fM_reads_218_ok  H)
  · replace H := giff q H
    refine R_aload_n (gxd kX7_reads 101 rfl) rfl rfl ?_
    refine R_iconst (v := (1 : Int32)) (gxd kX7_reads 102 rfl) rfl ?_
    refine R_puti (gxd kX7_reads 103 rfl) gf_M_217 gp_7_32 gk_65 (by decide) rfl ?_
    obtain ⟨h28, e29, H⟩ := glei H
    refine R_heq e29 ?_
    refine R_aload_n (gxd kX7_reads 104 rfl) rfl rfl ?_
    refine R_iconst (v := (1 : Int32)) (gxd kX7_reads 105 rfl) rfl ?_
    refine R_iload_n (gxd kX7_reads 106 rfl) rfl rfl ?_
    refine R_ishl (gxd kX7_reads 107 rfl) ?_
    refine R_puti (gxd kX7_reads 108 rfl) gf_M_186 gp_7_31 gk_65 (by decide) rfl ?_
    obtain ⟨h30, e31, H⟩ := glei H
    refine R_heq e31 ?_
    refine R_aload_n (gxd kX7_reads 109 rfl) rfl rfl ?_
    obtain ⟨h32, e33, H⟩ := gbi H
    refine R_callVv (gxd kX7_reads 110 rfl) gm_M_195 wX7_next (by decide) gk_65 rfl rfl (Nat.le_of_ble_eq_true rfl) (by omega) (fM_next_ok  e33 (d + 42)) ?_
    refine R_goto (gxd kX7_reads 111 rfl) (tgt := 218) rfl ?_
    exact R_weak (gle_same (gle_null (gle_same (gle_null (gle_null (gle_same gle_nil)))))) (fM_reads_218_ok  H)
def fM_reads_181 (v2 : Int32) (v4 : Int32) (h : gH) : Option (Int32 × gH) :=
  fM_reads_182 v2 v4 (0 : Int32) h
theorem fM_reads_181_ok {d : Nat} {v2 : Int32} {v4 : Int32}  {h : gH} {x : (Int32 × gH)} (H : fM_reads_181 v2 v4  h = some x) : gR RX7 cX7_reads 6 (some .boolean) (d + 45) 181 [.ref 65, .null, .int v2, .null, .int v4, .null] [] h (some (.int x.1)) x.2 := by
  unfold fM_reads_181 at H
  refine R_iconst (v := (0 : Int32)) (gxd kX7_reads 97 rfl) rfl ?_
  exact R_weak (gle_same (gle_null (gle_same (gle_null (gle_same (gle_null gle_nil)))))) (fM_reads_182_ok  H)
def fM_reads_139 (s0 : Int32) (h : gH) : Option (Int32 × gH) :=
  (fM_next h).bind fun h13 =>
  if s0 = (-1 : Int32) then
    fM_reads_181 s0 (h 65 26) h13
  else
    if (h13 65 25) = (3 : Int32) then
      if (h13 65 27) = (58 : Int32) then
        fM_reads_182 s0 (h 65 26) (1 : Int32) h13
      else
        fM_reads_181 s0 (h 65 26) h13
    else
      fM_reads_181 s0 (h 65 26) h13
theorem fM_reads_139_ok {d : Nat} {s0 : Int32}  {h : gH} {x : (Int32 × gH)} (H : fM_reads_139  s0 h = some x) : gR RX7 cX7_reads 6 (some .boolean) (d + 45) 139 [.ref 65, .null, .null, .null, .null, .null] [.int s0] h (some (.int x.1)) x.2 := by
  unfold fM_reads_139 at H
  refine R_istore_n (gxd kX7_reads 75 rfl) rfl rfl (Nat.le_of_ble_eq_true rfl) rfl ?_
  refine R_aload_n (gxd kX7_reads 76 rfl) rfl rfl ?_
  refine R_geti (gxd kX7_reads 77 rfl) gf_M_147 gk_65 (by decide) rfl ?_
  refine R_istore_n (gxd kX7_reads 78 rfl) rfl rfl (Nat.le_of_ble_eq_true rfl) rfl ?_
  refine R_aload_n (gxd kX7_reads 79 rfl) rfl rfl ?_
  refine R_geti (gxd kX7_reads 80 rfl) gf_M_150 gk_65 (by decide) rfl ?_
  refine R_istore (gxd kX7_reads 81 rfl) rfl (Nat.le_of_ble_eq_true rfl) rfl ?_
  refine R_aload_n (gxd kX7_reads 82 rfl) rfl rfl ?_
  obtain ⟨h13, e14, H⟩ := gbi H
  refine R_callVv (gxd kX7_reads 83 rfl) gm_M_195 wX7_next (by decide) gk_65 rfl rfl (Nat.le_of_ble_eq_true rfl) (by omega) (fM_next_ok  e14 (d + 42)) ?_
  refine R_iload_n (gxd kX7_reads 84 rfl) rfl rfl ?_
  refine R_iconst (v := (-1 : Int32)) (gxd kX7_reads 85 rfl) rfl ?_
  refine R_icmp_eq (gxd kX7_reads 86 rfl) (tgt := 181) rfl (fun q => ?_) (fun q => ?_)
  · replace H := gift q H
    exact R_weak (gle_same (gle_null (gle_same (gle_null (gle_same (gle_null gle_nil)))))) (fM_reads_181_ok  H)
  · replace H := giff q H
    refine R_aload_n (gxd kX7_reads 87 rfl) rfl rfl ?_
    refine R_geti (gxd kX7_reads 88 rfl) gf_M_157 gk_65 (by decide) rfl ?_
    refine R_iconst (v := (3 : Int32)) (gxd kX7_reads 89 rfl) rfl ?_
    refine R_icmp_ne (gxd kX7_reads 90 rfl) (tgt := 181) rfl (fun q => ?_) (fun q => ?_)
    · replace H := giff q H
      exact R_weak (gle_same (gle_null (gle_same (gle_null (gle_same (gle_null gle_nil)))))) (fM_reads_181_ok  H)
    · replace H := gift q H
      refine R_aload_n (gxd kX7_reads 91 rfl) rfl rfl ?_
      refine R_geti (gxd kX7_reads 92 rfl) gf_M_168 gk_65 (by decide) rfl ?_
      refine R_bipush (v := (58 : Int32)) (gxd kX7_reads 93 rfl) rfl ?_
      refine R_icmp_ne (gxd kX7_reads 94 rfl) (tgt := 181) rfl (fun q => ?_) (fun q => ?_)
      · replace H := giff q H
        exact R_weak (gle_same (gle_null (gle_same (gle_null (gle_same (gle_null gle_nil)))))) (fM_reads_181_ok  H)
      · replace H := gift q H
        refine R_iconst (v := (1 : Int32)) (gxd kX7_reads 95 rfl) rfl ?_
        refine R_goto (gxd kX7_reads 96 rfl) (tgt := 182) rfl ?_
        exact R_weak (gle_same (gle_null (gle_same (gle_null (gle_same (gle_null gle_nil)))))) (fM_reads_182_ok  H)
def fM_reads_123 (h : gH) : Option (Int32 × gH) :=
  if (h 65 25) = (1 : Int32) then
    fM_reads_139 (h 65 27) h
  else
    fM_reads_139 (-1 : Int32) h
theorem fM_reads_123_ok {d : Nat}  {h : gH} {x : (Int32 × gH)} (H : fM_reads_123   h = some x) : gR RX7 cX7_reads 6 (some .boolean) (d + 45) 123 [.ref 65, .null, .null, .null, .null, .null] [] h (some (.int x.1)) x.2 := by
  unfold fM_reads_123 at H
  refine R_aload_n (gxd kX7_reads 67 rfl) rfl rfl ?_
  refine R_geti (gxd kX7_reads 68 rfl) gf_M_157 gk_65 (by decide) rfl ?_
  refine R_iconst (v := (1 : Int32)) (gxd kX7_reads 69 rfl) rfl ?_
  refine R_icmp_ne (gxd kX7_reads 70 rfl) (tgt := 138) rfl (fun q => ?_) (fun q => ?_)
  · replace H := giff q H
    refine R_iconst (v := (-1 : Int32)) (gxd kX7_reads 74 rfl) rfl ?_
    exact R_weak (gle_same (gle_null (gle_null (gle_null (gle_null (gle_null gle_nil)))))) (fM_reads_139_ok  H)
  · replace H := gift q H
    refine R_aload_n (gxd kX7_reads 71 rfl) rfl rfl ?_
    refine R_geti (gxd kX7_reads 72 rfl) gf_M_168 gk_65 (by decide) rfl ?_
    refine R_goto (gxd kX7_reads 73 rfl) (tgt := 139) rfl ?_
    exact R_weak (gle_same (gle_null (gle_null (gle_null (gle_null (gle_null gle_nil)))))) (fM_reads_139_ok  H)
def fM_reads_119 (s0 : Int32) (h : gH) : Option (Int32 × gH) :=
  fM_reads_261 s0 h
theorem fM_reads_119_ok {d : Nat} {s0 : Int32}  {h : gH} {x : (Int32 × gH)} (H : fM_reads_119  s0 h = some x) : gR RX7 cX7_reads 6 (some .boolean) (d + 45) 119 [.ref 65, .null, .null, .null, .null, .null] [.int s0] h (some (.int x.1)) x.2 := by
  unfold fM_reads_119 at H
  refine R_istore_n (gxd kX7_reads 65 rfl) rfl rfl (Nat.le_of_ble_eq_true rfl) rfl ?_
  refine R_goto (gxd kX7_reads 66 rfl) (tgt := 261) rfl ?_
  exact R_weak (gle_same (gle_same (gle_null (gle_null (gle_null (gle_null gle_nil)))))) (fM_reads_261_ok  H)
def fM_reads_118 (h : gH) : Option (Int32 × gH) :=
  fM_reads_119 (0 : Int32) h
theorem fM_reads_118_ok {d : Nat}  {h : gH} {x : (Int32 × gH)} (H : fM_reads_118   h = some x) : gR RX7 cX7_reads 6 (some .boolean) (d + 45) 118 [.ref 65, .null, .null, .null, .null, .null] [] h (some (.int x.1)) x.2 := by
  unfold fM_reads_118 at H
  refine R_iconst (v := (0 : Int32)) (gxd kX7_reads 64 rfl) rfl ?_
  exact R_weak (gle_same (gle_null (gle_null (gle_null (gle_null (gle_null gle_nil)))))) (fM_reads_119_ok  H)
def fM_reads_77 (v2 : Int32) (v3 : Int32) (s0 : Int32) (h : gH) : Option (Int32 × gH) :=
  if (h 65 29) = (0 : Int32) then
    if (h 65 25) = (0 : Int32) then
      fM_reads_261 s0 h
    else
      (fM_fresh h).bind fun p42 =>
      if s0 = (0 : Int32) then
        fM_reads_118 p42.2
      else
        if v2 = p42.1 then
          fM_reads_118 p42.2
        else
          if v3 = p42.1 then
            fM_reads_118 p42.2
          else
            fM_reads_119 (1 : Int32) p42.2
  else
    fM_reads_261 s0 h
theorem fM_reads_77_ok {d : Nat} {v2 : Int32} {v3 : Int32} {s0 : Int32}  {h : gH} {x : (Int32 × gH)} (H : fM_reads_77 v2 v3 s0 h = some x) : gR RX7 cX7_reads 6 (some .boolean) (d + 45) 77 [.ref 65, .null, .int v2, .int v3, .null, .null] [.int s0] h (some (.int x.1)) x.2 := by
  unfold fM_reads_77 at H
  refine R_istore_n (gxd kX7_reads 44 rfl) rfl rfl (Nat.le_of_ble_eq_true rfl) rfl ?_
  refine R_aload_n (gxd kX7_reads 45 rfl) rfl rfl ?_
  refine R_geti (gxd kX7_reads 46 rfl) gf_M_179 gk_65 (by decide) rfl ?_
  refine R_if_ne (gxd kX7_reads 47 rfl) (tgt := 120) rfl (fun q => ?_) (fun q => ?_)
  · replace H := giff q H
    refine R_goto (gxd kX7_reads 66 rfl) (tgt := 261) rfl ?_
    exact R_weak (gle_same (gle_same (gle_null (gle_null (gle_null (gle_null gle_nil)))))) (fM_reads_261_ok  H)
  · replace H := gift q H
    refine R_aload_n (gxd kX7_reads 48 rfl) rfl rfl ?_
    refine R_geti (gxd kX7_reads 49 rfl) gf_M_157 gk_65 (by decide) rfl ?_
    refine R_if_eq (gxd kX7_reads 50 rfl) (tgt := 120) rfl (fun q => ?_) (fun q => ?_)
    · replace H := gift q H
      refine R_goto (gxd kX7_reads 66 rfl) (tgt := 261) rfl ?_
      exact R_weak (gle_same (gle_same (gle_null (gle_null (gle_null (gle_null gle_nil)))))) (fM_reads_261_ok  H)
    · replace H := giff q H
      refine R_aload_n (gxd kX7_reads 51 rfl) rfl rfl ?_
      obtain ⟨p42, e43, H⟩ := gbi H
      refine R_callVi (gxd kX7_reads 52 rfl) gm_M_220 wX7_fresh (by decide) gk_65 rfl rfl (Nat.le_of_ble_eq_true rfl) (by omega) (fM_fresh_ok  e43 (d + 40)) ?_
      refine R_istore (gxd kX7_reads 53 rfl) rfl (Nat.le_of_ble_eq_true rfl) rfl ?_
      refine R_iload_n (gxd kX7_reads 54 rfl) rfl rfl ?_
      refine R_if_eq (gxd kX7_reads 55 rfl) (tgt := 118) rfl (fun q => ?_) (fun q => ?_)
      · replace H := gift q H
        exact R_weak (gle_same (gle_null (gle_null (gle_null (gle_null (gle_null gle_nil)))))) (fM_reads_118_ok  H)
      · replace H := giff q H
        refine R_iload_n (gxd kX7_reads 56 rfl) rfl rfl ?_
        refine R_iload (gxd kX7_reads 57 rfl) rfl ?_
        refine R_icmp_eq (gxd kX7_reads 58 rfl) (tgt := 118) rfl (fun q => ?_) (fun q => ?_)
        · replace H := gift q H
          exact R_weak (gle_same (gle_null (gle_null (gle_null (gle_null (gle_null gle_nil)))))) (fM_reads_118_ok  H)
        · replace H := giff q H
          refine R_iload_n (gxd kX7_reads 59 rfl) rfl rfl ?_
          refine R_iload (gxd kX7_reads 60 rfl) rfl ?_
          refine R_icmp_eq (gxd kX7_reads 61 rfl) (tgt := 118) rfl (fun q => ?_) (fun q => ?_)
          · replace H := gift q H
            exact R_weak (gle_same (gle_null (gle_null (gle_null (gle_null (gle_null gle_nil)))))) (fM_reads_118_ok  H)
          · replace H := giff q H
            refine R_iconst (v := (1 : Int32)) (gxd kX7_reads 62 rfl) rfl ?_
            refine R_goto (gxd kX7_reads 63 rfl) (tgt := 119) rfl ?_
            exact R_weak (gle_same (gle_null (gle_null (gle_null (gle_null (gle_null gle_nil)))))) (fM_reads_119_ok  H)
def fM_reads (h : gH) : Option (Int32 × gH) :=
  glet (hu h 65 24 (0 : Int32)) fun h1 =>
  glet (hu h1 65 28 (0 : Int32)) fun h3 =>
  glet (hu h3 65 29 (0 : Int32)) fun h5 =>
  glet (hu h5 65 31 (0 : Int32)) fun h7 =>
  glet (hu h7 65 32 (0 : Int32)) fun h9 =>
  (fM_next h9).bind fun h11 =>
  if (h11 65 25) = (1 : Int32) then
    if (h11 65 27) = (8 : Int32) then
      glet (hu h11 65 32 (2 : Int32)) fun h34 =>
      (fM_next h34).bind fun h36 =>
      (fM_fresh h36).bind fun p38 =>
      (fM_fresh p38.2).bind fun p40 =>
      if p38.1 = p40.1 then
        fM_reads_77 p38.1 p40.1 (0 : Int32) p40.2
      else
        fM_reads_77 p38.1 p40.1 (1 : Int32) p40.2
    else
      fM_reads_123 h11
  else
    fM_reads_123 h11
theorem fM_reads_ok {h : gH} {x : (Int32 × gH)} (H : fM_reads  h = some x) (d : Nat) : gC yX7_reads cX7_reads 6 (some .boolean) (d + 45) [.ref 65] h (some (.int x.1)) x.2 := by
  refine gC_of (by decide +kernel) (Nat.le_of_ble_eq_true rfl) rfl ?_
  unfold fM_reads at H
  refine R_aload_n (gxd kX7_reads 0 rfl) rfl rfl ?_
  refine R_iconst (v := (0 : Int32)) (gxd kX7_reads 1 rfl) rfl ?_
  refine R_puti (gxd kX7_reads 2 rfl) gf_M_147 gp_7_24 gk_65 (by decide) rfl ?_
  obtain ⟨h1, e2, H⟩ := glei H
  refine R_heq e2 ?_
  refine R_aload_n (gxd kX7_reads 3 rfl) rfl rfl ?_
  refine R_iconst (v := (0 : Int32)) (gxd kX7_reads 4 rfl) rfl ?_
  refine R_puti (gxd kX7_reads 5 rfl) gf_M_205 gp_7_28 gk_65 (by decide) rfl ?_
  obtain ⟨h3, e4, H⟩ := glei H
  refine R_heq e4 ?_
  refine R_aload_n (gxd kX7_reads 6 rfl) rfl rfl ?_
  refine R_iconst (v := (0 : Int32)) (gxd kX7_reads 7 rfl) rfl ?_
  refine R_putz (gxd kX7_reads 8 rfl) gf_M_179 gp_7_29 (Or.inl rfl) gk_65 (by decide) rfl ?_
  obtain ⟨h5, e6, H⟩ := glei H
  refine R_heq e6 ?_
  refine R_aload_n (gxd kX7_reads 9 rfl) rfl rfl ?_
  refine R_iconst (v := (0 : Int32)) (gxd kX7_reads 10 rfl) rfl ?_
  refine R_puti (gxd kX7_reads 11 rfl) gf_M_186 gp_7_31 gk_65 (by decide) rfl ?_
  obtain ⟨h7, e8, H⟩ := glei H
  refine R_heq e8 ?_
  refine R_aload_n (gxd kX7_reads 12 rfl) rfl rfl ?_
  refine R_iconst (v := (0 : Int32)) (gxd kX7_reads 13 rfl) rfl ?_
  refine R_puti (gxd kX7_reads 14 rfl) gf_M_217 gp_7_32 gk_65 (by decide) rfl ?_
  obtain ⟨h9, e10, H⟩ := glei H
  refine R_heq e10 ?_
  refine R_aload_n (gxd kX7_reads 15 rfl) rfl rfl ?_
  obtain ⟨h11, e12, H⟩ := gbi H
  refine R_callVv (gxd kX7_reads 16 rfl) gm_M_195 wX7_next (by decide) gk_65 rfl rfl (Nat.le_of_ble_eq_true rfl) (by omega) (fM_next_ok  e12 (d + 42)) ?_
  refine R_iconst (v := (0 : Int32)) (gxd kX7_reads 17 rfl) rfl ?_
  refine R_istore_n (gxd kX7_reads 18 rfl) rfl rfl (Nat.le_of_ble_eq_true rfl) rfl ?_
  refine R_aload_n (gxd kX7_reads 19 rfl) rfl rfl ?_
  refine R_geti (gxd kX7_reads 20 rfl) gf_M_157 gk_65 (by decide) rfl ?_
  refine R_iconst (v := (1 : Int32)) (gxd kX7_reads 21 rfl) rfl ?_
  refine R_icmp_ne (gxd kX7_reads 22 rfl) (tgt := 123) rfl (fun q => ?_) (fun q => ?_)
  · replace H := giff q H
    exact R_weak (gle_same (gle_null (gle_null (gle_null (gle_null (gle_null gle_nil)))))) (fM_reads_123_ok  H)
  · replace H := gift q H
    refine R_aload_n (gxd kX7_reads 23 rfl) rfl rfl ?_
    refine R_geti (gxd kX7_reads 24 rfl) gf_M_168 gk_65 (by decide) rfl ?_
    refine R_bipush (v := (8 : Int32)) (gxd kX7_reads 25 rfl) rfl ?_
    refine R_icmp_ne (gxd kX7_reads 26 rfl) (tgt := 123) rfl (fun q => ?_) (fun q => ?_)
    · replace H := giff q H
      exact R_weak (gle_same (gle_null (gle_null (gle_null (gle_null (gle_null gle_nil)))))) (fM_reads_123_ok  H)
    · replace H := gift q H
      refine R_aload_n (gxd kX7_reads 27 rfl) rfl rfl ?_
      refine R_iconst (v := (2 : Int32)) (gxd kX7_reads 28 rfl) rfl ?_
      refine R_puti (gxd kX7_reads 29 rfl) gf_M_217 gp_7_32 gk_65 (by decide) rfl ?_
      obtain ⟨h34, e35, H⟩ := glei H
      refine R_heq e35 ?_
      refine R_aload_n (gxd kX7_reads 30 rfl) rfl rfl ?_
      obtain ⟨h36, e37, H⟩ := gbi H
      refine R_callVv (gxd kX7_reads 31 rfl) gm_M_195 wX7_next (by decide) gk_65 rfl rfl (Nat.le_of_ble_eq_true rfl) (by omega) (fM_next_ok  e37 (d + 42)) ?_
      refine R_aload_n (gxd kX7_reads 32 rfl) rfl rfl ?_
      obtain ⟨p38, e39, H⟩ := gbi H
      refine R_callVi (gxd kX7_reads 33 rfl) gm_M_220 wX7_fresh (by decide) gk_65 rfl rfl (Nat.le_of_ble_eq_true rfl) (by omega) (fM_fresh_ok  e39 (d + 40)) ?_
      refine R_istore_n (gxd kX7_reads 34 rfl) rfl rfl (Nat.le_of_ble_eq_true rfl) rfl ?_
      refine R_aload_n (gxd kX7_reads 35 rfl) rfl rfl ?_
      obtain ⟨p40, e41, H⟩ := gbi H
      refine R_callVi (gxd kX7_reads 36 rfl) gm_M_220 wX7_fresh (by decide) gk_65 rfl rfl (Nat.le_of_ble_eq_true rfl) (by omega) (fM_fresh_ok  e41 (d + 40)) ?_
      refine R_istore_n (gxd kX7_reads 37 rfl) rfl rfl (Nat.le_of_ble_eq_true rfl) rfl ?_
      refine R_iload_n (gxd kX7_reads 38 rfl) rfl rfl ?_
      refine R_iload_n (gxd kX7_reads 39 rfl) rfl rfl ?_
      refine R_icmp_eq (gxd kX7_reads 40 rfl) (tgt := 76) rfl (fun q => ?_) (fun q => ?_)
      · replace H := gift q H
        refine R_iconst (v := (0 : Int32)) (gxd kX7_reads 43 rfl) rfl ?_
        exact R_weak (gle_same (gle_null (gle_same (gle_same (gle_null (gle_null gle_nil)))))) (fM_reads_77_ok  H)
      · replace H := giff q H
        refine R_iconst (v := (1 : Int32)) (gxd kX7_reads 41 rfl) rfl ?_
        refine R_goto (gxd kX7_reads 42 rfl) (tgt := 77) rfl ?_
        exact R_weak (gle_same (gle_null (gle_same (gle_same (gle_null (gle_null gle_nil)))))) (fM_reads_77_ok  H)
def fM_variable_4 (v0 : Int32) (v1 : Int32) : Nat → Int32 → Int32 → gH → Option (Int32 × gH)
  | 0, _, _, _ => none
  | n + 1, v2, v3, h =>
    if v3 < (8 : Int32) then
      if ((v0 >>> (v3 &&& 31)) &&& (1 : Int32)) = (1 : Int32) then
        if v2 = v1 then
          some (v3, h)
        else
          fM_variable_4 v0 v1 n (v2 + (1 : Int32)) (v3 + (1 : Int32)) h
      else
        fM_variable_4 v0 v1 n v2 (v3 + (1 : Int32)) h
    else
      some ((-1 : Int32), h)
theorem fM_variable_4_ok {d : Nat} {v0 : Int32} {v1 : Int32}  : ∀ (n : Nat) (v2 : Int32) (v3 : Int32) (h : gH) (x : (Int32 × gH)), fM_variable_4 v0 v1 n v2 v3 h = some x → gR RX7 cX7_variable 4 (some .int) (d + 0) 4 [.int v0, .int v1, .int v2, .int v3] [] h (some (.int x.1)) x.2 := by
  intro n
  induction n with
  | zero => intro v2 v3 h x  H; exact g0 H
  | succ n ih =>
    intro v2 v3 h x  H
    unfold fM_variable_4 at H
    refine R_iload_n (gxd kX7_variable 4 rfl) rfl rfl ?_
    refine R_bipush (v := (8 : Int32)) (gxd kX7_variable 5 rfl) rfl ?_
    refine R_icmp_ge (gxd kX7_variable 6 rfl) (tgt := 35) rfl (fun q => ?_) (fun q => ?_)
    · replace H := giff q H
      refine R_iconst (v := (-1 : Int32)) (gxd kX7_variable 22 rfl) rfl ?_
      obtain rfl := Option.some.inj H
      exact R_iret (gxd kX7_variable 23 rfl) rfl
    · replace H := gift q H
      refine R_iload_n (gxd kX7_variable 7 rfl) rfl rfl ?_
      refine R_iload_n (gxd kX7_variable 8 rfl) rfl rfl ?_
      refine R_ishr (gxd kX7_variable 9 rfl) ?_
      refine R_iconst (v := (1 : Int32)) (gxd kX7_variable 10 rfl) rfl ?_
      refine R_iand (gxd kX7_variable 11 rfl) ?_
      refine R_iconst (v := (1 : Int32)) (gxd kX7_variable 12 rfl) rfl ?_
      refine R_icmp_ne (gxd kX7_variable 13 rfl) (tgt := 29) rfl (fun q => ?_) (fun q => ?_)
      · replace H := giff q H
        refine R_iinc (v := (v3 + (1 : Int32))) (gxd kX7_variable 20 rfl) rfl rfl rfl (Nat.le_of_ble_eq_true rfl) rfl ?_
        refine R_goto (gxd kX7_variable 21 rfl) (tgt := 4) rfl ?_
        exact R_weak (gle_same (gle_same (gle_same (gle_same gle_nil)))) (ih _ _ _ _  H)
      · replace H := gift q H
        refine R_iload_n (gxd kX7_variable 14 rfl) rfl rfl ?_
        refine R_iload_n (gxd kX7_variable 15 rfl) rfl rfl ?_
        refine R_icmp_ne (gxd kX7_variable 16 rfl) (tgt := 26) rfl (fun q => ?_) (fun q => ?_)
        · replace H := giff q H
          refine R_iinc (v := (v2 + (1 : Int32))) (gxd kX7_variable 19 rfl) rfl rfl rfl (Nat.le_of_ble_eq_true rfl) rfl ?_
          refine R_iinc (v := (v3 + (1 : Int32))) (gxd kX7_variable 20 rfl) rfl rfl rfl (Nat.le_of_ble_eq_true rfl) rfl ?_
          refine R_goto (gxd kX7_variable 21 rfl) (tgt := 4) rfl ?_
          exact R_weak (gle_same (gle_same (gle_same (gle_same gle_nil)))) (ih _ _ _ _  H)
        · replace H := gift q H
          refine R_iload_n (gxd kX7_variable 17 rfl) rfl rfl ?_
          obtain rfl := Option.some.inj H
          exact R_iret (gxd kX7_variable 18 rfl) rfl
def fM_variable (v0 : Int32) (v1 : Int32) (h : gH) : Option (Int32 × gH) :=
  fM_variable_4 v0 v1 gfu (0 : Int32) (0 : Int32) h
theorem fM_variable_ok {v0 : Int32} {v1 : Int32} {h : gH} {x : (Int32 × gH)} (H : fM_variable v0 v1 h = some x) (d : Nat) : gC yX7_variable cX7_variable 4 (some .int) (d + 0) [.int v0, .int v1] h (some (.int x.1)) x.2 := by
  refine gC_of (by decide +kernel) (Nat.le_of_ble_eq_true rfl) rfl ?_
  unfold fM_variable at H
  refine R_iconst (v := (0 : Int32)) (gxd kX7_variable 0 rfl) rfl ?_
  refine R_istore_n (gxd kX7_variable 1 rfl) rfl rfl (Nat.le_of_ble_eq_true rfl) rfl ?_
  refine R_iconst (v := (0 : Int32)) (gxd kX7_variable 2 rfl) rfl ?_
  refine R_istore_n (gxd kX7_variable 3 rfl) rfl rfl (Nat.le_of_ble_eq_true rfl) rfl ?_
  exact R_weak (gle_same (gle_same (gle_same (gle_same gle_nil)))) (fM_variable_4_ok  gfu _ _ _ _  H)
def fM_rule_166 (k80 : Int32 → gH → Option (Int32 × gH)) (v2 : Int32) (v3 : Int32) (v4 : Int32) (v5 : Int32) (v6 : Int32) (h : gH) : Option (Int32 × gH) :=
  (fM_reads h).bind fun p18 =>
  gg (gin (((((1000 : Int32) * (h 65 8)) + ((100 : Int32) * v4)) + ((10 : Int32) * v5)) + v6) 16000) <|
  gg (gbo p18.1) <|
  glet (hu p18.2 69 (((((1000 : Int32) * (h 65 8)) + ((100 : Int32) * v4)) + ((10 : Int32) * v5)) + v6).toNatClampNeg p18.1) fun h22 =>
  k80 (v6 + (1 : Int32)) h22
theorem fM_rule_166_ok {d : Nat} {k80 : Int32 → gH → Option (Int32 × gH)} {v2 : Int32} {v3 : Int32} {v4 : Int32} {v5 : Int32} {v6 : Int32} (hk80 : ∀ (u6 : Int32) (h : gH) (x : (Int32 × gH)), k80 u6 h = some x → gR RX7 cX7_rule 7 (some .int) (d + 46) 80 [.ref 65, .null, .int v2, .int v3, .int v4, .int v5, .int u6] [] h (some (.int x.1)) x.2) {h : gH} {x : (Int32 × gH)} (H : fM_rule_166 k80 v2 v3 v4 v5 v6  h = some x) : gR RX7 cX7_rule 7 (some .int) (d + 46) 166 [.ref 65, .null, .int v2, .int v3, .int v4, .int v5, .int v6] [] h (some (.int x.1)) x.2 := by
  unfold fM_rule_166 at H
  refine R_aload_n (gxd kX7_rule 89 rfl) rfl rfl ?_
  refine R_getr (gxd kX7_rule 90 rfl) gf_M_23 gk_65 (by decide) rfl ?_
  refine R_sipush (v := (1000 : Int32)) (gxd kX7_rule 91 rfl) rfl ?_
  refine R_aload_n (gxd kX7_rule 92 rfl) rfl rfl ?_
  refine R_geti (gxd kX7_rule 93 rfl) gf_M_226 gk_65 (by decide) rfl ?_
  refine R_imul (gxd kX7_rule 94 rfl) ?_
  refine R_bipush (v := (100 : Int32)) (gxd kX7_rule 95 rfl) rfl ?_
  refine R_iload (gxd kX7_rule 96 rfl) rfl ?_
  refine R_imul (gxd kX7_rule 97 rfl) ?_
  refine R_iadd (gxd kX7_rule 98 rfl) ?_
  refine R_bipush (v := (10 : Int32)) (gxd kX7_rule 99 rfl) rfl ?_
  refine R_iload (gxd kX7_rule 100 rfl) rfl ?_
  refine R_imul (gxd kX7_rule 101 rfl) ?_
  refine R_iadd (gxd kX7_rule 102 rfl) ?_
  refine R_iload (gxd kX7_rule 103 rfl) rfl ?_
  refine R_iadd (gxd kX7_rule 104 rfl) ?_
  refine R_aload_n (gxd kX7_rule 105 rfl) rfl rfl ?_
  obtain ⟨p18, e19, H⟩ := gbi H
  refine R_callVi (gxd kX7_rule 106 rfl) gm_M_232 wX7_reads (by decide) gk_65 rfl rfl (Nat.le_of_ble_eq_true rfl) (by omega) (fM_reads_ok  e19 (d + 0)) ?_
  obtain ⟨b20, H⟩ := ggi H
  have b20 := gin_in b20
  obtain ⟨b21, H⟩ := ggi H
  have b21 := gbo_or b21
  refine R_zast (gxd kX7_rule 107 rfl) gk_69 b20 b21 ?_
  obtain ⟨h22, e23, H⟩ := glei H
  refine R_heq e23 ?_
  refine R_iinc (v := (v6 + (1 : Int32))) (gxd kX7_rule 108 rfl) rfl rfl rfl (Nat.le_of_ble_eq_true rfl) rfl ?_
  refine R_goto (gxd kX7_rule 109 rfl) (tgt := 80) rfl ?_
  exact R_weak (gle_same (gle_null (gle_same (gle_same (gle_same (gle_same (gle_same gle_nil))))))) (hk80 _ _ _  H)
def fM_rule_149 (k80 : Int32 → gH → Option (Int32 × gH)) (v2 : Int32) (v3 : Int32) (v4 : Int32) (v5 : Int32) (v6 : Int32) (h : gH) : Option (Int32 × gH) :=
  if (2 : Int32) < v3 then
    (fM_variable v2 (2 : Int32) h).bind fun p24 =>
    gg (gin p24.1 8) <|
    fM_rule_166 k80 v2 v3 v4 v5 v6 (hu p24.2 80 p24.1.toNatClampNeg v6)
  else
    fM_rule_166 k80 v2 v3 v4 v5 v6 h
theorem fM_rule_149_ok {d : Nat} {k80 : Int32 → gH → Option (Int32 × gH)} {v2 : Int32} {v3 : Int32} {v4 : Int32} {v5 : Int32} {v6 : Int32} (hk80 : ∀ (u6 : Int32) (h : gH) (x : (Int32 × gH)), k80 u6 h = some x → gR RX7 cX7_rule 7 (some .int) (d + 46) 80 [.ref 65, .null, .int v2, .int v3, .int v4, .int v5, .int u6] [] h (some (.int x.1)) x.2) {h : gH} {x : (Int32 × gH)} (H : fM_rule_149 k80 v2 v3 v4 v5 v6  h = some x) : gR RX7 cX7_rule 7 (some .int) (d + 46) 149 [.ref 65, .null, .int v2, .int v3, .int v4, .int v5, .int v6] [] h (some (.int x.1)) x.2 := by
  unfold fM_rule_149 at H
  refine R_iload_n (gxd kX7_rule 79 rfl) rfl rfl ?_
  refine R_iconst (v := (2 : Int32)) (gxd kX7_rule 80 rfl) rfl ?_
  refine R_icmp_le (gxd kX7_rule 81 rfl) (tgt := 166) rfl (fun q => ?_) (fun q => ?_)
  · replace H := giff q H
    exact R_weak (gle_same (gle_null (gle_same (gle_same (gle_same (gle_same (gle_same gle_nil))))))) (fM_rule_166_ok hk80  H)
  · replace H := gift q H
    refine R_aload_n (gxd kX7_rule 82 rfl) rfl rfl ?_
    refine R_getr (gxd kX7_rule 83 rfl) gf_M_57 gk_65 (by decide) rfl ?_
    refine R_iload_n (gxd kX7_rule 84 rfl) rfl rfl ?_
    refine R_iconst (v := (2 : Int32)) (gxd kX7_rule 85 rfl) rfl ?_
    obtain ⟨p24, e25, H⟩ := gbi H
    refine R_callSi (gxd kX7_rule 86 rfl) gm_M_235 wX7_variable (by decide) rfl (Nat.le_of_ble_eq_true rfl) (by omega) (fM_variable_ok  e25 (d + 45)) ?_
    refine R_iload (gxd kX7_rule 87 rfl) rfl ?_
    obtain ⟨b26, H⟩ := ggi H
    have b26 := gin_in b26
    refine R_iast (gxd kX7_rule 88 rfl) gk_80 b26 ?_
    exact R_weak (gle_same (gle_null (gle_same (gle_same (gle_same (gle_same (gle_same gle_nil))))))) (fM_rule_166_ok hk80  H)
def fM_rule_132 (k80 : Int32 → gH → Option (Int32 × gH)) (v2 : Int32) (v3 : Int32) (v4 : Int32) (v5 : Int32) (v6 : Int32) (h : gH) : Option (Int32 × gH) :=
  if (1 : Int32) < v3 then
    (fM_variable v2 (1 : Int32) h).bind fun p27 =>
    gg (gin p27.1 8) <|
    fM_rule_149 k80 v2 v3 v4 v5 v6 (hu p27.2 80 p27.1.toNatClampNeg v5)
  else
    fM_rule_149 k80 v2 v3 v4 v5 v6 h
theorem fM_rule_132_ok {d : Nat} {k80 : Int32 → gH → Option (Int32 × gH)} {v2 : Int32} {v3 : Int32} {v4 : Int32} {v5 : Int32} {v6 : Int32} (hk80 : ∀ (u6 : Int32) (h : gH) (x : (Int32 × gH)), k80 u6 h = some x → gR RX7 cX7_rule 7 (some .int) (d + 46) 80 [.ref 65, .null, .int v2, .int v3, .int v4, .int v5, .int u6] [] h (some (.int x.1)) x.2) {h : gH} {x : (Int32 × gH)} (H : fM_rule_132 k80 v2 v3 v4 v5 v6  h = some x) : gR RX7 cX7_rule 7 (some .int) (d + 46) 132 [.ref 65, .null, .int v2, .int v3, .int v4, .int v5, .int v6] [] h (some (.int x.1)) x.2 := by
  unfold fM_rule_132 at H
  refine R_iload_n (gxd kX7_rule 69 rfl) rfl rfl ?_
  refine R_iconst (v := (1 : Int32)) (gxd kX7_rule 70 rfl) rfl ?_
  refine R_icmp_le (gxd kX7_rule 71 rfl) (tgt := 149) rfl (fun q => ?_) (fun q => ?_)
  · replace H := giff q H
    exact R_weak (gle_same (gle_null (gle_same (gle_same (gle_same (gle_same (gle_same gle_nil))))))) (fM_rule_149_ok hk80  H)
  · replace H := gift q H
    refine R_aload_n (gxd kX7_rule 72 rfl) rfl rfl ?_
    refine R_getr (gxd kX7_rule 73 rfl) gf_M_57 gk_65 (by decide) rfl ?_
    refine R_iload_n (gxd kX7_rule 74 rfl) rfl rfl ?_
    refine R_iconst (v := (1 : Int32)) (gxd kX7_rule 75 rfl) rfl ?_
    obtain ⟨p27, e28, H⟩ := gbi H
    refine R_callSi (gxd kX7_rule 76 rfl) gm_M_235 wX7_variable (by decide) rfl (Nat.le_of_ble_eq_true rfl) (by omega) (fM_variable_ok  e28 (d + 45)) ?_
    refine R_iload (gxd kX7_rule 77 rfl) rfl ?_
    obtain ⟨b29, H⟩ := ggi H
    have b29 := gin_in b29
    refine R_iast (gxd kX7_rule 78 rfl) gk_80 b29 ?_
    exact R_weak (gle_same (gle_null (gle_same (gle_same (gle_same (gle_same (gle_same gle_nil))))))) (fM_rule_149_ok hk80  H)
def fM_rule_116 (k80 : Int32 → gH → Option (Int32 × gH)) (v2 : Int32) (v3 : Int32) (v4 : Int32) (v5 : Int32) (v6 : Int32) (h : gH) : Option (Int32 × gH) :=
  if (0 : Int32) < v3 then
    (fM_variable v2 (0 : Int32) h).bind fun p30 =>
    gg (gin p30.1 8) <|
    fM_rule_132 k80 v2 v3 v4 v5 v6 (hu p30.2 80 p30.1.toNatClampNeg v4)
  else
    fM_rule_132 k80 v2 v3 v4 v5 v6 h
theorem fM_rule_116_ok {d : Nat} {k80 : Int32 → gH → Option (Int32 × gH)} {v2 : Int32} {v3 : Int32} {v4 : Int32} {v5 : Int32} {v6 : Int32} (hk80 : ∀ (u6 : Int32) (h : gH) (x : (Int32 × gH)), k80 u6 h = some x → gR RX7 cX7_rule 7 (some .int) (d + 46) 80 [.ref 65, .null, .int v2, .int v3, .int v4, .int v5, .int u6] [] h (some (.int x.1)) x.2) {h : gH} {x : (Int32 × gH)} (H : fM_rule_116 k80 v2 v3 v4 v5 v6  h = some x) : gR RX7 cX7_rule 7 (some .int) (d + 46) 116 [.ref 65, .null, .int v2, .int v3, .int v4, .int v5, .int v6] [] h (some (.int x.1)) x.2 := by
  unfold fM_rule_116 at H
  refine R_iload_n (gxd kX7_rule 60 rfl) rfl rfl ?_
  refine R_if_le (gxd kX7_rule 61 rfl) (tgt := 132) rfl (fun q => ?_) (fun q => ?_)
  · replace H := giff q H
    exact R_weak (gle_same (gle_null (gle_same (gle_same (gle_same (gle_same (gle_same gle_nil))))))) (fM_rule_132_ok hk80  H)
  · replace H := gift q H
    refine R_aload_n (gxd kX7_rule 62 rfl) rfl rfl ?_
    refine R_getr (gxd kX7_rule 63 rfl) gf_M_57 gk_65 (by decide) rfl ?_
    refine R_iload_n (gxd kX7_rule 64 rfl) rfl rfl ?_
    refine R_iconst (v := (0 : Int32)) (gxd kX7_rule 65 rfl) rfl ?_
    obtain ⟨p30, e31, H⟩ := gbi H
    refine R_callSi (gxd kX7_rule 66 rfl) gm_M_235 wX7_variable (by decide) rfl (Nat.le_of_ble_eq_true rfl) (by omega) (fM_variable_ok  e31 (d + 45)) ?_
    refine R_iload (gxd kX7_rule 67 rfl) rfl ?_
    obtain ⟨b32, H⟩ := ggi H
    have b32 := gin_in b32
    refine R_iast (gxd kX7_rule 68 rfl) gk_80 b32 ?_
    exact R_weak (gle_same (gle_null (gle_same (gle_same (gle_same (gle_same (gle_same gle_nil))))))) (fM_rule_132_ok hk80  H)
def fM_rule_107 (k80 : Int32 → gH → Option (Int32 × gH)) (v2 : Int32) (v3 : Int32) (v4 : Int32) (v5 : Int32) (v6 : Int32) (h : gH) : Option (Int32 × gH) :=
  if (0 : Int32) < v3 then
    fM_rule_116 k80 v2 v3 v4 v5 v6 h
  else
    if v4 = (0 : Int32) then
      fM_rule_116 k80 v2 v3 v4 v5 v6 h
    else
      k80 (v6 + (1 : Int32)) h
theorem fM_rule_107_ok {d : Nat} {k80 : Int32 → gH → Option (Int32 × gH)} {v2 : Int32} {v3 : Int32} {v4 : Int32} {v5 : Int32} {v6 : Int32} (hk80 : ∀ (u6 : Int32) (h : gH) (x : (Int32 × gH)), k80 u6 h = some x → gR RX7 cX7_rule 7 (some .int) (d + 46) 80 [.ref 65, .null, .int v2, .int v3, .int v4, .int v5, .int u6] [] h (some (.int x.1)) x.2) {h : gH} {x : (Int32 × gH)} (H : fM_rule_107 k80 v2 v3 v4 v5 v6  h = some x) : gR RX7 cX7_rule 7 (some .int) (d + 46) 107 [.ref 65, .null, .int v2, .int v3, .int v4, .int v5, .int v6] [] h (some (.int x.1)) x.2 := by
  unfold fM_rule_107 at H
  refine R_iload_n (gxd kX7_rule 56 rfl) rfl rfl ?_
  refine R_if_gt (gxd kX7_rule 57 rfl) (tgt := 116) rfl (fun q => ?_) (fun q => ?_)
  · replace H := gift q H
    exact R_weak (gle_same (gle_null (gle_same (gle_same (gle_same (gle_same (gle_same gle_nil))))))) (fM_rule_116_ok hk80  H)
  · replace H := giff q H
    refine R_iload (gxd kX7_rule 58 rfl) rfl ?_
    refine R_if_ne (gxd kX7_rule 59 rfl) (tgt := 198) rfl (fun q => ?_) (fun q => ?_)
    · replace H := giff q H
      refine R_iinc (v := (v6 + (1 : Int32))) (gxd kX7_rule 108 rfl) rfl rfl rfl (Nat.le_of_ble_eq_true rfl) rfl ?_
      refine R_goto (gxd kX7_rule 109 rfl) (tgt := 80) rfl ?_
      exact R_weak (gle_same (gle_null (gle_same (gle_same (gle_same (gle_same (gle_same gle_nil))))))) (hk80 _ _ _  H)
    · replace H := gift q H
      exact R_weak (gle_same (gle_null (gle_same (gle_same (gle_same (gle_same (gle_same gle_nil))))))) (fM_rule_116_ok hk80  H)
def fM_rule_97 (k80 : Int32 → gH → Option (Int32 × gH)) (v2 : Int32) (v3 : Int32) (v4 : Int32) (v5 : Int32) (v6 : Int32) (h : gH) : Option (Int32 × gH) :=
  if (1 : Int32) < v3 then
    fM_rule_107 k80 v2 v3 v4 v5 v6 h
  else
    if v5 = (0 : Int32) then
      fM_rule_107 k80 v2 v3 v4 v5 v6 h
    else
      k80 (v6 + (1 : Int32)) h
theorem fM_rule_97_ok {d : Nat} {k80 : Int32 → gH → Option (Int32 × gH)} {v2 : Int32} {v3 : Int32} {v4 : Int32} {v5 : Int32} {v6 : Int32} (hk80 : ∀ (u6 : Int32) (h : gH) (x : (Int32 × gH)), k80 u6 h = some x → gR RX7 cX7_rule 7 (some .int) (d + 46) 80 [.ref 65, .null, .int v2, .int v3, .int v4, .int v5, .int u6] [] h (some (.int x.1)) x.2) {h : gH} {x : (Int32 × gH)} (H : fM_rule_97 k80 v2 v3 v4 v5 v6  h = some x) : gR RX7 cX7_rule 7 (some .int) (d + 46) 97 [.ref 65, .null, .int v2, .int v3, .int v4, .int v5, .int v6] [] h (some (.int x.1)) x.2 := by
  unfold fM_rule_97 at H
  refine R_iload_n (gxd kX7_rule 51 rfl) rfl rfl ?_
  refine R_iconst (v := (1 : Int32)) (gxd kX7_rule 52 rfl) rfl ?_
  refine R_icmp_gt (gxd kX7_rule 53 rfl) (tgt := 107) rfl (fun q => ?_) (fun q => ?_)
  · replace H := gift q H
    exact R_weak (gle_same (gle_null (gle_same (gle_same (gle_same (gle_same (gle_same gle_nil))))))) (fM_rule_107_ok hk80  H)
  · replace H := giff q H
    refine R_iload (gxd kX7_rule 54 rfl) rfl ?_
    refine R_if_ne (gxd kX7_rule 55 rfl) (tgt := 198) rfl (fun q => ?_) (fun q => ?_)
    · replace H := giff q H
      refine R_iinc (v := (v6 + (1 : Int32))) (gxd kX7_rule 108 rfl) rfl rfl rfl (Nat.le_of_ble_eq_true rfl) rfl ?_
      refine R_goto (gxd kX7_rule 109 rfl) (tgt := 80) rfl ?_
      exact R_weak (gle_same (gle_null (gle_same (gle_same (gle_same (gle_same (gle_same gle_nil))))))) (hk80 _ _ _  H)
    · replace H := gift q H
      exact R_weak (gle_same (gle_null (gle_same (gle_same (gle_same (gle_same (gle_same gle_nil))))))) (fM_rule_107_ok hk80  H)
def fM_rule_80 (k70 : Int32 → gH → Option (Int32 × gH)) (v2 : Int32) (v3 : Int32) (v4 : Int32) (v5 : Int32) : Nat → Int32 → gH → Option (Int32 × gH)
  | 0, _, _ => none
  | n + 1, v6, h =>
    if v6 < (10 : Int32) then
      if (2 : Int32) < v3 then
        fM_rule_97 (fM_rule_80 k70 v2 v3 v4 v5 n) v2 v3 v4 v5 v6 h
      else
        if v6 = (0 : Int32) then
          fM_rule_97 (fM_rule_80 k70 v2 v3 v4 v5 n) v2 v3 v4 v5 v6 h
        else
          fM_rule_80 k70 v2 v3 v4 v5 n (v6 + (1 : Int32)) h
    else
      k70 (v5 + (1 : Int32)) h
theorem fM_rule_80_ok {d : Nat} {k70 : Int32 → gH → Option (Int32 × gH)} {v2 : Int32} {v3 : Int32} {v4 : Int32} {v5 : Int32} (hk70 : ∀ (u5 : Int32) (h : gH) (x : (Int32 × gH)), k70 u5 h = some x → gR RX7 cX7_rule 7 (some .int) (d + 46) 70 [.ref 65, .null, .int v2, .int v3, .int v4, .int u5, .null] [] h (some (.int x.1)) x.2) : ∀ (n : Nat) (v6 : Int32) (h : gH) (x : (Int32 × gH)), fM_rule_80 k70 v2 v3 v4 v5 n v6 h = some x → gR RX7 cX7_rule 7 (some .int) (d + 46) 80 [.ref 65, .null, .int v2, .int v3, .int v4, .int v5, .int v6] [] h (some (.int x.1)) x.2 := by
  intro n
  induction n with
  | zero => intro v6 h x  H; exact g0 H
  | succ n ih =>
    intro v6 h x  H
    unfold fM_rule_80 at H
    refine R_iload (gxd kX7_rule 43 rfl) rfl ?_
    refine R_bipush (v := (10 : Int32)) (gxd kX7_rule 44 rfl) rfl ?_
    refine R_icmp_ge (gxd kX7_rule 45 rfl) (tgt := 204) rfl (fun q => ?_) (fun q => ?_)
    · replace H := giff q H
      refine R_iinc (v := (v5 + (1 : Int32))) (gxd kX7_rule 110 rfl) rfl rfl rfl (Nat.le_of_ble_eq_true rfl) rfl ?_
      refine R_goto (gxd kX7_rule 111 rfl) (tgt := 70) rfl ?_
      exact R_weak (gle_same (gle_null (gle_same (gle_same (gle_same (gle_same (gle_null gle_nil))))))) (hk70 _ _ _  H)
    · replace H := gift q H
      refine R_iload_n (gxd kX7_rule 46 rfl) rfl rfl ?_
      refine R_iconst (v := (2 : Int32)) (gxd kX7_rule 47 rfl) rfl ?_
      refine R_icmp_gt (gxd kX7_rule 48 rfl) (tgt := 97) rfl (fun q => ?_) (fun q => ?_)
      · replace H := gift q H
        exact R_weak (gle_same (gle_null (gle_same (gle_same (gle_same (gle_same (gle_same gle_nil))))))) (fM_rule_97_ok ih  H)
      · replace H := giff q H
        refine R_iload (gxd kX7_rule 49 rfl) rfl ?_
        refine R_if_ne (gxd kX7_rule 50 rfl) (tgt := 198) rfl (fun q => ?_) (fun q => ?_)
        · replace H := giff q H
          refine R_iinc (v := (v6 + (1 : Int32))) (gxd kX7_rule 108 rfl) rfl rfl rfl (Nat.le_of_ble_eq_true rfl) rfl ?_
          refine R_goto (gxd kX7_rule 109 rfl) (tgt := 80) rfl ?_
          exact R_weak (gle_same (gle_null (gle_same (gle_same (gle_same (gle_same (gle_same gle_nil))))))) (ih _ _ _  H)
        · replace H := gift q H
          exact R_weak (gle_same (gle_null (gle_same (gle_same (gle_same (gle_same (gle_same gle_nil))))))) (fM_rule_97_ok ih  H)
def fM_rule_70 (k60 : Int32 → gH → Option (Int32 × gH)) (v2 : Int32) (v3 : Int32) (v4 : Int32) : Nat → Int32 → gH → Option (Int32 × gH)
  | 0, _, _ => none
  | n + 1, v5, h =>
    if v5 < (10 : Int32) then
      fM_rule_80 (fM_rule_70 k60 v2 v3 v4 n) v2 v3 v4 v5 gfu (0 : Int32) h
    else
      k60 (v4 + (1 : Int32)) h
theorem fM_rule_70_ok {d : Nat} {k60 : Int32 → gH → Option (Int32 × gH)} {v2 : Int32} {v3 : Int32} {v4 : Int32} (hk60 : ∀ (u4 : Int32) (h : gH) (x : (Int32 × gH)), k60 u4 h = some x → gR RX7 cX7_rule 7 (some .int) (d + 46) 60 [.ref 65, .null, .int v2, .int v3, .int u4, .null, .null] [] h (some (.int x.1)) x.2) : ∀ (n : Nat) (v5 : Int32) (h : gH) (x : (Int32 × gH)), fM_rule_70 k60 v2 v3 v4 n v5 h = some x → gR RX7 cX7_rule 7 (some .int) (d + 46) 70 [.ref 65, .null, .int v2, .int v3, .int v4, .int v5, .null] [] h (some (.int x.1)) x.2 := by
  intro n
  induction n with
  | zero => intro v5 h x  H; exact g0 H
  | succ n ih =>
    intro v5 h x  H
    unfold fM_rule_70 at H
    refine R_iload (gxd kX7_rule 38 rfl) rfl ?_
    refine R_bipush (v := (10 : Int32)) (gxd kX7_rule 39 rfl) rfl ?_
    refine R_icmp_ge (gxd kX7_rule 40 rfl) (tgt := 210) rfl (fun q => ?_) (fun q => ?_)
    · replace H := giff q H
      refine R_iinc (v := (v4 + (1 : Int32))) (gxd kX7_rule 112 rfl) rfl rfl rfl (Nat.le_of_ble_eq_true rfl) rfl ?_
      refine R_goto (gxd kX7_rule 113 rfl) (tgt := 60) rfl ?_
      exact R_weak (gle_same (gle_null (gle_same (gle_same (gle_same (gle_null (gle_null gle_nil))))))) (hk60 _ _ _  H)
    · replace H := gift q H
      refine R_iconst (v := (0 : Int32)) (gxd kX7_rule 41 rfl) rfl ?_
      refine R_istore (gxd kX7_rule 42 rfl) rfl (Nat.le_of_ble_eq_true rfl) rfl ?_
      exact R_weak (gle_same (gle_null (gle_same (gle_same (gle_same (gle_same (gle_same gle_nil))))))) (fM_rule_80_ok ih  gfu _ _ _  H)
def fM_rule_60 (v2 : Int32) (v3 : Int32) : Nat → Int32 → gH → Option (Int32 × gH)
  | 0, _, _ => none
  | n + 1, v4, h =>
    if v4 < (10 : Int32) then
      fM_rule_70 (fM_rule_60 v2 v3 n) v2 v3 v4 gfu (0 : Int32) h
    else
      glet (hu h 65 22 (0 : Int32)) fun h5 =>
      gg (gin (h5 65 8) 24) <|
      glet (hu h5 67 (h5 65 8).toNatClampNeg (h5 65 32)) fun h8 =>
      gg (gin (h8 65 8) 24) <|
      glet (hu h8 68 (h8 65 8).toNatClampNeg v2) fun h11 =>
      gg (gin (h11 65 8) 24) <|
      glet (hu h11 71 (h11 65 8).toNatClampNeg (1 : Int32)) fun h14 =>
      glet (hu h14 65 8 ((h14 65 8) + (1 : Int32))) fun h16 =>
      some (((h16 65 8) - (1 : Int32)), h16)
theorem fM_rule_60_ok {d : Nat} {v2 : Int32} {v3 : Int32}  : ∀ (n : Nat) (v4 : Int32) (h : gH) (x : (Int32 × gH)), fM_rule_60 v2 v3 n v4 h = some x → gR RX7 cX7_rule 7 (some .int) (d + 46) 60 [.ref 65, .null, .int v2, .int v3, .int v4, .null, .null] [] h (some (.int x.1)) x.2 := by
  intro n
  induction n with
  | zero => intro v4 h x  H; exact g0 H
  | succ n ih =>
    intro v4 h x  H
    unfold fM_rule_60 at H
    refine R_iload (gxd kX7_rule 33 rfl) rfl ?_
    refine R_bipush (v := (10 : Int32)) (gxd kX7_rule 34 rfl) rfl ?_
    refine R_icmp_ge (gxd kX7_rule 35 rfl) (tgt := 216) rfl (fun q => ?_) (fun q => ?_)
    · replace H := giff q H
      refine R_aload_n (gxd kX7_rule 114 rfl) rfl rfl ?_
      refine R_iconst (v := (0 : Int32)) (gxd kX7_rule 115 rfl) rfl ?_
      refine R_puti (gxd kX7_rule 116 rfl) gf_M_144 gp_7_22 gk_65 (by decide) rfl ?_
      obtain ⟨h5, e6, H⟩ := glei H
      refine R_heq e6 ?_
      refine R_aload_n (gxd kX7_rule 117 rfl) rfl rfl ?_
      refine R_getr (gxd kX7_rule 118 rfl) gf_M_17 gk_65 (by decide) rfl ?_
      refine R_aload_n (gxd kX7_rule 119 rfl) rfl rfl ?_
      refine R_geti (gxd kX7_rule 120 rfl) gf_M_226 gk_65 (by decide) rfl ?_
      refine R_aload_n (gxd kX7_rule 121 rfl) rfl rfl ?_
      refine R_geti (gxd kX7_rule 122 rfl) gf_M_217 gk_65 (by decide) rfl ?_
      obtain ⟨b7, H⟩ := ggi H
      have b7 := gin_in b7
      refine R_iast (gxd kX7_rule 123 rfl) gk_67 b7 ?_
      obtain ⟨h8, e9, H⟩ := glei H
      refine R_heq e9 ?_
      refine R_aload_n (gxd kX7_rule 124 rfl) rfl rfl ?_
      refine R_getr (gxd kX7_rule 125 rfl) gf_M_20 gk_65 (by decide) rfl ?_
      refine R_aload_n (gxd kX7_rule 126 rfl) rfl rfl ?_
      refine R_geti (gxd kX7_rule 127 rfl) gf_M_226 gk_65 (by decide) rfl ?_
      refine R_iload_n (gxd kX7_rule 128 rfl) rfl rfl ?_
      obtain ⟨b10, H⟩ := ggi H
      have b10 := gin_in b10
      refine R_iast (gxd kX7_rule 129 rfl) gk_68 b10 ?_
      obtain ⟨h11, e12, H⟩ := glei H
      refine R_heq e12 ?_
      refine R_aload_n (gxd kX7_rule 130 rfl) rfl rfl ?_
      refine R_getr (gxd kX7_rule 131 rfl) gf_M_30 gk_65 (by decide) rfl ?_
      refine R_aload_n (gxd kX7_rule 132 rfl) rfl rfl ?_
      refine R_geti (gxd kX7_rule 133 rfl) gf_M_226 gk_65 (by decide) rfl ?_
      refine R_iconst (v := (1 : Int32)) (gxd kX7_rule 134 rfl) rfl ?_
      obtain ⟨b13, H⟩ := ggi H
      have b13 := gin_in b13
      refine R_zast (gxd kX7_rule 135 rfl) gk_71 b13 (Or.inr rfl) ?_
      obtain ⟨h14, e15, H⟩ := glei H
      refine R_heq e15 ?_
      refine R_aload_n (gxd kX7_rule 136 rfl) rfl rfl ?_
      refine R_dup (gxd kX7_rule 137 rfl) rfl ?_
      refine R_geti (gxd kX7_rule 138 rfl) gf_M_226 gk_65 (by decide) rfl ?_
      refine R_iconst (v := (1 : Int32)) (gxd kX7_rule 139 rfl) rfl ?_
      refine R_iadd (gxd kX7_rule 140 rfl) ?_
      refine R_puti (gxd kX7_rule 141 rfl) gf_M_226 gp_7_8 gk_65 (by decide) rfl ?_
      obtain ⟨h16, e17, H⟩ := glei H
      refine R_heq e17 ?_
      refine R_aload_n (gxd kX7_rule 142 rfl) rfl rfl ?_
      refine R_geti (gxd kX7_rule 143 rfl) gf_M_226 gk_65 (by decide) rfl ?_
      refine R_iconst (v := (1 : Int32)) (gxd kX7_rule 144 rfl) rfl ?_
      refine R_isub (gxd kX7_rule 145 rfl) ?_
      obtain rfl := Option.some.inj H
      exact R_iret (gxd kX7_rule 146 rfl) rfl
    · replace H := gift q H
      refine R_iconst (v := (0 : Int32)) (gxd kX7_rule 36 rfl) rfl ?_
      refine R_istore (gxd kX7_rule 37 rfl) rfl (Nat.le_of_ble_eq_true rfl) rfl ?_
      exact R_weak (gle_same (gle_null (gle_same (gle_same (gle_same (gle_same (gle_null gle_nil))))))) (fM_rule_70_ok ih  gfu _ _ _  H)
def fM_rule (h : gH) : Option (Int32 × gH) :=
  if (h 65 8) = (16 : Int32) then
    some ((-4 : Int32), h)
  else
    if (h 65 2) = (0 : Int32) then
      (fM_reads h).bind fun p1 =>
      if (p1.2 65 29) = (0 : Int32) then
        (fM_bitsOf (p1.2 65 31) p1.2).bind fun p3 =>
        fM_rule_60 (p1.2 65 31) p3.1 gfu (0 : Int32) p3.2
      else
        glet (hu p1.2 65 22 (0 : Int32)) fun h33 =>
        some (((-100 : Int32) - (h33 65 30)), h33)
    else
      some ((-3 : Int32), h)
theorem fM_rule_ok {h : gH} {x : (Int32 × gH)} (H : fM_rule  h = some x) (d : Nat) : gC yX7_rule cX7_rule 7 (some .int) (d + 46) [.ref 65] h (some (.int x.1)) x.2 := by
  refine gC_of (by decide +kernel) (Nat.le_of_ble_eq_true rfl) rfl ?_
  unfold fM_rule at H
  refine R_aload_n (gxd kX7_rule 0 rfl) rfl rfl ?_
  refine R_geti (gxd kX7_rule 1 rfl) gf_M_226 gk_65 (by decide) rfl ?_
  refine R_bipush (v := (16 : Int32)) (gxd kX7_rule 2 rfl) rfl ?_
  refine R_icmp_ne (gxd kX7_rule 3 rfl) (tgt := 12) rfl (fun q => ?_) (fun q => ?_)
  · replace H := giff q H
    refine R_aload_n (gxd kX7_rule 6 rfl) rfl rfl ?_
    refine R_geti (gxd kX7_rule 7 rfl) gf_M_229 gk_65 (by decide) rfl ?_
    refine R_if_eq (gxd kX7_rule 8 rfl) (tgt := 22) rfl (fun q => ?_) (fun q => ?_)
    · replace H := gift q H
      refine R_aload_n (gxd kX7_rule 11 rfl) rfl rfl ?_
      obtain ⟨p1, e2, H⟩ := gbi H
      refine R_callVi (gxd kX7_rule 12 rfl) gm_M_232 wX7_reads (by decide) gk_65 rfl rfl (Nat.le_of_ble_eq_true rfl) (by omega) (fM_reads_ok  e2 (d + 0)) ?_
      refine R_istore_n (gxd kX7_rule 13 rfl) rfl rfl (Nat.le_of_ble_eq_true rfl) rfl ?_
      refine R_aload_n (gxd kX7_rule 14 rfl) rfl rfl ?_
      refine R_geti (gxd kX7_rule 15 rfl) gf_M_179 gk_65 (by decide) rfl ?_
      refine R_if_eq (gxd kX7_rule 16 rfl) (tgt := 47) rfl (fun q => ?_) (fun q => ?_)
      · replace H := gift q H
        refine R_aload_n (gxd kX7_rule 25 rfl) rfl rfl ?_
        refine R_geti (gxd kX7_rule 26 rfl) gf_M_186 gk_65 (by decide) rfl ?_
        refine R_istore_n (gxd kX7_rule 27 rfl) rfl rfl (Nat.le_of_ble_eq_true rfl) rfl ?_
        refine R_iload_n (gxd kX7_rule 28 rfl) rfl rfl ?_
        obtain ⟨p3, e4, H⟩ := gbi H
        refine R_callSi (gxd kX7_rule 29 rfl) gm_M_189 wX7_bitsOf (by decide) rfl (Nat.le_of_ble_eq_true rfl) (by omega) (fM_bitsOf_ok  e4 (d + 45)) ?_
        refine R_istore_n (gxd kX7_rule 30 rfl) rfl rfl (Nat.le_of_ble_eq_true rfl) rfl ?_
        refine R_iconst (v := (0 : Int32)) (gxd kX7_rule 31 rfl) rfl ?_
        refine R_istore (gxd kX7_rule 32 rfl) rfl (Nat.le_of_ble_eq_true rfl) rfl ?_
        exact R_weak (gle_same (gle_null (gle_same (gle_same (gle_same (gle_null (gle_null gle_nil))))))) (fM_rule_60_ok  gfu _ _ _  H)
      · replace H := giff q H
        refine R_aload_n (gxd kX7_rule 17 rfl) rfl rfl ?_
        refine R_iconst (v := (0 : Int32)) (gxd kX7_rule 18 rfl) rfl ?_
        refine R_puti (gxd kX7_rule 19 rfl) gf_M_144 gp_7_22 gk_65 (by decide) rfl ?_
        obtain ⟨h33, e34, H⟩ := glei H
        refine R_heq e34 ?_
        refine R_bipush (v := (-100 : Int32)) (gxd kX7_rule 20 rfl) rfl ?_
        refine R_aload_n (gxd kX7_rule 21 rfl) rfl rfl ?_
        refine R_geti (gxd kX7_rule 22 rfl) gf_M_183 gk_65 (by decide) rfl ?_
        refine R_isub (gxd kX7_rule 23 rfl) ?_
        obtain rfl := Option.some.inj H
        exact R_iret (gxd kX7_rule 24 rfl) rfl
    · replace H := giff q H
      refine R_bipush (v := (-3 : Int32)) (gxd kX7_rule 9 rfl) rfl ?_
      obtain rfl := Option.some.inj H
      exact R_iret (gxd kX7_rule 10 rfl) rfl
  · replace H := gift q H
    refine R_bipush (v := (-4 : Int32)) (gxd kX7_rule 4 rfl) rfl ?_
    obtain rfl := Option.some.inj H
    exact R_iret (gxd kX7_rule 5 rfl) rfl
def fM_allRules (h : gH) : Option (Int32 × gH) :=
  some (((h 65 8) + (h 65 9)), h)
theorem fM_allRules_ok {h : gH} {x : (Int32 × gH)} (H : fM_allRules  h = some x) (d : Nat) : gC yX7_allRules cX7_allRules 1 (some .int) (d + 0) [.ref 65] h (some (.int x.1)) x.2 := by
  refine gC_of (by decide +kernel) (Nat.le_of_ble_eq_true rfl) rfl ?_
  unfold fM_allRules at H
  refine R_aload_n (gxd kX7_allRules 0 rfl) rfl rfl ?_
  refine R_geti (gxd kX7_allRules 1 rfl) gf_M_226 gk_65 (by decide) rfl ?_
  refine R_aload_n (gxd kX7_allRules 2 rfl) rfl rfl ?_
  refine R_geti (gxd kX7_allRules 3 rfl) gf_M_239 gk_65 (by decide) rfl ?_
  refine R_iadd (gxd kX7_allRules 4 rfl) ?_
  obtain rfl := Option.some.inj H
  exact R_iret (gxd kX7_allRules 5 rfl) rfl
def fM_pairOf (v1 : Int32) (v2 : Int32) (h : gH) : Option (Int32 × gH) :=
  gg (gin (((8 : Int32) * (v1 - (16 : Int32))) + v2) 64) <|
  some ((h 70 (((8 : Int32) * (v1 - (16 : Int32))) + v2).toNatClampNeg), h)
theorem fM_pairOf_ok {v1 : Int32} {v2 : Int32} {h : gH} {x : (Int32 × gH)} (H : fM_pairOf v1 v2 h = some x) (d : Nat) : gC yX7_pairOf cX7_pairOf 3 (some .int) (d + 0) [.ref 65, .int v1, .int v2] h (some (.int x.1)) x.2 := by
  refine gC_of (by decide +kernel) (Nat.le_of_ble_eq_true rfl) rfl ?_
  unfold fM_pairOf at H
  refine R_aload_n (gxd kX7_pairOf 0 rfl) rfl rfl ?_
  refine R_getr (gxd kX7_pairOf 1 rfl) gf_M_27 gk_65 (by decide) rfl ?_
  refine R_bipush (v := (8 : Int32)) (gxd kX7_pairOf 2 rfl) rfl ?_
  refine R_iload_n (gxd kX7_pairOf 3 rfl) rfl rfl ?_
  refine R_bipush (v := (16 : Int32)) (gxd kX7_pairOf 4 rfl) rfl ?_
  refine R_isub (gxd kX7_pairOf 5 rfl) ?_
  refine R_imul (gxd kX7_pairOf 6 rfl) ?_
  refine R_iload_n (gxd kX7_pairOf 7 rfl) rfl rfl ?_
  refine R_iadd (gxd kX7_pairOf 8 rfl) ?_
  obtain ⟨b1, H⟩ := ggi H
  have b1 := gin_in b1
  refine R_iald (gxd kX7_pairOf 9 rfl) gk_70 b1 ?_
  obtain rfl := Option.some.inj H
  exact R_iret (gxd kX7_pairOf 10 rfl) rfl
def fM_ruleAt (v1 : Int32) (h : gH) : Option (Int32 × gH) :=
  if v1 < (h 65 8) then
    some (v1, h)
  else
    some ((((16 : Int32) + v1) - (h 65 8)), h)
theorem fM_ruleAt_ok {v1 : Int32} {h : gH} {x : (Int32 × gH)} (H : fM_ruleAt v1 h = some x) (d : Nat) : gC yX7_ruleAt cX7_ruleAt 2 (some .int) (d + 0) [.ref 65, .int v1] h (some (.int x.1)) x.2 := by
  refine gC_of (by decide +kernel) (Nat.le_of_ble_eq_true rfl) rfl ?_
  unfold fM_ruleAt at H
  refine R_iload_n (gxd kX7_ruleAt 0 rfl) rfl rfl ?_
  refine R_aload_n (gxd kX7_ruleAt 1 rfl) rfl rfl ?_
  refine R_geti (gxd kX7_ruleAt 2 rfl) gf_M_226 gk_65 (by decide) rfl ?_
  refine R_icmp_ge (gxd kX7_ruleAt 3 rfl) (tgt := 12) rfl (fun q => ?_) (fun q => ?_)
  · replace H := giff q H
    refine R_bipush (v := (16 : Int32)) (gxd kX7_ruleAt 6 rfl) rfl ?_
    refine R_iload_n (gxd kX7_ruleAt 7 rfl) rfl rfl ?_
    refine R_iadd (gxd kX7_ruleAt 8 rfl) ?_
    refine R_aload_n (gxd kX7_ruleAt 9 rfl) rfl rfl ?_
    refine R_geti (gxd kX7_ruleAt 10 rfl) gf_M_226 gk_65 (by decide) rfl ?_
    refine R_isub (gxd kX7_ruleAt 11 rfl) ?_
    obtain rfl := Option.some.inj H
    exact R_iret (gxd kX7_ruleAt 12 rfl) rfl
  · replace H := gift q H
    refine R_iload_n (gxd kX7_ruleAt 4 rfl) rfl rfl ?_
    refine R_goto (gxd kX7_ruleAt 5 rfl) (tgt := 21) rfl ?_
    obtain rfl := Option.some.inj H
    exact R_iret (gxd kX7_ruleAt 12 rfl) rfl
def fM_priority (v1 : Int32) (h : gH) : Option (Int32 × gH) :=
  gg (gin v1 24) <|
  if (h 67 v1.toNatClampNeg) = (3 : Int32) then
    some ((9 : Int32), h)
  else
    gg (gin v1 24) <|
    (fM_bitsOf (h 68 v1.toNatClampNeg) h).bind fun p3 =>
    gg (gin v1 24) <|
    some ((p3.1 + (p3.2 67 v1.toNatClampNeg)), p3.2)
theorem fM_priority_ok {v1 : Int32} {h : gH} {x : (Int32 × gH)} (H : fM_priority v1 h = some x) (d : Nat) : gC yX7_priority cX7_priority 2 (some .int) (d + 1) [.ref 65, .int v1] h (some (.int x.1)) x.2 := by
  refine gC_of (by decide +kernel) (Nat.le_of_ble_eq_true rfl) rfl ?_
  unfold fM_priority at H
  refine R_aload_n (gxd kX7_priority 0 rfl) rfl rfl ?_
  refine R_getr (gxd kX7_priority 1 rfl) gf_M_17 gk_65 (by decide) rfl ?_
  refine R_iload_n (gxd kX7_priority 2 rfl) rfl rfl ?_
  obtain ⟨b1, H⟩ := ggi H
  have b1 := gin_in b1
  refine R_iald (gxd kX7_priority 3 rfl) gk_67 b1 ?_
  refine R_iconst (v := (3 : Int32)) (gxd kX7_priority 4 rfl) rfl ?_
  refine R_icmp_ne (gxd kX7_priority 5 rfl) (tgt := 15) rfl (fun q => ?_) (fun q => ?_)
  · replace H := giff q H
    refine R_aload_n (gxd kX7_priority 8 rfl) rfl rfl ?_
    refine R_getr (gxd kX7_priority 9 rfl) gf_M_20 gk_65 (by decide) rfl ?_
    refine R_iload_n (gxd kX7_priority 10 rfl) rfl rfl ?_
    obtain ⟨b2, H⟩ := ggi H
    have b2 := gin_in b2
    refine R_iald (gxd kX7_priority 11 rfl) gk_68 b2 ?_
    obtain ⟨p3, e4, H⟩ := gbi H
    refine R_callSi (gxd kX7_priority 12 rfl) gm_M_189 wX7_bitsOf (by decide) rfl (Nat.le_of_ble_eq_true rfl) (by omega) (fM_bitsOf_ok  e4 (d + 0)) ?_
    refine R_aload_n (gxd kX7_priority 13 rfl) rfl rfl ?_
    refine R_getr (gxd kX7_priority 14 rfl) gf_M_17 gk_65 (by decide) rfl ?_
    refine R_iload_n (gxd kX7_priority 15 rfl) rfl rfl ?_
    obtain ⟨b5, H⟩ := ggi H
    have b5 := gin_in b5
    refine R_iald (gxd kX7_priority 16 rfl) gk_67 b5 ?_
    refine R_iadd (gxd kX7_priority 17 rfl) ?_
    obtain rfl := Option.some.inj H
    exact R_iret (gxd kX7_priority 18 rfl) rfl
  · replace H := gift q H
    refine R_bipush (v := (9 : Int32)) (gxd kX7_priority 6 rfl) rfl ?_
    refine R_goto (gxd kX7_priority 7 rfl) (tgt := 31) rfl ?_
    obtain rfl := Option.some.inj H
    exact R_iret (gxd kX7_priority 18 rfl) rfl
def fM_isHolding_48 (v4 : Int32) (v5 : Int32) (s1 : Int32) (s2 : Int32) (h : gH) : Option (Int32 × gH) :=
  if (2 : Int32) < v5 then
    gg (gin ((s1 + s2) + v4) 16000) <|
    gg (gbo (h 69 ((s1 + s2) + v4).toNatClampNeg)) <|
    some ((h 69 ((s1 + s2) + v4).toNatClampNeg), h)
  else
    gg (gin ((s1 + s2) + (0 : Int32)) 16000) <|
    gg (gbo (h 69 ((s1 + s2) + (0 : Int32)).toNatClampNeg)) <|
    some ((h 69 ((s1 + s2) + (0 : Int32)).toNatClampNeg), h)
theorem fM_isHolding_48_ok {d : Nat} {v4 : Int32} {v5 : Int32} {s1 : Int32} {s2 : Int32}  {h : gH} {x : (Int32 × gH)} (H : fM_isHolding_48 v4 v5 s1 s2 h = some x) : gR RX7 cX7_isHolding 6 (some .boolean) (d + 1) 48 [.null, .null, .null, .null, .int v4, .int v5] [.int s2, .int s1, .ref 69] h (some (.int x.1)) x.2 := by
  unfold fM_isHolding_48 at H
  refine R_iadd (gxd kX7_isHolding 27 rfl) ?_
  refine R_iload (gxd kX7_isHolding 28 rfl) rfl ?_
  refine R_iconst (v := (2 : Int32)) (gxd kX7_isHolding 29 rfl) rfl ?_
  refine R_icmp_le (gxd kX7_isHolding 30 rfl) (tgt := 60) rfl (fun q => ?_) (fun q => ?_)
  · replace H := giff q H
    refine R_iconst (v := (0 : Int32)) (gxd kX7_isHolding 33 rfl) rfl ?_
    refine R_iadd (gxd kX7_isHolding 34 rfl) ?_
    obtain ⟨b4, H⟩ := ggi H
    have b4 := gin_in b4
    refine R_zald (gxd kX7_isHolding 35 rfl) gk_69 b4 ?_
    obtain ⟨b5, H⟩ := ggi H
    have b5 := gbo_or b5
    obtain rfl := Option.some.inj H
    exact R_zret (gxd kX7_isHolding 36 rfl) rfl b5
  · replace H := gift q H
    refine R_iload (gxd kX7_isHolding 31 rfl) rfl ?_
    refine R_goto (gxd kX7_isHolding 32 rfl) (tgt := 61) rfl ?_
    refine R_iadd (gxd kX7_isHolding 34 rfl) ?_
    obtain ⟨b6, H⟩ := ggi H
    have b6 := gin_in b6
    refine R_zald (gxd kX7_isHolding 35 rfl) gk_69 b6 ?_
    obtain ⟨b7, H⟩ := ggi H
    have b7 := gbo_or b7
    obtain rfl := Option.some.inj H
    exact R_zret (gxd kX7_isHolding 36 rfl) rfl b7
def fM_isHolding_33 (v3 : Int32) (v4 : Int32) (v5 : Int32) (s1 : Int32) (s2 : Int32) (h : gH) : Option (Int32 × gH) :=
  if (1 : Int32) < v5 then
    fM_isHolding_48 v4 v5 (s1 + s2) ((10 : Int32) * v3) h
  else
    fM_isHolding_48 v4 v5 (s1 + s2) (0 : Int32) h
theorem fM_isHolding_33_ok {d : Nat} {v3 : Int32} {v4 : Int32} {v5 : Int32} {s1 : Int32} {s2 : Int32}  {h : gH} {x : (Int32 × gH)} (H : fM_isHolding_33 v3 v4 v5 s1 s2 h = some x) : gR RX7 cX7_isHolding 6 (some .boolean) (d + 1) 33 [.null, .null, .null, .int v3, .int v4, .int v5] [.int s2, .int s1, .ref 69] h (some (.int x.1)) x.2 := by
  unfold fM_isHolding_33 at H
  refine R_iadd (gxd kX7_isHolding 18 rfl) ?_
  refine R_iload (gxd kX7_isHolding 19 rfl) rfl ?_
  refine R_iconst (v := (1 : Int32)) (gxd kX7_isHolding 20 rfl) rfl ?_
  refine R_icmp_le (gxd kX7_isHolding 21 rfl) (tgt := 47) rfl (fun q => ?_) (fun q => ?_)
  · replace H := giff q H
    refine R_iconst (v := (0 : Int32)) (gxd kX7_isHolding 26 rfl) rfl ?_
    exact R_weak (gle_null (gle_null (gle_null (gle_null (gle_same (gle_same gle_nil)))))) (fM_isHolding_48_ok  H)
  · replace H := gift q H
    refine R_bipush (v := (10 : Int32)) (gxd kX7_isHolding 22 rfl) rfl ?_
    refine R_iload_n (gxd kX7_isHolding 23 rfl) rfl rfl ?_
    refine R_imul (gxd kX7_isHolding 24 rfl) ?_
    refine R_goto (gxd kX7_isHolding 25 rfl) (tgt := 48) rfl ?_
    exact R_weak (gle_null (gle_null (gle_null (gle_null (gle_same (gle_same gle_nil)))))) (fM_isHolding_48_ok  H)
def fM_isHolding (v1 : Int32) (v2 : Int32) (v3 : Int32) (v4 : Int32) (h : gH) : Option (Int32 × gH) :=
  gg (gin v1 24) <|
  (fM_bitsOf (h 68 v1.toNatClampNeg) h).bind fun p2 =>
  if (0 : Int32) < p2.1 then
    fM_isHolding_33 v3 v4 p2.1 ((1000 : Int32) * v1) ((100 : Int32) * v2) p2.2
  else
    fM_isHolding_33 v3 v4 p2.1 ((1000 : Int32) * v1) (0 : Int32) p2.2
theorem fM_isHolding_ok {v1 : Int32} {v2 : Int32} {v3 : Int32} {v4 : Int32} {h : gH} {x : (Int32 × gH)} (H : fM_isHolding v1 v2 v3 v4 h = some x) (d : Nat) : gC yX7_isHolding cX7_isHolding 6 (some .boolean) (d + 1) [.ref 65, .int v1, .int v2, .int v3, .int v4] h (some (.int x.1)) x.2 := by
  refine gC_of (by decide +kernel) (Nat.le_of_ble_eq_true rfl) rfl ?_
  unfold fM_isHolding at H
  refine R_aload_n (gxd kX7_isHolding 0 rfl) rfl rfl ?_
  refine R_getr (gxd kX7_isHolding 1 rfl) gf_M_20 gk_65 (by decide) rfl ?_
  refine R_iload_n (gxd kX7_isHolding 2 rfl) rfl rfl ?_
  obtain ⟨b1, H⟩ := ggi H
  have b1 := gin_in b1
  refine R_iald (gxd kX7_isHolding 3 rfl) gk_68 b1 ?_
  obtain ⟨p2, e3, H⟩ := gbi H
  refine R_callSi (gxd kX7_isHolding 4 rfl) gm_M_189 wX7_bitsOf (by decide) rfl (Nat.le_of_ble_eq_true rfl) (by omega) (fM_bitsOf_ok  e3 (d + 0)) ?_
  refine R_istore (gxd kX7_isHolding 5 rfl) rfl (Nat.le_of_ble_eq_true rfl) rfl ?_
  refine R_aload_n (gxd kX7_isHolding 6 rfl) rfl rfl ?_
  refine R_getr (gxd kX7_isHolding 7 rfl) gf_M_23 gk_65 (by decide) rfl ?_
  refine R_sipush (v := (1000 : Int32)) (gxd kX7_isHolding 8 rfl) rfl ?_
  refine R_iload_n (gxd kX7_isHolding 9 rfl) rfl rfl ?_
  refine R_imul (gxd kX7_isHolding 10 rfl) ?_
  refine R_iload (gxd kX7_isHolding 11 rfl) rfl ?_
  refine R_if_le (gxd kX7_isHolding 12 rfl) (tgt := 32) rfl (fun q => ?_) (fun q => ?_)
  · replace H := giff q H
    refine R_iconst (v := (0 : Int32)) (gxd kX7_isHolding 17 rfl) rfl ?_
    exact R_weak (gle_null (gle_null (gle_null (gle_same (gle_same (gle_same gle_nil)))))) (fM_isHolding_33_ok  H)
  · replace H := gift q H
    refine R_bipush (v := (100 : Int32)) (gxd kX7_isHolding 13 rfl) rfl ?_
    refine R_iload_n (gxd kX7_isHolding 14 rfl) rfl rfl ?_
    refine R_imul (gxd kX7_isHolding 15 rfl) ?_
    refine R_goto (gxd kX7_isHolding 16 rfl) (tgt := 33) rfl ?_
    exact R_weak (gle_null (gle_null (gle_null (gle_same (gle_same (gle_same gle_nil)))))) (fM_isHolding_33_ok  H)
def fM_holds_87 (v1 : Int32) (v2 : Int32) (v3 : Int32) (v4 : Int32) (h : gH) : Option (Int32 × gH) :=
  (fM_isHolding v1 v2 v3 v4 h).bind fun p6 =>
  if p6.1 = (0 : Int32) then
    some ((0 : Int32), p6.2)
  else
    some ((1 : Int32), p6.2)
theorem fM_holds_87_ok {d : Nat} {v1 : Int32} {v2 : Int32} {v3 : Int32} {v4 : Int32}  {h : gH} {x : (Int32 × gH)} (H : fM_holds_87 v1 v2 v3 v4  h = some x) : gR RX7 cX7_holds 6 (some .int) (d + 2) 87 [.ref 65, .int v1, .int v2, .int v3, .int v4, .null] [] h (some (.int x.1)) x.2 := by
  unfold fM_holds_87 at H
  refine R_aload_n (gxd kX7_holds 46 rfl) rfl rfl ?_
  refine R_iload_n (gxd kX7_holds 47 rfl) rfl rfl ?_
  refine R_iload_n (gxd kX7_holds 48 rfl) rfl rfl ?_
  refine R_iload_n (gxd kX7_holds 49 rfl) rfl rfl ?_
  refine R_iload (gxd kX7_holds 50 rfl) rfl ?_
  obtain ⟨p6, e7, H⟩ := gbi H
  refine R_callVi (gxd kX7_holds 51 rfl) gm_M_244 wX7_isHolding (by decide) gk_65 rfl rfl (Nat.le_of_ble_eq_true rfl) (by omega) (fM_isHolding_ok  e7 (d + 0)) ?_
  refine R_if_eq (gxd kX7_holds 52 rfl) (tgt := 103) rfl (fun q => ?_) (fun q => ?_)
  · replace H := gift q H
    refine R_iconst (v := (0 : Int32)) (gxd kX7_holds 55 rfl) rfl ?_
    obtain rfl := Option.some.inj H
    exact R_iret (gxd kX7_holds 56 rfl) rfl
  · replace H := giff q H
    refine R_iconst (v := (1 : Int32)) (gxd kX7_holds 53 rfl) rfl ?_
    refine R_goto (gxd kX7_holds 54 rfl) (tgt := 104) rfl ?_
    obtain rfl := Option.some.inj H
    exact R_iret (gxd kX7_holds 56 rfl) rfl
def fM_holds_65 (v1 : Int32) (v2 : Int32) (v3 : Int32) (v4 : Int32) (v5 : Int32) (h : gH) : Option (Int32 × gH) :=
  if (2 : Int32) < v5 then
    (fM_in v4.toInt64 (0 : Int64) (9 : Int64) h).bind fun p8 =>
    if p8.1 = (0 : Int32) then
      some ((-2 : Int32), p8.2)
    else
      fM_holds_87 v1 v2 v3 v4 p8.2
  else
    fM_holds_87 v1 v2 v3 v4 h
theorem fM_holds_65_ok {d : Nat} {v1 : Int32} {v2 : Int32} {v3 : Int32} {v4 : Int32} {v5 : Int32}  {h : gH} {x : (Int32 × gH)} (H : fM_holds_65 v1 v2 v3 v4 v5  h = some x) : gR RX7 cX7_holds 6 (some .int) (d + 2) 65 [.ref 65, .int v1, .int v2, .int v3, .int v4, .int v5] [] h (some (.int x.1)) x.2 := by
  unfold fM_holds_65 at H
  refine R_iload (gxd kX7_holds 35 rfl) rfl ?_
  refine R_iconst (v := (2 : Int32)) (gxd kX7_holds 36 rfl) rfl ?_
  refine R_icmp_le (gxd kX7_holds 37 rfl) (tgt := 87) rfl (fun q => ?_) (fun q => ?_)
  · replace H := giff q H
    exact R_weak (gle_same (gle_same (gle_same (gle_same (gle_same (gle_null gle_nil)))))) (fM_holds_87_ok  H)
  · replace H := gift q H
    refine R_iload (gxd kX7_holds 38 rfl) rfl ?_
    refine R_i2l (gxd kX7_holds 39 rfl) ?_
    refine R_lconst (v := (0 : Int64)) (gxd kX7_holds 40 rfl) rfl ?_
    refine R_ldc2 (v := (9 : Int64)) (gxd kX7_holds 41 rfl) gc_M_242 ?_
    obtain ⟨p8, e9, H⟩ := gbi H
    refine R_callSi (gxd kX7_holds 42 rfl) gm_M_140 wX7_in (by decide) rfl (Nat.le_of_ble_eq_true rfl) (by omega) (fM_in_ok  e9 (d + 1)) ?_
    refine R_if_ne (gxd kX7_holds 43 rfl) (tgt := 87) rfl (fun q => ?_) (fun q => ?_)
    · replace H := giff q H
      exact R_weak (gle_same (gle_same (gle_same (gle_same (gle_same (gle_null gle_nil)))))) (fM_holds_87_ok  H)
    · replace H := gift q H
      refine R_bipush (v := (-2 : Int32)) (gxd kX7_holds 44 rfl) rfl ?_
      obtain rfl := Option.some.inj H
      exact R_iret (gxd kX7_holds 45 rfl) rfl
def fM_holds_47 (v1 : Int32) (v2 : Int32) (v3 : Int32) (v4 : Int32) (v5 : Int32) (h : gH) : Option (Int32 × gH) :=
  if (1 : Int32) < v5 then
    (fM_in v3.toInt64 (0 : Int64) (9 : Int64) h).bind fun p10 =>
    if p10.1 = (0 : Int32) then
      some ((-2 : Int32), p10.2)
    else
      fM_holds_65 v1 v2 v3 v4 v5 p10.2
  else
    fM_holds_65 v1 v2 v3 v4 v5 h
theorem fM_holds_47_ok {d : Nat} {v1 : Int32} {v2 : Int32} {v3 : Int32} {v4 : Int32} {v5 : Int32}  {h : gH} {x : (Int32 × gH)} (H : fM_holds_47 v1 v2 v3 v4 v5  h = some x) : gR RX7 cX7_holds 6 (some .int) (d + 2) 47 [.ref 65, .int v1, .int v2, .int v3, .int v4, .int v5] [] h (some (.int x.1)) x.2 := by
  unfold fM_holds_47 at H
  refine R_iload (gxd kX7_holds 26 rfl) rfl ?_
  refine R_iconst (v := (1 : Int32)) (gxd kX7_holds 27 rfl) rfl ?_
  refine R_icmp_le (gxd kX7_holds 28 rfl) (tgt := 65) rfl (fun q => ?_) (fun q => ?_)
  · replace H := giff q H
    exact R_weak (gle_same (gle_same (gle_same (gle_same (gle_same (gle_same gle_nil)))))) (fM_holds_65_ok  H)
  · replace H := gift q H
    refine R_iload_n (gxd kX7_holds 29 rfl) rfl rfl ?_
    refine R_i2l (gxd kX7_holds 30 rfl) ?_
    refine R_lconst (v := (0 : Int64)) (gxd kX7_holds 31 rfl) rfl ?_
    refine R_ldc2 (v := (9 : Int64)) (gxd kX7_holds 32 rfl) gc_M_242 ?_
    obtain ⟨p10, e11, H⟩ := gbi H
    refine R_callSi (gxd kX7_holds 33 rfl) gm_M_140 wX7_in (by decide) rfl (Nat.le_of_ble_eq_true rfl) (by omega) (fM_in_ok  e11 (d + 1)) ?_
    refine R_if_eq (gxd kX7_holds 34 rfl) (tgt := 84) rfl (fun q => ?_) (fun q => ?_)
    · replace H := gift q H
      refine R_bipush (v := (-2 : Int32)) (gxd kX7_holds 44 rfl) rfl ?_
      obtain rfl := Option.some.inj H
      exact R_iret (gxd kX7_holds 45 rfl) rfl
    · replace H := giff q H
      exact R_weak (gle_same (gle_same (gle_same (gle_same (gle_same (gle_same gle_nil)))))) (fM_holds_65_ok  H)
def fM_holds (v1 : Int32) (v2 : Int32) (v3 : Int32) (v4 : Int32) (h : gH) : Option (Int32 × gH) :=
  (fM_in v1.toInt64 (0 : Int64) (((h 65 8) - (1 : Int32)).toInt64) h).bind fun p1 =>
  if p1.1 = (0 : Int32) then
    some ((-2 : Int32), p1.2)
  else
    gg (gin v1 24) <|
    (fM_bitsOf (p1.2 68 v1.toNatClampNeg) p1.2).bind fun p4 =>
    if (0 : Int32) < p4.1 then
      (fM_in v2.toInt64 (0 : Int64) (9 : Int64) p4.2).bind fun p12 =>
      if p12.1 = (0 : Int32) then
        some ((-2 : Int32), p12.2)
      else
        fM_holds_47 v1 v2 v3 v4 p4.1 p12.2
    else
      fM_holds_47 v1 v2 v3 v4 p4.1 p4.2
theorem fM_holds_ok {v1 : Int32} {v2 : Int32} {v3 : Int32} {v4 : Int32} {h : gH} {x : (Int32 × gH)} (H : fM_holds v1 v2 v3 v4 h = some x) (d : Nat) : gC yX7_holds cX7_holds 6 (some .int) (d + 2) [.ref 65, .int v1, .int v2, .int v3, .int v4] h (some (.int x.1)) x.2 := by
  refine gC_of (by decide +kernel) (Nat.le_of_ble_eq_true rfl) rfl ?_
  unfold fM_holds at H
  refine R_iload_n (gxd kX7_holds 0 rfl) rfl rfl ?_
  refine R_i2l (gxd kX7_holds 1 rfl) ?_
  refine R_lconst (v := (0 : Int64)) (gxd kX7_holds 2 rfl) rfl ?_
  refine R_aload_n (gxd kX7_holds 3 rfl) rfl rfl ?_
  refine R_geti (gxd kX7_holds 4 rfl) gf_M_226 gk_65 (by decide) rfl ?_
  refine R_iconst (v := (1 : Int32)) (gxd kX7_holds 5 rfl) rfl ?_
  refine R_isub (gxd kX7_holds 6 rfl) ?_
  refine R_i2l (gxd kX7_holds 7 rfl) ?_
  obtain ⟨p1, e2, H⟩ := gbi H
  refine R_callSi (gxd kX7_holds 8 rfl) gm_M_140 wX7_in (by decide) rfl (Nat.le_of_ble_eq_true rfl) (by omega) (fM_in_ok  e2 (d + 1)) ?_
  refine R_if_ne (gxd kX7_holds 9 rfl) (tgt := 19) rfl (fun q => ?_) (fun q => ?_)
  · replace H := giff q H
    refine R_aload_n (gxd kX7_holds 12 rfl) rfl rfl ?_
    refine R_getr (gxd kX7_holds 13 rfl) gf_M_20 gk_65 (by decide) rfl ?_
    refine R_iload_n (gxd kX7_holds 14 rfl) rfl rfl ?_
    obtain ⟨b3, H⟩ := ggi H
    have b3 := gin_in b3
    refine R_iald (gxd kX7_holds 15 rfl) gk_68 b3 ?_
    obtain ⟨p4, e5, H⟩ := gbi H
    refine R_callSi (gxd kX7_holds 16 rfl) gm_M_189 wX7_bitsOf (by decide) rfl (Nat.le_of_ble_eq_true rfl) (by omega) (fM_bitsOf_ok  e5 (d + 1)) ?_
    refine R_istore (gxd kX7_holds 17 rfl) rfl (Nat.le_of_ble_eq_true rfl) rfl ?_
    refine R_iload (gxd kX7_holds 18 rfl) rfl ?_
    refine R_if_le (gxd kX7_holds 19 rfl) (tgt := 47) rfl (fun q => ?_) (fun q => ?_)
    · replace H := giff q H
      exact R_weak (gle_same (gle_same (gle_same (gle_same (gle_same (gle_same gle_nil)))))) (fM_holds_47_ok  H)
    · replace H := gift q H
      refine R_iload_n (gxd kX7_holds 20 rfl) rfl rfl ?_
      refine R_i2l (gxd kX7_holds 21 rfl) ?_
      refine R_lconst (v := (0 : Int64)) (gxd kX7_holds 22 rfl) rfl ?_
      refine R_ldc2 (v := (9 : Int64)) (gxd kX7_holds 23 rfl) gc_M_242 ?_
      obtain ⟨p12, e13, H⟩ := gbi H
      refine R_callSi (gxd kX7_holds 24 rfl) gm_M_140 wX7_in (by decide) rfl (Nat.le_of_ble_eq_true rfl) (by omega) (fM_in_ok  e13 (d + 1)) ?_
      refine R_if_eq (gxd kX7_holds 25 rfl) (tgt := 84) rfl (fun q => ?_) (fun q => ?_)
      · replace H := gift q H
        refine R_bipush (v := (-2 : Int32)) (gxd kX7_holds 44 rfl) rfl ?_
        obtain rfl := Option.some.inj H
        exact R_iret (gxd kX7_holds 45 rfl) rfl
      · replace H := giff q H
        exact R_weak (gle_same (gle_same (gle_same (gle_same (gle_same (gle_same gle_nil)))))) (fM_holds_47_ok  H)
  · replace H := gift q H
    refine R_bipush (v := (-2 : Int32)) (gxd kX7_holds 10 rfl) rfl ?_
    obtain rfl := Option.some.inj H
    exact R_iret (gxd kX7_holds 11 rfl) rfl
