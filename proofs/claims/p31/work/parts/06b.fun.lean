def fP_all (o : Nat) (h : gH) : Option (Int32 × gH) :=
  some ((((1 : Int32) <<< ((h o 5) &&& 31)) - (1 : Int32)), h)
theorem fP_all_ok {o : Nat} (ho : gPast o) {h : gH} {x : (Int32 × gH)} (H : fP_all o h = some x) (d : Nat) : gC yX1_all cX1_all 1 (some .int) (d + 0) [.ref o] h (some (.int x.1)) x.2 := by
  refine gC_of (by decide +kernel) (Nat.le_of_ble_eq_true rfl) rfl ?_
  unfold fP_all at H
  refine R_iconst (v := (1 : Int32)) (gxd kX1_all 0 rfl) rfl ?_
  refine R_aload_n (gxd kX1_all 1 rfl) rfl rfl ?_
  refine R_geti (gxd kX1_all 2 rfl) gf_P_27 (gPast0 ho) (by decide) rfl ?_
  refine R_ishl (gxd kX1_all 3 rfl) ?_
  refine R_iconst (v := (1 : Int32)) (gxd kX1_all 4 rfl) rfl ?_
  refine R_isub (gxd kX1_all 5 rfl) ?_
  cases H
  exact R_iret (gxd kX1_all 6 rfl) rfl
def fP_decide (o : Nat) (v1 : Int32) (v2 : Int32) (h : gH) : Option (Int32 × gH) :=
  gg (gin (h o 5) 12) <|
  glet (hu h (o + 1) (h o 5).toNatClampNeg v1) fun h2 =>
  gg (gin (h2 o 5) 12) <|
  glet (hu h2 (o + 2) (h2 o 5).toNatClampNeg v2) fun h5 =>
  glet (hu h5 o 5 ((h5 o 5) + (1 : Int32))) fun h7 =>
  some (((h7 o 5) - (1 : Int32)), h7)
theorem fP_decide_ok {o : Nat} {v1 : Int32} {v2 : Int32} (ho : gPast o) {h : gH} {x : (Int32 × gH)} (H : fP_decide o v1 v2 h = some x) (d : Nat) : gC yX1_decide cX1_decide 3 (some .int) (d + 0) [.ref o, .int v1, .int v2] h (some (.int x.1)) x.2 := by
  refine gC_of (by decide +kernel) (Nat.le_of_ble_eq_true rfl) rfl ?_
  unfold fP_decide at H
  refine R_aload_n (gxd kX1_decide 0 rfl) rfl rfl ?_
  refine R_getr (gxd kX1_decide 1 rfl) gf_P_9 (gPast0 ho) (by decide) rfl ?_
  refine R_aload_n (gxd kX1_decide 2 rfl) rfl rfl ?_
  refine R_geti (gxd kX1_decide 3 rfl) gf_P_27 (gPast0 ho) (by decide) rfl ?_
  refine R_iload_n (gxd kX1_decide 4 rfl) rfl rfl ?_
  obtain ⟨b1, H⟩ := ggi H
  have b1 := gin_in b1
  refine R_iast (gxd kX1_decide 5 rfl) (gPast1 ho) b1 ?_
  obtain ⟨h2, e3, H⟩ := glei H
  refine R_heq e3 ?_
  refine R_aload_n (gxd kX1_decide 6 rfl) rfl rfl ?_
  refine R_getr (gxd kX1_decide 7 rfl) gf_P_15 (gPast0 ho) (by decide) rfl ?_
  refine R_aload_n (gxd kX1_decide 8 rfl) rfl rfl ?_
  refine R_geti (gxd kX1_decide 9 rfl) gf_P_27 (gPast0 ho) (by decide) rfl ?_
  refine R_iload_n (gxd kX1_decide 10 rfl) rfl rfl ?_
  obtain ⟨b4, H⟩ := ggi H
  have b4 := gin_in b4
  refine R_iast (gxd kX1_decide 11 rfl) (gPast2 ho) b4 ?_
  obtain ⟨h5, e6, H⟩ := glei H
  refine R_heq e6 ?_
  refine R_aload_n (gxd kX1_decide 12 rfl) rfl rfl ?_
  refine R_dup (gxd kX1_decide 13 rfl) rfl ?_
  refine R_geti (gxd kX1_decide 14 rfl) gf_P_27 (gPast0 ho) (by decide) rfl ?_
  refine R_iconst (v := (1 : Int32)) (gxd kX1_decide 15 rfl) rfl ?_
  refine R_iadd (gxd kX1_decide 16 rfl) ?_
  refine R_puti (gxd kX1_decide 17 rfl) gf_P_27 gp_1_5 (gPast0 ho) (by decide) rfl ?_
  obtain ⟨h7, e8, H⟩ := glei H
  refine R_heq e8 ?_
  refine R_aload_n (gxd kX1_decide 18 rfl) rfl rfl ?_
  refine R_geti (gxd kX1_decide 19 rfl) gf_P_27 (gPast0 ho) (by decide) rfl ?_
  refine R_iconst (v := (1 : Int32)) (gxd kX1_decide 20 rfl) rfl ?_
  refine R_isub (gxd kX1_decide 21 rfl) ?_
  cases H
  exact R_iret (gxd kX1_decide 22 rfl) rfl
def fP_open (o : Nat) (v1 : Int32) (v2 : Int32) (h : gH) : Option (Int32 × gH) :=
  gg (gin (h o 6) 8) <|
  glet (hu h (o + 3) (h o 6).toNatClampNeg v1) fun h2 =>
  gg (gin (h2 o 6) 8) <|
  glet (hu h2 (o + 4) (h2 o 6).toNatClampNeg (h2 o 5)) fun h5 =>
  gg (gin (h5 o 6) 8) <|
  glet (hu h5 (o + 5) (h5 o 6).toNatClampNeg v2) fun h8 =>
  glet (hu h8 o 6 ((h8 o 6) + (1 : Int32))) fun h10 =>
  some ((h10 o 6), h10)
theorem fP_open_ok {o : Nat} {v1 : Int32} {v2 : Int32} (ho : gPast o) {h : gH} {x : (Int32 × gH)} (H : fP_open o v1 v2 h = some x) (d : Nat) : gC yX1_open cX1_open 3 (some .int) (d + 0) [.ref o, .int v1, .int v2] h (some (.int x.1)) x.2 := by
  refine gC_of (by decide +kernel) (Nat.le_of_ble_eq_true rfl) rfl ?_
  unfold fP_open at H
  refine R_aload_n (gxd kX1_open 0 rfl) rfl rfl ?_
  refine R_getr (gxd kX1_open 1 rfl) gf_P_18 (gPast0 ho) (by decide) rfl ?_
  refine R_aload_n (gxd kX1_open 2 rfl) rfl rfl ?_
  refine R_geti (gxd kX1_open 3 rfl) gf_P_31 (gPast0 ho) (by decide) rfl ?_
  refine R_iload_n (gxd kX1_open 4 rfl) rfl rfl ?_
  obtain ⟨b1, H⟩ := ggi H
  have b1 := gin_in b1
  refine R_iast (gxd kX1_open 5 rfl) (gPast3 ho) b1 ?_
  obtain ⟨h2, e3, H⟩ := glei H
  refine R_heq e3 ?_
  refine R_aload_n (gxd kX1_open 6 rfl) rfl rfl ?_
  refine R_getr (gxd kX1_open 7 rfl) gf_P_21 (gPast0 ho) (by decide) rfl ?_
  refine R_aload_n (gxd kX1_open 8 rfl) rfl rfl ?_
  refine R_geti (gxd kX1_open 9 rfl) gf_P_31 (gPast0 ho) (by decide) rfl ?_
  refine R_aload_n (gxd kX1_open 10 rfl) rfl rfl ?_
  refine R_geti (gxd kX1_open 11 rfl) gf_P_27 (gPast0 ho) (by decide) rfl ?_
  obtain ⟨b4, H⟩ := ggi H
  have b4 := gin_in b4
  refine R_iast (gxd kX1_open 12 rfl) (gPast4 ho) b4 ?_
  obtain ⟨h5, e6, H⟩ := glei H
  refine R_heq e6 ?_
  refine R_aload_n (gxd kX1_open 13 rfl) rfl rfl ?_
  refine R_getr (gxd kX1_open 14 rfl) gf_P_24 (gPast0 ho) (by decide) rfl ?_
  refine R_aload_n (gxd kX1_open 15 rfl) rfl rfl ?_
  refine R_geti (gxd kX1_open 16 rfl) gf_P_31 (gPast0 ho) (by decide) rfl ?_
  refine R_iload_n (gxd kX1_open 17 rfl) rfl rfl ?_
  obtain ⟨b7, H⟩ := ggi H
  have b7 := gin_in b7
  refine R_iast (gxd kX1_open 18 rfl) (gPast5 ho) b7 ?_
  obtain ⟨h8, e9, H⟩ := glei H
  refine R_heq e9 ?_
  refine R_aload_n (gxd kX1_open 19 rfl) rfl rfl ?_
  refine R_dup (gxd kX1_open 20 rfl) rfl ?_
  refine R_geti (gxd kX1_open 21 rfl) gf_P_31 (gPast0 ho) (by decide) rfl ?_
  refine R_iconst (v := (1 : Int32)) (gxd kX1_open 22 rfl) rfl ?_
  refine R_iadd (gxd kX1_open 23 rfl) ?_
  refine R_puti (gxd kX1_open 24 rfl) gf_P_31 gp_1_6 (gPast0 ho) (by decide) rfl ?_
  obtain ⟨h10, e11, H⟩ := glei H
  refine R_heq e11 ?_
  refine R_aload_n (gxd kX1_open 25 rfl) rfl rfl ?_
  refine R_geti (gxd kX1_open 26 rfl) gf_P_31 (gPast0 ho) (by decide) rfl ?_
  cases H
  exact R_iret (gxd kX1_open 27 rfl) rfl
def fP_close (o : Nat) (h : gH) : Option (Int32 × gH) :=
  glet (hu h o 6 ((h o 6) - (1 : Int32))) fun h1 =>
  gg (gin (h1 o 6) 8) <|
  glet (hu h1 o 5 (h1 (o + 4) (h1 o 6).toNatClampNeg)) fun h4 =>
  some ((h4 o 6), h4)
theorem fP_close_ok {o : Nat} (ho : gPast o) {h : gH} {x : (Int32 × gH)} (H : fP_close o h = some x) (d : Nat) : gC yX1_close cX1_close 1 (some .int) (d + 0) [.ref o] h (some (.int x.1)) x.2 := by
  refine gC_of (by decide +kernel) (Nat.le_of_ble_eq_true rfl) rfl ?_
  unfold fP_close at H
  refine R_aload_n (gxd kX1_close 0 rfl) rfl rfl ?_
  refine R_dup (gxd kX1_close 1 rfl) rfl ?_
  refine R_geti (gxd kX1_close 2 rfl) gf_P_31 (gPast0 ho) (by decide) rfl ?_
  refine R_iconst (v := (1 : Int32)) (gxd kX1_close 3 rfl) rfl ?_
  refine R_isub (gxd kX1_close 4 rfl) ?_
  refine R_puti (gxd kX1_close 5 rfl) gf_P_31 gp_1_6 (gPast0 ho) (by decide) rfl ?_
  obtain ⟨h1, e2, H⟩ := glei H
  refine R_heq e2 ?_
  refine R_aload_n (gxd kX1_close 6 rfl) rfl rfl ?_
  refine R_aload_n (gxd kX1_close 7 rfl) rfl rfl ?_
  refine R_getr (gxd kX1_close 8 rfl) gf_P_21 (gPast0 ho) (by decide) rfl ?_
  refine R_aload_n (gxd kX1_close 9 rfl) rfl rfl ?_
  refine R_geti (gxd kX1_close 10 rfl) gf_P_31 (gPast0 ho) (by decide) rfl ?_
  obtain ⟨b3, H⟩ := ggi H
  have b3 := gin_in b3
  refine R_iald (gxd kX1_close 11 rfl) (gPast4 ho) b3 ?_
  refine R_puti (gxd kX1_close 12 rfl) gf_P_27 gp_1_5 (gPast0 ho) (by decide) rfl ?_
  obtain ⟨h4, e5, H⟩ := glei H
  refine R_heq e5 ?_
  refine R_aload_n (gxd kX1_close 13 rfl) rfl rfl ?_
  refine R_geti (gxd kX1_close 14 rfl) gf_P_31 (gPast0 ho) (by decide) rfl ?_
  cases H
  exact R_iret (gxd kX1_close 15 rfl) rfl
