def fR_all (h : gH) : Option (Int32 × gH) :=
  some ((((1 : Int32) <<< ((h 1 8) &&& 31)) - (1 : Int32)), h)
theorem fR_all_ok {h : gH} {x : (Int32 × gH)} (H : fR_all  h = some x) (d : Nat) : gC yX3_all cX3_all 1 (some .int) (d + 0) [.ref 1] h (some (.int x.1)) x.2 := by
  refine gC_of (by decide +kernel) (Nat.le_of_ble_eq_true rfl) rfl ?_
  unfold fR_all at H
  refine R_iconst (v := (1 : Int32)) (gxd kX3_all 0 rfl) rfl ?_
  refine R_aload_n (gxd kX3_all 1 rfl) rfl rfl ?_
  refine R_geti (gxd kX3_all 2 rfl) gf_R_36 gk_1 (by decide) rfl ?_
  refine R_ishl (gxd kX3_all 3 rfl) ?_
  refine R_iconst (v := (1 : Int32)) (gxd kX3_all 4 rfl) rfl ?_
  refine R_isub (gxd kX3_all 5 rfl) ?_
  cases H
  exact R_iret (gxd kX3_all 6 rfl) rfl
def fR_howMany (v1 : Int32) (h : gH) : Option (Int32 × gH) :=
  gg (gin v1 24) <|
  (fJ_bitCount (h 3 v1.toNatClampNeg) h).bind fun p2 =>
  some (p2.1, p2.2)
theorem fR_howMany_ok {v1 : Int32} {h : gH} {x : (Int32 × gH)} (H : fR_howMany v1 h = some x) (d : Nat) : gC yX3_howMany cX3_howMany 2 (some .int) (d + 1) [.ref 1, .int v1] h (some (.int x.1)) x.2 := by
  refine gC_of (by decide +kernel) (Nat.le_of_ble_eq_true rfl) rfl ?_
  unfold fR_howMany at H
  refine R_aload_n (gxd kX3_howMany 0 rfl) rfl rfl ?_
  refine R_getr (gxd kX3_howMany 1 rfl) gf_R_15 gk_1 (by decide) rfl ?_
  refine R_iload_n (gxd kX3_howMany 2 rfl) rfl rfl ?_
  obtain ⟨b1, H⟩ := ggi H
  have b1 := gin_in b1
  refine R_iald (gxd kX3_howMany 3 rfl) gk_3 b1 ?_
  obtain ⟨p2, e3, H⟩ := gbi H
  refine R_callSi (gxd kX3_howMany 4 rfl) gm_R_40 wJ6_bitCount_0f7a4 (by decide) rfl (Nat.le_of_ble_eq_true rfl) (by omega) (fJ_bitCount_ok  e3 (d + 0)) ?_
  cases H
  exact R_iret (gxd kX3_howMany 5 rfl) rfl
def fR_enter_17 (v1 : Int32) (v2 : Int32) : Nat → Int32 → gH → Option gH
  | 0, _, _ => none
  | n + 1, v4, h =>
    if v4 < (8 : Int32) then
      gg (gin v4 8) <|
      gg (gin v4 8) <|
      glet (hu h 5 v4.toNatClampNeg (((h 5 v4.toNatClampNeg) &&& (((1 : Int32) <<< (v1 &&& 31)) ^^^ (-1 : Int32))) ||| (((v2 >>> (v4 &&& 31)) &&& (1 : Int32)) <<< (v1 &&& 31)))) fun h9 =>
      fR_enter_17 v1 v2 n (v4 + (1 : Int32)) h9
    else
      some h
theorem fR_enter_17_ok {d : Nat} {v1 : Int32} {v2 : Int32}  : ∀ (n : Nat) (v4 : Int32) (h : gH) (x : gH), fR_enter_17 v1 v2 n v4 h = some x → gR RX3 cX3_enter 5 none (d + 0) 17 [.ref 1, .int v1, .int v2, .null, .int v4] [] h none x := by
  intro n
  induction n with
  | zero => intro v4 h x  H; exact g0 H
  | succ n ih =>
    intro v4 h x  H
    unfold fR_enter_17 at H
    refine R_iload (gxd kX3_enter 12 rfl) rfl ?_
    refine R_bipush (v := (8 : Int32)) (gxd kX3_enter 13 rfl) rfl ?_
    refine R_icmp_ge (gxd kX3_enter 14 rfl) (tgt := 59) rfl (fun q => ?_) (fun q => ?_)
    · replace H := giff q H
      cases H
      exact R_vret (gxd kX3_enter 39 rfl) rfl
    · replace H := gift q H
      refine R_aload_n (gxd kX3_enter 15 rfl) rfl rfl ?_
      refine R_getr (gxd kX3_enter 16 rfl) gf_R_21 gk_1 (by decide) rfl ?_
      refine R_iload (gxd kX3_enter 17 rfl) rfl ?_
      refine R_aload_n (gxd kX3_enter 18 rfl) rfl rfl ?_
      refine R_getr (gxd kX3_enter 19 rfl) gf_R_21 gk_1 (by decide) rfl ?_
      refine R_iload (gxd kX3_enter 20 rfl) rfl ?_
      obtain ⟨b7, H⟩ := ggi H
      have b7 := gin_in b7
      refine R_iald (gxd kX3_enter 21 rfl) gk_5 b7 ?_
      refine R_iconst (v := (1 : Int32)) (gxd kX3_enter 22 rfl) rfl ?_
      refine R_iload_n (gxd kX3_enter 23 rfl) rfl rfl ?_
      refine R_ishl (gxd kX3_enter 24 rfl) ?_
      refine R_iconst (v := (-1 : Int32)) (gxd kX3_enter 25 rfl) rfl ?_
      refine R_ixor (gxd kX3_enter 26 rfl) ?_
      refine R_iand (gxd kX3_enter 27 rfl) ?_
      refine R_iload_n (gxd kX3_enter 28 rfl) rfl rfl ?_
      refine R_iload (gxd kX3_enter 29 rfl) rfl ?_
      refine R_ishr (gxd kX3_enter 30 rfl) ?_
      refine R_iconst (v := (1 : Int32)) (gxd kX3_enter 31 rfl) rfl ?_
      refine R_iand (gxd kX3_enter 32 rfl) ?_
      refine R_iload_n (gxd kX3_enter 33 rfl) rfl rfl ?_
      refine R_ishl (gxd kX3_enter 34 rfl) ?_
      refine R_ior (gxd kX3_enter 35 rfl) ?_
      obtain ⟨b8, H⟩ := ggi H
      have b8 := gin_in b8
      refine R_iast (gxd kX3_enter 36 rfl) gk_5 b8 ?_
      obtain ⟨h9, e10, H⟩ := glei H
      refine R_heq e10 ?_
      refine R_iinc (v := (v4 + (1 : Int32))) (gxd kX3_enter 37 rfl) rfl rfl rfl (Nat.le_of_ble_eq_true rfl) rfl ?_
      refine R_goto (gxd kX3_enter 38 rfl) (tgt := 17) rfl ?_
      exact R_weak (gle_same (gle_same (gle_same (gle_null (gle_same gle_nil))))) (ih _ _ _  H)
def fR_enter (v1 : Int32) (v2 : Int32) (v3 : Int32) (h : gH) : Option gH :=
  gg (gin v1 24) <|
  glet (hu h 3 v1.toNatClampNeg v2) fun h2 =>
  gg (gin v1 24) <|
  glet (hu h2 4 v1.toNatClampNeg v3) fun h5 =>
  fR_enter_17 v1 v2 gfu (0 : Int32) h5
theorem fR_enter_ok {v1 : Int32} {v2 : Int32} {v3 : Int32} {h : gH} {x : gH} (H : fR_enter v1 v2 v3 h = some x) (d : Nat) : gC yX3_enter cX3_enter 5 none (d + 0) [.ref 1, .int v1, .int v2, .int v3] h none x := by
  refine gC_of (by decide +kernel) (Nat.le_of_ble_eq_true rfl) rfl ?_
  unfold fR_enter at H
  refine R_aload_n (gxd kX3_enter 0 rfl) rfl rfl ?_
  refine R_getr (gxd kX3_enter 1 rfl) gf_R_15 gk_1 (by decide) rfl ?_
  refine R_iload_n (gxd kX3_enter 2 rfl) rfl rfl ?_
  refine R_iload_n (gxd kX3_enter 3 rfl) rfl rfl ?_
  obtain ⟨b1, H⟩ := ggi H
  have b1 := gin_in b1
  refine R_iast (gxd kX3_enter 4 rfl) gk_3 b1 ?_
  obtain ⟨h2, e3, H⟩ := glei H
  refine R_heq e3 ?_
  refine R_aload_n (gxd kX3_enter 5 rfl) rfl rfl ?_
  refine R_getr (gxd kX3_enter 6 rfl) gf_R_18 gk_1 (by decide) rfl ?_
  refine R_iload_n (gxd kX3_enter 7 rfl) rfl rfl ?_
  refine R_iload_n (gxd kX3_enter 8 rfl) rfl rfl ?_
  obtain ⟨b4, H⟩ := ggi H
  have b4 := gin_in b4
  refine R_iast (gxd kX3_enter 9 rfl) gk_4 b4 ?_
  obtain ⟨h5, e6, H⟩ := glei H
  refine R_heq e6 ?_
  refine R_iconst (v := (0 : Int32)) (gxd kX3_enter 10 rfl) rfl ?_
  refine R_istore (gxd kX3_enter 11 rfl) rfl (Nat.le_of_ble_eq_true rfl) rfl ?_
  exact R_weak (gle_same (gle_same (gle_same (gle_null (gle_same gle_nil))))) (fR_enter_17_ok  gfu _ _ _  H)
def fR_fillSlots_42 (v1 : Int32) (v3 : Int32) : Nat → Int32 → Int32 → gH → Option gH
  | 0, _, _, _ => none
  | n + 1, v2, v4, h =>
    if v4 < (8 : Int32) then
      if v2 < v3 then
        gg (gin v1 24) <|
        if (((h 3 v1.toNatClampNeg) >>> (v4 &&& 31)) &&& (1 : Int32)) = (1 : Int32) then
          gg (gin v2 48) <|
          glet (hu h 6 v2.toNatClampNeg v4) fun h5 =>
          fR_fillSlots_42 v1 v3 n (v2 + (1 : Int32)) (v4 + (1 : Int32)) h5
        else
          fR_fillSlots_42 v1 v3 n v2 (v4 + (1 : Int32)) h
      else
        some h
    else
      some h
theorem fR_fillSlots_42_ok {d : Nat} {v1 : Int32} {v3 : Int32}  : ∀ (n : Nat) (v2 : Int32) (v4 : Int32) (h : gH) (x : gH), fR_fillSlots_42 v1 v3 n v2 v4 h = some x → gR RX3 cX3_fillSlots 5 none (d + 2) 42 [.ref 1, .int v1, .int v2, .int v3, .int v4] [] h none x := by
  intro n
  induction n with
  | zero => intro v2 v4 h x  H; exact g0 H
  | succ n ih =>
    intro v2 v4 h x  H
    unfold fR_fillSlots_42 at H
    refine R_iload (gxd kX3_fillSlots 26 rfl) rfl ?_
    refine R_bipush (v := (8 : Int32)) (gxd kX3_fillSlots 27 rfl) rfl ?_
    refine R_icmp_ge (gxd kX3_fillSlots 28 rfl) (tgt := 86) rfl (fun q => ?_) (fun q => ?_)
    · replace H := giff q H
      cases H
      exact R_vret (gxd kX3_fillSlots 50 rfl) rfl
    · replace H := gift q H
      refine R_iload_n (gxd kX3_fillSlots 29 rfl) rfl rfl ?_
      refine R_iload_n (gxd kX3_fillSlots 30 rfl) rfl rfl ?_
      refine R_icmp_ge (gxd kX3_fillSlots 31 rfl) (tgt := 86) rfl (fun q => ?_) (fun q => ?_)
      · replace H := giff q H
        cases H
        exact R_vret (gxd kX3_fillSlots 50 rfl) rfl
      · replace H := gift q H
        refine R_aload_n (gxd kX3_fillSlots 32 rfl) rfl rfl ?_
        refine R_getr (gxd kX3_fillSlots 33 rfl) gf_R_15 gk_1 (by decide) rfl ?_
        refine R_iload_n (gxd kX3_fillSlots 34 rfl) rfl rfl ?_
        obtain ⟨b3, H⟩ := ggi H
        have b3 := gin_in b3
        refine R_iald (gxd kX3_fillSlots 35 rfl) gk_3 b3 ?_
        refine R_iload (gxd kX3_fillSlots 36 rfl) rfl ?_
        refine R_ishr (gxd kX3_fillSlots 37 rfl) ?_
        refine R_iconst (v := (1 : Int32)) (gxd kX3_fillSlots 38 rfl) rfl ?_
        refine R_iand (gxd kX3_fillSlots 39 rfl) ?_
        refine R_iconst (v := (1 : Int32)) (gxd kX3_fillSlots 40 rfl) rfl ?_
        refine R_icmp_ne (gxd kX3_fillSlots 41 rfl) (tgt := 80) rfl (fun q => ?_) (fun q => ?_)
        · replace H := giff q H
          refine R_iinc (v := (v4 + (1 : Int32))) (gxd kX3_fillSlots 48 rfl) rfl rfl rfl (Nat.le_of_ble_eq_true rfl) rfl ?_
          refine R_goto (gxd kX3_fillSlots 49 rfl) (tgt := 42) rfl ?_
          exact R_weak (gle_same (gle_same (gle_same (gle_same (gle_same gle_nil))))) (ih _ _ _ _  H)
        · replace H := gift q H
          refine R_aload_n (gxd kX3_fillSlots 42 rfl) rfl rfl ?_
          refine R_getr (gxd kX3_fillSlots 43 rfl) gf_R_24 gk_1 (by decide) rfl ?_
          refine R_iload_n (gxd kX3_fillSlots 44 rfl) rfl rfl ?_
          refine R_iload (gxd kX3_fillSlots 45 rfl) rfl ?_
          obtain ⟨b4, H⟩ := ggi H
          have b4 := gin_in b4
          refine R_iast (gxd kX3_fillSlots 46 rfl) gk_6 b4 ?_
          obtain ⟨h5, e6, H⟩ := glei H
          refine R_heq e6 ?_
          refine R_iinc (v := (v2 + (1 : Int32))) (gxd kX3_fillSlots 47 rfl) rfl rfl rfl (Nat.le_of_ble_eq_true rfl) rfl ?_
          refine R_iinc (v := (v4 + (1 : Int32))) (gxd kX3_fillSlots 48 rfl) rfl rfl rfl (Nat.le_of_ble_eq_true rfl) rfl ?_
          refine R_goto (gxd kX3_fillSlots 49 rfl) (tgt := 42) rfl ?_
          exact R_weak (gle_same (gle_same (gle_same (gle_same (gle_same gle_nil))))) (ih _ _ _ _  H)
def fR_fillSlots_17 (v1 : Int32) (v3 : Int32) : Nat → Int32 → Int32 → gH → Option gH
  | 0, _, _, _ => none
  | n + 1, v2, v4, h =>
    if (0 : Int32) < v4 then
      gg (gin v2 48) <|
      glet (hu h 6 v2.toNatClampNeg (8 : Int32)) fun h8 =>
      fR_fillSlots_17 v1 v3 n (v2 + (1 : Int32)) (v4 + (-1 : Int32)) h8
    else
      fR_fillSlots_42 v1 v3 gfu v2 (0 : Int32) h
theorem fR_fillSlots_17_ok {d : Nat} {v1 : Int32} {v3 : Int32}  : ∀ (n : Nat) (v2 : Int32) (v4 : Int32) (h : gH) (x : gH), fR_fillSlots_17 v1 v3 n v2 v4 h = some x → gR RX3 cX3_fillSlots 5 none (d + 2) 17 [.ref 1, .int v1, .int v2, .int v3, .int v4] [] h none x := by
  intro n
  induction n with
  | zero => intro v2 v4 h x  H; exact g0 H
  | succ n ih =>
    intro v2 v4 h x  H
    unfold fR_fillSlots_17 at H
    refine R_iload (gxd kX3_fillSlots 14 rfl) rfl ?_
    refine R_if_le (gxd kX3_fillSlots 15 rfl) (tgt := 39) rfl (fun q => ?_) (fun q => ?_)
    · replace H := giff q H
      refine R_iconst (v := (0 : Int32)) (gxd kX3_fillSlots 24 rfl) rfl ?_
      refine R_istore (gxd kX3_fillSlots 25 rfl) rfl (Nat.le_of_ble_eq_true rfl) rfl ?_
      exact R_weak (gle_same (gle_same (gle_same (gle_same (gle_same gle_nil))))) (fR_fillSlots_42_ok  gfu _ _ _ _  H)
    · replace H := gift q H
      refine R_aload_n (gxd kX3_fillSlots 16 rfl) rfl rfl ?_
      refine R_getr (gxd kX3_fillSlots 17 rfl) gf_R_24 gk_1 (by decide) rfl ?_
      refine R_iload_n (gxd kX3_fillSlots 18 rfl) rfl rfl ?_
      refine R_bipush (v := (8 : Int32)) (gxd kX3_fillSlots 19 rfl) rfl ?_
      obtain ⟨b7, H⟩ := ggi H
      have b7 := gin_in b7
      refine R_iast (gxd kX3_fillSlots 20 rfl) gk_6 b7 ?_
      obtain ⟨h8, e9, H⟩ := glei H
      refine R_heq e9 ?_
      refine R_iinc (v := (v2 + (1 : Int32))) (gxd kX3_fillSlots 21 rfl) rfl rfl rfl (Nat.le_of_ble_eq_true rfl) rfl ?_
      refine R_iinc (v := (v4 + (-1 : Int32))) (gxd kX3_fillSlots 22 rfl) rfl rfl rfl (Nat.le_of_ble_eq_true rfl) rfl ?_
      refine R_goto (gxd kX3_fillSlots 23 rfl) (tgt := 17) rfl ?_
      exact R_weak (gle_same (gle_same (gle_same (gle_same (gle_same gle_nil))))) (ih _ _ _ _  H)
def fR_fillSlots (v1 : Int32) (h : gH) : Option gH :=
  (fR_howMany v1 h).bind fun p1 =>
  fR_fillSlots_17 v1 ((v1 * (3 : Int32)) + (3 : Int32)) gfu (v1 * (3 : Int32)) ((3 : Int32) - p1.1) p1.2
theorem fR_fillSlots_ok {v1 : Int32} {h : gH} {x : gH} (H : fR_fillSlots v1 h = some x) (d : Nat) : gC yX3_fillSlots cX3_fillSlots 5 none (d + 2) [.ref 1, .int v1] h none x := by
  refine gC_of (by decide +kernel) (Nat.le_of_ble_eq_true rfl) rfl ?_
  unfold fR_fillSlots at H
  refine R_iload_n (gxd kX3_fillSlots 0 rfl) rfl rfl ?_
  refine R_iconst (v := (3 : Int32)) (gxd kX3_fillSlots 1 rfl) rfl ?_
  refine R_imul (gxd kX3_fillSlots 2 rfl) ?_
  refine R_istore_n (gxd kX3_fillSlots 3 rfl) rfl rfl (Nat.le_of_ble_eq_true rfl) rfl ?_
  refine R_iload_n (gxd kX3_fillSlots 4 rfl) rfl rfl ?_
  refine R_iconst (v := (3 : Int32)) (gxd kX3_fillSlots 5 rfl) rfl ?_
  refine R_iadd (gxd kX3_fillSlots 6 rfl) ?_
  refine R_istore_n (gxd kX3_fillSlots 7 rfl) rfl rfl (Nat.le_of_ble_eq_true rfl) rfl ?_
  refine R_iconst (v := (3 : Int32)) (gxd kX3_fillSlots 8 rfl) rfl ?_
  refine R_aload_n (gxd kX3_fillSlots 9 rfl) rfl rfl ?_
  refine R_iload_n (gxd kX3_fillSlots 10 rfl) rfl rfl ?_
  obtain ⟨p1, e2, H⟩ := gbi H
  refine R_callVi (gxd kX3_fillSlots 11 rfl) gm_R_65 wX3_howMany (by decide) gk_1 rfl rfl (Nat.le_of_ble_eq_true rfl) (by omega) (fR_howMany_ok  e2 (d + 0)) ?_
  refine R_isub (gxd kX3_fillSlots 12 rfl) ?_
  refine R_istore (gxd kX3_fillSlots 13 rfl) rfl (Nat.le_of_ble_eq_true rfl) rfl ?_
  exact R_weak (gle_same (gle_same (gle_same (gle_same (gle_same gle_nil))))) (fR_fillSlots_17_ok  gfu _ _ _ _  H)
def fR_lastValues_31 (v3 : Int32) (v4 : Int32) : Nat → Int32 → Int32 → gH → Option (Int32 × gH)
  | 0, _, _, _ => none
  | n + 1, v5, v6, h =>
    if v6 < v4 then
      gg (gin v3 9) <|
      glet (hu h 9 v3.toNatClampNeg v6) fun h3 =>
      (fT_holdsFor h3).bind fun p5 =>
      if p5.1 = (0 : Int32) then
        fR_lastValues_31 v3 v4 n v5 (v6 + (1 : Int32)) p5.2
      else
        fR_lastValues_31 v3 v4 n (v5 ||| ((1 : Int32) <<< (v6 &&& 31))) (v6 + (1 : Int32)) p5.2
    else
      some (v5, h)
theorem fR_lastValues_31_ok {d : Nat} {v3 : Int32} {v4 : Int32}  : ∀ (n : Nat) (v5 : Int32) (v6 : Int32) (h : gH) (x : (Int32 × gH)), fR_lastValues_31 v3 v4 n v5 v6 h = some x → gR RX3 cX3_lastValues 7 (some .int) (d + 3) 31 [.ref 1, .null, .ref 10, .int v3, .int v4, .int v5, .int v6] [] h (some (.int x.1)) x.2 := by
  intro n
  induction n with
  | zero => intro v5 v6 h x  H; exact g0 H
  | succ n ih =>
    intro v5 v6 h x  H
    unfold fR_lastValues_31 at H
    refine R_iload (gxd kX3_lastValues 20 rfl) rfl ?_
    refine R_iload (gxd kX3_lastValues 21 rfl) rfl ?_
    refine R_icmp_ge (gxd kX3_lastValues 22 rfl) (tgt := 72) rfl (fun q => ?_) (fun q => ?_)
    · replace H := giff q H
      refine R_iload (gxd kX3_lastValues 41 rfl) rfl ?_
      cases H
      exact R_iret (gxd kX3_lastValues 42 rfl) rfl
    · replace H := gift q H
      refine R_aload_n (gxd kX3_lastValues 23 rfl) rfl rfl ?_
      refine R_getr (gxd kX3_lastValues 24 rfl) gf_R_33 gk_1 (by decide) rfl ?_
      refine R_iload_n (gxd kX3_lastValues 25 rfl) rfl rfl ?_
      refine R_iload (gxd kX3_lastValues 26 rfl) rfl ?_
      obtain ⟨b2, H⟩ := ggi H
      have b2 := gin_in b2
      refine R_iast (gxd kX3_lastValues 27 rfl) gk_9 b2 ?_
      obtain ⟨h3, e4, H⟩ := glei H
      refine R_heq e4 ?_
      refine R_aload_n (gxd kX3_lastValues 28 rfl) rfl rfl ?_
      refine R_aload_n (gxd kX3_lastValues 29 rfl) rfl rfl ?_
      refine R_getr (gxd kX3_lastValues 30 rfl) gf_R_33 gk_1 (by decide) rfl ?_
      obtain ⟨p5, e6, H⟩ := gbi H
      refine R_callVi (gxd kX3_lastValues 31 rfl) gm_R_72 wX2_holdsFor (by decide) gk_10 rfl rfl (Nat.le_of_ble_eq_true rfl) (by omega) (fT_holdsFor_ok  e6 (d + 0)) ?_
      refine R_if_eq (gxd kX3_lastValues 32 rfl) (tgt := 66) rfl (fun q => ?_) (fun q => ?_)
      · replace H := gift q H
        refine R_iinc (v := (v6 + (1 : Int32))) (gxd kX3_lastValues 39 rfl) rfl rfl rfl (Nat.le_of_ble_eq_true rfl) rfl ?_
        refine R_goto (gxd kX3_lastValues 40 rfl) (tgt := 31) rfl ?_
        exact R_weak (gle_same (gle_null (gle_same (gle_same (gle_same (gle_same (gle_same gle_nil))))))) (ih _ _ _ _  H)
      · replace H := giff q H
        refine R_iload (gxd kX3_lastValues 33 rfl) rfl ?_
        refine R_iconst (v := (1 : Int32)) (gxd kX3_lastValues 34 rfl) rfl ?_
        refine R_iload (gxd kX3_lastValues 35 rfl) rfl ?_
        refine R_ishl (gxd kX3_lastValues 36 rfl) ?_
        refine R_ior (gxd kX3_lastValues 37 rfl) ?_
        refine R_istore (gxd kX3_lastValues 38 rfl) rfl (Nat.le_of_ble_eq_true rfl) rfl ?_
        refine R_iinc (v := (v6 + (1 : Int32))) (gxd kX3_lastValues 39 rfl) rfl rfl rfl (Nat.le_of_ble_eq_true rfl) rfl ?_
        refine R_goto (gxd kX3_lastValues 40 rfl) (tgt := 31) rfl ?_
        exact R_weak (gle_same (gle_null (gle_same (gle_same (gle_same (gle_same (gle_same gle_nil))))))) (ih _ _ _ _  H)
def fR_lastValues_23 (v3 : Int32) (s0 : Int32) (h : gH) : Option (Int32 × gH) :=
  fR_lastValues_31 v3 s0 gfu (0 : Int32) (0 : Int32) h
theorem fR_lastValues_23_ok {d : Nat} {v3 : Int32} {s0 : Int32}  {h : gH} {x : (Int32 × gH)} (H : fR_lastValues_23 v3 s0 h = some x) : gR RX3 cX3_lastValues 7 (some .int) (d + 3) 23 [.ref 1, .null, .ref 10, .int v3, .null, .null, .null] [.int s0] h (some (.int x.1)) x.2 := by
  unfold fR_lastValues_23 at H
  refine R_istore (gxd kX3_lastValues 15 rfl) rfl (Nat.le_of_ble_eq_true rfl) rfl ?_
  refine R_iconst (v := (0 : Int32)) (gxd kX3_lastValues 16 rfl) rfl ?_
  refine R_istore (gxd kX3_lastValues 17 rfl) rfl (Nat.le_of_ble_eq_true rfl) rfl ?_
  refine R_iconst (v := (0 : Int32)) (gxd kX3_lastValues 18 rfl) rfl ?_
  refine R_istore (gxd kX3_lastValues 19 rfl) rfl (Nat.le_of_ble_eq_true rfl) rfl ?_
  exact R_weak (gle_same (gle_null (gle_same (gle_same (gle_same (gle_same (gle_same gle_nil))))))) (fR_lastValues_31_ok  gfu _ _ _ _  H)
def fR_lastValues (v1 : Int32) (h : gH) : Option (Int32 × gH) :=
  gg (gin ((v1 * (3 : Int32)) + (2 : Int32)) 48) <|
  if (h 6 ((v1 * (3 : Int32)) + (2 : Int32)).toNatClampNeg) = (8 : Int32) then
    fR_lastValues_23 (h 6 ((v1 * (3 : Int32)) + (2 : Int32)).toNatClampNeg) (1 : Int32) h
  else
    fR_lastValues_23 (h 6 ((v1 * (3 : Int32)) + (2 : Int32)).toNatClampNeg) (10 : Int32) h
theorem fR_lastValues_ok {v1 : Int32} {h : gH} {x : (Int32 × gH)} (H : fR_lastValues v1 h = some x) (d : Nat) : gC yX3_lastValues cX3_lastValues 7 (some .int) (d + 3) [.ref 1, .int v1, .ref 10] h (some (.int x.1)) x.2 := by
  refine gC_of (by decide +kernel) (Nat.le_of_ble_eq_true rfl) rfl ?_
  unfold fR_lastValues at H
  refine R_aload_n (gxd kX3_lastValues 0 rfl) rfl rfl ?_
  refine R_getr (gxd kX3_lastValues 1 rfl) gf_R_24 gk_1 (by decide) rfl ?_
  refine R_iload_n (gxd kX3_lastValues 2 rfl) rfl rfl ?_
  refine R_iconst (v := (3 : Int32)) (gxd kX3_lastValues 3 rfl) rfl ?_
  refine R_imul (gxd kX3_lastValues 4 rfl) ?_
  refine R_iconst (v := (2 : Int32)) (gxd kX3_lastValues 5 rfl) rfl ?_
  refine R_iadd (gxd kX3_lastValues 6 rfl) ?_
  obtain ⟨b1, H⟩ := ggi H
  have b1 := gin_in b1
  refine R_iald (gxd kX3_lastValues 7 rfl) gk_6 b1 ?_
  refine R_istore_n (gxd kX3_lastValues 8 rfl) rfl rfl (Nat.le_of_ble_eq_true rfl) rfl ?_
  refine R_iload_n (gxd kX3_lastValues 9 rfl) rfl rfl ?_
  refine R_bipush (v := (8 : Int32)) (gxd kX3_lastValues 10 rfl) rfl ?_
  refine R_icmp_ne (gxd kX3_lastValues 11 rfl) (tgt := 21) rfl (fun q => ?_) (fun q => ?_)
  · replace H := giff q H
    refine R_bipush (v := (10 : Int32)) (gxd kX3_lastValues 14 rfl) rfl ?_
    exact R_weak (gle_same (gle_null (gle_same (gle_same (gle_null (gle_null (gle_null gle_nil))))))) (fR_lastValues_23_ok  H)
  · replace H := gift q H
    refine R_iconst (v := (1 : Int32)) (gxd kX3_lastValues 12 rfl) rfl ?_
    refine R_goto (gxd kX3_lastValues 13 rfl) (tgt := 23) rfl ?_
    exact R_weak (gle_same (gle_null (gle_same (gle_same (gle_null (gle_null (gle_null gle_nil))))))) (fR_lastValues_23_ok  H)
def fR_fillWays_115 (k24 : Int32 → gH → Option gH) (v1 : Int32) (v3 : Int32) (v4 : Int32) (v5 : Int32) (s1 : Int32) (s2 : Int32) (h : gH) : Option gH :=
  gg (gin s1 1600) <|
  glet (hu h 7 s1.toNatClampNeg s2) fun h10 =>
  k24 (v5 + (1 : Int32)) h10
theorem fR_fillWays_115_ok {d : Nat} {k24 : Int32 → gH → Option gH} {v1 : Int32} {v3 : Int32} {v4 : Int32} {v5 : Int32} {s1 : Int32} {s2 : Int32} (hk24 : ∀ (u5 : Int32) (h : gH) (x : gH), k24 u5 h = some x → gR RX3 cX3_fillWays 7 none (d + 4) 24 [.ref 1, .int v1, .ref 10, .int v3, .int v4, .int u5, .null] [] h none x) {h : gH} {x : gH} (H : fR_fillWays_115 k24 v1 v3 v4 v5 s1 s2 h = some x) : gR RX3 cX3_fillWays 7 none (d + 4) 115 [.ref 1, .int v1, .ref 10, .int v3, .int v4, .int v5, .null] [.int s2, .int s1, .ref 7] h none x := by
  unfold fR_fillWays_115 at H
  obtain ⟨b9, H⟩ := ggi H
  have b9 := gin_in b9
  refine R_iast (gxd kX3_fillWays 67 rfl) gk_7 b9 ?_
  obtain ⟨h10, e11, H⟩ := glei H
  refine R_heq e11 ?_
  refine R_iinc (v := (v5 + (1 : Int32))) (gxd kX3_fillWays 68 rfl) rfl rfl rfl (Nat.le_of_ble_eq_true rfl) rfl ?_
  refine R_goto (gxd kX3_fillWays 69 rfl) (tgt := 24) rfl ?_
  exact R_weak (gle_same (gle_same (gle_same (gle_same (gle_same (gle_same (gle_null gle_nil))))))) (hk24 _ _ _  H)
def fR_fillWays_87 (k24 : Int32 → gH → Option gH) (v1 : Int32) (v3 : Int32) (v4 : Int32) (v5 : Int32) (s0 : Int32) (h : gH) : Option gH :=
  if s0 = (0 : Int32) then
    fR_fillWays_115 k24 v1 v3 v4 v5 ((v1 * (100 : Int32)) + v5) (0 : Int32) h
  else
    (fR_lastValues v1 h).bind fun p12 =>
    fR_fillWays_115 k24 v1 v3 v4 v5 ((v1 * (100 : Int32)) + v5) p12.1 p12.2
theorem fR_fillWays_87_ok {d : Nat} {k24 : Int32 → gH → Option gH} {v1 : Int32} {v3 : Int32} {v4 : Int32} {v5 : Int32} {s0 : Int32} (hk24 : ∀ (u5 : Int32) (h : gH) (x : gH), k24 u5 h = some x → gR RX3 cX3_fillWays 7 none (d + 4) 24 [.ref 1, .int v1, .ref 10, .int v3, .int v4, .int u5, .null] [] h none x) {h : gH} {x : gH} (H : fR_fillWays_87 k24 v1 v3 v4 v5 s0 h = some x) : gR RX3 cX3_fillWays 7 none (d + 4) 87 [.ref 1, .int v1, .ref 10, .int v3, .int v4, .int v5, .null] [.int s0] h none x := by
  unfold fR_fillWays_87 at H
  refine R_istore (gxd kX3_fillWays 51 rfl) rfl (Nat.le_of_ble_eq_true rfl) rfl ?_
  refine R_aload_n (gxd kX3_fillWays 52 rfl) rfl rfl ?_
  refine R_getr (gxd kX3_fillWays 53 rfl) gf_R_27 gk_1 (by decide) rfl ?_
  refine R_iload_n (gxd kX3_fillWays 54 rfl) rfl rfl ?_
  refine R_bipush (v := (100 : Int32)) (gxd kX3_fillWays 55 rfl) rfl ?_
  refine R_imul (gxd kX3_fillWays 56 rfl) ?_
  refine R_iload (gxd kX3_fillWays 57 rfl) rfl ?_
  refine R_iadd (gxd kX3_fillWays 58 rfl) ?_
  refine R_iload (gxd kX3_fillWays 59 rfl) rfl ?_
  refine R_if_eq (gxd kX3_fillWays 60 rfl) (tgt := 114) rfl (fun q => ?_) (fun q => ?_)
  · replace H := gift q H
    refine R_iconst (v := (0 : Int32)) (gxd kX3_fillWays 66 rfl) rfl ?_
    exact R_weak (gle_same (gle_same (gle_same (gle_same (gle_same (gle_same (gle_null gle_nil))))))) (fR_fillWays_115_ok hk24  H)
  · replace H := giff q H
    refine R_aload_n (gxd kX3_fillWays 61 rfl) rfl rfl ?_
    refine R_iload_n (gxd kX3_fillWays 62 rfl) rfl rfl ?_
    refine R_aload_n (gxd kX3_fillWays 63 rfl) rfl rfl ?_
    obtain ⟨p12, e13, H⟩ := gbi H
    refine R_callVi (gxd kX3_fillWays 64 rfl) gm_R_68 wX3_lastValues (by decide) gk_1 rfl rfl (Nat.le_of_ble_eq_true rfl) (by omega) (fR_lastValues_ok  e13 (d + 0)) ?_
    refine R_goto (gxd kX3_fillWays 65 rfl) (tgt := 115) rfl ?_
    exact R_weak (gle_same (gle_same (gle_same (gle_same (gle_same (gle_same (gle_null gle_nil))))))) (fR_fillWays_115_ok hk24  H)
def fR_fillWays_82 (k24 : Int32 → gH → Option gH) (v1 : Int32) (v3 : Int32) (v4 : Int32) (v5 : Int32) (h : gH) : Option gH :=
  fR_fillWays_87 k24 v1 v3 v4 v5 (1 : Int32) h
theorem fR_fillWays_82_ok {d : Nat} {k24 : Int32 → gH → Option gH} {v1 : Int32} {v3 : Int32} {v4 : Int32} {v5 : Int32} (hk24 : ∀ (u5 : Int32) (h : gH) (x : gH), k24 u5 h = some x → gR RX3 cX3_fillWays 7 none (d + 4) 24 [.ref 1, .int v1, .ref 10, .int v3, .int v4, .int u5, .null] [] h none x) {h : gH} {x : gH} (H : fR_fillWays_82 k24 v1 v3 v4 v5  h = some x) : gR RX3 cX3_fillWays 7 none (d + 4) 82 [.ref 1, .int v1, .ref 10, .int v3, .int v4, .int v5, .null] [] h none x := by
  unfold fR_fillWays_82 at H
  refine R_iconst (v := (1 : Int32)) (gxd kX3_fillWays 48 rfl) rfl ?_
  refine R_goto (gxd kX3_fillWays 49 rfl) (tgt := 87) rfl ?_
  exact R_weak (gle_same (gle_same (gle_same (gle_same (gle_same (gle_same (gle_null gle_nil))))))) (fR_fillWays_87_ok hk24  H)
def fR_fillWays_86 (k24 : Int32 → gH → Option gH) (v1 : Int32) (v3 : Int32) (v4 : Int32) (v5 : Int32) (h : gH) : Option gH :=
  fR_fillWays_87 k24 v1 v3 v4 v5 (0 : Int32) h
theorem fR_fillWays_86_ok {d : Nat} {k24 : Int32 → gH → Option gH} {v1 : Int32} {v3 : Int32} {v4 : Int32} {v5 : Int32} (hk24 : ∀ (u5 : Int32) (h : gH) (x : gH), k24 u5 h = some x → gR RX3 cX3_fillWays 7 none (d + 4) 24 [.ref 1, .int v1, .ref 10, .int v3, .int v4, .int u5, .null] [] h none x) {h : gH} {x : gH} (H : fR_fillWays_86 k24 v1 v3 v4 v5  h = some x) : gR RX3 cX3_fillWays 7 none (d + 4) 86 [.ref 1, .int v1, .ref 10, .int v3, .int v4, .int v5, .null] [] h none x := by
  unfold fR_fillWays_86 at H
  refine R_iconst (v := (0 : Int32)) (gxd kX3_fillWays 50 rfl) rfl ?_
  exact R_weak (gle_same (gle_same (gle_same (gle_same (gle_same (gle_same (gle_null gle_nil))))))) (fR_fillWays_87_ok hk24  H)
def fR_fillWays_67 (k24 : Int32 → gH → Option gH) (v1 : Int32) (v3 : Int32) (v4 : Int32) (v5 : Int32) (h : gH) : Option gH :=
  if v4 = (8 : Int32) then
    if (v5 - v5 / (10 : Int32) * (10 : Int32)) = (0 : Int32) then
      fR_fillWays_82 k24 v1 v3 v4 v5 h
    else
      fR_fillWays_86 k24 v1 v3 v4 v5 h
  else
    fR_fillWays_82 k24 v1 v3 v4 v5 h
theorem fR_fillWays_67_ok {d : Nat} {k24 : Int32 → gH → Option gH} {v1 : Int32} {v3 : Int32} {v4 : Int32} {v5 : Int32} (hk24 : ∀ (u5 : Int32) (h : gH) (x : gH), k24 u5 h = some x → gR RX3 cX3_fillWays 7 none (d + 4) 24 [.ref 1, .int v1, .ref 10, .int v3, .int v4, .int u5, .null] [] h none x) {h : gH} {x : gH} (H : fR_fillWays_67 k24 v1 v3 v4 v5  h = some x) : gR RX3 cX3_fillWays 7 none (d + 4) 67 [.ref 1, .int v1, .ref 10, .int v3, .int v4, .int v5, .null] [] h none x := by
  unfold fR_fillWays_67 at H
  refine R_iload (gxd kX3_fillWays 41 rfl) rfl ?_
  refine R_bipush (v := (8 : Int32)) (gxd kX3_fillWays 42 rfl) rfl ?_
  refine R_icmp_ne (gxd kX3_fillWays 43 rfl) (tgt := 82) rfl (fun q => ?_) (fun q => ?_)
  · replace H := giff q H
    exact R_weak (gle_same (gle_same (gle_same (gle_same (gle_same (gle_same (gle_null gle_nil))))))) (fR_fillWays_82_ok hk24  H)
  · replace H := gift q H
    refine R_iload (gxd kX3_fillWays 44 rfl) rfl ?_
    refine R_bipush (v := (10 : Int32)) (gxd kX3_fillWays 45 rfl) rfl ?_
    refine R_irem (gxd kX3_fillWays 46 rfl) (by decide) ?_
    refine R_if_ne (gxd kX3_fillWays 47 rfl) (tgt := 86) rfl (fun q => ?_) (fun q => ?_)
    · replace H := giff q H
      exact R_weak (gle_same (gle_same (gle_same (gle_same (gle_same (gle_same (gle_null gle_nil))))))) (fR_fillWays_86_ok hk24  H)
    · replace H := gift q H
      exact R_weak (gle_same (gle_same (gle_same (gle_same (gle_same (gle_same (gle_null gle_nil))))))) (fR_fillWays_82_ok hk24  H)
def fR_fillWays_24 (v1 : Int32) (v3 : Int32) (v4 : Int32) : Nat → Int32 → gH → Option gH
  | 0, _, _ => none
  | n + 1, v5, h =>
    if v5 < (100 : Int32) then
      gg (gin v3 9) <|
      glet (hu h 9 v3.toNatClampNeg (v5 / (10 : Int32))) fun h4 =>
      gg (gin v4 9) <|
      glet (hu h4 9 v4.toNatClampNeg (v5 - v5 / (10 : Int32) * (10 : Int32))) fun h7 =>
      if v3 = (8 : Int32) then
        if v5 < (10 : Int32) then
          fR_fillWays_67 (fR_fillWays_24 v1 v3 v4 n) v1 v3 v4 v5 h7
        else
          fR_fillWays_86 (fR_fillWays_24 v1 v3 v4 n) v1 v3 v4 v5 h7
      else
        fR_fillWays_67 (fR_fillWays_24 v1 v3 v4 n) v1 v3 v4 v5 h7
    else
      some h
theorem fR_fillWays_24_ok {d : Nat} {v1 : Int32} {v3 : Int32} {v4 : Int32}  : ∀ (n : Nat) (v5 : Int32) (h : gH) (x : gH), fR_fillWays_24 v1 v3 v4 n v5 h = some x → gR RX3 cX3_fillWays 7 none (d + 4) 24 [.ref 1, .int v1, .ref 10, .int v3, .int v4, .int v5, .null] [] h none x := by
  intro n
  induction n with
  | zero => intro v5 h x  H; exact g0 H
  | succ n ih =>
    intro v5 h x  H
    unfold fR_fillWays_24 at H
    refine R_iload (gxd kX3_fillWays 18 rfl) rfl ?_
    refine R_bipush (v := (100 : Int32)) (gxd kX3_fillWays 19 rfl) rfl ?_
    refine R_icmp_ge (gxd kX3_fillWays 20 rfl) (tgt := 122) rfl (fun q => ?_) (fun q => ?_)
    · replace H := giff q H
      cases H
      exact R_vret (gxd kX3_fillWays 70 rfl) rfl
    · replace H := gift q H
      refine R_aload_n (gxd kX3_fillWays 21 rfl) rfl rfl ?_
      refine R_getr (gxd kX3_fillWays 22 rfl) gf_R_33 gk_1 (by decide) rfl ?_
      refine R_iload_n (gxd kX3_fillWays 23 rfl) rfl rfl ?_
      refine R_iload (gxd kX3_fillWays 24 rfl) rfl ?_
      refine R_bipush (v := (10 : Int32)) (gxd kX3_fillWays 25 rfl) rfl ?_
      refine R_idiv (gxd kX3_fillWays 26 rfl) (by decide) ?_
      obtain ⟨b3, H⟩ := ggi H
      have b3 := gin_in b3
      refine R_iast (gxd kX3_fillWays 27 rfl) gk_9 b3 ?_
      obtain ⟨h4, e5, H⟩ := glei H
      refine R_heq e5 ?_
      refine R_aload_n (gxd kX3_fillWays 28 rfl) rfl rfl ?_
      refine R_getr (gxd kX3_fillWays 29 rfl) gf_R_33 gk_1 (by decide) rfl ?_
      refine R_iload (gxd kX3_fillWays 30 rfl) rfl ?_
      refine R_iload (gxd kX3_fillWays 31 rfl) rfl ?_
      refine R_bipush (v := (10 : Int32)) (gxd kX3_fillWays 32 rfl) rfl ?_
      refine R_irem (gxd kX3_fillWays 33 rfl) (by decide) ?_
      obtain ⟨b6, H⟩ := ggi H
      have b6 := gin_in b6
      refine R_iast (gxd kX3_fillWays 34 rfl) gk_9 b6 ?_
      obtain ⟨h7, e8, H⟩ := glei H
      refine R_heq e8 ?_
      refine R_iload_n (gxd kX3_fillWays 35 rfl) rfl rfl ?_
      refine R_bipush (v := (8 : Int32)) (gxd kX3_fillWays 36 rfl) rfl ?_
      refine R_icmp_ne (gxd kX3_fillWays 37 rfl) (tgt := 67) rfl (fun q => ?_) (fun q => ?_)
      · replace H := giff q H
        exact R_weak (gle_same (gle_same (gle_same (gle_same (gle_same (gle_same (gle_null gle_nil))))))) (fR_fillWays_67_ok ih  H)
      · replace H := gift q H
        refine R_iload (gxd kX3_fillWays 38 rfl) rfl ?_
        refine R_bipush (v := (10 : Int32)) (gxd kX3_fillWays 39 rfl) rfl ?_
        refine R_icmp_ge (gxd kX3_fillWays 40 rfl) (tgt := 86) rfl (fun q => ?_) (fun q => ?_)
        · replace H := giff q H
          exact R_weak (gle_same (gle_same (gle_same (gle_same (gle_same (gle_same (gle_null gle_nil))))))) (fR_fillWays_86_ok ih  H)
        · replace H := gift q H
          exact R_weak (gle_same (gle_same (gle_same (gle_same (gle_same (gle_same (gle_null gle_nil))))))) (fR_fillWays_67_ok ih  H)
def fR_fillWays (v1 : Int32) (h : gH) : Option gH :=
  gg (gin (v1 * (3 : Int32)) 48) <|
  gg (gin ((v1 * (3 : Int32)) + (1 : Int32)) 48) <|
  fR_fillWays_24 v1 (h 6 (v1 * (3 : Int32)).toNatClampNeg) (h 6 ((v1 * (3 : Int32)) + (1 : Int32)).toNatClampNeg) gfu (0 : Int32) h
theorem fR_fillWays_ok {v1 : Int32} {h : gH} {x : gH} (H : fR_fillWays v1 h = some x) (d : Nat) : gC yX3_fillWays cX3_fillWays 7 none (d + 4) [.ref 1, .int v1, .ref 10] h none x := by
  refine gC_of (by decide +kernel) (Nat.le_of_ble_eq_true rfl) rfl ?_
  unfold fR_fillWays at H
  refine R_aload_n (gxd kX3_fillWays 0 rfl) rfl rfl ?_
  refine R_getr (gxd kX3_fillWays 1 rfl) gf_R_24 gk_1 (by decide) rfl ?_
  refine R_iload_n (gxd kX3_fillWays 2 rfl) rfl rfl ?_
  refine R_iconst (v := (3 : Int32)) (gxd kX3_fillWays 3 rfl) rfl ?_
  refine R_imul (gxd kX3_fillWays 4 rfl) ?_
  obtain ⟨b1, H⟩ := ggi H
  have b1 := gin_in b1
  refine R_iald (gxd kX3_fillWays 5 rfl) gk_6 b1 ?_
  refine R_istore_n (gxd kX3_fillWays 6 rfl) rfl rfl (Nat.le_of_ble_eq_true rfl) rfl ?_
  refine R_aload_n (gxd kX3_fillWays 7 rfl) rfl rfl ?_
  refine R_getr (gxd kX3_fillWays 8 rfl) gf_R_24 gk_1 (by decide) rfl ?_
  refine R_iload_n (gxd kX3_fillWays 9 rfl) rfl rfl ?_
  refine R_iconst (v := (3 : Int32)) (gxd kX3_fillWays 10 rfl) rfl ?_
  refine R_imul (gxd kX3_fillWays 11 rfl) ?_
  refine R_iconst (v := (1 : Int32)) (gxd kX3_fillWays 12 rfl) rfl ?_
  refine R_iadd (gxd kX3_fillWays 13 rfl) ?_
  obtain ⟨b2, H⟩ := ggi H
  have b2 := gin_in b2
  refine R_iald (gxd kX3_fillWays 14 rfl) gk_6 b2 ?_
  refine R_istore (gxd kX3_fillWays 15 rfl) rfl (Nat.le_of_ble_eq_true rfl) rfl ?_
  refine R_iconst (v := (0 : Int32)) (gxd kX3_fillWays 16 rfl) rfl ?_
  refine R_istore (gxd kX3_fillWays 17 rfl) rfl (Nat.le_of_ble_eq_true rfl) rfl ?_
  exact R_weak (gle_same (gle_same (gle_same (gle_same (gle_same (gle_same (gle_null gle_nil))))))) (fR_fillWays_24_ok  gfu _ _ _  H)
def fR_add (h : gH) : Option (Int32 × gH) :=
  glet (hu h 1 8 ((h 1 8) + (1 : Int32))) fun h1 =>
  gg (gin (h 1 8) 16) <|
  glet (hu h1 2 (h 1 8).toNatClampNeg (h1 10 10)) fun h4 =>
  (fJ_bitCount (h4 10 11) h4).bind fun p6 =>
  (fR_enter (h 1 8) (h4 10 11) (p6.1 + (p6.2 10 10)) p6.2).bind fun h8 =>
  (fR_fillSlots (h 1 8) h8).bind fun h10 =>
  (fR_fillWays (h 1 8) h10).bind fun h12 =>
  some ((h 1 8), h12)
theorem fR_add_ok {h : gH} {x : (Int32 × gH)} (H : fR_add  h = some x) (d : Nat) : gC yX3_add cX3_add 3 (some .int) (d + 5) [.ref 1, .ref 10] h (some (.int x.1)) x.2 := by
  refine gC_of (by decide +kernel) (Nat.le_of_ble_eq_true rfl) rfl ?_
  unfold fR_add at H
  refine R_aload_n (gxd kX3_add 0 rfl) rfl rfl ?_
  refine R_geti (gxd kX3_add 1 rfl) gf_R_36 gk_1 (by decide) rfl ?_
  refine R_istore_n (gxd kX3_add 2 rfl) rfl rfl (Nat.le_of_ble_eq_true rfl) rfl ?_
  refine R_aload_n (gxd kX3_add 3 rfl) rfl rfl ?_
  refine R_dup (gxd kX3_add 4 rfl) rfl ?_
  refine R_geti (gxd kX3_add 5 rfl) gf_R_36 gk_1 (by decide) rfl ?_
  refine R_iconst (v := (1 : Int32)) (gxd kX3_add 6 rfl) rfl ?_
  refine R_iadd (gxd kX3_add 7 rfl) ?_
  refine R_puti (gxd kX3_add 8 rfl) gf_R_36 gp_3_8 gk_1 (by decide) rfl ?_
  obtain ⟨h1, e2, H⟩ := glei H
  refine R_heq e2 ?_
  refine R_aload_n (gxd kX3_add 9 rfl) rfl rfl ?_
  refine R_getr (gxd kX3_add 10 rfl) gf_R_9 gk_1 (by decide) rfl ?_
  refine R_iload_n (gxd kX3_add 11 rfl) rfl rfl ?_
  refine R_aload_n (gxd kX3_add 12 rfl) rfl rfl ?_
  refine R_geti (gxd kX3_add 13 rfl) gf_R_46 gk_10 (by decide) rfl ?_
  obtain ⟨b3, H⟩ := ggi H
  have b3 := gin_in b3
  refine R_iast (gxd kX3_add 14 rfl) gk_2 b3 ?_
  obtain ⟨h4, e5, H⟩ := glei H
  refine R_heq e5 ?_
  refine R_aload_n (gxd kX3_add 15 rfl) rfl rfl ?_
  refine R_iload_n (gxd kX3_add 16 rfl) rfl rfl ?_
  refine R_aload_n (gxd kX3_add 17 rfl) rfl rfl ?_
  refine R_geti (gxd kX3_add 18 rfl) gf_R_51 gk_10 (by decide) rfl ?_
  refine R_aload_n (gxd kX3_add 19 rfl) rfl rfl ?_
  refine R_geti (gxd kX3_add 20 rfl) gf_R_51 gk_10 (by decide) rfl ?_
  obtain ⟨p6, e7, H⟩ := gbi H
  refine R_callSi (gxd kX3_add 21 rfl) gm_R_40 wJ6_bitCount_0f7a4 (by decide) rfl (Nat.le_of_ble_eq_true rfl) (by omega) (fJ_bitCount_ok  e7 (d + 4)) ?_
  refine R_aload_n (gxd kX3_add 22 rfl) rfl rfl ?_
  refine R_geti (gxd kX3_add 23 rfl) gf_R_46 gk_10 (by decide) rfl ?_
  refine R_iadd (gxd kX3_add 24 rfl) ?_
  obtain ⟨h8, e9, H⟩ := gbi H
  refine R_callVv (gxd kX3_add 25 rfl) gm_R_53 wX3_enter (by decide) gk_1 rfl rfl (Nat.le_of_ble_eq_true rfl) (by omega) (fR_enter_ok  e9 (d + 4)) ?_
  refine R_aload_n (gxd kX3_add 26 rfl) rfl rfl ?_
  refine R_iload_n (gxd kX3_add 27 rfl) rfl rfl ?_
  obtain ⟨h10, e11, H⟩ := gbi H
  refine R_callVv (gxd kX3_add 28 rfl) gm_R_57 wX3_fillSlots (by decide) gk_1 rfl rfl (Nat.le_of_ble_eq_true rfl) (by omega) (fR_fillSlots_ok  e11 (d + 2)) ?_
  refine R_aload_n (gxd kX3_add 29 rfl) rfl rfl ?_
  refine R_iload_n (gxd kX3_add 30 rfl) rfl rfl ?_
  refine R_aload_n (gxd kX3_add 31 rfl) rfl rfl ?_
  obtain ⟨h12, e13, H⟩ := gbi H
  refine R_callVv (gxd kX3_add 32 rfl) gm_R_61 wX3_fillWays (by decide) gk_1 rfl rfl (Nat.le_of_ble_eq_true rfl) (by omega) (fR_fillWays_ok  e13 (d + 0)) ?_
  refine R_iload_n (gxd kX3_add 33 rfl) rfl rfl ?_
  cases H
  exact R_iret (gxd kX3_add 34 rfl) rfl
def fR_learn (v1 : Int32) (v2 : Int32) (h : gH) : Option (Int32 × gH) :=
  (fR_enter ((16 : Int32) + v1) v2 (9 : Int32) h).bind fun h1 =>
  gg (gcpo (0 : Int32) (v1 * (8 : Int32)) (8 : Int32) 8 64) <|
  glet (gcp h1 42 (0 : Int32).toNatClampNeg 8 (v1 * (8 : Int32)).toNatClampNeg (8 : Int32).toNatClampNeg) fun h4 =>
  some (((16 : Int32) + v1), h4)
theorem fR_learn_ok {v1 : Int32} {v2 : Int32} {h : gH} {x : (Int32 × gH)} (H : fR_learn v1 v2 h = some x) (d : Nat) : gC yX3_learn cX3_learn 5 (some .int) (d + 1) [.ref 1, .int v1, .int v2, .ref 42] h (some (.int x.1)) x.2 := by
  refine gC_of (by decide +kernel) (Nat.le_of_ble_eq_true rfl) rfl ?_
  unfold fR_learn at H
  refine R_bipush (v := (16 : Int32)) (gxd kX3_learn 0 rfl) rfl ?_
  refine R_iload_n (gxd kX3_learn 1 rfl) rfl rfl ?_
  refine R_iadd (gxd kX3_learn 2 rfl) ?_
  refine R_istore (gxd kX3_learn 3 rfl) rfl (Nat.le_of_ble_eq_true rfl) rfl ?_
  refine R_aload_n (gxd kX3_learn 4 rfl) rfl rfl ?_
  refine R_iload (gxd kX3_learn 5 rfl) rfl ?_
  refine R_iload_n (gxd kX3_learn 6 rfl) rfl rfl ?_
  refine R_bipush (v := (9 : Int32)) (gxd kX3_learn 7 rfl) rfl ?_
  obtain ⟨h1, e2, H⟩ := gbi H
  refine R_callVv (gxd kX3_learn 8 rfl) gm_R_53 wX3_enter (by decide) gk_1 rfl rfl (Nat.le_of_ble_eq_true rfl) (by omega) (fR_enter_ok  e2 (d + 0)) ?_
  refine R_aload_n (gxd kX3_learn 9 rfl) rfl rfl ?_
  refine R_iconst (v := (0 : Int32)) (gxd kX3_learn 10 rfl) rfl ?_
  refine R_aload_n (gxd kX3_learn 11 rfl) rfl rfl ?_
  refine R_getr (gxd kX3_learn 12 rfl) gf_R_30 gk_1 (by decide) rfl ?_
  refine R_iload_n (gxd kX3_learn 13 rfl) rfl rfl ?_
  refine R_bipush (v := (8 : Int32)) (gxd kX3_learn 14 rfl) rfl ?_
  refine R_imul (gxd kX3_learn 15 rfl) ?_
  refine R_bipush (v := (8 : Int32)) (gxd kX3_learn 16 rfl) rfl ?_
  obtain ⟨b3, H⟩ := ggi H
  have b3 := gcpo_ok b3
  refine R_copy (gxd kX3_learn 17 rfl) gy_R_80 gk_42 gk_8 b3.1 b3.2.1 b3.2.2.1 b3.2.2.2.1 b3.2.2.2.2 (by omega) (Nat.le_of_ble_eq_true rfl) ?_
  obtain ⟨h4, e5, H⟩ := glei H
  refine R_heq e5 ?_
  refine R_iload (gxd kX3_learn 18 rfl) rfl ?_
  cases H
  exact R_iret (gxd kX3_learn 19 rfl) rfl
