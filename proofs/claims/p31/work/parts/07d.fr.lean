theorem fR_all_fr {h : gH} {x : (Int32 × gH)} (H : fR_all  h = some x) : gfr [] [] h x.2 := by
  unfold fR_all at H
  have hf := gfr_rf [] [] h
  cases H
  exact hf
theorem fR_howMany_fr {v1 : Int32} {h : gH} {x : (Int32 × gH)} (H : fR_howMany v1 h = some x) : gfr [] [] h x.2 := by
  unfold fR_howMany at H
  have hf := gfr_rf [] [] h
  obtain ⟨b1, H⟩ := ggi H
  have b1 := gin_in b1
  obtain ⟨p2, e3, H⟩ := gbi H
  replace hf := gfr_tr hf (gfr_w (fJ_bitCount_fr  e3) gss_nil gss_nil)
  cases H
  exact hf
theorem fR_enter_17_fr {v1 : Int32} {v2 : Int32}  : ∀ (n : Nat) (v4 : Int32) (h : gH) (x : gH), fR_enter_17 v1 v2 n v4 h = some x → gfr [3, 4, 5] [] h x := by
  intro n
  induction n with
  | zero => intro v4 h x  H; exact g0 H
  | succ n ih =>
    intro v4 h x  H
    unfold fR_enter_17 at H
    have hf := gfr_rf [3, 4, 5] [] h
    by_cases q : v4 < (8 : Int32)
    · replace H := gift q H
      obtain ⟨b7, H⟩ := ggi H
      have b7 := gin_in b7
      obtain ⟨b8, H⟩ := ggi H
      have b8 := gin_in b8
      obtain ⟨h9, e10, H⟩ := glei H
      replace hf := gfr_e (gfr_a hf (gme 2 rfl)) e10
      exact gfr_tr hf (ih _ _ _  H)
    · replace H := giff q H
      cases H
      exact hf
theorem fR_enter_fr {v1 : Int32} {v2 : Int32} {v3 : Int32} {h : gH} {x : gH} (H : fR_enter v1 v2 v3 h = some x) : gfr [3, 4, 5] [] h x := by
  unfold fR_enter at H
  have hf := gfr_rf [3, 4, 5] [] h
  obtain ⟨b1, H⟩ := ggi H
  have b1 := gin_in b1
  obtain ⟨h2, e3, H⟩ := glei H
  replace hf := gfr_e (gfr_a hf (gme 0 rfl)) e3
  obtain ⟨b4, H⟩ := ggi H
  have b4 := gin_in b4
  obtain ⟨h5, e6, H⟩ := glei H
  replace hf := gfr_e (gfr_a hf (gme 1 rfl)) e6
  exact gfr_tr hf (fR_enter_17_fr  gfu _ _ _  H)
theorem fR_fillSlots_42_fr {v1 : Int32} {v3 : Int32}  : ∀ (n : Nat) (v2 : Int32) (v4 : Int32) (h : gH) (x : gH), fR_fillSlots_42 v1 v3 n v2 v4 h = some x → gfr [6] [] h x := by
  intro n
  induction n with
  | zero => intro v2 v4 h x  H; exact g0 H
  | succ n ih =>
    intro v2 v4 h x  H
    unfold fR_fillSlots_42 at H
    have hf := gfr_rf [6] [] h
    by_cases q : v4 < (8 : Int32)
    · replace H := gift q H
      by_cases q : v2 < v3
      · replace H := gift q H
        obtain ⟨b3, H⟩ := ggi H
        have b3 := gin_in b3
        by_cases q : (((h 3 v1.toNatClampNeg) >>> (v4 &&& 31)) &&& (1 : Int32)) = (1 : Int32)
        · replace H := gift q H
          obtain ⟨b4, H⟩ := ggi H
          have b4 := gin_in b4
          obtain ⟨h5, e6, H⟩ := glei H
          replace hf := gfr_e (gfr_a hf (gme 0 rfl)) e6
          exact gfr_tr hf (ih _ _ _ _  H)
        · replace H := giff q H
          exact gfr_tr hf (ih _ _ _ _  H)
      · replace H := giff q H
        cases H
        exact hf
    · replace H := giff q H
      cases H
      exact hf
theorem fR_fillSlots_17_fr {v1 : Int32} {v3 : Int32}  : ∀ (n : Nat) (v2 : Int32) (v4 : Int32) (h : gH) (x : gH), fR_fillSlots_17 v1 v3 n v2 v4 h = some x → gfr [6] [] h x := by
  intro n
  induction n with
  | zero => intro v2 v4 h x  H; exact g0 H
  | succ n ih =>
    intro v2 v4 h x  H
    unfold fR_fillSlots_17 at H
    have hf := gfr_rf [6] [] h
    by_cases q : (0 : Int32) < v4
    · replace H := gift q H
      obtain ⟨b7, H⟩ := ggi H
      have b7 := gin_in b7
      obtain ⟨h8, e9, H⟩ := glei H
      replace hf := gfr_e (gfr_a hf (gme 0 rfl)) e9
      exact gfr_tr hf (ih _ _ _ _  H)
    · replace H := giff q H
      exact gfr_tr hf (fR_fillSlots_42_fr  gfu _ _ _ _  H)
theorem fR_fillSlots_fr {v1 : Int32} {h : gH} {x : gH} (H : fR_fillSlots v1 h = some x) : gfr [6] [] h x := by
  unfold fR_fillSlots at H
  have hf := gfr_rf [6] [] h
  obtain ⟨p1, e2, H⟩ := gbi H
  replace hf := gfr_tr hf (gfr_w (fR_howMany_fr  e2) gss_nil gss_nil)
  exact gfr_tr hf (fR_fillSlots_17_fr  gfu _ _ _ _  H)
theorem fR_lastValues_31_fr {v3 : Int32} {v4 : Int32}  : ∀ (n : Nat) (v5 : Int32) (v6 : Int32) (h : gH) (x : (Int32 × gH)), fR_lastValues_31 v3 v4 n v5 v6 h = some x → gfr [9, 16] [] h x.2 := by
  intro n
  induction n with
  | zero => intro v5 v6 h x  H; exact g0 H
  | succ n ih =>
    intro v5 v6 h x  H
    unfold fR_lastValues_31 at H
    have hf := gfr_rf [9, 16] [] h
    by_cases q : v6 < v4
    · replace H := gift q H
      obtain ⟨b2, H⟩ := ggi H
      have b2 := gin_in b2
      obtain ⟨h3, e4, H⟩ := glei H
      replace hf := gfr_e (gfr_a hf (gme 0 rfl)) e4
      obtain ⟨p5, e6, H⟩ := gbi H
      replace hf := gfr_tr hf (gfr_w (fT_holdsFor_fr  e6) (gss_cons (gme 1 rfl) gss_nil) gss_nil)
      by_cases q : p5.1 = (0 : Int32)
      · replace H := gift q H
        exact gfr_tr hf (ih _ _ _ _  H)
      · replace H := giff q H
        exact gfr_tr hf (ih _ _ _ _  H)
    · replace H := giff q H
      cases H
      exact hf
theorem fR_lastValues_23_fr {v3 : Int32} {s0 : Int32}  {h : gH} {x : (Int32 × gH)} (H : fR_lastValues_23 v3 s0 h = some x) : gfr [9, 16] [] h x.2 := by
  unfold fR_lastValues_23 at H
  have hf := gfr_rf [9, 16] [] h
  exact gfr_tr hf (fR_lastValues_31_fr  gfu _ _ _ _  H)
theorem fR_lastValues_fr {v1 : Int32} {h : gH} {x : (Int32 × gH)} (H : fR_lastValues v1 h = some x) : gfr [9, 16] [] h x.2 := by
  unfold fR_lastValues at H
  have hf := gfr_rf [9, 16] [] h
  obtain ⟨b1, H⟩ := ggi H
  have b1 := gin_in b1
  by_cases q : (h 6 ((v1 * (3 : Int32)) + (2 : Int32)).toNatClampNeg) = (8 : Int32)
  · replace H := gift q H
    exact gfr_tr hf (fR_lastValues_23_fr  H)
  · replace H := giff q H
    exact gfr_tr hf (fR_lastValues_23_fr  H)
theorem fR_fillWays_115_fr {k24 : Int32 → gH → Option gH} {v1 : Int32} {v3 : Int32} {v4 : Int32} {v5 : Int32} {s1 : Int32} {s2 : Int32} (hk24f : ∀ (u5 : Int32) (h : gH) (x : gH), k24 u5 h = some x → gfr [9, 16, 7] [] h x) {h : gH} {x : gH} (H : fR_fillWays_115 k24 v1 v3 v4 v5 s1 s2 h = some x) : gfr [9, 16, 7] [] h x := by
  unfold fR_fillWays_115 at H
  have hf := gfr_rf [9, 16, 7] [] h
  obtain ⟨b9, H⟩ := ggi H
  have b9 := gin_in b9
  obtain ⟨h10, e11, H⟩ := glei H
  replace hf := gfr_e (gfr_a hf (gme 2 rfl)) e11
  exact gfr_tr hf (hk24f _ _ _  H)
theorem fR_fillWays_87_fr {k24 : Int32 → gH → Option gH} {v1 : Int32} {v3 : Int32} {v4 : Int32} {v5 : Int32} {s0 : Int32} (hk24f : ∀ (u5 : Int32) (h : gH) (x : gH), k24 u5 h = some x → gfr [9, 16, 7] [] h x) {h : gH} {x : gH} (H : fR_fillWays_87 k24 v1 v3 v4 v5 s0 h = some x) : gfr [9, 16, 7] [] h x := by
  unfold fR_fillWays_87 at H
  have hf := gfr_rf [9, 16, 7] [] h
  by_cases q : s0 = (0 : Int32)
  · replace H := gift q H
    exact gfr_tr hf (fR_fillWays_115_fr hk24f  H)
  · replace H := giff q H
    obtain ⟨p12, e13, H⟩ := gbi H
    replace hf := gfr_tr hf (gfr_w (fR_lastValues_fr  e13) (gss_cons (gme 0 rfl) (gss_cons (gme 1 rfl) gss_nil)) gss_nil)
    exact gfr_tr hf (fR_fillWays_115_fr hk24f  H)
theorem fR_fillWays_82_fr {k24 : Int32 → gH → Option gH} {v1 : Int32} {v3 : Int32} {v4 : Int32} {v5 : Int32} (hk24f : ∀ (u5 : Int32) (h : gH) (x : gH), k24 u5 h = some x → gfr [9, 16, 7] [] h x) {h : gH} {x : gH} (H : fR_fillWays_82 k24 v1 v3 v4 v5  h = some x) : gfr [9, 16, 7] [] h x := by
  unfold fR_fillWays_82 at H
  have hf := gfr_rf [9, 16, 7] [] h
  exact gfr_tr hf (fR_fillWays_87_fr hk24f  H)
theorem fR_fillWays_86_fr {k24 : Int32 → gH → Option gH} {v1 : Int32} {v3 : Int32} {v4 : Int32} {v5 : Int32} (hk24f : ∀ (u5 : Int32) (h : gH) (x : gH), k24 u5 h = some x → gfr [9, 16, 7] [] h x) {h : gH} {x : gH} (H : fR_fillWays_86 k24 v1 v3 v4 v5  h = some x) : gfr [9, 16, 7] [] h x := by
  unfold fR_fillWays_86 at H
  have hf := gfr_rf [9, 16, 7] [] h
  exact gfr_tr hf (fR_fillWays_87_fr hk24f  H)
theorem fR_fillWays_67_fr {k24 : Int32 → gH → Option gH} {v1 : Int32} {v3 : Int32} {v4 : Int32} {v5 : Int32} (hk24f : ∀ (u5 : Int32) (h : gH) (x : gH), k24 u5 h = some x → gfr [9, 16, 7] [] h x) {h : gH} {x : gH} (H : fR_fillWays_67 k24 v1 v3 v4 v5  h = some x) : gfr [9, 16, 7] [] h x := by
  unfold fR_fillWays_67 at H
  have hf := gfr_rf [9, 16, 7] [] h
  by_cases q : v4 = (8 : Int32)
  · replace H := gift q H
    by_cases q : (v5 - v5 / (10 : Int32) * (10 : Int32)) = (0 : Int32)
    · replace H := gift q H
      exact gfr_tr hf (fR_fillWays_82_fr hk24f  H)
    · replace H := giff q H
      exact gfr_tr hf (fR_fillWays_86_fr hk24f  H)
  · replace H := giff q H
    exact gfr_tr hf (fR_fillWays_82_fr hk24f  H)
theorem fR_fillWays_24_fr {v1 : Int32} {v3 : Int32} {v4 : Int32}  : ∀ (n : Nat) (v5 : Int32) (h : gH) (x : gH), fR_fillWays_24 v1 v3 v4 n v5 h = some x → gfr [9, 16, 7] [] h x := by
  intro n
  induction n with
  | zero => intro v5 h x  H; exact g0 H
  | succ n ih =>
    intro v5 h x  H
    unfold fR_fillWays_24 at H
    have hf := gfr_rf [9, 16, 7] [] h
    by_cases q : v5 < (100 : Int32)
    · replace H := gift q H
      obtain ⟨b3, H⟩ := ggi H
      have b3 := gin_in b3
      obtain ⟨h4, e5, H⟩ := glei H
      replace hf := gfr_e (gfr_a hf (gme 0 rfl)) e5
      obtain ⟨b6, H⟩ := ggi H
      have b6 := gin_in b6
      obtain ⟨h7, e8, H⟩ := glei H
      replace hf := gfr_e (gfr_a hf (gme 0 rfl)) e8
      by_cases q : v3 = (8 : Int32)
      · replace H := gift q H
        by_cases q : v5 < (10 : Int32)
        · replace H := gift q H
          exact gfr_tr hf (fR_fillWays_67_fr ih  H)
        · replace H := giff q H
          exact gfr_tr hf (fR_fillWays_86_fr ih  H)
      · replace H := giff q H
        exact gfr_tr hf (fR_fillWays_67_fr ih  H)
    · replace H := giff q H
      cases H
      exact hf
theorem fR_fillWays_fr {v1 : Int32} {h : gH} {x : gH} (H : fR_fillWays v1 h = some x) : gfr [9, 16, 7] [] h x := by
  unfold fR_fillWays at H
  have hf := gfr_rf [9, 16, 7] [] h
  obtain ⟨b1, H⟩ := ggi H
  have b1 := gin_in b1
  obtain ⟨b2, H⟩ := ggi H
  have b2 := gin_in b2
  exact gfr_tr hf (fR_fillWays_24_fr  gfu _ _ _  H)
theorem fR_add_fr {h : gH} {x : (Int32 × gH)} (H : fR_add  h = some x) : gfr [2, 3, 4, 5, 6, 9, 16, 7] [(1, 8)] h x.2 := by
  unfold fR_add at H
  have hf := gfr_rf [2, 3, 4, 5, 6, 9, 16, 7] [(1, 8)] h
  obtain ⟨h1, e2, H⟩ := glei H
  replace hf := gfr_e (gfr_f hf (gme 0 rfl)) e2
  obtain ⟨b3, H⟩ := ggi H
  have b3 := gin_in b3
  obtain ⟨h4, e5, H⟩ := glei H
  replace hf := gfr_e (gfr_a hf (gme 0 rfl)) e5
  obtain ⟨p6, e7, H⟩ := gbi H
  replace hf := gfr_tr hf (gfr_w (fJ_bitCount_fr  e7) gss_nil gss_nil)
  obtain ⟨h8, e9, H⟩ := gbi H
  replace hf := gfr_tr hf (gfr_w (fR_enter_fr  e9) (gss_cons (gme 1 rfl) (gss_cons (gme 2 rfl) (gss_cons (gme 3 rfl) gss_nil))) gss_nil)
  obtain ⟨h10, e11, H⟩ := gbi H
  replace hf := gfr_tr hf (gfr_w (fR_fillSlots_fr  e11) (gss_cons (gme 4 rfl) gss_nil) gss_nil)
  obtain ⟨h12, e13, H⟩ := gbi H
  replace hf := gfr_tr hf (gfr_w (fR_fillWays_fr  e13) (gss_cons (gme 5 rfl) (gss_cons (gme 6 rfl) (gss_cons (gme 7 rfl) gss_nil))) gss_nil)
  cases H
  exact hf
theorem fR_learn_fr {v1 : Int32} {v2 : Int32} {h : gH} {x : (Int32 × gH)} (H : fR_learn v1 v2 h = some x) : gfr [3, 4, 5, 8] [] h x.2 := by
  unfold fR_learn at H
  have hf := gfr_rf [3, 4, 5, 8] [] h
  obtain ⟨h1, e2, H⟩ := gbi H
  replace hf := gfr_tr hf (gfr_w (fR_enter_fr  e2) (gss_cons (gme 0 rfl) (gss_cons (gme 1 rfl) (gss_cons (gme 2 rfl) gss_nil))) gss_nil)
  obtain ⟨b3, H⟩ := ggi H
  have b3 := gcpo_ok b3
  obtain ⟨h4, e5, H⟩ := glei H
  replace hf := gfr_e (gfr_c hf (gme 3 rfl)) e5
  cases H
  exact hf
