theorem fM_taken_58_fr {v1 : Int32}  {h : gH} {x : (Int32 × gH)} (H : fM_taken_58 v1  h = some x) : gfr [] [] h x.2 := by
  unfold fM_taken_58 at H
  have hf := gfr_rf [] [] h
  obtain ⟨b6, H⟩ := ggi H
  have b6 := gin_in b6
  obtain ⟨p7, e8, H⟩ := gbi H
  replace hf := gfr_tr hf (gfr_w (fM_bitsOf_fr  e8) gss_nil gss_nil)
  obtain rfl := Option.some.inj H
  exact hf
theorem fM_taken_fr {v1 : Int32} {v2 : Int32} {h : gH} {x : (Int32 × gH)} (H : fM_taken v1 v2 h = some x) : gfr [] [] h x.2 := by
  unfold fM_taken at H
  have hf := gfr_rf [] [] h
  obtain ⟨p1, e2, H⟩ := gbi H
  replace hf := gfr_tr hf (gfr_w (fM_in_fr  e2) gss_nil gss_nil)
  by_cases q : p1.1 = (0 : Int32)
  · replace H := gift q H
    obtain rfl := Option.some.inj H
    exact hf
  · replace H := giff q H
    obtain ⟨p3, e4, H⟩ := gbi H
    replace hf := gfr_tr hf (gfr_w (fM_in_fr  e4) gss_nil gss_nil)
    by_cases q : p3.1 = (0 : Int32)
    · replace H := gift q H
      obtain rfl := Option.some.inj H
      exact hf
    · replace H := giff q H
      obtain ⟨b5, H⟩ := ggi H
      have b5 := gin_in b5
      by_cases q : (p3.2 67 v1.toNatClampNeg) = v2
      · replace H := gift q H
        exact gfr_tr hf (fM_taken_58_fr  H)
      · replace H := giff q H
        obtain ⟨b9, H⟩ := ggi H
        have b9 := gin_in b9
        by_cases q : (p3.2 67 v1.toNatClampNeg) = (1 : Int32)
        · replace H := gift q H
          by_cases q : v2 = (0 : Int32)
          · replace H := gift q H
            exact gfr_tr hf (fM_taken_58_fr  H)
          · replace H := giff q H
            obtain rfl := Option.some.inj H
            exact hf
        · replace H := giff q H
          obtain rfl := Option.some.inj H
          exact hf
theorem fM_domainAt_fr {v1 : Int32} {v2 : Int32} {h : gH} {x : (Int32 × gH)} (H : fM_domainAt v1 v2 h = some x) : gfr [] [] h x.2 := by
  unfold fM_domainAt at H
  have hf := gfr_rf [] [] h
  obtain ⟨b1, H⟩ := ggi H
  have b1 := gin_in b1
  obtain ⟨p2, e3, H⟩ := gbi H
  replace hf := gfr_tr hf (gfr_w (fM_variable_fr  e3) gss_nil gss_nil)
  by_cases q : p2.1 = (-1 : Int32)
  · replace H := gift q H
    obtain rfl := Option.some.inj H
    exact hf
  · replace H := giff q H
    obtain ⟨b4, H⟩ := ggi H
    have b4 := gin_in b4
    obtain rfl := Option.some.inj H
    exact hf
theorem fM_goesThrough_80_fr {k60 : Int32 → gH → Option gH} {v1 : Int32} {v2 : Int32} {v3 : Int32} {v4 : Int32} {v5 : Int32} {v6 : Int32} (hk60f : ∀ (u6 : Int32) (h : gH) (x : gH), k60 u6 h = some x → gfr [81] [(65, 34)] h x) : ∀ (n : Nat) (v7 : Int32) (h : gH) (x : gH), fM_goesThrough_80 k60 v1 v2 v3 v4 v5 v6 n v7 h = some x → gfr [81] [(65, 34)] h x := by
  intro n
  induction n with
  | zero => intro v7 h x  H; exact g0 H
  | succ n ih =>
    intro v7 h x  H
    unfold fM_goesThrough_80 at H
    have hf := gfr_rf [81] [(65, 34)] h
    by_cases q : v7 < (10 : Int32)
    · replace H := gift q H
      by_cases q : ((v3 >>> (v6 &&& 31)) &&& (1 : Int32)) = (1 : Int32)
      · replace H := gift q H
        by_cases q : ((v4 >>> (v7 &&& 31)) &&& (1 : Int32)) = (1 : Int32)
        · replace H := gift q H
          obtain ⟨b9, H⟩ := ggi H
          have b9 := gin_in b9
          by_cases q : (h 69 (((((1000 : Int32) * v1) + ((100 : Int32) * v5)) + ((10 : Int32) * v6)) + v7).toNatClampNeg) = (0 : Int32)
          · replace H := gift q H
            exact gfr_tr hf (ih _ _ _  H)
          · replace H := giff q H
            obtain ⟨h10, e11, H⟩ := glei H
            replace hf := gfr_e (gfr_f hf (gme 0 rfl)) e11
            obtain ⟨h12, e13, H⟩ := glei H
            replace hf := gfr_e (gfr_a hf (gme 0 rfl)) e13
            obtain ⟨h14, e15, H⟩ := glei H
            replace hf := gfr_e (gfr_a hf (gme 0 rfl)) e15
            obtain ⟨h16, e17, H⟩ := glei H
            replace hf := gfr_e (gfr_a hf (gme 0 rfl)) e17
            exact gfr_tr hf (ih _ _ _  H)
        · replace H := giff q H
          exact gfr_tr hf (ih _ _ _  H)
      · replace H := giff q H
        exact gfr_tr hf (hk60f _ _ _  H)
    · replace H := giff q H
      exact gfr_tr hf (hk60f _ _ _  H)
theorem fM_goesThrough_60_fr {k50 : Int32 → gH → Option gH} {v1 : Int32} {v2 : Int32} {v3 : Int32} {v4 : Int32} {v5 : Int32} (hk50f : ∀ (u5 : Int32) (h : gH) (x : gH), k50 u5 h = some x → gfr [81] [(65, 34)] h x) : ∀ (n : Nat) (v6 : Int32) (h : gH) (x : gH), fM_goesThrough_60 k50 v1 v2 v3 v4 v5 n v6 h = some x → gfr [81] [(65, 34)] h x := by
  intro n
  induction n with
  | zero => intro v6 h x  H; exact g0 H
  | succ n ih =>
    intro v6 h x  H
    unfold fM_goesThrough_60 at H
    have hf := gfr_rf [81] [(65, 34)] h
    by_cases q : v6 < (10 : Int32)
    · replace H := gift q H
      by_cases q : ((v2 >>> (v5 &&& 31)) &&& (1 : Int32)) = (1 : Int32)
      · replace H := gift q H
        exact gfr_tr hf (fM_goesThrough_80_fr ih  gfu _ _ _  H)
      · replace H := giff q H
        exact gfr_tr hf (hk50f _ _ _  H)
    · replace H := giff q H
      exact gfr_tr hf (hk50f _ _ _  H)
theorem fM_goesThrough_50_fr {v1 : Int32} {v2 : Int32} {v3 : Int32} {v4 : Int32}  : ∀ (n : Nat) (v5 : Int32) (h : gH) (x : gH), fM_goesThrough_50 v1 v2 v3 v4 n v5 h = some x → gfr [81] [(65, 34)] h x := by
  intro n
  induction n with
  | zero => intro v5 h x  H; exact g0 H
  | succ n ih =>
    intro v5 h x  H
    unfold fM_goesThrough_50 at H
    have hf := gfr_rf [81] [(65, 34)] h
    by_cases q : v5 < (10 : Int32)
    · replace H := gift q H
      exact gfr_tr hf (fM_goesThrough_60_fr ih  gfu _ _ _  H)
    · replace H := giff q H
      obtain rfl := Option.some.inj H
      exact hf
theorem fM_goesThrough_7_fr {v1 : Int32}  : ∀ (n : Nat) (v2 : Int32) (h : gH) (x : gH), fM_goesThrough_7 v1 n v2 h = some x → gfr [81] [(65, 34)] h x := by
  intro n
  induction n with
  | zero => intro v2 h x  H; exact g0 H
  | succ n ih =>
    intro v2 h x  H
    unfold fM_goesThrough_7 at H
    have hf := gfr_rf [81] [(65, 34)] h
    by_cases q : v2 < (3 : Int32)
    · replace H := gift q H
      obtain ⟨b18, H⟩ := ggi H
      have b18 := gin_in b18
      obtain ⟨h19, e20, H⟩ := glei H
      replace hf := gfr_e (gfr_a hf (gme 0 rfl)) e20
      exact gfr_tr hf (ih _ _ _  H)
    · replace H := giff q H
      obtain ⟨p3, e4, H⟩ := gbi H
      replace hf := gfr_tr hf (gfr_w (fM_domainAt_fr  e4) gss_nil gss_nil)
      obtain ⟨p5, e6, H⟩ := gbi H
      replace hf := gfr_tr hf (gfr_w (fM_domainAt_fr  e6) gss_nil gss_nil)
      obtain ⟨p7, e8, H⟩ := gbi H
      replace hf := gfr_tr hf (gfr_w (fM_domainAt_fr  e8) gss_nil gss_nil)
      exact gfr_tr hf (fM_goesThrough_50_fr  gfu _ _ _  H)
theorem fM_goesThrough_fr {v1 : Int32} {h : gH} {x : gH} (H : fM_goesThrough v1 h = some x) : gfr [81] [(65, 34)] h x := by
  unfold fM_goesThrough at H
  have hf := gfr_rf [81] [(65, 34)] h
  obtain ⟨h1, e2, H⟩ := glei H
  replace hf := gfr_e (gfr_f hf (gme 0 rfl)) e2
  exact gfr_tr hf (fM_goesThrough_7_fr  gfu _ _ _  H)
theorem fM_goes_85_fr  : ∀ (n : Nat) (v4 : Int32) (h : gH) (x : gH), fM_goes_85  n v4 h = some x → gfr [66, 74, 75, 71] [(65, 35), (65, 15), (65, 2)] h x := by
  intro n
  induction n with
  | zero => intro v4 h x  H; exact g0 H
  | succ n ih =>
    intro v4 h x  H
    unfold fM_goes_85 at H
    have hf := gfr_rf [66, 74, 75, 71] [(65, 35), (65, 15), (65, 2)] h
    by_cases q : v4 < (24 : Int32)
    · replace H := gift q H
      obtain ⟨b10, H⟩ := ggi H
      have b10 := gin_in b10
      obtain ⟨h11, e12, H⟩ := glei H
      replace hf := gfr_e (gfr_a hf (gme 3 rfl)) e12
      exact gfr_tr hf (ih _ _ _  H)
    · replace H := giff q H
      obtain rfl := Option.some.inj H
      exact hf
theorem fM_goes_68_fr {v1 : Int32}  {h : gH} {x : gH} (H : fM_goes_68 v1  h = some x) : gfr [66, 74, 75, 71] [(65, 35), (65, 15), (65, 2)] h x := by
  unfold fM_goes_68 at H
  have hf := gfr_rf [66, 74, 75, 71] [(65, 35), (65, 15), (65, 2)] h
  obtain ⟨b7, H⟩ := ggi H
  have b7 := gin_in b7
  by_cases q : (h 66 v1.toNatClampNeg) = (0 : Int32)
  · replace H := gift q H
    obtain ⟨h8, e9, H⟩ := glei H
    replace hf := gfr_e (gfr_f hf (gme 2 rfl)) e9
    exact gfr_tr hf (fM_goes_85_fr  gfu _ _ _  H)
  · replace H := giff q H
    obtain rfl := Option.some.inj H
    exact hf
theorem fM_goes_fr {v1 : Int32} {v2 : Int32} {v3 : Int32} {h : gH} {x : gH} (H : fM_goes v1 v2 v3 h = some x) : gfr [66, 74, 75, 71] [(65, 35), (65, 15), (65, 2)] h x := by
  unfold fM_goes at H
  have hf := gfr_rf [66, 74, 75, 71] [(65, 35), (65, 15), (65, 2)] h
  obtain ⟨b1, H⟩ := ggi H
  have b1 := gin_in b1
  obtain ⟨b2, H⟩ := ggi H
  have b2 := gin_in b2
  obtain ⟨h3, e4, H⟩ := glei H
  replace hf := gfr_e (gfr_a hf (gme 0 rfl)) e4
  obtain ⟨h5, e6, H⟩ := glei H
  replace hf := gfr_e (gfr_f hf (gme 0 rfl)) e6
  by_cases q : (h5 65 36) = (0 : Int32)
  · replace H := gift q H
    obtain ⟨b13, H⟩ := ggi H
    have b13 := gin_in b13
    obtain ⟨h14, e15, H⟩ := glei H
    replace hf := gfr_e (gfr_a hf (gme 1 rfl)) e15
    obtain ⟨b16, H⟩ := ggi H
    have b16 := gin_in b16
    obtain ⟨h17, e18, H⟩ := glei H
    replace hf := gfr_e (gfr_a hf (gme 2 rfl)) e18
    exact gfr_tr (gfr_f hf (gme 1 rfl)) (fM_goes_68_fr  H)
  · replace H := giff q H
    exact gfr_tr hf (fM_goes_68_fr  H)
theorem fM_keeps_15_fr {v1 : Int32} {v3 : Int32} {v4 : Int32}  : ∀ (n : Nat) (v5 : Int32) (h : gH) (x : gH), fM_keeps_15 v1 v3 v4 n v5 h = some x → gfr [66, 74, 75, 71] [(65, 35), (65, 15), (65, 2)] h x := by
  intro n
  induction n with
  | zero => intro v5 h x  H; exact g0 H
  | succ n ih =>
    intro v5 h x  H
    unfold fM_keeps_15 at H
    have hf := gfr_rf [66, 74, 75, 71] [(65, 35), (65, 15), (65, 2)] h
    by_cases q : v5 < (10 : Int32)
    · replace H := gift q H
      by_cases q : (h 65 2) = (0 : Int32)
      · replace H := gift q H
        by_cases q : ((v4 >>> (v5 &&& 31)) &&& (1 : Int32)) = (1 : Int32)
        · replace H := gift q H
          obtain ⟨h2, e3, H⟩ := gbi H
          replace hf := gfr_tr hf (gfr_w (fM_goes_fr  e3) (gss_cons (gme 0 rfl) (gss_cons (gme 1 rfl) (gss_cons (gme 2 rfl) (gss_cons (gme 3 rfl) gss_nil)))) (gss_cons (gme 0 rfl) (gss_cons (gme 1 rfl) (gss_cons (gme 2 rfl) gss_nil))))
          exact gfr_tr hf (ih _ _ _  H)
        · replace H := giff q H
          exact gfr_tr hf (ih _ _ _  H)
      · replace H := giff q H
        obtain rfl := Option.some.inj H
        exact hf
    · replace H := giff q H
      obtain rfl := Option.some.inj H
      exact hf
theorem fM_keeps_fr {v1 : Int32} {v2 : Int32} {v3 : Int32} {h : gH} {x : gH} (H : fM_keeps v1 v2 v3 h = some x) : gfr [66, 74, 75, 71] [(65, 35), (65, 15), (65, 2)] h x := by
  unfold fM_keeps at H
  have hf := gfr_rf [66, 74, 75, 71] [(65, 35), (65, 15), (65, 2)] h
  obtain ⟨b1, H⟩ := ggi H
  have b1 := gin_in b1
  exact gfr_tr hf (fM_keeps_15_fr  gfu _ _ _  H)
theorem fM_isAlone_2_fr {v1 : Int32} {v2 : Int32}  : ∀ (n : Nat) (v3 : Int32) (h : gH) (x : (Int32 × gH)), fM_isAlone_2 v1 v2 n v3 h = some x → gfr [] [] h x.2 := by
  intro n
  induction n with
  | zero => intro v3 h x  H; exact g0 H
  | succ n ih =>
    intro v3 h x  H
    unfold fM_isAlone_2 at H
    have hf := gfr_rf [] [] h
    by_cases q : v3 < (8 : Int32)
    · replace H := gift q H
      by_cases q : v3 = v2
      · replace H := gift q H
        exact gfr_tr hf (ih _ _ _  H)
      · replace H := giff q H
        obtain ⟨b1, H⟩ := ggi H
        have b1 := gin_in b1
        by_cases q : (((h 68 v1.toNatClampNeg) >>> (v3 &&& 31)) &&& (1 : Int32)) = (1 : Int32)
        · replace H := gift q H
          obtain ⟨b2, H⟩ := ggi H
          have b2 := gin_in b2
          obtain ⟨p3, e4, H⟩ := gbi H
          replace hf := gfr_tr hf (gfr_w (fM_pairOf_fr  e4) gss_nil gss_nil)
          by_cases q : (h 66 v3.toNatClampNeg) = ((1 : Int32) <<< (p3.1 &&& 31))
          · replace H := gift q H
            exact gfr_tr hf (ih _ _ _  H)
          · replace H := giff q H
            obtain rfl := Option.some.inj H
            exact hf
        · replace H := giff q H
          exact gfr_tr hf (ih _ _ _  H)
    · replace H := giff q H
      obtain rfl := Option.some.inj H
      exact hf
theorem fM_isAlone_fr {v1 : Int32} {v2 : Int32} {h : gH} {x : (Int32 × gH)} (H : fM_isAlone v1 v2 h = some x) : gfr [] [] h x.2 := by
  unfold fM_isAlone at H
  have hf := gfr_rf [] [] h
  exact gfr_tr hf (fM_isAlone_2_fr  gfu _ _ _  H)
theorem fM_queues_2_fr {v1 : Int32} {v2 : Int32}  : ∀ (n : Nat) (v3 : Int32) (h : gH) (x : gH), fM_queues_2 v1 v2 n v3 h = some x → gfr [71] [] h x := by
  intro n
  induction n with
  | zero => intro v3 h x  H; exact g0 H
  | succ n ih =>
    intro v3 h x  H
    unfold fM_queues_2 at H
    have hf := gfr_rf [71] [] h
    obtain ⟨p1, e2, H⟩ := gbi H
    replace hf := gfr_tr hf (gfr_w (fM_allRules_fr  e2) gss_nil gss_nil)
    by_cases q : v3 < p1.1
    · replace H := gift q H
      by_cases q : (p1.2 65 2) = (0 : Int32)
      · replace H := gift q H
        obtain ⟨p3, e4, H⟩ := gbi H
        replace hf := gfr_tr hf (gfr_w (fM_ruleAt_fr  e4) gss_nil gss_nil)
        by_cases q : p3.1 = v2
        · replace H := gift q H
          exact gfr_tr hf (ih _ _ _  H)
        · replace H := giff q H
          obtain ⟨b5, H⟩ := ggi H
          have b5 := gin_in b5
          by_cases q : ((p3.2 68 p3.1.toNatClampNeg) &&& v1) = (0 : Int32)
          · replace H := gift q H
            exact gfr_tr hf (ih _ _ _  H)
          · replace H := giff q H
            obtain ⟨b6, H⟩ := ggi H
            have b6 := gin_in b6
            obtain ⟨h7, e8, H⟩ := glei H
            replace hf := gfr_e (gfr_a hf (gme 0 rfl)) e8
            exact gfr_tr hf (ih _ _ _  H)
      · replace H := giff q H
        obtain rfl := Option.some.inj H
        exact hf
    · replace H := giff q H
      obtain rfl := Option.some.inj H
      exact hf
theorem fM_queues_fr {v1 : Int32} {v2 : Int32} {h : gH} {x : gH} (H : fM_queues v1 v2 h = some x) : gfr [71] [] h x := by
  unfold fM_queues at H
  have hf := gfr_rf [71] [] h
  exact gfr_tr hf (fM_queues_2_fr  gfu _ _ _  H)
theorem fM_prunes_231_fr {v1 : Int32}  {h : gH} {x : gH} (H : fM_prunes_231 v1  h = some x) : gfr [66, 74, 75, 71, 81] [(65, 35), (65, 15), (65, 2), (65, 34)] h x := by
  unfold fM_prunes_231 at H
  have hf := gfr_rf [66, 74, 75, 71, 81] [(65, 35), (65, 15), (65, 2), (65, 34)] h
  obtain ⟨h9, e10, H⟩ := gbi H
  replace hf := gfr_tr hf (gfr_w (fM_queues_fr  e10) (gss_cons (gme 3 rfl) gss_nil) gss_nil)
  obtain rfl := Option.some.inj H
  exact hf
theorem fM_prunes_201_fr {v1 : Int32} {v4 : Int32} {v5 : Int32}  {h : gH} {x : gH} (H : fM_prunes_201 v1 v4 v5  h = some x) : gfr [66, 74, 75, 71, 81] [(65, 35), (65, 15), (65, 2), (65, 34)] h x := by
  unfold fM_prunes_201 at H
  have hf := gfr_rf [66, 74, 75, 71, 81] [(65, 35), (65, 15), (65, 2), (65, 34)] h
  by_cases q : (2 : Int32) < v5
  · replace H := gift q H
    by_cases q : (h 65 2) = (0 : Int32)
    · replace H := gift q H
      obtain ⟨b11, H⟩ := ggi H
      have b11 := gin_in b11
      obtain ⟨p12, e13, H⟩ := gbi H
      replace hf := gfr_tr hf (gfr_w (fM_variable_fr  e13) gss_nil gss_nil)
      obtain ⟨h14, e15, H⟩ := gbi H
      replace hf := gfr_tr hf (gfr_w (fM_keeps_fr  e15) (gss_cons (gme 0 rfl) (gss_cons (gme 1 rfl) (gss_cons (gme 2 rfl) (gss_cons (gme 3 rfl) gss_nil)))) (gss_cons (gme 0 rfl) (gss_cons (gme 1 rfl) (gss_cons (gme 2 rfl) gss_nil))))
      exact gfr_tr hf (fM_prunes_231_fr  H)
    · replace H := giff q H
      exact gfr_tr hf (fM_prunes_231_fr  H)
  · replace H := giff q H
    exact gfr_tr hf (fM_prunes_231_fr  H)
theorem fM_prunes_172_fr {v1 : Int32} {v3 : Int32} {v4 : Int32} {v5 : Int32}  {h : gH} {x : gH} (H : fM_prunes_172 v1 v3 v4 v5  h = some x) : gfr [66, 74, 75, 71, 81] [(65, 35), (65, 15), (65, 2), (65, 34)] h x := by
  unfold fM_prunes_172 at H
  have hf := gfr_rf [66, 74, 75, 71, 81] [(65, 35), (65, 15), (65, 2), (65, 34)] h
  by_cases q : (1 : Int32) < v5
  · replace H := gift q H
    by_cases q : (h 65 2) = (0 : Int32)
    · replace H := gift q H
      obtain ⟨b16, H⟩ := ggi H
      have b16 := gin_in b16
      obtain ⟨p17, e18, H⟩ := gbi H
      replace hf := gfr_tr hf (gfr_w (fM_variable_fr  e18) gss_nil gss_nil)
      obtain ⟨h19, e20, H⟩ := gbi H
      replace hf := gfr_tr hf (gfr_w (fM_keeps_fr  e20) (gss_cons (gme 0 rfl) (gss_cons (gme 1 rfl) (gss_cons (gme 2 rfl) (gss_cons (gme 3 rfl) gss_nil)))) (gss_cons (gme 0 rfl) (gss_cons (gme 1 rfl) (gss_cons (gme 2 rfl) gss_nil))))
      exact gfr_tr hf (fM_prunes_201_fr  H)
    · replace H := giff q H
      exact gfr_tr hf (fM_prunes_201_fr  H)
  · replace H := giff q H
    exact gfr_tr hf (fM_prunes_201_fr  H)
theorem fM_prunes_66_fr {v1 : Int32} {v2 : Int32}  : ∀ (n : Nat) (v3 : Int32) (h : gH) (x : gH), fM_prunes_66 v1 v2 n v3 h = some x → gfr [66, 74, 75, 71, 81] [(65, 35), (65, 15), (65, 2), (65, 34)] h x := by
  intro n
  induction n with
  | zero => intro v3 h x  H; exact g0 H
  | succ n ih =>
    intro v3 h x  H
    unfold fM_prunes_66 at H
    have hf := gfr_rf [66, 74, 75, 71, 81] [(65, 35), (65, 15), (65, 2), (65, 34)] h
    by_cases q : v3 < (8 : Int32)
    · replace H := gift q H
      by_cases q : (h 65 2) = (0 : Int32)
      · replace H := gift q H
        by_cases q : ((v2 >>> (v3 &&& 31)) &&& (1 : Int32)) = (1 : Int32)
        · replace H := gift q H
          obtain ⟨p26, e27, H⟩ := gbi H
          replace hf := gfr_tr hf (gfr_w (fM_pairOf_fr  e27) gss_nil gss_nil)
          obtain ⟨h28, e29, H⟩ := gbi H
          replace hf := gfr_tr hf (gfr_w (fM_keeps_fr  e29) (gss_cons (gme 0 rfl) (gss_cons (gme 1 rfl) (gss_cons (gme 2 rfl) (gss_cons (gme 3 rfl) gss_nil)))) (gss_cons (gme 0 rfl) (gss_cons (gme 1 rfl) (gss_cons (gme 2 rfl) gss_nil))))
          exact gfr_tr hf (ih _ _ _  H)
        · replace H := giff q H
          exact gfr_tr hf (ih _ _ _  H)
      · replace H := giff q H
        exact gfr_tr hf (fM_prunes_231_fr  H)
    · replace H := giff q H
      exact gfr_tr hf (fM_prunes_231_fr  H)
theorem fM_prunes_54_fr {k19 : Int32 → Int32 → gH → Option gH} {v1 : Int32} {v3 : Int32} {s0 : Int32} {s1 : Int32} (hk19f : ∀ (u2 : Int32) (u3 : Int32) (h : gH) (x : gH), k19 u2 u3 h = some x → gfr [66, 74, 75, 71, 81] [(65, 35), (65, 15), (65, 2), (65, 34)] h x) {h : gH} {x : gH} (H : fM_prunes_54 k19 v1 v3 s0 s1 h = some x) : gfr [66, 74, 75, 71, 81] [(65, 35), (65, 15), (65, 2), (65, 34)] h x := by
  unfold fM_prunes_54 at H
  have hf := gfr_rf [66, 74, 75, 71, 81] [(65, 35), (65, 15), (65, 2), (65, 34)] h
  exact gfr_tr hf (hk19f _ _ _ _  H)
theorem fM_prunes_53_fr {k19 : Int32 → Int32 → gH → Option gH} {v1 : Int32} {v3 : Int32} {s0 : Int32} (hk19f : ∀ (u2 : Int32) (u3 : Int32) (h : gH) (x : gH), k19 u2 u3 h = some x → gfr [66, 74, 75, 71, 81] [(65, 35), (65, 15), (65, 2), (65, 34)] h x) {h : gH} {x : gH} (H : fM_prunes_53 k19 v1 v3 s0 h = some x) : gfr [66, 74, 75, 71, 81] [(65, 35), (65, 15), (65, 2), (65, 34)] h x := by
  unfold fM_prunes_53 at H
  have hf := gfr_rf [66, 74, 75, 71, 81] [(65, 35), (65, 15), (65, 2), (65, 34)] h
  exact gfr_tr hf (fM_prunes_54_fr hk19f  H)
theorem fM_prunes_19_fr {v1 : Int32}  : ∀ (n : Nat) (v2 : Int32) (v3 : Int32) (h : gH) (x : gH), fM_prunes_19 v1 n v2 v3 h = some x → gfr [66, 74, 75, 71, 81] [(65, 35), (65, 15), (65, 2), (65, 34)] h x := by
  intro n
  induction n with
  | zero => intro v2 v3 h x  H; exact g0 H
  | succ n ih =>
    intro v2 v3 h x  H
    unfold fM_prunes_19 at H
    have hf := gfr_rf [66, 74, 75, 71, 81] [(65, 35), (65, 15), (65, 2), (65, 34)] h
    by_cases q : v3 < (8 : Int32)
    · replace H := gift q H
      obtain ⟨b30, H⟩ := ggi H
      have b30 := gin_in b30
      by_cases q : (((h 68 v1.toNatClampNeg) >>> (v3 &&& 31)) &&& (1 : Int32)) = (1 : Int32)
      · replace H := gift q H
        obtain ⟨p31, e32, H⟩ := gbi H
        replace hf := gfr_tr hf (gfr_w (fM_isAlone_fr  e32) gss_nil gss_nil)
        by_cases q : p31.1 = (0 : Int32)
        · replace H := gift q H
          exact gfr_tr hf (fM_prunes_53_fr ih  H)
        · replace H := giff q H
          exact gfr_tr hf (fM_prunes_54_fr ih  H)
      · replace H := giff q H
        exact gfr_tr hf (fM_prunes_53_fr ih  H)
    · replace H := giff q H
      exact gfr_tr hf (fM_prunes_66_fr  gfu _ _ _  H)
theorem fM_prunes_fr {v1 : Int32} {h : gH} {x : gH} (H : fM_prunes v1 h = some x) : gfr [66, 74, 75, 71, 81] [(65, 35), (65, 15), (65, 2), (65, 34)] h x := by
  unfold fM_prunes at H
  have hf := gfr_rf [66, 74, 75, 71, 81] [(65, 35), (65, 15), (65, 2), (65, 34)] h
  obtain ⟨h1, e2, H⟩ := glei H
  replace hf := gfr_e (gfr_f hf (gme 0 rfl)) e2
  obtain ⟨b3, H⟩ := ggi H
  have b3 := gin_in b3
  by_cases q : (h1 67 v1.toNatClampNeg) = (3 : Int32)
  · replace H := gift q H
    exact gfr_tr hf (fM_prunes_19_fr  gfu _ _ _ _  H)
  · replace H := giff q H
    obtain ⟨h4, e5, H⟩ := gbi H
    replace hf := gfr_tr hf (gfr_w (fM_goesThrough_fr  e5) (gss_cons (gme 4 rfl) gss_nil) (gss_cons (gme 3 rfl) gss_nil))
    obtain ⟨b6, H⟩ := ggi H
    have b6 := gin_in b6
    obtain ⟨p7, e8, H⟩ := gbi H
    replace hf := gfr_tr hf (gfr_w (fM_bitsOf_fr  e8) gss_nil gss_nil)
    by_cases q : (0 : Int32) < p7.1
    · replace H := gift q H
      obtain ⟨b21, H⟩ := ggi H
      have b21 := gin_in b21
      obtain ⟨p22, e23, H⟩ := gbi H
      replace hf := gfr_tr hf (gfr_w (fM_variable_fr  e23) gss_nil gss_nil)
      obtain ⟨h24, e25, H⟩ := gbi H
      replace hf := gfr_tr hf (gfr_w (fM_keeps_fr  e25) (gss_cons (gme 0 rfl) (gss_cons (gme 1 rfl) (gss_cons (gme 2 rfl) (gss_cons (gme 3 rfl) gss_nil)))) (gss_cons (gme 0 rfl) (gss_cons (gme 1 rfl) (gss_cons (gme 2 rfl) gss_nil))))
      exact gfr_tr hf (fM_prunes_172_fr  H)
    · replace H := giff q H
      exact gfr_tr hf (fM_prunes_172_fr  H)
theorem fM_nextRule_45_fr {k4 : Int32 → Int32 → gH → Option (Int32 × gH)} {v2 : Int32} {v3 : Int32} (hk4f : ∀ (u1 : Int32) (u2 : Int32) (h : gH) (x : (Int32 × gH)), k4 u1 u2 h = some x → gfr [] [] h x.2) {h : gH} {x : (Int32 × gH)} (H : fM_nextRule_45 k4 v2 v3  h = some x) : gfr [] [] h x.2 := by
  unfold fM_nextRule_45 at H
  have hf := gfr_rf [] [] h
  exact gfr_tr hf (hk4f _ _ _ _  H)
theorem fM_nextRule_4_fr  : ∀ (n : Nat) (v1 : Int32) (v2 : Int32) (h : gH) (x : (Int32 × gH)), fM_nextRule_4  n v1 v2 h = some x → gfr [] [] h x.2 := by
  intro n
  induction n with
  | zero => intro v1 v2 h x  H; exact g0 H
  | succ n ih =>
    intro v1 v2 h x  H
    unfold fM_nextRule_4 at H
    have hf := gfr_rf [] [] h
    obtain ⟨p1, e2, H⟩ := gbi H
    replace hf := gfr_tr hf (gfr_w (fM_allRules_fr  e2) gss_nil gss_nil)
    by_cases q : v2 < p1.1
    · replace H := gift q H
      obtain ⟨p3, e4, H⟩ := gbi H
      replace hf := gfr_tr hf (gfr_w (fM_ruleAt_fr  e4) gss_nil gss_nil)
      obtain ⟨b5, H⟩ := ggi H
      have b5 := gin_in b5
      by_cases q : (p3.2 71 p3.1.toNatClampNeg) = (0 : Int32)
      · replace H := gift q H
        exact gfr_tr hf (ih _ _ _ _  H)
      · replace H := giff q H
        by_cases q : v1 = (-1 : Int32)
        · replace H := gift q H
          exact gfr_tr hf (fM_nextRule_45_fr ih  H)
        · replace H := giff q H
          obtain ⟨p6, e7, H⟩ := gbi H
          replace hf := gfr_tr hf (gfr_w (fM_priority_fr  e7) gss_nil gss_nil)
          obtain ⟨p8, e9, H⟩ := gbi H
          replace hf := gfr_tr hf (gfr_w (fM_priority_fr  e9) gss_nil gss_nil)
          by_cases q : p6.1 < p8.1
          · replace H := gift q H
            exact gfr_tr hf (fM_nextRule_45_fr ih  H)
          · replace H := giff q H
            exact gfr_tr hf (ih _ _ _ _  H)
    · replace H := giff q H
      obtain rfl := Option.some.inj H
      exact hf
theorem fM_nextRule_fr {h : gH} {x : (Int32 × gH)} (H : fM_nextRule  h = some x) : gfr [] [] h x.2 := by
  unfold fM_nextRule at H
  have hf := gfr_rf [] [] h
  exact gfr_tr hf (fM_nextRule_4_fr  gfu _ _ _ _  H)
theorem fM_step_fr {h : gH} {x : (Int32 × gH)} (H : fM_step  h = some x) : gfr [71, 66, 74, 75, 81] [(65, 20), (65, 35), (65, 15), (65, 2), (65, 34)] h x.2 := by
  unfold fM_step at H
  have hf := gfr_rf [71, 66, 74, 75, 81] [(65, 20), (65, 35), (65, 15), (65, 2), (65, 34)] h
  obtain ⟨p1, e2, H⟩ := gbi H
  replace hf := gfr_tr hf (gfr_w (fM_nextRule_fr  e2) gss_nil gss_nil)
  by_cases q : p1.1 = (-1 : Int32)
  · replace H := gift q H
    obtain rfl := Option.some.inj H
    exact hf
  · replace H := giff q H
    obtain ⟨b3, H⟩ := ggi H
    have b3 := gin_in b3
    obtain ⟨h4, e5, H⟩ := glei H
    replace hf := gfr_e (gfr_a hf (gme 0 rfl)) e5
    obtain ⟨h6, e7, H⟩ := glei H
    replace hf := gfr_e (gfr_f hf (gme 0 rfl)) e7
    obtain ⟨h8, e9, H⟩ := gbi H
    replace hf := gfr_tr hf (gfr_w (fM_prunes_fr  e9) (gss_cons (gme 1 rfl) (gss_cons (gme 2 rfl) (gss_cons (gme 3 rfl) (gss_cons (gme 0 rfl) (gss_cons (gme 4 rfl) gss_nil))))) (gss_cons (gme 1 rfl) (gss_cons (gme 2 rfl) (gss_cons (gme 3 rfl) (gss_cons (gme 4 rfl) gss_nil)))))
    obtain rfl := Option.some.inj H
    exact hf
theorem fM_run_2_fr  : ∀ (n : Nat) (v1 : Int32) (h : gH) (x : (Int32 × gH)), fM_run_2  n v1 h = some x → gfr [71, 66, 74, 75, 81] [(65, 20), (65, 35), (65, 15), (65, 2), (65, 34)] h x.2 := by
  intro n
  induction n with
  | zero => intro v1 h x  H; exact g0 H
  | succ n ih =>
    intro v1 h x  H
    unfold fM_run_2 at H
    have hf := gfr_rf [71, 66, 74, 75, 81] [(65, 20), (65, 35), (65, 15), (65, 2), (65, 34)] h
    obtain ⟨p1, e2, H⟩ := gbi H
    replace hf := gfr_tr hf (gfr_w (fM_step_fr  e2) (gss_cons (gme 0 rfl) (gss_cons (gme 1 rfl) (gss_cons (gme 2 rfl) (gss_cons (gme 3 rfl) (gss_cons (gme 4 rfl) gss_nil))))) (gss_cons (gme 0 rfl) (gss_cons (gme 1 rfl) (gss_cons (gme 2 rfl) (gss_cons (gme 3 rfl) (gss_cons (gme 4 rfl) gss_nil))))))
    by_cases q : p1.1 = (-1 : Int32)
    · replace H := gift q H
      obtain rfl := Option.some.inj H
      exact hf
    · replace H := giff q H
      exact gfr_tr hf (ih _ _ _  H)
theorem fM_run_fr {h : gH} {x : (Int32 × gH)} (H : fM_run  h = some x) : gfr [71, 66, 74, 75, 81] [(65, 20), (65, 35), (65, 15), (65, 2), (65, 34)] h x.2 := by
  unfold fM_run at H
  have hf := gfr_rf [71, 66, 74, 75, 81] [(65, 20), (65, 35), (65, 15), (65, 2), (65, 34)] h
  exact gfr_tr hf (fM_run_2_fr  gfu _ _ _  H)
theorem fM_decides_fr {v1 : Int32} {v2 : Int32} {v3 : Int32} {h : gH} {x : gH} (H : fM_decides v1 v2 v3 h = some x) : gfr [66, 74, 75, 71] [(65, 35), (65, 15), (65, 2)] h x := by
  unfold fM_decides at H
  have hf := gfr_rf [66, 74, 75, 71] [(65, 35), (65, 15), (65, 2)] h
  obtain ⟨h1, e2, H⟩ := glei H
  replace hf := gfr_e (gfr_f hf (gme 0 rfl)) e2
  obtain ⟨h3, e4, H⟩ := gbi H
  replace hf := gfr_tr hf (gfr_w (fM_keeps_fr  e4) (gss_cons (gme 0 rfl) (gss_cons (gme 1 rfl) (gss_cons (gme 2 rfl) (gss_cons (gme 3 rfl) gss_nil)))) (gss_cons (gme 0 rfl) (gss_cons (gme 1 rfl) (gss_cons (gme 2 rfl) gss_nil))))
  obtain ⟨h5, e6, H⟩ := gbi H
  replace hf := gfr_tr hf (gfr_w (fM_queues_fr  e6) (gss_cons (gme 3 rfl) gss_nil) gss_nil)
  obtain rfl := Option.some.inj H
  exact hf
theorem fM_tell_fr {v1 : Int32} {v2 : Int32} {h : gH} {x : (Int32 × gH)} (H : fM_tell v1 v2 h = some x) : gfr [72, 73, 66, 74, 75, 71] [(65, 12), (65, 35), (65, 15), (65, 2)] h x.2 := by
  unfold fM_tell at H
  have hf := gfr_rf [72, 73, 66, 74, 75, 71] [(65, 12), (65, 35), (65, 15), (65, 2)] h
  obtain ⟨p1, e2, H⟩ := gbi H
  replace hf := gfr_tr hf (gfr_w (fM_in_fr  e2) gss_nil gss_nil)
  by_cases q : p1.1 = (0 : Int32)
  · replace H := gift q H
    obtain rfl := Option.some.inj H
    exact hf
  · replace H := giff q H
    obtain ⟨p3, e4, H⟩ := gbi H
    replace hf := gfr_tr hf (gfr_w (fM_in_fr  e4) gss_nil gss_nil)
    by_cases q : p3.1 = (0 : Int32)
    · replace H := gift q H
      obtain rfl := Option.some.inj H
      exact hf
    · replace H := giff q H
      by_cases q : (p3.2 65 2) = (0 : Int32)
      · replace H := gift q H
        by_cases q : (p3.2 65 12) = (12 : Int32)
        · replace H := gift q H
          obtain rfl := Option.some.inj H
          exact hf
        · replace H := giff q H
          obtain ⟨b5, H⟩ := ggi H
          have b5 := gin_in b5
          obtain ⟨h6, e7, H⟩ := glei H
          replace hf := gfr_e (gfr_a hf (gme 0 rfl)) e7
          obtain ⟨b8, H⟩ := ggi H
          have b8 := gin_in b8
          obtain ⟨h9, e10, H⟩ := glei H
          replace hf := gfr_e (gfr_a hf (gme 1 rfl)) e10
          obtain ⟨h11, e12, H⟩ := glei H
          replace hf := gfr_e (gfr_f hf (gme 0 rfl)) e12
          obtain ⟨h13, e14, H⟩ := gbi H
          replace hf := gfr_tr hf (gfr_w (fM_decides_fr  e14) (gss_cons (gme 2 rfl) (gss_cons (gme 3 rfl) (gss_cons (gme 4 rfl) (gss_cons (gme 5 rfl) gss_nil)))) (gss_cons (gme 1 rfl) (gss_cons (gme 2 rfl) (gss_cons (gme 3 rfl) gss_nil))))
          obtain rfl := Option.some.inj H
          exact hf
      · replace H := giff q H
        obtain rfl := Option.some.inj H
        exact hf
theorem fM_queued_27_fr {k4 : Int32 → Int32 → gH → Option (Int32 × gH)} {v2 : Int32} {s0 : Int32} {s1 : Int32} (hk4f : ∀ (u1 : Int32) (u2 : Int32) (h : gH) (x : (Int32 × gH)), k4 u1 u2 h = some x → gfr [] [] h x.2) {h : gH} {x : (Int32 × gH)} (H : fM_queued_27 k4 v2 s0 s1 h = some x) : gfr [] [] h x.2 := by
  unfold fM_queued_27 at H
  have hf := gfr_rf [] [] h
  exact gfr_tr hf (hk4f _ _ _ _  H)
theorem fM_queued_4_fr  : ∀ (n : Nat) (v1 : Int32) (v2 : Int32) (h : gH) (x : (Int32 × gH)), fM_queued_4  n v1 v2 h = some x → gfr [] [] h x.2 := by
  intro n
  induction n with
  | zero => intro v1 v2 h x  H; exact g0 H
  | succ n ih =>
    intro v1 v2 h x  H
    unfold fM_queued_4 at H
    have hf := gfr_rf [] [] h
    by_cases q : v2 < (h 65 8)
    · replace H := gift q H
      obtain ⟨b1, H⟩ := ggi H
      have b1 := gin_in b1
      by_cases q : (h 71 v2.toNatClampNeg) = (0 : Int32)
      · replace H := gift q H
        exact gfr_tr hf (fM_queued_27_fr ih  H)
      · replace H := giff q H
        exact gfr_tr hf (fM_queued_27_fr ih  H)
    · replace H := giff q H
      obtain rfl := Option.some.inj H
      exact hf
theorem fM_queued_fr {h : gH} {x : (Int32 × gH)} (H : fM_queued  h = some x) : gfr [] [] h x.2 := by
  unfold fM_queued at H
  have hf := gfr_rf [] [] h
  exact gfr_tr hf (fM_queued_4_fr  gfu _ _ _ _  H)
theorem fM_level_fr {h : gH} {x : (Int32 × gH)} (H : fM_level  h = some x) : gfr [76, 77, 78] [(65, 19)] h x.2 := by
  unfold fM_level at H
  have hf := gfr_rf [76, 77, 78] [(65, 19)] h
  by_cases q : (h 65 2) = (0 : Int32)
  · replace H := gift q H
    obtain ⟨p1, e2, H⟩ := gbi H
    replace hf := gfr_tr hf (gfr_w (fM_queued_fr  e2) gss_nil gss_nil)
    by_cases q : (0 : Int32) < p1.1
    · replace H := gift q H
      obtain rfl := Option.some.inj H
      exact hf
    · replace H := giff q H
      by_cases q : (p1.2 65 19) = (8 : Int32)
      · replace H := gift q H
        obtain rfl := Option.some.inj H
        exact hf
      · replace H := giff q H
        obtain ⟨b3, H⟩ := ggi H
        have b3 := gin_in b3
        obtain ⟨h4, e5, H⟩ := glei H
        replace hf := gfr_e (gfr_a hf (gme 0 rfl)) e5
        obtain ⟨b6, H⟩ := ggi H
        have b6 := gin_in b6
        obtain ⟨h7, e8, H⟩ := glei H
        replace hf := gfr_e (gfr_a hf (gme 1 rfl)) e8
        obtain ⟨b9, H⟩ := ggi H
        have b9 := gin_in b9
        obtain ⟨h10, e11, H⟩ := glei H
        replace hf := gfr_e (gfr_a hf (gme 2 rfl)) e11
        obtain ⟨h12, e13, H⟩ := glei H
        replace hf := gfr_e (gfr_f hf (gme 0 rfl)) e13
        obtain rfl := Option.some.inj H
        exact hf
  · replace H := giff q H
    obtain rfl := Option.some.inj H
    exact hf
theorem fM_undo_149_fr {k118 : Int32 → gH → Option (Int32 × gH)} {v1 : Int32} {v2 : Int32} {s1 : Int32} {s2 : Int32} (hk118f : ∀ (u2 : Int32) (h : gH) (x : (Int32 × gH)), k118 u2 h = some x → gfr [66, 71] [(65, 19), (65, 15), (65, 12), (65, 2)] h x.2) {h : gH} {x : (Int32 × gH)} (H : fM_undo_149 k118 v1 v2 s1 s2 h = some x) : gfr [66, 71] [(65, 19), (65, 15), (65, 12), (65, 2)] h x.2 := by
  unfold fM_undo_149 at H
  have hf := gfr_rf [66, 71] [(65, 19), (65, 15), (65, 12), (65, 2)] h
  obtain ⟨b11, H⟩ := ggi H
  have b11 := gin_in b11
  obtain ⟨b12, H⟩ := ggi H
  have b12 := gbo_or b12
  obtain ⟨h13, e14, H⟩ := glei H
  replace hf := gfr_e (gfr_a hf (gme 1 rfl)) e14
  exact gfr_tr hf (hk118f _ _ _  H)
theorem fM_undo_118_fr {v1 : Int32}  : ∀ (n : Nat) (v2 : Int32) (h : gH) (x : (Int32 × gH)), fM_undo_118 v1 n v2 h = some x → gfr [66, 71] [(65, 19), (65, 15), (65, 12), (65, 2)] h x.2 := by
  intro n
  induction n with
  | zero => intro v2 h x  H; exact g0 H
  | succ n ih =>
    intro v2 h x  H
    unfold fM_undo_118 at H
    have hf := gfr_rf [66, 71] [(65, 19), (65, 15), (65, 12), (65, 2)] h
    by_cases q : v2 < (h 65 8)
    · replace H := gift q H
      obtain ⟨b10, H⟩ := ggi H
      have b10 := gin_in b10
      by_cases q : v2 < (h 78 (h 65 19).toNatClampNeg)
      · replace H := gift q H
        exact gfr_tr hf (fM_undo_149_fr ih  H)
      · replace H := giff q H
        exact gfr_tr hf (fM_undo_149_fr ih  H)
    · replace H := giff q H
      obtain rfl := Option.some.inj H
      exact hf
theorem fM_undo_35_fr {v1 : Int32}  : ∀ (n : Nat) (h : gH) (x : (Int32 × gH)), fM_undo_35 v1 n  h = some x → gfr [66, 71] [(65, 19), (65, 15), (65, 12), (65, 2)] h x.2 := by
  intro n
  induction n with
  | zero => intro  h x  H; exact g0 H
  | succ n ih =>
    intro  h x  H
    unfold fM_undo_35 at H
    have hf := gfr_rf [66, 71] [(65, 19), (65, 15), (65, 12), (65, 2)] h
    obtain ⟨b4, H⟩ := ggi H
    have b4 := gin_in b4
    by_cases q : (h 76 (h 65 19).toNatClampNeg) < (h 65 15)
    · replace H := gift q H
      obtain ⟨h15, e16, H⟩ := glei H
      replace hf := gfr_e (gfr_f hf (gme 1 rfl)) e16
      obtain ⟨b17, H⟩ := ggi H
      have b17 := gin_in b17
      obtain ⟨b18, H⟩ := ggi H
      have b18 := gin_in b18
      obtain ⟨b19, H⟩ := ggi H
      have b19 := gin_in b19
      obtain ⟨b20, H⟩ := ggi H
      have b20 := gin_in b20
      exact gfr_tr (gfr_a hf (gme 0 rfl)) (ih  _ _  H)
    · replace H := giff q H
      obtain ⟨b5, H⟩ := ggi H
      have b5 := gin_in b5
      obtain ⟨h6, e7, H⟩ := glei H
      replace hf := gfr_e (gfr_f hf (gme 2 rfl)) e7
      obtain ⟨h8, e9, H⟩ := glei H
      replace hf := gfr_e (gfr_f hf (gme 3 rfl)) e9
      exact gfr_tr hf (fM_undo_118_fr  gfu _ _ _  H)
theorem fM_undo_fr {h : gH} {x : (Int32 × gH)} (H : fM_undo  h = some x) : gfr [66, 71] [(65, 19), (65, 15), (65, 12), (65, 2)] h x.2 := by
  unfold fM_undo at H
  have hf := gfr_rf [66, 71] [(65, 19), (65, 15), (65, 12), (65, 2)] h
  by_cases q : (h 65 19) = (0 : Int32)
  · replace H := gift q H
    obtain rfl := Option.some.inj H
    exact hf
  · replace H := giff q H
    obtain ⟨h1, e2, H⟩ := glei H
    replace hf := gfr_e (gfr_f hf (gme 0 rfl)) e2
    obtain ⟨b3, H⟩ := ggi H
    have b3 := gin_in b3
    exact gfr_tr hf (fM_undo_35_fr  gfu  _ _  H)
theorem fM_domain_fr {v1 : Int32} {h : gH} {x : (Int32 × gH)} (H : fM_domain v1 h = some x) : gfr [] [] h x.2 := by
  unfold fM_domain at H
  have hf := gfr_rf [] [] h
  obtain ⟨p1, e2, H⟩ := gbi H
  replace hf := gfr_tr hf (gfr_w (fM_in_fr  e2) gss_nil gss_nil)
  by_cases q : p1.1 = (0 : Int32)
  · replace H := gift q H
    obtain rfl := Option.some.inj H
    exact hf
  · replace H := giff q H
    obtain ⟨b3, H⟩ := ggi H
    have b3 := gin_in b3
    obtain rfl := Option.some.inj H
    exact hf
theorem fM_trail_16_fr {v2 : Int32}  : ∀ (n : Nat) (v3 : Int32) (h : gH) (x : (Int32 × gH)), fM_trail_16 v2 n v3 h = some x → gfr [] [] h x.2 := by
  intro n
  induction n with
  | zero => intro v3 h x  H; exact g0 H
  | succ n ih =>
    intro v3 h x  H
    unfold fM_trail_16 at H
    have hf := gfr_rf [] [] h
    by_cases q : v3 < (h 65 15)
    · replace H := gift q H
      obtain ⟨b9, H⟩ := ggi H
      have b9 := gin_in b9
      by_cases q : (h 74 v3.toNatClampNeg) = (v2 - (1000 : Int32))
      · replace H := gift q H
        obtain rfl := Option.some.inj H
        exact hf
      · replace H := giff q H
        exact gfr_tr hf (ih _ _ _  H)
    · replace H := giff q H
      obtain rfl := Option.some.inj H
      exact hf
theorem fM_trail_fr {v1 : Int32} {v2 : Int32} {h : gH} {x : (Int32 × gH)} (H : fM_trail v1 v2 h = some x) : gfr [] [] h x.2 := by
  unfold fM_trail at H
  have hf := gfr_rf [] [] h
  obtain ⟨p1, e2, H⟩ := gbi H
  replace hf := gfr_tr hf (gfr_w (fM_in_fr  e2) gss_nil gss_nil)
  by_cases q : p1.1 = (0 : Int32)
  · replace H := gift q H
    obtain ⟨p3, e4, H⟩ := gbi H
    replace hf := gfr_tr hf (gfr_w (fM_in_fr  e4) gss_nil gss_nil)
    by_cases q : p3.1 = (0 : Int32)
    · replace H := gift q H
      obtain rfl := Option.some.inj H
      exact hf
    · replace H := giff q H
      obtain ⟨p5, e6, H⟩ := gbi H
      replace hf := gfr_tr hf (gfr_w (fM_in_fr  e6) gss_nil gss_nil)
      by_cases q : p5.1 = (0 : Int32)
      · replace H := gift q H
        obtain rfl := Option.some.inj H
        exact hf
      · replace H := giff q H
        by_cases q : v2 = (0 : Int32)
        · replace H := gift q H
          obtain ⟨b8, H⟩ := ggi H
          have b8 := gin_in b8
          obtain rfl := Option.some.inj H
          exact hf
        · replace H := giff q H
          obtain ⟨b7, H⟩ := ggi H
          have b7 := gin_in b7
          obtain rfl := Option.some.inj H
          exact hf
  · replace H := giff q H
    exact gfr_tr hf (fM_trail_16_fr  gfu _ _ _  H)
theorem fM_decision_fr {v1 : Int32} {v2 : Int32} {h : gH} {x : (Int32 × gH)} (H : fM_decision v1 v2 h = some x) : gfr [] [] h x.2 := by
  unfold fM_decision at H
  have hf := gfr_rf [] [] h
  obtain ⟨p1, e2, H⟩ := gbi H
  replace hf := gfr_tr hf (gfr_w (fM_in_fr  e2) gss_nil gss_nil)
  by_cases q : p1.1 = (0 : Int32)
  · replace H := gift q H
    obtain rfl := Option.some.inj H
    exact hf
  · replace H := giff q H
    obtain ⟨p3, e4, H⟩ := gbi H
    replace hf := gfr_tr hf (gfr_w (fM_in_fr  e4) gss_nil gss_nil)
    by_cases q : p3.1 = (0 : Int32)
    · replace H := gift q H
      obtain rfl := Option.some.inj H
      exact hf
    · replace H := giff q H
      by_cases q : v2 = (0 : Int32)
      · replace H := gift q H
        obtain ⟨b6, H⟩ := ggi H
        have b6 := gin_in b6
        obtain rfl := Option.some.inj H
        exact hf
      · replace H := giff q H
        obtain ⟨b5, H⟩ := ggi H
        have b5 := gin_in b5
        obtain rfl := Option.some.inj H
        exact hf
theorem fM_laysAside_28_fr  : ∀ (n : Nat) (v1 : Int32) (h : gH) (x : gH), fM_laysAside_28  n v1 h = some x → gfr [82, 83] [(65, 39), (65, 40), (65, 36)] h x := by
  intro n
  induction n with
  | zero => intro v1 h x  H; exact g0 H
  | succ n ih =>
    intro v1 h x  H
    unfold fM_laysAside_28 at H
    have hf := gfr_rf [82, 83] [(65, 39), (65, 40), (65, 36)] h
    by_cases q : v1 < (24 : Int32)
    · replace H := gift q H
      obtain ⟨b6, H⟩ := ggi H
      have b6 := gin_in b6
      obtain ⟨b7, H⟩ := ggi H
      have b7 := gin_in b7
      obtain ⟨b8, H⟩ := ggi H
      have b8 := gbo_or b8
      obtain ⟨h9, e10, H⟩ := glei H
      replace hf := gfr_e (gfr_a hf (gme 1 rfl)) e10
      exact gfr_tr hf (ih _ _ _  H)
    · replace H := giff q H
      obtain ⟨b1, H⟩ := ggi H
      have b1 := gbo_or b1
      obtain ⟨h2, e3, H⟩ := glei H
      replace hf := gfr_e (gfr_f hf (gme 0 rfl)) e3
      obtain ⟨h4, e5, H⟩ := glei H
      replace hf := gfr_e (gfr_f hf (gme 1 rfl)) e5
      obtain rfl := Option.some.inj H
      exact (gfr_f hf (gme 2 rfl))
theorem fM_laysAside_2_fr  : ∀ (n : Nat) (v1 : Int32) (h : gH) (x : gH), fM_laysAside_2  n v1 h = some x → gfr [82, 83] [(65, 39), (65, 40), (65, 36)] h x := by
  intro n
  induction n with
  | zero => intro v1 h x  H; exact g0 H
  | succ n ih =>
    intro v1 h x  H
    unfold fM_laysAside_2 at H
    have hf := gfr_rf [82, 83] [(65, 39), (65, 40), (65, 36)] h
    by_cases q : v1 < (8 : Int32)
    · replace H := gift q H
      obtain ⟨b11, H⟩ := ggi H
      have b11 := gin_in b11
      obtain ⟨b12, H⟩ := ggi H
      have b12 := gin_in b12
      obtain ⟨h13, e14, H⟩ := glei H
      replace hf := gfr_e (gfr_a hf (gme 0 rfl)) e14
      exact gfr_tr hf (ih _ _ _  H)
    · replace H := giff q H
      exact gfr_tr hf (fM_laysAside_28_fr  gfu _ _ _  H)
theorem fM_laysAside_fr {h : gH} {x : gH} (H : fM_laysAside  h = some x) : gfr [82, 83] [(65, 39), (65, 40), (65, 36)] h x := by
  unfold fM_laysAside at H
  have hf := gfr_rf [82, 83] [(65, 39), (65, 40), (65, 36)] h
  exact gfr_tr hf (fM_laysAside_2_fr  gfu _ _ _  H)
theorem fM_laysBack_28_fr  : ∀ (n : Nat) (v1 : Int32) (h : gH) (x : gH), fM_laysBack_28  n v1 h = some x → gfr [66, 71] [(65, 2), (65, 20), (65, 36)] h x := by
  intro n
  induction n with
  | zero => intro v1 h x  H; exact g0 H
  | succ n ih =>
    intro v1 h x  H
    unfold fM_laysBack_28 at H
    have hf := gfr_rf [66, 71] [(65, 2), (65, 20), (65, 36)] h
    by_cases q : v1 < (24 : Int32)
    · replace H := gift q H
      obtain ⟨b6, H⟩ := ggi H
      have b6 := gin_in b6
      obtain ⟨b7, H⟩ := ggi H
      have b7 := gin_in b7
      obtain ⟨b8, H⟩ := ggi H
      have b8 := gbo_or b8
      obtain ⟨h9, e10, H⟩ := glei H
      replace hf := gfr_e (gfr_a hf (gme 1 rfl)) e10
      exact gfr_tr hf (ih _ _ _  H)
    · replace H := giff q H
      obtain ⟨b1, H⟩ := ggi H
      have b1 := gbo_or b1
      obtain ⟨h2, e3, H⟩ := glei H
      replace hf := gfr_e (gfr_f hf (gme 0 rfl)) e3
      obtain ⟨h4, e5, H⟩ := glei H
      replace hf := gfr_e (gfr_f hf (gme 1 rfl)) e5
      obtain rfl := Option.some.inj H
      exact (gfr_f hf (gme 2 rfl))
theorem fM_laysBack_2_fr  : ∀ (n : Nat) (v1 : Int32) (h : gH) (x : gH), fM_laysBack_2  n v1 h = some x → gfr [66, 71] [(65, 2), (65, 20), (65, 36)] h x := by
  intro n
  induction n with
  | zero => intro v1 h x  H; exact g0 H
  | succ n ih =>
    intro v1 h x  H
    unfold fM_laysBack_2 at H
    have hf := gfr_rf [66, 71] [(65, 2), (65, 20), (65, 36)] h
    by_cases q : v1 < (8 : Int32)
    · replace H := gift q H
      obtain ⟨b11, H⟩ := ggi H
      have b11 := gin_in b11
      obtain ⟨b12, H⟩ := ggi H
      have b12 := gin_in b12
      obtain ⟨h13, e14, H⟩ := glei H
      replace hf := gfr_e (gfr_a hf (gme 0 rfl)) e14
      exact gfr_tr hf (ih _ _ _  H)
    · replace H := giff q H
      exact gfr_tr hf (fM_laysBack_28_fr  gfu _ _ _  H)
theorem fM_laysBack_fr {h : gH} {x : gH} (H : fM_laysBack  h = some x) : gfr [66, 71] [(65, 2), (65, 20), (65, 36)] h x := by
  unfold fM_laysBack at H
  have hf := gfr_rf [66, 71] [(65, 2), (65, 20), (65, 36)] h
  exact gfr_tr hf (fM_laysBack_2_fr  gfu _ _ _  H)
theorem fM_starts_255_fr {k223 : Int32 → gH → Option gH} {v3 : Int32} {v4 : Int32} (hk223f : ∀ (u5 : Int32) (h : gH) (x : gH), k223 u5 h = some x → gfr [66, 71, 74, 75, 81] [(65, 2), (65, 35), (65, 15), (65, 9), (65, 34)] h x) {h : gH} {x : gH} (H : fM_starts_255 k223 v3 v4  h = some x) : gfr [66, 71, 74, 75, 81] [(65, 2), (65, 35), (65, 15), (65, 9), (65, 34)] h x := by
  unfold fM_starts_255 at H
  have hf := gfr_rf [66, 71, 74, 75, 81] [(65, 2), (65, 35), (65, 15), (65, 9), (65, 34)] h
  obtain ⟨p12, e13, H⟩ := gbi H
  replace hf := gfr_tr hf (gfr_w (fM_nextRule_fr  e13) gss_nil gss_nil)
  exact gfr_tr hf (hk223f _ _ _  H)
theorem fM_starts_223_fr {v3 : Int32} {v4 : Int32}  : ∀ (n : Nat) (v5 : Int32) (h : gH) (x : gH), fM_starts_223 v3 v4 n v5 h = some x → gfr [66, 71, 74, 75, 81] [(65, 2), (65, 35), (65, 15), (65, 9), (65, 34)] h x := by
  intro n
  induction n with
  | zero => intro v5 h x  H; exact g0 H
  | succ n ih =>
    intro v5 h x  H
    unfold fM_starts_223 at H
    have hf := gfr_rf [66, 71, 74, 75, 81] [(65, 2), (65, 35), (65, 15), (65, 9), (65, 34)] h
    by_cases q : v5 = (-1 : Int32)
    · replace H := gift q H
      obtain rfl := Option.some.inj H
      exact (gfr_f hf (gme 3 rfl))
    · replace H := giff q H
      obtain ⟨b7, H⟩ := ggi H
      have b7 := gin_in b7
      obtain ⟨h8, e9, H⟩ := glei H
      replace hf := gfr_e (gfr_a hf (gme 1 rfl)) e9
      obtain ⟨h10, e11, H⟩ := gbi H
      replace hf := gfr_tr hf (gfr_w (fM_prunes_fr  e11) (gss_cons (gme 0 rfl) (gss_cons (gme 2 rfl) (gss_cons (gme 3 rfl) (gss_cons (gme 1 rfl) (gss_cons (gme 4 rfl) gss_nil))))) (gss_cons (gme 1 rfl) (gss_cons (gme 2 rfl) (gss_cons (gme 0 rfl) (gss_cons (gme 4 rfl) gss_nil)))))
      by_cases q : v3 = (-1 : Int32)
      · replace H := gift q H
        exact gfr_tr hf (fM_starts_255_fr ih  H)
      · replace H := giff q H
        obtain ⟨b14, H⟩ := ggi H
        have b14 := gin_in b14
        exact gfr_tr (gfr_a hf (gme 1 rfl)) (fM_starts_255_fr ih  H)
theorem fM_starts_199_fr {k166 : Int32 → gH → Option gH} {v3 : Int32} {v4 : Int32} {s1 : Int32} {s2 : Int32} (hk166f : ∀ (u4 : Int32) (h : gH) (x : gH), k166 u4 h = some x → gfr [66, 71, 74, 75, 81] [(65, 2), (65, 35), (65, 15), (65, 9), (65, 34)] h x) {h : gH} {x : gH} (H : fM_starts_199 k166 v3 v4 s1 s2 h = some x) : gfr [66, 71, 74, 75, 81] [(65, 2), (65, 35), (65, 15), (65, 9), (65, 34)] h x := by
  unfold fM_starts_199 at H
  have hf := gfr_rf [66, 71, 74, 75, 81] [(65, 2), (65, 35), (65, 15), (65, 9), (65, 34)] h
  obtain ⟨b15, H⟩ := ggi H
  have b15 := gin_in b15
  obtain ⟨b16, H⟩ := ggi H
  have b16 := gbo_or b16
  obtain ⟨h17, e18, H⟩ := glei H
  replace hf := gfr_e (gfr_a hf (gme 1 rfl)) e18
  exact gfr_tr hf (hk166f _ _ _  H)
theorem fM_starts_198_fr {k166 : Int32 → gH → Option gH} {v3 : Int32} {v4 : Int32} {s1 : Int32} (hk166f : ∀ (u4 : Int32) (h : gH) (x : gH), k166 u4 h = some x → gfr [66, 71, 74, 75, 81] [(65, 2), (65, 35), (65, 15), (65, 9), (65, 34)] h x) {h : gH} {x : gH} (H : fM_starts_198 k166 v3 v4 s1 h = some x) : gfr [66, 71, 74, 75, 81] [(65, 2), (65, 35), (65, 15), (65, 9), (65, 34)] h x := by
  unfold fM_starts_198 at H
  have hf := gfr_rf [66, 71, 74, 75, 81] [(65, 2), (65, 35), (65, 15), (65, 9), (65, 34)] h
  exact gfr_tr hf (fM_starts_199_fr hk166f  H)
theorem fM_starts_166_fr {v3 : Int32}  : ∀ (n : Nat) (v4 : Int32) (h : gH) (x : gH), fM_starts_166 v3 n v4 h = some x → gfr [66, 71, 74, 75, 81] [(65, 2), (65, 35), (65, 15), (65, 9), (65, 34)] h x := by
  intro n
  induction n with
  | zero => intro v4 h x  H; exact g0 H
  | succ n ih =>
    intro v4 h x  H
    unfold fM_starts_166 at H
    have hf := gfr_rf [66, 71, 74, 75, 81] [(65, 2), (65, 35), (65, 15), (65, 9), (65, 34)] h
    by_cases q : v4 < (h 65 8)
    · replace H := gift q H
      by_cases q : v4 = v3
      · replace H := gift q H
        exact gfr_tr hf (fM_starts_198_fr ih  H)
      · replace H := giff q H
        by_cases q : (h 65 2) = (0 : Int32)
        · replace H := gift q H
          exact gfr_tr hf (fM_starts_199_fr ih  H)
        · replace H := giff q H
          exact gfr_tr hf (fM_starts_198_fr ih  H)
    · replace H := giff q H
      obtain ⟨h3, e4, H⟩ := glei H
      replace hf := gfr_e (gfr_f hf (gme 3 rfl)) e4
      obtain ⟨p5, e6, H⟩ := gbi H
      replace hf := gfr_tr hf (gfr_w (fM_nextRule_fr  e6) gss_nil gss_nil)
      exact gfr_tr hf (fM_starts_223_fr  gfu _ _ _  H)
theorem fM_starts_163_fr {v3 : Int32}  {h : gH} {x : gH} (H : fM_starts_163 v3  h = some x) : gfr [66, 71, 74, 75, 81] [(65, 2), (65, 35), (65, 15), (65, 9), (65, 34)] h x := by
  unfold fM_starts_163 at H
  have hf := gfr_rf [66, 71, 74, 75, 81] [(65, 2), (65, 35), (65, 15), (65, 9), (65, 34)] h
  exact gfr_tr hf (fM_starts_166_fr  gfu _ _ _  H)
theorem fM_starts_112_fr {v2 : Int32} {v3 : Int32}  : ∀ (n : Nat) (v4 : Int32) (h : gH) (x : gH), fM_starts_112 v2 v3 n v4 h = some x → gfr [66, 71, 74, 75, 81] [(65, 2), (65, 35), (65, 15), (65, 9), (65, 34)] h x := by
  intro n
  induction n with
  | zero => intro v4 h x  H; exact g0 H
  | succ n ih =>
    intro v4 h x  H
    unfold fM_starts_112 at H
    have hf := gfr_rf [66, 71, 74, 75, 81] [(65, 2), (65, 35), (65, 15), (65, 9), (65, 34)] h
    by_cases q : v4 < (16 : Int32)
    · replace H := gift q H
      by_cases q : (h 65 2) = (0 : Int32)
      · replace H := gift q H
        by_cases q : ((v2 >>> (v4 &&& 31)) &&& (1 : Int32)) = (1 : Int32)
        · replace H := gift q H
          obtain ⟨b19, H⟩ := ggi H
          have b19 := gin_in b19
          obtain ⟨b20, H⟩ := ggi H
          have b20 := gin_in b20
          obtain ⟨h21, e22, H⟩ := gbi H
          replace hf := gfr_tr hf (gfr_w (fM_decides_fr  e22) (gss_cons (gme 0 rfl) (gss_cons (gme 2 rfl) (gss_cons (gme 3 rfl) (gss_cons (gme 1 rfl) gss_nil)))) (gss_cons (gme 1 rfl) (gss_cons (gme 2 rfl) (gss_cons (gme 0 rfl) gss_nil))))
          exact gfr_tr hf (ih _ _ _  H)
        · replace H := giff q H
          exact gfr_tr hf (ih _ _ _  H)
      · replace H := giff q H
        exact gfr_tr hf (fM_starts_163_fr  H)
    · replace H := giff q H
      exact gfr_tr hf (fM_starts_163_fr  H)
theorem fM_starts_109_fr {v2 : Int32} {v3 : Int32}  {h : gH} {x : gH} (H : fM_starts_109 v2 v3  h = some x) : gfr [66, 71, 74, 75, 81] [(65, 2), (65, 35), (65, 15), (65, 9), (65, 34)] h x := by
  unfold fM_starts_109 at H
  have hf := gfr_rf [66, 71, 74, 75, 81] [(65, 2), (65, 35), (65, 15), (65, 9), (65, 34)] h
  exact gfr_tr hf (fM_starts_112_fr  gfu _ _ _  H)
theorem fM_starts_58_fr {v1 : Int32} {v2 : Int32} {v3 : Int32}  : ∀ (n : Nat) (v4 : Int32) (h : gH) (x : gH), fM_starts_58 v1 v2 v3 n v4 h = some x → gfr [66, 71, 74, 75, 81] [(65, 2), (65, 35), (65, 15), (65, 9), (65, 34)] h x := by
  intro n
  induction n with
  | zero => intro v4 h x  H; exact g0 H
  | succ n ih =>
    intro v4 h x  H
    unfold fM_starts_58 at H
    have hf := gfr_rf [66, 71, 74, 75, 81] [(65, 2), (65, 35), (65, 15), (65, 9), (65, 34)] h
    by_cases q : v4 < (h 65 12)
    · replace H := gift q H
      by_cases q : (h 65 2) = (0 : Int32)
      · replace H := gift q H
        by_cases q : ((v1 >>> (v4 &&& 31)) &&& (1 : Int32)) = (1 : Int32)
        · replace H := gift q H
          obtain ⟨b23, H⟩ := ggi H
          have b23 := gin_in b23
          obtain ⟨b24, H⟩ := ggi H
          have b24 := gin_in b24
          obtain ⟨h25, e26, H⟩ := gbi H
          replace hf := gfr_tr hf (gfr_w (fM_decides_fr  e26) (gss_cons (gme 0 rfl) (gss_cons (gme 2 rfl) (gss_cons (gme 3 rfl) (gss_cons (gme 1 rfl) gss_nil)))) (gss_cons (gme 1 rfl) (gss_cons (gme 2 rfl) (gss_cons (gme 0 rfl) gss_nil))))
          exact gfr_tr hf (ih _ _ _  H)
        · replace H := giff q H
          exact gfr_tr hf (ih _ _ _  H)
      · replace H := giff q H
        exact gfr_tr hf (fM_starts_109_fr  H)
    · replace H := giff q H
      exact gfr_tr hf (fM_starts_109_fr  H)
theorem fM_starts_29_fr {v1 : Int32} {v2 : Int32} {v3 : Int32}  : ∀ (n : Nat) (v4 : Int32) (h : gH) (x : gH), fM_starts_29 v1 v2 v3 n v4 h = some x → gfr [66, 71, 74, 75, 81] [(65, 2), (65, 35), (65, 15), (65, 9), (65, 34)] h x := by
  intro n
  induction n with
  | zero => intro v4 h x  H; exact g0 H
  | succ n ih =>
    intro v4 h x  H
    unfold fM_starts_29 at H
    have hf := gfr_rf [66, 71, 74, 75, 81] [(65, 2), (65, 35), (65, 15), (65, 9), (65, 34)] h
    by_cases q : v4 < (24 : Int32)
    · replace H := gift q H
      obtain ⟨b27, H⟩ := ggi H
      have b27 := gin_in b27
      obtain ⟨h28, e29, H⟩ := glei H
      replace hf := gfr_e (gfr_a hf (gme 1 rfl)) e29
      exact gfr_tr hf (ih _ _ _  H)
    · replace H := giff q H
      obtain ⟨h1, e2, H⟩ := glei H
      replace hf := gfr_e (gfr_f hf (gme 0 rfl)) e2
      exact gfr_tr hf (fM_starts_58_fr  gfu _ _ _  H)
theorem fM_starts_3_fr {v1 : Int32} {v2 : Int32} {v3 : Int32}  : ∀ (n : Nat) (v4 : Int32) (h : gH) (x : gH), fM_starts_3 v1 v2 v3 n v4 h = some x → gfr [66, 71, 74, 75, 81] [(65, 2), (65, 35), (65, 15), (65, 9), (65, 34)] h x := by
  intro n
  induction n with
  | zero => intro v4 h x  H; exact g0 H
  | succ n ih =>
    intro v4 h x  H
    unfold fM_starts_3 at H
    have hf := gfr_rf [66, 71, 74, 75, 81] [(65, 2), (65, 35), (65, 15), (65, 9), (65, 34)] h
    by_cases q : v4 < (8 : Int32)
    · replace H := gift q H
      obtain ⟨b30, H⟩ := ggi H
      have b30 := gin_in b30
      obtain ⟨h31, e32, H⟩ := glei H
      replace hf := gfr_e (gfr_a hf (gme 0 rfl)) e32
      exact gfr_tr hf (ih _ _ _  H)
    · replace H := giff q H
      exact gfr_tr hf (fM_starts_29_fr  gfu _ _ _  H)
theorem fM_starts_fr {v1 : Int32} {v2 : Int32} {v3 : Int32} {h : gH} {x : gH} (H : fM_starts v1 v2 v3 h = some x) : gfr [66, 71, 74, 75, 81] [(65, 2), (65, 35), (65, 15), (65, 9), (65, 34)] h x := by
  unfold fM_starts at H
  have hf := gfr_rf [66, 71, 74, 75, 81] [(65, 2), (65, 35), (65, 15), (65, 9), (65, 34)] h
  exact gfr_tr hf (fM_starts_3_fr  gfu _ _ _  H)
theorem fM_isGone_fr {v1 : Int32} {v2 : Int32} {h : gH} {x : (Int32 × gH)} (H : fM_isGone v1 v2 h = some x) : gfr [] [] h x.2 := by
  unfold fM_isGone at H
  have hf := gfr_rf [] [] h
  by_cases q : (h 65 2) = (0 : Int32)
  · replace H := gift q H
    by_cases q : v1 = (-1 : Int32)
    · replace H := gift q H
      obtain rfl := Option.some.inj H
      exact hf
    · replace H := giff q H
      obtain ⟨b1, H⟩ := ggi H
      have b1 := gin_in b1
      by_cases q : (((h 66 v1.toNatClampNeg) >>> (v2 &&& 31)) &&& (1 : Int32)) = (0 : Int32)
      · replace H := gift q H
        obtain rfl := Option.some.inj H
        exact hf
      · replace H := giff q H
        obtain rfl := Option.some.inj H
        exact hf
  · replace H := giff q H
    obtain rfl := Option.some.inj H
    exact hf
theorem fM_why_121_fr {v3 : Int32} {v4 : Int32}  {h : gH} {x : (Int32 × gH)} (H : fM_why_121 v3 v4  h = some x) : gfr [82, 83, 66, 71, 74, 75, 81] [(65, 39), (65, 40), (65, 36), (65, 2), (65, 35), (65, 15), (65, 9), (65, 34), (65, 20)] h x.2 := by
  unfold fM_why_121 at H
  have hf := gfr_rf [82, 83, 66, 71, 74, 75, 81] [(65, 39), (65, 40), (65, 36), (65, 2), (65, 35), (65, 15), (65, 9), (65, 34), (65, 20)] h
  obtain ⟨h9, e10, H⟩ := gbi H
  replace hf := gfr_tr hf (gfr_w (fM_laysBack_fr  e10) (gss_cons (gme 2 rfl) (gss_cons (gme 3 rfl) gss_nil)) (gss_cons (gme 3 rfl) (gss_cons (gme 8 rfl) (gss_cons (gme 2 rfl) gss_nil))))
  by_cases q : v4 = (0 : Int32)
  · replace H := gift q H
    obtain rfl := Option.some.inj H
    exact hf
  · replace H := giff q H
    obtain rfl := Option.some.inj H
    exact hf
theorem fM_why_114_fr {k65 : Int32 → Int32 → gH → Option (Int32 × gH)} {v1 : Int32} {v2 : Int32} {v4 : Int32} {v5 : Int32} {s0 : Int32} (hk65f : ∀ (u3 : Int32) (u5 : Int32) (h : gH) (x : (Int32 × gH)), k65 u3 u5 h = some x → gfr [82, 83, 66, 71, 74, 75, 81] [(65, 39), (65, 40), (65, 36), (65, 2), (65, 35), (65, 15), (65, 9), (65, 34), (65, 20)] h x.2) {h : gH} {x : (Int32 × gH)} (H : fM_why_114 k65 v1 v2 v4 v5 s0 h = some x) : gfr [82, 83, 66, 71, 74, 75, 81] [(65, 39), (65, 40), (65, 36), (65, 2), (65, 35), (65, 15), (65, 9), (65, 34), (65, 20)] h x.2 := by
  unfold fM_why_114 at H
  have hf := gfr_rf [82, 83, 66, 71, 74, 75, 81] [(65, 39), (65, 40), (65, 36), (65, 2), (65, 35), (65, 15), (65, 9), (65, 34), (65, 20)] h
  exact gfr_tr hf (hk65f _ _ _ _  H)
theorem fM_why_65_fr {v1 : Int32} {v2 : Int32} {v4 : Int32}  : ∀ (n : Nat) (v3 : Int32) (v5 : Int32) (h : gH) (x : (Int32 × gH)), fM_why_65 v1 v2 v4 n v3 v5 h = some x → gfr [82, 83, 66, 71, 74, 75, 81] [(65, 39), (65, 40), (65, 36), (65, 2), (65, 35), (65, 15), (65, 9), (65, 34), (65, 20)] h x.2 := by
  intro n
  induction n with
  | zero => intro v3 v5 h x  H; exact g0 H
  | succ n ih =>
    intro v3 v5 h x  H
    unfold fM_why_65 at H
    have hf := gfr_rf [82, 83, 66, 71, 74, 75, 81] [(65, 39), (65, 40), (65, 36), (65, 2), (65, 35), (65, 15), (65, 9), (65, 34), (65, 20)] h
    by_cases q : v5 < (h 65 12)
    · replace H := gift q H
      by_cases q : v4 = (0 : Int32)
      · replace H := gift q H
        exact gfr_tr hf (fM_why_121_fr  H)
      · replace H := giff q H
        obtain ⟨h11, e12, H⟩ := gbi H
        replace hf := gfr_tr hf (gfr_w (fM_starts_fr  e12) (gss_cons (gme 2 rfl) (gss_cons (gme 3 rfl) (gss_cons (gme 4 rfl) (gss_cons (gme 5 rfl) (gss_cons (gme 6 rfl) gss_nil))))) (gss_cons (gme 3 rfl) (gss_cons (gme 4 rfl) (gss_cons (gme 5 rfl) (gss_cons (gme 6 rfl) (gss_cons (gme 7 rfl) gss_nil))))))
        obtain ⟨p13, e14, H⟩ := gbi H
        replace hf := gfr_tr hf (gfr_w (fM_isGone_fr  e14) gss_nil gss_nil)
        by_cases q : p13.1 = (0 : Int32)
        · replace H := gift q H
          exact gfr_tr hf (fM_why_114_fr ih  H)
        · replace H := giff q H
          exact gfr_tr hf (fM_why_114_fr ih  H)
    · replace H := giff q H
      exact gfr_tr hf (fM_why_121_fr  H)
theorem fM_why_34_fr {v1 : Int32} {v2 : Int32}  {h : gH} {x : (Int32 × gH)} (H : fM_why_34 v1 v2  h = some x) : gfr [82, 83, 66, 71, 74, 75, 81] [(65, 39), (65, 40), (65, 36), (65, 2), (65, 35), (65, 15), (65, 9), (65, 34), (65, 20)] h x.2 := by
  unfold fM_why_34 at H
  have hf := gfr_rf [82, 83, 66, 71, 74, 75, 81] [(65, 39), (65, 40), (65, 36), (65, 2), (65, 35), (65, 15), (65, 9), (65, 34), (65, 20)] h
  obtain ⟨h3, e4, H⟩ := gbi H
  replace hf := gfr_tr hf (gfr_w (fM_laysAside_fr  e4) (gss_cons (gme 0 rfl) (gss_cons (gme 1 rfl) gss_nil)) (gss_cons (gme 0 rfl) (gss_cons (gme 1 rfl) (gss_cons (gme 2 rfl) gss_nil))))
  obtain ⟨h5, e6, H⟩ := gbi H
  replace hf := gfr_tr hf (gfr_w (fM_starts_fr  e6) (gss_cons (gme 2 rfl) (gss_cons (gme 3 rfl) (gss_cons (gme 4 rfl) (gss_cons (gme 5 rfl) (gss_cons (gme 6 rfl) gss_nil))))) (gss_cons (gme 3 rfl) (gss_cons (gme 4 rfl) (gss_cons (gme 5 rfl) (gss_cons (gme 6 rfl) (gss_cons (gme 7 rfl) gss_nil))))))
  obtain ⟨p7, e8, H⟩ := gbi H
  replace hf := gfr_tr hf (gfr_w (fM_isGone_fr  e8) gss_nil gss_nil)
  exact gfr_tr hf (fM_why_65_fr  gfu _ _ _ _  H)
theorem fM_why_fr {v1 : Int32} {v2 : Int32} {h : gH} {x : (Int32 × gH)} (H : fM_why v1 v2 h = some x) : gfr [82, 83, 66, 71, 74, 75, 81] [(65, 39), (65, 40), (65, 36), (65, 2), (65, 35), (65, 15), (65, 9), (65, 34), (65, 20)] h x.2 := by
  unfold fM_why at H
  have hf := gfr_rf [82, 83, 66, 71, 74, 75, 81] [(65, 39), (65, 40), (65, 36), (65, 2), (65, 35), (65, 15), (65, 9), (65, 34), (65, 20)] h
  obtain ⟨p1, e2, H⟩ := gbi H
  replace hf := gfr_tr hf (gfr_w (fM_in_fr  e2) gss_nil gss_nil)
  by_cases q : p1.1 = (0 : Int32)
  · replace H := gift q H
    obtain rfl := Option.some.inj H
    exact hf
  · replace H := giff q H
    by_cases q : v1 = (-1 : Int32)
    · replace H := gift q H
      exact gfr_tr hf (fM_why_34_fr  H)
    · replace H := giff q H
      obtain ⟨p15, e16, H⟩ := gbi H
      replace hf := gfr_tr hf (gfr_w (fM_in_fr  e16) gss_nil gss_nil)
      by_cases q : p15.1 = (0 : Int32)
      · replace H := gift q H
        obtain rfl := Option.some.inj H
        exact hf
      · replace H := giff q H
        exact gfr_tr hf (fM_why_34_fr  H)
