theorem fM_isIdle_124_fr {v3 : Int32}  {h : gH} {x : (Int32 × gH)} (H : fM_isIdle_124 v3  h = some x) : gfr [82, 83, 66, 71, 74, 75, 81, 86] [(65, 39), (65, 40), (65, 36), (65, 2), (65, 35), (65, 15), (65, 9), (65, 34), (65, 20)] h x.2 := by
  unfold fM_isIdle_124 at H
  have hf := gfr_rf [82, 83, 66, 71, 74, 75, 81, 86] [(65, 39), (65, 40), (65, 36), (65, 2), (65, 35), (65, 15), (65, 9), (65, 34), (65, 20)] h
  obtain ⟨h7, e8, H⟩ := gbi H
  replace hf := gfr_tr hf (gfr_w (fM_laysBack_fr  e8) (gss_cons (gme 2 rfl) (gss_cons (gme 3 rfl) gss_nil)) (gss_cons (gme 3 rfl) (gss_cons (gme 8 rfl) (gss_cons (gme 2 rfl) gss_nil))))
  obtain ⟨b9, H⟩ := ggi H
  have b9 := gbo_or b9
  obtain rfl := Option.some.inj H
  exact hf
theorem fM_isIdle_117_fr {k80 : Int32 → Int32 → gH → Option (Int32 × gH)} {v2 : Int32} {v4 : Int32} {s0 : Int32} (hk80f : ∀ (u3 : Int32) (u4 : Int32) (h : gH) (x : (Int32 × gH)), k80 u3 u4 h = some x → gfr [82, 83, 66, 71, 74, 75, 81, 86] [(65, 39), (65, 40), (65, 36), (65, 2), (65, 35), (65, 15), (65, 9), (65, 34), (65, 20)] h x.2) {h : gH} {x : (Int32 × gH)} (H : fM_isIdle_117 k80 v2 v4 s0 h = some x) : gfr [82, 83, 66, 71, 74, 75, 81, 86] [(65, 39), (65, 40), (65, 36), (65, 2), (65, 35), (65, 15), (65, 9), (65, 34), (65, 20)] h x.2 := by
  unfold fM_isIdle_117 at H
  have hf := gfr_rf [82, 83, 66, 71, 74, 75, 81, 86] [(65, 39), (65, 40), (65, 36), (65, 2), (65, 35), (65, 15), (65, 9), (65, 34), (65, 20)] h
  exact gfr_tr hf (hk80f _ _ _ _  H)
theorem fM_isIdle_116_fr {k80 : Int32 → Int32 → gH → Option (Int32 × gH)} {v2 : Int32} {v4 : Int32} (hk80f : ∀ (u3 : Int32) (u4 : Int32) (h : gH) (x : (Int32 × gH)), k80 u3 u4 h = some x → gfr [82, 83, 66, 71, 74, 75, 81, 86] [(65, 39), (65, 40), (65, 36), (65, 2), (65, 35), (65, 15), (65, 9), (65, 34), (65, 20)] h x.2) {h : gH} {x : (Int32 × gH)} (H : fM_isIdle_116 k80 v2 v4  h = some x) : gfr [82, 83, 66, 71, 74, 75, 81, 86] [(65, 39), (65, 40), (65, 36), (65, 2), (65, 35), (65, 15), (65, 9), (65, 34), (65, 20)] h x.2 := by
  unfold fM_isIdle_116 at H
  have hf := gfr_rf [82, 83, 66, 71, 74, 75, 81, 86] [(65, 39), (65, 40), (65, 36), (65, 2), (65, 35), (65, 15), (65, 9), (65, 34), (65, 20)] h
  exact gfr_tr hf (fM_isIdle_117_fr hk80f  H)
theorem fM_isIdle_80_fr {v2 : Int32}  : ∀ (n : Nat) (v3 : Int32) (v4 : Int32) (h : gH) (x : (Int32 × gH)), fM_isIdle_80 v2 n v3 v4 h = some x → gfr [82, 83, 66, 71, 74, 75, 81, 86] [(65, 39), (65, 40), (65, 36), (65, 2), (65, 35), (65, 15), (65, 9), (65, 34), (65, 20)] h x.2 := by
  intro n
  induction n with
  | zero => intro v3 v4 h x  H; exact g0 H
  | succ n ih =>
    intro v3 v4 h x  H
    unfold fM_isIdle_80 at H
    have hf := gfr_rf [82, 83, 66, 71, 74, 75, 81, 86] [(65, 39), (65, 40), (65, 36), (65, 2), (65, 35), (65, 15), (65, 9), (65, 34), (65, 20)] h
    by_cases q : v4 < (8 : Int32)
    · replace H := gift q H
      by_cases q : v2 = (0 : Int32)
      · replace H := gift q H
        by_cases q : v3 = (0 : Int32)
        · replace H := gift q H
          exact gfr_tr hf (fM_isIdle_116_fr ih  H)
        · replace H := giff q H
          obtain ⟨b10, H⟩ := ggi H
          have b10 := gin_in b10
          obtain ⟨b11, H⟩ := ggi H
          have b11 := gin_in b11
          by_cases q : (h 66 v4.toNatClampNeg) = (h 86 v4.toNatClampNeg)
          · replace H := gift q H
            exact gfr_tr hf (fM_isIdle_117_fr ih  H)
          · replace H := giff q H
            exact gfr_tr hf (fM_isIdle_116_fr ih  H)
      · replace H := giff q H
        exact gfr_tr hf (fM_isIdle_124_fr  H)
    · replace H := giff q H
      exact gfr_tr hf (fM_isIdle_124_fr  H)
theorem fM_isIdle_76_fr {v2 : Int32} {s0 : Int32}  {h : gH} {x : (Int32 × gH)} (H : fM_isIdle_76 v2 s0 h = some x) : gfr [82, 83, 66, 71, 74, 75, 81, 86] [(65, 39), (65, 40), (65, 36), (65, 2), (65, 35), (65, 15), (65, 9), (65, 34), (65, 20)] h x.2 := by
  unfold fM_isIdle_76 at H
  have hf := gfr_rf [82, 83, 66, 71, 74, 75, 81, 86] [(65, 39), (65, 40), (65, 36), (65, 2), (65, 35), (65, 15), (65, 9), (65, 34), (65, 20)] h
  exact gfr_tr hf (fM_isIdle_80_fr  gfu _ _ _ _  H)
theorem fM_isIdle_25_fr {v1 : Int32} {v2 : Int32}  : ∀ (n : Nat) (v3 : Int32) (h : gH) (x : (Int32 × gH)), fM_isIdle_25 v1 v2 n v3 h = some x → gfr [82, 83, 66, 71, 74, 75, 81, 86] [(65, 39), (65, 40), (65, 36), (65, 2), (65, 35), (65, 15), (65, 9), (65, 34), (65, 20)] h x.2 := by
  intro n
  induction n with
  | zero => intro v3 h x  H; exact g0 H
  | succ n ih =>
    intro v3 h x  H
    unfold fM_isIdle_25 at H
    have hf := gfr_rf [82, 83, 66, 71, 74, 75, 81, 86] [(65, 39), (65, 40), (65, 36), (65, 2), (65, 35), (65, 15), (65, 9), (65, 34), (65, 20)] h
    by_cases q : v3 < (8 : Int32)
    · replace H := gift q H
      obtain ⟨b12, H⟩ := ggi H
      have b12 := gin_in b12
      obtain ⟨b13, H⟩ := ggi H
      have b13 := gin_in b13
      obtain ⟨h14, e15, H⟩ := glei H
      replace hf := gfr_e (gfr_a hf (gme 7 rfl)) e15
      exact gfr_tr hf (ih _ _ _  H)
    · replace H := giff q H
      obtain ⟨h5, e6, H⟩ := gbi H
      replace hf := gfr_tr hf (gfr_w (fM_starts_fr  e6) (gss_cons (gme 2 rfl) (gss_cons (gme 3 rfl) (gss_cons (gme 4 rfl) (gss_cons (gme 5 rfl) (gss_cons (gme 6 rfl) gss_nil))))) (gss_cons (gme 3 rfl) (gss_cons (gme 4 rfl) (gss_cons (gme 5 rfl) (gss_cons (gme 6 rfl) (gss_cons (gme 7 rfl) gss_nil))))))
      by_cases q : (h5 65 2) = v2
      · replace H := gift q H
        exact gfr_tr hf (fM_isIdle_76_fr  H)
      · replace H := giff q H
        exact gfr_tr hf (fM_isIdle_76_fr  H)
theorem fM_isIdle_fr {v1 : Int32} {h : gH} {x : (Int32 × gH)} (H : fM_isIdle v1 h = some x) : gfr [82, 83, 66, 71, 74, 75, 81, 86] [(65, 39), (65, 40), (65, 36), (65, 2), (65, 35), (65, 15), (65, 9), (65, 34), (65, 20)] h x.2 := by
  unfold fM_isIdle at H
  have hf := gfr_rf [82, 83, 66, 71, 74, 75, 81, 86] [(65, 39), (65, 40), (65, 36), (65, 2), (65, 35), (65, 15), (65, 9), (65, 34), (65, 20)] h
  obtain ⟨h1, e2, H⟩ := gbi H
  replace hf := gfr_tr hf (gfr_w (fM_laysAside_fr  e2) (gss_cons (gme 0 rfl) (gss_cons (gme 1 rfl) gss_nil)) (gss_cons (gme 0 rfl) (gss_cons (gme 1 rfl) (gss_cons (gme 2 rfl) gss_nil))))
  obtain ⟨h3, e4, H⟩ := gbi H
  replace hf := gfr_tr hf (gfr_w (fM_starts_fr  e4) (gss_cons (gme 2 rfl) (gss_cons (gme 3 rfl) (gss_cons (gme 4 rfl) (gss_cons (gme 5 rfl) (gss_cons (gme 6 rfl) gss_nil))))) (gss_cons (gme 3 rfl) (gss_cons (gme 4 rfl) (gss_cons (gme 5 rfl) (gss_cons (gme 6 rfl) (gss_cons (gme 7 rfl) gss_nil))))))
  exact gfr_tr hf (fM_isIdle_25_fr  gfu _ _ _  H)
theorem fM_mixed_50_fr {s0 : Int32}  {h : gH} {x : (Int32 × gH)} (H : fM_mixed_50  s0 h = some x) : gfr [82, 83, 66, 71, 74, 75, 81] [(65, 39), (65, 40), (65, 36), (65, 2), (65, 35), (65, 15), (65, 9), (65, 34), (65, 20)] h x.2 := by
  unfold fM_mixed_50 at H
  have hf := gfr_rf [82, 83, 66, 71, 74, 75, 81] [(65, 39), (65, 40), (65, 36), (65, 2), (65, 35), (65, 15), (65, 9), (65, 34), (65, 20)] h
  obtain ⟨h8, e9, H⟩ := gbi H
  replace hf := gfr_tr hf (gfr_w (fM_laysBack_fr  e9) (gss_cons (gme 2 rfl) (gss_cons (gme 3 rfl) gss_nil)) (gss_cons (gme 3 rfl) (gss_cons (gme 8 rfl) (gss_cons (gme 2 rfl) gss_nil))))
  obtain rfl := Option.some.inj H
  exact hf
theorem fM_mixed_fr {v1 : Int32} {v2 : Int32} {h : gH} {x : (Int32 × gH)} (H : fM_mixed v1 v2 h = some x) : gfr [82, 83, 66, 71, 74, 75, 81] [(65, 39), (65, 40), (65, 36), (65, 2), (65, 35), (65, 15), (65, 9), (65, 34), (65, 20)] h x.2 := by
  unfold fM_mixed at H
  have hf := gfr_rf [82, 83, 66, 71, 74, 75, 81] [(65, 39), (65, 40), (65, 36), (65, 2), (65, 35), (65, 15), (65, 9), (65, 34), (65, 20)] h
  obtain ⟨p1, e2, H⟩ := gbi H
  replace hf := gfr_tr hf (gfr_w (fM_in_fr  e2) gss_nil gss_nil)
  by_cases q : p1.1 = (0 : Int32)
  · replace H := gift q H
    obtain rfl := Option.some.inj H
    exact hf
  · replace H := giff q H
    obtain ⟨h3, e4, H⟩ := gbi H
    replace hf := gfr_tr hf (gfr_w (fM_laysAside_fr  e4) (gss_cons (gme 0 rfl) (gss_cons (gme 1 rfl) gss_nil)) (gss_cons (gme 0 rfl) (gss_cons (gme 1 rfl) (gss_cons (gme 2 rfl) gss_nil))))
    obtain ⟨h5, e6, H⟩ := gbi H
    replace hf := gfr_tr hf (gfr_w (fM_starts_fr  e6) (gss_cons (gme 2 rfl) (gss_cons (gme 3 rfl) (gss_cons (gme 4 rfl) (gss_cons (gme 5 rfl) (gss_cons (gme 6 rfl) gss_nil))))) (gss_cons (gme 3 rfl) (gss_cons (gme 4 rfl) (gss_cons (gme 5 rfl) (gss_cons (gme 6 rfl) (gss_cons (gme 7 rfl) gss_nil))))))
    by_cases q : (h5 65 2) = (0 : Int32)
    · replace H := gift q H
      obtain ⟨b7, H⟩ := ggi H
      have b7 := gin_in b7
      exact gfr_tr hf (fM_mixed_50_fr  H)
    · replace H := giff q H
      exact gfr_tr hf (fM_mixed_50_fr  H)
theorem fM_wentBy_28_fr {k4 : Int32 → Int32 → gH → Option (Int32 × gH)} {v1 : Int32} {v3 : Int32} {s0 : Int32} {s1 : Int32} (hk4f : ∀ (u2 : Int32) (u3 : Int32) (h : gH) (x : (Int32 × gH)), k4 u2 u3 h = some x → gfr [] [] h x.2) {h : gH} {x : (Int32 × gH)} (H : fM_wentBy_28 k4 v1 v3 s0 s1 h = some x) : gfr [] [] h x.2 := by
  unfold fM_wentBy_28 at H
  have hf := gfr_rf [] [] h
  exact gfr_tr hf (hk4f _ _ _ _  H)
theorem fM_wentBy_4_fr {v1 : Int32}  : ∀ (n : Nat) (v2 : Int32) (v3 : Int32) (h : gH) (x : (Int32 × gH)), fM_wentBy_4 v1 n v2 v3 h = some x → gfr [] [] h x.2 := by
  intro n
  induction n with
  | zero => intro v2 v3 h x  H; exact g0 H
  | succ n ih =>
    intro v2 v3 h x  H
    unfold fM_wentBy_4 at H
    have hf := gfr_rf [] [] h
    by_cases q : v3 < (h 65 15)
    · replace H := gift q H
      obtain ⟨b1, H⟩ := ggi H
      have b1 := gin_in b1
      by_cases q : (h 75 v3.toNatClampNeg) = v1
      · replace H := gift q H
        exact gfr_tr hf (fM_wentBy_28_fr ih  H)
      · replace H := giff q H
        exact gfr_tr hf (fM_wentBy_28_fr ih  H)
    · replace H := giff q H
      obtain rfl := Option.some.inj H
      exact hf
theorem fM_wentBy_fr {v1 : Int32} {h : gH} {x : (Int32 × gH)} (H : fM_wentBy v1 h = some x) : gfr [] [] h x.2 := by
  unfold fM_wentBy at H
  have hf := gfr_rf [] [] h
  exact gfr_tr hf (fM_wentBy_4_fr  gfu _ _ _ _  H)
theorem fM_told_fr {v1 : Int32} {v2 : Int32} {h : gH} {x : (Int32 × gH)} (H : fM_told v1 v2 h = some x) : gfr [81, 82, 83, 66, 71, 74, 75, 86] [(65, 34), (65, 39), (65, 40), (65, 36), (65, 2), (65, 35), (65, 15), (65, 9), (65, 20)] h x.2 := by
  unfold fM_told at H
  have hf := gfr_rf [81, 82, 83, 66, 71, 74, 75, 86] [(65, 34), (65, 39), (65, 40), (65, 36), (65, 2), (65, 35), (65, 15), (65, 9), (65, 20)] h
  obtain ⟨p1, e2, H⟩ := gbi H
  replace hf := gfr_tr hf (gfr_w (fM_in_fr  e2) gss_nil gss_nil)
  by_cases q : p1.1 = (0 : Int32)
  · replace H := gift q H
    obtain rfl := Option.some.inj H
    exact hf
  · replace H := giff q H
    obtain ⟨p3, e4, H⟩ := gbi H
    replace hf := gfr_tr hf (gfr_w (fM_in_fr  e4) gss_nil gss_nil)
    by_cases q : p3.1 = (0 : Int32)
    · replace H := gift q H
      obtain rfl := Option.some.inj H
      exact hf
    · replace H := giff q H
      by_cases q : v2 = (5 : Int32)
      · replace H := gift q H
        obtain ⟨h14, e15, H⟩ := gbi H
        replace hf := gfr_tr hf (gfr_w (fM_goesThrough_fr  e15) (gss_cons (gme 0 rfl) gss_nil) (gss_cons (gme 0 rfl) gss_nil))
        obtain rfl := Option.some.inj H
        exact hf
      · replace H := giff q H
        by_cases q : v2 = (0 : Int32)
        · replace H := gift q H
          obtain ⟨b13, H⟩ := ggi H
          have b13 := gin_in b13
          obtain rfl := Option.some.inj H
          exact hf
        · replace H := giff q H
          by_cases q : v2 = (1 : Int32)
          · replace H := gift q H
            obtain ⟨b12, H⟩ := ggi H
            have b12 := gin_in b12
            obtain rfl := Option.some.inj H
            exact hf
          · replace H := giff q H
            by_cases q : v2 = (2 : Int32)
            · replace H := gift q H
              obtain ⟨p10, e11, H⟩ := gbi H
              replace hf := gfr_tr hf (gfr_w (fM_priority_fr  e11) gss_nil gss_nil)
              obtain rfl := Option.some.inj H
              exact hf
            · replace H := giff q H
              by_cases q : v2 = (3 : Int32)
              · replace H := gift q H
                obtain ⟨b9, H⟩ := ggi H
                have b9 := gin_in b9
                by_cases q : (p3.2 71 v1.toNatClampNeg) = (0 : Int32)
                · replace H := gift q H
                  obtain rfl := Option.some.inj H
                  exact hf
                · replace H := giff q H
                  obtain rfl := Option.some.inj H
                  exact hf
              · replace H := giff q H
                by_cases q : v2 = (4 : Int32)
                · replace H := gift q H
                  obtain ⟨p7, e8, H⟩ := gbi H
                  replace hf := gfr_tr hf (gfr_w (fM_isIdle_fr  e8) (gss_cons (gme 1 rfl) (gss_cons (gme 2 rfl) (gss_cons (gme 3 rfl) (gss_cons (gme 4 rfl) (gss_cons (gme 5 rfl) (gss_cons (gme 6 rfl) (gss_cons (gme 0 rfl) (gss_cons (gme 7 rfl) gss_nil)))))))) (gss_cons (gme 1 rfl) (gss_cons (gme 2 rfl) (gss_cons (gme 3 rfl) (gss_cons (gme 4 rfl) (gss_cons (gme 5 rfl) (gss_cons (gme 6 rfl) (gss_cons (gme 7 rfl) (gss_cons (gme 0 rfl) (gss_cons (gme 8 rfl) gss_nil))))))))))
                  by_cases q : p7.1 = (0 : Int32)
                  · replace H := gift q H
                    obtain rfl := Option.some.inj H
                    exact hf
                  · replace H := giff q H
                    obtain rfl := Option.some.inj H
                    exact hf
                · replace H := giff q H
                  obtain ⟨p5, e6, H⟩ := gbi H
                  replace hf := gfr_tr hf (gfr_w (fM_wentBy_fr  e6) gss_nil gss_nil)
                  obtain rfl := Option.some.inj H
                  exact hf
theorem fM_ruleCount_4_fr {v1 : Int32}  : ∀ (n : Nat) (v2 : Int32) (v3 : Int32) (h : gH) (x : (Int32 × gH)), fM_ruleCount_4 v1 n v2 v3 h = some x → gfr [] [] h x.2 := by
  intro n
  induction n with
  | zero => intro v2 v3 h x  H; exact g0 H
  | succ n ih =>
    intro v2 v3 h x  H
    unfold fM_ruleCount_4 at H
    have hf := gfr_rf [] [] h
    by_cases q : v3 < (h 65 8)
    · replace H := gift q H
      obtain ⟨b1, H⟩ := ggi H
      have b1 := gin_in b1
      exact gfr_tr hf (ih _ _ _ _  H)
    · replace H := giff q H
      obtain rfl := Option.some.inj H
      exact hf
theorem fM_ruleCount_fr {v1 : Int32} {h : gH} {x : (Int32 × gH)} (H : fM_ruleCount v1 h = some x) : gfr [] [] h x.2 := by
  unfold fM_ruleCount at H
  have hf := gfr_rf [] [] h
  exact gfr_tr hf (fM_ruleCount_4_fr  gfu _ _ _ _  H)
theorem fM_chosen_85_fr {k6 : Int32 → Int32 → Int32 → gH → Option (Int32 × gH)} {v3 : Int32} {v5 : Int32} (hk6f : ∀ (u1 : Int32) (u2 : Int32) (u3 : Int32) (h : gH) (x : (Int32 × gH)), k6 u1 u2 u3 h = some x → gfr [] [] h x.2) {h : gH} {x : (Int32 × gH)} (H : fM_chosen_85 k6 v3 v5  h = some x) : gfr [] [] h x.2 := by
  unfold fM_chosen_85 at H
  have hf := gfr_rf [] [] h
  exact gfr_tr hf (hk6f _ _ _ _ _  H)
theorem fM_chosen_66_fr {k6 : Int32 → Int32 → Int32 → gH → Option (Int32 × gH)} {v1 : Int32} {v2 : Int32} {v3 : Int32} {v4 : Int32} {s0 : Int32} (hk6f : ∀ (u1 : Int32) (u2 : Int32) (u3 : Int32) (h : gH) (x : (Int32 × gH)), k6 u1 u2 u3 h = some x → gfr [] [] h x.2) {h : gH} {x : (Int32 × gH)} (H : fM_chosen_66 k6 v1 v2 v3 v4 s0 h = some x) : gfr [] [] h x.2 := by
  unfold fM_chosen_66 at H
  have hf := gfr_rf [] [] h
  by_cases q : v4 = (1 : Int32)
  · replace H := gift q H
    exact gfr_tr hf (hk6f _ _ _ _ _  H)
  · replace H := giff q H
    by_cases q : v1 = (-1 : Int32)
    · replace H := gift q H
      exact gfr_tr hf (fM_chosen_85_fr hk6f  H)
    · replace H := giff q H
      by_cases q : v2 < s0
      · replace H := gift q H
        exact gfr_tr hf (fM_chosen_85_fr hk6f  H)
      · replace H := giff q H
        exact gfr_tr hf (hk6f _ _ _ _ _  H)
theorem fM_chosen_6_fr  : ∀ (n : Nat) (v1 : Int32) (v2 : Int32) (v3 : Int32) (h : gH) (x : (Int32 × gH)), fM_chosen_6  n v1 v2 v3 h = some x → gfr [] [] h x.2 := by
  intro n
  induction n with
  | zero => intro v1 v2 v3 h x  H; exact g0 H
  | succ n ih =>
    intro v1 v2 v3 h x  H
    unfold fM_chosen_6 at H
    have hf := gfr_rf [] [] h
    by_cases q : v3 < (8 : Int32)
    · replace H := gift q H
      obtain ⟨b1, H⟩ := ggi H
      have b1 := gin_in b1
      obtain ⟨p2, e3, H⟩ := gbi H
      replace hf := gfr_tr hf (gfr_w (fM_bitsOf_fr  e3) gss_nil gss_nil)
      by_cases q : (p2.2 65 44) = (0 : Int32)
      · replace H := gift q H
        exact gfr_tr hf (fM_chosen_66_fr ih  H)
      · replace H := giff q H
        by_cases q : (p2.2 65 44) = (1 : Int32)
        · replace H := gift q H
          exact gfr_tr hf (fM_chosen_66_fr ih  H)
        · replace H := giff q H
          by_cases q : (p2.2 65 44) = (2 : Int32)
          · replace H := gift q H
            exact gfr_tr hf (fM_chosen_66_fr ih  H)
          · replace H := giff q H
            obtain ⟨p4, e5, H⟩ := gbi H
            replace hf := gfr_tr hf (gfr_w (fM_ruleCount_fr  e5) gss_nil gss_nil)
            exact gfr_tr hf (fM_chosen_66_fr ih  H)
    · replace H := giff q H
      obtain rfl := Option.some.inj H
      exact hf
theorem fM_chosen_fr {h : gH} {x : (Int32 × gH)} (H : fM_chosen  h = some x) : gfr [] [] h x.2 := by
  unfold fM_chosen at H
  have hf := gfr_rf [] [] h
  exact gfr_tr hf (fM_chosen_6_fr  gfu _ _ _ _ _  H)
theorem fM_picked_42_fr {v1 : Int32}  : ∀ (n : Nat) (v3 : Int32) (v4 : Int32) (h : gH) (x : (Int32 × gH)), fM_picked_42 v1 n v3 v4 h = some x → gfr [] [] h x.2 := by
  intro n
  induction n with
  | zero => intro v3 v4 h x  H; exact g0 H
  | succ n ih =>
    intro v3 v4 h x  H
    unfold fM_picked_42 at H
    have hf := gfr_rf [] [] h
    by_cases q : v4 < (10 : Int32)
    · replace H := gift q H
      obtain ⟨b4, H⟩ := ggi H
      have b4 := gin_in b4
      by_cases q : (((h 66 v1.toNatClampNeg) >>> (v4 &&& 31)) &&& (1 : Int32)) = (1 : Int32)
      · replace H := gift q H
        by_cases q : v3 = (0 : Int32)
        · replace H := gift q H
          obtain rfl := Option.some.inj H
          exact hf
        · replace H := giff q H
          exact gfr_tr hf (ih _ _ _ _  H)
      · replace H := giff q H
        exact gfr_tr hf (ih _ _ _ _  H)
    · replace H := giff q H
      obtain rfl := Option.some.inj H
      exact hf
theorem fM_picked_38_fr {v1 : Int32} {s0 : Int32}  {h : gH} {x : (Int32 × gH)} (H : fM_picked_38 v1 s0 h = some x) : gfr [] [] h x.2 := by
  unfold fM_picked_38 at H
  have hf := gfr_rf [] [] h
  exact gfr_tr hf (fM_picked_42_fr  gfu _ _ _ _  H)
theorem fM_picked_fr {v1 : Int32} {h : gH} {x : (Int32 × gH)} (H : fM_picked v1 h = some x) : gfr [] [] h x.2 := by
  unfold fM_picked at H
  have hf := gfr_rf [] [] h
  obtain ⟨b1, H⟩ := ggi H
  have b1 := gin_in b1
  obtain ⟨p2, e3, H⟩ := gbi H
  replace hf := gfr_tr hf (gfr_w (fM_bitsOf_fr  e3) gss_nil gss_nil)
  by_cases q : (p2.2 65 45) = (0 : Int32)
  · replace H := gift q H
    exact gfr_tr hf (fM_picked_38_fr  H)
  · replace H := giff q H
    by_cases q : (p2.2 65 45) = (1 : Int32)
    · replace H := gift q H
      exact gfr_tr hf (fM_picked_38_fr  H)
    · replace H := giff q H
      exact gfr_tr hf (fM_picked_38_fr  H)
theorem fM_runsAll_5_fr  : ∀ (n : Nat) (v1 : Int32) (h : gH) (x : gH), fM_runsAll_5  n v1 h = some x → gfr [71, 66, 74, 75, 81] [(65, 35), (65, 15), (65, 2), (65, 34)] h x := by
  intro n
  induction n with
  | zero => intro v1 h x  H; exact g0 H
  | succ n ih =>
    intro v1 h x  H
    unfold fM_runsAll_5 at H
    have hf := gfr_rf [71, 66, 74, 75, 81] [(65, 35), (65, 15), (65, 2), (65, 34)] h
    by_cases q : v1 = (-1 : Int32)
    · replace H := gift q H
      obtain rfl := Option.some.inj H
      exact hf
    · replace H := giff q H
      obtain ⟨b3, H⟩ := ggi H
      have b3 := gin_in b3
      obtain ⟨h4, e5, H⟩ := glei H
      replace hf := gfr_e (gfr_a hf (gme 0 rfl)) e5
      obtain ⟨h6, e7, H⟩ := gbi H
      replace hf := gfr_tr hf (gfr_w (fM_prunes_fr  e7) (gss_cons (gme 1 rfl) (gss_cons (gme 2 rfl) (gss_cons (gme 3 rfl) (gss_cons (gme 0 rfl) (gss_cons (gme 4 rfl) gss_nil))))) (gss_cons (gme 0 rfl) (gss_cons (gme 1 rfl) (gss_cons (gme 2 rfl) (gss_cons (gme 3 rfl) gss_nil)))))
      obtain ⟨p8, e9, H⟩ := gbi H
      replace hf := gfr_tr hf (gfr_w (fM_nextRule_fr  e9) gss_nil gss_nil)
      exact gfr_tr hf (ih _ _ _  H)
theorem fM_runsAll_fr {h : gH} {x : gH} (H : fM_runsAll  h = some x) : gfr [71, 66, 74, 75, 81] [(65, 35), (65, 15), (65, 2), (65, 34)] h x := by
  unfold fM_runsAll at H
  have hf := gfr_rf [71, 66, 74, 75, 81] [(65, 35), (65, 15), (65, 2), (65, 34)] h
  obtain ⟨p1, e2, H⟩ := gbi H
  replace hf := gfr_tr hf (gfr_w (fM_nextRule_fr  e2) gss_nil gss_nil)
  exact gfr_tr hf (fM_runsAll_5_fr  gfu _ _ _  H)
theorem fM_lowest_2_fr {v0 : Int32}  : ∀ (n : Nat) (v1 : Int32) (h : gH) (x : (Int32 × gH)), fM_lowest_2 v0 n v1 h = some x → gfr [] [] h x.2 := by
  intro n
  induction n with
  | zero => intro v1 h x  H; exact g0 H
  | succ n ih =>
    intro v1 h x  H
    unfold fM_lowest_2 at H
    have hf := gfr_rf [] [] h
    by_cases q : ((v0 >>> (v1 &&& 31)) &&& (1 : Int32)) = (0 : Int32)
    · replace H := gift q H
      exact gfr_tr hf (ih _ _ _  H)
    · replace H := giff q H
      obtain rfl := Option.some.inj H
      exact hf
theorem fM_lowest_fr {v0 : Int32} {h : gH} {x : (Int32 × gH)} (H : fM_lowest v0 h = some x) : gfr [] [] h x.2 := by
  unfold fM_lowest at H
  have hf := gfr_rf [] [] h
  exact gfr_tr hf (fM_lowest_2_fr  gfu _ _ _  H)
theorem fM_clears_2_fr  : ∀ (n : Nat) (v1 : Int32) (h : gH) (x : gH), fM_clears_2  n v1 h = some x → gfr [71] [(65, 2)] h x := by
  intro n
  induction n with
  | zero => intro v1 h x  H; exact g0 H
  | succ n ih =>
    intro v1 h x  H
    unfold fM_clears_2 at H
    have hf := gfr_rf [71] [(65, 2)] h
    by_cases q : v1 < (24 : Int32)
    · replace H := gift q H
      obtain ⟨b1, H⟩ := ggi H
      have b1 := gin_in b1
      obtain ⟨h2, e3, H⟩ := glei H
      replace hf := gfr_e (gfr_a hf (gme 0 rfl)) e3
      exact gfr_tr hf (ih _ _ _  H)
    · replace H := giff q H
      obtain rfl := Option.some.inj H
      exact (gfr_f hf (gme 0 rfl))
theorem fM_clears_fr {h : gH} {x : gH} (H : fM_clears  h = some x) : gfr [71] [(65, 2)] h x := by
  unfold fM_clears at H
  have hf := gfr_rf [71] [(65, 2)] h
  exact gfr_tr hf (fM_clears_2_fr  gfu _ _ _  H)
theorem fM_learns_108_fr {v1 : Int32} {v2 : Int32} {v4 : Int32}  : ∀ (n : Nat) (v5 : Int32) (h : gH) (x : (Int32 × gH)), fM_learns_108 v1 v2 v4 n v5 h = some x → gfr [66, 71, 74, 75, 81, 67, 68, 70] [(65, 2), (65, 35), (65, 15), (65, 9), (65, 34)] h x.2 := by
  intro n
  induction n with
  | zero => intro v5 h x  H; exact g0 H
  | succ n ih =>
    intro v5 h x  H
    unfold fM_learns_108 at H
    have hf := gfr_rf [66, 71, 74, 75, 81, 67, 68, 70] [(65, 2), (65, 35), (65, 15), (65, 9), (65, 34)] h
    by_cases q : v5 < v1
    · replace H := gift q H
      by_cases q : ((v2 >>> (v5 &&& 31)) &&& (1 : Int32)) = (1 : Int32)
      · replace H := gift q H
        obtain ⟨b11, H⟩ := ggi H
        have b11 := gin_in b11
        obtain ⟨b12, H⟩ := ggi H
        have b12 := gin_in b12
        obtain ⟨b13, H⟩ := ggi H
        have b13 := gin_in b13
        obtain ⟨h14, e15, H⟩ := glei H
        replace hf := gfr_e (gfr_a hf (gme 6 rfl)) e15
        obtain ⟨b16, H⟩ := ggi H
        have b16 := gin_in b16
        obtain ⟨b17, H⟩ := ggi H
        have b17 := gin_in b17
        obtain ⟨b18, H⟩ := ggi H
        have b18 := gin_in b18
        obtain ⟨h19, e20, H⟩ := glei H
        replace hf := gfr_e (gfr_a hf (gme 7 rfl)) e20
        exact gfr_tr hf (ih _ _ _  H)
      · replace H := giff q H
        exact gfr_tr hf (ih _ _ _  H)
    · replace H := giff q H
      obtain ⟨h9, e10, H⟩ := glei H
      replace hf := gfr_e (gfr_f hf (gme 3 rfl)) e10
      obtain rfl := Option.some.inj H
      exact hf
theorem fM_learns_73_fr {k34 : Int32 → Int32 → gH → Option (Int32 × gH)} {v1 : Int32} {v3 : Int32} {v4 : Int32} {s0 : Int32} (hk34f : ∀ (u2 : Int32) (u4 : Int32) (h : gH) (x : (Int32 × gH)), k34 u2 u4 h = some x → gfr [66, 71, 74, 75, 81, 67, 68, 70] [(65, 2), (65, 35), (65, 15), (65, 9), (65, 34)] h x.2) {h : gH} {x : (Int32 × gH)} (H : fM_learns_73 k34 v1 v3 v4 s0 h = some x) : gfr [66, 71, 74, 75, 81, 67, 68, 70] [(65, 2), (65, 35), (65, 15), (65, 9), (65, 34)] h x.2 := by
  unfold fM_learns_73 at H
  have hf := gfr_rf [66, 71, 74, 75, 81, 67, 68, 70] [(65, 2), (65, 35), (65, 15), (65, 9), (65, 34)] h
  exact gfr_tr hf (hk34f _ _ _ _  H)
theorem fM_learns_34_fr {v1 : Int32} {v3 : Int32}  : ∀ (n : Nat) (v2 : Int32) (v4 : Int32) (h : gH) (x : (Int32 × gH)), fM_learns_34 v1 v3 n v2 v4 h = some x → gfr [66, 71, 74, 75, 81, 67, 68, 70] [(65, 2), (65, 35), (65, 15), (65, 9), (65, 34)] h x.2 := by
  intro n
  induction n with
  | zero => intro v2 v4 h x  H; exact g0 H
  | succ n ih =>
    intro v2 v4 h x  H
    unfold fM_learns_34 at H
    have hf := gfr_rf [66, 71, 74, 75, 81, 67, 68, 70] [(65, 2), (65, 35), (65, 15), (65, 9), (65, 34)] h
    by_cases q : v4 < v1
    · replace H := gift q H
      obtain ⟨h21, e22, H⟩ := gbi H
      replace hf := gfr_tr hf (gfr_w (fM_starts_fr  e22) (gss_cons (gme 0 rfl) (gss_cons (gme 1 rfl) (gss_cons (gme 2 rfl) (gss_cons (gme 3 rfl) (gss_cons (gme 4 rfl) gss_nil))))) (gss_cons (gme 0 rfl) (gss_cons (gme 1 rfl) (gss_cons (gme 2 rfl) (gss_cons (gme 3 rfl) (gss_cons (gme 4 rfl) gss_nil))))))
      by_cases q : (h21 65 2) = (0 : Int32)
      · replace H := gift q H
        exact gfr_tr hf (fM_learns_73_fr ih  H)
      · replace H := giff q H
        exact gfr_tr hf (fM_learns_73_fr ih  H)
    · replace H := giff q H
      obtain ⟨b3, H⟩ := ggi H
      have b3 := gin_in b3
      obtain ⟨h4, e5, H⟩ := glei H
      replace hf := gfr_e (gfr_a hf (gme 5 rfl)) e5
      obtain ⟨b6, H⟩ := ggi H
      have b6 := gin_in b6
      obtain ⟨h7, e8, H⟩ := glei H
      replace hf := gfr_e (gfr_a hf (gme 6 rfl)) e8
      exact gfr_tr hf (fM_learns_108_fr  gfu _ _ _  H)
theorem fM_learns_fr {v1 : Int32} {h : gH} {x : (Int32 × gH)} (H : fM_learns v1 h = some x) : gfr [66, 71, 74, 75, 81, 67, 68, 70] [(65, 2), (65, 35), (65, 15), (65, 9), (65, 34)] h x.2 := by
  unfold fM_learns at H
  have hf := gfr_rf [66, 71, 74, 75, 81, 67, 68, 70] [(65, 2), (65, 35), (65, 15), (65, 9), (65, 34)] h
  obtain ⟨h1, e2, H⟩ := gbi H
  replace hf := gfr_tr hf (gfr_w (fM_starts_fr  e2) (gss_cons (gme 0 rfl) (gss_cons (gme 1 rfl) (gss_cons (gme 2 rfl) (gss_cons (gme 3 rfl) (gss_cons (gme 4 rfl) gss_nil))))) (gss_cons (gme 0 rfl) (gss_cons (gme 1 rfl) (gss_cons (gme 2 rfl) (gss_cons (gme 3 rfl) (gss_cons (gme 4 rfl) gss_nil))))))
  by_cases q : (h1 65 2) = (0 : Int32)
  · replace H := gift q H
    obtain rfl := Option.some.inj H
    exact hf
  · replace H := giff q H
    exact gfr_tr hf (fM_learns_34_fr  gfu _ _ _ _  H)
theorem fM_searches_272_fr {R : Int32 → Int32 → gH → Option (Int32 × gH)} {k10 : Int32 → gH → Option (Int32 × gH)} {v1 : Int32} {v2 : Int32} {v3 : Int32} {v4 : Int32} {v5 : Int32} {v7 : Int32} (hR0f : ∀ a b h x, R a b h = some x → gfr [71, 66, 74, 75, 81, 87, 84, 85, 88, 67, 68, 70] [(65, 35), (65, 15), (65, 2), (65, 34), (65, 49), (65, 53), (65, 50), (65, 48), (65, 9)] h x.2) (hk10f : ∀ (u3 : Int32) (h : gH) (x : (Int32 × gH)), k10 u3 h = some x → gfr [71, 66, 74, 75, 81, 87, 84, 85, 88, 67, 68, 70] [(65, 35), (65, 15), (65, 2), (65, 34), (65, 49), (65, 53), (65, 50), (65, 48), (65, 9)] h x.2) : ∀ (n : Nat) (v8 : Int32) (h : gH) (x : (Int32 × gH)), fM_searches_272 R k10 v1 v2 v3 v4 v5 v7 n v8 h = some x → gfr [71, 66, 74, 75, 81, 87, 84, 85, 88, 67, 68, 70] [(65, 35), (65, 15), (65, 2), (65, 34), (65, 49), (65, 53), (65, 50), (65, 48), (65, 9)] h x.2 := by
  intro n
  induction n with
  | zero => intro v8 h x  H; exact g0 H
  | succ n ih =>
    intro v8 h x  H
    unfold fM_searches_272 at H
    have hf := gfr_rf [71, 66, 74, 75, 81, 87, 84, 85, 88, 67, 68, 70] [(65, 35), (65, 15), (65, 2), (65, 34), (65, 49), (65, 53), (65, 50), (65, 48), (65, 9)] h
    by_cases q : v8 < (8 : Int32)
    · replace H := gift q H
      obtain ⟨b26, H⟩ := ggi H
      have b26 := gin_in b26
      obtain ⟨b27, H⟩ := ggi H
      have b27 := gin_in b27
      obtain ⟨h28, e29, H⟩ := glei H
      replace hf := gfr_e (gfr_a hf (gme 1 rfl)) e29
      exact gfr_tr hf (ih _ _ _  H)
    · replace H := giff q H
      obtain ⟨h23, e24, H⟩ := gbi H
      replace hf := gfr_tr hf (gfr_w (fM_decides_fr  e24) (gss_cons (gme 1 rfl) (gss_cons (gme 2 rfl) (gss_cons (gme 3 rfl) (gss_cons (gme 0 rfl) gss_nil)))) (gss_cons (gme 0 rfl) (gss_cons (gme 1 rfl) (gss_cons (gme 2 rfl) gss_nil))))
      by_cases q : v7 = (0 : Int32)
      · replace H := gift q H
        exact gfr_tr hf (hk10f _ _ _  H)
      · replace H := giff q H
        obtain ⟨b25, H⟩ := ggi H
        have b25 := gin_in b25
        exact gfr_tr (gfr_a hf (gme 0 rfl)) (hk10f _ _ _  H)
theorem fM_searches_258_fr {R : Int32 → Int32 → gH → Option (Int32 × gH)} {k10 : Int32 → gH → Option (Int32 × gH)} {v1 : Int32} {v2 : Int32} {v3 : Int32} {v4 : Int32} {v5 : Int32} {s0 : Int32} (hR0f : ∀ a b h x, R a b h = some x → gfr [71, 66, 74, 75, 81, 87, 84, 85, 88, 67, 68, 70] [(65, 35), (65, 15), (65, 2), (65, 34), (65, 49), (65, 53), (65, 50), (65, 48), (65, 9)] h x.2) (hk10f : ∀ (u3 : Int32) (h : gH) (x : (Int32 × gH)), k10 u3 h = some x → gfr [71, 66, 74, 75, 81, 87, 84, 85, 88, 67, 68, 70] [(65, 35), (65, 15), (65, 2), (65, 34), (65, 49), (65, 53), (65, 50), (65, 48), (65, 9)] h x.2) {h : gH} {x : (Int32 × gH)} (H : fM_searches_258 R k10 v1 v2 v3 v4 v5 s0 h = some x) : gfr [71, 66, 74, 75, 81, 87, 84, 85, 88, 67, 68, 70] [(65, 35), (65, 15), (65, 2), (65, 34), (65, 49), (65, 53), (65, 50), (65, 48), (65, 9)] h x.2 := by
  unfold fM_searches_258 at H
  have hf := gfr_rf [71, 66, 74, 75, 81, 87, 84, 85, 88, 67, 68, 70] [(65, 35), (65, 15), (65, 2), (65, 34), (65, 49), (65, 53), (65, 50), (65, 48), (65, 9)] h
  obtain ⟨h19, e20, H⟩ := glei H
  replace hf := gfr_e (gfr_f hf (gme 5 rfl)) e20
  obtain ⟨h21, e22, H⟩ := gbi H
  replace hf := gfr_tr hf (gfr_w (fM_clears_fr  e22) (gss_cons (gme 0 rfl) gss_nil) (gss_cons (gme 2 rfl) gss_nil))
  exact gfr_tr hf (fM_searches_272_fr hR0f hk10f  gfu _ _ _  H)
theorem fM_searches_257_fr {R : Int32 → Int32 → gH → Option (Int32 × gH)} {k10 : Int32 → gH → Option (Int32 × gH)} {v1 : Int32} {v2 : Int32} {v3 : Int32} {v4 : Int32} {v5 : Int32} (hR0f : ∀ a b h x, R a b h = some x → gfr [71, 66, 74, 75, 81, 87, 84, 85, 88, 67, 68, 70] [(65, 35), (65, 15), (65, 2), (65, 34), (65, 49), (65, 53), (65, 50), (65, 48), (65, 9)] h x.2) (hk10f : ∀ (u3 : Int32) (h : gH) (x : (Int32 × gH)), k10 u3 h = some x → gfr [71, 66, 74, 75, 81, 87, 84, 85, 88, 67, 68, 70] [(65, 35), (65, 15), (65, 2), (65, 34), (65, 49), (65, 53), (65, 50), (65, 48), (65, 9)] h x.2) {h : gH} {x : (Int32 × gH)} (H : fM_searches_257 R k10 v1 v2 v3 v4 v5  h = some x) : gfr [71, 66, 74, 75, 81, 87, 84, 85, 88, 67, 68, 70] [(65, 35), (65, 15), (65, 2), (65, 34), (65, 49), (65, 53), (65, 50), (65, 48), (65, 9)] h x.2 := by
  unfold fM_searches_257 at H
  have hf := gfr_rf [71, 66, 74, 75, 81, 87, 84, 85, 88, 67, 68, 70] [(65, 35), (65, 15), (65, 2), (65, 34), (65, 49), (65, 53), (65, 50), (65, 48), (65, 9)] h
  exact gfr_tr hf (fM_searches_258_fr hR0f hk10f  H)
theorem fM_searches_159_fr {R : Int32 → Int32 → gH → Option (Int32 × gH)} {k10 : Int32 → gH → Option (Int32 × gH)} {v1 : Int32} {v2 : Int32} {v3 : Int32} {v4 : Int32} {v5 : Int32} (hR0f : ∀ a b h x, R a b h = some x → gfr [71, 66, 74, 75, 81, 87, 84, 85, 88, 67, 68, 70] [(65, 35), (65, 15), (65, 2), (65, 34), (65, 49), (65, 53), (65, 50), (65, 48), (65, 9)] h x.2) (hk10f : ∀ (u3 : Int32) (h : gH) (x : (Int32 × gH)), k10 u3 h = some x → gfr [71, 66, 74, 75, 81, 87, 84, 85, 88, 67, 68, 70] [(65, 35), (65, 15), (65, 2), (65, 34), (65, 49), (65, 53), (65, 50), (65, 48), (65, 9)] h x.2) : ∀ (n : Nat) (v6 : Int32) (h : gH) (x : (Int32 × gH)), fM_searches_159 R k10 v1 v2 v3 v4 v5 n v6 h = some x → gfr [71, 66, 74, 75, 81, 87, 84, 85, 88, 67, 68, 70] [(65, 35), (65, 15), (65, 2), (65, 34), (65, 49), (65, 53), (65, 50), (65, 48), (65, 9)] h x.2 := by
  intro n
  induction n with
  | zero => intro v6 h x  H; exact g0 H
  | succ n ih =>
    intro v6 h x  H
    unfold fM_searches_159 at H
    have hf := gfr_rf [71, 66, 74, 75, 81, 87, 84, 85, 88, 67, 68, 70] [(65, 35), (65, 15), (65, 2), (65, 34), (65, 49), (65, 53), (65, 50), (65, 48), (65, 9)] h
    by_cases q : v6 < (8 : Int32)
    · replace H := gift q H
      obtain ⟨b32, H⟩ := ggi H
      have b32 := gin_in b32
      obtain ⟨b33, H⟩ := ggi H
      have b33 := gin_in b33
      obtain ⟨h34, e35, H⟩ := glei H
      replace hf := gfr_e (gfr_a hf (gme 8 rfl)) e35
      exact gfr_tr hf (ih _ _ _  H)
    · replace H := giff q H
      obtain ⟨h15, e16, H⟩ := gbi H
      replace hf := gfr_tr hf (gfr_w (fM_decides_fr  e16) (gss_cons (gme 1 rfl) (gss_cons (gme 2 rfl) (gss_cons (gme 3 rfl) (gss_cons (gme 0 rfl) gss_nil)))) (gss_cons (gme 0 rfl) (gss_cons (gme 1 rfl) (gss_cons (gme 2 rfl) gss_nil))))
      obtain ⟨p17, e18, H⟩ := gbi H
      replace hf := gfr_tr hf (hR0f _ _ _ _ e18)
      by_cases q : p17.1 = (0 : Int32)
      · replace H := gift q H
        by_cases q : (p17.2 65 53) = (0 : Int32)
        · replace H := gift q H
          exact gfr_tr hf (fM_searches_257_fr hR0f hk10f  H)
        · replace H := giff q H
          by_cases q : (p17.2 65 46) = (0 : Int32)
          · replace H := gift q H
            exact gfr_tr hf (fM_searches_257_fr hR0f hk10f  H)
          · replace H := giff q H
            by_cases q : (p17.2 65 9) < (8 : Int32)
            · replace H := gift q H
              obtain ⟨p30, e31, H⟩ := gbi H
              replace hf := gfr_tr hf (gfr_w (fM_learns_fr  e31) (gss_cons (gme 1 rfl) (gss_cons (gme 0 rfl) (gss_cons (gme 2 rfl) (gss_cons (gme 3 rfl) (gss_cons (gme 4 rfl) (gss_cons (gme 9 rfl) (gss_cons (gme 10 rfl) (gss_cons (gme 11 rfl) gss_nil)))))))) (gss_cons (gme 2 rfl) (gss_cons (gme 0 rfl) (gss_cons (gme 1 rfl) (gss_cons (gme 8 rfl) (gss_cons (gme 3 rfl) gss_nil))))))
              by_cases q : p30.1 = (0 : Int32)
              · replace H := gift q H
                exact gfr_tr hf (fM_searches_257_fr hR0f hk10f  H)
              · replace H := giff q H
                exact gfr_tr hf (fM_searches_258_fr hR0f hk10f  H)
            · replace H := giff q H
              exact gfr_tr hf (fM_searches_257_fr hR0f hk10f  H)
      · replace H := giff q H
        obtain rfl := Option.some.inj H
        exact hf
theorem fM_searches_65_fr {R : Int32 → Int32 → gH → Option (Int32 × gH)} (hR0f : ∀ a b h x, R a b h = some x → gfr [71, 66, 74, 75, 81, 87, 84, 85, 88, 67, 68, 70] [(65, 35), (65, 15), (65, 2), (65, 34), (65, 49), (65, 53), (65, 50), (65, 48), (65, 9)] h x.2)  : ∀ (n : Nat) (v5 : Int32) (h : gH) (x : (Int32 × gH)), fM_searches_65 R  n v5 h = some x → gfr [71, 66, 74, 75, 81, 87, 84, 85, 88, 67, 68, 70] [(65, 35), (65, 15), (65, 2), (65, 34), (65, 49), (65, 53), (65, 50), (65, 48), (65, 9)] h x.2 := by
  intro n
  induction n with
  | zero => intro v5 h x  H; exact g0 H
  | succ n ih =>
    intro v5 h x  H
    unfold fM_searches_65 at H
    have hf := gfr_rf [71, 66, 74, 75, 81, 87, 84, 85, 88, 67, 68, 70] [(65, 35), (65, 15), (65, 2), (65, 34), (65, 49), (65, 53), (65, 50), (65, 48), (65, 9)] h
    by_cases q : v5 < (8 : Int32)
    · replace H := gift q H
      obtain ⟨b40, H⟩ := ggi H
      have b40 := gin_in b40
      obtain ⟨p41, e42, H⟩ := gbi H
      replace hf := gfr_tr hf (gfr_w (fM_lowest_fr  e42) gss_nil gss_nil)
      obtain ⟨b43, H⟩ := ggi H
      have b43 := gin_in b43
      obtain ⟨h44, e45, H⟩ := glei H
      replace hf := gfr_e (gfr_a hf (gme 5 rfl)) e45
      exact gfr_tr hf (ih _ _ _  H)
    · replace H := giff q H
      obtain ⟨h38, e39, H⟩ := glei H
      replace hf := gfr_e (gfr_f hf (gme 5 rfl)) e39
      by_cases q : (h38 65 47) = (0 : Int32)
      · replace H := gift q H
        obtain rfl := Option.some.inj H
        exact hf
      · replace H := giff q H
        obtain rfl := Option.some.inj H
        exact hf
theorem fM_searches_10_fr {R : Int32 → Int32 → gH → Option (Int32 × gH)} {v1 : Int32} {v2 : Int32} (hR0f : ∀ a b h x, R a b h = some x → gfr [71, 66, 74, 75, 81, 87, 84, 85, 88, 67, 68, 70] [(65, 35), (65, 15), (65, 2), (65, 34), (65, 49), (65, 53), (65, 50), (65, 48), (65, 9)] h x.2)  : ∀ (n : Nat) (v3 : Int32) (h : gH) (x : (Int32 × gH)), fM_searches_10 R v1 v2 n v3 h = some x → gfr [71, 66, 74, 75, 81, 87, 84, 85, 88, 67, 68, 70] [(65, 35), (65, 15), (65, 2), (65, 34), (65, 49), (65, 53), (65, 50), (65, 48), (65, 9)] h x.2 := by
  intro n
  induction n with
  | zero => intro v3 h x  H; exact g0 H
  | succ n ih =>
    intro v3 h x  H
    unfold fM_searches_10 at H
    have hf := gfr_rf [71, 66, 74, 75, 81, 87, 84, 85, 88, 67, 68, 70] [(65, 35), (65, 15), (65, 2), (65, 34), (65, 49), (65, 53), (65, 50), (65, 48), (65, 9)] h
    obtain ⟨h1, e2, H⟩ := gbi H
    replace hf := gfr_tr hf (gfr_w (fM_runsAll_fr  e2) (gss_cons (gme 0 rfl) (gss_cons (gme 1 rfl) (gss_cons (gme 2 rfl) (gss_cons (gme 3 rfl) (gss_cons (gme 4 rfl) gss_nil))))) (gss_cons (gme 0 rfl) (gss_cons (gme 1 rfl) (gss_cons (gme 2 rfl) (gss_cons (gme 3 rfl) gss_nil)))))
    by_cases q : (h1 65 2) = (0 : Int32)
    · replace H := gift q H
      obtain ⟨p3, e4, H⟩ := gbi H
      replace hf := gfr_tr hf (gfr_w (fM_chosen_fr  e4) gss_nil gss_nil)
      by_cases q : p3.1 = (-1 : Int32)
      · replace H := gift q H
        obtain ⟨h36, e37, H⟩ := glei H
        replace hf := gfr_e (gfr_f hf (gme 6 rfl)) e37
        exact gfr_tr hf (fM_searches_65_fr hR0f  gfu _ _ _  H)
      · replace H := giff q H
        by_cases q : (p3.2 65 48) = v2
        · replace H := gift q H
          obtain rfl := Option.some.inj H
          exact hf
        · replace H := giff q H
          obtain ⟨h5, e6, H⟩ := glei H
          replace hf := gfr_e (gfr_f hf (gme 7 rfl)) e6
          obtain ⟨p7, e8, H⟩ := gbi H
          replace hf := gfr_tr hf (gfr_w (fM_picked_fr  e8) gss_nil gss_nil)
          obtain ⟨b9, H⟩ := ggi H
          have b9 := gin_in b9
          obtain ⟨h10, e11, H⟩ := glei H
          replace hf := gfr_e (gfr_a hf (gme 6 rfl)) e11
          obtain ⟨b12, H⟩ := ggi H
          have b12 := gin_in b12
          obtain ⟨h13, e14, H⟩ := glei H
          replace hf := gfr_e (gfr_a hf (gme 7 rfl)) e14
          exact gfr_tr hf (fM_searches_159_fr hR0f ih  gfu _ _ _  H)
    · replace H := giff q H
      obtain ⟨h46, e47, H⟩ := glei H
      replace hf := gfr_e (gfr_f hf (gme 4 rfl)) e47
      obtain ⟨b48, H⟩ := ggi H
      have b48 := gbo_or b48
      obtain ⟨h49, e50, H⟩ := glei H
      replace hf := gfr_e (gfr_f hf (gme 5 rfl)) e50
      obtain rfl := Option.some.inj H
      exact hf
theorem fM_searches_9_fr {R : Int32 → Int32 → gH → Option (Int32 × gH)} {v1 : Int32} {v2 : Int32} {s0 : Int32} (hR0f : ∀ a b h x, R a b h = some x → gfr [71, 66, 74, 75, 81, 87, 84, 85, 88, 67, 68, 70] [(65, 35), (65, 15), (65, 2), (65, 34), (65, 49), (65, 53), (65, 50), (65, 48), (65, 9)] h x.2)  {h : gH} {x : (Int32 × gH)} (H : fM_searches_9 R v1 v2 s0 h = some x) : gfr [71, 66, 74, 75, 81, 87, 84, 85, 88, 67, 68, 70] [(65, 35), (65, 15), (65, 2), (65, 34), (65, 49), (65, 53), (65, 50), (65, 48), (65, 9)] h x.2 := by
  unfold fM_searches_9 at H
  have hf := gfr_rf [71, 66, 74, 75, 81, 87, 84, 85, 88, 67, 68, 70] [(65, 35), (65, 15), (65, 2), (65, 34), (65, 49), (65, 53), (65, 50), (65, 48), (65, 9)] h
  exact gfr_tr hf (fM_searches_10_fr hR0f  gfu _ _ _  H)
theorem fM_searches_fr {R : Int32 → Int32 → gH → Option (Int32 × gH)} {v1 : Int32} {v2 : Int32} (hR0f : ∀ a b h x, R a b h = some x → gfr [71, 66, 74, 75, 81, 87, 84, 85, 88, 67, 68, 70] [(65, 35), (65, 15), (65, 2), (65, 34), (65, 49), (65, 53), (65, 50), (65, 48), (65, 9)] h x.2) {h : gH} {x : (Int32 × gH)} (H : fM_searches R v1 v2 h = some x) : gfr [71, 66, 74, 75, 81, 87, 84, 85, 88, 67, 68, 70] [(65, 35), (65, 15), (65, 2), (65, 34), (65, 49), (65, 53), (65, 50), (65, 48), (65, 9)] h x.2 := by
  unfold fM_searches at H
  have hf := gfr_rf [71, 66, 74, 75, 81, 87, 84, 85, 88, 67, 68, 70] [(65, 35), (65, 15), (65, 2), (65, 34), (65, 49), (65, 53), (65, 50), (65, 48), (65, 9)] h
  by_cases q : (0 : Int32) < v1
  · replace H := gift q H
    exact gfr_tr hf (fM_searches_9_fr hR0f  H)
  · replace H := giff q H
    exact gfr_tr hf (fM_searches_9_fr hR0f  H)
theorem gMS_fra : ∀ n : Nat, ∀ (a b : Int32) (h : gH) (x : Int32 × gH), gMS n a b h = some x → gfr [71, 66, 74, 75, 81, 87, 84, 85, 88, 67, 68, 70] [(65, 35), (65, 15), (65, 2), (65, 34), (65, 49), (65, 53), (65, 50), (65, 48), (65, 9)] h x.2 := by
  intro n
  induction n with
  | zero => exact fun a b h x H => g0 H
  | succ n ih =>
    exact fun a b h x H => fM_searches_fr ih H
theorem gMS_fr_0 (n : Nat) : ∀ (a b : Int32) (h : gH) (x : Int32 × gH), gMS n a b h = some x → gfr [71, 66, 74, 75, 81, 87, 84, 85, 88, 67, 68, 70] [(65, 35), (65, 15), (65, 2), (65, 34), (65, 49), (65, 53), (65, 50), (65, 48), (65, 9)] h x.2 := gMS_fra n
theorem fM_searched_fr {v1 : Int32} {v2 : Int32} {v3 : Int32} {v4 : Int32} {v5 : Int32} {h : gH} {x : (Int32 × gH)} (H : fM_searched v1 v2 v3 v4 v5 h = some x) : gfr [71, 66, 74, 75, 81, 87, 84, 85, 88, 67, 68, 70] [(65, 44), (65, 45), (65, 46), (65, 47), (65, 48), (65, 49), (65, 50), (65, 9), (65, 53), (65, 35), (65, 15), (65, 2), (65, 34), (65, 54)] h x.2 := by
  unfold fM_searched at H
  have hf := gfr_rf [71, 66, 74, 75, 81, 87, 84, 85, 88, 67, 68, 70] [(65, 44), (65, 45), (65, 46), (65, 47), (65, 48), (65, 49), (65, 50), (65, 9), (65, 53), (65, 35), (65, 15), (65, 2), (65, 34), (65, 54)] h
  obtain ⟨h1, e2, H⟩ := glei H
  replace hf := gfr_e (gfr_f hf (gme 0 rfl)) e2
  obtain ⟨h3, e4, H⟩ := glei H
  replace hf := gfr_e (gfr_f hf (gme 1 rfl)) e4
  obtain ⟨b5, H⟩ := ggi H
  have b5 := gbo_or b5
  obtain ⟨h6, e7, H⟩ := glei H
  replace hf := gfr_e (gfr_f hf (gme 2 rfl)) e7
  obtain ⟨b8, H⟩ := ggi H
  have b8 := gbo_or b8
  obtain ⟨h9, e10, H⟩ := glei H
  replace hf := gfr_e (gfr_f hf (gme 3 rfl)) e10
  obtain ⟨h11, e12, H⟩ := glei H
  replace hf := gfr_e (gfr_f hf (gme 4 rfl)) e12
  obtain ⟨h13, e14, H⟩ := glei H
  replace hf := gfr_e (gfr_f hf (gme 5 rfl)) e14
  obtain ⟨h15, e16, H⟩ := glei H
  replace hf := gfr_e (gfr_f hf (gme 6 rfl)) e16
  obtain ⟨h17, e18, H⟩ := glei H
  replace hf := gfr_e (gfr_f hf (gme 7 rfl)) e18
  obtain ⟨h19, e20, H⟩ := glei H
  replace hf := gfr_e (gfr_f hf (gme 8 rfl)) e20
  obtain ⟨p21, e22, H⟩ := gbi H
  replace hf := gfr_tr hf (gfr_w (gMS_fr_0 40 _ _ _ _ e22) (gss_cons (gme 0 rfl) (gss_cons (gme 1 rfl) (gss_cons (gme 2 rfl) (gss_cons (gme 3 rfl) (gss_cons (gme 4 rfl) (gss_cons (gme 5 rfl) (gss_cons (gme 6 rfl) (gss_cons (gme 7 rfl) (gss_cons (gme 8 rfl) (gss_cons (gme 9 rfl) (gss_cons (gme 10 rfl) (gss_cons (gme 11 rfl) gss_nil)))))))))))) (gss_cons (gme 9 rfl) (gss_cons (gme 10 rfl) (gss_cons (gme 11 rfl) (gss_cons (gme 12 rfl) (gss_cons (gme 5 rfl) (gss_cons (gme 8 rfl) (gss_cons (gme 6 rfl) (gss_cons (gme 4 rfl) (gss_cons (gme 7 rfl) gss_nil))))))))))
  obtain ⟨h23, e24, H⟩ := glei H
  replace hf := gfr_e (gfr_f hf (gme 13 rfl)) e24
  obtain ⟨h25, e26, H⟩ := glei H
  replace hf := gfr_e (gfr_f hf (gme 7 rfl)) e26
  obtain rfl := Option.some.inj H
  exact hf
theorem fM_laysAside2_28_fr  : ∀ (n : Nat) (v1 : Int32) (h : gH) (x : gH), fM_laysAside2_28  n v1 h = some x → gfr [89, 90] [(65, 57), (65, 36)] h x := by
  intro n
  induction n with
  | zero => intro v1 h x  H; exact g0 H
  | succ n ih =>
    intro v1 h x  H
    unfold fM_laysAside2_28 at H
    have hf := gfr_rf [89, 90] [(65, 57), (65, 36)] h
    by_cases q : v1 < (24 : Int32)
    · replace H := gift q H
      obtain ⟨b4, H⟩ := ggi H
      have b4 := gin_in b4
      obtain ⟨b5, H⟩ := ggi H
      have b5 := gin_in b5
      obtain ⟨b6, H⟩ := ggi H
      have b6 := gbo_or b6
      obtain ⟨h7, e8, H⟩ := glei H
      replace hf := gfr_e (gfr_a hf (gme 1 rfl)) e8
      exact gfr_tr hf (ih _ _ _  H)
    · replace H := giff q H
      obtain ⟨b1, H⟩ := ggi H
      have b1 := gbo_or b1
      obtain ⟨h2, e3, H⟩ := glei H
      replace hf := gfr_e (gfr_f hf (gme 0 rfl)) e3
      obtain rfl := Option.some.inj H
      exact (gfr_f hf (gme 1 rfl))
theorem fM_laysAside2_2_fr  : ∀ (n : Nat) (v1 : Int32) (h : gH) (x : gH), fM_laysAside2_2  n v1 h = some x → gfr [89, 90] [(65, 57), (65, 36)] h x := by
  intro n
  induction n with
  | zero => intro v1 h x  H; exact g0 H
  | succ n ih =>
    intro v1 h x  H
    unfold fM_laysAside2_2 at H
    have hf := gfr_rf [89, 90] [(65, 57), (65, 36)] h
    by_cases q : v1 < (8 : Int32)
    · replace H := gift q H
      obtain ⟨b9, H⟩ := ggi H
      have b9 := gin_in b9
      obtain ⟨b10, H⟩ := ggi H
      have b10 := gin_in b10
      obtain ⟨h11, e12, H⟩ := glei H
      replace hf := gfr_e (gfr_a hf (gme 0 rfl)) e12
      exact gfr_tr hf (ih _ _ _  H)
    · replace H := giff q H
      exact gfr_tr hf (fM_laysAside2_28_fr  gfu _ _ _  H)
theorem fM_laysAside2_fr {h : gH} {x : gH} (H : fM_laysAside2  h = some x) : gfr [89, 90] [(65, 57), (65, 36)] h x := by
  unfold fM_laysAside2 at H
  have hf := gfr_rf [89, 90] [(65, 57), (65, 36)] h
  exact gfr_tr hf (fM_laysAside2_2_fr  gfu _ _ _  H)
theorem fM_laysBack2_28_fr  : ∀ (n : Nat) (v1 : Int32) (h : gH) (x : gH), fM_laysBack2_28  n v1 h = some x → gfr [66, 71] [(65, 2), (65, 36)] h x := by
  intro n
  induction n with
  | zero => intro v1 h x  H; exact g0 H
  | succ n ih =>
    intro v1 h x  H
    unfold fM_laysBack2_28 at H
    have hf := gfr_rf [66, 71] [(65, 2), (65, 36)] h
    by_cases q : v1 < (24 : Int32)
    · replace H := gift q H
      obtain ⟨b4, H⟩ := ggi H
      have b4 := gin_in b4
      obtain ⟨b5, H⟩ := ggi H
      have b5 := gin_in b5
      obtain ⟨b6, H⟩ := ggi H
      have b6 := gbo_or b6
      obtain ⟨h7, e8, H⟩ := glei H
      replace hf := gfr_e (gfr_a hf (gme 1 rfl)) e8
      exact gfr_tr hf (ih _ _ _  H)
    · replace H := giff q H
      obtain ⟨b1, H⟩ := ggi H
      have b1 := gbo_or b1
      obtain ⟨h2, e3, H⟩ := glei H
      replace hf := gfr_e (gfr_f hf (gme 0 rfl)) e3
      obtain rfl := Option.some.inj H
      exact (gfr_f hf (gme 1 rfl))
theorem fM_laysBack2_2_fr  : ∀ (n : Nat) (v1 : Int32) (h : gH) (x : gH), fM_laysBack2_2  n v1 h = some x → gfr [66, 71] [(65, 2), (65, 36)] h x := by
  intro n
  induction n with
  | zero => intro v1 h x  H; exact g0 H
  | succ n ih =>
    intro v1 h x  H
    unfold fM_laysBack2_2 at H
    have hf := gfr_rf [66, 71] [(65, 2), (65, 36)] h
    by_cases q : v1 < (8 : Int32)
    · replace H := gift q H
      obtain ⟨b9, H⟩ := ggi H
      have b9 := gin_in b9
      obtain ⟨b10, H⟩ := ggi H
      have b10 := gin_in b10
      obtain ⟨h11, e12, H⟩ := glei H
      replace hf := gfr_e (gfr_a hf (gme 0 rfl)) e12
      exact gfr_tr hf (ih _ _ _  H)
    · replace H := giff q H
      exact gfr_tr hf (fM_laysBack2_28_fr  gfu _ _ _  H)
theorem fM_laysBack2_fr {h : gH} {x : gH} (H : fM_laysBack2  h = some x) : gfr [66, 71] [(65, 2), (65, 36)] h x := by
  unfold fM_laysBack2 at H
  have hf := gfr_rf [66, 71] [(65, 2), (65, 36)] h
  exact gfr_tr hf (fM_laysBack2_2_fr  gfu _ _ _  H)
theorem fM_search_131_fr {v5 : Int32}  : ∀ (n : Nat) (v6 : Int32) (v7 : Int32) (h : gH) (x : (Int32 × gH)), fM_search_131 v5 n v6 v7 h = some x → gfr [89, 90, 71, 66, 74, 75, 81, 87, 84, 85, 88, 67, 68, 70] [(65, 57), (65, 36), (65, 44), (65, 45), (65, 46), (65, 47), (65, 48), (65, 49), (65, 50), (65, 9), (65, 53), (65, 35), (65, 15), (65, 2), (65, 34), (65, 54)] h x.2 := by
  intro n
  induction n with
  | zero => intro v6 v7 h x  H; exact g0 H
  | succ n ih =>
    intro v6 v7 h x  H
    unfold fM_search_131 at H
    have hf := gfr_rf [89, 90, 71, 66, 74, 75, 81, 87, 84, 85, 88, 67, 68, 70] [(65, 57), (65, 36), (65, 44), (65, 45), (65, 46), (65, 47), (65, 48), (65, 49), (65, 50), (65, 9), (65, 53), (65, 35), (65, 15), (65, 2), (65, 34), (65, 54)] h
    by_cases q : v7 < (8 : Int32)
    · replace H := gift q H
      obtain ⟨b15, H⟩ := ggi H
      have b15 := gin_in b15
      exact gfr_tr hf (ih _ _ _ _  H)
    · replace H := giff q H
      by_cases q : v5 = (1 : Int32)
      · replace H := gift q H
        obtain rfl := Option.some.inj H
        exact hf
      · replace H := giff q H
        obtain rfl := Option.some.inj H
        exact hf
theorem fM_search_67_fr {v4 : Int32} {s1 : Int32} {s2 : Int32} {s3 : Int32}  {h : gH} {x : (Int32 × gH)} (H : fM_search_67 v4 s1 s2 s3 h = some x) : gfr [89, 90, 71, 66, 74, 75, 81, 87, 84, 85, 88, 67, 68, 70] [(65, 57), (65, 36), (65, 44), (65, 45), (65, 46), (65, 47), (65, 48), (65, 49), (65, 50), (65, 9), (65, 53), (65, 35), (65, 15), (65, 2), (65, 34), (65, 54)] h x.2 := by
  unfold fM_search_67 at H
  have hf := gfr_rf [89, 90, 71, 66, 74, 75, 81, 87, 84, 85, 88, 67, 68, 70] [(65, 57), (65, 36), (65, 44), (65, 45), (65, 46), (65, 47), (65, 48), (65, 49), (65, 50), (65, 9), (65, 53), (65, 35), (65, 15), (65, 2), (65, 34), (65, 54)] h
  obtain ⟨p11, e12, H⟩ := gbi H
  replace hf := gfr_tr hf (gfr_w (fM_searched_fr  e12) (gss_cons (gme 2 rfl) (gss_cons (gme 3 rfl) (gss_cons (gme 4 rfl) (gss_cons (gme 5 rfl) (gss_cons (gme 6 rfl) (gss_cons (gme 7 rfl) (gss_cons (gme 8 rfl) (gss_cons (gme 9 rfl) (gss_cons (gme 10 rfl) (gss_cons (gme 11 rfl) (gss_cons (gme 12 rfl) (gss_cons (gme 13 rfl) gss_nil)))))))))))) (gss_cons (gme 2 rfl) (gss_cons (gme 3 rfl) (gss_cons (gme 4 rfl) (gss_cons (gme 5 rfl) (gss_cons (gme 6 rfl) (gss_cons (gme 7 rfl) (gss_cons (gme 8 rfl) (gss_cons (gme 9 rfl) (gss_cons (gme 10 rfl) (gss_cons (gme 11 rfl) (gss_cons (gme 12 rfl) (gss_cons (gme 13 rfl) (gss_cons (gme 14 rfl) (gss_cons (gme 15 rfl) gss_nil)))))))))))))))
  obtain ⟨h13, e14, H⟩ := gbi H
  replace hf := gfr_tr hf (gfr_w (fM_laysBack2_fr  e14) (gss_cons (gme 3 rfl) (gss_cons (gme 2 rfl) gss_nil)) (gss_cons (gme 13 rfl) (gss_cons (gme 1 rfl) gss_nil)))
  by_cases q : p11.1 = (-6 : Int32)
  · replace H := gift q H
    obtain rfl := Option.some.inj H
    exact hf
  · replace H := giff q H
    by_cases q : (0 : Int32) < v4
    · replace H := gift q H
      by_cases q : v4 = (1 : Int32)
      · replace H := gift q H
        obtain rfl := Option.some.inj H
        exact hf
      · replace H := giff q H
        by_cases q : v4 = (2 : Int32)
        · replace H := gift q H
          obtain rfl := Option.some.inj H
          exact hf
        · replace H := giff q H
          obtain rfl := Option.some.inj H
          exact hf
    · replace H := giff q H
      exact gfr_tr hf (fM_search_131_fr  gfu _ _ _ _  H)
theorem fM_search_fr {v1 : Int32} {v2 : Int32} {v3 : Int32} {v4 : Int32} {h : gH} {x : (Int32 × gH)} (H : fM_search v1 v2 v3 v4 h = some x) : gfr [89, 90, 71, 66, 74, 75, 81, 87, 84, 85, 88, 67, 68, 70] [(65, 57), (65, 36), (65, 44), (65, 45), (65, 46), (65, 47), (65, 48), (65, 49), (65, 50), (65, 9), (65, 53), (65, 35), (65, 15), (65, 2), (65, 34), (65, 54)] h x.2 := by
  unfold fM_search at H
  have hf := gfr_rf [89, 90, 71, 66, 74, 75, 81, 87, 84, 85, 88, 67, 68, 70] [(65, 57), (65, 36), (65, 44), (65, 45), (65, 46), (65, 47), (65, 48), (65, 49), (65, 50), (65, 9), (65, 53), (65, 35), (65, 15), (65, 2), (65, 34), (65, 54)] h
  obtain ⟨p1, e2, H⟩ := gbi H
  replace hf := gfr_tr hf (gfr_w (fM_in_fr  e2) gss_nil gss_nil)
  by_cases q : p1.1 = (0 : Int32)
  · replace H := gift q H
    obtain rfl := Option.some.inj H
    exact hf
  · replace H := giff q H
    obtain ⟨p3, e4, H⟩ := gbi H
    replace hf := gfr_tr hf (gfr_w (fM_in_fr  e4) gss_nil gss_nil)
    by_cases q : p3.1 = (0 : Int32)
    · replace H := gift q H
      obtain rfl := Option.some.inj H
      exact hf
    · replace H := giff q H
      obtain ⟨p5, e6, H⟩ := gbi H
      replace hf := gfr_tr hf (gfr_w (fM_in_fr  e6) gss_nil gss_nil)
      by_cases q : p5.1 = (0 : Int32)
      · replace H := gift q H
        obtain rfl := Option.some.inj H
        exact hf
      · replace H := giff q H
        obtain ⟨p7, e8, H⟩ := gbi H
        replace hf := gfr_tr hf (gfr_w (fM_in_fr  e8) gss_nil gss_nil)
        by_cases q : p7.1 = (0 : Int32)
        · replace H := gift q H
          obtain rfl := Option.some.inj H
          exact hf
        · replace H := giff q H
          obtain ⟨h9, e10, H⟩ := gbi H
          replace hf := gfr_tr hf (gfr_w (fM_laysAside2_fr  e10) (gss_cons (gme 0 rfl) (gss_cons (gme 1 rfl) gss_nil)) (gss_cons (gme 0 rfl) (gss_cons (gme 1 rfl) gss_nil)))
          by_cases q : v3 = (1 : Int32)
          · replace H := gift q H
            exact gfr_tr hf (fM_search_67_fr  H)
          · replace H := giff q H
            exact gfr_tr hf (fM_search_67_fr  H)
theorem fM_solutions_fr {h : gH} {x : (Int64 × gH)} (H : fM_solutions  h = some x) : gfr [89, 90, 71, 66, 74, 75, 81, 87, 84, 85, 88, 67, 68, 70] [(65, 57), (65, 36), (65, 44), (65, 45), (65, 46), (65, 47), (65, 48), (65, 49), (65, 50), (65, 9), (65, 53), (65, 35), (65, 15), (65, 2), (65, 34), (65, 54)] h x.2 := by
  unfold fM_solutions at H
  have hf := gfr_rf [89, 90, 71, 66, 74, 75, 81, 87, 84, 85, 88, 67, 68, 70] [(65, 57), (65, 36), (65, 44), (65, 45), (65, 46), (65, 47), (65, 48), (65, 49), (65, 50), (65, 9), (65, 53), (65, 35), (65, 15), (65, 2), (65, 34), (65, 54)] h
  obtain ⟨h1, e2, H⟩ := gbi H
  replace hf := gfr_tr hf (gfr_w (fM_laysAside2_fr  e2) (gss_cons (gme 0 rfl) (gss_cons (gme 1 rfl) gss_nil)) (gss_cons (gme 0 rfl) (gss_cons (gme 1 rfl) gss_nil)))
  obtain ⟨p3, e4, H⟩ := gbi H
  replace hf := gfr_tr hf (gfr_w (fM_searched_fr  e4) (gss_cons (gme 2 rfl) (gss_cons (gme 3 rfl) (gss_cons (gme 4 rfl) (gss_cons (gme 5 rfl) (gss_cons (gme 6 rfl) (gss_cons (gme 7 rfl) (gss_cons (gme 8 rfl) (gss_cons (gme 9 rfl) (gss_cons (gme 10 rfl) (gss_cons (gme 11 rfl) (gss_cons (gme 12 rfl) (gss_cons (gme 13 rfl) gss_nil)))))))))))) (gss_cons (gme 2 rfl) (gss_cons (gme 3 rfl) (gss_cons (gme 4 rfl) (gss_cons (gme 5 rfl) (gss_cons (gme 6 rfl) (gss_cons (gme 7 rfl) (gss_cons (gme 8 rfl) (gss_cons (gme 9 rfl) (gss_cons (gme 10 rfl) (gss_cons (gme 11 rfl) (gss_cons (gme 12 rfl) (gss_cons (gme 13 rfl) (gss_cons (gme 14 rfl) (gss_cons (gme 15 rfl) gss_nil)))))))))))))))
  obtain ⟨h5, e6, H⟩ := gbi H
  replace hf := gfr_tr hf (gfr_w (fM_laysBack2_fr  e6) (gss_cons (gme 3 rfl) (gss_cons (gme 2 rfl) gss_nil)) (gss_cons (gme 13 rfl) (gss_cons (gme 1 rfl) gss_nil)))
  by_cases q : p3.1 = (-6 : Int32)
  · replace H := gift q H
    obtain rfl := Option.some.inj H
    exact hf
  · replace H := giff q H
    obtain rfl := Option.some.inj H
    exact hf
theorem fM_reach_144_fr {k30 : Int32 → Int32 → gH → Option (Int32 × gH)} {v1 : Int32} {v2 : Int32} {v4 : Int32} {v7 : Int32} {s0 : Int32} (hk30f : ∀ (u3 : Int32) (u4 : Int32) (h : gH) (x : (Int32 × gH)), k30 u3 u4 h = some x → gfr [89, 90, 66, 74, 75, 71, 81, 87, 84, 85, 88, 67, 68, 70] [(65, 57), (65, 36), (65, 35), (65, 15), (65, 2), (65, 44), (65, 45), (65, 46), (65, 47), (65, 48), (65, 49), (65, 50), (65, 9), (65, 53), (65, 34), (65, 54)] h x.2) {h : gH} {x : (Int32 × gH)} (H : fM_reach_144 k30 v1 v2 v4 v7 s0 h = some x) : gfr [89, 90, 66, 74, 75, 71, 81, 87, 84, 85, 88, 67, 68, 70] [(65, 57), (65, 36), (65, 35), (65, 15), (65, 2), (65, 44), (65, 45), (65, 46), (65, 47), (65, 48), (65, 49), (65, 50), (65, 9), (65, 53), (65, 34), (65, 54)] h x.2 := by
  unfold fM_reach_144 at H
  have hf := gfr_rf [89, 90, 66, 74, 75, 71, 81, 87, 84, 85, 88, 67, 68, 70] [(65, 57), (65, 36), (65, 35), (65, 15), (65, 2), (65, 44), (65, 45), (65, 46), (65, 47), (65, 48), (65, 49), (65, 50), (65, 9), (65, 53), (65, 34), (65, 54)] h
  by_cases q : v7 = (0 : Int32)
  · replace H := gift q H
    exact gfr_tr hf (hk30f _ _ _ _  H)
  · replace H := giff q H
    exact gfr_tr hf (hk30f _ _ _ _  H)
theorem fM_reach_125_fr {k30 : Int32 → Int32 → gH → Option (Int32 × gH)} {v1 : Int32} {v2 : Int32} {v4 : Int32} {v5 : Int32} {s0 : Int32} (hk30f : ∀ (u3 : Int32) (u4 : Int32) (h : gH) (x : (Int32 × gH)), k30 u3 u4 h = some x → gfr [89, 90, 66, 74, 75, 71, 81, 87, 84, 85, 88, 67, 68, 70] [(65, 57), (65, 36), (65, 35), (65, 15), (65, 2), (65, 44), (65, 45), (65, 46), (65, 47), (65, 48), (65, 49), (65, 50), (65, 9), (65, 53), (65, 34), (65, 54)] h x.2) {h : gH} {x : (Int32 × gH)} (H : fM_reach_125 k30 v1 v2 v4 v5 s0 h = some x) : gfr [89, 90, 66, 74, 75, 71, 81, 87, 84, 85, 88, 67, 68, 70] [(65, 57), (65, 36), (65, 35), (65, 15), (65, 2), (65, 44), (65, 45), (65, 46), (65, 47), (65, 48), (65, 49), (65, 50), (65, 9), (65, 53), (65, 34), (65, 54)] h x.2 := by
  unfold fM_reach_125 at H
  have hf := gfr_rf [89, 90, 66, 74, 75, 71, 81, 87, 84, 85, 88, 67, 68, 70] [(65, 57), (65, 36), (65, 35), (65, 15), (65, 2), (65, 44), (65, 45), (65, 46), (65, 47), (65, 48), (65, 49), (65, 50), (65, 9), (65, 53), (65, 34), (65, 54)] h
  obtain ⟨h7, e8, H⟩ := gbi H
  replace hf := gfr_tr hf (gfr_w (fM_laysBack2_fr  e8) (gss_cons (gme 2 rfl) (gss_cons (gme 5 rfl) gss_nil)) (gss_cons (gme 4 rfl) (gss_cons (gme 1 rfl) gss_nil)))
  by_cases q : s0 = (1 : Int32)
  · replace H := gift q H
    exact gfr_tr hf (fM_reach_144_fr hk30f  H)
  · replace H := giff q H
    exact gfr_tr hf (fM_reach_144_fr hk30f  H)
theorem fM_reach_106_fr {k30 : Int32 → Int32 → gH → Option (Int32 × gH)} {v1 : Int32} {v2 : Int32} {v4 : Int32} {v5 : Int32} {v6 : Int32} (hk30f : ∀ (u3 : Int32) (u4 : Int32) (h : gH) (x : (Int32 × gH)), k30 u3 u4 h = some x → gfr [89, 90, 66, 74, 75, 71, 81, 87, 84, 85, 88, 67, 68, 70] [(65, 57), (65, 36), (65, 35), (65, 15), (65, 2), (65, 44), (65, 45), (65, 46), (65, 47), (65, 48), (65, 49), (65, 50), (65, 9), (65, 53), (65, 34), (65, 54)] h x.2) {h : gH} {x : (Int32 × gH)} (H : fM_reach_106 k30 v1 v2 v4 v5 v6  h = some x) : gfr [89, 90, 66, 74, 75, 71, 81, 87, 84, 85, 88, 67, 68, 70] [(65, 57), (65, 36), (65, 35), (65, 15), (65, 2), (65, 44), (65, 45), (65, 46), (65, 47), (65, 48), (65, 49), (65, 50), (65, 9), (65, 53), (65, 34), (65, 54)] h x.2 := by
  unfold fM_reach_106 at H
  have hf := gfr_rf [89, 90, 66, 74, 75, 71, 81, 87, 84, 85, 88, 67, 68, 70] [(65, 57), (65, 36), (65, 35), (65, 15), (65, 2), (65, 44), (65, 45), (65, 46), (65, 47), (65, 48), (65, 49), (65, 50), (65, 9), (65, 53), (65, 34), (65, 54)] h
  by_cases q : v6 = (0 : Int32)
  · replace H := gift q H
    exact gfr_tr hf (fM_reach_125_fr hk30f  H)
  · replace H := giff q H
    obtain ⟨p9, e10, H⟩ := gbi H
    replace hf := gfr_tr hf (gfr_w (fM_searched_fr  e10) (gss_cons (gme 5 rfl) (gss_cons (gme 2 rfl) (gss_cons (gme 3 rfl) (gss_cons (gme 4 rfl) (gss_cons (gme 6 rfl) (gss_cons (gme 7 rfl) (gss_cons (gme 8 rfl) (gss_cons (gme 9 rfl) (gss_cons (gme 10 rfl) (gss_cons (gme 11 rfl) (gss_cons (gme 12 rfl) (gss_cons (gme 13 rfl) gss_nil)))))))))))) (gss_cons (gme 5 rfl) (gss_cons (gme 6 rfl) (gss_cons (gme 7 rfl) (gss_cons (gme 8 rfl) (gss_cons (gme 9 rfl) (gss_cons (gme 10 rfl) (gss_cons (gme 11 rfl) (gss_cons (gme 12 rfl) (gss_cons (gme 13 rfl) (gss_cons (gme 2 rfl) (gss_cons (gme 3 rfl) (gss_cons (gme 4 rfl) (gss_cons (gme 14 rfl) (gss_cons (gme 15 rfl) gss_nil)))))))))))))))
    exact gfr_tr hf (fM_reach_125_fr hk30f  H)
theorem fM_reach_89_fr {k30 : Int32 → Int32 → gH → Option (Int32 × gH)} {v1 : Int32} {v2 : Int32} {v4 : Int32} {v5 : Int32} {s0 : Int32} (hk30f : ∀ (u3 : Int32) (u4 : Int32) (h : gH) (x : (Int32 × gH)), k30 u3 u4 h = some x → gfr [89, 90, 66, 74, 75, 71, 81, 87, 84, 85, 88, 67, 68, 70] [(65, 57), (65, 36), (65, 35), (65, 15), (65, 2), (65, 44), (65, 45), (65, 46), (65, 47), (65, 48), (65, 49), (65, 50), (65, 9), (65, 53), (65, 34), (65, 54)] h x.2) {h : gH} {x : (Int32 × gH)} (H : fM_reach_89 k30 v1 v2 v4 v5 s0 h = some x) : gfr [89, 90, 66, 74, 75, 71, 81, 87, 84, 85, 88, 67, 68, 70] [(65, 57), (65, 36), (65, 35), (65, 15), (65, 2), (65, 44), (65, 45), (65, 46), (65, 47), (65, 48), (65, 49), (65, 50), (65, 9), (65, 53), (65, 34), (65, 54)] h x.2 := by
  unfold fM_reach_89 at H
  have hf := gfr_rf [89, 90, 66, 74, 75, 71, 81, 87, 84, 85, 88, 67, 68, 70] [(65, 57), (65, 36), (65, 35), (65, 15), (65, 2), (65, 44), (65, 45), (65, 46), (65, 47), (65, 48), (65, 49), (65, 50), (65, 9), (65, 53), (65, 34), (65, 54)] h
  by_cases q : s0 = (0 : Int32)
  · replace H := gift q H
    exact gfr_tr hf (fM_reach_106_fr hk30f  H)
  · replace H := giff q H
    obtain ⟨h11, e12, H⟩ := gbi H
    replace hf := gfr_tr hf (gfr_w (fM_decides_fr  e12) (gss_cons (gme 2 rfl) (gss_cons (gme 3 rfl) (gss_cons (gme 4 rfl) (gss_cons (gme 5 rfl) gss_nil)))) (gss_cons (gme 2 rfl) (gss_cons (gme 3 rfl) (gss_cons (gme 4 rfl) gss_nil))))
    exact gfr_tr hf (fM_reach_106_fr hk30f  H)
theorem fM_reach_88_fr {k30 : Int32 → Int32 → gH → Option (Int32 × gH)} {v1 : Int32} {v2 : Int32} {v4 : Int32} {v5 : Int32} (hk30f : ∀ (u3 : Int32) (u4 : Int32) (h : gH) (x : (Int32 × gH)), k30 u3 u4 h = some x → gfr [89, 90, 66, 74, 75, 71, 81, 87, 84, 85, 88, 67, 68, 70] [(65, 57), (65, 36), (65, 35), (65, 15), (65, 2), (65, 44), (65, 45), (65, 46), (65, 47), (65, 48), (65, 49), (65, 50), (65, 9), (65, 53), (65, 34), (65, 54)] h x.2) {h : gH} {x : (Int32 × gH)} (H : fM_reach_88 k30 v1 v2 v4 v5  h = some x) : gfr [89, 90, 66, 74, 75, 71, 81, 87, 84, 85, 88, 67, 68, 70] [(65, 57), (65, 36), (65, 35), (65, 15), (65, 2), (65, 44), (65, 45), (65, 46), (65, 47), (65, 48), (65, 49), (65, 50), (65, 9), (65, 53), (65, 34), (65, 54)] h x.2 := by
  unfold fM_reach_88 at H
  have hf := gfr_rf [89, 90, 66, 74, 75, 71, 81, 87, 84, 85, 88, 67, 68, 70] [(65, 57), (65, 36), (65, 35), (65, 15), (65, 2), (65, 44), (65, 45), (65, 46), (65, 47), (65, 48), (65, 49), (65, 50), (65, 9), (65, 53), (65, 34), (65, 54)] h
  exact gfr_tr hf (fM_reach_89_fr hk30f  H)
theorem fM_reach_56_fr {k30 : Int32 → Int32 → gH → Option (Int32 × gH)} {v1 : Int32} {v2 : Int32} {v4 : Int32} {s0 : Int32} (hk30f : ∀ (u3 : Int32) (u4 : Int32) (h : gH) (x : (Int32 × gH)), k30 u3 u4 h = some x → gfr [89, 90, 66, 74, 75, 71, 81, 87, 84, 85, 88, 67, 68, 70] [(65, 57), (65, 36), (65, 35), (65, 15), (65, 2), (65, 44), (65, 45), (65, 46), (65, 47), (65, 48), (65, 49), (65, 50), (65, 9), (65, 53), (65, 34), (65, 54)] h x.2) {h : gH} {x : (Int32 × gH)} (H : fM_reach_56 k30 v1 v2 v4 s0 h = some x) : gfr [89, 90, 66, 74, 75, 71, 81, 87, 84, 85, 88, 67, 68, 70] [(65, 57), (65, 36), (65, 35), (65, 15), (65, 2), (65, 44), (65, 45), (65, 46), (65, 47), (65, 48), (65, 49), (65, 50), (65, 9), (65, 53), (65, 34), (65, 54)] h x.2 := by
  unfold fM_reach_56 at H
  have hf := gfr_rf [89, 90, 66, 74, 75, 71, 81, 87, 84, 85, 88, 67, 68, 70] [(65, 57), (65, 36), (65, 35), (65, 15), (65, 2), (65, 44), (65, 45), (65, 46), (65, 47), (65, 48), (65, 49), (65, 50), (65, 9), (65, 53), (65, 34), (65, 54)] h
  obtain ⟨h5, e6, H⟩ := gbi H
  replace hf := gfr_tr hf (gfr_w (fM_laysAside2_fr  e6) (gss_cons (gme 0 rfl) (gss_cons (gme 1 rfl) gss_nil)) (gss_cons (gme 0 rfl) (gss_cons (gme 1 rfl) gss_nil)))
  by_cases q : (h5 65 2) = (0 : Int32)
  · replace H := gift q H
    obtain ⟨b13, H⟩ := ggi H
    have b13 := gin_in b13
    by_cases q : (((h5 66 v1.toNatClampNeg) >>> (s0 &&& 31)) &&& (1 : Int32)) = (1 : Int32)
    · replace H := gift q H
      exact gfr_tr hf (fM_reach_89_fr hk30f  H)
    · replace H := giff q H
      exact gfr_tr hf (fM_reach_88_fr hk30f  H)
  · replace H := giff q H
    exact gfr_tr hf (fM_reach_88_fr hk30f  H)
theorem fM_reach_30_fr {v1 : Int32} {v2 : Int32}  : ∀ (n : Nat) (v3 : Int32) (v4 : Int32) (h : gH) (x : (Int32 × gH)), fM_reach_30 v1 v2 n v3 v4 h = some x → gfr [89, 90, 66, 74, 75, 71, 81, 87, 84, 85, 88, 67, 68, 70] [(65, 57), (65, 36), (65, 35), (65, 15), (65, 2), (65, 44), (65, 45), (65, 46), (65, 47), (65, 48), (65, 49), (65, 50), (65, 9), (65, 53), (65, 34), (65, 54)] h x.2 := by
  intro n
  induction n with
  | zero => intro v3 v4 h x  H; exact g0 H
  | succ n ih =>
    intro v3 v4 h x  H
    unfold fM_reach_30 at H
    have hf := gfr_rf [89, 90, 66, 74, 75, 71, 81, 87, 84, 85, 88, 67, 68, 70] [(65, 57), (65, 36), (65, 35), (65, 15), (65, 2), (65, 44), (65, 45), (65, 46), (65, 47), (65, 48), (65, 49), (65, 50), (65, 9), (65, 53), (65, 34), (65, 54)] h
    by_cases q : v4 < (10 : Int32)
    · replace H := gift q H
      by_cases q : v3 = (-1 : Int32)
      · replace H := gift q H
        by_cases q : v2 = (0 : Int32)
        · replace H := gift q H
          exact gfr_tr hf (fM_reach_56_fr ih  H)
        · replace H := giff q H
          exact gfr_tr hf (fM_reach_56_fr ih  H)
      · replace H := giff q H
        obtain rfl := Option.some.inj H
        exact hf
    · replace H := giff q H
      obtain rfl := Option.some.inj H
      exact hf
theorem fM_reach_fr {v1 : Int32} {v2 : Int32} {h : gH} {x : (Int32 × gH)} (H : fM_reach v1 v2 h = some x) : gfr [89, 90, 66, 74, 75, 71, 81, 87, 84, 85, 88, 67, 68, 70] [(65, 57), (65, 36), (65, 35), (65, 15), (65, 2), (65, 44), (65, 45), (65, 46), (65, 47), (65, 48), (65, 49), (65, 50), (65, 9), (65, 53), (65, 34), (65, 54)] h x.2 := by
  unfold fM_reach at H
  have hf := gfr_rf [89, 90, 66, 74, 75, 71, 81, 87, 84, 85, 88, 67, 68, 70] [(65, 57), (65, 36), (65, 35), (65, 15), (65, 2), (65, 44), (65, 45), (65, 46), (65, 47), (65, 48), (65, 49), (65, 50), (65, 9), (65, 53), (65, 34), (65, 54)] h
  obtain ⟨p1, e2, H⟩ := gbi H
  replace hf := gfr_tr hf (gfr_w (fM_in_fr  e2) gss_nil gss_nil)
  by_cases q : p1.1 = (0 : Int32)
  · replace H := gift q H
    obtain rfl := Option.some.inj H
    exact hf
  · replace H := giff q H
    obtain ⟨p3, e4, H⟩ := gbi H
    replace hf := gfr_tr hf (gfr_w (fM_in_fr  e4) gss_nil gss_nil)
    by_cases q : p3.1 = (0 : Int32)
    · replace H := gift q H
      obtain rfl := Option.some.inj H
      exact hf
    · replace H := giff q H
      exact gfr_tr hf (fM_reach_30_fr  gfu _ _ _ _  H)
theorem fM_isFound_71_fr {k32 : Int32 → Int32 → gH → Option (Int32 × gH)} {v1 : Int32} {v5 : Int32} {s0 : Int32} (hk32f : ∀ (u4 : Int32) (u5 : Int32) (h : gH) (x : (Int32 × gH)), k32 u4 u5 h = some x → gfr [89, 90, 71, 66, 74, 75, 81, 87, 84, 85, 88, 67, 68, 70] [(65, 57), (65, 36), (65, 44), (65, 45), (65, 46), (65, 47), (65, 48), (65, 49), (65, 50), (65, 9), (65, 53), (65, 35), (65, 15), (65, 2), (65, 34), (65, 54)] h x.2) {h : gH} {x : (Int32 × gH)} (H : fM_isFound_71 k32 v1 v5 s0 h = some x) : gfr [89, 90, 71, 66, 74, 75, 81, 87, 84, 85, 88, 67, 68, 70] [(65, 57), (65, 36), (65, 44), (65, 45), (65, 46), (65, 47), (65, 48), (65, 49), (65, 50), (65, 9), (65, 53), (65, 35), (65, 15), (65, 2), (65, 34), (65, 54)] h x.2 := by
  unfold fM_isFound_71 at H
  have hf := gfr_rf [89, 90, 71, 66, 74, 75, 81, 87, 84, 85, 88, 67, 68, 70] [(65, 57), (65, 36), (65, 44), (65, 45), (65, 46), (65, 47), (65, 48), (65, 49), (65, 50), (65, 9), (65, 53), (65, 35), (65, 15), (65, 2), (65, 34), (65, 54)] h
  exact gfr_tr hf (hk32f _ _ _ _  H)
theorem fM_isFound_70_fr {k32 : Int32 → Int32 → gH → Option (Int32 × gH)} {v1 : Int32} {v5 : Int32} (hk32f : ∀ (u4 : Int32) (u5 : Int32) (h : gH) (x : (Int32 × gH)), k32 u4 u5 h = some x → gfr [89, 90, 71, 66, 74, 75, 81, 87, 84, 85, 88, 67, 68, 70] [(65, 57), (65, 36), (65, 44), (65, 45), (65, 46), (65, 47), (65, 48), (65, 49), (65, 50), (65, 9), (65, 53), (65, 35), (65, 15), (65, 2), (65, 34), (65, 54)] h x.2) {h : gH} {x : (Int32 × gH)} (H : fM_isFound_70 k32 v1 v5  h = some x) : gfr [89, 90, 71, 66, 74, 75, 81, 87, 84, 85, 88, 67, 68, 70] [(65, 57), (65, 36), (65, 44), (65, 45), (65, 46), (65, 47), (65, 48), (65, 49), (65, 50), (65, 9), (65, 53), (65, 35), (65, 15), (65, 2), (65, 34), (65, 54)] h x.2 := by
  unfold fM_isFound_70 at H
  have hf := gfr_rf [89, 90, 71, 66, 74, 75, 81, 87, 84, 85, 88, 67, 68, 70] [(65, 57), (65, 36), (65, 44), (65, 45), (65, 46), (65, 47), (65, 48), (65, 49), (65, 50), (65, 9), (65, 53), (65, 35), (65, 15), (65, 2), (65, 34), (65, 54)] h
  exact gfr_tr hf (fM_isFound_71_fr hk32f  H)
theorem fM_isFound_32_fr {v1 : Int32}  : ∀ (n : Nat) (v4 : Int32) (v5 : Int32) (h : gH) (x : (Int32 × gH)), fM_isFound_32 v1 n v4 v5 h = some x → gfr [89, 90, 71, 66, 74, 75, 81, 87, 84, 85, 88, 67, 68, 70] [(65, 57), (65, 36), (65, 44), (65, 45), (65, 46), (65, 47), (65, 48), (65, 49), (65, 50), (65, 9), (65, 53), (65, 35), (65, 15), (65, 2), (65, 34), (65, 54)] h x.2 := by
  intro n
  induction n with
  | zero => intro v4 v5 h x  H; exact g0 H
  | succ n ih =>
    intro v4 v5 h x  H
    unfold fM_isFound_32 at H
    have hf := gfr_rf [89, 90, 71, 66, 74, 75, 81, 87, 84, 85, 88, 67, 68, 70] [(65, 57), (65, 36), (65, 44), (65, 45), (65, 46), (65, 47), (65, 48), (65, 49), (65, 50), (65, 9), (65, 53), (65, 35), (65, 15), (65, 2), (65, 34), (65, 54)] h
    by_cases q : v5 < (8 : Int32)
    · replace H := gift q H
      by_cases q : v4 = (0 : Int32)
      · replace H := gift q H
        exact gfr_tr hf (fM_isFound_70_fr ih  H)
      · replace H := giff q H
        obtain ⟨b8, H⟩ := ggi H
        have b8 := gin_in b8
        obtain ⟨b9, H⟩ := ggi H
        have b9 := gin_in b9
        by_cases q : (h 87 v5.toNatClampNeg) = (h 106 (((40 : Int32) * v1) + v5).toNatClampNeg)
        · replace H := gift q H
          exact gfr_tr hf (fM_isFound_71_fr ih  H)
        · replace H := giff q H
          exact gfr_tr hf (fM_isFound_70_fr ih  H)
    · replace H := giff q H
      obtain ⟨b7, H⟩ := ggi H
      have b7 := gbo_or b7
      obtain rfl := Option.some.inj H
      exact hf
theorem fM_isFound_23_fr {v1 : Int32} {s0 : Int32}  {h : gH} {x : (Int32 × gH)} (H : fM_isFound_23 v1 s0 h = some x) : gfr [89, 90, 71, 66, 74, 75, 81, 87, 84, 85, 88, 67, 68, 70] [(65, 57), (65, 36), (65, 44), (65, 45), (65, 46), (65, 47), (65, 48), (65, 49), (65, 50), (65, 9), (65, 53), (65, 35), (65, 15), (65, 2), (65, 34), (65, 54)] h x.2 := by
  unfold fM_isFound_23 at H
  have hf := gfr_rf [89, 90, 71, 66, 74, 75, 81, 87, 84, 85, 88, 67, 68, 70] [(65, 57), (65, 36), (65, 44), (65, 45), (65, 46), (65, 47), (65, 48), (65, 49), (65, 50), (65, 9), (65, 53), (65, 35), (65, 15), (65, 2), (65, 34), (65, 54)] h
  obtain ⟨h5, e6, H⟩ := gbi H
  replace hf := gfr_tr hf (gfr_w (fM_laysBack2_fr  e6) (gss_cons (gme 3 rfl) (gss_cons (gme 2 rfl) gss_nil)) (gss_cons (gme 13 rfl) (gss_cons (gme 1 rfl) gss_nil)))
  exact gfr_tr hf (fM_isFound_32_fr  gfu _ _ _ _  H)
theorem fM_isFound_fr {v1 : Int32} {v2 : Int32} {v3 : Int32} {h : gH} {x : (Int32 × gH)} (H : fM_isFound v1 v2 v3 h = some x) : gfr [89, 90, 71, 66, 74, 75, 81, 87, 84, 85, 88, 67, 68, 70] [(65, 57), (65, 36), (65, 44), (65, 45), (65, 46), (65, 47), (65, 48), (65, 49), (65, 50), (65, 9), (65, 53), (65, 35), (65, 15), (65, 2), (65, 34), (65, 54)] h x.2 := by
  unfold fM_isFound at H
  have hf := gfr_rf [89, 90, 71, 66, 74, 75, 81, 87, 84, 85, 88, 67, 68, 70] [(65, 57), (65, 36), (65, 44), (65, 45), (65, 46), (65, 47), (65, 48), (65, 49), (65, 50), (65, 9), (65, 53), (65, 35), (65, 15), (65, 2), (65, 34), (65, 54)] h
  obtain ⟨h1, e2, H⟩ := gbi H
  replace hf := gfr_tr hf (gfr_w (fM_laysAside2_fr  e2) (gss_cons (gme 0 rfl) (gss_cons (gme 1 rfl) gss_nil)) (gss_cons (gme 0 rfl) (gss_cons (gme 1 rfl) gss_nil)))
  obtain ⟨p3, e4, H⟩ := gbi H
  replace hf := gfr_tr hf (gfr_w (fM_searched_fr  e4) (gss_cons (gme 2 rfl) (gss_cons (gme 3 rfl) (gss_cons (gme 4 rfl) (gss_cons (gme 5 rfl) (gss_cons (gme 6 rfl) (gss_cons (gme 7 rfl) (gss_cons (gme 8 rfl) (gss_cons (gme 9 rfl) (gss_cons (gme 10 rfl) (gss_cons (gme 11 rfl) (gss_cons (gme 12 rfl) (gss_cons (gme 13 rfl) gss_nil)))))))))))) (gss_cons (gme 2 rfl) (gss_cons (gme 3 rfl) (gss_cons (gme 4 rfl) (gss_cons (gme 5 rfl) (gss_cons (gme 6 rfl) (gss_cons (gme 7 rfl) (gss_cons (gme 8 rfl) (gss_cons (gme 9 rfl) (gss_cons (gme 10 rfl) (gss_cons (gme 11 rfl) (gss_cons (gme 12 rfl) (gss_cons (gme 13 rfl) (gss_cons (gme 14 rfl) (gss_cons (gme 15 rfl) gss_nil)))))))))))))))
  by_cases q : p3.1 = (1 : Int32)
  · replace H := gift q H
    exact gfr_tr hf (fM_isFound_23_fr  H)
  · replace H := giff q H
    exact gfr_tr hf (fM_isFound_23_fr  H)
theorem fM_isSo_100_fr {v2 : Int32} {v4 : Int32} {v5 : Int32} {s0 : Int32}  {h : gH} {x : (Int32 × gH)} (H : fM_isSo_100 v2 v4 v5 s0 h = some x) : gfr [] [] h x.2 := by
  unfold fM_isSo_100 at H
  have hf := gfr_rf [] [] h
  obtain ⟨p4, e5, H⟩ := gbi H
  replace hf := gfr_tr hf (gfr_w (fM_isHolding_fr  e5) gss_nil gss_nil)
  obtain ⟨b6, H⟩ := ggi H
  have b6 := gbo_or b6
  obtain rfl := Option.some.inj H
  exact hf
theorem fM_isSo_69_fr {v1 : Int32} {v2 : Int32} {v3 : Int32} {v4 : Int32} {s0 : Int32}  {h : gH} {x : (Int32 × gH)} (H : fM_isSo_69 v1 v2 v3 v4 s0 h = some x) : gfr [] [] h x.2 := by
  unfold fM_isSo_69 at H
  have hf := gfr_rf [] [] h
  by_cases q : (2 : Int32) < v3
  · replace H := gift q H
    obtain ⟨b7, H⟩ := ggi H
    have b7 := gin_in b7
    obtain ⟨p8, e9, H⟩ := gbi H
    replace hf := gfr_tr hf (gfr_w (fM_variable_fr  e9) gss_nil gss_nil)
    obtain ⟨b10, H⟩ := ggi H
    have b10 := gin_in b10
    exact gfr_tr hf (fM_isSo_100_fr  H)
  · replace H := giff q H
    exact gfr_tr hf (fM_isSo_100_fr  H)
theorem fM_isSo_38_fr {v1 : Int32} {v2 : Int32} {v3 : Int32} {s0 : Int32}  {h : gH} {x : (Int32 × gH)} (H : fM_isSo_38 v1 v2 v3 s0 h = some x) : gfr [] [] h x.2 := by
  unfold fM_isSo_38 at H
  have hf := gfr_rf [] [] h
  by_cases q : (1 : Int32) < v3
  · replace H := gift q H
    obtain ⟨b11, H⟩ := ggi H
    have b11 := gin_in b11
    obtain ⟨p12, e13, H⟩ := gbi H
    replace hf := gfr_tr hf (gfr_w (fM_variable_fr  e13) gss_nil gss_nil)
    obtain ⟨b14, H⟩ := ggi H
    have b14 := gin_in b14
    exact gfr_tr hf (fM_isSo_69_fr  H)
  · replace H := giff q H
    exact gfr_tr hf (fM_isSo_69_fr  H)
theorem fM_isSo_fr {v1 : Int32} {v2 : Int32} {h : gH} {x : (Int32 × gH)} (H : fM_isSo v1 v2 h = some x) : gfr [] [] h x.2 := by
  unfold fM_isSo at H
  have hf := gfr_rf [] [] h
  obtain ⟨b1, H⟩ := ggi H
  have b1 := gin_in b1
  obtain ⟨p2, e3, H⟩ := gbi H
  replace hf := gfr_tr hf (gfr_w (fM_bitsOf_fr  e3) gss_nil gss_nil)
  by_cases q : (0 : Int32) < p2.1
  · replace H := gift q H
    obtain ⟨b15, H⟩ := ggi H
    have b15 := gin_in b15
    obtain ⟨p16, e17, H⟩ := gbi H
    replace hf := gfr_tr hf (gfr_w (fM_variable_fr  e17) gss_nil gss_nil)
    obtain ⟨b18, H⟩ := ggi H
    have b18 := gin_in b18
    exact gfr_tr hf (fM_isSo_38_fr  H)
  · replace H := giff q H
    exact gfr_tr hf (fM_isSo_38_fr  H)
theorem fM_isSheet_fr {v0 : Int32} {h : gH} {x : (Int32 × gH)} (H : fM_isSheet v0 h = some x) : gfr [] [] h x.2 := by
  unfold fM_isSheet at H
  have hf := gfr_rf [] [] h
  obtain ⟨p1, e2, H⟩ := gbi H
  replace hf := gfr_tr hf (gfr_w (fM_in_fr  e2) gss_nil gss_nil)
  obtain ⟨b3, H⟩ := ggi H
  have b3 := gbo_or b3
  obtain rfl := Option.some.inj H
  exact hf
theorem fM_tells_183_fr {v1 : Int32} {v2 : Int32}  : ∀ (n : Nat) (v3 : Int32) (v4 : Int32) (h : gH) (x : (Int32 × gH)), fM_tells_183 v1 v2 n v3 v4 h = some x → gfr [89, 90, 71, 66, 74, 75, 81, 87, 84, 85, 88, 67, 68, 70] [(65, 57), (65, 36), (65, 44), (65, 45), (65, 46), (65, 47), (65, 48), (65, 49), (65, 50), (65, 9), (65, 53), (65, 35), (65, 15), (65, 2), (65, 34), (65, 54)] h x.2 := by
  intro n
  induction n with
  | zero => intro v3 v4 h x  H; exact g0 H
  | succ n ih =>
    intro v3 v4 h x  H
    unfold fM_tells_183 at H
    have hf := gfr_rf [89, 90, 71, 66, 74, 75, 81, 87, 84, 85, 88, 67, 68, 70] [(65, 57), (65, 36), (65, 44), (65, 45), (65, 46), (65, 47), (65, 48), (65, 49), (65, 50), (65, 9), (65, 53), (65, 35), (65, 15), (65, 2), (65, 34), (65, 54)] h
    by_cases q : v4 < (8 : Int32)
    · replace H := gift q H
      by_cases q : v2 = (2 : Int32)
      · replace H := gift q H
        obtain ⟨b7, H⟩ := ggi H
        have b7 := gin_in b7
        obtain ⟨b8, H⟩ := ggi H
        have b8 := gin_in b8
        exact gfr_tr hf (ih _ _ _ _  H)
      · replace H := giff q H
        obtain rfl := Option.some.inj H
        exact hf
    · replace H := giff q H
      obtain rfl := Option.some.inj H
      exact hf
theorem fM_tells_180_fr {v1 : Int32} {v2 : Int32} {v3 : Int32}  {h : gH} {x : (Int32 × gH)} (H : fM_tells_180 v1 v2 v3  h = some x) : gfr [89, 90, 71, 66, 74, 75, 81, 87, 84, 85, 88, 67, 68, 70] [(65, 57), (65, 36), (65, 44), (65, 45), (65, 46), (65, 47), (65, 48), (65, 49), (65, 50), (65, 9), (65, 53), (65, 35), (65, 15), (65, 2), (65, 34), (65, 54)] h x.2 := by
  unfold fM_tells_180 at H
  have hf := gfr_rf [89, 90, 71, 66, 74, 75, 81, 87, 84, 85, 88, 67, 68, 70] [(65, 57), (65, 36), (65, 44), (65, 45), (65, 46), (65, 47), (65, 48), (65, 49), (65, 50), (65, 9), (65, 53), (65, 35), (65, 15), (65, 2), (65, 34), (65, 54)] h
  exact gfr_tr hf (fM_tells_183_fr  gfu _ _ _ _  H)
theorem fM_tells_169_fr {k139 : Int32 → Int32 → gH → Option (Int32 × gH)} {v1 : Int32} {v2 : Int32} {v4 : Int32} {s0 : Int32} {s1 : Int32} (hk139f : ∀ (u3 : Int32) (u4 : Int32) (h : gH) (x : (Int32 × gH)), k139 u3 u4 h = some x → gfr [89, 90, 71, 66, 74, 75, 81, 87, 84, 85, 88, 67, 68, 70] [(65, 57), (65, 36), (65, 44), (65, 45), (65, 46), (65, 47), (65, 48), (65, 49), (65, 50), (65, 9), (65, 53), (65, 35), (65, 15), (65, 2), (65, 34), (65, 54)] h x.2) {h : gH} {x : (Int32 × gH)} (H : fM_tells_169 k139 v1 v2 v4 s0 s1 h = some x) : gfr [89, 90, 71, 66, 74, 75, 81, 87, 84, 85, 88, 67, 68, 70] [(65, 57), (65, 36), (65, 44), (65, 45), (65, 46), (65, 47), (65, 48), (65, 49), (65, 50), (65, 9), (65, 53), (65, 35), (65, 15), (65, 2), (65, 34), (65, 54)] h x.2 := by
  unfold fM_tells_169 at H
  have hf := gfr_rf [89, 90, 71, 66, 74, 75, 81, 87, 84, 85, 88, 67, 68, 70] [(65, 57), (65, 36), (65, 44), (65, 45), (65, 46), (65, 47), (65, 48), (65, 49), (65, 50), (65, 9), (65, 53), (65, 35), (65, 15), (65, 2), (65, 34), (65, 54)] h
  exact gfr_tr hf (hk139f _ _ _ _  H)
theorem fM_tells_139_fr {v1 : Int32} {v2 : Int32}  : ∀ (n : Nat) (v3 : Int32) (v4 : Int32) (h : gH) (x : (Int32 × gH)), fM_tells_139 v1 v2 n v3 v4 h = some x → gfr [89, 90, 71, 66, 74, 75, 81, 87, 84, 85, 88, 67, 68, 70] [(65, 57), (65, 36), (65, 44), (65, 45), (65, 46), (65, 47), (65, 48), (65, 49), (65, 50), (65, 9), (65, 53), (65, 35), (65, 15), (65, 2), (65, 34), (65, 54)] h x.2 := by
  intro n
  induction n with
  | zero => intro v3 v4 h x  H; exact g0 H
  | succ n ih =>
    intro v3 v4 h x  H
    unfold fM_tells_139 at H
    have hf := gfr_rf [89, 90, 71, 66, 74, 75, 81, 87, 84, 85, 88, 67, 68, 70] [(65, 57), (65, 36), (65, 44), (65, 45), (65, 46), (65, 47), (65, 48), (65, 49), (65, 50), (65, 9), (65, 53), (65, 35), (65, 15), (65, 2), (65, 34), (65, 54)] h
    by_cases q : v4 < (h 65 8)
    · replace H := gift q H
      by_cases q : v2 = (1 : Int32)
      · replace H := gift q H
        obtain ⟨p9, e10, H⟩ := gbi H
        replace hf := gfr_tr hf (gfr_w (fM_isSo_fr  e10) gss_nil gss_nil)
        by_cases q : p9.1 = (0 : Int32)
        · replace H := gift q H
          exact gfr_tr hf (fM_tells_169_fr ih  H)
        · replace H := giff q H
          exact gfr_tr hf (fM_tells_169_fr ih  H)
      · replace H := giff q H
        exact gfr_tr hf (fM_tells_180_fr  H)
    · replace H := giff q H
      exact gfr_tr hf (fM_tells_180_fr  H)
theorem fM_tells_136_fr {v1 : Int32} {v2 : Int32} {v3 : Int32}  {h : gH} {x : (Int32 × gH)} (H : fM_tells_136 v1 v2 v3  h = some x) : gfr [89, 90, 71, 66, 74, 75, 81, 87, 84, 85, 88, 67, 68, 70] [(65, 57), (65, 36), (65, 44), (65, 45), (65, 46), (65, 47), (65, 48), (65, 49), (65, 50), (65, 9), (65, 53), (65, 35), (65, 15), (65, 2), (65, 34), (65, 54)] h x.2 := by
  unfold fM_tells_136 at H
  have hf := gfr_rf [89, 90, 71, 66, 74, 75, 81, 87, 84, 85, 88, 67, 68, 70] [(65, 57), (65, 36), (65, 44), (65, 45), (65, 46), (65, 47), (65, 48), (65, 49), (65, 50), (65, 9), (65, 53), (65, 35), (65, 15), (65, 2), (65, 34), (65, 54)] h
  exact gfr_tr hf (fM_tells_139_fr  gfu _ _ _ _  H)
theorem fM_tells_125_fr {k92 : Int32 → Int32 → gH → Option (Int32 × gH)} {v1 : Int32} {v2 : Int32} {v4 : Int32} {s0 : Int32} {s1 : Int32} (hk92f : ∀ (u3 : Int32) (u4 : Int32) (h : gH) (x : (Int32 × gH)), k92 u3 u4 h = some x → gfr [89, 90, 71, 66, 74, 75, 81, 87, 84, 85, 88, 67, 68, 70] [(65, 57), (65, 36), (65, 44), (65, 45), (65, 46), (65, 47), (65, 48), (65, 49), (65, 50), (65, 9), (65, 53), (65, 35), (65, 15), (65, 2), (65, 34), (65, 54)] h x.2) {h : gH} {x : (Int32 × gH)} (H : fM_tells_125 k92 v1 v2 v4 s0 s1 h = some x) : gfr [89, 90, 71, 66, 74, 75, 81, 87, 84, 85, 88, 67, 68, 70] [(65, 57), (65, 36), (65, 44), (65, 45), (65, 46), (65, 47), (65, 48), (65, 49), (65, 50), (65, 9), (65, 53), (65, 35), (65, 15), (65, 2), (65, 34), (65, 54)] h x.2 := by
  unfold fM_tells_125 at H
  have hf := gfr_rf [89, 90, 71, 66, 74, 75, 81, 87, 84, 85, 88, 67, 68, 70] [(65, 57), (65, 36), (65, 44), (65, 45), (65, 46), (65, 47), (65, 48), (65, 49), (65, 50), (65, 9), (65, 53), (65, 35), (65, 15), (65, 2), (65, 34), (65, 54)] h
  exact gfr_tr hf (hk92f _ _ _ _  H)
theorem fM_tells_92_fr {v1 : Int32} {v2 : Int32}  : ∀ (n : Nat) (v3 : Int32) (v4 : Int32) (h : gH) (x : (Int32 × gH)), fM_tells_92 v1 v2 n v3 v4 h = some x → gfr [89, 90, 71, 66, 74, 75, 81, 87, 84, 85, 88, 67, 68, 70] [(65, 57), (65, 36), (65, 44), (65, 45), (65, 46), (65, 47), (65, 48), (65, 49), (65, 50), (65, 9), (65, 53), (65, 35), (65, 15), (65, 2), (65, 34), (65, 54)] h x.2 := by
  intro n
  induction n with
  | zero => intro v3 v4 h x  H; exact g0 H
  | succ n ih =>
    intro v3 v4 h x  H
    unfold fM_tells_92 at H
    have hf := gfr_rf [89, 90, 71, 66, 74, 75, 81, 87, 84, 85, 88, 67, 68, 70] [(65, 57), (65, 36), (65, 44), (65, 45), (65, 46), (65, 47), (65, 48), (65, 49), (65, 50), (65, 9), (65, 53), (65, 35), (65, 15), (65, 2), (65, 34), (65, 54)] h
    by_cases q : v4 < (12 : Int32)
    · replace H := gift q H
      by_cases q : v2 = (0 : Int32)
      · replace H := gift q H
        obtain ⟨p11, e12, H⟩ := gbi H
        replace hf := gfr_tr hf (gfr_w (fM_isFound_fr  e12) (gss_cons (gme 0 rfl) (gss_cons (gme 1 rfl) (gss_cons (gme 2 rfl) (gss_cons (gme 3 rfl) (gss_cons (gme 4 rfl) (gss_cons (gme 5 rfl) (gss_cons (gme 6 rfl) (gss_cons (gme 7 rfl) (gss_cons (gme 8 rfl) (gss_cons (gme 9 rfl) (gss_cons (gme 10 rfl) (gss_cons (gme 11 rfl) (gss_cons (gme 12 rfl) (gss_cons (gme 13 rfl) gss_nil)))))))))))))) (gss_cons (gme 0 rfl) (gss_cons (gme 1 rfl) (gss_cons (gme 2 rfl) (gss_cons (gme 3 rfl) (gss_cons (gme 4 rfl) (gss_cons (gme 5 rfl) (gss_cons (gme 6 rfl) (gss_cons (gme 7 rfl) (gss_cons (gme 8 rfl) (gss_cons (gme 9 rfl) (gss_cons (gme 10 rfl) (gss_cons (gme 11 rfl) (gss_cons (gme 12 rfl) (gss_cons (gme 13 rfl) (gss_cons (gme 14 rfl) (gss_cons (gme 15 rfl) gss_nil)))))))))))))))))
        by_cases q : p11.1 = (0 : Int32)
        · replace H := gift q H
          exact gfr_tr hf (fM_tells_125_fr ih  H)
        · replace H := giff q H
          exact gfr_tr hf (fM_tells_125_fr ih  H)
      · replace H := giff q H
        exact gfr_tr hf (fM_tells_136_fr  H)
    · replace H := giff q H
      exact gfr_tr hf (fM_tells_136_fr  H)
theorem fM_tells_50_fr {v1 : Int32} {v2 : Int32}  : ∀ (n : Nat) (v3 : Int32) (h : gH) (x : (Int32 × gH)), fM_tells_50 v1 v2 n v3 h = some x → gfr [89, 90, 71, 66, 74, 75, 81, 87, 84, 85, 88, 67, 68, 70] [(65, 57), (65, 36), (65, 44), (65, 45), (65, 46), (65, 47), (65, 48), (65, 49), (65, 50), (65, 9), (65, 53), (65, 35), (65, 15), (65, 2), (65, 34), (65, 54)] h x.2 := by
  intro n
  induction n with
  | zero => intro v3 h x  H; exact g0 H
  | succ n ih =>
    intro v3 h x  H
    unfold fM_tells_50 at H
    have hf := gfr_rf [89, 90, 71, 66, 74, 75, 81, 87, 84, 85, 88, 67, 68, 70] [(65, 57), (65, 36), (65, 44), (65, 45), (65, 46), (65, 47), (65, 48), (65, 49), (65, 50), (65, 9), (65, 53), (65, 35), (65, 15), (65, 2), (65, 34), (65, 54)] h
    by_cases q : v3 < (8 : Int32)
    · replace H := gift q H
      obtain ⟨b13, H⟩ := ggi H
      have b13 := gin_in b13
      obtain ⟨p14, e15, H⟩ := gbi H
      replace hf := gfr_tr hf (gfr_w (fM_in_fr  e15) gss_nil gss_nil)
      by_cases q : p14.1 = (0 : Int32)
      · replace H := gift q H
        obtain rfl := Option.some.inj H
        exact hf
      · replace H := giff q H
        exact gfr_tr hf (ih _ _ _  H)
    · replace H := giff q H
      exact gfr_tr hf (fM_tells_92_fr  gfu _ _ _ _  H)
theorem fM_tells_fr {v1 : Int32} {v2 : Int32} {h : gH} {x : (Int32 × gH)} (H : fM_tells v1 v2 h = some x) : gfr [89, 90, 71, 66, 74, 75, 81, 87, 84, 85, 88, 67, 68, 70] [(65, 57), (65, 36), (65, 44), (65, 45), (65, 46), (65, 47), (65, 48), (65, 49), (65, 50), (65, 9), (65, 53), (65, 35), (65, 15), (65, 2), (65, 34), (65, 54)] h x.2 := by
  unfold fM_tells at H
  have hf := gfr_rf [89, 90, 71, 66, 74, 75, 81, 87, 84, 85, 88, 67, 68, 70] [(65, 57), (65, 36), (65, 44), (65, 45), (65, 46), (65, 47), (65, 48), (65, 49), (65, 50), (65, 9), (65, 53), (65, 35), (65, 15), (65, 2), (65, 34), (65, 54)] h
  obtain ⟨p1, e2, H⟩ := gbi H
  replace hf := gfr_tr hf (gfr_w (fM_isSheet_fr  e2) gss_nil gss_nil)
  by_cases q : p1.1 = (0 : Int32)
  · replace H := gift q H
    obtain rfl := Option.some.inj H
    exact hf
  · replace H := giff q H
    obtain ⟨p3, e4, H⟩ := gbi H
    replace hf := gfr_tr hf (gfr_w (fM_in_fr  e4) gss_nil gss_nil)
    by_cases q : p3.1 = (0 : Int32)
    · replace H := gift q H
      obtain rfl := Option.some.inj H
      exact hf
    · replace H := giff q H
      obtain ⟨b5, H⟩ := ggi H
      have b5 := gin_in b5
      by_cases q : (p3.2 103 v1.toNatClampNeg) = (0 : Int32)
      · replace H := gift q H
        obtain rfl := Option.some.inj H
        exact hf
      · replace H := giff q H
        obtain ⟨b6, H⟩ := ggi H
        have b6 := gin_in b6
        by_cases q : (p3.2 105 v1.toNatClampNeg) = (8 : Int32)
        · replace H := gift q H
          exact gfr_tr hf (fM_tells_50_fr  gfu _ _ _  H)
        · replace H := giff q H
          obtain rfl := Option.some.inj H
          exact hf
