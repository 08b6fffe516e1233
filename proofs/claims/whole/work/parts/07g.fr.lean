theorem fM_in_fr {v0 : Int64} {v2 : Int64} {v4 : Int64} {h : gH} {x : (Int32 × gH)} (H : fM_in v0 v2 v4 h = some x) : gfr [] [] h x.2 := by
  unfold fM_in at H
  have hf := gfr_rf [] [] h
  by_cases q : (lg_cmp v0 v2) < (0 : Int32)
  · replace H := gift q H
    obtain rfl := Option.some.inj H
    exact hf
  · replace H := giff q H
    by_cases q : (0 : Int32) < (lg_cmp v0 v4)
    · replace H := gift q H
      obtain rfl := Option.some.inj H
      exact hf
    · replace H := giff q H
      obtain rfl := Option.some.inj H
      exact hf
theorem fM_bitsOf_4_fr  : ∀ (n : Nat) (v1 : Int32) (v2 : Int32) (h : gH) (x : (Int32 × gH)), fM_bitsOf_4  n v1 v2 h = some x → gfr [] [] h x.2 := by
  intro n
  induction n with
  | zero => intro v1 v2 h x  H; exact g0 H
  | succ n ih =>
    intro v1 v2 h x  H
    unfold fM_bitsOf_4 at H
    have hf := gfr_rf [] [] h
    by_cases q : v2 = (0 : Int32)
    · replace H := gift q H
      obtain rfl := Option.some.inj H
      exact hf
    · replace H := giff q H
      exact gfr_tr hf (ih _ _ _ _  H)
theorem fM_bitsOf_fr {v0 : Int32} {h : gH} {x : (Int32 × gH)} (H : fM_bitsOf v0 h = some x) : gfr [] [] h x.2 := by
  unfold fM_bitsOf at H
  have hf := gfr_rf [] [] h
  exact gfr_tr hf (fM_bitsOf_4_fr  gfu _ _ _ _  H)
theorem fM_feed_fr {v1 : Int32} {h : gH} {x : (Int32 × gH)} (H : fM_feed v1 h = some x) : gfr [79] [(65, 22)] h x.2 := by
  unfold fM_feed at H
  have hf := gfr_rf [79] [(65, 22)] h
  obtain ⟨p1, e2, H⟩ := gbi H
  replace hf := gfr_tr hf (gfr_w (fM_in_fr  e2) gss_nil gss_nil)
  by_cases q : p1.1 = (0 : Int32)
  · replace H := gift q H
    obtain rfl := Option.some.inj H
    exact hf
  · replace H := giff q H
    by_cases q : (p1.2 65 22) = (90 : Int32)
    · replace H := gift q H
      obtain rfl := Option.some.inj H
      exact hf
    · replace H := giff q H
      obtain ⟨b3, H⟩ := ggi H
      have b3 := gin_in b3
      obtain ⟨h4, e5, H⟩ := glei H
      replace hf := gfr_e (gfr_a hf (gme 0 rfl)) e5
      obtain ⟨h6, e7, H⟩ := glei H
      replace hf := gfr_e (gfr_f hf (gme 0 rfl)) e7
      obtain rfl := Option.some.inj H
      exact hf
theorem fM_byteAt_fr {v1 : Int32} {h : gH} {x : (Int32 × gH)} (H : fM_byteAt v1 h = some x) : gfr [] [] h x.2 := by
  unfold fM_byteAt at H
  have hf := gfr_rf [] [] h
  by_cases q : v1 < (h 65 22)
  · replace H := gift q H
    obtain ⟨b1, H⟩ := ggi H
    have b1 := gin_in b1
    obtain rfl := Option.some.inj H
    exact hf
  · replace H := giff q H
    obtain rfl := Option.some.inj H
    exact hf
theorem fM_isSignByte_fr {v0 : Int32} {h : gH} {x : (Int32 × gH)} (H : fM_isSignByte v0 h = some x) : gfr [] [] h x.2 := by
  unfold fM_isSignByte at H
  have hf := gfr_rf [] [] h
  by_cases q : v0 = (40 : Int32)
  · replace H := gift q H
    obtain rfl := Option.some.inj H
    exact hf
  · replace H := giff q H
    by_cases q : v0 = (41 : Int32)
    · replace H := gift q H
      obtain rfl := Option.some.inj H
      exact hf
    · replace H := giff q H
      by_cases q : v0 = (58 : Int32)
      · replace H := gift q H
        obtain rfl := Option.some.inj H
        exact hf
      · replace H := giff q H
        by_cases q : v0 = (43 : Int32)
        · replace H := gift q H
          obtain rfl := Option.some.inj H
          exact hf
        · replace H := giff q H
          by_cases q : v0 = (45 : Int32)
          · replace H := gift q H
            obtain rfl := Option.some.inj H
            exact hf
          · replace H := giff q H
            by_cases q : v0 = (42 : Int32)
            · replace H := gift q H
              obtain rfl := Option.some.inj H
              exact hf
            · replace H := giff q H
              by_cases q : v0 = (60 : Int32)
              · replace H := gift q H
                obtain rfl := Option.some.inj H
                exact hf
              · replace H := giff q H
                by_cases q : v0 = (61 : Int32)
                · replace H := gift q H
                  obtain rfl := Option.some.inj H
                  exact hf
                · replace H := giff q H
                  by_cases q : v0 = (62 : Int32)
                  · replace H := gift q H
                    obtain rfl := Option.some.inj H
                    exact hf
                  · replace H := giff q H
                    by_cases q : v0 = (33 : Int32)
                    · replace H := gift q H
                      obtain rfl := Option.some.inj H
                      exact hf
                    · replace H := giff q H
                      obtain rfl := Option.some.inj H
                      exact hf
theorem fM_isDistinct_fr {h : gH} {x : (Int32 × gH)} (H : fM_isDistinct  h = some x) : gfr [] [] h x.2 := by
  unfold fM_isDistinct at H
  have hf := gfr_rf [] [] h
  by_cases q : (h 65 24) = ((h 65 26) + (8 : Int32))
  · replace H := gift q H
    obtain ⟨p1, e2, H⟩ := gbi H
    replace hf := gfr_tr hf (gfr_w (fM_byteAt_fr  e2) gss_nil gss_nil)
    by_cases q : p1.1 = (100 : Int32)
    · replace H := gift q H
      obtain ⟨p3, e4, H⟩ := gbi H
      replace hf := gfr_tr hf (gfr_w (fM_byteAt_fr  e4) gss_nil gss_nil)
      by_cases q : p3.1 = (105 : Int32)
      · replace H := gift q H
        obtain ⟨p5, e6, H⟩ := gbi H
        replace hf := gfr_tr hf (gfr_w (fM_byteAt_fr  e6) gss_nil gss_nil)
        by_cases q : p5.1 = (115 : Int32)
        · replace H := gift q H
          obtain ⟨p7, e8, H⟩ := gbi H
          replace hf := gfr_tr hf (gfr_w (fM_byteAt_fr  e8) gss_nil gss_nil)
          by_cases q : p7.1 = (116 : Int32)
          · replace H := gift q H
            obtain ⟨p9, e10, H⟩ := gbi H
            replace hf := gfr_tr hf (gfr_w (fM_byteAt_fr  e10) gss_nil gss_nil)
            by_cases q : p9.1 = (105 : Int32)
            · replace H := gift q H
              obtain ⟨p11, e12, H⟩ := gbi H
              replace hf := gfr_tr hf (gfr_w (fM_byteAt_fr  e12) gss_nil gss_nil)
              by_cases q : p11.1 = (110 : Int32)
              · replace H := gift q H
                obtain ⟨p13, e14, H⟩ := gbi H
                replace hf := gfr_tr hf (gfr_w (fM_byteAt_fr  e14) gss_nil gss_nil)
                by_cases q : p13.1 = (99 : Int32)
                · replace H := gift q H
                  obtain ⟨p15, e16, H⟩ := gbi H
                  replace hf := gfr_tr hf (gfr_w (fM_byteAt_fr  e16) gss_nil gss_nil)
                  by_cases q : p15.1 = (116 : Int32)
                  · replace H := gift q H
                    obtain rfl := Option.some.inj H
                    exact hf
                  · replace H := giff q H
                    obtain rfl := Option.some.inj H
                    exact hf
                · replace H := giff q H
                  obtain rfl := Option.some.inj H
                  exact hf
              · replace H := giff q H
                obtain rfl := Option.some.inj H
                exact hf
            · replace H := giff q H
              obtain rfl := Option.some.inj H
              exact hf
          · replace H := giff q H
            obtain rfl := Option.some.inj H
            exact hf
        · replace H := giff q H
          obtain rfl := Option.some.inj H
          exact hf
      · replace H := giff q H
        obtain rfl := Option.some.inj H
        exact hf
    · replace H := giff q H
      obtain rfl := Option.some.inj H
      exact hf
  · replace H := giff q H
    obtain rfl := Option.some.inj H
    exact hf
theorem fM_next_26_fr {k0 : gH → Option gH} (hk0f : ∀  (h : gH) (x : gH), k0  h = some x → gfr [] [(65, 24), (65, 26), (65, 25), (65, 27)] h x) {h : gH} {x : gH} (H : fM_next_26 k0   h = some x) : gfr [] [(65, 24), (65, 26), (65, 25), (65, 27)] h x := by
  unfold fM_next_26 at H
  have hf := gfr_rf [] [(65, 24), (65, 26), (65, 25), (65, 27)] h
  exact gfr_tr (gfr_f hf (gme 0 rfl)) (hk0f  _ _  H)
theorem fM_next_266_fr {k213 : Int32 → gH → Option gH} {v2 : Int32} {s1 : Int32} (hk213f : ∀ (u2 : Int32) (h : gH) (x : gH), k213 u2 h = some x → gfr [] [(65, 24), (65, 26), (65, 25), (65, 27)] h x) {h : gH} {x : gH} (H : fM_next_266 k213 v2 s1 h = some x) : gfr [] [(65, 24), (65, 26), (65, 25), (65, 27)] h x := by
  unfold fM_next_266 at H
  have hf := gfr_rf [] [(65, 24), (65, 26), (65, 25), (65, 27)] h
  obtain ⟨h25, e26, H⟩ := glei H
  replace hf := gfr_e (gfr_f hf (gme 3 rfl)) e26
  exact gfr_tr (gfr_f hf (gme 0 rfl)) (hk213f _ _ _  H)
theorem fM_next_213_fr  : ∀ (n : Nat) (v2 : Int32) (h : gH) (x : gH), fM_next_213  n v2 h = some x → gfr [] [(65, 24), (65, 26), (65, 25), (65, 27)] h x := by
  intro n
  induction n with
  | zero => intro v2 h x  H; exact g0 H
  | succ n ih =>
    intro v2 h x  H
    unfold fM_next_213 at H
    have hf := gfr_rf [] [(65, 24), (65, 26), (65, 25), (65, 27)] h
    obtain ⟨p21, e22, H⟩ := gbi H
    replace hf := gfr_tr hf (gfr_w (fM_byteAt_fr  e22) gss_nil gss_nil)
    obtain ⟨p23, e24, H⟩ := gbi H
    replace hf := gfr_tr hf (gfr_w (fM_in_fr  e24) gss_nil gss_nil)
    by_cases q : p23.1 = (0 : Int32)
    · replace H := gift q H
      by_cases q : (4 : Int32) < v2
      · replace H := gift q H
        obtain rfl := Option.some.inj H
        exact (gfr_f hf (gme 2 rfl))
      · replace H := giff q H
        obtain rfl := Option.some.inj H
        exact (gfr_f hf (gme 2 rfl))
    · replace H := giff q H
      by_cases q : v2 < (4 : Int32)
      · replace H := gift q H
        obtain ⟨p27, e28, H⟩ := gbi H
        replace hf := gfr_tr hf (gfr_w (fM_byteAt_fr  e28) gss_nil gss_nil)
        exact gfr_tr hf (fM_next_266_fr ih  H)
      · replace H := giff q H
        exact gfr_tr hf (fM_next_266_fr ih  H)
theorem fM_next_169_fr {s1 : Int32}  {h : gH} {x : gH} (H : fM_next_169  s1 h = some x) : gfr [] [(65, 24), (65, 26), (65, 25), (65, 27)] h x := by
  unfold fM_next_169 at H
  have hf := gfr_rf [] [(65, 24), (65, 26), (65, 25), (65, 27)] h
  obtain ⟨h35, e36, H⟩ := glei H
  replace hf := gfr_e (gfr_f hf (gme 3 rfl)) e36
  by_cases q : (h35 65 27) = (-1 : Int32)
  · replace H := gift q H
    obtain rfl := Option.some.inj H
    exact (gfr_f hf (gme 2 rfl))
  · replace H := giff q H
    obtain rfl := Option.some.inj H
    exact (gfr_f hf (gme 2 rfl))
theorem fM_next_156_fr  {h : gH} {x : gH} (H : fM_next_156   h = some x) : gfr [] [(65, 24), (65, 26), (65, 25), (65, 27)] h x := by
  unfold fM_next_156 at H
  have hf := gfr_rf [] [(65, 24), (65, 26), (65, 25), (65, 27)] h
  obtain ⟨p33, e34, H⟩ := gbi H
  replace hf := gfr_tr hf (gfr_w (fM_isDistinct_fr  e34) gss_nil gss_nil)
  by_cases q : p33.1 = (0 : Int32)
  · replace H := gift q H
    exact gfr_tr hf (fM_next_169_fr  H)
  · replace H := giff q H
    exact gfr_tr hf (fM_next_169_fr  H)
theorem fM_next_95_fr {v1 : Int32}  : ∀ (n : Nat) (h : gH) (x : gH), fM_next_95 v1 n  h = some x → gfr [] [(65, 24), (65, 26), (65, 25), (65, 27)] h x := by
  intro n
  induction n with
  | zero => intro  h x  H; exact g0 H
  | succ n ih =>
    intro  h x  H
    unfold fM_next_95 at H
    have hf := gfr_rf [] [(65, 24), (65, 26), (65, 25), (65, 27)] h
    obtain ⟨p29, e30, H⟩ := gbi H
    replace hf := gfr_tr hf (gfr_w (fM_byteAt_fr  e30) gss_nil gss_nil)
    obtain ⟨p31, e32, H⟩ := gbi H
    replace hf := gfr_tr hf (gfr_w (fM_in_fr  e32) gss_nil gss_nil)
    by_cases q : p31.1 = (0 : Int32)
    · replace H := gift q H
      by_cases q : (p31.2 65 24) = ((p31.2 65 26) + (1 : Int32))
      · replace H := gift q H
        by_cases q : (104 : Int32) < v1
        · replace H := gift q H
          exact gfr_tr hf (fM_next_156_fr  H)
        · replace H := giff q H
          exact gfr_tr hf (fM_next_169_fr  H)
      · replace H := giff q H
        exact gfr_tr hf (fM_next_156_fr  H)
    · replace H := giff q H
      exact gfr_tr (gfr_f hf (gme 0 rfl)) (ih  _ _  H)
theorem fM_next_0_fr  : ∀ (n : Nat) (h : gH) (x : gH), fM_next_0  n  h = some x → gfr [] [(65, 24), (65, 26), (65, 25), (65, 27)] h x := by
  intro n
  induction n with
  | zero => intro  h x  H; exact g0 H
  | succ n ih =>
    intro  h x  H
    unfold fM_next_0 at H
    have hf := gfr_rf [] [(65, 24), (65, 26), (65, 25), (65, 27)] h
    obtain ⟨p1, e2, H⟩ := gbi H
    replace hf := gfr_tr hf (gfr_w (fM_byteAt_fr  e2) gss_nil gss_nil)
    by_cases q : p1.1 = (32 : Int32)
    · replace H := gift q H
      exact gfr_tr hf (fM_next_26_fr ih  H)
    · replace H := giff q H
      obtain ⟨p3, e4, H⟩ := gbi H
      replace hf := gfr_tr hf (gfr_w (fM_byteAt_fr  e4) gss_nil gss_nil)
      by_cases q : p3.1 = (10 : Int32)
      · replace H := gift q H
        exact gfr_tr hf (fM_next_26_fr ih  H)
      · replace H := giff q H
        obtain ⟨h5, e6, H⟩ := glei H
        replace hf := gfr_e (gfr_f hf (gme 1 rfl)) e6
        obtain ⟨p7, e8, H⟩ := gbi H
        replace hf := gfr_tr hf (gfr_w (fM_byteAt_fr  e8) gss_nil gss_nil)
        obtain ⟨h9, e10, H⟩ := glei H
        replace hf := gfr_e (gfr_f hf (gme 2 rfl)) e10
        by_cases q : p7.1 < (0 : Int32)
        · replace H := gift q H
          obtain ⟨h37, e38, H⟩ := glei H
          replace hf := gfr_e (gfr_f hf (gme 2 rfl)) e38
          obtain rfl := Option.some.inj H
          exact (gfr_f hf (gme 1 rfl))
        · replace H := giff q H
          obtain ⟨p11, e12, H⟩ := gbi H
          replace hf := gfr_tr hf (gfr_w (fM_in_fr  e12) gss_nil gss_nil)
          by_cases q : p11.1 = (0 : Int32)
          · replace H := gift q H
            obtain ⟨p13, e14, H⟩ := gbi H
            replace hf := gfr_tr hf (gfr_w (fM_in_fr  e14) gss_nil gss_nil)
            by_cases q : p13.1 = (0 : Int32)
            · replace H := gift q H
              obtain ⟨p15, e16, H⟩ := gbi H
              replace hf := gfr_tr hf (gfr_w (fM_isSignByte_fr  e16) gss_nil gss_nil)
              by_cases q : p15.1 = (0 : Int32)
              · replace H := gift q H
                obtain rfl := Option.some.inj H
                exact hf
              · replace H := giff q H
                obtain ⟨h17, e18, H⟩ := glei H
                replace hf := gfr_e (gfr_f hf (gme 2 rfl)) e18
                obtain ⟨h19, e20, H⟩ := glei H
                replace hf := gfr_e (gfr_f hf (gme 3 rfl)) e20
                obtain rfl := Option.some.inj H
                exact (gfr_f hf (gme 0 rfl))
            · replace H := giff q H
              exact gfr_tr (gfr_f hf (gme 3 rfl)) (fM_next_213_fr  gfu _ _ _  H)
          · replace H := giff q H
            exact gfr_tr hf (fM_next_95_fr  gfu  _ _  H)
theorem fM_next_fr {h : gH} {x : gH} (H : fM_next  h = some x) : gfr [] [(65, 24), (65, 26), (65, 25), (65, 27)] h x := by
  unfold fM_next at H
  have hf := gfr_rf [] [(65, 24), (65, 26), (65, 25), (65, 27)] h
  exact gfr_tr hf (fM_next_0_fr  gfu  _ _  H)
theorem fM_fail_fr {h : gH} {x : gH} (H : fM_fail  h = some x) : gfr [] [(65, 29), (65, 30)] h x := by
  unfold fM_fail at H
  have hf := gfr_rf [] [(65, 29), (65, 30)] h
  by_cases q : (h 65 29) = (0 : Int32)
  · replace H := gift q H
    obtain ⟨h1, e2, H⟩ := glei H
    replace hf := gfr_e (gfr_f hf (gme 0 rfl)) e2
    obtain rfl := Option.some.inj H
    exact (gfr_f hf (gme 1 rfl))
  · replace H := giff q H
    obtain rfl := Option.some.inj H
    exact hf
theorem fM_isSign_fr {v1 : Int32} {h : gH} {x : (Int32 × gH)} (H : fM_isSign v1 h = some x) : gfr [] [] h x.2 := by
  unfold fM_isSign at H
  have hf := gfr_rf [] [] h
  by_cases q : (h 65 29) = (0 : Int32)
  · replace H := gift q H
    by_cases q : (h 65 25) = (3 : Int32)
    · replace H := gift q H
      by_cases q : (h 65 27) = v1
      · replace H := gift q H
        obtain rfl := Option.some.inj H
        exact hf
      · replace H := giff q H
        obtain rfl := Option.some.inj H
        exact hf
    · replace H := giff q H
      obtain rfl := Option.some.inj H
      exact hf
  · replace H := giff q H
    obtain rfl := Option.some.inj H
    exact hf
theorem fM_name_42_fr  {h : gH} {x : (Int32 × gH)} (H : fM_name_42   h = some x) : gfr [] [(65, 29), (65, 30), (65, 31), (65, 24), (65, 26), (65, 25), (65, 27)] h x.2 := by
  unfold fM_name_42 at H
  have hf := gfr_rf [] [(65, 29), (65, 30), (65, 31), (65, 24), (65, 26), (65, 25), (65, 27)] h
  obtain ⟨h1, e2, H⟩ := gbi H
  replace hf := gfr_tr hf (gfr_w (fM_fail_fr  e2) gss_nil (gss_cons (gme 0 rfl) (gss_cons (gme 1 rfl) gss_nil)))
  obtain rfl := Option.some.inj H
  exact hf
theorem fM_name_fr {h : gH} {x : (Int32 × gH)} (H : fM_name  h = some x) : gfr [] [(65, 29), (65, 30), (65, 31), (65, 24), (65, 26), (65, 25), (65, 27)] h x.2 := by
  unfold fM_name at H
  have hf := gfr_rf [] [(65, 29), (65, 30), (65, 31), (65, 24), (65, 26), (65, 25), (65, 27)] h
  by_cases q : (h 65 29) = (0 : Int32)
  · replace H := gift q H
    by_cases q : (h 65 25) = (1 : Int32)
    · replace H := gift q H
      by_cases q : (h 65 27) = (8 : Int32)
      · replace H := gift q H
        exact gfr_tr hf (fM_name_42_fr  H)
      · replace H := giff q H
        obtain ⟨p3, e4, H⟩ := gbi H
        replace hf := gfr_tr hf (gfr_w (fM_bitsOf_fr  e4) gss_nil gss_nil)
        by_cases q : (3 : Int32) < p3.1
        · replace H := gift q H
          exact gfr_tr hf (fM_name_42_fr  H)
        · replace H := giff q H
          obtain ⟨h5, e6, H⟩ := glei H
          replace hf := gfr_e (gfr_f hf (gme 2 rfl)) e6
          obtain ⟨h7, e8, H⟩ := gbi H
          replace hf := gfr_tr hf (gfr_w (fM_next_fr  e8) gss_nil (gss_cons (gme 3 rfl) (gss_cons (gme 4 rfl) (gss_cons (gme 5 rfl) (gss_cons (gme 6 rfl) gss_nil)))))
          obtain ⟨b9, H⟩ := ggi H
          have b9 := gin_in b9
          obtain rfl := Option.some.inj H
          exact hf
    · replace H := giff q H
      exact gfr_tr hf (fM_name_42_fr  H)
  · replace H := giff q H
    exact gfr_tr hf (fM_name_42_fr  H)
theorem fM_term_5_fr {R : Nat → gH → Option (Int32 × gH)} (hR0f : ∀ h x, R 0 h = some x → gfr [] [(65, 24), (65, 26), (65, 25), (65, 27), (65, 29), (65, 30), (65, 31), (65, 28)] h x.2) (hR1f : ∀ h x, R 1 h = some x → gfr [] [(65, 24), (65, 26), (65, 25), (65, 27), (65, 29), (65, 30), (65, 31), (65, 28)] h x.2) (hR2f : ∀ h x, R 2 h = some x → gfr [] [(65, 24), (65, 26), (65, 25), (65, 27), (65, 29), (65, 30), (65, 31), (65, 28)] h x.2)  : ∀ (n : Nat) (v1 : Int32) (h : gH) (x : (Int32 × gH)), fM_term_5 R  n v1 h = some x → gfr [] [(65, 24), (65, 26), (65, 25), (65, 27), (65, 29), (65, 30), (65, 31), (65, 28)] h x.2 := by
  intro n
  induction n with
  | zero => intro v1 h x  H; exact g0 H
  | succ n ih =>
    intro v1 h x  H
    unfold fM_term_5 at H
    have hf := gfr_rf [] [(65, 24), (65, 26), (65, 25), (65, 27), (65, 29), (65, 30), (65, 31), (65, 28)] h
    obtain ⟨p3, e4, H⟩ := gbi H
    replace hf := gfr_tr hf (gfr_w (fM_isSign_fr  e4) gss_nil gss_nil)
    by_cases q : p3.1 = (0 : Int32)
    · replace H := gift q H
      obtain rfl := Option.some.inj H
      exact hf
    · replace H := giff q H
      obtain ⟨h5, e6, H⟩ := gbi H
      replace hf := gfr_tr hf (gfr_w (fM_next_fr  e6) gss_nil (gss_cons (gme 0 rfl) (gss_cons (gme 1 rfl) (gss_cons (gme 2 rfl) (gss_cons (gme 3 rfl) gss_nil)))))
      obtain ⟨p7, e8, H⟩ := gbi H
      replace hf := gfr_tr hf (hR0f _ _ e8)
      exact gfr_tr hf (ih _ _ _  H)
theorem fM_term_fr {R : Nat → gH → Option (Int32 × gH)} (hR0f : ∀ h x, R 0 h = some x → gfr [] [(65, 24), (65, 26), (65, 25), (65, 27), (65, 29), (65, 30), (65, 31), (65, 28)] h x.2) (hR1f : ∀ h x, R 1 h = some x → gfr [] [(65, 24), (65, 26), (65, 25), (65, 27), (65, 29), (65, 30), (65, 31), (65, 28)] h x.2) (hR2f : ∀ h x, R 2 h = some x → gfr [] [(65, 24), (65, 26), (65, 25), (65, 27), (65, 29), (65, 30), (65, 31), (65, 28)] h x.2) {h : gH} {x : (Int32 × gH)} (H : fM_term R  h = some x) : gfr [] [(65, 24), (65, 26), (65, 25), (65, 27), (65, 29), (65, 30), (65, 31), (65, 28)] h x.2 := by
  unfold fM_term at H
  have hf := gfr_rf [] [(65, 24), (65, 26), (65, 25), (65, 27), (65, 29), (65, 30), (65, 31), (65, 28)] h
  obtain ⟨p1, e2, H⟩ := gbi H
  replace hf := gfr_tr hf (hR0f _ _ e2)
  exact gfr_tr hf (fM_term_5_fr hR0f hR1f hR2f  gfu _ _ _  H)
theorem fM_sum_52_fr {R : Nat → gH → Option (Int32 × gH)} {k5 : Int32 → gH → Option (Int32 × gH)} {s0 : Int32} (hR0f : ∀ h x, R 0 h = some x → gfr [] [(65, 24), (65, 26), (65, 25), (65, 27), (65, 29), (65, 30), (65, 31), (65, 28)] h x.2) (hR1f : ∀ h x, R 1 h = some x → gfr [] [(65, 24), (65, 26), (65, 25), (65, 27), (65, 29), (65, 30), (65, 31), (65, 28)] h x.2) (hR2f : ∀ h x, R 2 h = some x → gfr [] [(65, 24), (65, 26), (65, 25), (65, 27), (65, 29), (65, 30), (65, 31), (65, 28)] h x.2) (hk5f : ∀ (u1 : Int32) (h : gH) (x : (Int32 × gH)), k5 u1 h = some x → gfr [] [(65, 24), (65, 26), (65, 25), (65, 27), (65, 29), (65, 30), (65, 31), (65, 28)] h x.2) {h : gH} {x : (Int32 × gH)} (H : fM_sum_52 R k5  s0 h = some x) : gfr [] [(65, 24), (65, 26), (65, 25), (65, 27), (65, 29), (65, 30), (65, 31), (65, 28)] h x.2 := by
  unfold fM_sum_52 at H
  have hf := gfr_rf [] [(65, 24), (65, 26), (65, 25), (65, 27), (65, 29), (65, 30), (65, 31), (65, 28)] h
  exact gfr_tr hf (hk5f _ _ _  H)
theorem fM_sum_23_fr {R : Nat → gH → Option (Int32 × gH)} {k5 : Int32 → gH → Option (Int32 × gH)} {v1 : Int32} (hR0f : ∀ h x, R 0 h = some x → gfr [] [(65, 24), (65, 26), (65, 25), (65, 27), (65, 29), (65, 30), (65, 31), (65, 28)] h x.2) (hR1f : ∀ h x, R 1 h = some x → gfr [] [(65, 24), (65, 26), (65, 25), (65, 27), (65, 29), (65, 30), (65, 31), (65, 28)] h x.2) (hR2f : ∀ h x, R 2 h = some x → gfr [] [(65, 24), (65, 26), (65, 25), (65, 27), (65, 29), (65, 30), (65, 31), (65, 28)] h x.2) (hk5f : ∀ (u1 : Int32) (h : gH) (x : (Int32 × gH)), k5 u1 h = some x → gfr [] [(65, 24), (65, 26), (65, 25), (65, 27), (65, 29), (65, 30), (65, 31), (65, 28)] h x.2) {h : gH} {x : (Int32 × gH)} (H : fM_sum_23 R k5 v1  h = some x) : gfr [] [(65, 24), (65, 26), (65, 25), (65, 27), (65, 29), (65, 30), (65, 31), (65, 28)] h x.2 := by
  unfold fM_sum_23 at H
  have hf := gfr_rf [] [(65, 24), (65, 26), (65, 25), (65, 27), (65, 29), (65, 30), (65, 31), (65, 28)] h
  obtain ⟨p5, e6, H⟩ := gbi H
  replace hf := gfr_tr hf (gfr_w (fM_isSign_fr  e6) gss_nil gss_nil)
  obtain ⟨h7, e8, H⟩ := gbi H
  replace hf := gfr_tr hf (gfr_w (fM_next_fr  e8) gss_nil (gss_cons (gme 0 rfl) (gss_cons (gme 1 rfl) (gss_cons (gme 2 rfl) (gss_cons (gme 3 rfl) gss_nil)))))
  obtain ⟨p9, e10, H⟩ := gbi H
  replace hf := gfr_tr hf (hR1f _ _ e10)
  by_cases q : p5.1 = (0 : Int32)
  · replace H := gift q H
    exact gfr_tr hf (fM_sum_52_fr hR0f hR1f hR2f hk5f  H)
  · replace H := giff q H
    exact gfr_tr hf (fM_sum_52_fr hR0f hR1f hR2f hk5f  H)
theorem fM_sum_5_fr {R : Nat → gH → Option (Int32 × gH)} (hR0f : ∀ h x, R 0 h = some x → gfr [] [(65, 24), (65, 26), (65, 25), (65, 27), (65, 29), (65, 30), (65, 31), (65, 28)] h x.2) (hR1f : ∀ h x, R 1 h = some x → gfr [] [(65, 24), (65, 26), (65, 25), (65, 27), (65, 29), (65, 30), (65, 31), (65, 28)] h x.2) (hR2f : ∀ h x, R 2 h = some x → gfr [] [(65, 24), (65, 26), (65, 25), (65, 27), (65, 29), (65, 30), (65, 31), (65, 28)] h x.2)  : ∀ (n : Nat) (v1 : Int32) (h : gH) (x : (Int32 × gH)), fM_sum_5 R  n v1 h = some x → gfr [] [(65, 24), (65, 26), (65, 25), (65, 27), (65, 29), (65, 30), (65, 31), (65, 28)] h x.2 := by
  intro n
  induction n with
  | zero => intro v1 h x  H; exact g0 H
  | succ n ih =>
    intro v1 h x  H
    unfold fM_sum_5 at H
    have hf := gfr_rf [] [(65, 24), (65, 26), (65, 25), (65, 27), (65, 29), (65, 30), (65, 31), (65, 28)] h
    obtain ⟨p3, e4, H⟩ := gbi H
    replace hf := gfr_tr hf (gfr_w (fM_isSign_fr  e4) gss_nil gss_nil)
    by_cases q : p3.1 = (0 : Int32)
    · replace H := gift q H
      obtain ⟨p11, e12, H⟩ := gbi H
      replace hf := gfr_tr hf (gfr_w (fM_isSign_fr  e12) gss_nil gss_nil)
      by_cases q : p11.1 = (0 : Int32)
      · replace H := gift q H
        obtain rfl := Option.some.inj H
        exact hf
      · replace H := giff q H
        exact gfr_tr hf (fM_sum_23_fr hR0f hR1f hR2f ih  H)
    · replace H := giff q H
      exact gfr_tr hf (fM_sum_23_fr hR0f hR1f hR2f ih  H)
theorem fM_sum_fr {R : Nat → gH → Option (Int32 × gH)} (hR0f : ∀ h x, R 0 h = some x → gfr [] [(65, 24), (65, 26), (65, 25), (65, 27), (65, 29), (65, 30), (65, 31), (65, 28)] h x.2) (hR1f : ∀ h x, R 1 h = some x → gfr [] [(65, 24), (65, 26), (65, 25), (65, 27), (65, 29), (65, 30), (65, 31), (65, 28)] h x.2) (hR2f : ∀ h x, R 2 h = some x → gfr [] [(65, 24), (65, 26), (65, 25), (65, 27), (65, 29), (65, 30), (65, 31), (65, 28)] h x.2) {h : gH} {x : (Int32 × gH)} (H : fM_sum R  h = some x) : gfr [] [(65, 24), (65, 26), (65, 25), (65, 27), (65, 29), (65, 30), (65, 31), (65, 28)] h x.2 := by
  unfold fM_sum at H
  have hf := gfr_rf [] [(65, 24), (65, 26), (65, 25), (65, 27), (65, 29), (65, 30), (65, 31), (65, 28)] h
  obtain ⟨p1, e2, H⟩ := gbi H
  replace hf := gfr_tr hf (hR1f _ _ e2)
  exact gfr_tr hf (fM_sum_5_fr hR0f hR1f hR2f  gfu _ _ _  H)
theorem fM_one_118_fr {R : Nat → gH → Option (Int32 × gH)} {v1 : Int32} {v2 : Int32} (hR0f : ∀ h x, R 0 h = some x → gfr [] [(65, 24), (65, 26), (65, 25), (65, 27), (65, 29), (65, 30), (65, 31), (65, 28)] h x.2) (hR1f : ∀ h x, R 1 h = some x → gfr [] [(65, 24), (65, 26), (65, 25), (65, 27), (65, 29), (65, 30), (65, 31), (65, 28)] h x.2) (hR2f : ∀ h x, R 2 h = some x → gfr [] [(65, 24), (65, 26), (65, 25), (65, 27), (65, 29), (65, 30), (65, 31), (65, 28)] h x.2)  {h : gH} {x : (Int32 × gH)} (H : fM_one_118 R v1 v2  h = some x) : gfr [] [(65, 24), (65, 26), (65, 25), (65, 27), (65, 29), (65, 30), (65, 31), (65, 28)] h x.2 := by
  unfold fM_one_118 at H
  have hf := gfr_rf [] [(65, 24), (65, 26), (65, 25), (65, 27), (65, 29), (65, 30), (65, 31), (65, 28)] h
  obtain ⟨h11, e12, H⟩ := glei H
  replace hf := gfr_e (gfr_f hf (gme 7 rfl)) e12
  by_cases q : v1 = (0 : Int32)
  · replace H := gift q H
    by_cases q : (h11 65 29) = (0 : Int32)
    · replace H := gift q H
      obtain ⟨h13, e14, H⟩ := gbi H
      replace hf := gfr_tr hf (gfr_w (fM_next_fr  e14) gss_nil (gss_cons (gme 0 rfl) (gss_cons (gme 1 rfl) (gss_cons (gme 2 rfl) (gss_cons (gme 3 rfl) gss_nil)))))
      obtain rfl := Option.some.inj H
      exact hf
    · replace H := giff q H
      obtain rfl := Option.some.inj H
      exact hf
  · replace H := giff q H
    obtain rfl := Option.some.inj H
    exact hf
theorem fM_one_100_fr {R : Nat → gH → Option (Int32 × gH)} {v1 : Int32} {s0 : Int32} (hR0f : ∀ h x, R 0 h = some x → gfr [] [(65, 24), (65, 26), (65, 25), (65, 27), (65, 29), (65, 30), (65, 31), (65, 28)] h x.2) (hR1f : ∀ h x, R 1 h = some x → gfr [] [(65, 24), (65, 26), (65, 25), (65, 27), (65, 29), (65, 30), (65, 31), (65, 28)] h x.2) (hR2f : ∀ h x, R 2 h = some x → gfr [] [(65, 24), (65, 26), (65, 25), (65, 27), (65, 29), (65, 30), (65, 31), (65, 28)] h x.2)  {h : gH} {x : (Int32 × gH)} (H : fM_one_100 R v1 s0 h = some x) : gfr [] [(65, 24), (65, 26), (65, 25), (65, 27), (65, 29), (65, 30), (65, 31), (65, 28)] h x.2 := by
  unfold fM_one_100 at H
  have hf := gfr_rf [] [(65, 24), (65, 26), (65, 25), (65, 27), (65, 29), (65, 30), (65, 31), (65, 28)] h
  by_cases q : v1 = (0 : Int32)
  · replace H := gift q H
    obtain ⟨p15, e16, H⟩ := gbi H
    replace hf := gfr_tr hf (gfr_w (fM_isSign_fr  e16) gss_nil gss_nil)
    by_cases q : p15.1 = (0 : Int32)
    · replace H := gift q H
      obtain ⟨h17, e18, H⟩ := gbi H
      replace hf := gfr_tr hf (gfr_w (fM_fail_fr  e18) gss_nil (gss_cons (gme 4 rfl) (gss_cons (gme 5 rfl) gss_nil)))
      exact gfr_tr hf (fM_one_118_fr hR0f hR1f hR2f  H)
    · replace H := giff q H
      exact gfr_tr hf (fM_one_118_fr hR0f hR1f hR2f  H)
  · replace H := giff q H
    exact gfr_tr hf (fM_one_118_fr hR0f hR1f hR2f  H)
theorem fM_one_49_fr {R : Nat → gH → Option (Int32 × gH)} (hR0f : ∀ h x, R 0 h = some x → gfr [] [(65, 24), (65, 26), (65, 25), (65, 27), (65, 29), (65, 30), (65, 31), (65, 28)] h x.2) (hR1f : ∀ h x, R 1 h = some x → gfr [] [(65, 24), (65, 26), (65, 25), (65, 27), (65, 29), (65, 30), (65, 31), (65, 28)] h x.2) (hR2f : ∀ h x, R 2 h = some x → gfr [] [(65, 24), (65, 26), (65, 25), (65, 27), (65, 29), (65, 30), (65, 31), (65, 28)] h x.2)  {h : gH} {x : (Int32 × gH)} (H : fM_one_49 R   h = some x) : gfr [] [(65, 24), (65, 26), (65, 25), (65, 27), (65, 29), (65, 30), (65, 31), (65, 28)] h x.2 := by
  unfold fM_one_49 at H
  have hf := gfr_rf [] [(65, 24), (65, 26), (65, 25), (65, 27), (65, 29), (65, 30), (65, 31), (65, 28)] h
  by_cases q : (h 65 28) = (5 : Int32)
  · replace H := gift q H
    obtain ⟨h21, e22, H⟩ := gbi H
    replace hf := gfr_tr hf (gfr_w (fM_fail_fr  e22) gss_nil (gss_cons (gme 4 rfl) (gss_cons (gme 5 rfl) gss_nil)))
    obtain rfl := Option.some.inj H
    exact hf
  · replace H := giff q H
    obtain ⟨p3, e4, H⟩ := gbi H
    replace hf := gfr_tr hf (gfr_w (fM_isSign_fr  e4) gss_nil gss_nil)
    obtain ⟨h5, e6, H⟩ := glei H
    replace hf := gfr_e (gfr_f hf (gme 7 rfl)) e6
    obtain ⟨h7, e8, H⟩ := gbi H
    replace hf := gfr_tr hf (gfr_w (fM_next_fr  e8) gss_nil (gss_cons (gme 0 rfl) (gss_cons (gme 1 rfl) (gss_cons (gme 2 rfl) (gss_cons (gme 3 rfl) gss_nil)))))
    by_cases q : p3.1 = (0 : Int32)
    · replace H := gift q H
      obtain ⟨p9, e10, H⟩ := gbi H
      replace hf := gfr_tr hf (hR2f _ _ e10)
      exact gfr_tr hf (fM_one_100_fr hR0f hR1f hR2f  H)
    · replace H := giff q H
      obtain ⟨p19, e20, H⟩ := gbi H
      replace hf := gfr_tr hf (hR0f _ _ e20)
      exact gfr_tr hf (fM_one_100_fr hR0f hR1f hR2f  H)
theorem fM_one_26_fr {R : Nat → gH → Option (Int32 × gH)} (hR0f : ∀ h x, R 0 h = some x → gfr [] [(65, 24), (65, 26), (65, 25), (65, 27), (65, 29), (65, 30), (65, 31), (65, 28)] h x.2) (hR1f : ∀ h x, R 1 h = some x → gfr [] [(65, 24), (65, 26), (65, 25), (65, 27), (65, 29), (65, 30), (65, 31), (65, 28)] h x.2) (hR2f : ∀ h x, R 2 h = some x → gfr [] [(65, 24), (65, 26), (65, 25), (65, 27), (65, 29), (65, 30), (65, 31), (65, 28)] h x.2)  {h : gH} {x : (Int32 × gH)} (H : fM_one_26 R   h = some x) : gfr [] [(65, 24), (65, 26), (65, 25), (65, 27), (65, 29), (65, 30), (65, 31), (65, 28)] h x.2 := by
  unfold fM_one_26 at H
  have hf := gfr_rf [] [(65, 24), (65, 26), (65, 25), (65, 27), (65, 29), (65, 30), (65, 31), (65, 28)] h
  obtain ⟨p1, e2, H⟩ := gbi H
  replace hf := gfr_tr hf (gfr_w (fM_isSign_fr  e2) gss_nil gss_nil)
  by_cases q : p1.1 = (0 : Int32)
  · replace H := gift q H
    obtain ⟨p23, e24, H⟩ := gbi H
    replace hf := gfr_tr hf (gfr_w (fM_isSign_fr  e24) gss_nil gss_nil)
    by_cases q : p23.1 = (0 : Int32)
    · replace H := gift q H
      obtain ⟨p25, e26, H⟩ := gbi H
      replace hf := gfr_tr hf (gfr_w (fM_name_fr  e26) gss_nil (gss_cons (gme 4 rfl) (gss_cons (gme 5 rfl) (gss_cons (gme 6 rfl) (gss_cons (gme 0 rfl) (gss_cons (gme 1 rfl) (gss_cons (gme 2 rfl) (gss_cons (gme 3 rfl) gss_nil))))))))
      obtain rfl := Option.some.inj H
      exact hf
    · replace H := giff q H
      exact gfr_tr hf (fM_one_49_fr hR0f hR1f hR2f  H)
  · replace H := giff q H
    exact gfr_tr hf (fM_one_49_fr hR0f hR1f hR2f  H)
theorem fM_one_fr {R : Nat → gH → Option (Int32 × gH)} (hR0f : ∀ h x, R 0 h = some x → gfr [] [(65, 24), (65, 26), (65, 25), (65, 27), (65, 29), (65, 30), (65, 31), (65, 28)] h x.2) (hR1f : ∀ h x, R 1 h = some x → gfr [] [(65, 24), (65, 26), (65, 25), (65, 27), (65, 29), (65, 30), (65, 31), (65, 28)] h x.2) (hR2f : ∀ h x, R 2 h = some x → gfr [] [(65, 24), (65, 26), (65, 25), (65, 27), (65, 29), (65, 30), (65, 31), (65, 28)] h x.2) {h : gH} {x : (Int32 × gH)} (H : fM_one R  h = some x) : gfr [] [(65, 24), (65, 26), (65, 25), (65, 27), (65, 29), (65, 30), (65, 31), (65, 28)] h x.2 := by
  unfold fM_one at H
  have hf := gfr_rf [] [(65, 24), (65, 26), (65, 25), (65, 27), (65, 29), (65, 30), (65, 31), (65, 28)] h
  by_cases q : (h 65 29) = (0 : Int32)
  · replace H := gift q H
    by_cases q : (h 65 25) = (2 : Int32)
    · replace H := gift q H
      obtain ⟨h27, e28, H⟩ := gbi H
      replace hf := gfr_tr hf (gfr_w (fM_next_fr  e28) gss_nil (gss_cons (gme 0 rfl) (gss_cons (gme 1 rfl) (gss_cons (gme 2 rfl) (gss_cons (gme 3 rfl) gss_nil)))))
      obtain rfl := Option.some.inj H
      exact hf
    · replace H := giff q H
      exact gfr_tr hf (fM_one_26_fr hR0f hR1f hR2f  H)
  · replace H := giff q H
    exact gfr_tr hf (fM_one_26_fr hR0f hR1f hR2f  H)
theorem gMG_fra : ∀ n : Nat, (∀ (h : gH) (x : Int32 × gH), gMG n 0 h = some x → gfr [] [(65, 24), (65, 26), (65, 25), (65, 27), (65, 29), (65, 30), (65, 31), (65, 28)] h x.2) ∧ (∀ (h : gH) (x : Int32 × gH), gMG n 1 h = some x → gfr [] [(65, 24), (65, 26), (65, 25), (65, 27), (65, 29), (65, 30), (65, 31), (65, 28)] h x.2) ∧ (∀ (h : gH) (x : Int32 × gH), gMG n 2 h = some x → gfr [] [(65, 24), (65, 26), (65, 25), (65, 27), (65, 29), (65, 30), (65, 31), (65, 28)] h x.2) := by
  intro n
  induction n with
  | zero => exact ⟨fun h x H => g0 H, fun h x H => g0 H, fun h x H => g0 H⟩
  | succ n ih =>
    exact ⟨fun h x H => fM_one_fr ih.1 ih.2.1 ih.2.2 H,
      fun h x H => fM_term_fr ih.1 ih.2.1 ih.2.2 H,
      fun h x H => fM_sum_fr ih.1 ih.2.1 ih.2.2 H⟩
theorem gMG_fr_0 (n : Nat) : ∀ (h : gH) (x : Int32 × gH), gMG n 0 h = some x → gfr [] [(65, 24), (65, 26), (65, 25), (65, 27), (65, 29), (65, 30), (65, 31), (65, 28)] h x.2 := (gMG_fra n).1
theorem gMG_fr_1 (n : Nat) : ∀ (h : gH) (x : Int32 × gH), gMG n 1 h = some x → gfr [] [(65, 24), (65, 26), (65, 25), (65, 27), (65, 29), (65, 30), (65, 31), (65, 28)] h x.2 := (gMG_fra n).2.1
theorem gMG_fr_2 (n : Nat) : ∀ (h : gH) (x : Int32 × gH), gMG n 2 h = some x → gfr [] [(65, 24), (65, 26), (65, 25), (65, 27), (65, 29), (65, 30), (65, 31), (65, 28)] h x.2 := (gMG_fra n).2.2
theorem fM_test_47_fr {v1 : Int32}  {h : gH} {x : (Int32 × gH)} (H : fM_test_47 v1  h = some x) : gfr [] [(65, 24), (65, 26), (65, 25), (65, 27), (65, 29), (65, 30), (65, 31), (65, 28)] h x.2 := by
  unfold fM_test_47 at H
  have hf := gfr_rf [] [(65, 24), (65, 26), (65, 25), (65, 27), (65, 29), (65, 30), (65, 31), (65, 28)] h
  obtain ⟨h5, e6, H⟩ := gbi H
  replace hf := gfr_tr hf (gfr_w (fM_next_fr  e6) gss_nil (gss_cons (gme 0 rfl) (gss_cons (gme 1 rfl) (gss_cons (gme 2 rfl) (gss_cons (gme 3 rfl) gss_nil)))))
  obtain ⟨p7, e8, H⟩ := gbi H
  replace hf := gfr_tr hf (gfr_w (gMG_fr_2 40 _ _ e8) gss_nil (gss_cons (gme 0 rfl) (gss_cons (gme 1 rfl) (gss_cons (gme 2 rfl) (gss_cons (gme 3 rfl) (gss_cons (gme 4 rfl) (gss_cons (gme 5 rfl) (gss_cons (gme 6 rfl) (gss_cons (gme 7 rfl) gss_nil)))))))))
  by_cases q : (h 65 27) = (60 : Int32)
  · replace H := gift q H
    by_cases q : v1 < p7.1
    · replace H := gift q H
      obtain rfl := Option.some.inj H
      exact hf
    · replace H := giff q H
      obtain rfl := Option.some.inj H
      exact hf
  · replace H := giff q H
    by_cases q : (h 65 27) = (61 : Int32)
    · replace H := gift q H
      by_cases q : v1 = p7.1
      · replace H := gift q H
        obtain rfl := Option.some.inj H
        exact hf
      · replace H := giff q H
        obtain rfl := Option.some.inj H
        exact hf
    · replace H := giff q H
      by_cases q : (h 65 27) = (62 : Int32)
      · replace H := gift q H
        by_cases q : p7.1 < v1
        · replace H := gift q H
          obtain rfl := Option.some.inj H
          exact hf
        · replace H := giff q H
          obtain rfl := Option.some.inj H
          exact hf
      · replace H := giff q H
        by_cases q : v1 = p7.1
        · replace H := gift q H
          obtain rfl := Option.some.inj H
          exact hf
        · replace H := giff q H
          obtain rfl := Option.some.inj H
          exact hf
theorem fM_test_fr {h : gH} {x : (Int32 × gH)} (H : fM_test  h = some x) : gfr [] [(65, 24), (65, 26), (65, 25), (65, 27), (65, 29), (65, 30), (65, 31), (65, 28)] h x.2 := by
  unfold fM_test at H
  have hf := gfr_rf [] [(65, 24), (65, 26), (65, 25), (65, 27), (65, 29), (65, 30), (65, 31), (65, 28)] h
  obtain ⟨p1, e2, H⟩ := gbi H
  replace hf := gfr_tr hf (gfr_w (gMG_fr_2 40 _ _ e2) gss_nil (gss_cons (gme 0 rfl) (gss_cons (gme 1 rfl) (gss_cons (gme 2 rfl) (gss_cons (gme 3 rfl) (gss_cons (gme 4 rfl) (gss_cons (gme 5 rfl) (gss_cons (gme 6 rfl) (gss_cons (gme 7 rfl) gss_nil)))))))))
  obtain ⟨p3, e4, H⟩ := gbi H
  replace hf := gfr_tr hf (gfr_w (fM_isSign_fr  e4) gss_nil gss_nil)
  by_cases q : p3.1 = (0 : Int32)
  · replace H := gift q H
    obtain ⟨p9, e10, H⟩ := gbi H
    replace hf := gfr_tr hf (gfr_w (fM_isSign_fr  e10) gss_nil gss_nil)
    by_cases q : p9.1 = (0 : Int32)
    · replace H := gift q H
      obtain ⟨p11, e12, H⟩ := gbi H
      replace hf := gfr_tr hf (gfr_w (fM_isSign_fr  e12) gss_nil gss_nil)
      by_cases q : p11.1 = (0 : Int32)
      · replace H := gift q H
        obtain ⟨p13, e14, H⟩ := gbi H
        replace hf := gfr_tr hf (gfr_w (fM_isSign_fr  e14) gss_nil gss_nil)
        by_cases q : p13.1 = (0 : Int32)
        · replace H := gift q H
          obtain ⟨h15, e16, H⟩ := gbi H
          replace hf := gfr_tr hf (gfr_w (fM_fail_fr  e16) gss_nil (gss_cons (gme 4 rfl) (gss_cons (gme 5 rfl) gss_nil)))
          obtain rfl := Option.some.inj H
          exact hf
        · replace H := giff q H
          exact gfr_tr hf (fM_test_47_fr  H)
      · replace H := giff q H
        exact gfr_tr hf (fM_test_47_fr  H)
    · replace H := giff q H
      exact gfr_tr hf (fM_test_47_fr  H)
  · replace H := giff q H
    exact gfr_tr hf (fM_test_47_fr  H)
theorem fM_fresh_43_fr  {h : gH} {x : (Int32 × gH)} (H : fM_fresh_43   h = some x) : gfr [] [(65, 29), (65, 30), (65, 31), (65, 24), (65, 26), (65, 25), (65, 27)] h x.2 := by
  unfold fM_fresh_43 at H
  have hf := gfr_rf [] [(65, 29), (65, 30), (65, 31), (65, 24), (65, 26), (65, 25), (65, 27)] h
  obtain ⟨p1, e2, H⟩ := gbi H
  replace hf := gfr_tr hf (gfr_w (fM_name_fr  e2) gss_nil (gss_cons (gme 0 rfl) (gss_cons (gme 1 rfl) (gss_cons (gme 2 rfl) (gss_cons (gme 3 rfl) (gss_cons (gme 4 rfl) (gss_cons (gme 5 rfl) (gss_cons (gme 6 rfl) gss_nil))))))))
  obtain rfl := Option.some.inj H
  exact hf
theorem fM_fresh_fr {h : gH} {x : (Int32 × gH)} (H : fM_fresh  h = some x) : gfr [] [(65, 29), (65, 30), (65, 31), (65, 24), (65, 26), (65, 25), (65, 27)] h x.2 := by
  unfold fM_fresh at H
  have hf := gfr_rf [] [(65, 29), (65, 30), (65, 31), (65, 24), (65, 26), (65, 25), (65, 27)] h
  by_cases q : (h 65 29) = (0 : Int32)
  · replace H := gift q H
    by_cases q : (h 65 25) = (1 : Int32)
    · replace H := gift q H
      by_cases q : (h 65 27) < (8 : Int32)
      · replace H := gift q H
        by_cases q : (((h 65 31) >>> ((h 65 27) &&& 31)) &&& (1 : Int32)) = (1 : Int32)
        · replace H := gift q H
          obtain ⟨h3, e4, H⟩ := gbi H
          replace hf := gfr_tr hf (gfr_w (fM_fail_fr  e4) gss_nil (gss_cons (gme 0 rfl) (gss_cons (gme 1 rfl) gss_nil)))
          exact gfr_tr hf (fM_fresh_43_fr  H)
        · replace H := giff q H
          exact gfr_tr hf (fM_fresh_43_fr  H)
      · replace H := giff q H
        exact gfr_tr hf (fM_fresh_43_fr  H)
    · replace H := giff q H
      exact gfr_tr hf (fM_fresh_43_fr  H)
  · replace H := giff q H
    exact gfr_tr hf (fM_fresh_43_fr  H)
theorem fM_reads_261_fr {v1 : Int32}  {h : gH} {x : (Int32 × gH)} (H : fM_reads_261 v1  h = some x) : gfr [] [(65, 24), (65, 28), (65, 29), (65, 31), (65, 32), (65, 26), (65, 25), (65, 27), (65, 30)] h x.2 := by
  unfold fM_reads_261 at H
  have hf := gfr_rf [] [(65, 24), (65, 28), (65, 29), (65, 31), (65, 32), (65, 26), (65, 25), (65, 27), (65, 30)] h
  by_cases q : (h 65 29) = (0 : Int32)
  · replace H := gift q H
    by_cases q : (h 65 25) = (0 : Int32)
    · replace H := gift q H
      obtain ⟨b22, H⟩ := ggi H
      have b22 := gbo_or b22
      obtain rfl := Option.some.inj H
      exact hf
    · replace H := giff q H
      obtain ⟨h23, e24, H⟩ := gbi H
      replace hf := gfr_tr hf (gfr_w (fM_fail_fr  e24) gss_nil (gss_cons (gme 2 rfl) (gss_cons (gme 8 rfl) gss_nil)))
      obtain ⟨b25, H⟩ := ggi H
      have b25 := gbo_or b25
      obtain rfl := Option.some.inj H
      exact hf
  · replace H := giff q H
    obtain ⟨b21, H⟩ := ggi H
    have b21 := gbo_or b21
    obtain rfl := Option.some.inj H
    exact hf
theorem fM_reads_260_fr {s0 : Int32}  {h : gH} {x : (Int32 × gH)} (H : fM_reads_260  s0 h = some x) : gfr [] [(65, 24), (65, 28), (65, 29), (65, 31), (65, 32), (65, 26), (65, 25), (65, 27), (65, 30)] h x.2 := by
  unfold fM_reads_260 at H
  have hf := gfr_rf [] [(65, 24), (65, 28), (65, 29), (65, 31), (65, 32), (65, 26), (65, 25), (65, 27), (65, 30)] h
  exact gfr_tr hf (fM_reads_261_fr  H)
theorem fM_reads_259_fr  {h : gH} {x : (Int32 × gH)} (H : fM_reads_259   h = some x) : gfr [] [(65, 24), (65, 28), (65, 29), (65, 31), (65, 32), (65, 26), (65, 25), (65, 27), (65, 30)] h x.2 := by
  unfold fM_reads_259 at H
  have hf := gfr_rf [] [(65, 24), (65, 28), (65, 29), (65, 31), (65, 32), (65, 26), (65, 25), (65, 27), (65, 30)] h
  exact gfr_tr hf (fM_reads_260_fr  H)
theorem fM_reads_255_fr  {h : gH} {x : (Int32 × gH)} (H : fM_reads_255   h = some x) : gfr [] [(65, 24), (65, 28), (65, 29), (65, 31), (65, 32), (65, 26), (65, 25), (65, 27), (65, 30)] h x.2 := by
  unfold fM_reads_255 at H
  have hf := gfr_rf [] [(65, 24), (65, 28), (65, 29), (65, 31), (65, 32), (65, 26), (65, 25), (65, 27), (65, 30)] h
  exact gfr_tr hf (fM_reads_260_fr  H)
theorem fM_reads_242_fr {v1 : Int32} {v2 : Int32}  {h : gH} {x : (Int32 × gH)} (H : fM_reads_242 v1 v2  h = some x) : gfr [] [(65, 24), (65, 28), (65, 29), (65, 31), (65, 32), (65, 26), (65, 25), (65, 27), (65, 30)] h x.2 := by
  unfold fM_reads_242 at H
  have hf := gfr_rf [] [(65, 24), (65, 28), (65, 29), (65, 31), (65, 32), (65, 26), (65, 25), (65, 27), (65, 30)] h
  obtain ⟨b27, H⟩ := ggi H
  have b27 := gin_in b27
  by_cases q : (h 80 v2.toNatClampNeg) = (0 : Int32)
  · replace H := gift q H
    by_cases q : v1 = (0 : Int32)
    · replace H := gift q H
      exact gfr_tr hf (fM_reads_255_fr  H)
    · replace H := giff q H
      exact gfr_tr hf (fM_reads_259_fr  H)
  · replace H := giff q H
    exact gfr_tr hf (fM_reads_259_fr  H)
theorem fM_reads_218_fr {v2 : Int32} {v5 : Int32}  {h : gH} {x : (Int32 × gH)} (H : fM_reads_218 v2 v5  h = some x) : gfr [] [(65, 24), (65, 28), (65, 29), (65, 31), (65, 32), (65, 26), (65, 25), (65, 27), (65, 30)] h x.2 := by
  unfold fM_reads_218 at H
  have hf := gfr_rf [] [(65, 24), (65, 28), (65, 29), (65, 31), (65, 32), (65, 26), (65, 25), (65, 27), (65, 30)] h
  obtain ⟨p19, e20, H⟩ := gbi H
  replace hf := gfr_tr hf (gfr_w (fM_test_fr  e20) gss_nil (gss_cons (gme 0 rfl) (gss_cons (gme 5 rfl) (gss_cons (gme 6 rfl) (gss_cons (gme 7 rfl) (gss_cons (gme 2 rfl) (gss_cons (gme 8 rfl) (gss_cons (gme 3 rfl) (gss_cons (gme 1 rfl) gss_nil)))))))))
  by_cases q : v5 = (0 : Int32)
  · replace H := gift q H
    exact gfr_tr hf (fM_reads_261_fr  H)
  · replace H := giff q H
    obtain ⟨b26, H⟩ := ggi H
    have b26 := gin_in b26
    by_cases q : (p19.2 80 v2.toNatClampNeg) = (1 : Int32)
    · replace H := gift q H
      by_cases q : p19.1 = (0 : Int32)
      · replace H := gift q H
        exact gfr_tr hf (fM_reads_242_fr  H)
      · replace H := giff q H
        exact gfr_tr hf (fM_reads_255_fr  H)
    · replace H := giff q H
      exact gfr_tr hf (fM_reads_242_fr  H)
theorem fM_reads_182_fr {v2 : Int32} {v4 : Int32} {s0 : Int32}  {h : gH} {x : (Int32 × gH)} (H : fM_reads_182 v2 v4 s0 h = some x) : gfr [] [(65, 24), (65, 28), (65, 29), (65, 31), (65, 32), (65, 26), (65, 25), (65, 27), (65, 30)] h x.2 := by
  unfold fM_reads_182 at H
  have hf := gfr_rf [] [(65, 24), (65, 28), (65, 29), (65, 31), (65, 32), (65, 26), (65, 25), (65, 27), (65, 30)] h
  by_cases q : s0 = (0 : Int32)
  · replace H := gift q H
    obtain ⟨h15, e16, H⟩ := glei H
    replace hf := gfr_e (gfr_f hf (gme 0 rfl)) e16
    obtain ⟨h17, e18, H⟩ := gbi H
    replace hf := gfr_tr hf (gfr_w (fM_next_fr  e18) gss_nil (gss_cons (gme 0 rfl) (gss_cons (gme 5 rfl) (gss_cons (gme 6 rfl) (gss_cons (gme 7 rfl) gss_nil)))))
    exact gfr_tr hf (fM_reads_218_fr  H)
  · replace H := giff q H
    obtain ⟨h28, e29, H⟩ := glei H
    replace hf := gfr_e (gfr_f hf (gme 4 rfl)) e29
    obtain ⟨h30, e31, H⟩ := glei H
    replace hf := gfr_e (gfr_f hf (gme 3 rfl)) e31
    obtain ⟨h32, e33, H⟩ := gbi H
    replace hf := gfr_tr hf (gfr_w (fM_next_fr  e33) gss_nil (gss_cons (gme 0 rfl) (gss_cons (gme 5 rfl) (gss_cons (gme 6 rfl) (gss_cons (gme 7 rfl) gss_nil)))))
    exact gfr_tr hf (fM_reads_218_fr  H)
theorem fM_reads_181_fr {v2 : Int32} {v4 : Int32}  {h : gH} {x : (Int32 × gH)} (H : fM_reads_181 v2 v4  h = some x) : gfr [] [(65, 24), (65, 28), (65, 29), (65, 31), (65, 32), (65, 26), (65, 25), (65, 27), (65, 30)] h x.2 := by
  unfold fM_reads_181 at H
  have hf := gfr_rf [] [(65, 24), (65, 28), (65, 29), (65, 31), (65, 32), (65, 26), (65, 25), (65, 27), (65, 30)] h
  exact gfr_tr hf (fM_reads_182_fr  H)
theorem fM_reads_139_fr {s0 : Int32}  {h : gH} {x : (Int32 × gH)} (H : fM_reads_139  s0 h = some x) : gfr [] [(65, 24), (65, 28), (65, 29), (65, 31), (65, 32), (65, 26), (65, 25), (65, 27), (65, 30)] h x.2 := by
  unfold fM_reads_139 at H
  have hf := gfr_rf [] [(65, 24), (65, 28), (65, 29), (65, 31), (65, 32), (65, 26), (65, 25), (65, 27), (65, 30)] h
  obtain ⟨h13, e14, H⟩ := gbi H
  replace hf := gfr_tr hf (gfr_w (fM_next_fr  e14) gss_nil (gss_cons (gme 0 rfl) (gss_cons (gme 5 rfl) (gss_cons (gme 6 rfl) (gss_cons (gme 7 rfl) gss_nil)))))
  by_cases q : s0 = (-1 : Int32)
  · replace H := gift q H
    exact gfr_tr hf (fM_reads_181_fr  H)
  · replace H := giff q H
    by_cases q : (h13 65 25) = (3 : Int32)
    · replace H := gift q H
      by_cases q : (h13 65 27) = (58 : Int32)
      · replace H := gift q H
        exact gfr_tr hf (fM_reads_182_fr  H)
      · replace H := giff q H
        exact gfr_tr hf (fM_reads_181_fr  H)
    · replace H := giff q H
      exact gfr_tr hf (fM_reads_181_fr  H)
theorem fM_reads_123_fr  {h : gH} {x : (Int32 × gH)} (H : fM_reads_123   h = some x) : gfr [] [(65, 24), (65, 28), (65, 29), (65, 31), (65, 32), (65, 26), (65, 25), (65, 27), (65, 30)] h x.2 := by
  unfold fM_reads_123 at H
  have hf := gfr_rf [] [(65, 24), (65, 28), (65, 29), (65, 31), (65, 32), (65, 26), (65, 25), (65, 27), (65, 30)] h
  by_cases q : (h 65 25) = (1 : Int32)
  · replace H := gift q H
    exact gfr_tr hf (fM_reads_139_fr  H)
  · replace H := giff q H
    exact gfr_tr hf (fM_reads_139_fr  H)
theorem fM_reads_119_fr {s0 : Int32}  {h : gH} {x : (Int32 × gH)} (H : fM_reads_119  s0 h = some x) : gfr [] [(65, 24), (65, 28), (65, 29), (65, 31), (65, 32), (65, 26), (65, 25), (65, 27), (65, 30)] h x.2 := by
  unfold fM_reads_119 at H
  have hf := gfr_rf [] [(65, 24), (65, 28), (65, 29), (65, 31), (65, 32), (65, 26), (65, 25), (65, 27), (65, 30)] h
  exact gfr_tr hf (fM_reads_261_fr  H)
theorem fM_reads_118_fr  {h : gH} {x : (Int32 × gH)} (H : fM_reads_118   h = some x) : gfr [] [(65, 24), (65, 28), (65, 29), (65, 31), (65, 32), (65, 26), (65, 25), (65, 27), (65, 30)] h x.2 := by
  unfold fM_reads_118 at H
  have hf := gfr_rf [] [(65, 24), (65, 28), (65, 29), (65, 31), (65, 32), (65, 26), (65, 25), (65, 27), (65, 30)] h
  exact gfr_tr hf (fM_reads_119_fr  H)
theorem fM_reads_77_fr {v2 : Int32} {v3 : Int32} {s0 : Int32}  {h : gH} {x : (Int32 × gH)} (H : fM_reads_77 v2 v3 s0 h = some x) : gfr [] [(65, 24), (65, 28), (65, 29), (65, 31), (65, 32), (65, 26), (65, 25), (65, 27), (65, 30)] h x.2 := by
  unfold fM_reads_77 at H
  have hf := gfr_rf [] [(65, 24), (65, 28), (65, 29), (65, 31), (65, 32), (65, 26), (65, 25), (65, 27), (65, 30)] h
  by_cases q : (h 65 29) = (0 : Int32)
  · replace H := gift q H
    by_cases q : (h 65 25) = (0 : Int32)
    · replace H := gift q H
      exact gfr_tr hf (fM_reads_261_fr  H)
    · replace H := giff q H
      obtain ⟨p42, e43, H⟩ := gbi H
      replace hf := gfr_tr hf (gfr_w (fM_fresh_fr  e43) gss_nil (gss_cons (gme 2 rfl) (gss_cons (gme 8 rfl) (gss_cons (gme 3 rfl) (gss_cons (gme 0 rfl) (gss_cons (gme 5 rfl) (gss_cons (gme 6 rfl) (gss_cons (gme 7 rfl) gss_nil))))))))
      by_cases q : s0 = (0 : Int32)
      · replace H := gift q H
        exact gfr_tr hf (fM_reads_118_fr  H)
      · replace H := giff q H
        by_cases q : v2 = p42.1
        · replace H := gift q H
          exact gfr_tr hf (fM_reads_118_fr  H)
        · replace H := giff q H
          by_cases q : v3 = p42.1
          · replace H := gift q H
            exact gfr_tr hf (fM_reads_118_fr  H)
          · replace H := giff q H
            exact gfr_tr hf (fM_reads_119_fr  H)
  · replace H := giff q H
    exact gfr_tr hf (fM_reads_261_fr  H)
theorem fM_reads_fr {h : gH} {x : (Int32 × gH)} (H : fM_reads  h = some x) : gfr [] [(65, 24), (65, 28), (65, 29), (65, 31), (65, 32), (65, 26), (65, 25), (65, 27), (65, 30)] h x.2 := by
  unfold fM_reads at H
  have hf := gfr_rf [] [(65, 24), (65, 28), (65, 29), (65, 31), (65, 32), (65, 26), (65, 25), (65, 27), (65, 30)] h
  obtain ⟨h1, e2, H⟩ := glei H
  replace hf := gfr_e (gfr_f hf (gme 0 rfl)) e2
  obtain ⟨h3, e4, H⟩ := glei H
  replace hf := gfr_e (gfr_f hf (gme 1 rfl)) e4
  obtain ⟨h5, e6, H⟩ := glei H
  replace hf := gfr_e (gfr_f hf (gme 2 rfl)) e6
  obtain ⟨h7, e8, H⟩ := glei H
  replace hf := gfr_e (gfr_f hf (gme 3 rfl)) e8
  obtain ⟨h9, e10, H⟩ := glei H
  replace hf := gfr_e (gfr_f hf (gme 4 rfl)) e10
  obtain ⟨h11, e12, H⟩ := gbi H
  replace hf := gfr_tr hf (gfr_w (fM_next_fr  e12) gss_nil (gss_cons (gme 0 rfl) (gss_cons (gme 5 rfl) (gss_cons (gme 6 rfl) (gss_cons (gme 7 rfl) gss_nil)))))
  by_cases q : (h11 65 25) = (1 : Int32)
  · replace H := gift q H
    by_cases q : (h11 65 27) = (8 : Int32)
    · replace H := gift q H
      obtain ⟨h34, e35, H⟩ := glei H
      replace hf := gfr_e (gfr_f hf (gme 4 rfl)) e35
      obtain ⟨h36, e37, H⟩ := gbi H
      replace hf := gfr_tr hf (gfr_w (fM_next_fr  e37) gss_nil (gss_cons (gme 0 rfl) (gss_cons (gme 5 rfl) (gss_cons (gme 6 rfl) (gss_cons (gme 7 rfl) gss_nil)))))
      obtain ⟨p38, e39, H⟩ := gbi H
      replace hf := gfr_tr hf (gfr_w (fM_fresh_fr  e39) gss_nil (gss_cons (gme 2 rfl) (gss_cons (gme 8 rfl) (gss_cons (gme 3 rfl) (gss_cons (gme 0 rfl) (gss_cons (gme 5 rfl) (gss_cons (gme 6 rfl) (gss_cons (gme 7 rfl) gss_nil))))))))
      obtain ⟨p40, e41, H⟩ := gbi H
      replace hf := gfr_tr hf (gfr_w (fM_fresh_fr  e41) gss_nil (gss_cons (gme 2 rfl) (gss_cons (gme 8 rfl) (gss_cons (gme 3 rfl) (gss_cons (gme 0 rfl) (gss_cons (gme 5 rfl) (gss_cons (gme 6 rfl) (gss_cons (gme 7 rfl) gss_nil))))))))
      by_cases q : p38.1 = p40.1
      · replace H := gift q H
        exact gfr_tr hf (fM_reads_77_fr  H)
      · replace H := giff q H
        exact gfr_tr hf (fM_reads_77_fr  H)
    · replace H := giff q H
      exact gfr_tr hf (fM_reads_123_fr  H)
  · replace H := giff q H
    exact gfr_tr hf (fM_reads_123_fr  H)
theorem fM_variable_4_fr {v0 : Int32} {v1 : Int32}  : ∀ (n : Nat) (v2 : Int32) (v3 : Int32) (h : gH) (x : (Int32 × gH)), fM_variable_4 v0 v1 n v2 v3 h = some x → gfr [] [] h x.2 := by
  intro n
  induction n with
  | zero => intro v2 v3 h x  H; exact g0 H
  | succ n ih =>
    intro v2 v3 h x  H
    unfold fM_variable_4 at H
    have hf := gfr_rf [] [] h
    by_cases q : v3 < (8 : Int32)
    · replace H := gift q H
      by_cases q : ((v0 >>> (v3 &&& 31)) &&& (1 : Int32)) = (1 : Int32)
      · replace H := gift q H
        by_cases q : v2 = v1
        · replace H := gift q H
          obtain rfl := Option.some.inj H
          exact hf
        · replace H := giff q H
          exact gfr_tr hf (ih _ _ _ _  H)
      · replace H := giff q H
        exact gfr_tr hf (ih _ _ _ _  H)
    · replace H := giff q H
      obtain rfl := Option.some.inj H
      exact hf
theorem fM_variable_fr {v0 : Int32} {v1 : Int32} {h : gH} {x : (Int32 × gH)} (H : fM_variable v0 v1 h = some x) : gfr [] [] h x.2 := by
  unfold fM_variable at H
  have hf := gfr_rf [] [] h
  exact gfr_tr hf (fM_variable_4_fr  gfu _ _ _ _  H)
theorem fM_rule_166_fr {k80 : Int32 → gH → Option (Int32 × gH)} {v2 : Int32} {v3 : Int32} {v4 : Int32} {v5 : Int32} {v6 : Int32} (hk80f : ∀ (u6 : Int32) (h : gH) (x : (Int32 × gH)), k80 u6 h = some x → gfr [80, 69, 67, 68, 71] [(65, 24), (65, 28), (65, 29), (65, 31), (65, 32), (65, 26), (65, 25), (65, 27), (65, 30), (65, 22), (65, 8)] h x.2) {h : gH} {x : (Int32 × gH)} (H : fM_rule_166 k80 v2 v3 v4 v5 v6  h = some x) : gfr [80, 69, 67, 68, 71] [(65, 24), (65, 28), (65, 29), (65, 31), (65, 32), (65, 26), (65, 25), (65, 27), (65, 30), (65, 22), (65, 8)] h x.2 := by
  unfold fM_rule_166 at H
  have hf := gfr_rf [80, 69, 67, 68, 71] [(65, 24), (65, 28), (65, 29), (65, 31), (65, 32), (65, 26), (65, 25), (65, 27), (65, 30), (65, 22), (65, 8)] h
  obtain ⟨p18, e19, H⟩ := gbi H
  replace hf := gfr_tr hf (gfr_w (fM_reads_fr  e19) gss_nil (gss_cons (gme 0 rfl) (gss_cons (gme 1 rfl) (gss_cons (gme 2 rfl) (gss_cons (gme 3 rfl) (gss_cons (gme 4 rfl) (gss_cons (gme 5 rfl) (gss_cons (gme 6 rfl) (gss_cons (gme 7 rfl) (gss_cons (gme 8 rfl) gss_nil))))))))))
  obtain ⟨b20, H⟩ := ggi H
  have b20 := gin_in b20
  obtain ⟨b21, H⟩ := ggi H
  have b21 := gbo_or b21
  obtain ⟨h22, e23, H⟩ := glei H
  replace hf := gfr_e (gfr_a hf (gme 1 rfl)) e23
  exact gfr_tr hf (hk80f _ _ _  H)
theorem fM_rule_149_fr {k80 : Int32 → gH → Option (Int32 × gH)} {v2 : Int32} {v3 : Int32} {v4 : Int32} {v5 : Int32} {v6 : Int32} (hk80f : ∀ (u6 : Int32) (h : gH) (x : (Int32 × gH)), k80 u6 h = some x → gfr [80, 69, 67, 68, 71] [(65, 24), (65, 28), (65, 29), (65, 31), (65, 32), (65, 26), (65, 25), (65, 27), (65, 30), (65, 22), (65, 8)] h x.2) {h : gH} {x : (Int32 × gH)} (H : fM_rule_149 k80 v2 v3 v4 v5 v6  h = some x) : gfr [80, 69, 67, 68, 71] [(65, 24), (65, 28), (65, 29), (65, 31), (65, 32), (65, 26), (65, 25), (65, 27), (65, 30), (65, 22), (65, 8)] h x.2 := by
  unfold fM_rule_149 at H
  have hf := gfr_rf [80, 69, 67, 68, 71] [(65, 24), (65, 28), (65, 29), (65, 31), (65, 32), (65, 26), (65, 25), (65, 27), (65, 30), (65, 22), (65, 8)] h
  by_cases q : (2 : Int32) < v3
  · replace H := gift q H
    obtain ⟨p24, e25, H⟩ := gbi H
    replace hf := gfr_tr hf (gfr_w (fM_variable_fr  e25) gss_nil gss_nil)
    obtain ⟨b26, H⟩ := ggi H
    have b26 := gin_in b26
    exact gfr_tr (gfr_a hf (gme 0 rfl)) (fM_rule_166_fr hk80f  H)
  · replace H := giff q H
    exact gfr_tr hf (fM_rule_166_fr hk80f  H)
theorem fM_rule_132_fr {k80 : Int32 → gH → Option (Int32 × gH)} {v2 : Int32} {v3 : Int32} {v4 : Int32} {v5 : Int32} {v6 : Int32} (hk80f : ∀ (u6 : Int32) (h : gH) (x : (Int32 × gH)), k80 u6 h = some x → gfr [80, 69, 67, 68, 71] [(65, 24), (65, 28), (65, 29), (65, 31), (65, 32), (65, 26), (65, 25), (65, 27), (65, 30), (65, 22), (65, 8)] h x.2) {h : gH} {x : (Int32 × gH)} (H : fM_rule_132 k80 v2 v3 v4 v5 v6  h = some x) : gfr [80, 69, 67, 68, 71] [(65, 24), (65, 28), (65, 29), (65, 31), (65, 32), (65, 26), (65, 25), (65, 27), (65, 30), (65, 22), (65, 8)] h x.2 := by
  unfold fM_rule_132 at H
  have hf := gfr_rf [80, 69, 67, 68, 71] [(65, 24), (65, 28), (65, 29), (65, 31), (65, 32), (65, 26), (65, 25), (65, 27), (65, 30), (65, 22), (65, 8)] h
  by_cases q : (1 : Int32) < v3
  · replace H := gift q H
    obtain ⟨p27, e28, H⟩ := gbi H
    replace hf := gfr_tr hf (gfr_w (fM_variable_fr  e28) gss_nil gss_nil)
    obtain ⟨b29, H⟩ := ggi H
    have b29 := gin_in b29
    exact gfr_tr (gfr_a hf (gme 0 rfl)) (fM_rule_149_fr hk80f  H)
  · replace H := giff q H
    exact gfr_tr hf (fM_rule_149_fr hk80f  H)
theorem fM_rule_116_fr {k80 : Int32 → gH → Option (Int32 × gH)} {v2 : Int32} {v3 : Int32} {v4 : Int32} {v5 : Int32} {v6 : Int32} (hk80f : ∀ (u6 : Int32) (h : gH) (x : (Int32 × gH)), k80 u6 h = some x → gfr [80, 69, 67, 68, 71] [(65, 24), (65, 28), (65, 29), (65, 31), (65, 32), (65, 26), (65, 25), (65, 27), (65, 30), (65, 22), (65, 8)] h x.2) {h : gH} {x : (Int32 × gH)} (H : fM_rule_116 k80 v2 v3 v4 v5 v6  h = some x) : gfr [80, 69, 67, 68, 71] [(65, 24), (65, 28), (65, 29), (65, 31), (65, 32), (65, 26), (65, 25), (65, 27), (65, 30), (65, 22), (65, 8)] h x.2 := by
  unfold fM_rule_116 at H
  have hf := gfr_rf [80, 69, 67, 68, 71] [(65, 24), (65, 28), (65, 29), (65, 31), (65, 32), (65, 26), (65, 25), (65, 27), (65, 30), (65, 22), (65, 8)] h
  by_cases q : (0 : Int32) < v3
  · replace H := gift q H
    obtain ⟨p30, e31, H⟩ := gbi H
    replace hf := gfr_tr hf (gfr_w (fM_variable_fr  e31) gss_nil gss_nil)
    obtain ⟨b32, H⟩ := ggi H
    have b32 := gin_in b32
    exact gfr_tr (gfr_a hf (gme 0 rfl)) (fM_rule_132_fr hk80f  H)
  · replace H := giff q H
    exact gfr_tr hf (fM_rule_132_fr hk80f  H)
theorem fM_rule_107_fr {k80 : Int32 → gH → Option (Int32 × gH)} {v2 : Int32} {v3 : Int32} {v4 : Int32} {v5 : Int32} {v6 : Int32} (hk80f : ∀ (u6 : Int32) (h : gH) (x : (Int32 × gH)), k80 u6 h = some x → gfr [80, 69, 67, 68, 71] [(65, 24), (65, 28), (65, 29), (65, 31), (65, 32), (65, 26), (65, 25), (65, 27), (65, 30), (65, 22), (65, 8)] h x.2) {h : gH} {x : (Int32 × gH)} (H : fM_rule_107 k80 v2 v3 v4 v5 v6  h = some x) : gfr [80, 69, 67, 68, 71] [(65, 24), (65, 28), (65, 29), (65, 31), (65, 32), (65, 26), (65, 25), (65, 27), (65, 30), (65, 22), (65, 8)] h x.2 := by
  unfold fM_rule_107 at H
  have hf := gfr_rf [80, 69, 67, 68, 71] [(65, 24), (65, 28), (65, 29), (65, 31), (65, 32), (65, 26), (65, 25), (65, 27), (65, 30), (65, 22), (65, 8)] h
  by_cases q : (0 : Int32) < v3
  · replace H := gift q H
    exact gfr_tr hf (fM_rule_116_fr hk80f  H)
  · replace H := giff q H
    by_cases q : v4 = (0 : Int32)
    · replace H := gift q H
      exact gfr_tr hf (fM_rule_116_fr hk80f  H)
    · replace H := giff q H
      exact gfr_tr hf (hk80f _ _ _  H)
theorem fM_rule_97_fr {k80 : Int32 → gH → Option (Int32 × gH)} {v2 : Int32} {v3 : Int32} {v4 : Int32} {v5 : Int32} {v6 : Int32} (hk80f : ∀ (u6 : Int32) (h : gH) (x : (Int32 × gH)), k80 u6 h = some x → gfr [80, 69, 67, 68, 71] [(65, 24), (65, 28), (65, 29), (65, 31), (65, 32), (65, 26), (65, 25), (65, 27), (65, 30), (65, 22), (65, 8)] h x.2) {h : gH} {x : (Int32 × gH)} (H : fM_rule_97 k80 v2 v3 v4 v5 v6  h = some x) : gfr [80, 69, 67, 68, 71] [(65, 24), (65, 28), (65, 29), (65, 31), (65, 32), (65, 26), (65, 25), (65, 27), (65, 30), (65, 22), (65, 8)] h x.2 := by
  unfold fM_rule_97 at H
  have hf := gfr_rf [80, 69, 67, 68, 71] [(65, 24), (65, 28), (65, 29), (65, 31), (65, 32), (65, 26), (65, 25), (65, 27), (65, 30), (65, 22), (65, 8)] h
  by_cases q : (1 : Int32) < v3
  · replace H := gift q H
    exact gfr_tr hf (fM_rule_107_fr hk80f  H)
  · replace H := giff q H
    by_cases q : v5 = (0 : Int32)
    · replace H := gift q H
      exact gfr_tr hf (fM_rule_107_fr hk80f  H)
    · replace H := giff q H
      exact gfr_tr hf (hk80f _ _ _  H)
theorem fM_rule_80_fr {k70 : Int32 → gH → Option (Int32 × gH)} {v2 : Int32} {v3 : Int32} {v4 : Int32} {v5 : Int32} (hk70f : ∀ (u5 : Int32) (h : gH) (x : (Int32 × gH)), k70 u5 h = some x → gfr [80, 69, 67, 68, 71] [(65, 24), (65, 28), (65, 29), (65, 31), (65, 32), (65, 26), (65, 25), (65, 27), (65, 30), (65, 22), (65, 8)] h x.2) : ∀ (n : Nat) (v6 : Int32) (h : gH) (x : (Int32 × gH)), fM_rule_80 k70 v2 v3 v4 v5 n v6 h = some x → gfr [80, 69, 67, 68, 71] [(65, 24), (65, 28), (65, 29), (65, 31), (65, 32), (65, 26), (65, 25), (65, 27), (65, 30), (65, 22), (65, 8)] h x.2 := by
  intro n
  induction n with
  | zero => intro v6 h x  H; exact g0 H
  | succ n ih =>
    intro v6 h x  H
    unfold fM_rule_80 at H
    have hf := gfr_rf [80, 69, 67, 68, 71] [(65, 24), (65, 28), (65, 29), (65, 31), (65, 32), (65, 26), (65, 25), (65, 27), (65, 30), (65, 22), (65, 8)] h
    by_cases q : v6 < (10 : Int32)
    · replace H := gift q H
      by_cases q : (2 : Int32) < v3
      · replace H := gift q H
        exact gfr_tr hf (fM_rule_97_fr ih  H)
      · replace H := giff q H
        by_cases q : v6 = (0 : Int32)
        · replace H := gift q H
          exact gfr_tr hf (fM_rule_97_fr ih  H)
        · replace H := giff q H
          exact gfr_tr hf (ih _ _ _  H)
    · replace H := giff q H
      exact gfr_tr hf (hk70f _ _ _  H)
theorem fM_rule_70_fr {k60 : Int32 → gH → Option (Int32 × gH)} {v2 : Int32} {v3 : Int32} {v4 : Int32} (hk60f : ∀ (u4 : Int32) (h : gH) (x : (Int32 × gH)), k60 u4 h = some x → gfr [80, 69, 67, 68, 71] [(65, 24), (65, 28), (65, 29), (65, 31), (65, 32), (65, 26), (65, 25), (65, 27), (65, 30), (65, 22), (65, 8)] h x.2) : ∀ (n : Nat) (v5 : Int32) (h : gH) (x : (Int32 × gH)), fM_rule_70 k60 v2 v3 v4 n v5 h = some x → gfr [80, 69, 67, 68, 71] [(65, 24), (65, 28), (65, 29), (65, 31), (65, 32), (65, 26), (65, 25), (65, 27), (65, 30), (65, 22), (65, 8)] h x.2 := by
  intro n
  induction n with
  | zero => intro v5 h x  H; exact g0 H
  | succ n ih =>
    intro v5 h x  H
    unfold fM_rule_70 at H
    have hf := gfr_rf [80, 69, 67, 68, 71] [(65, 24), (65, 28), (65, 29), (65, 31), (65, 32), (65, 26), (65, 25), (65, 27), (65, 30), (65, 22), (65, 8)] h
    by_cases q : v5 < (10 : Int32)
    · replace H := gift q H
      exact gfr_tr hf (fM_rule_80_fr ih  gfu _ _ _  H)
    · replace H := giff q H
      exact gfr_tr hf (hk60f _ _ _  H)
theorem fM_rule_60_fr {v2 : Int32} {v3 : Int32}  : ∀ (n : Nat) (v4 : Int32) (h : gH) (x : (Int32 × gH)), fM_rule_60 v2 v3 n v4 h = some x → gfr [80, 69, 67, 68, 71] [(65, 24), (65, 28), (65, 29), (65, 31), (65, 32), (65, 26), (65, 25), (65, 27), (65, 30), (65, 22), (65, 8)] h x.2 := by
  intro n
  induction n with
  | zero => intro v4 h x  H; exact g0 H
  | succ n ih =>
    intro v4 h x  H
    unfold fM_rule_60 at H
    have hf := gfr_rf [80, 69, 67, 68, 71] [(65, 24), (65, 28), (65, 29), (65, 31), (65, 32), (65, 26), (65, 25), (65, 27), (65, 30), (65, 22), (65, 8)] h
    by_cases q : v4 < (10 : Int32)
    · replace H := gift q H
      exact gfr_tr hf (fM_rule_70_fr ih  gfu _ _ _  H)
    · replace H := giff q H
      obtain ⟨h5, e6, H⟩ := glei H
      replace hf := gfr_e (gfr_f hf (gme 9 rfl)) e6
      obtain ⟨b7, H⟩ := ggi H
      have b7 := gin_in b7
      obtain ⟨h8, e9, H⟩ := glei H
      replace hf := gfr_e (gfr_a hf (gme 2 rfl)) e9
      obtain ⟨b10, H⟩ := ggi H
      have b10 := gin_in b10
      obtain ⟨h11, e12, H⟩ := glei H
      replace hf := gfr_e (gfr_a hf (gme 3 rfl)) e12
      obtain ⟨b13, H⟩ := ggi H
      have b13 := gin_in b13
      obtain ⟨h14, e15, H⟩ := glei H
      replace hf := gfr_e (gfr_a hf (gme 4 rfl)) e15
      obtain ⟨h16, e17, H⟩ := glei H
      replace hf := gfr_e (gfr_f hf (gme 10 rfl)) e17
      obtain rfl := Option.some.inj H
      exact hf
theorem fM_rule_fr {h : gH} {x : (Int32 × gH)} (H : fM_rule  h = some x) : gfr [80, 69, 67, 68, 71] [(65, 24), (65, 28), (65, 29), (65, 31), (65, 32), (65, 26), (65, 25), (65, 27), (65, 30), (65, 22), (65, 8)] h x.2 := by
  unfold fM_rule at H
  have hf := gfr_rf [80, 69, 67, 68, 71] [(65, 24), (65, 28), (65, 29), (65, 31), (65, 32), (65, 26), (65, 25), (65, 27), (65, 30), (65, 22), (65, 8)] h
  by_cases q : (h 65 8) = (16 : Int32)
  · replace H := gift q H
    obtain rfl := Option.some.inj H
    exact hf
  · replace H := giff q H
    by_cases q : (h 65 2) = (0 : Int32)
    · replace H := gift q H
      obtain ⟨p1, e2, H⟩ := gbi H
      replace hf := gfr_tr hf (gfr_w (fM_reads_fr  e2) gss_nil (gss_cons (gme 0 rfl) (gss_cons (gme 1 rfl) (gss_cons (gme 2 rfl) (gss_cons (gme 3 rfl) (gss_cons (gme 4 rfl) (gss_cons (gme 5 rfl) (gss_cons (gme 6 rfl) (gss_cons (gme 7 rfl) (gss_cons (gme 8 rfl) gss_nil))))))))))
      by_cases q : (p1.2 65 29) = (0 : Int32)
      · replace H := gift q H
        obtain ⟨p3, e4, H⟩ := gbi H
        replace hf := gfr_tr hf (gfr_w (fM_bitsOf_fr  e4) gss_nil gss_nil)
        exact gfr_tr hf (fM_rule_60_fr  gfu _ _ _  H)
      · replace H := giff q H
        obtain ⟨h33, e34, H⟩ := glei H
        replace hf := gfr_e (gfr_f hf (gme 9 rfl)) e34
        obtain rfl := Option.some.inj H
        exact hf
    · replace H := giff q H
      obtain rfl := Option.some.inj H
      exact hf
theorem fM_allRules_fr {h : gH} {x : (Int32 × gH)} (H : fM_allRules  h = some x) : gfr [] [] h x.2 := by
  unfold fM_allRules at H
  have hf := gfr_rf [] [] h
  obtain rfl := Option.some.inj H
  exact hf
theorem fM_pairOf_fr {v1 : Int32} {v2 : Int32} {h : gH} {x : (Int32 × gH)} (H : fM_pairOf v1 v2 h = some x) : gfr [] [] h x.2 := by
  unfold fM_pairOf at H
  have hf := gfr_rf [] [] h
  obtain ⟨b1, H⟩ := ggi H
  have b1 := gin_in b1
  obtain rfl := Option.some.inj H
  exact hf
theorem fM_ruleAt_fr {v1 : Int32} {h : gH} {x : (Int32 × gH)} (H : fM_ruleAt v1 h = some x) : gfr [] [] h x.2 := by
  unfold fM_ruleAt at H
  have hf := gfr_rf [] [] h
  by_cases q : v1 < (h 65 8)
  · replace H := gift q H
    obtain rfl := Option.some.inj H
    exact hf
  · replace H := giff q H
    obtain rfl := Option.some.inj H
    exact hf
theorem fM_priority_fr {v1 : Int32} {h : gH} {x : (Int32 × gH)} (H : fM_priority v1 h = some x) : gfr [] [] h x.2 := by
  unfold fM_priority at H
  have hf := gfr_rf [] [] h
  obtain ⟨b1, H⟩ := ggi H
  have b1 := gin_in b1
  by_cases q : (h 67 v1.toNatClampNeg) = (3 : Int32)
  · replace H := gift q H
    obtain rfl := Option.some.inj H
    exact hf
  · replace H := giff q H
    obtain ⟨b2, H⟩ := ggi H
    have b2 := gin_in b2
    obtain ⟨p3, e4, H⟩ := gbi H
    replace hf := gfr_tr hf (gfr_w (fM_bitsOf_fr  e4) gss_nil gss_nil)
    obtain ⟨b5, H⟩ := ggi H
    have b5 := gin_in b5
    obtain rfl := Option.some.inj H
    exact hf
theorem fM_isHolding_48_fr {v4 : Int32} {v5 : Int32} {s1 : Int32} {s2 : Int32}  {h : gH} {x : (Int32 × gH)} (H : fM_isHolding_48 v4 v5 s1 s2 h = some x) : gfr [] [] h x.2 := by
  unfold fM_isHolding_48 at H
  have hf := gfr_rf [] [] h
  by_cases q : (2 : Int32) < v5
  · replace H := gift q H
    obtain ⟨b6, H⟩ := ggi H
    have b6 := gin_in b6
    obtain ⟨b7, H⟩ := ggi H
    have b7 := gbo_or b7
    obtain rfl := Option.some.inj H
    exact hf
  · replace H := giff q H
    obtain ⟨b4, H⟩ := ggi H
    have b4 := gin_in b4
    obtain ⟨b5, H⟩ := ggi H
    have b5 := gbo_or b5
    obtain rfl := Option.some.inj H
    exact hf
theorem fM_isHolding_33_fr {v3 : Int32} {v4 : Int32} {v5 : Int32} {s1 : Int32} {s2 : Int32}  {h : gH} {x : (Int32 × gH)} (H : fM_isHolding_33 v3 v4 v5 s1 s2 h = some x) : gfr [] [] h x.2 := by
  unfold fM_isHolding_33 at H
  have hf := gfr_rf [] [] h
  by_cases q : (1 : Int32) < v5
  · replace H := gift q H
    exact gfr_tr hf (fM_isHolding_48_fr  H)
  · replace H := giff q H
    exact gfr_tr hf (fM_isHolding_48_fr  H)
theorem fM_isHolding_fr {v1 : Int32} {v2 : Int32} {v3 : Int32} {v4 : Int32} {h : gH} {x : (Int32 × gH)} (H : fM_isHolding v1 v2 v3 v4 h = some x) : gfr [] [] h x.2 := by
  unfold fM_isHolding at H
  have hf := gfr_rf [] [] h
  obtain ⟨b1, H⟩ := ggi H
  have b1 := gin_in b1
  obtain ⟨p2, e3, H⟩ := gbi H
  replace hf := gfr_tr hf (gfr_w (fM_bitsOf_fr  e3) gss_nil gss_nil)
  by_cases q : (0 : Int32) < p2.1
  · replace H := gift q H
    exact gfr_tr hf (fM_isHolding_33_fr  H)
  · replace H := giff q H
    exact gfr_tr hf (fM_isHolding_33_fr  H)
theorem fM_holds_87_fr {v1 : Int32} {v2 : Int32} {v3 : Int32} {v4 : Int32}  {h : gH} {x : (Int32 × gH)} (H : fM_holds_87 v1 v2 v3 v4  h = some x) : gfr [] [] h x.2 := by
  unfold fM_holds_87 at H
  have hf := gfr_rf [] [] h
  obtain ⟨p6, e7, H⟩ := gbi H
  replace hf := gfr_tr hf (gfr_w (fM_isHolding_fr  e7) gss_nil gss_nil)
  by_cases q : p6.1 = (0 : Int32)
  · replace H := gift q H
    obtain rfl := Option.some.inj H
    exact hf
  · replace H := giff q H
    obtain rfl := Option.some.inj H
    exact hf
theorem fM_holds_65_fr {v1 : Int32} {v2 : Int32} {v3 : Int32} {v4 : Int32} {v5 : Int32}  {h : gH} {x : (Int32 × gH)} (H : fM_holds_65 v1 v2 v3 v4 v5  h = some x) : gfr [] [] h x.2 := by
  unfold fM_holds_65 at H
  have hf := gfr_rf [] [] h
  by_cases q : (2 : Int32) < v5
  · replace H := gift q H
    obtain ⟨p8, e9, H⟩ := gbi H
    replace hf := gfr_tr hf (gfr_w (fM_in_fr  e9) gss_nil gss_nil)
    by_cases q : p8.1 = (0 : Int32)
    · replace H := gift q H
      obtain rfl := Option.some.inj H
      exact hf
    · replace H := giff q H
      exact gfr_tr hf (fM_holds_87_fr  H)
  · replace H := giff q H
    exact gfr_tr hf (fM_holds_87_fr  H)
theorem fM_holds_47_fr {v1 : Int32} {v2 : Int32} {v3 : Int32} {v4 : Int32} {v5 : Int32}  {h : gH} {x : (Int32 × gH)} (H : fM_holds_47 v1 v2 v3 v4 v5  h = some x) : gfr [] [] h x.2 := by
  unfold fM_holds_47 at H
  have hf := gfr_rf [] [] h
  by_cases q : (1 : Int32) < v5
  · replace H := gift q H
    obtain ⟨p10, e11, H⟩ := gbi H
    replace hf := gfr_tr hf (gfr_w (fM_in_fr  e11) gss_nil gss_nil)
    by_cases q : p10.1 = (0 : Int32)
    · replace H := gift q H
      obtain rfl := Option.some.inj H
      exact hf
    · replace H := giff q H
      exact gfr_tr hf (fM_holds_65_fr  H)
  · replace H := giff q H
    exact gfr_tr hf (fM_holds_65_fr  H)
theorem fM_holds_fr {v1 : Int32} {v2 : Int32} {v3 : Int32} {v4 : Int32} {h : gH} {x : (Int32 × gH)} (H : fM_holds v1 v2 v3 v4 h = some x) : gfr [] [] h x.2 := by
  unfold fM_holds at H
  have hf := gfr_rf [] [] h
  obtain ⟨p1, e2, H⟩ := gbi H
  replace hf := gfr_tr hf (gfr_w (fM_in_fr  e2) gss_nil gss_nil)
  by_cases q : p1.1 = (0 : Int32)
  · replace H := gift q H
    obtain rfl := Option.some.inj H
    exact hf
  · replace H := giff q H
    obtain ⟨b3, H⟩ := ggi H
    have b3 := gin_in b3
    obtain ⟨p4, e5, H⟩ := gbi H
    replace hf := gfr_tr hf (gfr_w (fM_bitsOf_fr  e5) gss_nil gss_nil)
    by_cases q : (0 : Int32) < p4.1
    · replace H := gift q H
      obtain ⟨p12, e13, H⟩ := gbi H
      replace hf := gfr_tr hf (gfr_w (fM_in_fr  e13) gss_nil gss_nil)
      by_cases q : p12.1 = (0 : Int32)
      · replace H := gift q H
        obtain rfl := Option.some.inj H
        exact hf
      · replace H := giff q H
        exact gfr_tr hf (fM_holds_47_fr  H)
    · replace H := giff q H
      exact gfr_tr hf (fM_holds_47_fr  H)
