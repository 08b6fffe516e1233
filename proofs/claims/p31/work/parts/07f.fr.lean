theorem fX_feed_fr {v1 : Int32} {h : gH} {x : (Int32 × gH)} (H : fX_feed v1 h = some x) : gfr [11] [(10, 6)] h x.2 := by
  unfold fX_feed at H
  have hf := gfr_rf [11] [(10, 6)] h
  by_cases q : v1 < (0 : Int32)
  · replace H := gift q H
    obtain rfl := Option.some.inj H
    exact hf
  · replace H := giff q H
    by_cases q : (255 : Int32) < v1
    · replace H := gift q H
      obtain rfl := Option.some.inj H
      exact hf
    · replace H := giff q H
      obtain ⟨p1, e2, H⟩ := gbi H
      replace hf := gfr_tr hf (gfr_w (fT_accept_fr  e2) (gss_cons (gme 0 rfl) gss_nil) (gss_cons (gme 0 rfl) gss_nil))
      by_cases q : p1.1 = (0 : Int32)
      · replace H := gift q H
        obtain rfl := Option.some.inj H
        exact hf
      · replace H := giff q H
        obtain rfl := Option.some.inj H
        exact hf
theorem fX_rule_fr {h : gH} {x : (Int32 × gH)} (H : fX_rule  h = some x) : gfr [14, 12, 13, 15, 2, 3, 4, 5, 6, 9, 16, 7] [(10, 7), (10, 8), (10, 9), (10, 11), (10, 10), (10, 12), (10, 13), (10, 6), (1, 8), (17, 6), (17, 7)] h x.2 := by
  unfold fX_rule at H
  have hf := gfr_rf [14, 12, 13, 15, 2, 3, 4, 5, 6, 9, 16, 7] [(10, 7), (10, 8), (10, 9), (10, 11), (10, 10), (10, 12), (10, 13), (10, 6), (1, 8), (17, 6), (17, 7)] h
  by_cases q : (h 1 8) < (16 : Int32)
  · replace H := gift q H
    by_cases q : (h 17 9) = (0 : Int32)
    · replace H := gift q H
      obtain ⟨p1, e2, H⟩ := gbi H
      replace hf := gfr_tr hf (gfr_w (fT_read_fr  e2) (gss_cons (gme 0 rfl) (gss_cons (gme 1 rfl) (gss_cons (gme 2 rfl) (gss_cons (gme 3 rfl) gss_nil)))) (gss_cons (gme 0 rfl) (gss_cons (gme 1 rfl) (gss_cons (gme 2 rfl) (gss_cons (gme 3 rfl) (gss_cons (gme 4 rfl) (gss_cons (gme 5 rfl) (gss_cons (gme 6 rfl) gss_nil))))))))
      obtain ⟨h3, e4, H⟩ := glei H
      replace hf := gfr_e (gfr_f hf (gme 7 rfl)) e4
      by_cases q : p1.1 = (-1 : Int32)
      · replace H := gift q H
        obtain ⟨p5, e6, H⟩ := gbi H
        replace hf := gfr_tr hf (gfr_w (fR_add_fr  e6) (gss_cons (gme 4 rfl) (gss_cons (gme 5 rfl) (gss_cons (gme 6 rfl) (gss_cons (gme 7 rfl) (gss_cons (gme 8 rfl) (gss_cons (gme 9 rfl) (gss_cons (gme 10 rfl) (gss_cons (gme 11 rfl) gss_nil)))))))) (gss_cons (gme 8 rfl) gss_nil))
        obtain ⟨p7, e8, H⟩ := gbi H
        replace hf := gfr_tr hf (gfr_w (fR_all_fr  e8) gss_nil gss_nil)
        obtain ⟨h9, e10, H⟩ := glei H
        replace hf := gfr_e (gfr_f hf (gme 9 rfl)) e10
        obtain ⟨h11, e12, H⟩ := glei H
        replace hf := gfr_e (gfr_f hf (gme 10 rfl)) e12
        obtain rfl := Option.some.inj H
        exact hf
      · replace H := giff q H
        obtain rfl := Option.some.inj H
        exact hf
    · replace H := giff q H
      obtain rfl := Option.some.inj H
      exact hf
  · replace H := giff q H
    obtain rfl := Option.some.inj H
    exact hf
theorem fX_tell_fr {v1 : Int32} {v2 : Int32} {h : gH} {x : (Int32 × gH)} (H : fX_tell v1 v2 h = some x) : gfr [23, 24, 18, 20, 21] [(22, 5), (17, 5), (17, 9), (17, 7)] h x.2 := by
  unfold fX_tell at H
  have hf := gfr_rf [23, 24, 18, 20, 21] [(22, 5), (17, 5), (17, 9), (17, 7)] h
  obtain ⟨p1, e2, H⟩ := gbi H
  replace hf := gfr_tr hf (gfr_w (fX_isVariable_fr  e2) gss_nil gss_nil)
  by_cases q : p1.1 = (0 : Int32)
  · replace H := gift q H
    obtain rfl := Option.some.inj H
    exact hf
  · replace H := giff q H
    by_cases q : v2 < (0 : Int32)
    · replace H := gift q H
      obtain rfl := Option.some.inj H
      exact hf
    · replace H := giff q H
      by_cases q : (1023 : Int32) < v2
      · replace H := gift q H
        obtain rfl := Option.some.inj H
        exact hf
      · replace H := giff q H
        by_cases q : (p1.2 17 9) = (0 : Int32)
        · replace H := gift q H
          by_cases q : (p1.2 22 5) < (12 : Int32)
          · replace H := gift q H
            obtain ⟨p3, e4, H⟩ := gbi H
            replace hf := gfr_tr hf (gfr_w (fP_decide_fr gP22 e4) (gss_cons (gme 0 rfl) (gss_cons (gme 1 rfl) gss_nil)) (gss_cons (gme 0 rfl) gss_nil))
            obtain ⟨p5, e6, H⟩ := gbi H
            replace hf := gfr_tr hf (gfr_w (fH_narrow_fr gH17 e6) (gss_cons (gme 2 rfl) (gss_cons (gme 3 rfl) (gss_cons (gme 4 rfl) gss_nil))) (gss_cons (gme 1 rfl) (gss_cons (gme 2 rfl) (gss_cons (gme 3 rfl) gss_nil))))
            obtain rfl := Option.some.inj H
            exact hf
          · replace H := giff q H
            obtain rfl := Option.some.inj H
            exact hf
        · replace H := giff q H
          obtain rfl := Option.some.inj H
          exact hf
theorem fX_run_fr {h : gH} {x : (Int32 × gH)} (H : fX_run  h = some x) : gfr [19, 18, 20, 21] [(17, 11), (17, 7), (17, 8), (17, 5), (17, 9)] h x.2 := by
  unfold fX_run at H
  have hf := gfr_rf [19, 18, 20, 21] [(17, 11), (17, 7), (17, 8), (17, 5), (17, 9)] h
  obtain ⟨p1, e2, H⟩ := gbi H
  replace hf := gfr_tr hf (gfr_w (fH_runAll_fr gH17 e2) (gss_cons (gme 0 rfl) (gss_cons (gme 1 rfl) (gss_cons (gme 2 rfl) (gss_cons (gme 3 rfl) gss_nil)))) (gss_cons (gme 0 rfl) (gss_cons (gme 1 rfl) (gss_cons (gme 2 rfl) (gss_cons (gme 3 rfl) (gss_cons (gme 4 rfl) gss_nil))))))
  obtain rfl := Option.some.inj H
  exact hf
theorem fX_level_fr {h : gH} {x : (Int32 × gH)} (H : fX_level  h = some x) : gfr [25, 26, 27] [(22, 6)] h x.2 := by
  unfold fX_level at H
  have hf := gfr_rf [25, 26, 27] [(22, 6)] h
  by_cases q : (h 17 9) = (0 : Int32)
  · replace H := gift q H
    by_cases q : (h 17 7) = (0 : Int32)
    · replace H := gift q H
      by_cases q : (h 22 6) < (8 : Int32)
      · replace H := gift q H
        obtain ⟨p1, e2, H⟩ := gbi H
        replace hf := gfr_tr hf (gfr_w (fP_open_fr gP22 e2) (gss_cons (gme 0 rfl) (gss_cons (gme 1 rfl) (gss_cons (gme 2 rfl) gss_nil))) (gss_cons (gme 0 rfl) gss_nil))
        obtain rfl := Option.some.inj H
        exact hf
      · replace H := giff q H
        obtain rfl := Option.some.inj H
        exact hf
    · replace H := giff q H
      obtain rfl := Option.some.inj H
      exact hf
  · replace H := giff q H
    obtain rfl := Option.some.inj H
    exact hf
theorem fX_undo_fr {h : gH} {x : (Int32 × gH)} (H : fX_undo  h = some x) : gfr [18] [(22, 6), (22, 5), (17, 5), (17, 7), (17, 9)] h x.2 := by
  unfold fX_undo at H
  have hf := gfr_rf [18] [(22, 6), (22, 5), (17, 5), (17, 7), (17, 9)] h
  by_cases q : (0 : Int32) < (h 22 6)
  · replace H := gift q H
    obtain ⟨p1, e2, H⟩ := gbi H
    replace hf := gfr_tr hf (gfr_w (fP_close_fr gP22 e2) gss_nil (gss_cons (gme 0 rfl) (gss_cons (gme 1 rfl) gss_nil)))
    obtain ⟨b3, H⟩ := ggi H
    have b3 := gin_in b3
    obtain ⟨h4, e5, H⟩ := gbi H
    replace hf := gfr_tr hf (gfr_w (fH_takeBack_fr gH17 e5) (gss_cons (gme 0 rfl) gss_nil) (gss_cons (gme 2 rfl) (gss_cons (gme 3 rfl) (gss_cons (gme 4 rfl) gss_nil))))
    obtain ⟨p6, e7, H⟩ := gbi H
    replace hf := gfr_tr hf (gfr_w (fR_all_fr  e7) gss_nil gss_nil)
    obtain ⟨b8, H⟩ := ggi H
    have b8 := gin_in b8
    obtain ⟨h9, e10, H⟩ := glei H
    replace hf := gfr_e (gfr_f hf (gme 3 rfl)) e10
    obtain rfl := Option.some.inj H
    exact hf
  · replace H := giff q H
    obtain rfl := Option.some.inj H
    exact hf
theorem fX_domain_fr {v1 : Int32} {h : gH} {x : (Int32 × gH)} (H : fX_domain v1 h = some x) : gfr [] [] h x.2 := by
  unfold fX_domain at H
  have hf := gfr_rf [] [] h
  obtain ⟨p1, e2, H⟩ := gbi H
  replace hf := gfr_tr hf (gfr_w (fX_isVariable_fr  e2) gss_nil gss_nil)
  by_cases q : p1.1 = (0 : Int32)
  · replace H := gift q H
    obtain rfl := Option.some.inj H
    exact hf
  · replace H := giff q H
    obtain ⟨b3, H⟩ := ggi H
    have b3 := gin_in b3
    obtain rfl := Option.some.inj H
    exact hf
theorem fX_trail_27_fr {v1 : Int32} {v2 : Int32}  {h : gH} {x : (Int32 × gH)} (H : fX_trail_27 v1 v2  h = some x) : gfr [] [] h x.2 := by
  unfold fX_trail_27 at H
  have hf := gfr_rf [] [] h
  by_cases q : v2 < (0 : Int32)
  · replace H := gift q H
    obtain rfl := Option.some.inj H
    exact hf
  · replace H := giff q H
    by_cases q : (1 : Int32) < v2
    · replace H := gift q H
      obtain rfl := Option.some.inj H
      exact hf
    · replace H := giff q H
      by_cases q : v1 < (0 : Int32)
      · replace H := gift q H
        obtain rfl := Option.some.inj H
        exact hf
      · replace H := giff q H
        by_cases q : v1 < (h 17 5)
        · replace H := gift q H
          by_cases q : v2 = (0 : Int32)
          · replace H := gift q H
            obtain ⟨b2, H⟩ := ggi H
            have b2 := gin_in b2
            obtain rfl := Option.some.inj H
            exact hf
          · replace H := giff q H
            obtain ⟨b1, H⟩ := ggi H
            have b1 := gin_in b1
            obtain rfl := Option.some.inj H
            exact hf
        · replace H := giff q H
          obtain rfl := Option.some.inj H
          exact hf
theorem fX_trail_fr {v1 : Int32} {v2 : Int32} {h : gH} {x : (Int32 × gH)} (H : fX_trail v1 v2 h = some x) : gfr [] [] h x.2 := by
  unfold fX_trail at H
  have hf := gfr_rf [] [] h
  by_cases q : v2 < (1000 : Int32)
  · replace H := gift q H
    exact gfr_tr hf (fX_trail_27_fr  H)
  · replace H := giff q H
    by_cases q : v2 < (1080 : Int32)
    · replace H := gift q H
      obtain ⟨p3, e4, H⟩ := gbi H
      replace hf := gfr_tr hf (gfr_w (fH_placeOf_fr gH17 e4) gss_nil gss_nil)
      obtain rfl := Option.some.inj H
      exact hf
    · replace H := giff q H
      exact gfr_tr hf (fX_trail_27_fr  H)
theorem fX_isGone_fr {v1 : Int32} {v2 : Int32} {v3 : Int32} {h : gH} {x : (Int32 × gH)} (H : fX_isGone v1 v2 v3 h = some x) : gfr [29, 31, 32, 30] [(28, 5), (28, 6), (28, 7), (28, 9), (28, 11), (28, 8)] h x.2 := by
  unfold fX_isGone at H
  have hf := gfr_rf [29, 31, 32, 30] [(28, 5), (28, 6), (28, 7), (28, 9), (28, 11), (28, 8)] h
  obtain ⟨p1, e2, H⟩ := gbi H
  replace hf := gfr_tr hf (gfr_w (fR_all_fr  e2) gss_nil gss_nil)
  obtain ⟨h3, e4, H⟩ := gbi H
  replace hf := gfr_tr hf (gfr_w (fH_start_fr gH28 e4) (gss_cons (gme 0 rfl) (gss_cons (gme 1 rfl) (gss_cons (gme 2 rfl) gss_nil))) (gss_cons (gme 0 rfl) (gss_cons (gme 1 rfl) (gss_cons (gme 2 rfl) (gss_cons (gme 3 rfl) gss_nil)))))
  obtain ⟨p5, e6, H⟩ := gbi H
  replace hf := gfr_tr hf (gfr_w (fH_runAll_fr gH28 e6) (gss_cons (gme 3 rfl) (gss_cons (gme 0 rfl) (gss_cons (gme 1 rfl) (gss_cons (gme 2 rfl) gss_nil)))) (gss_cons (gme 4 rfl) (gss_cons (gme 2 rfl) (gss_cons (gme 5 rfl) (gss_cons (gme 0 rfl) (gss_cons (gme 3 rfl) gss_nil))))))
  by_cases q : (p5.2 28 9) = (0 : Int32)
  · replace H := gift q H
    obtain ⟨p7, e8, H⟩ := gbi H
    replace hf := gfr_tr hf (gfr_w (fX_isVariable_fr  e8) gss_nil gss_nil)
    by_cases q : p7.1 = (0 : Int32)
    · replace H := gift q H
      obtain rfl := Option.some.inj H
      exact hf
    · replace H := giff q H
      obtain ⟨b9, H⟩ := ggi H
      have b9 := gin_in b9
      by_cases q : (((p7.2 29 v2.toNatClampNeg) >>> (v3 &&& 31)) &&& (1 : Int32)) = (0 : Int32)
      · replace H := gift q H
        obtain rfl := Option.some.inj H
        exact hf
      · replace H := giff q H
        obtain rfl := Option.some.inj H
        exact hf
  · replace H := giff q H
    obtain rfl := Option.some.inj H
    exact hf
theorem fX_isValue_fr {v0 : Int32} {h : gH} {x : (Int32 × gH)} (H : fX_isValue v0 h = some x) : gfr [] [] h x.2 := by
  unfold fX_isValue at H
  have hf := gfr_rf [] [] h
  by_cases q : v0 < (0 : Int32)
  · replace H := gift q H
    obtain rfl := Option.some.inj H
    exact hf
  · replace H := giff q H
    by_cases q : v0 < (10 : Int32)
    · replace H := gift q H
      obtain rfl := Option.some.inj H
      exact hf
    · replace H := giff q H
      obtain rfl := Option.some.inj H
      exact hf
theorem fX_why_57_fr {v1 : Int32} {v2 : Int32}  : ∀ (n : Nat) (v4 : Int32) (v5 : Int32) (h : gH) (x : (Int32 × gH)), fX_why_57 v1 v2 n v4 v5 h = some x → gfr [29, 31, 32, 30] [(28, 5), (28, 6), (28, 7), (28, 9), (28, 11), (28, 8)] h x.2 := by
  intro n
  induction n with
  | zero => intro v4 v5 h x  H; exact g0 H
  | succ n ih =>
    intro v4 v5 h x  H
    unfold fX_why_57 at H
    have hf := gfr_rf [29, 31, 32, 30] [(28, 5), (28, 6), (28, 7), (28, 9), (28, 11), (28, 8)] h
    by_cases q : v5 < (h 22 5)
    · replace H := gift q H
      obtain ⟨p5, e6, H⟩ := gbi H
      replace hf := gfr_tr hf (gfr_w (fX_isGone_fr  e6) (gss_cons (gme 0 rfl) (gss_cons (gme 1 rfl) (gss_cons (gme 2 rfl) (gss_cons (gme 3 rfl) gss_nil)))) (gss_cons (gme 0 rfl) (gss_cons (gme 1 rfl) (gss_cons (gme 2 rfl) (gss_cons (gme 3 rfl) (gss_cons (gme 4 rfl) (gss_cons (gme 5 rfl) gss_nil)))))))
      by_cases q : p5.1 = (0 : Int32)
      · replace H := gift q H
        exact gfr_tr hf (ih _ _ _ _  H)
      · replace H := giff q H
        exact gfr_tr hf (ih _ _ _ _  H)
    · replace H := giff q H
      obtain rfl := Option.some.inj H
      exact hf
theorem fX_why_32_fr {v1 : Int32} {v2 : Int32}  {h : gH} {x : (Int32 × gH)} (H : fX_why_32 v1 v2  h = some x) : gfr [29, 31, 32, 30] [(28, 5), (28, 6), (28, 7), (28, 9), (28, 11), (28, 8)] h x.2 := by
  unfold fX_why_32 at H
  have hf := gfr_rf [29, 31, 32, 30] [(28, 5), (28, 6), (28, 7), (28, 9), (28, 11), (28, 8)] h
  obtain ⟨p1, e2, H⟩ := gbi H
  replace hf := gfr_tr hf (gfr_w (fP_all_fr gP22 e2) gss_nil gss_nil)
  obtain ⟨p3, e4, H⟩ := gbi H
  replace hf := gfr_tr hf (gfr_w (fX_isGone_fr  e4) (gss_cons (gme 0 rfl) (gss_cons (gme 1 rfl) (gss_cons (gme 2 rfl) (gss_cons (gme 3 rfl) gss_nil)))) (gss_cons (gme 0 rfl) (gss_cons (gme 1 rfl) (gss_cons (gme 2 rfl) (gss_cons (gme 3 rfl) (gss_cons (gme 4 rfl) (gss_cons (gme 5 rfl) gss_nil)))))))
  by_cases q : p3.1 = (0 : Int32)
  · replace H := gift q H
    obtain rfl := Option.some.inj H
    exact hf
  · replace H := giff q H
    exact gfr_tr hf (fX_why_57_fr  gfu _ _ _ _  H)
theorem fX_why_10_fr {v1 : Int32} {v2 : Int32} {s0 : Int32}  {h : gH} {x : (Int32 × gH)} (H : fX_why_10 v1 v2 s0 h = some x) : gfr [29, 31, 32, 30] [(28, 5), (28, 6), (28, 7), (28, 9), (28, 11), (28, 8)] h x.2 := by
  unfold fX_why_10 at H
  have hf := gfr_rf [29, 31, 32, 30] [(28, 5), (28, 6), (28, 7), (28, 9), (28, 11), (28, 8)] h
  by_cases q : s0 = (0 : Int32)
  · replace H := gift q H
    obtain ⟨p7, e8, H⟩ := gbi H
    replace hf := gfr_tr hf (gfr_w (fX_isVariable_fr  e8) gss_nil gss_nil)
    by_cases q : p7.1 = (0 : Int32)
    · replace H := gift q H
      obtain rfl := Option.some.inj H
      exact hf
    · replace H := giff q H
      obtain ⟨p9, e10, H⟩ := gbi H
      replace hf := gfr_tr hf (gfr_w (fX_isValue_fr  e10) gss_nil gss_nil)
      by_cases q : p9.1 = (0 : Int32)
      · replace H := gift q H
        obtain rfl := Option.some.inj H
        exact hf
      · replace H := giff q H
        exact gfr_tr hf (fX_why_32_fr  H)
  · replace H := giff q H
    exact gfr_tr hf (fX_why_32_fr  H)
theorem fX_why_fr {v1 : Int32} {v2 : Int32} {h : gH} {x : (Int32 × gH)} (H : fX_why v1 v2 h = some x) : gfr [29, 31, 32, 30] [(28, 5), (28, 6), (28, 7), (28, 9), (28, 11), (28, 8)] h x.2 := by
  unfold fX_why at H
  have hf := gfr_rf [29, 31, 32, 30] [(28, 5), (28, 6), (28, 7), (28, 9), (28, 11), (28, 8)] h
  by_cases q : v1 = (-1 : Int32)
  · replace H := gift q H
    exact gfr_tr hf (fX_why_10_fr  H)
  · replace H := giff q H
    exact gfr_tr hf (fX_why_10_fr  H)
theorem fX_isChoice_fr {v0 : Int32} {v1 : Int32} {h : gH} {x : (Int32 × gH)} (H : fX_isChoice v0 v1 h = some x) : gfr [] [] h x.2 := by
  unfold fX_isChoice at H
  have hf := gfr_rf [] [] h
  by_cases q : v0 < (0 : Int32)
  · replace H := gift q H
    obtain rfl := Option.some.inj H
    exact hf
  · replace H := giff q H
    by_cases q : v0 < (4 : Int32)
    · replace H := gift q H
      by_cases q : v1 < (0 : Int32)
      · replace H := gift q H
        obtain rfl := Option.some.inj H
        exact hf
      · replace H := giff q H
        by_cases q : v1 < (3 : Int32)
        · replace H := gift q H
          obtain rfl := Option.some.inj H
          exact hf
        · replace H := giff q H
          obtain rfl := Option.some.inj H
          exact hf
    · replace H := giff q H
      obtain rfl := Option.some.inj H
      exact hf
theorem fX_search_58_fr {v4 : Int32} {s1 : Int32} {s2 : Int32} {s3 : Int32}  {h : gH} {x : (Int32 × gH)} (H : fX_search_58 v4 s1 s2 s3 h = some x) : gfr [29, 31, 32, 30, 34, 36, 37, 35, 42, 3, 4, 5, 8, 43, 39, 40, 41] [(28, 5), (28, 6), (28, 7), (28, 8), (28, 9), (38, 9), (38, 10), (38, 11), (38, 12), (38, 13), (38, 14), (28, 11), (33, 5), (33, 6), (33, 7), (33, 9), (33, 11), (33, 8)] h x.2 := by
  unfold fX_search_58 at H
  have hf := gfr_rf [29, 31, 32, 30, 34, 36, 37, 35, 42, 3, 4, 5, 8, 43, 39, 40, 41] [(28, 5), (28, 6), (28, 7), (28, 8), (28, 9), (38, 9), (38, 10), (38, 11), (38, 12), (38, 13), (38, 14), (28, 11), (33, 5), (33, 6), (33, 7), (33, 9), (33, 11), (33, 8)] h
  obtain ⟨h5, e6, H⟩ := gbi H
  replace hf := gfr_tr hf (gfr_w (fS_go_fr  e6) (gss_cons (gme 3 rfl) (gss_cons (gme 0 rfl) (gss_cons (gme 1 rfl) (gss_cons (gme 2 rfl) (gss_cons (gme 4 rfl) (gss_cons (gme 5 rfl) (gss_cons (gme 6 rfl) (gss_cons (gme 7 rfl) (gss_cons (gme 8 rfl) (gss_cons (gme 9 rfl) (gss_cons (gme 10 rfl) (gss_cons (gme 11 rfl) (gss_cons (gme 12 rfl) (gss_cons (gme 13 rfl) (gss_cons (gme 14 rfl) (gss_cons (gme 15 rfl) (gss_cons (gme 16 rfl) gss_nil))))))))))))))))) (gss_cons (gme 5 rfl) (gss_cons (gme 6 rfl) (gss_cons (gme 7 rfl) (gss_cons (gme 8 rfl) (gss_cons (gme 9 rfl) (gss_cons (gme 10 rfl) (gss_cons (gme 11 rfl) (gss_cons (gme 2 rfl) (gss_cons (gme 3 rfl) (gss_cons (gme 0 rfl) (gss_cons (gme 4 rfl) (gss_cons (gme 12 rfl) (gss_cons (gme 13 rfl) (gss_cons (gme 14 rfl) (gss_cons (gme 15 rfl) (gss_cons (gme 16 rfl) (gss_cons (gme 17 rfl) (gss_cons (gme 1 rfl) gss_nil)))))))))))))))))))
  by_cases q : (h5 38 14) = (0 : Int32)
  · replace H := gift q H
    by_cases q0 : v4 = (0 : Int32)
    · replace H := gift q0 H
      by_cases q : (0 : Int32) < (h5 38 13)
      · replace H := gift q H
        obtain ⟨p7, e8, H⟩ := gbi H
        replace hf := gfr_tr hf (gfr_w (fS_digits_fr  e8) gss_nil gss_nil)
        obtain rfl := Option.some.inj H
        exact hf
      · replace H := giff q H
        obtain rfl := Option.some.inj H
        exact hf
    replace H := giff q0 H
    by_cases q1 : v4 = (1 : Int32)
    · replace H := gift q1 H
      obtain rfl := Option.some.inj H
      exact hf
    replace H := giff q1 H
    by_cases q2 : v4 = (2 : Int32)
    · replace H := gift q2 H
      obtain rfl := Option.some.inj H
      exact hf
    replace H := giff q2 H
    obtain rfl := Option.some.inj H
    exact hf
  · replace H := giff q H
    obtain rfl := Option.some.inj H
    exact hf
theorem fX_search_fr {v1 : Int32} {v2 : Int32} {v3 : Int32} {v4 : Int32} {h : gH} {x : (Int32 × gH)} (H : fX_search v1 v2 v3 v4 h = some x) : gfr [29, 31, 32, 30, 34, 36, 37, 35, 42, 3, 4, 5, 8, 43, 39, 40, 41] [(28, 5), (28, 6), (28, 7), (28, 8), (28, 9), (38, 9), (38, 10), (38, 11), (38, 12), (38, 13), (38, 14), (28, 11), (33, 5), (33, 6), (33, 7), (33, 9), (33, 11), (33, 8)] h x.2 := by
  unfold fX_search at H
  have hf := gfr_rf [29, 31, 32, 30, 34, 36, 37, 35, 42, 3, 4, 5, 8, 43, 39, 40, 41] [(28, 5), (28, 6), (28, 7), (28, 8), (28, 9), (38, 9), (38, 10), (38, 11), (38, 12), (38, 13), (38, 14), (28, 11), (33, 5), (33, 6), (33, 7), (33, 9), (33, 11), (33, 8)] h
  obtain ⟨p1, e2, H⟩ := gbi H
  replace hf := gfr_tr hf (gfr_w (fX_isChoice_fr  e2) gss_nil gss_nil)
  by_cases q : p1.1 = (0 : Int32)
  · replace H := gift q H
    obtain rfl := Option.some.inj H
    exact hf
  · replace H := giff q H
    by_cases q : v3 < (0 : Int32)
    · replace H := gift q H
      obtain rfl := Option.some.inj H
      exact hf
    · replace H := giff q H
      by_cases q : (1 : Int32) < v3
      · replace H := gift q H
        obtain rfl := Option.some.inj H
        exact hf
      · replace H := giff q H
        by_cases q : v4 < (0 : Int32)
        · replace H := gift q H
          obtain rfl := Option.some.inj H
          exact hf
        · replace H := giff q H
          by_cases q : (3 : Int32) < v4
          · replace H := gift q H
            obtain rfl := Option.some.inj H
            exact hf
          · replace H := giff q H
            obtain ⟨h3, e4, H⟩ := gbi H
            replace hf := gfr_tr hf (gfr_w (fH_become_fr gH28 gH17 e4) (gss_cons (gme 0 rfl) (gss_cons (gme 1 rfl) (gss_cons (gme 2 rfl) gss_nil))) (gss_cons (gme 0 rfl) (gss_cons (gme 1 rfl) (gss_cons (gme 2 rfl) (gss_cons (gme 3 rfl) (gss_cons (gme 4 rfl) gss_nil))))))
            by_cases q : v3 = (1 : Int32)
            · replace H := gift q H
              exact gfr_tr hf (fX_search_58_fr  H)
            · replace H := giff q H
              exact gfr_tr hf (fX_search_58_fr  H)
theorem fX_solutions_fr {h : gH} {x : (Int64 × gH)} (H : fX_solutions  h = some x) : gfr [29, 31, 32, 30, 34, 36, 37, 35, 42, 3, 4, 5, 8, 43, 39, 40, 41] [(28, 5), (28, 6), (28, 7), (28, 8), (28, 9), (38, 9), (38, 10), (38, 11), (38, 12), (38, 13), (38, 14), (28, 11), (33, 5), (33, 6), (33, 7), (33, 9), (33, 11), (33, 8)] h x.2 := by
  unfold fX_solutions at H
  have hf := gfr_rf [29, 31, 32, 30, 34, 36, 37, 35, 42, 3, 4, 5, 8, 43, 39, 40, 41] [(28, 5), (28, 6), (28, 7), (28, 8), (28, 9), (38, 9), (38, 10), (38, 11), (38, 12), (38, 13), (38, 14), (28, 11), (33, 5), (33, 6), (33, 7), (33, 9), (33, 11), (33, 8)] h
  obtain ⟨h1, e2, H⟩ := gbi H
  replace hf := gfr_tr hf (gfr_w (fH_become_fr gH28 gH17 e2) (gss_cons (gme 0 rfl) (gss_cons (gme 1 rfl) (gss_cons (gme 2 rfl) gss_nil))) (gss_cons (gme 0 rfl) (gss_cons (gme 1 rfl) (gss_cons (gme 2 rfl) (gss_cons (gme 3 rfl) (gss_cons (gme 4 rfl) gss_nil))))))
  obtain ⟨h3, e4, H⟩ := gbi H
  replace hf := gfr_tr hf (gfr_w (fS_go_fr  e4) (gss_cons (gme 3 rfl) (gss_cons (gme 0 rfl) (gss_cons (gme 1 rfl) (gss_cons (gme 2 rfl) (gss_cons (gme 4 rfl) (gss_cons (gme 5 rfl) (gss_cons (gme 6 rfl) (gss_cons (gme 7 rfl) (gss_cons (gme 8 rfl) (gss_cons (gme 9 rfl) (gss_cons (gme 10 rfl) (gss_cons (gme 11 rfl) (gss_cons (gme 12 rfl) (gss_cons (gme 13 rfl) (gss_cons (gme 14 rfl) (gss_cons (gme 15 rfl) (gss_cons (gme 16 rfl) gss_nil))))))))))))))))) (gss_cons (gme 5 rfl) (gss_cons (gme 6 rfl) (gss_cons (gme 7 rfl) (gss_cons (gme 8 rfl) (gss_cons (gme 9 rfl) (gss_cons (gme 10 rfl) (gss_cons (gme 11 rfl) (gss_cons (gme 2 rfl) (gss_cons (gme 3 rfl) (gss_cons (gme 0 rfl) (gss_cons (gme 4 rfl) (gss_cons (gme 12 rfl) (gss_cons (gme 13 rfl) (gss_cons (gme 14 rfl) (gss_cons (gme 15 rfl) (gss_cons (gme 16 rfl) (gss_cons (gme 17 rfl) (gss_cons (gme 1 rfl) gss_nil)))))))))))))))))))
  by_cases q : (h3 38 14) = (0 : Int32)
  · replace H := gift q H
    obtain rfl := Option.some.inj H
    exact hf
  · replace H := giff q H
    obtain rfl := Option.some.inj H
    exact hf
theorem fX_reach_39_fr {k21 : Int32 → gH → Option (Int32 × gH)} {v1 : Int32} {v2 : Int32} {v3 : Int32} {s0 : Int32} (hk21f : ∀ (u3 : Int32) (h : gH) (x : (Int32 × gH)), k21 u3 h = some x → gfr [29, 31, 32, 30, 34, 36, 37, 35, 42, 3, 4, 5, 8, 43, 39, 40, 41] [(28, 5), (28, 6), (28, 7), (28, 8), (28, 9), (38, 9), (38, 10), (38, 11), (38, 12), (38, 13), (38, 14), (28, 11), (33, 5), (33, 6), (33, 7), (33, 9), (33, 11), (33, 8)] h x.2) {h : gH} {x : (Int32 × gH)} (H : fX_reach_39 k21 v1 v2 v3 s0 h = some x) : gfr [29, 31, 32, 30, 34, 36, 37, 35, 42, 3, 4, 5, 8, 43, 39, 40, 41] [(28, 5), (28, 6), (28, 7), (28, 8), (28, 9), (38, 9), (38, 10), (38, 11), (38, 12), (38, 13), (38, 14), (28, 11), (33, 5), (33, 6), (33, 7), (33, 9), (33, 11), (33, 8)] h x.2 := by
  unfold fX_reach_39 at H
  have hf := gfr_rf [29, 31, 32, 30, 34, 36, 37, 35, 42, 3, 4, 5, 8, 43, 39, 40, 41] [(28, 5), (28, 6), (28, 7), (28, 8), (28, 9), (38, 9), (38, 10), (38, 11), (38, 12), (38, 13), (38, 14), (28, 11), (33, 5), (33, 6), (33, 7), (33, 9), (33, 11), (33, 8)] h
  by_cases q : (h 17 9) = (0 : Int32)
  · replace H := gift q H
    obtain ⟨b3, H⟩ := ggi H
    have b3 := gin_in b3
    by_cases q : (((h 18 v1.toNatClampNeg) >>> (s0 &&& 31)) &&& (1 : Int32)) = (0 : Int32)
    · replace H := gift q H
      exact gfr_tr hf (hk21f _ _ _  H)
    · replace H := giff q H
      obtain ⟨h4, e5, H⟩ := gbi H
      replace hf := gfr_tr hf (gfr_w (fH_become_fr gH28 gH17 e5) (gss_cons (gme 0 rfl) (gss_cons (gme 1 rfl) (gss_cons (gme 2 rfl) gss_nil))) (gss_cons (gme 0 rfl) (gss_cons (gme 1 rfl) (gss_cons (gme 2 rfl) (gss_cons (gme 3 rfl) (gss_cons (gme 4 rfl) gss_nil))))))
      obtain ⟨p6, e7, H⟩ := gbi H
      replace hf := gfr_tr hf (gfr_w (fH_narrow_fr gH28 e7) (gss_cons (gme 0 rfl) (gss_cons (gme 1 rfl) (gss_cons (gme 2 rfl) gss_nil))) (gss_cons (gme 0 rfl) (gss_cons (gme 4 rfl) (gss_cons (gme 2 rfl) gss_nil))))
      obtain ⟨h8, e9, H⟩ := gbi H
      replace hf := gfr_tr hf (gfr_w (fS_go_fr  e9) (gss_cons (gme 3 rfl) (gss_cons (gme 0 rfl) (gss_cons (gme 1 rfl) (gss_cons (gme 2 rfl) (gss_cons (gme 4 rfl) (gss_cons (gme 5 rfl) (gss_cons (gme 6 rfl) (gss_cons (gme 7 rfl) (gss_cons (gme 8 rfl) (gss_cons (gme 9 rfl) (gss_cons (gme 10 rfl) (gss_cons (gme 11 rfl) (gss_cons (gme 12 rfl) (gss_cons (gme 13 rfl) (gss_cons (gme 14 rfl) (gss_cons (gme 15 rfl) (gss_cons (gme 16 rfl) gss_nil))))))))))))))))) (gss_cons (gme 5 rfl) (gss_cons (gme 6 rfl) (gss_cons (gme 7 rfl) (gss_cons (gme 8 rfl) (gss_cons (gme 9 rfl) (gss_cons (gme 10 rfl) (gss_cons (gme 11 rfl) (gss_cons (gme 2 rfl) (gss_cons (gme 3 rfl) (gss_cons (gme 0 rfl) (gss_cons (gme 4 rfl) (gss_cons (gme 12 rfl) (gss_cons (gme 13 rfl) (gss_cons (gme 14 rfl) (gss_cons (gme 15 rfl) (gss_cons (gme 16 rfl) (gss_cons (gme 17 rfl) (gss_cons (gme 1 rfl) gss_nil)))))))))))))))))))
      by_cases q : (h8 38 14) = (0 : Int32)
      · replace H := gift q H
        by_cases q : (0 : Int32) < (h8 38 13)
        · replace H := gift q H
          obtain rfl := Option.some.inj H
          exact hf
        · replace H := giff q H
          exact gfr_tr hf (hk21f _ _ _  H)
      · replace H := giff q H
        obtain rfl := Option.some.inj H
        exact hf
  · replace H := giff q H
    exact gfr_tr hf (hk21f _ _ _  H)
theorem fX_reach_21_fr {v1 : Int32} {v2 : Int32}  : ∀ (n : Nat) (v3 : Int32) (h : gH) (x : (Int32 × gH)), fX_reach_21 v1 v2 n v3 h = some x → gfr [29, 31, 32, 30, 34, 36, 37, 35, 42, 3, 4, 5, 8, 43, 39, 40, 41] [(28, 5), (28, 6), (28, 7), (28, 8), (28, 9), (38, 9), (38, 10), (38, 11), (38, 12), (38, 13), (38, 14), (28, 11), (33, 5), (33, 6), (33, 7), (33, 9), (33, 11), (33, 8)] h x.2 := by
  intro n
  induction n with
  | zero => intro v3 h x  H; exact g0 H
  | succ n ih =>
    intro v3 h x  H
    unfold fX_reach_21 at H
    have hf := gfr_rf [29, 31, 32, 30, 34, 36, 37, 35, 42, 3, 4, 5, 8, 43, 39, 40, 41] [(28, 5), (28, 6), (28, 7), (28, 8), (28, 9), (38, 9), (38, 10), (38, 11), (38, 12), (38, 13), (38, 14), (28, 11), (33, 5), (33, 6), (33, 7), (33, 9), (33, 11), (33, 8)] h
    by_cases q : v3 < (10 : Int32)
    · replace H := gift q H
      by_cases q : v2 = (0 : Int32)
      · replace H := gift q H
        exact gfr_tr hf (fX_reach_39_fr ih  H)
      · replace H := giff q H
        exact gfr_tr hf (fX_reach_39_fr ih  H)
    · replace H := giff q H
      obtain rfl := Option.some.inj H
      exact hf
theorem fX_reach_fr {v1 : Int32} {v2 : Int32} {h : gH} {x : (Int32 × gH)} (H : fX_reach v1 v2 h = some x) : gfr [29, 31, 32, 30, 34, 36, 37, 35, 42, 3, 4, 5, 8, 43, 39, 40, 41] [(28, 5), (28, 6), (28, 7), (28, 8), (28, 9), (38, 9), (38, 10), (38, 11), (38, 12), (38, 13), (38, 14), (28, 11), (33, 5), (33, 6), (33, 7), (33, 9), (33, 11), (33, 8)] h x.2 := by
  unfold fX_reach at H
  have hf := gfr_rf [29, 31, 32, 30, 34, 36, 37, 35, 42, 3, 4, 5, 8, 43, 39, 40, 41] [(28, 5), (28, 6), (28, 7), (28, 8), (28, 9), (38, 9), (38, 10), (38, 11), (38, 12), (38, 13), (38, 14), (28, 11), (33, 5), (33, 6), (33, 7), (33, 9), (33, 11), (33, 8)] h
  obtain ⟨p1, e2, H⟩ := gbi H
  replace hf := gfr_tr hf (gfr_w (fX_isVariable_fr  e2) gss_nil gss_nil)
  by_cases q : p1.1 = (0 : Int32)
  · replace H := gift q H
    obtain rfl := Option.some.inj H
    exact hf
  · replace H := giff q H
    by_cases q : v2 < (0 : Int32)
    · replace H := gift q H
      obtain rfl := Option.some.inj H
      exact hf
    · replace H := giff q H
      by_cases q : (1 : Int32) < v2
      · replace H := gift q H
        obtain rfl := Option.some.inj H
        exact hf
      · replace H := giff q H
        exact gfr_tr hf (fX_reach_21_fr  gfu _ _ _  H)
theorem fX_count_fr {v1 : Int32} {h : gH} {x : (Int32 × gH)} (H : fX_count v1 h = some x) : gfr [] [] h x.2 := by
  unfold fX_count at H
  have hf := gfr_rf [] [] h
  by_cases q0 : v1 = (0 : Int32)
  · replace H := gift q0 H
    obtain rfl := Option.some.inj H
    exact hf
  replace H := giff q0 H
  by_cases q1 : v1 = (1 : Int32)
  · replace H := gift q1 H
    obtain rfl := Option.some.inj H
    exact hf
  replace H := giff q1 H
  by_cases q2 : v1 = (2 : Int32)
  · replace H := gift q2 H
    obtain rfl := Option.some.inj H
    exact hf
  replace H := giff q2 H
  by_cases q3 : v1 = (3 : Int32)
  · replace H := gift q3 H
    obtain rfl := Option.some.inj H
    exact hf
  replace H := giff q3 H
  by_cases q4 : v1 = (4 : Int32)
  · replace H := gift q4 H
    obtain ⟨p1, e2, H⟩ := gbi H
    replace hf := gfr_tr hf (gfr_w (fJ_bitCount_fr  e2) gss_nil gss_nil)
    obtain rfl := Option.some.inj H
    exact hf
  replace H := giff q4 H
  by_cases q5 : v1 = (5 : Int32)
  · replace H := gift q5 H
    obtain rfl := Option.some.inj H
    exact hf
  replace H := giff q5 H
  by_cases q6 : v1 = (6 : Int32)
  · replace H := gift q6 H
    obtain ⟨p3, e4, H⟩ := gbi H
    replace hf := gfr_tr hf (gfr_w (fH_howManySettled_fr gH17 e4) gss_nil gss_nil)
    obtain rfl := Option.some.inj H
    exact hf
  replace H := giff q6 H
  by_cases q7 : v1 = (7 : Int32)
  · replace H := gift q7 H
    obtain rfl := Option.some.inj H
    exact hf
  replace H := giff q7 H
  by_cases q8 : v1 = (8 : Int32)
  · replace H := gift q8 H
    by_cases q : (h 17 9) = (0 : Int32)
    · replace H := gift q H
      obtain rfl := Option.some.inj H
      exact hf
    · replace H := giff q H
      obtain rfl := Option.some.inj H
      exact hf
  replace H := giff q8 H
  obtain rfl := Option.some.inj H
  exact hf
