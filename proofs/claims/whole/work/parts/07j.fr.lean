theorem fM_sheet_77_fr {v1 : Int32} {v2 : Int32} {v3 : Int32}  : ∀ (n : Nat) (v4 : Int32) (h : gH) (x : (Int32 × gH)), fM_sheet_77 v1 v2 v3 n v4 h = some x → gfr [103, 104, 105, 106] [] h x.2 := by
  intro n
  induction n with
  | zero => intro v4 h x  H; exact g0 H
  | succ n ih =>
    intro v4 h x  H
    unfold fM_sheet_77 at H
    have hf := gfr_rf [103, 104, 105, 106] [] h
    by_cases q : v4 < v3
    · replace H := gift q H
      by_cases q : v2 < (0 : Int32)
      · replace H := gift q H
        obtain rfl := Option.some.inj H
        exact hf
      · replace H := giff q H
        obtain ⟨b15, H⟩ := ggi H
        have b15 := gin_in b15
        obtain ⟨h16, e17, H⟩ := glei H
        replace hf := gfr_e (gfr_a hf (gme 3 rfl)) e17
        exact gfr_tr hf (ih _ _ _  H)
    · replace H := giff q H
      obtain rfl := Option.some.inj H
      exact hf
theorem fM_sheet_59_fr {v1 : Int32} {v2 : Int32} {v3 : Int32} {s1 : Int32} {s2 : Int32}  {h : gH} {x : (Int32 × gH)} (H : fM_sheet_59 v1 v2 v3 s1 s2 h = some x) : gfr [103, 104, 105, 106] [] h x.2 := by
  unfold fM_sheet_59 at H
  have hf := gfr_rf [103, 104, 105, 106] [] h
  obtain ⟨b5, H⟩ := ggi H
  have b5 := gin_in b5
  obtain ⟨b6, H⟩ := ggi H
  have b6 := gbo_or b6
  obtain ⟨h7, e8, H⟩ := glei H
  replace hf := gfr_e (gfr_a hf (gme 0 rfl)) e8
  obtain ⟨b9, H⟩ := ggi H
  have b9 := gin_in b9
  obtain ⟨h10, e11, H⟩ := glei H
  replace hf := gfr_e (gfr_a hf (gme 1 rfl)) e11
  obtain ⟨b12, H⟩ := ggi H
  have b12 := gin_in b12
  obtain ⟨h13, e14, H⟩ := glei H
  replace hf := gfr_e (gfr_a hf (gme 2 rfl)) e14
  exact gfr_tr hf (fM_sheet_77_fr  gfu _ _ _  H)
theorem fM_sheet_45_fr {v1 : Int32} {v2 : Int32} {v3 : Int32}  {h : gH} {x : (Int32 × gH)} (H : fM_sheet_45 v1 v2 v3  h = some x) : gfr [103, 104, 105, 106] [] h x.2 := by
  unfold fM_sheet_45 at H
  have hf := gfr_rf [103, 104, 105, 106] [] h
  by_cases q : v2 < (0 : Int32)
  · replace H := gift q H
    exact gfr_tr hf (fM_sheet_59_fr  H)
  · replace H := giff q H
    exact gfr_tr hf (fM_sheet_59_fr  H)
theorem fM_sheet_34_fr {v1 : Int32} {v2 : Int32} {v3 : Int32}  {h : gH} {x : (Int32 × gH)} (H : fM_sheet_34 v1 v2 v3  h = some x) : gfr [103, 104, 105, 106] [] h x.2 := by
  unfold fM_sheet_34 at H
  have hf := gfr_rf [103, 104, 105, 106] [] h
  by_cases q : v2 < (0 : Int32)
  · replace H := gift q H
    exact gfr_tr hf (fM_sheet_45_fr  H)
  · replace H := giff q H
    by_cases q : v3 < (0 : Int32)
    · replace H := gift q H
      obtain rfl := Option.some.inj H
      exact hf
    · replace H := giff q H
      exact gfr_tr hf (fM_sheet_45_fr  H)
theorem fM_sheet_fr {v1 : Int32} {v2 : Int32} {v3 : Int32} {h : gH} {x : (Int32 × gH)} (H : fM_sheet v1 v2 v3 h = some x) : gfr [103, 104, 105, 106] [] h x.2 := by
  unfold fM_sheet at H
  have hf := gfr_rf [103, 104, 105, 106] [] h
  obtain ⟨p1, e2, H⟩ := gbi H
  replace hf := gfr_tr hf (gfr_w (fM_isSheet_fr  e2) gss_nil gss_nil)
  by_cases q : p1.1 = (0 : Int32)
  · replace H := gift q H
    obtain rfl := Option.some.inj H
    exact hf
  · replace H := giff q H
    obtain ⟨p3, e4, H⟩ := gbi H
    replace hf := gfr_tr hf (gfr_w (fM_in_fr  e4) gss_nil gss_nil)
    by_cases q : p3.1 = (0 : Int32)
    · replace H := gift q H
      obtain rfl := Option.some.inj H
      exact hf
    · replace H := giff q H
      by_cases q : v2 < (0 : Int32)
      · replace H := gift q H
        exact gfr_tr hf (fM_sheet_34_fr  H)
      · replace H := giff q H
        by_cases q : (40 : Int32) < v3
        · replace H := gift q H
          obtain rfl := Option.some.inj H
          exact hf
        · replace H := giff q H
          exact gfr_tr hf (fM_sheet_34_fr  H)
theorem fM_film_86_fr {v1 : Int32}  : ∀ (n : Nat) (v5 : Int32) (h : gH) (x : (Int32 × gH)), fM_film_86 v1 n v5 h = some x → gfr [89, 90, 71, 66, 74, 75, 81, 87, 84, 85, 88, 67, 68, 70, 103, 104, 105, 106] [(65, 57), (65, 36), (65, 44), (65, 45), (65, 46), (65, 47), (65, 48), (65, 49), (65, 50), (65, 9), (65, 53), (65, 35), (65, 15), (65, 2), (65, 34), (65, 54)] h x.2 := by
  intro n
  induction n with
  | zero => intro v5 h x  H; exact g0 H
  | succ n ih =>
    intro v5 h x  H
    unfold fM_film_86 at H
    have hf := gfr_rf [89, 90, 71, 66, 74, 75, 81, 87, 84, 85, 88, 67, 68, 70, 103, 104, 105, 106] [(65, 57), (65, 36), (65, 44), (65, 45), (65, 46), (65, 47), (65, 48), (65, 49), (65, 50), (65, 9), (65, 53), (65, 35), (65, 15), (65, 2), (65, 34), (65, 54)] h
    by_cases q : v5 < (8 : Int32)
    · replace H := gift q H
      obtain ⟨b15, H⟩ := ggi H
      have b15 := gin_in b15
      obtain ⟨b16, H⟩ := ggi H
      have b16 := gin_in b16
      obtain ⟨h17, e18, H⟩ := glei H
      replace hf := gfr_e (gfr_a hf (gme 17 rfl)) e18
      exact gfr_tr hf (ih _ _ _  H)
    · replace H := giff q H
      obtain rfl := Option.some.inj H
      exact hf
theorem fM_film_fr {v1 : Int32} {v2 : Int32} {v3 : Int32} {h : gH} {x : (Int32 × gH)} (H : fM_film v1 v2 v3 h = some x) : gfr [89, 90, 71, 66, 74, 75, 81, 87, 84, 85, 88, 67, 68, 70, 103, 104, 105, 106] [(65, 57), (65, 36), (65, 44), (65, 45), (65, 46), (65, 47), (65, 48), (65, 49), (65, 50), (65, 9), (65, 53), (65, 35), (65, 15), (65, 2), (65, 34), (65, 54)] h x.2 := by
  unfold fM_film at H
  have hf := gfr_rf [89, 90, 71, 66, 74, 75, 81, 87, 84, 85, 88, 67, 68, 70, 103, 104, 105, 106] [(65, 57), (65, 36), (65, 44), (65, 45), (65, 46), (65, 47), (65, 48), (65, 49), (65, 50), (65, 9), (65, 53), (65, 35), (65, 15), (65, 2), (65, 34), (65, 54)] h
  obtain ⟨p1, e2, H⟩ := gbi H
  replace hf := gfr_tr hf (gfr_w (fM_isSheet_fr  e2) gss_nil gss_nil)
  by_cases q : p1.1 = (0 : Int32)
  · replace H := gift q H
    obtain rfl := Option.some.inj H
    exact hf
  · replace H := giff q H
    obtain ⟨p3, e4, H⟩ := gbi H
    replace hf := gfr_tr hf (gfr_w (fM_in_fr  e4) gss_nil gss_nil)
    by_cases q : p3.1 = (0 : Int32)
    · replace H := gift q H
      obtain rfl := Option.some.inj H
      exact hf
    · replace H := giff q H
      obtain ⟨p5, e6, H⟩ := gbi H
      replace hf := gfr_tr hf (gfr_w (fM_in_fr  e6) gss_nil gss_nil)
      by_cases q : p5.1 = (0 : Int32)
      · replace H := gift q H
        obtain rfl := Option.some.inj H
        exact hf
      · replace H := giff q H
        obtain ⟨h7, e8, H⟩ := gbi H
        replace hf := gfr_tr hf (gfr_w (fM_laysAside2_fr  e8) (gss_cons (gme 0 rfl) (gss_cons (gme 1 rfl) gss_nil)) (gss_cons (gme 0 rfl) (gss_cons (gme 1 rfl) gss_nil)))
        obtain ⟨p9, e10, H⟩ := gbi H
        replace hf := gfr_tr hf (gfr_w (fM_searched_fr  e10) (gss_cons (gme 2 rfl) (gss_cons (gme 3 rfl) (gss_cons (gme 4 rfl) (gss_cons (gme 5 rfl) (gss_cons (gme 6 rfl) (gss_cons (gme 7 rfl) (gss_cons (gme 8 rfl) (gss_cons (gme 9 rfl) (gss_cons (gme 10 rfl) (gss_cons (gme 11 rfl) (gss_cons (gme 12 rfl) (gss_cons (gme 13 rfl) gss_nil)))))))))))) (gss_cons (gme 2 rfl) (gss_cons (gme 3 rfl) (gss_cons (gme 4 rfl) (gss_cons (gme 5 rfl) (gss_cons (gme 6 rfl) (gss_cons (gme 7 rfl) (gss_cons (gme 8 rfl) (gss_cons (gme 9 rfl) (gss_cons (gme 10 rfl) (gss_cons (gme 11 rfl) (gss_cons (gme 12 rfl) (gss_cons (gme 13 rfl) (gss_cons (gme 14 rfl) (gss_cons (gme 15 rfl) gss_nil)))))))))))))))
        obtain ⟨h11, e12, H⟩ := gbi H
        replace hf := gfr_tr hf (gfr_w (fM_laysBack2_fr  e12) (gss_cons (gme 3 rfl) (gss_cons (gme 2 rfl) gss_nil)) (gss_cons (gme 13 rfl) (gss_cons (gme 1 rfl) gss_nil)))
        by_cases q : p9.1 = (1 : Int32)
        · replace H := gift q H
          obtain ⟨p13, e14, H⟩ := gbi H
          replace hf := gfr_tr hf (gfr_w (fM_sheet_fr  e14) (gss_cons (gme 14 rfl) (gss_cons (gme 15 rfl) (gss_cons (gme 16 rfl) (gss_cons (gme 17 rfl) gss_nil)))) gss_nil)
          exact gfr_tr hf (fM_film_86_fr  gfu _ _ _  H)
        · replace H := giff q H
          by_cases q : p9.1 = (-6 : Int32)
          · replace H := gift q H
            obtain rfl := Option.some.inj H
            exact hf
          · replace H := giff q H
            obtain rfl := Option.some.inj H
            exact hf
theorem fM_image_155_fr  : ∀ (n : Nat) (v1 : Int32) (h : gH) (x : (Int32 × gH)), fM_image_155  n v1 h = some x → gfr [93, 91, 92, 94, 98, 99, 96, 97, 95, 100, 101, 102] [(65, 70), (65, 71), (65, 72), (65, 73), (65, 74), (65, 75), (65, 76)] h x.2 := by
  intro n
  induction n with
  | zero => intro v1 h x  H; exact g0 H
  | succ n ih =>
    intro v1 h x  H
    unfold fM_image_155 at H
    have hf := gfr_rf [93, 91, 92, 94, 98, 99, 96, 97, 95, 100, 101, 102] [(65, 70), (65, 71), (65, 72), (65, 73), (65, 74), (65, 75), (65, 76)] h
    by_cases q : v1 < (8 : Int32)
    · replace H := gift q H
      obtain ⟨b16, H⟩ := ggi H
      have b16 := gin_in b16
      obtain ⟨b17, H⟩ := ggi H
      have b17 := gin_in b17
      obtain ⟨h18, e19, H⟩ := glei H
      replace hf := gfr_e (gfr_a hf (gme 8 rfl)) e19
      obtain ⟨b20, H⟩ := ggi H
      have b20 := gin_in b20
      obtain ⟨b21, H⟩ := ggi H
      have b21 := gin_in b21
      obtain ⟨h22, e23, H⟩ := glei H
      replace hf := gfr_e (gfr_a hf (gme 9 rfl)) e23
      obtain ⟨b24, H⟩ := ggi H
      have b24 := gin_in b24
      obtain ⟨b25, H⟩ := ggi H
      have b25 := gin_in b25
      obtain ⟨h26, e27, H⟩ := glei H
      replace hf := gfr_e (gfr_a hf (gme 10 rfl)) e27
      obtain ⟨b28, H⟩ := ggi H
      have b28 := gin_in b28
      obtain ⟨b29, H⟩ := ggi H
      have b29 := gin_in b29
      obtain ⟨h30, e31, H⟩ := glei H
      replace hf := gfr_e (gfr_a hf (gme 11 rfl)) e31
      exact gfr_tr hf (ih _ _ _  H)
    · replace H := giff q H
      obtain ⟨b1, H⟩ := ggi H
      have b1 := gbo_or b1
      obtain ⟨h2, e3, H⟩ := glei H
      replace hf := gfr_e (gfr_f hf (gme 0 rfl)) e3
      obtain ⟨h4, e5, H⟩ := glei H
      replace hf := gfr_e (gfr_f hf (gme 1 rfl)) e5
      obtain ⟨h6, e7, H⟩ := glei H
      replace hf := gfr_e (gfr_f hf (gme 2 rfl)) e7
      obtain ⟨h8, e9, H⟩ := glei H
      replace hf := gfr_e (gfr_f hf (gme 3 rfl)) e9
      obtain ⟨h10, e11, H⟩ := glei H
      replace hf := gfr_e (gfr_f hf (gme 4 rfl)) e11
      obtain ⟨h12, e13, H⟩ := glei H
      replace hf := gfr_e (gfr_f hf (gme 5 rfl)) e13
      obtain ⟨h14, e15, H⟩ := glei H
      replace hf := gfr_e (gfr_f hf (gme 6 rfl)) e15
      obtain rfl := Option.some.inj H
      exact hf
theorem fM_image_117_fr  : ∀ (n : Nat) (v1 : Int32) (h : gH) (x : (Int32 × gH)), fM_image_117  n v1 h = some x → gfr [93, 91, 92, 94, 98, 99, 96, 97, 95, 100, 101, 102] [(65, 70), (65, 71), (65, 72), (65, 73), (65, 74), (65, 75), (65, 76)] h x.2 := by
  intro n
  induction n with
  | zero => intro v1 h x  H; exact g0 H
  | succ n ih =>
    intro v1 h x  H
    unfold fM_image_117 at H
    have hf := gfr_rf [93, 91, 92, 94, 98, 99, 96, 97, 95, 100, 101, 102] [(65, 70), (65, 71), (65, 72), (65, 73), (65, 74), (65, 75), (65, 76)] h
    by_cases q : v1 < (12 : Int32)
    · replace H := gift q H
      obtain ⟨b32, H⟩ := ggi H
      have b32 := gin_in b32
      obtain ⟨b33, H⟩ := ggi H
      have b33 := gin_in b33
      obtain ⟨h34, e35, H⟩ := glei H
      replace hf := gfr_e (gfr_a hf (gme 6 rfl)) e35
      obtain ⟨b36, H⟩ := ggi H
      have b36 := gin_in b36
      obtain ⟨b37, H⟩ := ggi H
      have b37 := gin_in b37
      obtain ⟨h38, e39, H⟩ := glei H
      replace hf := gfr_e (gfr_a hf (gme 7 rfl)) e39
      exact gfr_tr hf (ih _ _ _  H)
    · replace H := giff q H
      exact gfr_tr hf (fM_image_155_fr  gfu _ _ _  H)
theorem fM_image_79_fr  : ∀ (n : Nat) (v1 : Int32) (h : gH) (x : (Int32 × gH)), fM_image_79  n v1 h = some x → gfr [93, 91, 92, 94, 98, 99, 96, 97, 95, 100, 101, 102] [(65, 70), (65, 71), (65, 72), (65, 73), (65, 74), (65, 75), (65, 76)] h x.2 := by
  intro n
  induction n with
  | zero => intro v1 h x  H; exact g0 H
  | succ n ih =>
    intro v1 h x  H
    unfold fM_image_79 at H
    have hf := gfr_rf [93, 91, 92, 94, 98, 99, 96, 97, 95, 100, 101, 102] [(65, 70), (65, 71), (65, 72), (65, 73), (65, 74), (65, 75), (65, 76)] h
    by_cases q : v1 < (80 : Int32)
    · replace H := gift q H
      obtain ⟨b40, H⟩ := ggi H
      have b40 := gin_in b40
      obtain ⟨b41, H⟩ := ggi H
      have b41 := gin_in b41
      obtain ⟨h42, e43, H⟩ := glei H
      replace hf := gfr_e (gfr_a hf (gme 4 rfl)) e43
      obtain ⟨b44, H⟩ := ggi H
      have b44 := gin_in b44
      obtain ⟨b45, H⟩ := ggi H
      have b45 := gin_in b45
      obtain ⟨h46, e47, H⟩ := glei H
      replace hf := gfr_e (gfr_a hf (gme 5 rfl)) e47
      exact gfr_tr hf (ih _ _ _  H)
    · replace H := giff q H
      exact gfr_tr hf (fM_image_117_fr  gfu _ _ _  H)
theorem fM_image_29_fr  : ∀ (n : Nat) (v1 : Int32) (h : gH) (x : (Int32 × gH)), fM_image_29  n v1 h = some x → gfr [93, 91, 92, 94, 98, 99, 96, 97, 95, 100, 101, 102] [(65, 70), (65, 71), (65, 72), (65, 73), (65, 74), (65, 75), (65, 76)] h x.2 := by
  intro n
  induction n with
  | zero => intro v1 h x  H; exact g0 H
  | succ n ih =>
    intro v1 h x  H
    unfold fM_image_29 at H
    have hf := gfr_rf [93, 91, 92, 94, 98, 99, 96, 97, 95, 100, 101, 102] [(65, 70), (65, 71), (65, 72), (65, 73), (65, 74), (65, 75), (65, 76)] h
    by_cases q : v1 < (16 : Int32)
    · replace H := gift q H
      obtain ⟨b48, H⟩ := ggi H
      have b48 := gin_in b48
      obtain ⟨b49, H⟩ := ggi H
      have b49 := gin_in b49
      obtain ⟨h50, e51, H⟩ := glei H
      replace hf := gfr_e (gfr_a hf (gme 1 rfl)) e51
      obtain ⟨b52, H⟩ := ggi H
      have b52 := gin_in b52
      obtain ⟨b53, H⟩ := ggi H
      have b53 := gin_in b53
      obtain ⟨h54, e55, H⟩ := glei H
      replace hf := gfr_e (gfr_a hf (gme 2 rfl)) e55
      obtain ⟨b56, H⟩ := ggi H
      have b56 := gin_in b56
      obtain ⟨b57, H⟩ := ggi H
      have b57 := gin_in b57
      obtain ⟨b58, H⟩ := ggi H
      have b58 := gbo_or b58
      obtain ⟨h59, e60, H⟩ := glei H
      replace hf := gfr_e (gfr_a hf (gme 3 rfl)) e60
      exact gfr_tr hf (ih _ _ _  H)
    · replace H := giff q H
      exact gfr_tr hf (fM_image_79_fr  gfu _ _ _  H)
theorem fM_image_2_fr  : ∀ (n : Nat) (v1 : Int32) (h : gH) (x : (Int32 × gH)), fM_image_2  n v1 h = some x → gfr [93, 91, 92, 94, 98, 99, 96, 97, 95, 100, 101, 102] [(65, 70), (65, 71), (65, 72), (65, 73), (65, 74), (65, 75), (65, 76)] h x.2 := by
  intro n
  induction n with
  | zero => intro v1 h x  H; exact g0 H
  | succ n ih =>
    intro v1 h x  H
    unfold fM_image_2 at H
    have hf := gfr_rf [93, 91, 92, 94, 98, 99, 96, 97, 95, 100, 101, 102] [(65, 70), (65, 71), (65, 72), (65, 73), (65, 74), (65, 75), (65, 76)] h
    by_cases q : v1 < (16000 : Int32)
    · replace H := gift q H
      obtain ⟨b61, H⟩ := ggi H
      have b61 := gin_in b61
      obtain ⟨b62, H⟩ := ggi H
      have b62 := gin_in b62
      obtain ⟨b63, H⟩ := ggi H
      have b63 := gbo_or b63
      obtain ⟨h64, e65, H⟩ := glei H
      replace hf := gfr_e (gfr_a hf (gme 0 rfl)) e65
      exact gfr_tr hf (ih _ _ _  H)
    · replace H := giff q H
      exact gfr_tr hf (fM_image_29_fr  gfu _ _ _  H)
theorem fM_image_fr {h : gH} {x : (Int32 × gH)} (H : fM_image  h = some x) : gfr [93, 91, 92, 94, 98, 99, 96, 97, 95, 100, 101, 102] [(65, 70), (65, 71), (65, 72), (65, 73), (65, 74), (65, 75), (65, 76)] h x.2 := by
  unfold fM_image at H
  have hf := gfr_rf [93, 91, 92, 94, 98, 99, 96, 97, 95, 100, 101, 102] [(65, 70), (65, 71), (65, 72), (65, 73), (65, 74), (65, 75), (65, 76)] h
  exact gfr_tr hf (fM_image_2_fr  gfu _ _ _  H)
theorem fM_back_165_fr  : ∀ (n : Nat) (v1 : Int32) (h : gH) (x : (Int32 × gH)), fM_back_165  n v1 h = some x → gfr [69, 67, 68, 71, 74, 75, 72, 73, 66, 76, 77, 78] [(65, 2), (65, 8), (65, 12), (65, 15), (65, 19), (65, 20)] h x.2 := by
  intro n
  induction n with
  | zero => intro v1 h x  H; exact g0 H
  | succ n ih =>
    intro v1 h x  H
    unfold fM_back_165 at H
    have hf := gfr_rf [69, 67, 68, 71, 74, 75, 72, 73, 66, 76, 77, 78] [(65, 2), (65, 8), (65, 12), (65, 15), (65, 19), (65, 20)] h
    by_cases q : v1 < (8 : Int32)
    · replace H := gift q H
      obtain ⟨b14, H⟩ := ggi H
      have b14 := gin_in b14
      obtain ⟨b15, H⟩ := ggi H
      have b15 := gin_in b15
      obtain ⟨h16, e17, H⟩ := glei H
      replace hf := gfr_e (gfr_a hf (gme 8 rfl)) e17
      obtain ⟨b18, H⟩ := ggi H
      have b18 := gin_in b18
      obtain ⟨b19, H⟩ := ggi H
      have b19 := gin_in b19
      obtain ⟨h20, e21, H⟩ := glei H
      replace hf := gfr_e (gfr_a hf (gme 9 rfl)) e21
      obtain ⟨b22, H⟩ := ggi H
      have b22 := gin_in b22
      obtain ⟨b23, H⟩ := ggi H
      have b23 := gin_in b23
      obtain ⟨h24, e25, H⟩ := glei H
      replace hf := gfr_e (gfr_a hf (gme 10 rfl)) e25
      obtain ⟨b26, H⟩ := ggi H
      have b26 := gin_in b26
      obtain ⟨b27, H⟩ := ggi H
      have b27 := gin_in b27
      obtain ⟨h28, e29, H⟩ := glei H
      replace hf := gfr_e (gfr_a hf (gme 11 rfl)) e29
      exact gfr_tr hf (ih _ _ _  H)
    · replace H := giff q H
      obtain ⟨b1, H⟩ := ggi H
      have b1 := gbo_or b1
      obtain ⟨h2, e3, H⟩ := glei H
      replace hf := gfr_e (gfr_f hf (gme 0 rfl)) e3
      obtain ⟨h4, e5, H⟩ := glei H
      replace hf := gfr_e (gfr_f hf (gme 1 rfl)) e5
      obtain ⟨h6, e7, H⟩ := glei H
      replace hf := gfr_e (gfr_f hf (gme 2 rfl)) e7
      obtain ⟨h8, e9, H⟩ := glei H
      replace hf := gfr_e (gfr_f hf (gme 3 rfl)) e9
      obtain ⟨h10, e11, H⟩ := glei H
      replace hf := gfr_e (gfr_f hf (gme 4 rfl)) e11
      obtain ⟨h12, e13, H⟩ := glei H
      replace hf := gfr_e (gfr_f hf (gme 5 rfl)) e13
      obtain rfl := Option.some.inj H
      exact hf
theorem fM_back_127_fr  : ∀ (n : Nat) (v1 : Int32) (h : gH) (x : (Int32 × gH)), fM_back_127  n v1 h = some x → gfr [69, 67, 68, 71, 74, 75, 72, 73, 66, 76, 77, 78] [(65, 2), (65, 8), (65, 12), (65, 15), (65, 19), (65, 20)] h x.2 := by
  intro n
  induction n with
  | zero => intro v1 h x  H; exact g0 H
  | succ n ih =>
    intro v1 h x  H
    unfold fM_back_127 at H
    have hf := gfr_rf [69, 67, 68, 71, 74, 75, 72, 73, 66, 76, 77, 78] [(65, 2), (65, 8), (65, 12), (65, 15), (65, 19), (65, 20)] h
    by_cases q : v1 < (12 : Int32)
    · replace H := gift q H
      obtain ⟨b30, H⟩ := ggi H
      have b30 := gin_in b30
      obtain ⟨b31, H⟩ := ggi H
      have b31 := gin_in b31
      obtain ⟨h32, e33, H⟩ := glei H
      replace hf := gfr_e (gfr_a hf (gme 6 rfl)) e33
      obtain ⟨b34, H⟩ := ggi H
      have b34 := gin_in b34
      obtain ⟨b35, H⟩ := ggi H
      have b35 := gin_in b35
      obtain ⟨h36, e37, H⟩ := glei H
      replace hf := gfr_e (gfr_a hf (gme 7 rfl)) e37
      exact gfr_tr hf (ih _ _ _  H)
    · replace H := giff q H
      exact gfr_tr hf (fM_back_165_fr  gfu _ _ _  H)
theorem fM_back_89_fr  : ∀ (n : Nat) (v1 : Int32) (h : gH) (x : (Int32 × gH)), fM_back_89  n v1 h = some x → gfr [69, 67, 68, 71, 74, 75, 72, 73, 66, 76, 77, 78] [(65, 2), (65, 8), (65, 12), (65, 15), (65, 19), (65, 20)] h x.2 := by
  intro n
  induction n with
  | zero => intro v1 h x  H; exact g0 H
  | succ n ih =>
    intro v1 h x  H
    unfold fM_back_89 at H
    have hf := gfr_rf [69, 67, 68, 71, 74, 75, 72, 73, 66, 76, 77, 78] [(65, 2), (65, 8), (65, 12), (65, 15), (65, 19), (65, 20)] h
    by_cases q : v1 < (80 : Int32)
    · replace H := gift q H
      obtain ⟨b38, H⟩ := ggi H
      have b38 := gin_in b38
      obtain ⟨b39, H⟩ := ggi H
      have b39 := gin_in b39
      obtain ⟨h40, e41, H⟩ := glei H
      replace hf := gfr_e (gfr_a hf (gme 4 rfl)) e41
      obtain ⟨b42, H⟩ := ggi H
      have b42 := gin_in b42
      obtain ⟨b43, H⟩ := ggi H
      have b43 := gin_in b43
      obtain ⟨h44, e45, H⟩ := glei H
      replace hf := gfr_e (gfr_a hf (gme 5 rfl)) e45
      exact gfr_tr hf (ih _ _ _  H)
    · replace H := giff q H
      exact gfr_tr hf (fM_back_127_fr  gfu _ _ _  H)
theorem fM_back_39_fr  : ∀ (n : Nat) (v1 : Int32) (h : gH) (x : (Int32 × gH)), fM_back_39  n v1 h = some x → gfr [69, 67, 68, 71, 74, 75, 72, 73, 66, 76, 77, 78] [(65, 2), (65, 8), (65, 12), (65, 15), (65, 19), (65, 20)] h x.2 := by
  intro n
  induction n with
  | zero => intro v1 h x  H; exact g0 H
  | succ n ih =>
    intro v1 h x  H
    unfold fM_back_39 at H
    have hf := gfr_rf [69, 67, 68, 71, 74, 75, 72, 73, 66, 76, 77, 78] [(65, 2), (65, 8), (65, 12), (65, 15), (65, 19), (65, 20)] h
    by_cases q : v1 < (16 : Int32)
    · replace H := gift q H
      obtain ⟨b46, H⟩ := ggi H
      have b46 := gin_in b46
      obtain ⟨b47, H⟩ := ggi H
      have b47 := gin_in b47
      obtain ⟨h48, e49, H⟩ := glei H
      replace hf := gfr_e (gfr_a hf (gme 1 rfl)) e49
      obtain ⟨b50, H⟩ := ggi H
      have b50 := gin_in b50
      obtain ⟨b51, H⟩ := ggi H
      have b51 := gin_in b51
      obtain ⟨h52, e53, H⟩ := glei H
      replace hf := gfr_e (gfr_a hf (gme 2 rfl)) e53
      obtain ⟨b54, H⟩ := ggi H
      have b54 := gin_in b54
      obtain ⟨b55, H⟩ := ggi H
      have b55 := gin_in b55
      obtain ⟨b56, H⟩ := ggi H
      have b56 := gbo_or b56
      obtain ⟨h57, e58, H⟩ := glei H
      replace hf := gfr_e (gfr_a hf (gme 3 rfl)) e58
      exact gfr_tr hf (ih _ _ _  H)
    · replace H := giff q H
      exact gfr_tr hf (fM_back_89_fr  gfu _ _ _  H)
theorem fM_back_12_fr  : ∀ (n : Nat) (v1 : Int32) (h : gH) (x : (Int32 × gH)), fM_back_12  n v1 h = some x → gfr [69, 67, 68, 71, 74, 75, 72, 73, 66, 76, 77, 78] [(65, 2), (65, 8), (65, 12), (65, 15), (65, 19), (65, 20)] h x.2 := by
  intro n
  induction n with
  | zero => intro v1 h x  H; exact g0 H
  | succ n ih =>
    intro v1 h x  H
    unfold fM_back_12 at H
    have hf := gfr_rf [69, 67, 68, 71, 74, 75, 72, 73, 66, 76, 77, 78] [(65, 2), (65, 8), (65, 12), (65, 15), (65, 19), (65, 20)] h
    by_cases q : v1 < (16000 : Int32)
    · replace H := gift q H
      obtain ⟨b59, H⟩ := ggi H
      have b59 := gin_in b59
      obtain ⟨b60, H⟩ := ggi H
      have b60 := gin_in b60
      obtain ⟨b61, H⟩ := ggi H
      have b61 := gbo_or b61
      obtain ⟨h62, e63, H⟩ := glei H
      replace hf := gfr_e (gfr_a hf (gme 0 rfl)) e63
      exact gfr_tr hf (ih _ _ _  H)
    · replace H := giff q H
      exact gfr_tr hf (fM_back_39_fr  gfu _ _ _  H)
theorem fM_back_fr {h : gH} {x : (Int32 × gH)} (H : fM_back  h = some x) : gfr [69, 67, 68, 71, 74, 75, 72, 73, 66, 76, 77, 78] [(65, 2), (65, 8), (65, 12), (65, 15), (65, 19), (65, 20)] h x.2 := by
  unfold fM_back at H
  have hf := gfr_rf [69, 67, 68, 71, 74, 75, 72, 73, 66, 76, 77, 78] [(65, 2), (65, 8), (65, 12), (65, 15), (65, 19), (65, 20)] h
  by_cases q : (h 65 76) = (0 : Int32)
  · replace H := gift q H
    obtain rfl := Option.some.inj H
    exact hf
  · replace H := giff q H
    exact gfr_tr hf (fM_back_12_fr  gfu _ _ _  H)
theorem fM_count_63_fr {v1 : Int32} {v2 : Int32}  {h : gH} {x : (Int32 × gH)} (H : fM_count_63 v1 v2  h = some x) : gfr [] [] h x.2 := by
  unfold fM_count_63 at H
  have hf := gfr_rf [] [] h
  by_cases q : v1 = (6 : Int32)
  · replace H := gift q H
    obtain rfl := Option.some.inj H
    exact hf
  · replace H := giff q H
    obtain ⟨p3, e4, H⟩ := gbi H
    replace hf := gfr_tr hf (gfr_w (fM_queued_fr  e4) gss_nil gss_nil)
    obtain rfl := Option.some.inj H
    exact hf
theorem fM_count_44_fr {k19 : Int32 → Int32 → gH → Option (Int32 × gH)} {v1 : Int32} {v3 : Int32} {s0 : Int32} {s1 : Int32} (hk19f : ∀ (u2 : Int32) (u3 : Int32) (h : gH) (x : (Int32 × gH)), k19 u2 u3 h = some x → gfr [] [] h x.2) {h : gH} {x : (Int32 × gH)} (H : fM_count_44 k19 v1 v3 s0 s1 h = some x) : gfr [] [] h x.2 := by
  unfold fM_count_44 at H
  have hf := gfr_rf [] [] h
  exact gfr_tr hf (hk19f _ _ _ _  H)
theorem fM_count_19_fr {v1 : Int32}  : ∀ (n : Nat) (v2 : Int32) (v3 : Int32) (h : gH) (x : (Int32 × gH)), fM_count_19 v1 n v2 v3 h = some x → gfr [] [] h x.2 := by
  intro n
  induction n with
  | zero => intro v2 v3 h x  H; exact g0 H
  | succ n ih =>
    intro v2 v3 h x  H
    unfold fM_count_19 at H
    have hf := gfr_rf [] [] h
    by_cases q : v3 < (8 : Int32)
    · replace H := gift q H
      obtain ⟨b5, H⟩ := ggi H
      have b5 := gin_in b5
      obtain ⟨p6, e7, H⟩ := gbi H
      replace hf := gfr_tr hf (gfr_w (fM_bitsOf_fr  e7) gss_nil gss_nil)
      by_cases q : p6.1 = (1 : Int32)
      · replace H := gift q H
        exact gfr_tr hf (fM_count_44_fr ih  H)
      · replace H := giff q H
        exact gfr_tr hf (fM_count_44_fr ih  H)
    · replace H := giff q H
      by_cases q : v1 = (6 : Int32)
      · replace H := gift q H
        exact gfr_tr hf (fM_count_63_fr  H)
      · replace H := giff q H
        by_cases q : v1 = (4 : Int32)
        · replace H := gift q H
          exact gfr_tr hf (fM_count_63_fr  H)
        · replace H := giff q H
          by_cases q : v1 = (0 : Int32)
          · replace H := gift q H
            obtain rfl := Option.some.inj H
            exact hf
          · replace H := giff q H
            by_cases q : v1 = (1 : Int32)
            · replace H := gift q H
              obtain rfl := Option.some.inj H
              exact hf
            · replace H := giff q H
              by_cases q : v1 = (2 : Int32)
              · replace H := gift q H
                obtain rfl := Option.some.inj H
                exact hf
              · replace H := giff q H
                by_cases q : v1 = (3 : Int32)
                · replace H := gift q H
                  obtain rfl := Option.some.inj H
                  exact hf
                · replace H := giff q H
                  by_cases q : v1 = (5 : Int32)
                  · replace H := gift q H
                    obtain rfl := Option.some.inj H
                    exact hf
                  · replace H := giff q H
                    by_cases q : v1 = (7 : Int32)
                    · replace H := gift q H
                      obtain rfl := Option.some.inj H
                      exact hf
                    · replace H := giff q H
                      by_cases q : (h 65 2) = (0 : Int32)
                      · replace H := gift q H
                        obtain rfl := Option.some.inj H
                        exact hf
                      · replace H := giff q H
                        obtain rfl := Option.some.inj H
                        exact hf
theorem fM_count_fr {v1 : Int32} {h : gH} {x : (Int32 × gH)} (H : fM_count v1 h = some x) : gfr [] [] h x.2 := by
  unfold fM_count at H
  have hf := gfr_rf [] [] h
  obtain ⟨p1, e2, H⟩ := gbi H
  replace hf := gfr_tr hf (gfr_w (fM_in_fr  e2) gss_nil gss_nil)
  by_cases q : p1.1 = (0 : Int32)
  · replace H := gift q H
    obtain rfl := Option.some.inj H
    exact hf
  · replace H := giff q H
    exact gfr_tr hf (fM_count_19_fr  gfu _ _ _ _  H)
theorem fM_put_fr {v1 : Int32} {v2 : Int32} {v3 : Int32} {h : gH} {x : (Int32 × gH)} (H : fM_put v1 v2 v3 h = some x) : gfr [106] [] h x.2 := by
  unfold fM_put at H
  have hf := gfr_rf [106] [] h
  obtain ⟨p1, e2, H⟩ := gbi H
  replace hf := gfr_tr hf (gfr_w (fM_isSheet_fr  e2) gss_nil gss_nil)
  by_cases q : p1.1 = (0 : Int32)
  · replace H := gift q H
    obtain rfl := Option.some.inj H
    exact hf
  · replace H := giff q H
    obtain ⟨b3, H⟩ := ggi H
    have b3 := gin_in b3
    by_cases q : (p1.2 103 v1.toNatClampNeg) = (0 : Int32)
    · replace H := gift q H
      obtain rfl := Option.some.inj H
      exact hf
    · replace H := giff q H
      obtain ⟨b4, H⟩ := ggi H
      have b4 := gin_in b4
      obtain ⟨p5, e6, H⟩ := gbi H
      replace hf := gfr_tr hf (gfr_w (fM_in_fr  e6) gss_nil gss_nil)
      by_cases q : p5.1 = (0 : Int32)
      · replace H := gift q H
        obtain rfl := Option.some.inj H
        exact hf
      · replace H := giff q H
        obtain ⟨b7, H⟩ := ggi H
        have b7 := gin_in b7
        by_cases q : (p5.2 104 v1.toNatClampNeg) = (0 : Int32)
        · replace H := gift q H
          obtain ⟨b15, H⟩ := ggi H
          have b15 := gin_in b15
          obtain ⟨h16, e17, H⟩ := glei H
          replace hf := gfr_e (gfr_a hf (gme 0 rfl)) e17
          obtain rfl := Option.some.inj H
          exact hf
        · replace H := giff q H
          obtain ⟨b8, H⟩ := ggi H
          have b8 := gin_in b8
          by_cases q : (p5.2 104 v1.toNatClampNeg) = (1 : Int32)
          · replace H := gift q H
            obtain ⟨b12, H⟩ := ggi H
            have b12 := gin_in b12
            obtain ⟨h13, e14, H⟩ := glei H
            replace hf := gfr_e (gfr_a hf (gme 0 rfl)) e14
            obtain rfl := Option.some.inj H
            exact hf
          · replace H := giff q H
            obtain ⟨b9, H⟩ := ggi H
            have b9 := gin_in b9
            obtain ⟨h10, e11, H⟩ := glei H
            replace hf := gfr_e (gfr_a hf (gme 0 rfl)) e11
            obtain rfl := Option.some.inj H
            exact hf
theorem fM_item_fr {v1 : Int32} {v2 : Int32} {h : gH} {x : (Int32 × gH)} (H : fM_item v1 v2 h = some x) : gfr [] [] h x.2 := by
  unfold fM_item at H
  have hf := gfr_rf [] [] h
  obtain ⟨p1, e2, H⟩ := gbi H
  replace hf := gfr_tr hf (gfr_w (fM_isSheet_fr  e2) gss_nil gss_nil)
  by_cases q : p1.1 = (0 : Int32)
  · replace H := gift q H
    obtain rfl := Option.some.inj H
    exact hf
  · replace H := giff q H
    obtain ⟨b3, H⟩ := ggi H
    have b3 := gin_in b3
    by_cases q : (p1.2 103 v1.toNatClampNeg) = (0 : Int32)
    · replace H := gift q H
      obtain rfl := Option.some.inj H
      exact hf
    · replace H := giff q H
      obtain ⟨b4, H⟩ := ggi H
      have b4 := gin_in b4
      obtain ⟨p5, e6, H⟩ := gbi H
      replace hf := gfr_tr hf (gfr_w (fM_in_fr  e6) gss_nil gss_nil)
      by_cases q : p5.1 = (0 : Int32)
      · replace H := gift q H
        obtain rfl := Option.some.inj H
        exact hf
      · replace H := giff q H
        obtain ⟨b7, H⟩ := ggi H
        have b7 := gin_in b7
        obtain rfl := Option.some.inj H
        exact hf
theorem fM_copy_145_fr {k121 : Int32 → gH → Option (Int32 × gH)} {v1 : Int32} {v2 : Int32} {v3 : Int32} {v4 : Int32} {v5 : Int32} {v6 : Int32} {v7 : Int32} {s0 : Int32} (hk121f : ∀ (u7 : Int32) (h : gH) (x : (Int32 × gH)), k121 u7 h = some x → gfr [106] [] h x.2) {h : gH} {x : (Int32 × gH)} (H : fM_copy_145 k121 v1 v2 v3 v4 v5 v6 v7 s0 h = some x) : gfr [106] [] h x.2 := by
  unfold fM_copy_145 at H
  have hf := gfr_rf [106] [] h
  obtain ⟨b11, H⟩ := ggi H
  have b11 := gin_in b11
  obtain ⟨b12, H⟩ := ggi H
  have b12 := gin_in b12
  obtain ⟨h13, e14, H⟩ := glei H
  replace hf := gfr_e (gfr_a hf (gme 0 rfl)) e14
  exact gfr_tr hf (hk121f _ _ _  H)
theorem fM_copy_121_fr {v1 : Int32} {v2 : Int32} {v3 : Int32} {v4 : Int32} {v5 : Int32} {v6 : Int32}  : ∀ (n : Nat) (v7 : Int32) (h : gH) (x : (Int32 × gH)), fM_copy_121 v1 v2 v3 v4 v5 v6 n v7 h = some x → gfr [106] [] h x.2 := by
  intro n
  induction n with
  | zero => intro v7 h x  H; exact g0 H
  | succ n ih =>
    intro v7 h x  H
    unfold fM_copy_121 at H
    have hf := gfr_rf [106] [] h
    by_cases q : v7 < v5
    · replace H := gift q H
      by_cases q : v6 = (0 : Int32)
      · replace H := gift q H
        exact gfr_tr hf (fM_copy_145_fr ih  H)
      · replace H := giff q H
        exact gfr_tr hf (fM_copy_145_fr ih  H)
    · replace H := giff q H
      obtain rfl := Option.some.inj H
      exact hf
theorem fM_copy_116_fr {v1 : Int32} {v2 : Int32} {v3 : Int32} {v4 : Int32} {v5 : Int32} {s0 : Int32}  {h : gH} {x : (Int32 × gH)} (H : fM_copy_116 v1 v2 v3 v4 v5 s0 h = some x) : gfr [106] [] h x.2 := by
  unfold fM_copy_116 at H
  have hf := gfr_rf [106] [] h
  exact gfr_tr hf (fM_copy_121_fr  gfu _ _ _  H)
theorem fM_copy_115_fr {v1 : Int32} {v2 : Int32} {v3 : Int32} {v4 : Int32} {v5 : Int32}  {h : gH} {x : (Int32 × gH)} (H : fM_copy_115 v1 v2 v3 v4 v5  h = some x) : gfr [106] [] h x.2 := by
  unfold fM_copy_115 at H
  have hf := gfr_rf [106] [] h
  exact gfr_tr hf (fM_copy_116_fr  H)
theorem fM_copy_fr {v1 : Int32} {v2 : Int32} {v3 : Int32} {v4 : Int32} {v5 : Int32} {h : gH} {x : (Int32 × gH)} (H : fM_copy v1 v2 v3 v4 v5 h = some x) : gfr [106] [] h x.2 := by
  unfold fM_copy at H
  have hf := gfr_rf [106] [] h
  obtain ⟨p1, e2, H⟩ := gbi H
  replace hf := gfr_tr hf (gfr_w (fM_isSheet_fr  e2) gss_nil gss_nil)
  by_cases q : p1.1 = (0 : Int32)
  · replace H := gift q H
    obtain rfl := Option.some.inj H
    exact hf
  · replace H := giff q H
    obtain ⟨p3, e4, H⟩ := gbi H
    replace hf := gfr_tr hf (gfr_w (fM_isSheet_fr  e4) gss_nil gss_nil)
    by_cases q : p3.1 = (0 : Int32)
    · replace H := gift q H
      obtain rfl := Option.some.inj H
      exact hf
    · replace H := giff q H
      obtain ⟨b5, H⟩ := ggi H
      have b5 := gin_in b5
      by_cases q : (p3.2 103 v1.toNatClampNeg) = (0 : Int32)
      · replace H := gift q H
        obtain rfl := Option.some.inj H
        exact hf
      · replace H := giff q H
        obtain ⟨b6, H⟩ := ggi H
        have b6 := gin_in b6
        by_cases q : (p3.2 103 v3.toNatClampNeg) = (0 : Int32)
        · replace H := gift q H
          obtain rfl := Option.some.inj H
          exact hf
        · replace H := giff q H
          obtain ⟨b7, H⟩ := ggi H
          have b7 := gin_in b7
          obtain ⟨b8, H⟩ := ggi H
          have b8 := gin_in b8
          by_cases q : (p3.2 104 v1.toNatClampNeg) = (p3.2 104 v3.toNatClampNeg)
          · replace H := gift q H
            by_cases q : v5 < (0 : Int32)
            · replace H := gift q H
              obtain rfl := Option.some.inj H
              exact hf
            · replace H := giff q H
              by_cases q : v2 < (0 : Int32)
              · replace H := gift q H
                obtain rfl := Option.some.inj H
                exact hf
              · replace H := giff q H
                by_cases q : v4 < (0 : Int32)
                · replace H := gift q H
                  obtain rfl := Option.some.inj H
                  exact hf
                · replace H := giff q H
                  obtain ⟨b9, H⟩ := ggi H
                  have b9 := gin_in b9
                  by_cases q : ((p3.2 105 v1.toNatClampNeg) - v5) < v2
                  · replace H := gift q H
                    obtain rfl := Option.some.inj H
                    exact hf
                  · replace H := giff q H
                    obtain ⟨b10, H⟩ := ggi H
                    have b10 := gin_in b10
                    by_cases q : ((p3.2 105 v3.toNatClampNeg) - v5) < v4
                    · replace H := gift q H
                      obtain rfl := Option.some.inj H
                      exact hf
                    · replace H := giff q H
                      by_cases q : v1 = v3
                      · replace H := gift q H
                        by_cases q : v2 < v4
                        · replace H := gift q H
                          exact gfr_tr hf (fM_copy_116_fr  H)
                        · replace H := giff q H
                          exact gfr_tr hf (fM_copy_115_fr  H)
                      · replace H := giff q H
                        exact gfr_tr hf (fM_copy_115_fr  H)
          · replace H := giff q H
            obtain rfl := Option.some.inj H
            exact hf
theorem fM_load_149_fr {k75 : Int32 → Int32 → gH → Option (Int32 × gH)} {v1 : Int32} {v3 : Int32} {v4 : Int32} {v6 : Int32} {s0 : Int32} {s1 : Int32} (hk75f : ∀ (u5 : Int32) (u6 : Int32) (h : gH) (x : (Int32 × gH)), k75 u5 u6 h = some x → gfr [72, 73, 66, 74, 75, 71] [(65, 12), (65, 35), (65, 15), (65, 2)] h x.2) {h : gH} {x : (Int32 × gH)} (H : fM_load_149 k75 v1 v3 v4 v6 s0 s1 h = some x) : gfr [72, 73, 66, 74, 75, 71] [(65, 12), (65, 35), (65, 15), (65, 2)] h x.2 := by
  unfold fM_load_149 at H
  have hf := gfr_rf [72, 73, 66, 74, 75, 71] [(65, 12), (65, 35), (65, 15), (65, 2)] h
  exact gfr_tr hf (hk75f _ _ _ _  H)
theorem fM_load_75_fr {v1 : Int32} {v3 : Int32} {v4 : Int32}  : ∀ (n : Nat) (v5 : Int32) (v6 : Int32) (h : gH) (x : (Int32 × gH)), fM_load_75 v1 v3 v4 n v5 v6 h = some x → gfr [72, 73, 66, 74, 75, 71] [(65, 12), (65, 35), (65, 15), (65, 2)] h x.2 := by
  intro n
  induction n with
  | zero => intro v5 v6 h x  H; exact g0 H
  | succ n ih =>
    intro v5 v6 h x  H
    unfold fM_load_75 at H
    have hf := gfr_rf [72, 73, 66, 74, 75, 71] [(65, 12), (65, 35), (65, 15), (65, 2)] h
    by_cases q : v6 < v4
    · replace H := gift q H
      by_cases q : v3 < (0 : Int32)
      · replace H := gift q H
        obtain rfl := Option.some.inj H
        exact hf
      · replace H := giff q H
        obtain ⟨b9, H⟩ := ggi H
        have b9 := gin_in b9
        by_cases q : (((h 105 v1.toNatClampNeg) - ((2 : Int32) * v6)) - (2 : Int32)) < v3
        · replace H := gift q H
          obtain rfl := Option.some.inj H
          exact hf
        · replace H := giff q H
          obtain ⟨b10, H⟩ := ggi H
          have b10 := gin_in b10
          obtain ⟨b11, H⟩ := ggi H
          have b11 := gin_in b11
          obtain ⟨p12, e13, H⟩ := gbi H
          replace hf := gfr_tr hf (gfr_w (fM_tell_fr  e13) (gss_cons (gme 0 rfl) (gss_cons (gme 1 rfl) (gss_cons (gme 2 rfl) (gss_cons (gme 3 rfl) (gss_cons (gme 4 rfl) (gss_cons (gme 5 rfl) gss_nil)))))) (gss_cons (gme 0 rfl) (gss_cons (gme 1 rfl) (gss_cons (gme 2 rfl) (gss_cons (gme 3 rfl) gss_nil)))))
          by_cases q : p12.1 < (0 : Int32)
          · replace H := gift q H
            exact gfr_tr hf (fM_load_149_fr ih  H)
          · replace H := giff q H
            exact gfr_tr hf (fM_load_149_fr ih  H)
    · replace H := giff q H
      obtain rfl := Option.some.inj H
      exact hf
theorem fM_load_57_fr {v1 : Int32} {v3 : Int32} {v4 : Int32}  {h : gH} {x : (Int32 × gH)} (H : fM_load_57 v1 v3 v4  h = some x) : gfr [72, 73, 66, 74, 75, 71] [(65, 12), (65, 35), (65, 15), (65, 2)] h x.2 := by
  unfold fM_load_57 at H
  have hf := gfr_rf [72, 73, 66, 74, 75, 71] [(65, 12), (65, 35), (65, 15), (65, 2)] h
  obtain ⟨b8, H⟩ := ggi H
  have b8 := gin_in b8
  by_cases q : (h 103 v1.toNatClampNeg) = (0 : Int32)
  · replace H := gift q H
    obtain rfl := Option.some.inj H
    exact hf
  · replace H := giff q H
    exact gfr_tr hf (fM_load_75_fr  gfu _ _ _ _  H)
theorem fM_load_fr {v1 : Int32} {v2 : Int32} {v3 : Int32} {v4 : Int32} {h : gH} {x : (Int32 × gH)} (H : fM_load v1 v2 v3 v4 h = some x) : gfr [72, 73, 66, 74, 75, 71] [(65, 12), (65, 35), (65, 15), (65, 2)] h x.2 := by
  unfold fM_load at H
  have hf := gfr_rf [72, 73, 66, 74, 75, 71] [(65, 12), (65, 35), (65, 15), (65, 2)] h
  obtain ⟨p1, e2, H⟩ := gbi H
  replace hf := gfr_tr hf (gfr_w (fM_isSheet_fr  e2) gss_nil gss_nil)
  by_cases q : p1.1 = (0 : Int32)
  · replace H := gift q H
    obtain rfl := Option.some.inj H
    exact hf
  · replace H := giff q H
    obtain ⟨p3, e4, H⟩ := gbi H
    replace hf := gfr_tr hf (gfr_w (fM_in_fr  e4) gss_nil gss_nil)
    by_cases q : p3.1 = (0 : Int32)
    · replace H := gift q H
      obtain rfl := Option.some.inj H
      exact hf
    · replace H := giff q H
      obtain ⟨p5, e6, H⟩ := gbi H
      replace hf := gfr_tr hf (gfr_w (fM_in_fr  e6) gss_nil gss_nil)
      by_cases q : p5.1 = (0 : Int32)
      · replace H := gift q H
        obtain rfl := Option.some.inj H
        exact hf
      · replace H := giff q H
        obtain ⟨b7, H⟩ := ggi H
        have b7 := gin_in b7
        by_cases q : (p5.2 103 v1.toNatClampNeg) = (0 : Int32)
        · replace H := gift q H
          exact gfr_tr hf (fM_load_57_fr  H)
        · replace H := giff q H
          obtain ⟨b14, H⟩ := ggi H
          have b14 := gin_in b14
          by_cases q : (p5.2 104 v1.toNatClampNeg) = v2
          · replace H := gift q H
            exact gfr_tr hf (fM_load_57_fr  H)
          · replace H := giff q H
            obtain rfl := Option.some.inj H
            exact hf
