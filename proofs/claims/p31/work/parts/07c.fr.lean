theorem fT_accept_fr {v1 : Int32} {h : gH} {x : (Int32 × gH)} (H : fT_accept v1 h = some x) : gfr [11] [(10, 6)] h x.2 := by
  unfold fT_accept at H
  have hf := gfr_rf [11] [(10, 6)] h
  by_cases q : (h 10 6) < (90 : Int32)
  · replace H := gift q H
    obtain ⟨b1, H⟩ := ggi H
    have b1 := gin_in b1
    obtain ⟨h2, e3, H⟩ := glei H
    replace hf := gfr_e (gfr_a hf (gme 0 rfl)) e3
    obtain ⟨h4, e5, H⟩ := glei H
    replace hf := gfr_e (gfr_f hf (gme 0 rfl)) e5
    cases H
    exact hf
  · replace H := giff q H
    cases H
    exact hf
theorem fT_pass_fr {h : gH} {x : gH} (H : fT_pass  h = some x) : gfr [] [(10, 8)] h x := by
  unfold fT_pass at H
  have hf := gfr_rf [] [(10, 8)] h
  by_cases q : (h 10 8) < ((h 10 7) - (1 : Int32))
  · replace H := gift q H
    cases H
    exact (gfr_f hf (gme 0 rfl))
  · replace H := giff q H
    cases H
    exact hf
theorem fT_token_fr {h : gH} {x : (Int32 × gH)} (H : fT_token  h = some x) : gfr [] [] h x.2 := by
  unfold fT_token at H
  have hf := gfr_rf [] [] h
  obtain ⟨b1, H⟩ := ggi H
  have b1 := gin_in b1
  cases H
  exact hf
theorem fT_distinct_44_fr {v1 : Int32}  {h : gH} {x : (Int32 × gH)} (H : fT_distinct_44 v1  h = some x) : gfr [] [(10, 10), (10, 8), (10, 11)] h x.2 := by
  unfold fT_distinct_44 at H
  have hf := gfr_rf [] [(10, 10), (10, 8), (10, 11)] h
  by_cases q : v1 = (2 : Int32)
  · replace H := gift q H
    obtain ⟨p7, e8, H⟩ := gbi H
    replace hf := gfr_tr hf (gfr_w (fT_token_fr  e8) gss_nil gss_nil)
    by_cases q : p7.1 = (0 : Int32)
    · replace H := gift q H
      cases H
      exact hf
    · replace H := giff q H
      cases H
      exact hf
  · replace H := giff q H
    cases H
    exact hf
theorem fT_distinct_11_fr  : ∀ (n : Nat) (v1 : Int32) (h : gH) (x : (Int32 × gH)), fT_distinct_11  n v1 h = some x → gfr [] [(10, 10), (10, 8), (10, 11)] h x.2 := by
  intro n
  induction n with
  | zero => intro v1 h x  H; exact g0 H
  | succ n ih =>
    intro v1 h x  H
    unfold fT_distinct_11 at H
    have hf := gfr_rf [] [(10, 10), (10, 8), (10, 11)] h
    by_cases q : v1 < (3 : Int32)
    · replace H := gift q H
      obtain ⟨p5, e6, H⟩ := gbi H
      replace hf := gfr_tr hf (gfr_w (fT_token_fr  e6) gss_nil gss_nil)
      by_cases q : p5.1 = (2 : Int32)
      · replace H := gift q H
        obtain ⟨b9, H⟩ := ggi H
        have b9 := gin_in b9
        by_cases q : (((p5.2 10 11) >>> ((p5.2 14 (p5.2 10 8).toNatClampNeg) &&& 31)) &&& (1 : Int32)) = (1 : Int32)
        · replace H := gift q H
          exact gfr_tr hf (fT_distinct_44_fr  H)
        · replace H := giff q H
          obtain ⟨b10, H⟩ := ggi H
          have b10 := gin_in b10
          obtain ⟨h11, e12, H⟩ := glei H
          replace hf := gfr_e (gfr_f hf (gme 2 rfl)) e12
          obtain ⟨h13, e14, H⟩ := gbi H
          replace hf := gfr_tr hf (gfr_w (fT_pass_fr  e14) gss_nil (gss_cons (gme 1 rfl) gss_nil))
          exact gfr_tr hf (ih _ _ _  H)
      · replace H := giff q H
        exact gfr_tr hf (fT_distinct_44_fr  H)
    · replace H := giff q H
      cases H
      exact hf
theorem fT_distinct_fr {h : gH} {x : (Int32 × gH)} (H : fT_distinct  h = some x) : gfr [] [(10, 10), (10, 8), (10, 11)] h x.2 := by
  unfold fT_distinct at H
  have hf := gfr_rf [] [(10, 10), (10, 8), (10, 11)] h
  obtain ⟨h1, e2, H⟩ := glei H
  replace hf := gfr_e (gfr_f hf (gme 0 rfl)) e2
  obtain ⟨h3, e4, H⟩ := gbi H
  replace hf := gfr_tr hf (gfr_w (fT_pass_fr  e4) gss_nil (gss_cons (gme 1 rfl) gss_nil))
  exact gfr_tr hf (fT_distinct_11_fr  gfu _ _ _  H)
theorem fT_addToken_fr {v1 : Int32} {v2 : Int32} {h : gH} {x : gH} (H : fT_addToken v1 v2 h = some x) : gfr [12, 13] [(10, 7)] h x := by
  unfold fT_addToken at H
  have hf := gfr_rf [12, 13] [(10, 7)] h
  obtain ⟨b1, H⟩ := ggi H
  have b1 := gin_in b1
  obtain ⟨h2, e3, H⟩ := glei H
  replace hf := gfr_e (gfr_a hf (gme 0 rfl)) e3
  obtain ⟨b4, H⟩ := ggi H
  have b4 := gin_in b4
  obtain ⟨h5, e6, H⟩ := glei H
  replace hf := gfr_e (gfr_a hf (gme 1 rfl)) e6
  cases H
  exact (gfr_f hf (gme 0 rfl))
theorem fT_isDigit_fr {v0 : Int32} {h : gH} {x : (Int32 × gH)} (H : fT_isDigit v0 h = some x) : gfr [] [] h x.2 := by
  unfold fT_isDigit at H
  have hf := gfr_rf [] [] h
  by_cases q : v0 < (48 : Int32)
  · replace H := gift q H
    cases H
    exact hf
  · replace H := giff q H
    by_cases q : (57 : Int32) < v0
    · replace H := gift q H
      cases H
      exact hf
    · replace H := giff q H
      cases H
      exact hf
theorem fT_isSmall_fr {v0 : Int32} {h : gH} {x : (Int32 × gH)} (H : fT_isSmall v0 h = some x) : gfr [] [] h x.2 := by
  unfold fT_isSmall at H
  have hf := gfr_rf [] [] h
  by_cases q : v0 < (97 : Int32)
  · replace H := gift q H
    cases H
    exact hf
  · replace H := giff q H
    by_cases q : (122 : Int32) < v0
    · replace H := gift q H
      cases H
      exact hf
    · replace H := giff q H
      cases H
      exact hf
theorem fT_endOfToken_54_fr  : ∀ (n : Nat) (v2 : Int32) (h : gH) (x : (Int32 × gH)), fT_endOfToken_54  n v2 h = some x → gfr [] [] h x.2 := by
  intro n
  induction n with
  | zero => intro v2 h x  H; exact g0 H
  | succ n ih =>
    intro v2 h x  H
    unfold fT_endOfToken_54 at H
    have hf := gfr_rf [] [] h
    by_cases q : v2 < (h 10 6)
    · replace H := gift q H
      obtain ⟨b7, H⟩ := ggi H
      have b7 := gin_in b7
      obtain ⟨p8, e9, H⟩ := gbi H
      replace hf := gfr_tr hf (gfr_w (fT_isSmall_fr  e9) gss_nil gss_nil)
      by_cases q : p8.1 = (0 : Int32)
      · replace H := gift q H
        cases H
        exact hf
      · replace H := giff q H
        exact gfr_tr hf (ih _ _ _  H)
    · replace H := giff q H
      cases H
      exact hf
theorem fT_endOfToken_16_fr  : ∀ (n : Nat) (v2 : Int32) (h : gH) (x : (Int32 × gH)), fT_endOfToken_16  n v2 h = some x → gfr [] [] h x.2 := by
  intro n
  induction n with
  | zero => intro v2 h x  H; exact g0 H
  | succ n ih =>
    intro v2 h x  H
    unfold fT_endOfToken_16 at H
    have hf := gfr_rf [] [] h
    by_cases q : v2 < (h 10 6)
    · replace H := gift q H
      obtain ⟨b10, H⟩ := ggi H
      have b10 := gin_in b10
      obtain ⟨p11, e12, H⟩ := gbi H
      replace hf := gfr_tr hf (gfr_w (fT_isDigit_fr  e12) gss_nil gss_nil)
      by_cases q : p11.1 = (0 : Int32)
      · replace H := gift q H
        cases H
        exact hf
      · replace H := giff q H
        exact gfr_tr hf (ih _ _ _  H)
    · replace H := giff q H
      cases H
      exact hf
theorem fT_endOfToken_fr {v1 : Int32} {h : gH} {x : (Int32 × gH)} (H : fT_endOfToken v1 h = some x) : gfr [] [] h x.2 := by
  unfold fT_endOfToken at H
  have hf := gfr_rf [] [] h
  obtain ⟨b1, H⟩ := ggi H
  have b1 := gin_in b1
  obtain ⟨p2, e3, H⟩ := gbi H
  replace hf := gfr_tr hf (gfr_w (fT_isDigit_fr  e3) gss_nil gss_nil)
  by_cases q : p2.1 = (0 : Int32)
  · replace H := gift q H
    obtain ⟨b4, H⟩ := ggi H
    have b4 := gin_in b4
    obtain ⟨p5, e6, H⟩ := gbi H
    replace hf := gfr_tr hf (gfr_w (fT_isSmall_fr  e6) gss_nil gss_nil)
    by_cases q : p5.1 = (0 : Int32)
    · replace H := gift q H
      cases H
      exact hf
    · replace H := giff q H
      exact gfr_tr hf (fT_endOfToken_54_fr  gfu _ _ _  H)
  · replace H := giff q H
    exact gfr_tr hf (fT_endOfToken_16_fr  gfu _ _ _  H)
theorem fJ_isLatin1_fr {o : Nat} (ho : gStr o) {h : gH} {x : (Int32 × gH)} (H : fJ_isLatin1 o h = some x) : gfr [] [] h x.2 := by
  unfold fJ_isLatin1 at H
  have hf := gfr_rf [] [] h
  by_cases q : (1 : Int32) = (0 : Int32)
  · replace H := gift q H
    cases H
    exact hf
  · replace H := giff q H
    by_cases q : (0 : Int32) = (0 : Int32)
    · replace H := gift q H
      cases H
      exact hf
    · replace H := giff q H
      cases H
      exact hf
theorem fJ_coder_fr {o : Nat} (ho : gStr o) {h : gH} {x : (Int32 × gH)} (H : fJ_coder o h = some x) : gfr [] [] h x.2 := by
  unfold fJ_coder at H
  have hf := gfr_rf [] [] h
  by_cases q : (1 : Int32) = (0 : Int32)
  · replace H := gift q H
    obtain ⟨b1, H⟩ := ggi H
    have b1 := gby_ok b1
    cases H
    exact hf
  · replace H := giff q H
    obtain ⟨b2, H⟩ := ggi H
    have b2 := gby_ok b2
    cases H
    exact hf
theorem fJ_length_fr {o : Nat} (ho : gStr o) {h : gH} {x : (Int32 × gH)} (H : fJ_length o h = some x) : gfr [] [] h x.2 := by
  unfold fJ_length at H
  have hf := gfr_rf [] [] h
  obtain ⟨p1, e2, H⟩ := gbi H
  replace hf := gfr_tr hf (gfr_w (fJ_coder_fr ho e2) gss_nil gss_nil)
  cases H
  exact hf
theorem fJ_canEncode_fr {v0 : Int32} {h : gH} {x : (Int32 × gH)} (H : fJ_canEncode v0 h = some x) : gfr [] [] h x.2 := by
  unfold fJ_canEncode at H
  have hf := gfr_rf [] [] h
  by_cases q : v0 < (0 : Int32)
  · replace H := gift q H
    cases H
    exact hf
  · replace H := giff q H
    by_cases q : (255 : Int32) < v0
    · replace H := gift q H
      cases H
      exact hf
    · replace H := giff q H
      cases H
      exact hf
theorem fJ_indexOfChar_7_fr {o : Nat} {v3 : Int32} {v4 : Int32} (ho : gStr o)  : ∀ (n : Nat) (v5 : Int32) (h : gH) (x : (Int32 × gH)), fJ_indexOfChar_7 o v3 v4 n v5 h = some x → gfr [] [] h x.2 := by
  intro n
  induction n with
  | zero => intro v5 h x  H; exact g0 H
  | succ n ih =>
    intro v5 h x  H
    unfold fJ_indexOfChar_7 at H
    have hf := gfr_rf [] [] h
    by_cases q : v5 < v3
    · replace H := gift q H
      obtain ⟨b1, H⟩ := ggi H
      have b1 := gin_in b1
      by_cases q : (gsb o v5) = v4
      · replace H := gift q H
        cases H
        exact hf
      · replace H := giff q H
        exact gfr_tr hf (ih _ _ _  H)
    · replace H := giff q H
      cases H
      exact hf
theorem fJ_indexOfChar_fr {o : Nat} {v1 : Int32} {v2 : Int32} {v3 : Int32} (ho : gStr o) {h : gH} {x : (Int32 × gH)} (H : fJ_indexOfChar o v1 v2 v3 h = some x) : gfr [] [] h x.2 := by
  unfold fJ_indexOfChar at H
  have hf := gfr_rf [] [] h
  exact gfr_tr hf (fJ_indexOfChar_7_fr ho  gfu _ _ _  H)
theorem fJ_indexOf3_fr {o : Nat} {v1 : Int32} {v2 : Int32} {v3 : Int32} (ho : gStr o) {h : gH} {x : (Int32 × gH)} (H : fJ_indexOf3 o v1 v2 v3 h = some x) : gfr [] [] h x.2 := by
  unfold fJ_indexOf3 at H
  have hf := gfr_rf [] [] h
  obtain ⟨p1, e2, H⟩ := gbi H
  replace hf := gfr_tr hf (gfr_w (fJ_canEncode_fr  e2) gss_nil gss_nil)
  by_cases q : p1.1 = (0 : Int32)
  · replace H := gift q H
    cases H
    exact hf
  · replace H := giff q H
    by_cases q : (if v2 < (0 : Int32) then (0 : Int32) else v2) < (if (Int32.ofNat (gsle o)) < v3 then (Int32.ofNat (gsle o)) else v3)
    · replace H := gift q H
      obtain ⟨p3, e4, H⟩ := gbi H
      replace hf := gfr_tr hf (gfr_w (fJ_indexOfChar_fr ho e4) gss_nil gss_nil)
      cases H
      exact hf
    · replace H := giff q H
      cases H
      exact hf
theorem fJ_indexOf2_fr {o : Nat} {v1 : Int32} {v2 : Int32} (ho : gStr o) {h : gH} {x : (Int32 × gH)} (H : fJ_indexOf2 o v1 v2 h = some x) : gfr [] [] h x.2 := by
  unfold fJ_indexOf2 at H
  have hf := gfr_rf [] [] h
  obtain ⟨p1, e2, H⟩ := gbi H
  replace hf := gfr_tr hf (gfr_w (fJ_isLatin1_fr ho e2) gss_nil gss_nil)
  by_cases q : p1.1 = (0 : Int32)
  · replace H := gift q H
    obtain ⟨p3, e4, H⟩ := gbi H
    replace hf := gfr_tr hf (gfr_w (fJ_length_fr ho e4) gss_nil gss_nil)
    exact g0 H
  · replace H := giff q H
    obtain ⟨p5, e6, H⟩ := gbi H
    replace hf := gfr_tr hf (gfr_w (fJ_length_fr ho e6) gss_nil gss_nil)
    obtain ⟨p7, e8, H⟩ := gbi H
    replace hf := gfr_tr hf (gfr_w (fJ_indexOf3_fr ho e8) gss_nil gss_nil)
    cases H
    exact hf
theorem fJ_indexOf_fr {o : Nat} {v1 : Int32} (ho : gStr o) {h : gH} {x : (Int32 × gH)} (H : fJ_indexOf o v1 h = some x) : gfr [] [] h x.2 := by
  unfold fJ_indexOf at H
  have hf := gfr_rf [] [] h
  obtain ⟨p1, e2, H⟩ := gbi H
  replace hf := gfr_tr hf (gfr_w (fJ_indexOf2_fr ho e2) gss_nil gss_nil)
  cases H
  exact hf
theorem fJ_checkIndex_fr {v0 v1 : Int32} {h : gH} {x : gH} (H : fJ_checkIndex v0 v1 h = some x) : gfr [] [] h x := by
  unfold fJ_checkIndex at H
  by_cases q : v0 < (0 : Int32)
  · rw [if_pos q] at H; cases H
  · rw [if_neg q] at H
    obtain ⟨-, H⟩ := gif H
    cases H
    exact gfr_rf _ _ _
theorem fJ_charAt1_fr {o : Nat} {v1 : Int32} (ho : gStr o) {h : gH} {x : (Int32 × gH)} (H : fJ_charAt1 o v1 h = some x) : gfr [] [] h x.2 := by
  unfold fJ_charAt1 at H
  have hf := gfr_rf [] [] h
  obtain ⟨h1, e2, H⟩ := gbi H
  replace hf := gfr_tr hf (gfr_w (fJ_checkIndex_fr  e2) gss_nil gss_nil)
  obtain ⟨b3, H⟩ := ggi H
  have b3 := gin_in b3
  obtain ⟨b4, H⟩ := ggi H
  have b4 := gch_ok b4
  cases H
  exact hf
theorem fJ_charAt_fr {o : Nat} {v1 : Int32} (ho : gStr o) {h : gH} {x : (Int32 × gH)} (H : fJ_charAt o v1 h = some x) : gfr [] [] h x.2 := by
  unfold fJ_charAt at H
  have hf := gfr_rf [] [] h
  obtain ⟨p1, e2, H⟩ := gbi H
  replace hf := gfr_tr hf (gfr_w (fJ_isLatin1_fr ho e2) gss_nil gss_nil)
  by_cases q : p1.1 = (0 : Int32)
  · replace H := gift q H
    exact g0 H
  · replace H := giff q H
    obtain ⟨p3, e4, H⟩ := gbi H
    replace hf := gfr_tr hf (gfr_w (fJ_charAt1_fr ho e4) gss_nil gss_nil)
    obtain ⟨b5, H⟩ := ggi H
    have b5 := gch_ok b5
    cases H
    exact hf
theorem fT_isDistinctAt_15_fr {v1 : Int32} {v2 : Int32}  : ∀ (n : Nat) (v3 : Int32) (h : gH) (x : (Int32 × gH)), fT_isDistinctAt_15 v1 v2 n v3 h = some x → gfr [] [] h x.2 := by
  intro n
  induction n with
  | zero => intro v3 h x  H; exact g0 H
  | succ n ih =>
    intro v3 h x  H
    unfold fT_isDistinctAt_15 at H
    have hf := gfr_rf [] [] h
    by_cases q : v3 < v2
    · replace H := gift q H
      obtain ⟨b3, H⟩ := ggi H
      have b3 := gin_in b3
      obtain ⟨p4, e5, H⟩ := gbi H
      replace hf := gfr_tr hf (gfr_w (fJ_charAt_fr gs0 e5) gss_nil gss_nil)
      by_cases q : (h 11 v3.toNatClampNeg) = p4.1
      · replace H := gift q H
        exact gfr_tr hf (ih _ _ _  H)
      · replace H := giff q H
        cases H
        exact hf
    · replace H := giff q H
      cases H
      exact hf
theorem fT_isDistinctAt_fr {v1 : Int32} {v2 : Int32} {h : gH} {x : (Int32 × gH)} (H : fT_isDistinctAt v1 v2 h = some x) : gfr [] [] h x.2 := by
  unfold fT_isDistinctAt at H
  have hf := gfr_rf [] [] h
  obtain ⟨p1, e2, H⟩ := gbi H
  replace hf := gfr_tr hf (gfr_w (fJ_length_fr gs0 e2) gss_nil gss_nil)
  by_cases q : (v2 - v1) = p1.1
  · replace H := gift q H
    exact gfr_tr hf (fT_isDistinctAt_15_fr  gfu _ _ _  H)
  · replace H := giff q H
    cases H
    exact hf
theorem fT_numberAt_5_fr {v2 : Int32}  : ∀ (n : Nat) (v3 : Int32) (v4 : Int32) (h : gH) (x : (Int32 × gH)), fT_numberAt_5 v2 n v3 v4 h = some x → gfr [] [] h x.2 := by
  intro n
  induction n with
  | zero => intro v3 v4 h x  H; exact g0 H
  | succ n ih =>
    intro v3 v4 h x  H
    unfold fT_numberAt_5 at H
    have hf := gfr_rf [] [] h
    by_cases q : v4 < v2
    · replace H := gift q H
      obtain ⟨b1, H⟩ := ggi H
      have b1 := gin_in b1
      exact gfr_tr hf (ih _ _ _ _  H)
    · replace H := giff q H
      cases H
      exact hf
theorem fT_numberAt_fr {v1 : Int32} {v2 : Int32} {h : gH} {x : (Int32 × gH)} (H : fT_numberAt v1 v2 h = some x) : gfr [] [] h x.2 := by
  unfold fT_numberAt at H
  have hf := gfr_rf [] [] h
  exact gfr_tr hf (fT_numberAt_5_fr  gfu _ _ _ _  H)
theorem fX_isVariable_fr {v0 : Int32} {h : gH} {x : (Int32 × gH)} (H : fX_isVariable v0 h = some x) : gfr [] [] h x.2 := by
  unfold fX_isVariable at H
  have hf := gfr_rf [] [] h
  by_cases q : v0 < (0 : Int32)
  · replace H := gift q H
    obtain rfl := Option.some.inj H
    exact hf
  · replace H := giff q H
    by_cases q : v0 < (8 : Int32)
    · replace H := gift q H
      obtain rfl := Option.some.inj H
      exact hf
    · replace H := giff q H
      obtain rfl := Option.some.inj H
      exact hf
theorem fT_kindOfToken_fr {v1 : Int32} {v2 : Int32} {h : gH} {x : (Int32 × gH)} (H : fT_kindOfToken v1 v2 h = some x) : gfr [14] [] h x.2 := by
  unfold fT_kindOfToken at H
  have hf := gfr_rf [14] [] h
  obtain ⟨b1, H⟩ := ggi H
  have b1 := gin_in b1
  obtain ⟨p2, e3, H⟩ := gbi H
  replace hf := gfr_tr hf (gfr_w (fT_isDigit_fr  e3) gss_nil gss_nil)
  by_cases q : p2.1 = (0 : Int32)
  · replace H := gift q H
    obtain ⟨p4, e5, H⟩ := gbi H
    replace hf := gfr_tr hf (gfr_w (fT_isSmall_fr  e5) gss_nil gss_nil)
    by_cases q : p4.1 = (0 : Int32)
    · replace H := gift q H
      obtain ⟨p6, e7, H⟩ := gbi H
      replace hf := gfr_tr hf (gfr_w (fJ_indexOf_fr gs1 e7) gss_nil gss_nil)
      by_cases q : p6.1 < (0 : Int32)
      · replace H := gift q H
        cases H
        exact hf
      · replace H := giff q H
        cases H
        exact hf
    · replace H := giff q H
      obtain ⟨b8, H⟩ := ggi H
      have b8 := gin_in b8
      obtain ⟨h9, e10, H⟩ := glei H
      replace hf := gfr_e (gfr_a hf (gme 0 rfl)) e10
      by_cases q : (v2 - v1) = (1 : Int32)
      · replace H := gift q H
        obtain ⟨p13, e14, H⟩ := gbi H
        replace hf := gfr_tr hf (gfr_w (fX_isVariable_fr  e14) gss_nil gss_nil)
        by_cases q : p13.1 = (0 : Int32)
        · replace H := gift q H
          cases H
          exact hf
        · replace H := giff q H
          cases H
          exact hf
      · replace H := giff q H
        obtain ⟨p11, e12, H⟩ := gbi H
        replace hf := gfr_tr hf (gfr_w (fT_isDistinctAt_fr  e12) gss_nil gss_nil)
        by_cases q : p11.1 = (0 : Int32)
        · replace H := gift q H
          cases H
          exact hf
        · replace H := giff q H
          cases H
          exact hf
  · replace H := giff q H
    obtain ⟨p15, e16, H⟩ := gbi H
    replace hf := gfr_tr hf (gfr_w (fT_numberAt_fr  e16) gss_nil gss_nil)
    obtain ⟨b17, H⟩ := ggi H
    have b17 := gin_in b17
    obtain ⟨h18, e19, H⟩ := glei H
    replace hf := gfr_e (gfr_a hf (gme 0 rfl)) e19
    by_cases q : (4 : Int32) < (v2 - v1)
    · replace H := gift q H
      cases H
      exact hf
    · replace H := giff q H
      cases H
      exact hf
theorem fT_split_76_fr  {h : gH} {x : gH} (H : fT_split_76   h = some x) : gfr [14, 12, 13] [(10, 7)] h x := by
  unfold fT_split_76 at H
  have hf := gfr_rf [14, 12, 13] [(10, 7)] h
  obtain ⟨h3, e4, H⟩ := gbi H
  replace hf := gfr_tr hf (gfr_w (fT_addToken_fr  e4) (gss_cons (gme 1 rfl) (gss_cons (gme 2 rfl) gss_nil)) (gss_cons (gme 0 rfl) gss_nil))
  cases H
  exact hf
theorem fT_split_9_fr  : ∀ (n : Nat) (v1 : Int32) (v2 : Int32) (h : gH) (x : gH), fT_split_9  n v1 v2 h = some x → gfr [14, 12, 13] [(10, 7)] h x := by
  intro n
  induction n with
  | zero => intro v1 v2 h x  H; exact g0 H
  | succ n ih =>
    intro v1 v2 h x  H
    unfold fT_split_9 at H
    have hf := gfr_rf [14, 12, 13] [(10, 7)] h
    by_cases q : v2 < (90 : Int32)
    · replace H := gift q H
      by_cases q : v1 < (h 10 6)
      · replace H := gift q H
        obtain ⟨b5, H⟩ := ggi H
        have b5 := gin_in b5
        by_cases q : (h 11 v1.toNatClampNeg) = (32 : Int32)
        · replace H := gift q H
          exact gfr_tr hf (ih _ _ _ _  H)
        · replace H := giff q H
          obtain ⟨b6, H⟩ := ggi H
          have b6 := gin_in b6
          by_cases q : (h 11 v1.toNatClampNeg) = (10 : Int32)
          · replace H := gift q H
            exact gfr_tr hf (ih _ _ _ _  H)
          · replace H := giff q H
            obtain ⟨p7, e8, H⟩ := gbi H
            replace hf := gfr_tr hf (gfr_w (fT_endOfToken_fr  e8) gss_nil gss_nil)
            obtain ⟨p9, e10, H⟩ := gbi H
            replace hf := gfr_tr hf (gfr_w (fT_kindOfToken_fr  e10) (gss_cons (gme 0 rfl) gss_nil) gss_nil)
            obtain ⟨h11, e12, H⟩ := gbi H
            replace hf := gfr_tr hf (gfr_w (fT_addToken_fr  e12) (gss_cons (gme 1 rfl) (gss_cons (gme 2 rfl) gss_nil)) (gss_cons (gme 0 rfl) gss_nil))
            exact gfr_tr hf (ih _ _ _ _  H)
      · replace H := giff q H
        exact gfr_tr hf (fT_split_76_fr  H)
    · replace H := giff q H
      exact gfr_tr hf (fT_split_76_fr  H)
theorem fT_split_fr {h : gH} {x : gH} (H : fT_split  h = some x) : gfr [14, 12, 13] [(10, 7)] h x := by
  unfold fT_split at H
  have hf := gfr_rf [14, 12, 13] [(10, 7)] h
  obtain ⟨h1, e2, H⟩ := glei H
  replace hf := gfr_e (gfr_f hf (gme 0 rfl)) e2
  exact gfr_tr hf (fT_split_9_fr  gfu _ _ _ _  H)
theorem fT_emit_fr {v1 : Int32} {h : gH} {x : gH} (H : fT_emit v1 h = some x) : gfr [15] [(10, 9)] h x := by
  unfold fT_emit at H
  have hf := gfr_rf [15] [(10, 9)] h
  by_cases q : (h 10 9) < (90 : Int32)
  · replace H := gift q H
    obtain ⟨b1, H⟩ := ggi H
    have b1 := gin_in b1
    obtain ⟨h2, e3, H⟩ := glei H
    replace hf := gfr_e (gfr_a hf (gme 0 rfl)) e3
    cases H
    exact (gfr_f hf (gme 0 rfl))
  · replace H := giff q H
    cases H
    exact hf
theorem fT_bracketed_fr {R : Nat → Int32 → gH → Option (Int32 × gH)} {v1 : Int32} (hR0f : ∀ a h x, R 0 a h = some x → gfr [15] [(10, 9), (10, 8), (10, 11)] h x.2) (hR1f : ∀ a h x, R 1 a h = some x → gfr [15] [(10, 9), (10, 8), (10, 11)] h x.2) (hR2f : ∀ a h x, R 2 a h = some x → gfr [15] [(10, 9), (10, 8), (10, 11)] h x.2) (hR3f : ∀ a h x, R 3 a h = some x → gfr [15] [(10, 9), (10, 8), (10, 11)] h x.2) {h : gH} {x : (Int32 × gH)} (H : fT_bracketed R v1 h = some x) : gfr [15] [(10, 9), (10, 8), (10, 11)] h x.2 := by
  unfold fT_bracketed at H
  have hf := gfr_rf [15] [(10, 9), (10, 8), (10, 11)] h
  obtain ⟨h1, e2, H⟩ := gbi H
  replace hf := gfr_tr hf (gfr_w (fT_pass_fr  e2) gss_nil (gss_cons (gme 1 rfl) gss_nil))
  obtain ⟨p3, e4, H⟩ := gbi H
  replace hf := gfr_tr hf (hR2f _ _ _ e4)
  by_cases q : p3.1 = (0 : Int32)
  · replace H := gift q H
    cases H
    exact hf
  · replace H := giff q H
    obtain ⟨p5, e6, H⟩ := gbi H
    replace hf := gfr_tr hf (gfr_w (fT_token_fr  e6) gss_nil gss_nil)
    by_cases q : p5.1 = (41 : Int32)
    · replace H := gift q H
      obtain ⟨h7, e8, H⟩ := gbi H
      replace hf := gfr_tr hf (gfr_w (fT_pass_fr  e8) gss_nil (gss_cons (gme 1 rfl) gss_nil))
      cases H
      exact hf
    · replace H := giff q H
      cases H
      exact hf
theorem fT_named_fr {h : gH} {x : (Int32 × gH)} (H : fT_named  h = some x) : gfr [15] [(10, 11), (10, 9), (10, 8)] h x.2 := by
  unfold fT_named at H
  have hf := gfr_rf [15] [(10, 11), (10, 9), (10, 8)] h
  obtain ⟨b1, H⟩ := ggi H
  have b1 := gin_in b1
  obtain ⟨p2, e3, H⟩ := gbi H
  replace hf := gfr_tr hf (gfr_w (fJ_bitCount_fr  e3) gss_nil gss_nil)
  by_cases q : (3 : Int32) < p2.1
  · replace H := gift q H
    cases H
    exact hf
  · replace H := giff q H
    obtain ⟨h4, e5, H⟩ := glei H
    replace hf := gfr_e (gfr_f hf (gme 0 rfl)) e5
    obtain ⟨b6, H⟩ := ggi H
    have b6 := gin_in b6
    obtain ⟨h7, e8, H⟩ := gbi H
    replace hf := gfr_tr hf (gfr_w (fT_emit_fr  e8) (gss_cons (gme 0 rfl) gss_nil) (gss_cons (gme 1 rfl) gss_nil))
    obtain ⟨h9, e10, H⟩ := gbi H
    replace hf := gfr_tr hf (gfr_w (fT_pass_fr  e10) gss_nil (gss_cons (gme 2 rfl) gss_nil))
    cases H
    exact hf
theorem fT_one_fr {R : Nat → Int32 → gH → Option (Int32 × gH)} {v1 : Int32} (hR0f : ∀ a h x, R 0 a h = some x → gfr [15] [(10, 9), (10, 8), (10, 11)] h x.2) (hR1f : ∀ a h x, R 1 a h = some x → gfr [15] [(10, 9), (10, 8), (10, 11)] h x.2) (hR2f : ∀ a h x, R 2 a h = some x → gfr [15] [(10, 9), (10, 8), (10, 11)] h x.2) (hR3f : ∀ a h x, R 3 a h = some x → gfr [15] [(10, 9), (10, 8), (10, 11)] h x.2) {h : gH} {x : (Int32 × gH)} (H : fT_one R v1 h = some x) : gfr [15] [(10, 9), (10, 8), (10, 11)] h x.2 := by
  unfold fT_one at H
  have hf := gfr_rf [15] [(10, 9), (10, 8), (10, 11)] h
  obtain ⟨p1, e2, H⟩ := gbi H
  replace hf := gfr_tr hf (gfr_w (fT_token_fr  e2) gss_nil gss_nil)
  by_cases q : p1.1 = (1 : Int32)
  · replace H := gift q H
    obtain ⟨b21, H⟩ := ggi H
    have b21 := gin_in b21
    obtain ⟨h22, e23, H⟩ := gbi H
    replace hf := gfr_tr hf (gfr_w (fT_emit_fr  e23) (gss_cons (gme 0 rfl) gss_nil) (gss_cons (gme 0 rfl) gss_nil))
    obtain ⟨h24, e25, H⟩ := gbi H
    replace hf := gfr_tr hf (gfr_w (fT_pass_fr  e25) gss_nil (gss_cons (gme 1 rfl) gss_nil))
    cases H
    exact hf
  · replace H := giff q H
    obtain ⟨p3, e4, H⟩ := gbi H
    replace hf := gfr_tr hf (gfr_w (fT_token_fr  e4) gss_nil gss_nil)
    by_cases q : p3.1 = (2 : Int32)
    · replace H := gift q H
      obtain ⟨p18, e19, H⟩ := gbi H
      replace hf := gfr_tr hf (gfr_w (fT_named_fr  e19) (gss_cons (gme 0 rfl) gss_nil) (gss_cons (gme 2 rfl) (gss_cons (gme 0 rfl) (gss_cons (gme 1 rfl) gss_nil))))
      obtain ⟨b20, H⟩ := ggi H
      have b20 := gbo_or b20
      cases H
      exact hf
    · replace H := giff q H
      by_cases q : v1 < (5 : Int32)
      · replace H := gift q H
        obtain ⟨p5, e6, H⟩ := gbi H
        replace hf := gfr_tr hf (gfr_w (fT_token_fr  e6) gss_nil gss_nil)
        by_cases q : p5.1 = (45 : Int32)
        · replace H := gift q H
          obtain ⟨h11, e12, H⟩ := gbi H
          replace hf := gfr_tr hf (gfr_w (fT_pass_fr  e12) gss_nil (gss_cons (gme 1 rfl) gss_nil))
          obtain ⟨p13, e14, H⟩ := gbi H
          replace hf := gfr_tr hf (hR0f _ _ _ e14)
          obtain ⟨h15, e16, H⟩ := gbi H
          replace hf := gfr_tr hf (gfr_w (fT_emit_fr  e16) (gss_cons (gme 0 rfl) gss_nil) (gss_cons (gme 0 rfl) gss_nil))
          obtain ⟨b17, H⟩ := ggi H
          have b17 := gbo_or b17
          cases H
          exact hf
        · replace H := giff q H
          obtain ⟨p7, e8, H⟩ := gbi H
          replace hf := gfr_tr hf (gfr_w (fT_token_fr  e8) gss_nil gss_nil)
          by_cases q : p7.1 = (40 : Int32)
          · replace H := gift q H
            obtain ⟨p9, e10, H⟩ := gbi H
            replace hf := gfr_tr hf (hR1f _ _ _ e10)
            by_cases q : p9.1 = (0 : Int32)
            · replace H := gift q H
              cases H
              exact hf
            · replace H := giff q H
              cases H
              exact hf
          · replace H := giff q H
            cases H
            exact hf
      · replace H := giff q H
        cases H
        exact hf
theorem fT_term_12_fr {R : Nat → Int32 → gH → Option (Int32 × gH)} {v1 : Int32} (hR0f : ∀ a h x, R 0 a h = some x → gfr [15] [(10, 9), (10, 8), (10, 11)] h x.2) (hR1f : ∀ a h x, R 1 a h = some x → gfr [15] [(10, 9), (10, 8), (10, 11)] h x.2) (hR2f : ∀ a h x, R 2 a h = some x → gfr [15] [(10, 9), (10, 8), (10, 11)] h x.2) (hR3f : ∀ a h x, R 3 a h = some x → gfr [15] [(10, 9), (10, 8), (10, 11)] h x.2)  : ∀ (n : Nat) (v2 : Int32) (h : gH) (x : (Int32 × gH)), fT_term_12 R v1 n v2 h = some x → gfr [15] [(10, 9), (10, 8), (10, 11)] h x.2 := by
  intro n
  induction n with
  | zero => intro v2 h x  H; exact g0 H
  | succ n ih =>
    intro v2 h x  H
    unfold fT_term_12 at H
    have hf := gfr_rf [15] [(10, 9), (10, 8), (10, 11)] h
    by_cases q : v2 < (90 : Int32)
    · replace H := gift q H
      obtain ⟨p3, e4, H⟩ := gbi H
      replace hf := gfr_tr hf (gfr_w (fT_token_fr  e4) gss_nil gss_nil)
      by_cases q : p3.1 = (42 : Int32)
      · replace H := gift q H
        obtain ⟨h5, e6, H⟩ := gbi H
        replace hf := gfr_tr hf (gfr_w (fT_pass_fr  e6) gss_nil (gss_cons (gme 1 rfl) gss_nil))
        obtain ⟨p7, e8, H⟩ := gbi H
        replace hf := gfr_tr hf (hR0f _ _ _ e8)
        by_cases q : p7.1 = (0 : Int32)
        · replace H := gift q H
          cases H
          exact hf
        · replace H := giff q H
          obtain ⟨h9, e10, H⟩ := gbi H
          replace hf := gfr_tr hf (gfr_w (fT_emit_fr  e10) (gss_cons (gme 0 rfl) gss_nil) (gss_cons (gme 0 rfl) gss_nil))
          exact gfr_tr hf (ih _ _ _  H)
      · replace H := giff q H
        cases H
        exact hf
    · replace H := giff q H
      cases H
      exact hf
theorem fT_term_fr {R : Nat → Int32 → gH → Option (Int32 × gH)} {v1 : Int32} (hR0f : ∀ a h x, R 0 a h = some x → gfr [15] [(10, 9), (10, 8), (10, 11)] h x.2) (hR1f : ∀ a h x, R 1 a h = some x → gfr [15] [(10, 9), (10, 8), (10, 11)] h x.2) (hR2f : ∀ a h x, R 2 a h = some x → gfr [15] [(10, 9), (10, 8), (10, 11)] h x.2) (hR3f : ∀ a h x, R 3 a h = some x → gfr [15] [(10, 9), (10, 8), (10, 11)] h x.2) {h : gH} {x : (Int32 × gH)} (H : fT_term R v1 h = some x) : gfr [15] [(10, 9), (10, 8), (10, 11)] h x.2 := by
  unfold fT_term at H
  have hf := gfr_rf [15] [(10, 9), (10, 8), (10, 11)] h
  obtain ⟨p1, e2, H⟩ := gbi H
  replace hf := gfr_tr hf (hR0f _ _ _ e2)
  by_cases q : p1.1 = (0 : Int32)
  · replace H := gift q H
    cases H
    exact hf
  · replace H := giff q H
    exact gfr_tr hf (fT_term_12_fr hR0f hR1f hR2f hR3f  gfu _ _ _  H)
theorem fT_sum_36_fr {R : Nat → Int32 → gH → Option (Int32 × gH)} {k12 : Int32 → gH → Option (Int32 × gH)} {v1 : Int32} {v2 : Int32} (hR0f : ∀ a h x, R 0 a h = some x → gfr [15] [(10, 9), (10, 8), (10, 11)] h x.2) (hR1f : ∀ a h x, R 1 a h = some x → gfr [15] [(10, 9), (10, 8), (10, 11)] h x.2) (hR2f : ∀ a h x, R 2 a h = some x → gfr [15] [(10, 9), (10, 8), (10, 11)] h x.2) (hR3f : ∀ a h x, R 3 a h = some x → gfr [15] [(10, 9), (10, 8), (10, 11)] h x.2) (hk12f : ∀ (u2 : Int32) (h : gH) (x : (Int32 × gH)), k12 u2 h = some x → gfr [15] [(10, 9), (10, 8), (10, 11)] h x.2) {h : gH} {x : (Int32 × gH)} (H : fT_sum_36 R k12 v1 v2  h = some x) : gfr [15] [(10, 9), (10, 8), (10, 11)] h x.2 := by
  unfold fT_sum_36 at H
  have hf := gfr_rf [15] [(10, 9), (10, 8), (10, 11)] h
  obtain ⟨p5, e6, H⟩ := gbi H
  replace hf := gfr_tr hf (gfr_w (fT_token_fr  e6) gss_nil gss_nil)
  obtain ⟨h7, e8, H⟩ := gbi H
  replace hf := gfr_tr hf (gfr_w (fT_pass_fr  e8) gss_nil (gss_cons (gme 1 rfl) gss_nil))
  obtain ⟨p9, e10, H⟩ := gbi H
  replace hf := gfr_tr hf (hR3f _ _ _ e10)
  by_cases q : p9.1 = (0 : Int32)
  · replace H := gift q H
    cases H
    exact hf
  · replace H := giff q H
    obtain ⟨h11, e12, H⟩ := gbi H
    replace hf := gfr_tr hf (gfr_w (fT_emit_fr  e12) (gss_cons (gme 0 rfl) gss_nil) (gss_cons (gme 0 rfl) gss_nil))
    exact gfr_tr hf (hk12f _ _ _  H)
theorem fT_sum_12_fr {R : Nat → Int32 → gH → Option (Int32 × gH)} {v1 : Int32} (hR0f : ∀ a h x, R 0 a h = some x → gfr [15] [(10, 9), (10, 8), (10, 11)] h x.2) (hR1f : ∀ a h x, R 1 a h = some x → gfr [15] [(10, 9), (10, 8), (10, 11)] h x.2) (hR2f : ∀ a h x, R 2 a h = some x → gfr [15] [(10, 9), (10, 8), (10, 11)] h x.2) (hR3f : ∀ a h x, R 3 a h = some x → gfr [15] [(10, 9), (10, 8), (10, 11)] h x.2)  : ∀ (n : Nat) (v2 : Int32) (h : gH) (x : (Int32 × gH)), fT_sum_12 R v1 n v2 h = some x → gfr [15] [(10, 9), (10, 8), (10, 11)] h x.2 := by
  intro n
  induction n with
  | zero => intro v2 h x  H; exact g0 H
  | succ n ih =>
    intro v2 h x  H
    unfold fT_sum_12 at H
    have hf := gfr_rf [15] [(10, 9), (10, 8), (10, 11)] h
    by_cases q : v2 < (90 : Int32)
    · replace H := gift q H
      obtain ⟨p3, e4, H⟩ := gbi H
      replace hf := gfr_tr hf (gfr_w (fT_token_fr  e4) gss_nil gss_nil)
      by_cases q : p3.1 = (43 : Int32)
      · replace H := gift q H
        exact gfr_tr hf (fT_sum_36_fr hR0f hR1f hR2f hR3f ih  H)
      · replace H := giff q H
        obtain ⟨p13, e14, H⟩ := gbi H
        replace hf := gfr_tr hf (gfr_w (fT_token_fr  e14) gss_nil gss_nil)
        by_cases q : p13.1 = (45 : Int32)
        · replace H := gift q H
          exact gfr_tr hf (fT_sum_36_fr hR0f hR1f hR2f hR3f ih  H)
        · replace H := giff q H
          cases H
          exact hf
    · replace H := giff q H
      cases H
      exact hf
theorem fT_sum_fr {R : Nat → Int32 → gH → Option (Int32 × gH)} {v1 : Int32} (hR0f : ∀ a h x, R 0 a h = some x → gfr [15] [(10, 9), (10, 8), (10, 11)] h x.2) (hR1f : ∀ a h x, R 1 a h = some x → gfr [15] [(10, 9), (10, 8), (10, 11)] h x.2) (hR2f : ∀ a h x, R 2 a h = some x → gfr [15] [(10, 9), (10, 8), (10, 11)] h x.2) (hR3f : ∀ a h x, R 3 a h = some x → gfr [15] [(10, 9), (10, 8), (10, 11)] h x.2) {h : gH} {x : (Int32 × gH)} (H : fT_sum R v1 h = some x) : gfr [15] [(10, 9), (10, 8), (10, 11)] h x.2 := by
  unfold fT_sum at H
  have hf := gfr_rf [15] [(10, 9), (10, 8), (10, 11)] h
  obtain ⟨p1, e2, H⟩ := gbi H
  replace hf := gfr_tr hf (hR3f _ _ _ e2)
  by_cases q : p1.1 = (0 : Int32)
  · replace H := gift q H
    cases H
    exact hf
  · replace H := giff q H
    exact gfr_tr hf (fT_sum_12_fr hR0f hR1f hR2f hR3f  gfu _ _ _  H)
theorem gTG_fra : ∀ n : Nat, (∀ (a : Int32) (h : gH) (x : Int32 × gH), gTG n 0 a h = some x → gfr [15] [(10, 9), (10, 8), (10, 11)] h x.2) ∧ (∀ (a : Int32) (h : gH) (x : Int32 × gH), gTG n 1 a h = some x → gfr [15] [(10, 9), (10, 8), (10, 11)] h x.2) ∧ (∀ (a : Int32) (h : gH) (x : Int32 × gH), gTG n 2 a h = some x → gfr [15] [(10, 9), (10, 8), (10, 11)] h x.2) ∧ (∀ (a : Int32) (h : gH) (x : Int32 × gH), gTG n 3 a h = some x → gfr [15] [(10, 9), (10, 8), (10, 11)] h x.2) := by
  intro n
  induction n with
  | zero => exact ⟨fun a h x H => g0 H, fun a h x H => g0 H, fun a h x H => g0 H, fun a h x H => g0 H⟩
  | succ n ih =>
    exact ⟨fun a h x H => fT_one_fr ih.1 ih.2.1 ih.2.2.1 ih.2.2.2 H,
      fun a h x H => fT_bracketed_fr ih.1 ih.2.1 ih.2.2.1 ih.2.2.2 H,
      fun a h x H => fT_sum_fr ih.1 ih.2.1 ih.2.2.1 ih.2.2.2 H,
      fun a h x H => fT_term_fr ih.1 ih.2.1 ih.2.2.1 ih.2.2.2 H⟩
theorem gTG_fr_0 (n : Nat) : ∀ (a : Int32) (h : gH) (x : Int32 × gH), gTG n 0 a h = some x → gfr [15] [(10, 9), (10, 8), (10, 11)] h x.2 := (gTG_fra n).1
theorem gTG_fr_1 (n : Nat) : ∀ (a : Int32) (h : gH) (x : Int32 × gH), gTG n 1 a h = some x → gfr [15] [(10, 9), (10, 8), (10, 11)] h x.2 := (gTG_fra n).2.1
theorem gTG_fr_2 (n : Nat) : ∀ (a : Int32) (h : gH) (x : Int32 × gH), gTG n 2 a h = some x → gfr [15] [(10, 9), (10, 8), (10, 11)] h x.2 := (gTG_fra n).2.2.1
theorem gTG_fr_3 (n : Nat) : ∀ (a : Int32) (h : gH) (x : Int32 × gH), gTG n 3 a h = some x → gfr [15] [(10, 9), (10, 8), (10, 11)] h x.2 := (gTG_fra n).2.2.2
theorem fT_tested_121_fr  {h : gH} {x : (Int32 × gH)} (H : fT_tested_121   h = some x) : gfr [15] [(10, 10), (10, 12), (10, 11), (10, 8), (10, 9), (10, 13)] h x.2 := by
  unfold fT_tested_121 at H
  have hf := gfr_rf [15] [(10, 10), (10, 12), (10, 11), (10, 8), (10, 9), (10, 13)] h
  obtain ⟨h11, e12, H⟩ := gbi H
  replace hf := gfr_tr hf (gfr_w (fT_pass_fr  e12) gss_nil (gss_cons (gme 3 rfl) gss_nil))
  obtain ⟨p13, e14, H⟩ := gbi H
  replace hf := gfr_tr hf (gfr_w (gTG_fr_2 40 _ _ _ e14) (gss_cons (gme 0 rfl) gss_nil) (gss_cons (gme 4 rfl) (gss_cons (gme 3 rfl) (gss_cons (gme 2 rfl) gss_nil))))
  obtain ⟨b15, H⟩ := ggi H
  have b15 := gbo_or b15
  cases H
  exact hf
theorem fT_tested_65_fr  {h : gH} {x : (Int32 × gH)} (H : fT_tested_65   h = some x) : gfr [15] [(10, 10), (10, 12), (10, 11), (10, 8), (10, 9), (10, 13)] h x.2 := by
  unfold fT_tested_65 at H
  have hf := gfr_rf [15] [(10, 10), (10, 12), (10, 11), (10, 8), (10, 9), (10, 13)] h
  obtain ⟨p5, e6, H⟩ := gbi H
  replace hf := gfr_tr hf (gfr_w (gTG_fr_2 40 _ _ _ e6) (gss_cons (gme 0 rfl) gss_nil) (gss_cons (gme 4 rfl) (gss_cons (gme 3 rfl) (gss_cons (gme 2 rfl) gss_nil))))
  by_cases q : p5.1 = (0 : Int32)
  · replace H := gift q H
    cases H
    exact hf
  · replace H := giff q H
    obtain ⟨p7, e8, H⟩ := gbi H
    replace hf := gfr_tr hf (gfr_w (fT_token_fr  e8) gss_nil gss_nil)
    obtain ⟨h9, e10, H⟩ := glei H
    replace hf := gfr_e (gfr_f hf (gme 5 rfl)) e10
    by_cases q : (h9 10 13) = (60 : Int32)
    · replace H := gift q H
      exact gfr_tr hf (fT_tested_121_fr  H)
    · replace H := giff q H
      by_cases q : (h9 10 13) = (61 : Int32)
      · replace H := gift q H
        exact gfr_tr hf (fT_tested_121_fr  H)
      · replace H := giff q H
        by_cases q : (h9 10 13) = (62 : Int32)
        · replace H := gift q H
          exact gfr_tr hf (fT_tested_121_fr  H)
        · replace H := giff q H
          by_cases q : (h9 10 13) = (33 : Int32)
          · replace H := gift q H
            exact gfr_tr hf (fT_tested_121_fr  H)
          · replace H := giff q H
            cases H
            exact hf
theorem fT_tested_fr {h : gH} {x : (Int32 × gH)} (H : fT_tested  h = some x) : gfr [15] [(10, 10), (10, 12), (10, 11), (10, 8), (10, 9), (10, 13)] h x.2 := by
  unfold fT_tested at H
  have hf := gfr_rf [15] [(10, 10), (10, 12), (10, 11), (10, 8), (10, 9), (10, 13)] h
  obtain ⟨h1, e2, H⟩ := glei H
  replace hf := gfr_e (gfr_f hf (gme 0 rfl)) e2
  obtain ⟨p3, e4, H⟩ := gbi H
  replace hf := gfr_tr hf (gfr_w (fT_token_fr  e4) gss_nil gss_nil)
  by_cases q : p3.1 = (2 : Int32)
  · replace H := gift q H
    obtain ⟨b16, H⟩ := ggi H
    have b16 := gin_in b16
    by_cases q : (p3.2 12 ((p3.2 10 8) + (1 : Int32)).toNatClampNeg) = (58 : Int32)
    · replace H := gift q H
      obtain ⟨h17, e18, H⟩ := glei H
      replace hf := gfr_e (gfr_f hf (gme 0 rfl)) e18
      obtain ⟨b19, H⟩ := ggi H
      have b19 := gin_in b19
      obtain ⟨h20, e21, H⟩ := glei H
      replace hf := gfr_e (gfr_f hf (gme 1 rfl)) e21
      obtain ⟨h22, e23, H⟩ := glei H
      replace hf := gfr_e (gfr_f hf (gme 2 rfl)) e23
      obtain ⟨h24, e25, H⟩ := gbi H
      replace hf := gfr_tr hf (gfr_w (fT_pass_fr  e25) gss_nil (gss_cons (gme 3 rfl) gss_nil))
      obtain ⟨h26, e27, H⟩ := gbi H
      replace hf := gfr_tr hf (gfr_w (fT_pass_fr  e27) gss_nil (gss_cons (gme 3 rfl) gss_nil))
      exact gfr_tr hf (fT_tested_65_fr  H)
    · replace H := giff q H
      exact gfr_tr hf (fT_tested_65_fr  H)
  · replace H := giff q H
    exact gfr_tr hf (fT_tested_65_fr  H)
theorem fT_read_54_fr  {h : gH} {x : (Int32 × gH)} (H : fT_read_54   h = some x) : gfr [14, 12, 13, 15] [(10, 7), (10, 8), (10, 9), (10, 11), (10, 10), (10, 12), (10, 13)] h x.2 := by
  unfold fT_read_54 at H
  have hf := gfr_rf [14, 12, 13, 15] [(10, 7), (10, 8), (10, 9), (10, 11), (10, 10), (10, 12), (10, 13)] h
  obtain ⟨b13, H⟩ := ggi H
  have b13 := gin_in b13
  cases H
  exact hf
theorem fT_read_38_fr {s0 : Int32}  {h : gH} {x : (Int32 × gH)} (H : fT_read_38  s0 h = some x) : gfr [14, 12, 13, 15] [(10, 7), (10, 8), (10, 9), (10, 11), (10, 10), (10, 12), (10, 13)] h x.2 := by
  unfold fT_read_38 at H
  have hf := gfr_rf [14, 12, 13, 15] [(10, 7), (10, 8), (10, 9), (10, 11), (10, 10), (10, 12), (10, 13)] h
  by_cases q : s0 = (0 : Int32)
  · replace H := gift q H
    exact gfr_tr hf (fT_read_54_fr  H)
  · replace H := giff q H
    obtain ⟨p14, e15, H⟩ := gbi H
    replace hf := gfr_tr hf (gfr_w (fT_token_fr  e15) gss_nil gss_nil)
    by_cases q : p14.1 = (0 : Int32)
    · replace H := gift q H
      cases H
      exact hf
    · replace H := giff q H
      exact gfr_tr hf (fT_read_54_fr  H)
theorem fT_read_fr {h : gH} {x : (Int32 × gH)} (H : fT_read  h = some x) : gfr [14, 12, 13, 15] [(10, 7), (10, 8), (10, 9), (10, 11), (10, 10), (10, 12), (10, 13)] h x.2 := by
  unfold fT_read at H
  have hf := gfr_rf [14, 12, 13, 15] [(10, 7), (10, 8), (10, 9), (10, 11), (10, 10), (10, 12), (10, 13)] h
  obtain ⟨h1, e2, H⟩ := gbi H
  replace hf := gfr_tr hf (gfr_w (fT_split_fr  e2) (gss_cons (gme 0 rfl) (gss_cons (gme 1 rfl) (gss_cons (gme 2 rfl) gss_nil))) (gss_cons (gme 0 rfl) gss_nil))
  obtain ⟨h3, e4, H⟩ := glei H
  replace hf := gfr_e (gfr_f hf (gme 1 rfl)) e4
  obtain ⟨h5, e6, H⟩ := glei H
  replace hf := gfr_e (gfr_f hf (gme 2 rfl)) e6
  obtain ⟨h7, e8, H⟩ := glei H
  replace hf := gfr_e (gfr_f hf (gme 3 rfl)) e8
  obtain ⟨p9, e10, H⟩ := gbi H
  replace hf := gfr_tr hf (gfr_w (fT_token_fr  e10) gss_nil gss_nil)
  by_cases q : p9.1 = (3 : Int32)
  · replace H := gift q H
    obtain ⟨p16, e17, H⟩ := gbi H
    replace hf := gfr_tr hf (gfr_w (fT_distinct_fr  e17) gss_nil (gss_cons (gme 4 rfl) (gss_cons (gme 1 rfl) (gss_cons (gme 3 rfl) gss_nil))))
    exact gfr_tr hf (fT_read_38_fr  H)
  · replace H := giff q H
    obtain ⟨p11, e12, H⟩ := gbi H
    replace hf := gfr_tr hf (gfr_w (fT_tested_fr  e12) (gss_cons (gme 3 rfl) gss_nil) (gss_cons (gme 4 rfl) (gss_cons (gme 5 rfl) (gss_cons (gme 3 rfl) (gss_cons (gme 1 rfl) (gss_cons (gme 2 rfl) (gss_cons (gme 6 rfl) gss_nil)))))))
    exact gfr_tr hf (fT_read_38_fr  H)
theorem fT_areUnlike_4_fr  : ∀ (n : Nat) (v2 : Int32) (v3 : Int32) (h : gH) (x : (Int32 × gH)), fT_areUnlike_4  n v2 v3 h = some x → gfr [] [] h x.2 := by
  intro n
  induction n with
  | zero => intro v2 v3 h x  H; exact g0 H
  | succ n ih =>
    intro v2 v3 h x  H
    unfold fT_areUnlike_4 at H
    have hf := gfr_rf [] [] h
    by_cases q : v3 < (8 : Int32)
    · replace H := gift q H
      by_cases q : (((h 10 11) >>> (v3 &&& 31)) &&& (1 : Int32)) = (0 : Int32)
      · replace H := gift q H
        exact gfr_tr hf (ih _ _ _ _  H)
      · replace H := giff q H
        obtain ⟨b1, H⟩ := ggi H
        have b1 := gin_in b1
        by_cases q : ((v2 >>> ((h 9 v3.toNatClampNeg) &&& 31)) &&& (1 : Int32)) = (1 : Int32)
        · replace H := gift q H
          cases H
          exact hf
        · replace H := giff q H
          obtain ⟨b2, H⟩ := ggi H
          have b2 := gin_in b2
          exact gfr_tr hf (ih _ _ _ _  H)
    · replace H := giff q H
      cases H
      exact hf
theorem fT_areUnlike_fr {h : gH} {x : (Int32 × gH)} (H : fT_areUnlike  h = some x) : gfr [] [] h x.2 := by
  unfold fT_areUnlike at H
  have hf := gfr_rf [] [] h
  exact gfr_tr hf (fT_areUnlike_4_fr  gfu _ _ _ _  H)
theorem fT_isSo_fr {v1 : Int32} {v2 : Int32} {h : gH} {x : (Int32 × gH)} (H : fT_isSo v1 v2 h = some x) : gfr [] [] h x.2 := by
  unfold fT_isSo at H
  have hf := gfr_rf [] [] h
  by_cases q0 : (h 10 13) = (60 : Int32)
  · replace H := gift q0 H
    by_cases q : v1 < v2
    · replace H := gift q H
      cases H
      exact hf
    · replace H := giff q H
      cases H
      exact hf
  replace H := giff q0 H
  by_cases q1 : (h 10 13) = (61 : Int32)
  · replace H := gift q1 H
    by_cases q : v1 = v2
    · replace H := gift q H
      cases H
      exact hf
    · replace H := giff q H
      cases H
      exact hf
  replace H := giff q1 H
  by_cases q2 : (h 10 13) = (62 : Int32)
  · replace H := gift q2 H
    by_cases q : v2 < v1
    · replace H := gift q H
      cases H
      exact hf
    · replace H := giff q H
      cases H
      exact hf
  replace H := giff q2 H
  by_cases q : v1 = v2
  · replace H := gift q H
    cases H
    exact hf
  · replace H := giff q H
    cases H
    exact hf
theorem fT_joined_fr {v0 : Int32} {v1 : Int32} {v2 : Int32} {h : gH} {x : (Int32 × gH)} (H : fT_joined v0 v1 v2 h = some x) : gfr [] [] h x.2 := by
  unfold fT_joined at H
  have hf := gfr_rf [] [] h
  by_cases q0 : v0 = (43 : Int32)
  · replace H := gift q0 H
    cases H
    exact hf
  replace H := giff q0 H
  by_cases q1 : v0 = (45 : Int32)
  · replace H := gift q1 H
    cases H
    exact hf
  replace H := giff q1 H
  cases H
  exact hf
theorem fT_testHolds_102_fr {k4 : Int32 → Int32 → gH → Option (Int32 × gH)} {v2 : Int32} {v3 : Int32} {v4 : Int32} (hk4f : ∀ (u2 : Int32) (u3 : Int32) (h : gH) (x : (Int32 × gH)), k4 u2 u3 h = some x → gfr [16] [] h x.2) {h : gH} {x : (Int32 × gH)} (H : fT_testHolds_102 k4 v2 v3 v4  h = some x) : gfr [16] [] h x.2 := by
  unfold fT_testHolds_102 at H
  have hf := gfr_rf [16] [] h
  by_cases q : (10008 : Int32) < v4
  · replace H := gift q H
    by_cases q : (1 : Int32) < v2
    · replace H := gift q H
      obtain ⟨b4, H⟩ := ggi H
      have b4 := gin_in b4
      obtain ⟨b5, H⟩ := ggi H
      have b5 := gin_in b5
      obtain ⟨p6, e7, H⟩ := gbi H
      replace hf := gfr_tr hf (gfr_w (fT_joined_fr  e7) gss_nil gss_nil)
      obtain ⟨b8, H⟩ := ggi H
      have b8 := gin_in b8
      obtain ⟨h9, e10, H⟩ := glei H
      replace hf := gfr_e (gfr_a hf (gme 0 rfl)) e10
      exact gfr_tr hf (hk4f _ _ _ _  H)
    · replace H := giff q H
      exact gfr_tr hf (hk4f _ _ _ _  H)
  · replace H := giff q H
    exact gfr_tr hf (hk4f _ _ _ _  H)
theorem fT_testHolds_70_fr {k4 : Int32 → Int32 → gH → Option (Int32 × gH)} {v2 : Int32} {v3 : Int32} {v4 : Int32} (hk4f : ∀ (u2 : Int32) (u3 : Int32) (h : gH) (x : (Int32 × gH)), k4 u2 u3 h = some x → gfr [16] [] h x.2) {h : gH} {x : (Int32 × gH)} (H : fT_testHolds_70 k4 v2 v3 v4  h = some x) : gfr [16] [] h x.2 := by
  unfold fT_testHolds_70 at H
  have hf := gfr_rf [16] [] h
  by_cases q : v4 = (10008 : Int32)
  · replace H := gift q H
    by_cases q : (0 : Int32) < v2
    · replace H := gift q H
      obtain ⟨b11, H⟩ := ggi H
      have b11 := gin_in b11
      obtain ⟨b12, H⟩ := ggi H
      have b12 := gin_in b12
      exact gfr_tr (gfr_a hf (gme 0 rfl)) (hk4f _ _ _ _  H)
    · replace H := giff q H
      exact gfr_tr hf (fT_testHolds_102_fr hk4f  H)
  · replace H := giff q H
    exact gfr_tr hf (fT_testHolds_102_fr hk4f  H)
theorem fT_testHolds_63_fr {k4 : Int32 → Int32 → gH → Option (Int32 × gH)} {v2 : Int32} {v3 : Int32} {s1 : Int32} {s2 : Int32} (hk4f : ∀ (u2 : Int32) (u3 : Int32) (h : gH) (x : (Int32 × gH)), k4 u2 u3 h = some x → gfr [16] [] h x.2) {h : gH} {x : (Int32 × gH)} (H : fT_testHolds_63 k4 v2 v3 s1 s2 h = some x) : gfr [16] [] h x.2 := by
  unfold fT_testHolds_63 at H
  have hf := gfr_rf [16] [] h
  obtain ⟨b14, H⟩ := ggi H
  have b14 := gin_in b14
  obtain ⟨h15, e16, H⟩ := glei H
  replace hf := gfr_e (gfr_a hf (gme 0 rfl)) e16
  exact gfr_tr hf (hk4f _ _ _ _  H)
theorem fT_testHolds_4_fr  : ∀ (n : Nat) (v2 : Int32) (v3 : Int32) (h : gH) (x : (Int32 × gH)), fT_testHolds_4  n v2 v3 h = some x → gfr [16] [] h x.2 := by
  intro n
  induction n with
  | zero => intro v2 v3 h x  H; exact g0 H
  | succ n ih =>
    intro v2 v3 h x  H
    unfold fT_testHolds_4 at H
    have hf := gfr_rf [16] [] h
    by_cases q : v3 < (h 10 9)
    · replace H := gift q H
      obtain ⟨b3, H⟩ := ggi H
      have b3 := gin_in b3
      by_cases q : (h 15 v3.toNatClampNeg) < (10008 : Int32)
      · replace H := gift q H
        by_cases q : v2 < (90 : Int32)
        · replace H := gift q H
          by_cases q : (h 15 v3.toNatClampNeg) < (10000 : Int32)
          · replace H := gift q H
            exact gfr_tr hf (fT_testHolds_63_fr ih  H)
          · replace H := giff q H
            obtain ⟨b13, H⟩ := ggi H
            have b13 := gin_in b13
            exact gfr_tr hf (fT_testHolds_63_fr ih  H)
        · replace H := giff q H
          exact gfr_tr hf (fT_testHolds_70_fr ih  H)
      · replace H := giff q H
        exact gfr_tr hf (fT_testHolds_70_fr ih  H)
    · replace H := giff q H
      by_cases q : v2 = (2 : Int32)
      · replace H := gift q H
        obtain ⟨p1, e2, H⟩ := gbi H
        replace hf := gfr_tr hf (gfr_w (fT_isSo_fr  e2) gss_nil gss_nil)
        by_cases q : p1.1 = (0 : Int32)
        · replace H := gift q H
          cases H
          exact hf
        · replace H := giff q H
          cases H
          exact hf
      · replace H := giff q H
        cases H
        exact hf
theorem fT_testHolds_fr {h : gH} {x : (Int32 × gH)} (H : fT_testHolds  h = some x) : gfr [16] [] h x.2 := by
  unfold fT_testHolds at H
  have hf := gfr_rf [16] [] h
  exact gfr_tr hf (fT_testHolds_4_fr  gfu _ _ _ _  H)
theorem fT_holdsFor_44_fr {s0 : Int32} {s1 : Int32}  {h : gH} {x : (Int32 × gH)} (H : fT_holdsFor_44  s0 s1 h = some x) : gfr [16] [] h x.2 := by
  unfold fT_holdsFor_44 at H
  have hf := gfr_rf [16] [] h
  by_cases q : s0 = s1
  · replace H := gift q H
    cases H
    exact hf
  · replace H := giff q H
    cases H
    exact hf
theorem fT_holdsFor_fr {h : gH} {x : (Int32 × gH)} (H : fT_holdsFor  h = some x) : gfr [16] [] h x.2 := by
  unfold fT_holdsFor at H
  have hf := gfr_rf [16] [] h
  by_cases q : (h 10 10) = (2 : Int32)
  · replace H := gift q H
    obtain ⟨p5, e6, H⟩ := gbi H
    replace hf := gfr_tr hf (gfr_w (fT_areUnlike_fr  e6) gss_nil gss_nil)
    obtain ⟨b7, H⟩ := ggi H
    have b7 := gbo_or b7
    cases H
    exact hf
  · replace H := giff q H
    obtain ⟨p1, e2, H⟩ := gbi H
    replace hf := gfr_tr hf (gfr_w (fT_testHolds_fr  e2) (gss_cons (gme 0 rfl) gss_nil) gss_nil)
    by_cases q : (p1.2 10 10) = (0 : Int32)
    · replace H := gift q H
      obtain ⟨b4, H⟩ := ggi H
      have b4 := gbo_or b4
      cases H
      exact hf
    · replace H := giff q H
      obtain ⟨b3, H⟩ := ggi H
      have b3 := gin_in b3
      by_cases q : p1.1 = (0 : Int32)
      · replace H := gift q H
        exact gfr_tr hf (fT_holdsFor_44_fr  H)
      · replace H := giff q H
        exact gfr_tr hf (fT_holdsFor_44_fr  H)
