theorem fP_all_fr {o : Nat} (ho : gPast o) {h : gH} {x : (Int32 × gH)} (H : fP_all o h = some x) : gfr [] [] h x.2 := by
  unfold fP_all at H
  have hf := gfr_rf [] [] h
  cases H
  exact hf
theorem fP_decide_fr {o : Nat} {v1 : Int32} {v2 : Int32} (ho : gPast o) {h : gH} {x : (Int32 × gH)} (H : fP_decide o v1 v2 h = some x) : gfr [o + 1, o + 2] [(o, 5)] h x.2 := by
  unfold fP_decide at H
  have hf := gfr_rf [o + 1, o + 2] [(o, 5)] h
  obtain ⟨b1, H⟩ := ggi H
  have b1 := gin_in b1
  obtain ⟨h2, e3, H⟩ := glei H
  replace hf := gfr_e (gfr_a hf (gme 0 rfl)) e3
  obtain ⟨b4, H⟩ := ggi H
  have b4 := gin_in b4
  obtain ⟨h5, e6, H⟩ := glei H
  replace hf := gfr_e (gfr_a hf (gme 1 rfl)) e6
  obtain ⟨h7, e8, H⟩ := glei H
  replace hf := gfr_e (gfr_f hf (gme 0 rfl)) e8
  cases H
  exact hf
theorem fP_open_fr {o : Nat} {v1 : Int32} {v2 : Int32} (ho : gPast o) {h : gH} {x : (Int32 × gH)} (H : fP_open o v1 v2 h = some x) : gfr [o + 3, o + 4, o + 5] [(o, 6)] h x.2 := by
  unfold fP_open at H
  have hf := gfr_rf [o + 3, o + 4, o + 5] [(o, 6)] h
  obtain ⟨b1, H⟩ := ggi H
  have b1 := gin_in b1
  obtain ⟨h2, e3, H⟩ := glei H
  replace hf := gfr_e (gfr_a hf (gme 0 rfl)) e3
  obtain ⟨b4, H⟩ := ggi H
  have b4 := gin_in b4
  obtain ⟨h5, e6, H⟩ := glei H
  replace hf := gfr_e (gfr_a hf (gme 1 rfl)) e6
  obtain ⟨b7, H⟩ := ggi H
  have b7 := gin_in b7
  obtain ⟨h8, e9, H⟩ := glei H
  replace hf := gfr_e (gfr_a hf (gme 2 rfl)) e9
  obtain ⟨h10, e11, H⟩ := glei H
  replace hf := gfr_e (gfr_f hf (gme 0 rfl)) e11
  cases H
  exact hf
theorem fP_close_fr {o : Nat} (ho : gPast o) {h : gH} {x : (Int32 × gH)} (H : fP_close o h = some x) : gfr [] [(o, 6), (o, 5)] h x.2 := by
  unfold fP_close at H
  have hf := gfr_rf [] [(o, 6), (o, 5)] h
  obtain ⟨h1, e2, H⟩ := glei H
  replace hf := gfr_e (gfr_f hf (gme 0 rfl)) e2
  obtain ⟨b3, H⟩ := ggi H
  have b3 := gin_in b3
  obtain ⟨h4, e5, H⟩ := glei H
  replace hf := gfr_e (gfr_f hf (gme 1 rfl)) e5
  cases H
  exact hf
