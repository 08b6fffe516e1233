/-! the cases of the law -/
theorem vWX6_feed : Cond.code yX6_feed cX6_feed 2 (some .int) ∈ gW := gW_at 462 (by decide +kernel) rfl
theorem vWX7_feed : Cond.code yX7_feed cX7_feed 2 (some .int) ∈ gW := gW_at 1313 (by decide +kernel) rfl
theorem vWX6_rule : Cond.code yX6_rule cX6_rule 3 (some .int) ∈ gW := gW_at 470 (by decide +kernel) rfl
theorem vWX7_rule : Cond.code yX7_rule cX7_rule 7 (some .int) ∈ gW := gW_at 1321 (by decide +kernel) rfl
theorem vWX6_told : Cond.code yX6_told cX6_told 3 (some .int) ∈ gW := gW_at 715 (by decide +kernel) rfl
theorem vWX7_told : Cond.code yX7_told cX7_told 3 (some .int) ∈ gW := gW_at 1518 (by decide +kernel) rfl
theorem vWX6_holds : Cond.code yX6_holds cX6_holds 6 (some .int) ∈ gW := gW_at 786 (by decide +kernel) rfl
theorem vWX7_holds : Cond.code yX7_holds cX7_holds 6 (some .int) ∈ gW := gW_at 1386 (by decide +kernel) rfl
theorem vWX6_taken : Cond.code yX6_taken cX6_taken 4 (some .int) ∈ gW := gW_at 798 (by decide +kernel) rfl
theorem vWX7_taken : Cond.code yX7_taken cX7_taken 3 (some .int) ∈ gW := gW_at 1395 (by decide +kernel) rfl
theorem vWX6_tell : Cond.code yX6_tell cX6_tell 4 (some .int) ∈ gW := gW_at 802 (by decide +kernel) rfl
theorem vWX7_tell : Cond.code yX7_tell cX7_tell 4 (some .int) ∈ gW := gW_at 1457 (by decide +kernel) rfl
theorem vWX6_step : Cond.code yX6_step cX6_step 1 (some .int) ∈ gW := gW_at 812 (by decide +kernel) rfl
theorem vWX7_step : Cond.code yX7_step cX7_step 2 (some .int) ∈ gW := gW_at 1400 (by decide +kernel) rfl
theorem vWX6_run : Cond.code yX6_run cX6_run 1 (some .int) ∈ gW := gW_at 817 (by decide +kernel) rfl
theorem vWX7_run : Cond.code yX7_run cX7_run 2 (some .int) ∈ gW := gW_at 1452 (by decide +kernel) rfl
theorem vWX6_level : Cond.code yX6_level cX6_level 1 (some .int) ∈ gW := gW_at 821 (by decide +kernel) rfl
theorem vWX7_level : Cond.code yX7_level cX7_level 1 (some .int) ∈ gW := gW_at 1467 (by decide +kernel) rfl
theorem vWX6_undo : Cond.code yX6_undo cX6_undo 3 (some .int) ∈ gW := gW_at 829 (by decide +kernel) rfl
theorem vWX7_undo : Cond.code yX7_undo cX7_undo 3 (some .int) ∈ gW := gW_at 1475 (by decide +kernel) rfl
theorem vWX6_domain : Cond.code yX6_domain cX6_domain 2 (some .int) ∈ gW := gW_at 841 (by decide +kernel) rfl
theorem vWX7_domain : Cond.code yX7_domain cX7_domain 2 (some .int) ∈ gW := gW_at 1479 (by decide +kernel) rfl
theorem vWX6_trail : Cond.code yX6_trail cX6_trail 3 (some .int) ∈ gW := gW_at 845 (by decide +kernel) rfl
theorem vWX7_trail : Cond.code yX7_trail cX7_trail 4 (some .int) ∈ gW := gW_at 1483 (by decide +kernel) rfl
theorem vWX6_decision : Cond.code yX6_decision cX6_decision 3 (some .int) ∈ gW := gW_at 853 (by decide +kernel) rfl
theorem vWX7_decision : Cond.code yX7_decision cX7_decision 3 (some .int) ∈ gW := gW_at 1489 (by decide +kernel) rfl
theorem vWX6_why : Cond.code yX6_why cX6_why 7 (some .int) ∈ gW := gW_at 857 (by decide +kernel) rfl
theorem vWX7_why : Cond.code yX7_why cX7_why 6 (some .int) ∈ gW := gW_at 1493 (by decide +kernel) rfl
theorem vWX6_mixed : Cond.code yX6_mixed cX6_mixed 3 (some .int) ∈ gW := gW_at 865 (by decide +kernel) rfl
theorem vWX7_mixed : Cond.code yX7_mixed cX7_mixed 4 (some .int) ∈ gW := gW_at 1514 (by decide +kernel) rfl
theorem vWX6_search : Cond.code yX6_search cX6_search 5 (some .int) ∈ gW := gW_at 877 (by decide +kernel) rfl
theorem vWX7_search : Cond.code yX7_search cX7_search 8 (some .int) ∈ gW := gW_at 1531 (by decide +kernel) rfl
theorem vWX6_solutions : Cond.code yX6_solutions cX6_solutions 1 (some .long) ∈ gW := gW_at 960 (by decide +kernel) rfl
theorem vWX7_solutions : Cond.code yX7_solutions cX7_solutions 2 (some .long) ∈ gW := gW_at 1579 (by decide +kernel) rfl
theorem vWX6_reach : Cond.code yX6_reach cX6_reach 5 (some .int) ∈ gW := gW_at 965 (by decide +kernel) rfl
theorem vWX7_reach : Cond.code yX7_reach cX7_reach 8 (some .int) ∈ gW := gW_at 1584 (by decide +kernel) rfl
theorem vWX6_tells : Cond.code yX6_tells cX6_tells 4 (some .int) ∈ gW := gW_at 969 (by decide +kernel) rfl
theorem vWX7_tells : Cond.code yX7_tells cX7_tells 5 (some .int) ∈ gW := gW_at 1588 (by decide +kernel) rfl
theorem vWX6_film : Cond.code yX6_film cX6_film 6 (some .int) ∈ gW := gW_at 1001 (by decide +kernel) rfl
theorem vWX7_film : Cond.code yX7_film cX7_film 6 (some .int) ∈ gW := gW_at 1603 (by decide +kernel) rfl
theorem vWX6_image : Cond.code yX6_image cX6_image 1 (some .int) ∈ gW := gW_at 1009 (by decide +kernel) rfl
theorem vWX7_image : Cond.code yX7_image cX7_image 2 (some .int) ∈ gW := gW_at 1611 (by decide +kernel) rfl
theorem vWX6_back : Cond.code yX6_back cX6_back 1 (some .int) ∈ gW := gW_at 1018 (by decide +kernel) rfl
theorem vWX7_back : Cond.code yX7_back cX7_back 2 (some .int) ∈ gW := gW_at 1615 (by decide +kernel) rfl
theorem vWX6_count : Cond.code yX6_count cX6_count 2 (some .int) ∈ gW := gW_at 1022 (by decide +kernel) rfl
theorem vWX7_count : Cond.code yX7_count cX7_count 4 (some .int) ∈ gW := gW_at 1619 (by decide +kernel) rfl
theorem vWX6_sheet : Cond.code yX6_sheet cX6_sheet 4 (some .int) ∈ gW := gW_at 1028 (by decide +kernel) rfl
theorem vWX7_sheet : Cond.code yX7_sheet cX7_sheet 5 (some .int) ∈ gW := gW_at 1607 (by decide +kernel) rfl
theorem vWX6_put : Cond.code yX6_put cX6_put 5 (some .int) ∈ gW := gW_at 1032 (by decide +kernel) rfl
theorem vWX7_put : Cond.code yX7_put cX7_put 4 (some .int) ∈ gW := gW_at 1625 (by decide +kernel) rfl
theorem vWX6_item : Cond.code yX6_item cX6_item 3 (some .int) ∈ gW := gW_at 1044 (by decide +kernel) rfl
theorem vWX7_item : Cond.code yX7_item cX7_item 3 (some .int) ∈ gW := gW_at 1629 (by decide +kernel) rfl
theorem vWX6_copy : Cond.code yX6_copy cX6_copy 8 (some .int) ∈ gW := gW_at 1049 (by decide +kernel) rfl
theorem vWX7_copy : Cond.code yX7_copy cX7_copy 9 (some .int) ∈ gW := gW_at 1634 (by decide +kernel) rfl
theorem vWX6_load : Cond.code yX6_load cX6_load 9 (some .int) ∈ gW := gW_at 1058 (by decide +kernel) rfl
theorem vWX7_load : Cond.code yX7_load cX7_load 8 (some .int) ∈ gW := gW_at 1638 (by decide +kernel) rfl
section
variable {p : Program} {l : Launch} {e : Env} {s : State} {m : MethodId} {below : List Frame} {meth : Method} {c : Code} {w : gw} {b L : Nat} {xs : Nat → Int32}
theorem vLX6_feed : gLV R_law 13 yX6_feed 1 := ⟨⟨Or.inl (gW_at 459 (by decide +kernel) rfl), gW_at 126 (by decide +kernel) rfl, by decide +kernel⟩, gW_at 460 (by decide +kernel) rfl, gW_at 461 (by decide +kernel) rfl⟩
theorem vLX7_feed : gLV R_law 17 yX7_feed 1 := ⟨⟨Or.inl (gW_at 1310 (by decide +kernel) rfl), gW_at 133 (by decide +kernel) rfl, by decide +kernel⟩, gW_at 1311 (by decide +kernel) rfl, gW_at 1312 (by decide +kernel) rfl⟩
theorem law_feed {i : Nat} {h : gH} (X : lX p s m meth c w b L xs) (h6 : i + 6 ≤ L) (I : Inv h) (kk : ∀ h2, Inv h2 → lJ p l e s m below meth c w b 1015 i [] h2) : lJ p l e s m below meth c w b 160 i [] h := by
  obtain ⟨r, q, e1, e2, e3, I2⟩ := go_feed (xs (i + 1)) I
  refine L_x X (gxd kL0 0 rfl) ?_
  refine L_arg 1 X (gxd kL0 1 rfl) (gxd kL0 2 rfl) (gxd kL0 3 rfl) (gxd kL0 4 rfl) (gxd kL0 5 rfl) (by decide) (by omega) ?_
  refine L_call (as := [.int (xs (i + 1))]) (rest := []) (r1 := some (.int r.1)) (h1 := r.2) X (gxd kL0 6 rfl) vLX6_feed vWX6_feed (by decide) gk_0 rfl rfl (by decide) (by decide) (fX_feed_ok e1 0) ?_
  refine L_m X (gxd kL0 7 rfl) ?_
  refine L_arg 1 X (gxd kL0 8 rfl) (gxd kL0 9 rfl) (gxd kL0 10 rfl) (gxd kL0 11 rfl) (gxd kL0 12 rfl) (by decide) (by omega) ?_
  refine L_call (as := [.int (xs (i + 1))]) (rest := [.int r.1]) (r1 := some (.int q.1)) (h1 := q.2) X (gxd kL0 13 rfl) vLX7_feed vWX7_feed (by decide) gk_65 rfl rfl (Nat.le_of_ble_eq_true rfl) (by decide) (fM_feed_ok e2 0) ?_
  exact L_eq X (gxd kL0 14 rfl) rfl e3 (kk q.2 I2)
theorem vLX6_rule : gLV R_law 18 yX6_rule 0 := ⟨⟨Or.inl (gW_at 467 (by decide +kernel) rfl), gW_at 126 (by decide +kernel) rfl, by decide +kernel⟩, gW_at 468 (by decide +kernel) rfl, gW_at 469 (by decide +kernel) rfl⟩
theorem vLX7_rule : gLV R_law 22 yX7_rule 0 := ⟨⟨Or.inl (gW_at 1318 (by decide +kernel) rfl), gW_at 133 (by decide +kernel) rfl, by decide +kernel⟩, gW_at 1319 (by decide +kernel) rfl, gW_at 1320 (by decide +kernel) rfl⟩
theorem law_rule {i : Nat} {h : gH} (X : lX p s m meth c w b L xs) (h6 : i + 6 ≤ L) (I : Inv h) (kk : ∀ h2, Inv h2 → lJ p l e s m below meth c w b 1015 i [] h2) : lJ p l e s m below meth c w b 183 i [] h := by
  obtain ⟨r, q, e1, e2, e3, I2⟩ := go_rule I
  refine L_x X (gxd kL1 0 rfl) ?_
  refine L_call (as := []) (rest := []) (r1 := some (.int r.1)) (h1 := r.2) X (gxd kL1 1 rfl) vLX6_rule vWX6_rule (by decide) gk_0 rfl rfl (by decide) (by decide) (fX_rule_ok e1 0) ?_
  refine L_m X (gxd kL1 2 rfl) ?_
  refine L_call (as := []) (rest := [.int r.1]) (r1 := some (.int q.1)) (h1 := q.2) X (gxd kL1 3 rfl) vLX7_rule vWX7_rule (by decide) gk_65 rfl rfl (Nat.le_of_ble_eq_true rfl) (by decide) (fM_rule_ok e2 0) ?_
  exact L_eq X (gxd kL1 4 rfl) rfl e3 (kk q.2 I2)
theorem vLX6_told : gLV R_law 23 yX6_told 2 := ⟨⟨Or.inl (gW_at 712 (by decide +kernel) rfl), gW_at 126 (by decide +kernel) rfl, by decide +kernel⟩, gW_at 713 (by decide +kernel) rfl, gW_at 714 (by decide +kernel) rfl⟩
theorem vLX7_told : gLV R_law 27 yX7_told 2 := ⟨⟨Or.inl (gW_at 1515 (by decide +kernel) rfl), gW_at 133 (by decide +kernel) rfl, by decide +kernel⟩, gW_at 1516 (by decide +kernel) rfl, gW_at 1517 (by decide +kernel) rfl⟩
theorem law_told {i : Nat} {h : gH} (X : lX p s m meth c w b L xs) (h6 : i + 6 ≤ L) (I : Inv h) (kk : ∀ h2, Inv h2 → lJ p l e s m below meth c w b 1015 i [] h2) : lJ p l e s m below meth c w b 196 i [] h := by
  obtain ⟨r, q, e1, e2, e3, I2⟩ := go_told (xs (i + 1)) (xs (i + 2)) I
  refine L_x X (gxd kL2 0 rfl) ?_
  refine L_arg 1 X (gxd kL2 1 rfl) (gxd kL2 2 rfl) (gxd kL2 3 rfl) (gxd kL2 4 rfl) (gxd kL2 5 rfl) (by decide) (by omega) ?_
  refine L_arg 2 X (gxd kL2 6 rfl) (gxd kL2 7 rfl) (gxd kL2 8 rfl) (gxd kL2 9 rfl) (gxd kL2 10 rfl) (by decide) (by omega) ?_
  refine L_call (as := [.int (xs (i + 1)), .int (xs (i + 2))]) (rest := []) (r1 := some (.int r.1)) (h1 := r.2) X (gxd kL2 11 rfl) vLX6_told vWX6_told (by decide) gk_0 rfl rfl (by decide) (by decide) (fX_told_ok e1 0) ?_
  refine L_m X (gxd kL2 12 rfl) ?_
  refine L_arg 1 X (gxd kL2 13 rfl) (gxd kL2 14 rfl) (gxd kL2 15 rfl) (gxd kL2 16 rfl) (gxd kL2 17 rfl) (by decide) (by omega) ?_
  refine L_arg 2 X (gxd kL2 18 rfl) (gxd kL2 19 rfl) (gxd kL2 20 rfl) (gxd kL2 21 rfl) (gxd kL2 22 rfl) (by decide) (by omega) ?_
  refine L_call (as := [.int (xs (i + 1)), .int (xs (i + 2))]) (rest := [.int r.1]) (r1 := some (.int q.1)) (h1 := q.2) X (gxd kL2 23 rfl) vLX7_told vWX7_told (by decide) gk_65 rfl rfl (Nat.le_of_ble_eq_true rfl) (by decide) (fM_told_ok e2 0) ?_
  exact L_eq X (gxd kL2 24 rfl) rfl e3 (kk q.2 I2)
theorem vLX6_holds : gLV R_law 28 yX6_holds 4 := ⟨⟨Or.inl (gW_at 783 (by decide +kernel) rfl), gW_at 126 (by decide +kernel) rfl, by decide +kernel⟩, gW_at 784 (by decide +kernel) rfl, gW_at 785 (by decide +kernel) rfl⟩
theorem vLX7_holds : gLV R_law 32 yX7_holds 4 := ⟨⟨Or.inl (gW_at 1383 (by decide +kernel) rfl), gW_at 133 (by decide +kernel) rfl, by decide +kernel⟩, gW_at 1384 (by decide +kernel) rfl, gW_at 1385 (by decide +kernel) rfl⟩
theorem law_holds {i : Nat} {h : gH} (X : lX p s m meth c w b L xs) (h6 : i + 6 ≤ L) (I : Inv h) (kk : ∀ h2, Inv h2 → lJ p l e s m below meth c w b 1015 i [] h2) : lJ p l e s m below meth c w b 229 i [] h := by
  obtain ⟨r, q, e1, e2, e3, I2⟩ := go_holds (xs (i + 1)) (xs (i + 2)) (xs (i + 3)) (xs (i + 4)) I
  refine L_x X (gxd kL3 0 rfl) ?_
  refine L_arg 1 X (gxd kL3 1 rfl) (gxd kL3 2 rfl) (gxd kL3 3 rfl) (gxd kL3 4 rfl) (gxd kL3 5 rfl) (by decide) (by omega) ?_
  refine L_arg 2 X (gxd kL3 6 rfl) (gxd kL3 7 rfl) (gxd kL3 8 rfl) (gxd kL3 9 rfl) (gxd kL3 10 rfl) (by decide) (by omega) ?_
  refine L_arg 3 X (gxd kL3 11 rfl) (gxd kL3 12 rfl) (gxd kL3 13 rfl) (gxd kL3 14 rfl) (gxd kL3 15 rfl) (by decide) (by omega) ?_
  refine L_arg 4 X (gxd kL3 16 rfl) (gxd kL3 17 rfl) (gxd kL3 18 rfl) (gxd kL3 19 rfl) (gxd kL3 20 rfl) (by decide) (by omega) ?_
  refine L_call (as := [.int (xs (i + 1)), .int (xs (i + 2)), .int (xs (i + 3)), .int (xs (i + 4))]) (rest := []) (r1 := some (.int r.1)) (h1 := r.2) X (gxd kL3 21 rfl) vLX6_holds vWX6_holds (by decide) gk_0 rfl rfl (by decide) (by decide) (fX_holds_ok e1 0) ?_
  refine L_m X (gxd kL3 22 rfl) ?_
  refine L_arg 1 X (gxd kL3 23 rfl) (gxd kL3 24 rfl) (gxd kL3 25 rfl) (gxd kL3 26 rfl) (gxd kL3 27 rfl) (by decide) (by omega) ?_
  refine L_arg 2 X (gxd kL3 28 rfl) (gxd kL3 29 rfl) (gxd kL3 30 rfl) (gxd kL3 31 rfl) (gxd kL3 32 rfl) (by decide) (by omega) ?_
  refine L_arg 3 X (gxd kL3 33 rfl) (gxd kL3 34 rfl) (gxd kL3 35 rfl) (gxd kL3 36 rfl) (gxd kL3 37 rfl) (by decide) (by omega) ?_
  refine L_arg 4 X (gxd kL3 38 rfl) (gxd kL3 39 rfl) (gxd kL3 40 rfl) (gxd kL3 41 rfl) (gxd kL3 42 rfl) (by decide) (by omega) ?_
  refine L_call (as := [.int (xs (i + 1)), .int (xs (i + 2)), .int (xs (i + 3)), .int (xs (i + 4))]) (rest := [.int r.1]) (r1 := some (.int q.1)) (h1 := q.2) X (gxd kL3 43 rfl) vLX7_holds vWX7_holds (by decide) gk_65 rfl rfl (Nat.le_of_ble_eq_true rfl) (by decide) (fM_holds_ok e2 0) ?_
  exact L_eq X (gxd kL3 44 rfl) rfl e3 (kk q.2 I2)
theorem vLX6_taken : gLV R_law 33 yX6_taken 2 := ⟨⟨Or.inl (gW_at 795 (by decide +kernel) rfl), gW_at 126 (by decide +kernel) rfl, by decide +kernel⟩, gW_at 796 (by decide +kernel) rfl, gW_at 797 (by decide +kernel) rfl⟩
theorem vLX7_taken : gLV R_law 36 yX7_taken 2 := ⟨⟨Or.inl (gW_at 1392 (by decide +kernel) rfl), gW_at 133 (by decide +kernel) rfl, by decide +kernel⟩, gW_at 1393 (by decide +kernel) rfl, gW_at 1394 (by decide +kernel) rfl⟩
theorem law_taken {i : Nat} {h : gH} (X : lX p s m meth c w b L xs) (h6 : i + 6 ≤ L) (I : Inv h) (kk : ∀ h2, Inv h2 → lJ p l e s m below meth c w b 1015 i [] h2) : lJ p l e s m below meth c w b 282 i [] h := by
  obtain ⟨r, q, e1, e2, e3, I2⟩ := go_taken (xs (i + 1)) (xs (i + 2)) I
  refine L_x X (gxd kL4 0 rfl) ?_
  refine L_arg 1 X (gxd kL4 1 rfl) (gxd kL4 2 rfl) (gxd kL4 3 rfl) (gxd kL4 4 rfl) (gxd kL4 5 rfl) (by decide) (by omega) ?_
  refine L_arg 2 X (gxd kL4 6 rfl) (gxd kL4 7 rfl) (gxd kL4 8 rfl) (gxd kL4 9 rfl) (gxd kL4 10 rfl) (by decide) (by omega) ?_
  refine L_call (as := [.int (xs (i + 1)), .int (xs (i + 2))]) (rest := []) (r1 := some (.int r.1)) (h1 := r.2) X (gxd kL4 11 rfl) vLX6_taken vWX6_taken (by decide) gk_0 rfl rfl (by decide) (by decide) (fX_taken_ok e1 0) ?_
  refine L_m X (gxd kL4 12 rfl) ?_
  refine L_arg 1 X (gxd kL4 13 rfl) (gxd kL4 14 rfl) (gxd kL4 15 rfl) (gxd kL4 16 rfl) (gxd kL4 17 rfl) (by decide) (by omega) ?_
  refine L_arg 2 X (gxd kL4 18 rfl) (gxd kL4 19 rfl) (gxd kL4 20 rfl) (gxd kL4 21 rfl) (gxd kL4 22 rfl) (by decide) (by omega) ?_
  refine L_call (as := [.int (xs (i + 1)), .int (xs (i + 2))]) (rest := [.int r.1]) (r1 := some (.int q.1)) (h1 := q.2) X (gxd kL4 23 rfl) vLX7_taken vWX7_taken (by decide) gk_65 rfl rfl (Nat.le_of_ble_eq_true rfl) (by decide) (fM_taken_ok e2 0) ?_
  exact L_eq X (gxd kL4 24 rfl) rfl e3 (kk q.2 I2)
theorem vLX6_tell : gLV R_law 37 yX6_tell 2 := ⟨⟨Or.inl (gW_at 799 (by decide +kernel) rfl), gW_at 126 (by decide +kernel) rfl, by decide +kernel⟩, gW_at 800 (by decide +kernel) rfl, gW_at 801 (by decide +kernel) rfl⟩
theorem vLX7_tell : gLV R_law 40 yX7_tell 2 := ⟨⟨Or.inl (gW_at 1454 (by decide +kernel) rfl), gW_at 133 (by decide +kernel) rfl, by decide +kernel⟩, gW_at 1455 (by decide +kernel) rfl, gW_at 1456 (by decide +kernel) rfl⟩
theorem law_tell {i : Nat} {h : gH} (X : lX p s m meth c w b L xs) (h6 : i + 6 ≤ L) (I : Inv h) (kk : ∀ h2, Inv h2 → lJ p l e s m below meth c w b 1015 i [] h2) : lJ p l e s m below meth c w b 315 i [] h := by
  obtain ⟨r, q, e1, e2, e3, I2⟩ := go_tell (xs (i + 1)) (xs (i + 2)) I
  refine L_x X (gxd kL5 0 rfl) ?_
  refine L_arg 1 X (gxd kL5 1 rfl) (gxd kL5 2 rfl) (gxd kL5 3 rfl) (gxd kL5 4 rfl) (gxd kL5 5 rfl) (by decide) (by omega) ?_
  refine L_arg 2 X (gxd kL5 6 rfl) (gxd kL5 7 rfl) (gxd kL5 8 rfl) (gxd kL5 9 rfl) (gxd kL5 10 rfl) (by decide) (by omega) ?_
  refine L_call (as := [.int (xs (i + 1)), .int (xs (i + 2))]) (rest := []) (r1 := some (.int r.1)) (h1 := r.2) X (gxd kL5 11 rfl) vLX6_tell vWX6_tell (by decide) gk_0 rfl rfl (by decide) (by decide) (fX_tell_ok e1 0) ?_
  refine L_m X (gxd kL5 12 rfl) ?_
  refine L_arg 1 X (gxd kL5 13 rfl) (gxd kL5 14 rfl) (gxd kL5 15 rfl) (gxd kL5 16 rfl) (gxd kL5 17 rfl) (by decide) (by omega) ?_
  refine L_arg 2 X (gxd kL5 18 rfl) (gxd kL5 19 rfl) (gxd kL5 20 rfl) (gxd kL5 21 rfl) (gxd kL5 22 rfl) (by decide) (by omega) ?_
  refine L_call (as := [.int (xs (i + 1)), .int (xs (i + 2))]) (rest := [.int r.1]) (r1 := some (.int q.1)) (h1 := q.2) X (gxd kL5 23 rfl) vLX7_tell vWX7_tell (by decide) gk_65 rfl rfl (Nat.le_of_ble_eq_true rfl) (by decide) (fM_tell_ok e2 0) ?_
  exact L_eq X (gxd kL5 24 rfl) rfl e3 (kk q.2 I2)
theorem vLX6_step : gLV R_law 41 yX6_step 0 := ⟨⟨Or.inl (gW_at 809 (by decide +kernel) rfl), gW_at 126 (by decide +kernel) rfl, by decide +kernel⟩, gW_at 810 (by decide +kernel) rfl, gW_at 811 (by decide +kernel) rfl⟩
theorem vLX7_step : gLV R_law 44 yX7_step 0 := ⟨⟨Or.inl (gW_at 1397 (by decide +kernel) rfl), gW_at 133 (by decide +kernel) rfl, by decide +kernel⟩, gW_at 1398 (by decide +kernel) rfl, gW_at 1399 (by decide +kernel) rfl⟩
theorem law_step {i : Nat} {h : gH} (X : lX p s m meth c w b L xs) (h6 : i + 6 ≤ L) (I : Inv h) (kk : ∀ h2, Inv h2 → lJ p l e s m below meth c w b 1015 i [] h2) : lJ p l e s m below meth c w b 348 i [] h := by
  obtain ⟨r, q, e1, e2, e3, I2⟩ := go_step I
  refine L_x X (gxd kL6 0 rfl) ?_
  refine L_call (as := []) (rest := []) (r1 := some (.int r.1)) (h1 := r.2) X (gxd kL6 1 rfl) vLX6_step vWX6_step (by decide) gk_0 rfl rfl (by decide) (by decide) (fX_step_ok e1 0) ?_
  refine L_m X (gxd kL6 2 rfl) ?_
  refine L_call (as := []) (rest := [.int r.1]) (r1 := some (.int q.1)) (h1 := q.2) X (gxd kL6 3 rfl) vLX7_step vWX7_step (by decide) gk_65 rfl rfl (Nat.le_of_ble_eq_true rfl) (by decide) (fM_step_ok e2 0) ?_
  exact L_eq X (gxd kL6 4 rfl) rfl e3 (kk q.2 I2)
theorem vLX6_run : gLV R_law 45 yX6_run 0 := ⟨⟨Or.inl (gW_at 814 (by decide +kernel) rfl), gW_at 126 (by decide +kernel) rfl, by decide +kernel⟩, gW_at 815 (by decide +kernel) rfl, gW_at 816 (by decide +kernel) rfl⟩
theorem vLX7_run : gLV R_law 48 yX7_run 0 := ⟨⟨Or.inl (gW_at 1449 (by decide +kernel) rfl), gW_at 133 (by decide +kernel) rfl, by decide +kernel⟩, gW_at 1450 (by decide +kernel) rfl, gW_at 1451 (by decide +kernel) rfl⟩
theorem law_run {i : Nat} {h : gH} (X : lX p s m meth c w b L xs) (h6 : i + 6 ≤ L) (I : Inv h) (kk : ∀ h2, Inv h2 → lJ p l e s m below meth c w b 1015 i [] h2) : lJ p l e s m below meth c w b 361 i [] h := by
  obtain ⟨r, q, e1, e2, e3, I2⟩ := go_run I
  refine L_x X (gxd kL7 0 rfl) ?_
  refine L_call (as := []) (rest := []) (r1 := some (.int r.1)) (h1 := r.2) X (gxd kL7 1 rfl) vLX6_run vWX6_run (by decide) gk_0 rfl rfl (by decide) (by decide) (fX_run_ok e1 0) ?_
  refine L_m X (gxd kL7 2 rfl) ?_
  refine L_call (as := []) (rest := [.int r.1]) (r1 := some (.int q.1)) (h1 := q.2) X (gxd kL7 3 rfl) vLX7_run vWX7_run (by decide) gk_65 rfl rfl (Nat.le_of_ble_eq_true rfl) (by decide) (fM_run_ok e2 0) ?_
  exact L_eq X (gxd kL7 4 rfl) rfl e3 (kk q.2 I2)
theorem vLX6_level : gLV R_law 49 yX6_level 0 := ⟨⟨Or.inl (gW_at 818 (by decide +kernel) rfl), gW_at 126 (by decide +kernel) rfl, by decide +kernel⟩, gW_at 819 (by decide +kernel) rfl, gW_at 820 (by decide +kernel) rfl⟩
theorem vLX7_level : gLV R_law 52 yX7_level 0 := ⟨⟨Or.inl (gW_at 1464 (by decide +kernel) rfl), gW_at 133 (by decide +kernel) rfl, by decide +kernel⟩, gW_at 1465 (by decide +kernel) rfl, gW_at 1466 (by decide +kernel) rfl⟩
theorem law_level {i : Nat} {h : gH} (X : lX p s m meth c w b L xs) (h6 : i + 6 ≤ L) (I : Inv h) (kk : ∀ h2, Inv h2 → lJ p l e s m below meth c w b 1015 i [] h2) : lJ p l e s m below meth c w b 374 i [] h := by
  obtain ⟨r, q, e1, e2, e3, I2⟩ := go_level I
  refine L_x X (gxd kL8 0 rfl) ?_
  refine L_call (as := []) (rest := []) (r1 := some (.int r.1)) (h1 := r.2) X (gxd kL8 1 rfl) vLX6_level vWX6_level (by decide) gk_0 rfl rfl (by decide) (by decide) (fX_level_ok e1 0) ?_
  refine L_m X (gxd kL8 2 rfl) ?_
  refine L_call (as := []) (rest := [.int r.1]) (r1 := some (.int q.1)) (h1 := q.2) X (gxd kL8 3 rfl) vLX7_level vWX7_level (by decide) gk_65 rfl rfl (Nat.le_of_ble_eq_true rfl) (by decide) (fM_level_ok e2 0) ?_
  exact L_eq X (gxd kL8 4 rfl) rfl e3 (kk q.2 I2)
theorem vLX6_undo : gLV R_law 53 yX6_undo 0 := ⟨⟨Or.inl (gW_at 826 (by decide +kernel) rfl), gW_at 126 (by decide +kernel) rfl, by decide +kernel⟩, gW_at 827 (by decide +kernel) rfl, gW_at 828 (by decide +kernel) rfl⟩
theorem vLX7_undo : gLV R_law 56 yX7_undo 0 := ⟨⟨Or.inl (gW_at 1472 (by decide +kernel) rfl), gW_at 133 (by decide +kernel) rfl, by decide +kernel⟩, gW_at 1473 (by decide +kernel) rfl, gW_at 1474 (by decide +kernel) rfl⟩
theorem law_undo {i : Nat} {h : gH} (X : lX p s m meth c w b L xs) (h6 : i + 6 ≤ L) (I : Inv h) (kk : ∀ h2, Inv h2 → lJ p l e s m below meth c w b 1015 i [] h2) : lJ p l e s m below meth c w b 387 i [] h := by
  obtain ⟨r, q, e1, e2, e3, I2⟩ := go_undo I
  refine L_x X (gxd kL9 0 rfl) ?_
  refine L_call (as := []) (rest := []) (r1 := some (.int r.1)) (h1 := r.2) X (gxd kL9 1 rfl) vLX6_undo vWX6_undo (by decide) gk_0 rfl rfl (by decide) (by decide) (fX_undo_ok e1 0) ?_
  refine L_m X (gxd kL9 2 rfl) ?_
  refine L_call (as := []) (rest := [.int r.1]) (r1 := some (.int q.1)) (h1 := q.2) X (gxd kL9 3 rfl) vLX7_undo vWX7_undo (by decide) gk_65 rfl rfl (Nat.le_of_ble_eq_true rfl) (by decide) (fM_undo_ok e2 0) ?_
  exact L_eq X (gxd kL9 4 rfl) rfl e3 (kk q.2 I2)
theorem vLX6_domain : gLV R_law 57 yX6_domain 1 := ⟨⟨Or.inl (gW_at 838 (by decide +kernel) rfl), gW_at 126 (by decide +kernel) rfl, by decide +kernel⟩, gW_at 839 (by decide +kernel) rfl, gW_at 840 (by decide +kernel) rfl⟩
theorem vLX7_domain : gLV R_law 60 yX7_domain 1 := ⟨⟨Or.inl (gW_at 1476 (by decide +kernel) rfl), gW_at 133 (by decide +kernel) rfl, by decide +kernel⟩, gW_at 1477 (by decide +kernel) rfl, gW_at 1478 (by decide +kernel) rfl⟩
theorem law_domain {i : Nat} {h : gH} (X : lX p s m meth c w b L xs) (h6 : i + 6 ≤ L) (I : Inv h) (kk : ∀ h2, Inv h2 → lJ p l e s m below meth c w b 1015 i [] h2) : lJ p l e s m below meth c w b 400 i [] h := by
  obtain ⟨r, q, e1, e2, e3, I2⟩ := go_domain (xs (i + 1)) I
  refine L_x X (gxd kL10 0 rfl) ?_
  refine L_arg 1 X (gxd kL10 1 rfl) (gxd kL10 2 rfl) (gxd kL10 3 rfl) (gxd kL10 4 rfl) (gxd kL10 5 rfl) (by decide) (by omega) ?_
  refine L_call (as := [.int (xs (i + 1))]) (rest := []) (r1 := some (.int r.1)) (h1 := r.2) X (gxd kL10 6 rfl) vLX6_domain vWX6_domain (by decide) gk_0 rfl rfl (by decide) (by decide) (fX_domain_ok e1 0) ?_
  refine L_m X (gxd kL10 7 rfl) ?_
  refine L_arg 1 X (gxd kL10 8 rfl) (gxd kL10 9 rfl) (gxd kL10 10 rfl) (gxd kL10 11 rfl) (gxd kL10 12 rfl) (by decide) (by omega) ?_
  refine L_call (as := [.int (xs (i + 1))]) (rest := [.int r.1]) (r1 := some (.int q.1)) (h1 := q.2) X (gxd kL10 13 rfl) vLX7_domain vWX7_domain (by decide) gk_65 rfl rfl (Nat.le_of_ble_eq_true rfl) (by decide) (fM_domain_ok e2 0) ?_
  exact L_eq X (gxd kL10 14 rfl) rfl e3 (kk q.2 I2)
theorem vLX6_trail : gLV R_law 61 yX6_trail 2 := ⟨⟨Or.inl (gW_at 842 (by decide +kernel) rfl), gW_at 126 (by decide +kernel) rfl, by decide +kernel⟩, gW_at 843 (by decide +kernel) rfl, gW_at 844 (by decide +kernel) rfl⟩
theorem vLX7_trail : gLV R_law 64 yX7_trail 2 := ⟨⟨Or.inl (gW_at 1480 (by decide +kernel) rfl), gW_at 133 (by decide +kernel) rfl, by decide +kernel⟩, gW_at 1481 (by decide +kernel) rfl, gW_at 1482 (by decide +kernel) rfl⟩
theorem law_trail {i : Nat} {h : gH} (X : lX p s m meth c w b L xs) (h6 : i + 6 ≤ L) (I : Inv h) (kk : ∀ h2, Inv h2 → lJ p l e s m below meth c w b 1015 i [] h2) : lJ p l e s m below meth c w b 423 i [] h := by
  obtain ⟨r, q, e1, e2, e3, I2⟩ := go_trail (xs (i + 1)) (xs (i + 2)) I
  refine L_x X (gxd kL11 0 rfl) ?_
  refine L_arg 1 X (gxd kL11 1 rfl) (gxd kL11 2 rfl) (gxd kL11 3 rfl) (gxd kL11 4 rfl) (gxd kL11 5 rfl) (by decide) (by omega) ?_
  refine L_arg 2 X (gxd kL11 6 rfl) (gxd kL11 7 rfl) (gxd kL11 8 rfl) (gxd kL11 9 rfl) (gxd kL11 10 rfl) (by decide) (by omega) ?_
  refine L_call (as := [.int (xs (i + 1)), .int (xs (i + 2))]) (rest := []) (r1 := some (.int r.1)) (h1 := r.2) X (gxd kL11 11 rfl) vLX6_trail vWX6_trail (by decide) gk_0 rfl rfl (by decide) (by decide) (fX_trail_ok e1 0) ?_
  refine L_m X (gxd kL11 12 rfl) ?_
  refine L_arg 1 X (gxd kL11 13 rfl) (gxd kL11 14 rfl) (gxd kL11 15 rfl) (gxd kL11 16 rfl) (gxd kL11 17 rfl) (by decide) (by omega) ?_
  refine L_arg 2 X (gxd kL11 18 rfl) (gxd kL11 19 rfl) (gxd kL11 20 rfl) (gxd kL11 21 rfl) (gxd kL11 22 rfl) (by decide) (by omega) ?_
  refine L_call (as := [.int (xs (i + 1)), .int (xs (i + 2))]) (rest := [.int r.1]) (r1 := some (.int q.1)) (h1 := q.2) X (gxd kL11 23 rfl) vLX7_trail vWX7_trail (by decide) gk_65 rfl rfl (Nat.le_of_ble_eq_true rfl) (by decide) (fM_trail_ok e2 0) ?_
  exact L_eq X (gxd kL11 24 rfl) rfl e3 (kk q.2 I2)
theorem vLX6_decision : gLV R_law 65 yX6_decision 2 := ⟨⟨Or.inl (gW_at 850 (by decide +kernel) rfl), gW_at 126 (by decide +kernel) rfl, by decide +kernel⟩, gW_at 851 (by decide +kernel) rfl, gW_at 852 (by decide +kernel) rfl⟩
theorem vLX7_decision : gLV R_law 68 yX7_decision 2 := ⟨⟨Or.inl (gW_at 1486 (by decide +kernel) rfl), gW_at 133 (by decide +kernel) rfl, by decide +kernel⟩, gW_at 1487 (by decide +kernel) rfl, gW_at 1488 (by decide +kernel) rfl⟩
theorem law_decision {i : Nat} {h : gH} (X : lX p s m meth c w b L xs) (h6 : i + 6 ≤ L) (I : Inv h) (kk : ∀ h2, Inv h2 → lJ p l e s m below meth c w b 1015 i [] h2) : lJ p l e s m below meth c w b 456 i [] h := by
  obtain ⟨r, q, e1, e2, e3, I2⟩ := go_decision (xs (i + 1)) (xs (i + 2)) I
  refine L_x X (gxd kL12 0 rfl) ?_
  refine L_arg 1 X (gxd kL12 1 rfl) (gxd kL12 2 rfl) (gxd kL12 3 rfl) (gxd kL12 4 rfl) (gxd kL12 5 rfl) (by decide) (by omega) ?_
  refine L_arg 2 X (gxd kL12 6 rfl) (gxd kL12 7 rfl) (gxd kL12 8 rfl) (gxd kL12 9 rfl) (gxd kL12 10 rfl) (by decide) (by omega) ?_
  refine L_call (as := [.int (xs (i + 1)), .int (xs (i + 2))]) (rest := []) (r1 := some (.int r.1)) (h1 := r.2) X (gxd kL12 11 rfl) vLX6_decision vWX6_decision (by decide) gk_0 rfl rfl (by decide) (by decide) (fX_decision_ok e1 0) ?_
  refine L_m X (gxd kL12 12 rfl) ?_
  refine L_arg 1 X (gxd kL12 13 rfl) (gxd kL12 14 rfl) (gxd kL12 15 rfl) (gxd kL12 16 rfl) (gxd kL12 17 rfl) (by decide) (by omega) ?_
  refine L_arg 2 X (gxd kL12 18 rfl) (gxd kL12 19 rfl) (gxd kL12 20 rfl) (gxd kL12 21 rfl) (gxd kL12 22 rfl) (by decide) (by omega) ?_
  refine L_call (as := [.int (xs (i + 1)), .int (xs (i + 2))]) (rest := [.int r.1]) (r1 := some (.int q.1)) (h1 := q.2) X (gxd kL12 23 rfl) vLX7_decision vWX7_decision (by decide) gk_65 rfl rfl (Nat.le_of_ble_eq_true rfl) (by decide) (fM_decision_ok e2 0) ?_
  exact L_eq X (gxd kL12 24 rfl) rfl e3 (kk q.2 I2)
theorem vLX6_why : gLV R_law 69 yX6_why 2 := ⟨⟨Or.inl (gW_at 854 (by decide +kernel) rfl), gW_at 126 (by decide +kernel) rfl, by decide +kernel⟩, gW_at 855 (by decide +kernel) rfl, gW_at 856 (by decide +kernel) rfl⟩
theorem vLX7_why : gLV R_law 72 yX7_why 2 := ⟨⟨Or.inl (gW_at 1490 (by decide +kernel) rfl), gW_at 133 (by decide +kernel) rfl, by decide +kernel⟩, gW_at 1491 (by decide +kernel) rfl, gW_at 1492 (by decide +kernel) rfl⟩
theorem law_why {i : Nat} {h : gH} (X : lX p s m meth c w b L xs) (h6 : i + 6 ≤ L) (I : Inv h) (kk : ∀ h2, Inv h2 → lJ p l e s m below meth c w b 1015 i [] h2) : lJ p l e s m below meth c w b 489 i [] h := by
  obtain ⟨r, q, e1, e2, e3, I2⟩ := go_why (xs (i + 1)) (xs (i + 2)) I
  refine L_x X (gxd kL13 0 rfl) ?_
  refine L_arg 1 X (gxd kL13 1 rfl) (gxd kL13 2 rfl) (gxd kL13 3 rfl) (gxd kL13 4 rfl) (gxd kL13 5 rfl) (by decide) (by omega) ?_
  refine L_arg 2 X (gxd kL13 6 rfl) (gxd kL13 7 rfl) (gxd kL13 8 rfl) (gxd kL13 9 rfl) (gxd kL13 10 rfl) (by decide) (by omega) ?_
  refine L_call (as := [.int (xs (i + 1)), .int (xs (i + 2))]) (rest := []) (r1 := some (.int r.1)) (h1 := r.2) X (gxd kL13 11 rfl) vLX6_why vWX6_why (by decide) gk_0 rfl rfl (by decide) (by decide) (fX_why_ok e1 0) ?_
  refine L_m X (gxd kL13 12 rfl) ?_
  refine L_arg 1 X (gxd kL13 13 rfl) (gxd kL13 14 rfl) (gxd kL13 15 rfl) (gxd kL13 16 rfl) (gxd kL13 17 rfl) (by decide) (by omega) ?_
  refine L_arg 2 X (gxd kL13 18 rfl) (gxd kL13 19 rfl) (gxd kL13 20 rfl) (gxd kL13 21 rfl) (gxd kL13 22 rfl) (by decide) (by omega) ?_
  refine L_call (as := [.int (xs (i + 1)), .int (xs (i + 2))]) (rest := [.int r.1]) (r1 := some (.int q.1)) (h1 := q.2) X (gxd kL13 23 rfl) vLX7_why vWX7_why (by decide) gk_65 rfl rfl (Nat.le_of_ble_eq_true rfl) (by decide) (fM_why_ok e2 0) ?_
  exact L_eq X (gxd kL13 24 rfl) rfl e3 (kk q.2 I2)
theorem vLX6_mixed : gLV R_law 73 yX6_mixed 2 := ⟨⟨Or.inl (gW_at 862 (by decide +kernel) rfl), gW_at 126 (by decide +kernel) rfl, by decide +kernel⟩, gW_at 863 (by decide +kernel) rfl, gW_at 864 (by decide +kernel) rfl⟩
theorem vLX7_mixed : gLV R_law 76 yX7_mixed 2 := ⟨⟨Or.inl (gW_at 1511 (by decide +kernel) rfl), gW_at 133 (by decide +kernel) rfl, by decide +kernel⟩, gW_at 1512 (by decide +kernel) rfl, gW_at 1513 (by decide +kernel) rfl⟩
theorem law_mixed {i : Nat} {h : gH} (X : lX p s m meth c w b L xs) (h6 : i + 6 ≤ L) (I : Inv h) (kk : ∀ h2, Inv h2 → lJ p l e s m below meth c w b 1015 i [] h2) : lJ p l e s m below meth c w b 522 i [] h := by
  obtain ⟨r, q, e1, e2, e3, I2⟩ := go_mixed (xs (i + 1)) (xs (i + 2)) I
  refine L_x X (gxd kL14 0 rfl) ?_
  refine L_arg 1 X (gxd kL14 1 rfl) (gxd kL14 2 rfl) (gxd kL14 3 rfl) (gxd kL14 4 rfl) (gxd kL14 5 rfl) (by decide) (by omega) ?_
  refine L_arg 2 X (gxd kL14 6 rfl) (gxd kL14 7 rfl) (gxd kL14 8 rfl) (gxd kL14 9 rfl) (gxd kL14 10 rfl) (by decide) (by omega) ?_
  refine L_call (as := [.int (xs (i + 1)), .int (xs (i + 2))]) (rest := []) (r1 := some (.int r.1)) (h1 := r.2) X (gxd kL14 11 rfl) vLX6_mixed vWX6_mixed (by decide) gk_0 rfl rfl (by decide) (by decide) (fX_mixed_ok e1 0) ?_
  refine L_m X (gxd kL14 12 rfl) ?_
  refine L_arg 1 X (gxd kL14 13 rfl) (gxd kL14 14 rfl) (gxd kL14 15 rfl) (gxd kL14 16 rfl) (gxd kL14 17 rfl) (by decide) (by omega) ?_
  refine L_arg 2 X (gxd kL14 18 rfl) (gxd kL14 19 rfl) (gxd kL14 20 rfl) (gxd kL14 21 rfl) (gxd kL14 22 rfl) (by decide) (by omega) ?_
  refine L_call (as := [.int (xs (i + 1)), .int (xs (i + 2))]) (rest := [.int r.1]) (r1 := some (.int q.1)) (h1 := q.2) X (gxd kL14 23 rfl) vLX7_mixed vWX7_mixed (by decide) gk_65 rfl rfl (Nat.le_of_ble_eq_true rfl) (by decide) (fM_mixed_ok e2 0) ?_
  exact L_eq X (gxd kL14 24 rfl) rfl e3 (kk q.2 I2)
theorem vLX6_search : gLV R_law 77 yX6_search 4 := ⟨⟨Or.inl (gW_at 874 (by decide +kernel) rfl), gW_at 126 (by decide +kernel) rfl, by decide +kernel⟩, gW_at 875 (by decide +kernel) rfl, gW_at 876 (by decide +kernel) rfl⟩
theorem vLX7_search : gLV R_law 80 yX7_search 4 := ⟨⟨Or.inl (gW_at 1528 (by decide +kernel) rfl), gW_at 133 (by decide +kernel) rfl, by decide +kernel⟩, gW_at 1529 (by decide +kernel) rfl, gW_at 1530 (by decide +kernel) rfl⟩
theorem law_search {i : Nat} {h : gH} (X : lX p s m meth c w b L xs) (h6 : i + 6 ≤ L) (I : Inv h) (kk : ∀ h2, Inv h2 → lJ p l e s m below meth c w b 1015 i [] h2) : lJ p l e s m below meth c w b 555 i [] h := by
  obtain ⟨r, q, e1, e2, e3, I2⟩ := go_search (xs (i + 1)) (xs (i + 2)) (xs (i + 3)) (xs (i + 4)) I
  refine L_x X (gxd kL15 0 rfl) ?_
  refine L_arg 1 X (gxd kL15 1 rfl) (gxd kL15 2 rfl) (gxd kL15 3 rfl) (gxd kL15 4 rfl) (gxd kL15 5 rfl) (by decide) (by omega) ?_
  refine L_arg 2 X (gxd kL15 6 rfl) (gxd kL15 7 rfl) (gxd kL15 8 rfl) (gxd kL15 9 rfl) (gxd kL15 10 rfl) (by decide) (by omega) ?_
  refine L_arg 3 X (gxd kL15 11 rfl) (gxd kL15 12 rfl) (gxd kL15 13 rfl) (gxd kL15 14 rfl) (gxd kL15 15 rfl) (by decide) (by omega) ?_
  refine L_arg 4 X (gxd kL15 16 rfl) (gxd kL15 17 rfl) (gxd kL15 18 rfl) (gxd kL15 19 rfl) (gxd kL15 20 rfl) (by decide) (by omega) ?_
  refine L_call (as := [.int (xs (i + 1)), .int (xs (i + 2)), .int (xs (i + 3)), .int (xs (i + 4))]) (rest := []) (r1 := some (.int r.1)) (h1 := r.2) X (gxd kL15 21 rfl) vLX6_search vWX6_search (by decide) gk_0 rfl rfl (by decide) (by decide) (fX_search_ok e1 0) ?_
  refine L_m X (gxd kL15 22 rfl) ?_
  refine L_arg 1 X (gxd kL15 23 rfl) (gxd kL15 24 rfl) (gxd kL15 25 rfl) (gxd kL15 26 rfl) (gxd kL15 27 rfl) (by decide) (by omega) ?_
  refine L_arg 2 X (gxd kL15 28 rfl) (gxd kL15 29 rfl) (gxd kL15 30 rfl) (gxd kL15 31 rfl) (gxd kL15 32 rfl) (by decide) (by omega) ?_
  refine L_arg 3 X (gxd kL15 33 rfl) (gxd kL15 34 rfl) (gxd kL15 35 rfl) (gxd kL15 36 rfl) (gxd kL15 37 rfl) (by decide) (by omega) ?_
  refine L_arg 4 X (gxd kL15 38 rfl) (gxd kL15 39 rfl) (gxd kL15 40 rfl) (gxd kL15 41 rfl) (gxd kL15 42 rfl) (by decide) (by omega) ?_
  refine L_call (as := [.int (xs (i + 1)), .int (xs (i + 2)), .int (xs (i + 3)), .int (xs (i + 4))]) (rest := [.int r.1]) (r1 := some (.int q.1)) (h1 := q.2) X (gxd kL15 43 rfl) vLX7_search vWX7_search (by decide) gk_65 rfl rfl (Nat.le_of_ble_eq_true rfl) (by decide) (fM_search_ok e2 0) ?_
  exact L_eq X (gxd kL15 44 rfl) rfl e3 (kk q.2 I2)
theorem vLX6_solutions : gLV R_law 81 yX6_solutions 0 := ⟨⟨Or.inl (gW_at 957 (by decide +kernel) rfl), gW_at 126 (by decide +kernel) rfl, by decide +kernel⟩, gW_at 958 (by decide +kernel) rfl, gW_at 959 (by decide +kernel) rfl⟩
theorem vLX7_solutions : gLV R_law 85 yX7_solutions 0 := ⟨⟨Or.inl (gW_at 1576 (by decide +kernel) rfl), gW_at 133 (by decide +kernel) rfl, by decide +kernel⟩, gW_at 1577 (by decide +kernel) rfl, gW_at 1578 (by decide +kernel) rfl⟩
theorem law_solutions {i : Nat} {h : gH} (X : lX p s m meth c w b L xs) (h6 : i + 6 ≤ L) (I : Inv h) (kk : ∀ h2, Inv h2 → lJ p l e s m below meth c w b 1015 i [] h2) : lJ p l e s m below meth c w b 608 i [] h := by
  obtain ⟨r, q, e1, e2, e3, I2⟩ := go_solutions I
  refine L_x X (gxd kL16 0 rfl) ?_
  refine L_call (as := []) (rest := []) (r1 := some (.long r.1)) (h1 := r.2) X (gxd kL16 1 rfl) vLX6_solutions vWX6_solutions (by decide) gk_0 rfl rfl (by decide) (by decide) (fX_solutions_ok e1 0) ?_
  refine L_m X (gxd kL16 2 rfl) ?_
  refine L_call (as := []) (rest := [.long r.1]) (r1 := some (.long q.1)) (h1 := q.2) X (gxd kL16 3 rfl) vLX7_solutions vWX7_solutions (by decide) gk_65 rfl rfl (Nat.le_of_ble_eq_true rfl) (by decide) (fM_solutions_ok e2 0) ?_
  exact L_leq X (gxd kL16 4 rfl) (gxd kL16 5 rfl) rfl e3 (kk q.2 I2)
theorem vLX6_reach : gLV R_law 86 yX6_reach 2 := ⟨⟨Or.inl (gW_at 962 (by decide +kernel) rfl), gW_at 126 (by decide +kernel) rfl, by decide +kernel⟩, gW_at 963 (by decide +kernel) rfl, gW_at 964 (by decide +kernel) rfl⟩
theorem vLX7_reach : gLV R_law 89 yX7_reach 2 := ⟨⟨Or.inl (gW_at 1581 (by decide +kernel) rfl), gW_at 133 (by decide +kernel) rfl, by decide +kernel⟩, gW_at 1582 (by decide +kernel) rfl, gW_at 1583 (by decide +kernel) rfl⟩
theorem law_reach {i : Nat} {h : gH} (X : lX p s m meth c w b L xs) (h6 : i + 6 ≤ L) (I : Inv h) (kk : ∀ h2, Inv h2 → lJ p l e s m below meth c w b 1015 i [] h2) : lJ p l e s m below meth c w b 622 i [] h := by
  obtain ⟨r, q, e1, e2, e3, I2⟩ := go_reach (xs (i + 1)) (xs (i + 2)) I
  refine L_x X (gxd kL17 0 rfl) ?_
  refine L_arg 1 X (gxd kL17 1 rfl) (gxd kL17 2 rfl) (gxd kL17 3 rfl) (gxd kL17 4 rfl) (gxd kL17 5 rfl) (by decide) (by omega) ?_
  refine L_arg 2 X (gxd kL17 6 rfl) (gxd kL17 7 rfl) (gxd kL17 8 rfl) (gxd kL17 9 rfl) (gxd kL17 10 rfl) (by decide) (by omega) ?_
  refine L_call (as := [.int (xs (i + 1)), .int (xs (i + 2))]) (rest := []) (r1 := some (.int r.1)) (h1 := r.2) X (gxd kL17 11 rfl) vLX6_reach vWX6_reach (by decide) gk_0 rfl rfl (by decide) (by decide) (fX_reach_ok e1 0) ?_
  refine L_m X (gxd kL17 12 rfl) ?_
  refine L_arg 1 X (gxd kL17 13 rfl) (gxd kL17 14 rfl) (gxd kL17 15 rfl) (gxd kL17 16 rfl) (gxd kL17 17 rfl) (by decide) (by omega) ?_
  refine L_arg 2 X (gxd kL17 18 rfl) (gxd kL17 19 rfl) (gxd kL17 20 rfl) (gxd kL17 21 rfl) (gxd kL17 22 rfl) (by decide) (by omega) ?_
  refine L_call (as := [.int (xs (i + 1)), .int (xs (i + 2))]) (rest := [.int r.1]) (r1 := some (.int q.1)) (h1 := q.2) X (gxd kL17 23 rfl) vLX7_reach vWX7_reach (by decide) gk_65 rfl rfl (Nat.le_of_ble_eq_true rfl) (by decide) (fM_reach_ok e2 0) ?_
  exact L_eq X (gxd kL17 24 rfl) rfl e3 (kk q.2 I2)
theorem vLX6_tells : gLV R_law 90 yX6_tells 2 := ⟨⟨Or.inl (gW_at 966 (by decide +kernel) rfl), gW_at 126 (by decide +kernel) rfl, by decide +kernel⟩, gW_at 967 (by decide +kernel) rfl, gW_at 968 (by decide +kernel) rfl⟩
theorem vLX7_tells : gLV R_law 93 yX7_tells 2 := ⟨⟨Or.inl (gW_at 1585 (by decide +kernel) rfl), gW_at 133 (by decide +kernel) rfl, by decide +kernel⟩, gW_at 1586 (by decide +kernel) rfl, gW_at 1587 (by decide +kernel) rfl⟩
theorem law_tells {i : Nat} {h : gH} (X : lX p s m meth c w b L xs) (h6 : i + 6 ≤ L) (I : Inv h) (kk : ∀ h2, Inv h2 → lJ p l e s m below meth c w b 1015 i [] h2) : lJ p l e s m below meth c w b 655 i [] h := by
  obtain ⟨r, q, e1, e2, e3, I2⟩ := go_tells (xs (i + 1)) (xs (i + 2)) I
  refine L_x X (gxd kL18 0 rfl) ?_
  refine L_arg 1 X (gxd kL18 1 rfl) (gxd kL18 2 rfl) (gxd kL18 3 rfl) (gxd kL18 4 rfl) (gxd kL18 5 rfl) (by decide) (by omega) ?_
  refine L_arg 2 X (gxd kL18 6 rfl) (gxd kL18 7 rfl) (gxd kL18 8 rfl) (gxd kL18 9 rfl) (gxd kL18 10 rfl) (by decide) (by omega) ?_
  refine L_call (as := [.int (xs (i + 1)), .int (xs (i + 2))]) (rest := []) (r1 := some (.int r.1)) (h1 := r.2) X (gxd kL18 11 rfl) vLX6_tells vWX6_tells (by decide) gk_0 rfl rfl (by decide) (by decide) (fX_tells_ok e1 0) ?_
  refine L_m X (gxd kL18 12 rfl) ?_
  refine L_arg 1 X (gxd kL18 13 rfl) (gxd kL18 14 rfl) (gxd kL18 15 rfl) (gxd kL18 16 rfl) (gxd kL18 17 rfl) (by decide) (by omega) ?_
  refine L_arg 2 X (gxd kL18 18 rfl) (gxd kL18 19 rfl) (gxd kL18 20 rfl) (gxd kL18 21 rfl) (gxd kL18 22 rfl) (by decide) (by omega) ?_
  refine L_call (as := [.int (xs (i + 1)), .int (xs (i + 2))]) (rest := [.int r.1]) (r1 := some (.int q.1)) (h1 := q.2) X (gxd kL18 23 rfl) vLX7_tells vWX7_tells (by decide) gk_65 rfl rfl (Nat.le_of_ble_eq_true rfl) (by decide) (fM_tells_ok e2 0) ?_
  exact L_eq X (gxd kL18 24 rfl) rfl e3 (kk q.2 I2)
theorem vLX6_film : gLV R_law 94 yX6_film 3 := ⟨⟨Or.inl (gW_at 998 (by decide +kernel) rfl), gW_at 126 (by decide +kernel) rfl, by decide +kernel⟩, gW_at 999 (by decide +kernel) rfl, gW_at 1000 (by decide +kernel) rfl⟩
theorem vLX7_film : gLV R_law 98 yX7_film 3 := ⟨⟨Or.inl (gW_at 1600 (by decide +kernel) rfl), gW_at 133 (by decide +kernel) rfl, by decide +kernel⟩, gW_at 1601 (by decide +kernel) rfl, gW_at 1602 (by decide +kernel) rfl⟩
theorem law_film {i : Nat} {h : gH} (X : lX p s m meth c w b L xs) (h6 : i + 6 ≤ L) (I : Inv h) (kk : ∀ h2, Inv h2 → lJ p l e s m below meth c w b 1015 i [] h2) : lJ p l e s m below meth c w b 688 i [] h := by
  obtain ⟨r, q, e1, e2, e3, I2⟩ := go_film (xs (i + 1)) (xs (i + 2)) (xs (i + 3)) I
  refine L_x X (gxd kL19 0 rfl) ?_
  refine L_arg 1 X (gxd kL19 1 rfl) (gxd kL19 2 rfl) (gxd kL19 3 rfl) (gxd kL19 4 rfl) (gxd kL19 5 rfl) (by decide) (by omega) ?_
  refine L_arg 2 X (gxd kL19 6 rfl) (gxd kL19 7 rfl) (gxd kL19 8 rfl) (gxd kL19 9 rfl) (gxd kL19 10 rfl) (by decide) (by omega) ?_
  refine L_arg 3 X (gxd kL19 11 rfl) (gxd kL19 12 rfl) (gxd kL19 13 rfl) (gxd kL19 14 rfl) (gxd kL19 15 rfl) (by decide) (by omega) ?_
  refine L_call (as := [.int (xs (i + 1)), .int (xs (i + 2)), .int (xs (i + 3))]) (rest := []) (r1 := some (.int r.1)) (h1 := r.2) X (gxd kL19 16 rfl) vLX6_film vWX6_film (by decide) gk_0 rfl rfl (by decide) (by decide) (fX_film_ok e1 0) ?_
  refine L_m X (gxd kL19 17 rfl) ?_
  refine L_arg 1 X (gxd kL19 18 rfl) (gxd kL19 19 rfl) (gxd kL19 20 rfl) (gxd kL19 21 rfl) (gxd kL19 22 rfl) (by decide) (by omega) ?_
  refine L_arg 2 X (gxd kL19 23 rfl) (gxd kL19 24 rfl) (gxd kL19 25 rfl) (gxd kL19 26 rfl) (gxd kL19 27 rfl) (by decide) (by omega) ?_
  refine L_arg 3 X (gxd kL19 28 rfl) (gxd kL19 29 rfl) (gxd kL19 30 rfl) (gxd kL19 31 rfl) (gxd kL19 32 rfl) (by decide) (by omega) ?_
  refine L_call (as := [.int (xs (i + 1)), .int (xs (i + 2)), .int (xs (i + 3))]) (rest := [.int r.1]) (r1 := some (.int q.1)) (h1 := q.2) X (gxd kL19 33 rfl) vLX7_film vWX7_film (by decide) gk_65 rfl rfl (Nat.le_of_ble_eq_true rfl) (by decide) (fM_film_ok e2 0) ?_
  exact L_eq X (gxd kL19 34 rfl) rfl e3 (kk q.2 I2)
theorem vLX6_image : gLV R_law 99 yX6_image 0 := ⟨⟨Or.inl (gW_at 1006 (by decide +kernel) rfl), gW_at 126 (by decide +kernel) rfl, by decide +kernel⟩, gW_at 1007 (by decide +kernel) rfl, gW_at 1008 (by decide +kernel) rfl⟩
theorem vLX7_image : gLV R_law 102 yX7_image 0 := ⟨⟨Or.inl (gW_at 1608 (by decide +kernel) rfl), gW_at 133 (by decide +kernel) rfl, by decide +kernel⟩, gW_at 1609 (by decide +kernel) rfl, gW_at 1610 (by decide +kernel) rfl⟩
theorem law_image {i : Nat} {h : gH} (X : lX p s m meth c w b L xs) (h6 : i + 6 ≤ L) (I : Inv h) (kk : ∀ h2, Inv h2 → lJ p l e s m below meth c w b 1015 i [] h2) : lJ p l e s m below meth c w b 731 i [] h := by
  obtain ⟨r, q, e1, e2, e3, I2⟩ := go_image I
  refine L_x X (gxd kL20 0 rfl) ?_
  refine L_call (as := []) (rest := []) (r1 := some (.int r.1)) (h1 := r.2) X (gxd kL20 1 rfl) vLX6_image vWX6_image (by decide) gk_0 rfl rfl (by decide) (by decide) (fX_image_ok e1 0) ?_
  refine L_m X (gxd kL20 2 rfl) ?_
  refine L_call (as := []) (rest := [.int r.1]) (r1 := some (.int q.1)) (h1 := q.2) X (gxd kL20 3 rfl) vLX7_image vWX7_image (by decide) gk_65 rfl rfl (Nat.le_of_ble_eq_true rfl) (by decide) (fM_image_ok e2 0) ?_
  exact L_eq X (gxd kL20 4 rfl) rfl e3 (kk q.2 I2)
theorem vLX6_back : gLV R_law 103 yX6_back 0 := ⟨⟨Or.inl (gW_at 1015 (by decide +kernel) rfl), gW_at 126 (by decide +kernel) rfl, by decide +kernel⟩, gW_at 1016 (by decide +kernel) rfl, gW_at 1017 (by decide +kernel) rfl⟩
theorem vLX7_back : gLV R_law 106 yX7_back 0 := ⟨⟨Or.inl (gW_at 1612 (by decide +kernel) rfl), gW_at 133 (by decide +kernel) rfl, by decide +kernel⟩, gW_at 1613 (by decide +kernel) rfl, gW_at 1614 (by decide +kernel) rfl⟩
theorem law_back {i : Nat} {h : gH} (X : lX p s m meth c w b L xs) (h6 : i + 6 ≤ L) (I : Inv h) (kk : ∀ h2, Inv h2 → lJ p l e s m below meth c w b 1015 i [] h2) : lJ p l e s m below meth c w b 744 i [] h := by
  obtain ⟨r, q, e1, e2, e3, I2⟩ := go_back I
  refine L_x X (gxd kL21 0 rfl) ?_
  refine L_call (as := []) (rest := []) (r1 := some (.int r.1)) (h1 := r.2) X (gxd kL21 1 rfl) vLX6_back vWX6_back (by decide) gk_0 rfl rfl (by decide) (by decide) (fX_back_ok e1 0) ?_
  refine L_m X (gxd kL21 2 rfl) ?_
  refine L_call (as := []) (rest := [.int r.1]) (r1 := some (.int q.1)) (h1 := q.2) X (gxd kL21 3 rfl) vLX7_back vWX7_back (by decide) gk_65 rfl rfl (Nat.le_of_ble_eq_true rfl) (by decide) (fM_back_ok e2 0) ?_
  exact L_eq X (gxd kL21 4 rfl) rfl e3 (kk q.2 I2)
theorem vLX6_count : gLV R_law 107 yX6_count 1 := ⟨⟨Or.inl (gW_at 1019 (by decide +kernel) rfl), gW_at 126 (by decide +kernel) rfl, by decide +kernel⟩, gW_at 1020 (by decide +kernel) rfl, gW_at 1021 (by decide +kernel) rfl⟩
theorem vLX7_count : gLV R_law 110 yX7_count 1 := ⟨⟨Or.inl (gW_at 1616 (by decide +kernel) rfl), gW_at 133 (by decide +kernel) rfl, by decide +kernel⟩, gW_at 1617 (by decide +kernel) rfl, gW_at 1618 (by decide +kernel) rfl⟩
theorem law_count {i : Nat} {h : gH} (X : lX p s m meth c w b L xs) (h6 : i + 6 ≤ L) (I : Inv h) (kk : ∀ h2, Inv h2 → lJ p l e s m below meth c w b 1015 i [] h2) : lJ p l e s m below meth c w b 757 i [] h := by
  obtain ⟨r, q, e1, e2, e3, I2⟩ := go_count (xs (i + 1)) I
  refine L_x X (gxd kL22 0 rfl) ?_
  refine L_arg 1 X (gxd kL22 1 rfl) (gxd kL22 2 rfl) (gxd kL22 3 rfl) (gxd kL22 4 rfl) (gxd kL22 5 rfl) (by decide) (by omega) ?_
  refine L_call (as := [.int (xs (i + 1))]) (rest := []) (r1 := some (.int r.1)) (h1 := r.2) X (gxd kL22 6 rfl) vLX6_count vWX6_count (by decide) gk_0 rfl rfl (by decide) (by decide) (fX_count_ok e1 0) ?_
  refine L_m X (gxd kL22 7 rfl) ?_
  refine L_arg 1 X (gxd kL22 8 rfl) (gxd kL22 9 rfl) (gxd kL22 10 rfl) (gxd kL22 11 rfl) (gxd kL22 12 rfl) (by decide) (by omega) ?_
  refine L_call (as := [.int (xs (i + 1))]) (rest := [.int r.1]) (r1 := some (.int q.1)) (h1 := q.2) X (gxd kL22 13 rfl) vLX7_count vWX7_count (by decide) gk_65 rfl rfl (Nat.le_of_ble_eq_true rfl) (by decide) (fM_count_ok e2 0) ?_
  exact L_eq X (gxd kL22 14 rfl) rfl e3 (kk q.2 I2)
theorem vLX6_sheet : gLV R_law 111 yX6_sheet 3 := ⟨⟨Or.inl (gW_at 1025 (by decide +kernel) rfl), gW_at 126 (by decide +kernel) rfl, by decide +kernel⟩, gW_at 1026 (by decide +kernel) rfl, gW_at 1027 (by decide +kernel) rfl⟩
theorem vLX7_sheet : gLV R_law 114 yX7_sheet 3 := ⟨⟨Or.inl (gW_at 1621 (by decide +kernel) rfl), gW_at 133 (by decide +kernel) rfl, by decide +kernel⟩, gW_at 1605 (by decide +kernel) rfl, gW_at 1606 (by decide +kernel) rfl⟩
theorem law_sheet {i : Nat} {h : gH} (X : lX p s m meth c w b L xs) (h6 : i + 6 ≤ L) (I : Inv h) (kk : ∀ h2, Inv h2 → lJ p l e s m below meth c w b 1015 i [] h2) : lJ p l e s m below meth c w b 780 i [] h := by
  obtain ⟨r, q, e1, e2, e3, I2⟩ := go_sheet (xs (i + 1)) (xs (i + 2)) (xs (i + 3)) I
  refine L_x X (gxd kL23 0 rfl) ?_
  refine L_arg 1 X (gxd kL23 1 rfl) (gxd kL23 2 rfl) (gxd kL23 3 rfl) (gxd kL23 4 rfl) (gxd kL23 5 rfl) (by decide) (by omega) ?_
  refine L_arg 2 X (gxd kL23 6 rfl) (gxd kL23 7 rfl) (gxd kL23 8 rfl) (gxd kL23 9 rfl) (gxd kL23 10 rfl) (by decide) (by omega) ?_
  refine L_arg 3 X (gxd kL23 11 rfl) (gxd kL23 12 rfl) (gxd kL23 13 rfl) (gxd kL23 14 rfl) (gxd kL23 15 rfl) (by decide) (by omega) ?_
  refine L_call (as := [.int (xs (i + 1)), .int (xs (i + 2)), .int (xs (i + 3))]) (rest := []) (r1 := some (.int r.1)) (h1 := r.2) X (gxd kL23 16 rfl) vLX6_sheet vWX6_sheet (by decide) gk_0 rfl rfl (by decide) (by decide) (fX_sheet_ok e1 0) ?_
  refine L_m X (gxd kL23 17 rfl) ?_
  refine L_arg 1 X (gxd kL23 18 rfl) (gxd kL23 19 rfl) (gxd kL23 20 rfl) (gxd kL23 21 rfl) (gxd kL23 22 rfl) (by decide) (by omega) ?_
  refine L_arg 2 X (gxd kL23 23 rfl) (gxd kL23 24 rfl) (gxd kL23 25 rfl) (gxd kL23 26 rfl) (gxd kL23 27 rfl) (by decide) (by omega) ?_
  refine L_arg 3 X (gxd kL23 28 rfl) (gxd kL23 29 rfl) (gxd kL23 30 rfl) (gxd kL23 31 rfl) (gxd kL23 32 rfl) (by decide) (by omega) ?_
  refine L_call (as := [.int (xs (i + 1)), .int (xs (i + 2)), .int (xs (i + 3))]) (rest := [.int r.1]) (r1 := some (.int q.1)) (h1 := q.2) X (gxd kL23 33 rfl) vLX7_sheet vWX7_sheet (by decide) gk_65 rfl rfl (Nat.le_of_ble_eq_true rfl) (by decide) (fM_sheet_ok e2 0) ?_
  exact L_eq X (gxd kL23 34 rfl) rfl e3 (kk q.2 I2)
theorem vLX6_put : gLV R_law 115 yX6_put 3 := ⟨⟨Or.inl (gW_at 1029 (by decide +kernel) rfl), gW_at 126 (by decide +kernel) rfl, by decide +kernel⟩, gW_at 1030 (by decide +kernel) rfl, gW_at 1031 (by decide +kernel) rfl⟩
theorem vLX7_put : gLV R_law 118 yX7_put 3 := ⟨⟨Or.inl (gW_at 1622 (by decide +kernel) rfl), gW_at 133 (by decide +kernel) rfl, by decide +kernel⟩, gW_at 1623 (by decide +kernel) rfl, gW_at 1624 (by decide +kernel) rfl⟩
theorem law_put {i : Nat} {h : gH} (X : lX p s m meth c w b L xs) (h6 : i + 6 ≤ L) (I : Inv h) (kk : ∀ h2, Inv h2 → lJ p l e s m below meth c w b 1015 i [] h2) : lJ p l e s m below meth c w b 823 i [] h := by
  obtain ⟨r, q, e1, e2, e3, I2⟩ := go_put (xs (i + 1)) (xs (i + 2)) (xs (i + 3)) I
  refine L_x X (gxd kL24 0 rfl) ?_
  refine L_arg 1 X (gxd kL24 1 rfl) (gxd kL24 2 rfl) (gxd kL24 3 rfl) (gxd kL24 4 rfl) (gxd kL24 5 rfl) (by decide) (by omega) ?_
  refine L_arg 2 X (gxd kL24 6 rfl) (gxd kL24 7 rfl) (gxd kL24 8 rfl) (gxd kL24 9 rfl) (gxd kL24 10 rfl) (by decide) (by omega) ?_
  refine L_arg 3 X (gxd kL24 11 rfl) (gxd kL24 12 rfl) (gxd kL24 13 rfl) (gxd kL24 14 rfl) (gxd kL24 15 rfl) (by decide) (by omega) ?_
  refine L_call (as := [.int (xs (i + 1)), .int (xs (i + 2)), .int (xs (i + 3))]) (rest := []) (r1 := some (.int r.1)) (h1 := r.2) X (gxd kL24 16 rfl) vLX6_put vWX6_put (by decide) gk_0 rfl rfl (by decide) (by decide) (fX_put_ok e1 0) ?_
  refine L_m X (gxd kL24 17 rfl) ?_
  refine L_arg 1 X (gxd kL24 18 rfl) (gxd kL24 19 rfl) (gxd kL24 20 rfl) (gxd kL24 21 rfl) (gxd kL24 22 rfl) (by decide) (by omega) ?_
  refine L_arg 2 X (gxd kL24 23 rfl) (gxd kL24 24 rfl) (gxd kL24 25 rfl) (gxd kL24 26 rfl) (gxd kL24 27 rfl) (by decide) (by omega) ?_
  refine L_arg 3 X (gxd kL24 28 rfl) (gxd kL24 29 rfl) (gxd kL24 30 rfl) (gxd kL24 31 rfl) (gxd kL24 32 rfl) (by decide) (by omega) ?_
  refine L_call (as := [.int (xs (i + 1)), .int (xs (i + 2)), .int (xs (i + 3))]) (rest := [.int r.1]) (r1 := some (.int q.1)) (h1 := q.2) X (gxd kL24 33 rfl) vLX7_put vWX7_put (by decide) gk_65 rfl rfl (Nat.le_of_ble_eq_true rfl) (by decide) (fM_put_ok e2 0) ?_
  exact L_eq X (gxd kL24 34 rfl) rfl e3 (kk q.2 I2)
theorem vLX6_item : gLV R_law 119 yX6_item 2 := ⟨⟨Or.inl (gW_at 1041 (by decide +kernel) rfl), gW_at 126 (by decide +kernel) rfl, by decide +kernel⟩, gW_at 1042 (by decide +kernel) rfl, gW_at 1043 (by decide +kernel) rfl⟩
theorem vLX7_item : gLV R_law 122 yX7_item 2 := ⟨⟨Or.inl (gW_at 1626 (by decide +kernel) rfl), gW_at 133 (by decide +kernel) rfl, by decide +kernel⟩, gW_at 1627 (by decide +kernel) rfl, gW_at 1628 (by decide +kernel) rfl⟩
theorem law_item {i : Nat} {h : gH} (X : lX p s m meth c w b L xs) (h6 : i + 6 ≤ L) (I : Inv h) (kk : ∀ h2, Inv h2 → lJ p l e s m below meth c w b 1015 i [] h2) : lJ p l e s m below meth c w b 866 i [] h := by
  obtain ⟨r, q, e1, e2, e3, I2⟩ := go_item (xs (i + 1)) (xs (i + 2)) I
  refine L_x X (gxd kL25 0 rfl) ?_
  refine L_arg 1 X (gxd kL25 1 rfl) (gxd kL25 2 rfl) (gxd kL25 3 rfl) (gxd kL25 4 rfl) (gxd kL25 5 rfl) (by decide) (by omega) ?_
  refine L_arg 2 X (gxd kL25 6 rfl) (gxd kL25 7 rfl) (gxd kL25 8 rfl) (gxd kL25 9 rfl) (gxd kL25 10 rfl) (by decide) (by omega) ?_
  refine L_call (as := [.int (xs (i + 1)), .int (xs (i + 2))]) (rest := []) (r1 := some (.int r.1)) (h1 := r.2) X (gxd kL25 11 rfl) vLX6_item vWX6_item (by decide) gk_0 rfl rfl (by decide) (by decide) (fX_item_ok e1 0) ?_
  refine L_m X (gxd kL25 12 rfl) ?_
  refine L_arg 1 X (gxd kL25 13 rfl) (gxd kL25 14 rfl) (gxd kL25 15 rfl) (gxd kL25 16 rfl) (gxd kL25 17 rfl) (by decide) (by omega) ?_
  refine L_arg 2 X (gxd kL25 18 rfl) (gxd kL25 19 rfl) (gxd kL25 20 rfl) (gxd kL25 21 rfl) (gxd kL25 22 rfl) (by decide) (by omega) ?_
  refine L_call (as := [.int (xs (i + 1)), .int (xs (i + 2))]) (rest := [.int r.1]) (r1 := some (.int q.1)) (h1 := q.2) X (gxd kL25 23 rfl) vLX7_item vWX7_item (by decide) gk_65 rfl rfl (Nat.le_of_ble_eq_true rfl) (by decide) (fM_item_ok e2 0) ?_
  exact L_eq X (gxd kL25 24 rfl) rfl e3 (kk q.2 I2)
theorem vLX6_copy : gLV R_law 123 yX6_copy 5 := ⟨⟨Or.inl (gW_at 1046 (by decide +kernel) rfl), gW_at 126 (by decide +kernel) rfl, by decide +kernel⟩, gW_at 1047 (by decide +kernel) rfl, gW_at 1048 (by decide +kernel) rfl⟩
theorem vLX7_copy : gLV R_law 127 yX7_copy 5 := ⟨⟨Or.inl (gW_at 1631 (by decide +kernel) rfl), gW_at 133 (by decide +kernel) rfl, by decide +kernel⟩, gW_at 1632 (by decide +kernel) rfl, gW_at 1633 (by decide +kernel) rfl⟩
theorem law_copy {i : Nat} {h : gH} (X : lX p s m meth c w b L xs) (h6 : i + 6 ≤ L) (I : Inv h) (kk : ∀ h2, Inv h2 → lJ p l e s m below meth c w b 1015 i [] h2) : lJ p l e s m below meth c w b 899 i [] h := by
  obtain ⟨r, q, e1, e2, e3, I2⟩ := go_copy (xs (i + 1)) (xs (i + 2)) (xs (i + 3)) (xs (i + 4)) (xs (i + 5)) I
  refine L_x X (gxd kL26 0 rfl) ?_
  refine L_arg 1 X (gxd kL26 1 rfl) (gxd kL26 2 rfl) (gxd kL26 3 rfl) (gxd kL26 4 rfl) (gxd kL26 5 rfl) (by decide) (by omega) ?_
  refine L_arg 2 X (gxd kL26 6 rfl) (gxd kL26 7 rfl) (gxd kL26 8 rfl) (gxd kL26 9 rfl) (gxd kL26 10 rfl) (by decide) (by omega) ?_
  refine L_arg 3 X (gxd kL26 11 rfl) (gxd kL26 12 rfl) (gxd kL26 13 rfl) (gxd kL26 14 rfl) (gxd kL26 15 rfl) (by decide) (by omega) ?_
  refine L_arg 4 X (gxd kL26 16 rfl) (gxd kL26 17 rfl) (gxd kL26 18 rfl) (gxd kL26 19 rfl) (gxd kL26 20 rfl) (by decide) (by omega) ?_
  refine L_arg 5 X (gxd kL26 21 rfl) (gxd kL26 22 rfl) (gxd kL26 23 rfl) (gxd kL26 24 rfl) (gxd kL26 25 rfl) (by decide) (by omega) ?_
  refine L_call (as := [.int (xs (i + 1)), .int (xs (i + 2)), .int (xs (i + 3)), .int (xs (i + 4)), .int (xs (i + 5))]) (rest := []) (r1 := some (.int r.1)) (h1 := r.2) X (gxd kL26 26 rfl) vLX6_copy vWX6_copy (by decide) gk_0 rfl rfl (by decide) (by decide) (fX_copy_ok e1 0) ?_
  refine L_m X (gxd kL26 27 rfl) ?_
  refine L_arg 1 X (gxd kL26 28 rfl) (gxd kL26 29 rfl) (gxd kL26 30 rfl) (gxd kL26 31 rfl) (gxd kL26 32 rfl) (by decide) (by omega) ?_
  refine L_arg 2 X (gxd kL26 33 rfl) (gxd kL26 34 rfl) (gxd kL26 35 rfl) (gxd kL26 36 rfl) (gxd kL26 37 rfl) (by decide) (by omega) ?_
  refine L_arg 3 X (gxd kL26 38 rfl) (gxd kL26 39 rfl) (gxd kL26 40 rfl) (gxd kL26 41 rfl) (gxd kL26 42 rfl) (by decide) (by omega) ?_
  refine L_arg 4 X (gxd kL26 43 rfl) (gxd kL26 44 rfl) (gxd kL26 45 rfl) (gxd kL26 46 rfl) (gxd kL26 47 rfl) (by decide) (by omega) ?_
  refine L_arg 5 X (gxd kL26 48 rfl) (gxd kL26 49 rfl) (gxd kL26 50 rfl) (gxd kL26 51 rfl) (gxd kL26 52 rfl) (by decide) (by omega) ?_
  refine L_call (as := [.int (xs (i + 1)), .int (xs (i + 2)), .int (xs (i + 3)), .int (xs (i + 4)), .int (xs (i + 5))]) (rest := [.int r.1]) (r1 := some (.int q.1)) (h1 := q.2) X (gxd kL26 53 rfl) vLX7_copy vWX7_copy (by decide) gk_65 rfl rfl (Nat.le_of_ble_eq_true rfl) (by decide) (fM_copy_ok e2 0) ?_
  exact L_eq X (gxd kL26 54 rfl) rfl e3 (kk q.2 I2)
theorem vLX6_load : gLV R_law 128 yX6_load 4 := ⟨⟨Or.inl (gW_at 1055 (by decide +kernel) rfl), gW_at 126 (by decide +kernel) rfl, by decide +kernel⟩, gW_at 1056 (by decide +kernel) rfl, gW_at 1057 (by decide +kernel) rfl⟩
theorem vLX7_load : gLV R_law 131 yX7_load 4 := ⟨⟨Or.inl (gW_at 1635 (by decide +kernel) rfl), gW_at 133 (by decide +kernel) rfl, by decide +kernel⟩, gW_at 1636 (by decide +kernel) rfl, gW_at 1637 (by decide +kernel) rfl⟩
theorem law_load {i : Nat} {h : gH} (X : lX p s m meth c w b L xs) (h6 : i + 6 ≤ L) (I : Inv h) (kk : ∀ h2, Inv h2 → lJ p l e s m below meth c w b 1015 i [] h2) : lJ p l e s m below meth c w b 962 i [] h := by
  obtain ⟨r, q, e1, e2, e3, I2⟩ := go_load (xs (i + 1)) (xs (i + 2)) (xs (i + 3)) (xs (i + 4)) I
  refine L_x X (gxd kL27 0 rfl) ?_
  refine L_arg 1 X (gxd kL27 1 rfl) (gxd kL27 2 rfl) (gxd kL27 3 rfl) (gxd kL27 4 rfl) (gxd kL27 5 rfl) (by decide) (by omega) ?_
  refine L_arg 2 X (gxd kL27 6 rfl) (gxd kL27 7 rfl) (gxd kL27 8 rfl) (gxd kL27 9 rfl) (gxd kL27 10 rfl) (by decide) (by omega) ?_
  refine L_arg 3 X (gxd kL27 11 rfl) (gxd kL27 12 rfl) (gxd kL27 13 rfl) (gxd kL27 14 rfl) (gxd kL27 15 rfl) (by decide) (by omega) ?_
  refine L_arg 4 X (gxd kL27 16 rfl) (gxd kL27 17 rfl) (gxd kL27 18 rfl) (gxd kL27 19 rfl) (gxd kL27 20 rfl) (by decide) (by omega) ?_
  refine L_call (as := [.int (xs (i + 1)), .int (xs (i + 2)), .int (xs (i + 3)), .int (xs (i + 4))]) (rest := []) (r1 := some (.int r.1)) (h1 := r.2) X (gxd kL27 21 rfl) vLX6_load vWX6_load (by decide) gk_0 rfl rfl (by decide) (by decide) (fX_load_ok e1 0) ?_
  refine L_m X (gxd kL27 22 rfl) ?_
  refine L_arg 1 X (gxd kL27 23 rfl) (gxd kL27 24 rfl) (gxd kL27 25 rfl) (gxd kL27 26 rfl) (gxd kL27 27 rfl) (by decide) (by omega) ?_
  refine L_arg 2 X (gxd kL27 28 rfl) (gxd kL27 29 rfl) (gxd kL27 30 rfl) (gxd kL27 31 rfl) (gxd kL27 32 rfl) (by decide) (by omega) ?_
  refine L_arg 3 X (gxd kL27 33 rfl) (gxd kL27 34 rfl) (gxd kL27 35 rfl) (gxd kL27 36 rfl) (gxd kL27 37 rfl) (by decide) (by omega) ?_
  refine L_arg 4 X (gxd kL27 38 rfl) (gxd kL27 39 rfl) (gxd kL27 40 rfl) (gxd kL27 41 rfl) (gxd kL27 42 rfl) (by decide) (by omega) ?_
  refine L_call (as := [.int (xs (i + 1)), .int (xs (i + 2)), .int (xs (i + 3)), .int (xs (i + 4))]) (rest := [.int r.1]) (r1 := some (.int q.1)) (h1 := q.2) X (gxd kL27 43 rfl) vLX7_load vWX7_load (by decide) gk_65 rfl rfl (Nat.le_of_ble_eq_true rfl) (by decide) (fM_load_ok e2 0) ?_
  exact L_eq X (gxd kL27 44 rfl) rfl e3 (kk q.2 I2)
theorem law_loop (X : lX p s m meth c w b L xs) : ∀ (n i : Nat) (h : gH), L < i + 6 * n → i ≤ L → Inv h → lJ p l e s m below meth c w b 18 i [] h := by
  intro n
  induction n with
  | zero => intro i h h1 h2; omega
  | succ n ih =>
    intro i h h1 h2 I
    refine L_head X h2 (fun k hk h6 => ?_)
    have nx : ∀ h2, Inv h2 → lJ p l e s m below meth c w b 1015 i [] h2 := fun h2 I2 => L_next X (ih (i + 6) h2 (by omega) h6 I2)
    have e : k = 0 ∨ k = 1 ∨ k = 2 ∨ k = 3 ∨ k = 4 ∨ k = 5 ∨ k = 6 ∨ k = 7 ∨ k = 8 ∨ k = 9 ∨ k = 10 ∨ k = 11 ∨ k = 12 ∨ k = 13 ∨ k = 14 ∨ k = 15 ∨ k = 16 ∨ k = 17 ∨ k = 18 ∨ k = 19 ∨ k = 20 ∨ k = 21 ∨ k = 22 ∨ k = 23 ∨ k = 24 ∨ k = 25 ∨ k = 26 ∨ k = 27 ∨ k = 28 ∨ k = 29 ∨ k = 30 ∨ k = 31 := by omega
    rcases e with e | e | e | e | e | e | e | e | e | e | e | e | e | e | e | e | e | e | e | e | e | e | e | e | e | e | e | e | e | e | e | e <;> subst e
    · exact law_feed X h6 I nx
    · exact law_rule X h6 I nx
    · exact law_told X h6 I nx
    · exact law_holds X h6 I nx
    · exact law_taken X h6 I nx
    · exact law_tell X h6 I nx
    · exact law_step X h6 I nx
    · exact law_run X h6 I nx
    · exact law_level X h6 I nx
    · exact law_undo X h6 I nx
    · exact law_domain X h6 I nx
    · exact law_trail X h6 I nx
    · exact law_decision X h6 I nx
    · exact law_why X h6 I nx
    · exact law_mixed X h6 I nx
    · exact law_search X h6 I nx
    · exact law_solutions X h6 I nx
    · exact law_reach X h6 I nx
    · exact law_tells X h6 I nx
    · exact law_film X h6 I nx
    · exact law_image X h6 I nx
    · exact law_back X h6 I nx
    · exact law_count X h6 I nx
    · exact law_sheet X h6 I nx
    · exact law_put X h6 I nx
    · exact law_item X h6 I nx
    · exact law_copy X h6 I nx
    · exact law_load X h6 I nx
    · exact nx h I
    · exact nx h I
    · exact nx h I
    · exact nx h I
end
